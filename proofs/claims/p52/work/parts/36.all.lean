/-! every instruction of the walk -/
theorem q25_cat {ρ : Nat → Int32} {v : q20_V} {x : Value} {n : Nat} (hg : q20_g ρ v x) (h : Nat.beq (q20_cat v) n = true) : x.category = n := (q21_cat hg).trans (Nat.eq_of_beq_eq_true h)
theorem q25_six {ρ : Nat → Int32} {v : q20_V} {x : Value} (hg : q20_g ρ v x) (h : Nat.beq v.1 6 = true) : ∃ a : Nat, x = .ref a := by
  obtain ⟨t, i, b⟩ := v
  have ht : t = 6 := Nat.eq_of_beq_eq_true h
  subst ht
  exact ⟨_, hg⟩
theorem q25_call {ρ : Nat → Int32} {k y kd ce sl : Nat} {st : List q20_V} {M : q20_M} {E : q20_E} {bs : List q20_B} {stc : List Value} {N : q4_M} (hE : q20_ok ρ E) (h : q20_call k y kd st M E ce sl = some bs) (hS : q21_S ρ st stc) (hR : q21_R ρ M N) :
    ∃ b ∈ bs, q20_ok ρ b.1 ∧ ∃ r, q4_call k y kd stc N ce sl = some r ∧ q23_rel ρ b.2 r := by
  unfold q20_call at h
  dsimp only at h
  generalize hg : (decide (y ≠ 0) && Nat.blt y q2_n && Nat.beq (q2_kd y) kd && Nat.ble (q2_na y) st.length && Nat.ble (q20_cats (st.take (q2_na y)).reverse) (q2_ml y) && Nat.ble (q20_cats (st.drop (q2_na y))) 8 && Nat.ble (q2_fr y + 1) (q2_fr k) && Nat.ble (8 + (q2_ml y + 11) + q2_lo y) (q2_lo k) && Nat.ble (ce + q2_mc y) (q2_mc k) && Nat.ble (sl + q2_ms y) (q2_ms k)) = g at h
  cases g with
  | false => cases h
  | true =>
    rw [cond_true] at h
    simp only [Bool.and_eq_true, decide_eq_true_eq] at hg
    obtain ⟨⟨⟨⟨⟨⟨⟨⟨⟨z1, z2⟩, z3⟩, z4⟩, z5⟩, z6⟩, z7⟩, z8⟩, z9⟩, z10⟩ := hg
    have hA := (hS.take (q2_na y)).rev
    have hB := hS.drop (q2_na y)
    have hC : y ≠ 0 ∧ y < q2_n ∧ q2_kd y = kd ∧ q2_na y ≤ stc.length ∧ (lg_sl (stc.take (q2_na y)).reverse).length ≤ q2_ml y ∧ q4_cat (stc.drop (q2_na y)) ≤ 8 ∧ q2_fr y + 1 ≤ q2_fr k ∧ 8 + (q2_ml y + 11) + q2_lo y ≤ q2_lo k ∧ ce + q2_mc y ≤ q2_mc k ∧ sl + q2_ms y ≤ q2_ms k :=
      ⟨z1, Nat.le_of_ble_eq_true z2, Nat.eq_of_beq_eq_true z3, by rw [← hS.len]; exact Nat.le_of_ble_eq_true z4, by rw [(q21_cats hA).2]; exact Nat.le_of_ble_eq_true z5, by rw [(q21_cats hB).1]; exact Nat.le_of_ble_eq_true z6, Nat.le_of_ble_eq_true z7, Nat.le_of_ble_eq_true z8, Nat.le_of_ble_eq_true z9, Nat.le_of_ble_eq_true z10⟩
    unfold q4_call
    dsimp only
    rw [if_pos hC]
    generalize hAe : (st.take (q2_na y)).reverse = as at h hA
    generalize hAc : (stc.take (q2_na y)).reverse = asc at hA
    cases hkd : Nat.beq kd 0 with
    | true =>
      rw [hkd, cond_true] at h
      have e : kd = 0 := Nat.eq_of_beq_eq_true hkd
      subst e
      exact q23_one hE h rfl ⟨rfl, hA, hB⟩
    | false =>
      rw [hkd, cond_false] at h
      have e : kd ≠ 0 := Nat.ne_of_beq_eq_false hkd
      split at h
      · next b b0 tl =>
        obtain ⟨x, m', rfl, gx, hA'⟩ := hA.cons
        have hx : x = .ref b.toNat := gx
        subst hx
        generalize hg2 : (Nat.blt b.toNat M.1 && Nat.beq (q20_tget 8 M.2 b.toNat).1 (q2_own y + 2) && Nat.blt (q2_own y) 8) = g2 at h
        cases g2 with
        | false => cases h
        | true =>
          rw [cond_true] at h
          simp only [Bool.and_eq_true] at hg2
          obtain ⟨⟨y1, y2⟩, y3⟩ := hg2
          have y1 : b.toNat < M.1 := Nat.le_of_ble_eq_true y1
          have hb : b.toNat < N.1 ∧ (N.2 b.toNat).1 = q2_own y + 2 ∧ q2_own y < 8 := ⟨by rw [← hR.1]; exact y1, (hR.2.2 _ y1).1.trans (Nat.eq_of_beq_eq_true y2), Nat.le_of_ble_eq_true y3⟩
          refine q23_one hE h (r := .inr (.inl (y, .ref b.toNat :: m', stc.drop (q2_na y)))) ?_ ⟨rfl, hA, hB⟩
          match kd, e with
          | kd + 1, _ => exact if_pos hb
      · cases h
theorem q25_step {ρ : Nat → Int32} {k pc len ce sl : Nat} {lv : List (Nat × q20_V)} {st : List q20_V} {M : q20_M} {E : q20_E} {i : Instr} {bs : List q20_B} {lvc : List (Nat × Value)} {stc : List Value} {N : q4_M} (hE : q20_ok ρ E) (h : q20_step k pc len lv st M ce sl E i = some bs) (hL : q21_L ρ lv lvc) (hS : q21_S ρ st stc) (hR : q21_R ρ M N) :
    ∃ b ∈ bs, q20_ok ρ b.1 ∧ ∃ r, q4_step k pc len lvc stc N ce sl i = some r ∧ q23_rel ρ b.2 r := by
  cases i
  case aload n =>
    simp only [q20_step] at h
    split at h
    · next v hv =>
      obtain ⟨x, hx, gx⟩ := q21_look hL hv
      cases hb : Nat.beq v.1 6 with
      | false => rw [hb] at h; cases h
      | true =>
        rw [hb, cond_true] at h
        obtain ⟨a, rfl⟩ := q25_six gx hb
        exact q23_one hE h (r := .inl (pc + len, lvc, .ref a :: stc, N, ce, sl)) (by simp only [q4_step, hx]) ⟨rfl, hL, ⟨gx, hS⟩, hR, rfl, rfl⟩
    · cases h
  case iload n =>
    simp only [q20_step] at h
    split at h
    · next v hv =>
      obtain ⟨x, hx, gx⟩ := q21_look hL hv
      cases hb : q20_isi E v with
      | false => rw [hb] at h; cases h
      | true =>
        rw [hb, cond_true] at h
        obtain ⟨a, rfl⟩ := q23_isint hE gx hb
        exact q23_one hE h (r := .inl (pc + len, lvc, .int a :: stc, N, ce, sl)) (by simp only [q4_step, hx]) ⟨rfl, hL, ⟨gx, hS⟩, hR, rfl, rfl⟩
    · cases h
  case lload n =>
    simp only [q20_step] at h
    split at h
    · next v hv =>
      obtain ⟨x, hx, gx⟩ := q21_look hL hv
      cases hb : q20_fit .long E v with
      | false => rw [hb] at h; cases h
      | true =>
        rw [hb, cond_true] at h
        obtain ⟨a, rfl⟩ := q24_flong (q24_fit hE hb gx)
        exact q23_one hE h (r := .inl (pc + len, lvc, .long a :: stc, N, ce, sl)) (by simp only [q4_step, hx]) ⟨rfl, hL, ⟨gx, hS⟩, hR, rfl, rfl⟩
    · cases h
  case astore n =>
    simp only [q20_step] at h
    split at h
    · next v r =>
      obtain ⟨x, t2, rfl, gx, hS2⟩ := hS.cons
      cases hb : (Nat.beq v.1 6 && Nat.blt n (q2_ml k)) with
      | false => rw [hb] at h; cases h
      | true =>
        rw [hb, cond_true] at h
        simp only [Bool.and_eq_true] at hb
        obtain ⟨a, rfl⟩ := q25_six gx hb.1
        exact q23_one hE h (r := .inl (pc + len, q4_st1 lvc n (.ref a), t2, N, ce, sl)) (by simp only [q4_step, if_pos (show n < q2_ml k from Nat.le_of_ble_eq_true hb.2)]) ⟨rfl, q21_st1 hL gx, hS2, hR, rfl, rfl⟩
    · cases h
  case istore n =>
    simp only [q20_step] at h
    split at h
    · next v r =>
      obtain ⟨x, t2, rfl, gx, hS2⟩ := hS.cons
      cases hb : (q20_fit .int E v && Nat.blt n (q2_ml k)) with
      | false => rw [hb] at h; cases h
      | true =>
        rw [hb, cond_true] at h
        simp only [Bool.and_eq_true] at hb
        obtain ⟨a, rfl⟩ := q24_fint (q24_fit hE hb.1 gx)
        exact q23_one hE h (r := .inl (pc + len, q4_st1 lvc n (.int a), t2, N, ce, sl)) (by simp only [q4_step, if_pos (show n < q2_ml k from Nat.le_of_ble_eq_true hb.2)]) ⟨rfl, q21_st1 hL gx, hS2, hR, rfl, rfl⟩
    · cases h
  case lstore n =>
    simp only [q20_step] at h
    split at h
    · next v r =>
      obtain ⟨x, t2, rfl, gx, hS2⟩ := hS.cons
      cases hb : (q20_fit .long E v && Nat.blt (n + 1) (q2_ml k)) with
      | false => rw [hb] at h; cases h
      | true =>
        rw [hb, cond_true] at h
        simp only [Bool.and_eq_true] at hb
        obtain ⟨a, rfl⟩ := q24_flong (q24_fit hE hb.1 gx)
        exact q23_one hE h (r := .inl (pc + len, q4_st2 lvc n (.long a), t2, N, ce, sl)) (by simp only [q4_step, if_pos (show n + 1 < q2_ml k from Nat.le_of_ble_eq_true hb.2)]) ⟨rfl, q21_st2 hL gx, hS2, hR, rfl, rfl⟩
    · cases h
  case bipush v =>
    exact q23_one hE h (r := .inl (pc + len, lvc, .int (Int32.ofInt v) :: stc, N, ce, sl)) rfl ⟨rfl, hL, ⟨⟨_, rfl, Int.le_refl _, Int.le_refl _⟩, hS⟩, hR, rfl, rfl⟩
  case sipush v =>
    exact q23_one hE h (r := .inl (pc + len, lvc, .long (Int64.ofInt v) :: stc, N, ce, sl)) rfl ⟨rfl, hL, ⟨⟨_, rfl, Int.le_refl _, Int.le_refl _⟩, hS⟩, hR, rfl, rfl⟩
  case dup =>
    simp only [q20_step] at h
    split at h
    · next v r =>
      obtain ⟨x, t2, rfl, gx, hS2⟩ := hS.cons
      cases hb : Nat.beq (q20_cat v) 1 with
      | false => rw [hb] at h; cases h
      | true =>
        rw [hb, cond_true] at h
        exact q23_one hE h (r := .inl (pc + len, lvc, x :: x :: t2, N, ce, sl)) (by simp only [q4_step, if_pos (q25_cat gx hb)]) ⟨rfl, hL, ⟨gx, gx, hS2⟩, hR, rfl, rfl⟩
    · cases h
  case dup2 =>
    simp only [q20_step] at h
    split at h
    · next v u r =>
      obtain ⟨x, t1, rfl, gx, hS1⟩ := hS.cons
      obtain ⟨y, t2, rfl, gy, hS2⟩ := hS1.cons
      cases hb : (Nat.beq (q20_cat v) 1 && Nat.beq (q20_cat u) 1) with
      | false => rw [hb] at h; cases h
      | true =>
        rw [hb, cond_true] at h
        simp only [Bool.and_eq_true] at hb
        exact q23_one hE h (r := .inl (pc + len, lvc, x :: y :: x :: y :: t2, N, ce, sl)) (by simp only [q4_step, if_pos (And.intro (q25_cat gx hb.1) (q25_cat gy hb.2))]) ⟨rfl, hL, ⟨gx, gy, gx, gy, hS2⟩, hR, rfl, rfl⟩
    · cases h
  case pop =>
    simp only [q20_step] at h
    split at h
    · next v r =>
      obtain ⟨x, t2, rfl, gx, hS2⟩ := hS.cons
      cases hb : Nat.beq (q20_cat v) 1 with
      | false => rw [hb] at h; cases h
      | true =>
        rw [hb, cond_true] at h
        exact q23_one hE h (r := .inl (pc + len, lvc, t2, N, ce, sl)) (by simp only [q4_step, if_pos (q25_cat gx hb)]) ⟨rfl, hL, hS2, hR, rfl, rfl⟩
    · cases h
  case pop2 =>
    simp only [q20_step] at h
    split at h
    · next v r =>
      obtain ⟨x, t2, rfl, gx, hS2⟩ := hS.cons
      cases hb : Nat.beq (q20_cat v) 2 with
      | false => rw [hb] at h; cases h
      | true =>
        rw [hb, cond_true] at h
        exact q23_one hE h (r := .inl (pc + len, lvc, t2, N, ce, sl)) (by simp only [q4_step, if_pos (q25_cat gx hb)]) ⟨rfl, hL, hS2, hR, rfl, rfl⟩
    · cases h
  case iinc n d =>
    simp only [q20_step] at h
    split at h
    · next v hv =>
      obtain ⟨x, hx, gx⟩ := q21_look hL hv
      cases hb : Nat.blt n (q2_ml k) with
      | false => rw [hb] at h; cases h
      | true =>
        rw [hb, cond_true] at h
        split at h
        · next z hz =>
          have := q21_c hE hz gx
          subst this
          exact q23_one hE h (r := .inl (pc + len, q4_st1 lvc n (.int (z + Int32.ofInt d)), stc, N, ce, sl)) (by simp only [q4_step, hx, if_pos (show n < q2_ml k from Nat.le_of_ble_eq_true hb)]) ⟨rfl, q21_st1 hL ⟨_, rfl, Int.le_refl _, Int.le_refl _⟩, hS, hR, rfl, rfl⟩
        · cases h
    · cases h
  case goto t =>
    exact q23_one hE h (r := .inl (t.toNat, lvc, stc, N, ce, sl)) rfl ⟨rfl, hL, hS, hR, rfl, rfl⟩
  case iaload =>
    simp only [q20_step] at h
    split at h
    · next j a a0 r =>
      obtain ⟨y, t1, rfl, gy, hS1⟩ := hS.cons
      obtain ⟨x, t2, rfl, gx, hS2⟩ := hS1.cons
      have hx : x = .ref a.toNat := gx
      subst hx
      split at h
      · next lo hi hj =>
        obtain ⟨z, rfl, j1, j2⟩ := q21_iv hE hj gy
        dsimp only at j1 j2
        generalize hg : (Nat.blt a.toNat M.1 && Nat.beq (q20_tget 8 M.2 a.toNat).1 0 && decide (0 ≤ lo) && decide (hi < (q20_tget 8 M.2 a.toNat).2.1) && decide (hi - lo < 64) && decide (lo ≤ hi)) = g at h
        cases g with
        | false => cases h
        | true =>
          rw [cond_true] at h
          simp only [Bool.and_eq_true, decide_eq_true_eq] at hg
          obtain ⟨⟨⟨⟨⟨z1, z2⟩, z3⟩, z4⟩, z5⟩, z6⟩ := hg
          have z1 : a.toNat < M.1 := Nat.le_of_ble_eq_true z1
          obtain ⟨r1, r2, r3⟩ := hR.2.2 _ z1
          have z0 : 0 ≤ z.toInt := by omega
          obtain ⟨n1, n2⟩ := q24_tn z0
          have hlt : z.toNatClampNeg < (q20_tget 8 M.2 a.toNat).2.1 := by rw [n2]; omega
          split at h
          · next v hv =>
            refine q23_one hE h (r := .inl (pc + len, lvc, (N.2 a.toNat).2.2 z.toNatClampNeg :: t2, N, ce, sl)) ?_ ⟨rfl, hL, ⟨q24_some hE _ hv z.toNatClampNeg (by rw [n2]; omega) (by rw [n2]; omega) _ (r3 _ hlt), hS2⟩, hR, rfl, rfl⟩
            simp only [q4_step]
            rw [if_pos ⟨by rw [← hR.1]; exact z1, r1.trans (Nat.eq_of_beq_eq_true z2), n1, by rw [r2]; exact hlt⟩]
          · cases h
      · cases h
    · cases h
  case aaload =>
    simp only [q20_step] at h
    split at h
    · next j a a0 r =>
      obtain ⟨y, t1, rfl, gy, hS1⟩ := hS.cons
      obtain ⟨x, t2, rfl, gx, hS2⟩ := hS1.cons
      have hx : x = .ref a.toNat := gx
      subst hx
      split at h
      · next z hj =>
        have := q21_c hE hj gy
        subst this
        generalize hg : (Nat.blt a.toNat M.1 && Nat.beq (q20_tget 8 M.2 a.toNat).1 1 && decide (0 ≤ z.toInt) && decide (z.toInt < (q20_tget 8 M.2 a.toNat).2.1)) = g at h
        cases g with
        | false => cases h
        | true =>
          rw [cond_true] at h
          simp only [Bool.and_eq_true, decide_eq_true_eq] at hg
          obtain ⟨⟨⟨z1, z2⟩, z3⟩, z4⟩ := hg
          have z1 : a.toNat < M.1 := Nat.le_of_ble_eq_true z1
          obtain ⟨r1, r2, r3⟩ := hR.2.2 _ z1
          obtain ⟨n1, n2⟩ := q24_tn z3
          have hlt : z.toNatClampNeg < (q20_tget 8 M.2 a.toNat).2.1 := by rw [n2]; omega
          refine q23_one hE h (r := .inl (pc + len, lvc, (N.2 a.toNat).2.2 z.toNatClampNeg :: t2, N, ce, sl)) ?_ ⟨rfl, hL, ⟨by have := r3 _ hlt; rw [n2] at this ⊢; exact this, hS2⟩, hR, rfl, rfl⟩
          simp only [q4_step]
          rw [if_pos ⟨by rw [← hR.1]; exact z1, r1.trans (Nat.eq_of_beq_eq_true z2), n1, by rw [r2]; exact hlt⟩]
      · cases h
    · cases h
  case iastore =>
    simp only [q20_step] at h
    split at h
    · next v j a a0 r =>
      obtain ⟨u, t0, rfl, gu, hS0⟩ := hS.cons
      obtain ⟨y, t1, rfl, gy, hS1⟩ := hS0.cons
      obtain ⟨x, t2, rfl, gx, hS2⟩ := hS1.cons
      have hx : x = .ref a.toNat := gx
      subst hx
      split at h
      · next lo hi hj =>
        obtain ⟨z, rfl, j1, j2⟩ := q21_iv hE hj gy
        dsimp only at j1 j2
        generalize hg : (q20_fit .int E v && Nat.ble 3 a.toNat && Nat.blt a.toNat M.1 && Nat.beq (q20_tget 8 M.2 a.toNat).1 0 && decide (0 ≤ lo) && decide (hi < (q20_tget 8 M.2 a.toNat).2.1) && decide (hi - lo < 64) && decide (lo ≤ hi)) = g at h
        cases g with
        | false => cases h
        | true =>
          rw [cond_true] at h
          simp only [Bool.and_eq_true, decide_eq_true_eq] at hg
          obtain ⟨⟨⟨⟨⟨⟨⟨z7, z0'⟩, z1⟩, z2⟩, z3⟩, z4⟩, z5⟩, z6⟩ := hg
          have z1 : a.toNat < M.1 := Nat.le_of_ble_eq_true z1
          obtain ⟨u, rfl⟩ := q24_fint (q24_fit hE z7 gu)
          obtain ⟨r1, r2, r3⟩ := hR.2.2 _ z1
          have z0 : 0 ≤ z.toInt := by omega
          obtain ⟨n1, n2⟩ := q24_tn z0
          have hlt : z.toNatClampNeg < (q20_tget 8 M.2 a.toNat).2.1 := by rw [n2]; omega
          have hstep : q4_step k pc len lvc (.int u :: .int z :: .ref a.toNat :: t2) N ce sl .iastore = some (.inl (pc + len, lvc, t2, q4_put N a.toNat z.toNatClampNeg (.int u), ce, sl)) := by
            simp only [q4_step]
            rw [if_pos ⟨Nat.le_of_ble_eq_true z0', by rw [← hR.1]; exact z1, r1.trans (Nat.eq_of_beq_eq_true z2), n1, by rw [r2]; exact hlt⟩]
          cases he : decide (lo = hi) with
          | true =>
            rw [he, cond_true] at h
            have he : lo = hi := of_decide_eq_true he
            have e : z.toNatClampNeg = lo.toNat := by rw [n2]; omega
            exact q23_one hE h hstep ⟨rfl, hL, hS2, by rw [e]; exact hR.put z1 gu, rfl, rfl⟩
          | false =>
            rw [he, cond_false] at h
            split at h
            · next M1 hM1 =>
              obtain ⟨e0, hR1, hv1⟩ := q24_lay hE hR z1 _ hM1
              exact q23_one hE h hstep ⟨rfl, hL, hS2, q24_into hR1 (hv1 _ (by rw [n2]; omega) (by rw [n2]; omega) _ gu), rfl, rfl⟩
            · cases h
      · cases h
    · cases h
  case arraylength =>
    simp only [q20_step] at h
    split at h
    · next a a0 r =>
      obtain ⟨x, t2, rfl, gx, hS2⟩ := hS.cons
      have hx : x = .ref a.toNat := gx
      subst hx
      generalize hg : (Nat.blt a.toNat M.1 && Nat.beq (q20_tget 8 M.2 a.toNat).1 0) = g at h
      cases g with
      | false => cases h
      | true =>
        rw [cond_true] at h
        simp only [Bool.and_eq_true] at hg
        have z1 : a.toNat < M.1 := Nat.le_of_ble_eq_true hg.1
        obtain ⟨r1, r2, r3⟩ := hR.2.2 _ z1
        refine q23_one hE h (r := .inl (pc + len, lvc, .int (N.2 a.toNat).2.1.toInt32 :: t2, N, ce, sl)) ?_ ⟨rfl, hL, ⟨by rw [r2]; exact ⟨_, rfl, Int.le_refl _, Int.le_refl _⟩, hS2⟩, hR, rfl, rfl⟩
        simp only [q4_step]
        rw [if_pos ⟨by rw [← hR.1]; exact z1, r1.trans (Nat.eq_of_beq_eq_true hg.2)⟩]
    · cases h
  case getfield q =>
    simp only [q20_step] at h
    split at h
    · next a a0 r =>
      obtain ⟨x, t2, rfl, gx, hS2⟩ := hS.cons
      have hx : x = .ref a.toNat := gx
      subst hx
      generalize hg : (Nat.blt a.toNat M.1 && Nat.beq (q20_tget 8 M.2 a.toNat).1 (q / 64 + 2) && Nat.blt (q / 64) 8 && Nat.blt (q % 64) (q2_N (q / 64)) && Nat.blt (q % 64) (q20_tget 8 M.2 a.toNat).2.1) = g at h
      cases g with
      | false => cases h
      | true =>
        rw [cond_true] at h
        simp only [Bool.and_eq_true] at hg
        obtain ⟨⟨⟨⟨z1, z2⟩, z3⟩, z4⟩, z5⟩ := hg
        have z1 : a.toNat < M.1 := Nat.le_of_ble_eq_true z1
        obtain ⟨r1, r2, r3⟩ := hR.2.2 _ z1
        refine q23_one hE h (r := .inl (pc + len, lvc, (N.2 a.toNat).2.2 (q % 64) :: t2, N, ce, sl)) ?_ ⟨rfl, hL, ⟨r3 _ (Nat.le_of_ble_eq_true z5), hS2⟩, hR, rfl, rfl⟩
        simp only [q4_step]
        rw [if_pos ⟨by rw [← hR.1]; exact z1, r1.trans (Nat.eq_of_beq_eq_true z2), Nat.le_of_ble_eq_true z3, Nat.le_of_ble_eq_true z4⟩]
    · cases h
  case putfield q =>
    simp only [q20_step] at h
    split at h
    · next v a a0 r =>
      obtain ⟨u, t1, rfl, gu, hS1⟩ := hS.cons
      obtain ⟨x, t2, rfl, gx, hS2⟩ := hS1.cons
      have hx : x = .ref a.toNat := gx
      subst hx
      generalize hg : (Nat.blt a.toNat M.1 && Nat.beq (q20_tget 8 M.2 a.toNat).1 (q / 64 + 2) && Nat.blt (q / 64) 8 && Nat.blt (q % 64) (q2_N (q / 64)) && q20_fit (q2_ty (q / 64) (q % 64)) E v && (!(q2_T (q / 64) (q % 64)).2.2.2 || (Nat.beq (q2_kd k) 2 && Nat.beq (q2_own k) (q / 64)))) = g at h
      cases g with
      | false => cases h
      | true =>
        rw [cond_true] at h
        simp only [Bool.and_eq_true, Bool.or_eq_true, Bool.not_eq_true'] at hg
        obtain ⟨⟨⟨⟨⟨z1, z2⟩, z3⟩, z4⟩, z5⟩, z6⟩ := hg
        have z1 : a.toNat < M.1 := Nat.le_of_ble_eq_true z1
        obtain ⟨r1, r2, r3⟩ := hR.2.2 _ z1
        refine q23_one hE h (r := .inl (pc + len, lvc, t2, q4_put N a.toNat (q % 64) u, ce, sl)) ?_ ⟨rfl, hL, hS2, hR.put z1 gu, rfl, rfl⟩
        simp only [q4_step]
        rw [if_pos ⟨by rw [← hR.1]; exact z1, r1.trans (Nat.eq_of_beq_eq_true z2), Nat.le_of_ble_eq_true z3, Nat.le_of_ble_eq_true z4, q24_fit hE z5 gu, z6.imp id (fun h => ⟨Nat.eq_of_beq_eq_true h.1, Nat.eq_of_beq_eq_true h.2⟩)⟩]
    · cases h
  case getstatic n =>
    simp only [q20_step] at h
    cases hb : (Nat.beq n 1 || Nat.beq n 2) with
    | false => rw [hb] at h; cases h
    | true =>
      rw [hb, cond_true] at h
      simp only [Bool.or_eq_true] at hb
      exact q23_one hE h (r := .inl (pc + len, lvc, .ref n :: stc, N, ce, sl)) (by simp only [q4_step]; rw [if_pos (hb.imp Nat.eq_of_beq_eq_true Nat.eq_of_beq_eq_true)]) ⟨rfl, hL, ⟨(rfl : Value.ref n = .ref (n : Int).toNat), hS⟩, hR, rfl, rfl⟩
  case new c =>
    simp only [q20_step] at h
    generalize hg : ((List.range (q2_N c)).all (fun j => q20_isv (defaultValue (q2_ty c j))) && Nat.blt c 8 && Nat.blt M.1 256 && Nat.ble (ce + 1) (q2_mc k) && Nat.ble (sl + q2_N c) (q2_ms k)) = g at h
    cases g with
    | false => cases h
    | true =>
      rw [cond_true] at h
      simp only [Bool.and_eq_true] at hg
      obtain ⟨⟨⟨⟨z1, z2⟩, z3⟩, z4⟩, z5⟩ := hg
      have hm : M.1 = N.1 := hR.1
      refine q23_one hE h (r := .inl (pc + len, lvc, .ref N.1 :: stc, q4_new N (c + 2, q2_N c, fun j => defaultValue (q2_ty c j)), ce + 1, sl + q2_N c)) ?_ ⟨rfl, hL, ⟨by rw [hm]; exact (rfl : Value.ref N.1 = .ref (N.1 : Int).toNat), hS⟩, hR.new (Nat.le_of_ble_eq_true z3) rfl rfl (fun j hj => ?_), rfl, rfl⟩
      · simp only [q4_step]
        rw [if_pos ⟨Nat.le_of_ble_eq_true z2, Nat.le_of_ble_eq_true z4, Nat.le_of_ble_eq_true z5⟩]
      · have hj : j < q2_N c := hj
        have hv := List.all_eq_true.mp z1 j (List.mem_range.mpr hj)
        show q20_g ρ (q20_wget (7, 0, 0) j ((List.range (q2_N c)).map (fun j => (j, q20_dv (defaultValue (q2_ty c j)))))) (defaultValue (q2_ty c j))
        rw [q24_wm _ (fun j => q20_dv (defaultValue (q2_ty c j))) j _ (List.mem_range.mpr hj)]
        unfold q20_isv at hv
        unfold q20_dv
        split at hv
        · next a ha => exact q21_a ha
        · cases hv
  case newarray t =>
    simp only [q20_step] at h
    split at h
    · next n r =>
      obtain ⟨x, t2, rfl, gx, hS2⟩ := hS.cons
      split at h
      · next z hz =>
        have := q21_c hE hz gx
        subst this
        generalize hg : (decide (0 ≤ z.toInt) && decide (z.toInt ≤ 100000) && Nat.blt M.1 256 && Nat.ble (ce + 1) (q2_mc k) && Nat.ble (sl + z.toInt.toNat) (q2_ms k)) = g at h
        cases g with
        | false => cases h
        | true =>
          rw [cond_true] at h
          simp only [Bool.and_eq_true, decide_eq_true_eq] at hg
          obtain ⟨⟨⟨⟨z1, z2⟩, z3⟩, z4⟩, z5⟩ := hg
          obtain ⟨n1, n2⟩ := q24_tn z1
          have hm : M.1 = N.1 := hR.1
          refine q23_one hE h (r := .inl (pc + len, lvc, .ref N.1 :: t2, q4_new N (0, z.toInt.toNat, fun _ => .int 0), ce + 1, sl + z.toInt.toNat)) ?_ ⟨rfl, hL, ⟨by rw [hm]; exact (rfl : Value.ref N.1 = .ref (N.1 : Int).toNat), hS2⟩, hR.new (Nat.le_of_ble_eq_true z3) rfl rfl (fun j hj => ⟨0, rfl, by decide, by decide⟩), rfl, rfl⟩
          simp only [q4_step]
          rw [n2, if_pos ⟨n1, by omega, Nat.le_of_ble_eq_true z4, Nat.le_of_ble_eq_true z5⟩]
      · cases h
    · cases h
  case multianewarray u1 u2 =>
    simp only [q20_step] at h
    split at h
    · next m n r =>
      obtain ⟨y, t1, rfl, gy, hS1⟩ := hS.cons
      obtain ⟨x, t2, rfl, gx, hS2⟩ := hS1.cons
      split at h
      · next b a hb ha =>
        have := q21_c hE hb gy
        subst this
        have := q21_c hE ha gx
        subst this
        generalize hg : (decide (0 ≤ a.toInt) && decide (0 ≤ b.toInt) && decide (a.toInt ≤ 100000) && decide (b.toInt ≤ 100000) && Nat.ble (M.1 + 1 + a.toInt.toNat) 256 && Nat.ble (ce + (1 + a.toInt.toNat)) (q2_mc k) && Nat.ble (sl + (a.toInt.toNat + a.toInt.toNat * b.toInt.toNat)) (q2_ms k)) = g at h
        cases g with
        | false => cases h
        | true =>
          rw [cond_true] at h
          simp only [Bool.and_eq_true, decide_eq_true_eq] at hg
          obtain ⟨⟨⟨⟨⟨⟨z1, z2⟩, z3⟩, z4⟩, z5⟩, z6⟩, z7⟩ := hg
          obtain ⟨n1, n2⟩ := q24_tn z1
          obtain ⟨n3, n4⟩ := q24_tn z2
          have hm : M.1 = N.1 := hR.1
          refine q23_one hE h (r := .inl (pc + len, lvc, .ref N.1 :: t2, q4_grid N a.toInt.toNat b.toInt.toNat, ce + 1 + a.toInt.toNat, sl + a.toInt.toNat + a.toInt.toNat * b.toInt.toNat)) ?_ ⟨rfl, hL, ⟨by rw [hm]; exact (rfl : Value.ref N.1 = .ref (N.1 : Int).toNat), hS2⟩, q24_grid hR (Nat.le_of_ble_eq_true z5), rfl, rfl⟩
          simp only [q4_step]
          rw [n2, n4, if_pos ⟨n1, n3, by omega, by omega, Nat.le_of_ble_eq_true z6, Nat.le_of_ble_eq_true z7⟩]
      · cases h
    · cases h
  case nop =>
    simp only [q20_step] at h
    split at h
    · next n dp b b0 sp a a0 r =>
      obtain ⟨x1, t1, rfl, g1, hS1⟩ := hS.cons
      obtain ⟨x2, t2, rfl, g2, hS2⟩ := hS1.cons
      obtain ⟨x3, t3, rfl, g3, hS3⟩ := hS2.cons
      obtain ⟨x4, t4, rfl, g4, hS4⟩ := hS3.cons
      obtain ⟨x5, t5, rfl, g5, hS5⟩ := hS4.cons
      have hx3 : x3 = .ref b.toNat := g3
      subst hx3
      have hx5 : x5 = .ref a.toNat := g5
      subst hx5
      split at h
      · next z y x hz hy hx =>
        have := q21_c hE hz g1
        subst this
        have := q21_c hE hy g2
        subst this
        have := q21_c hE hx g4
        subst this
        generalize hg : (Nat.ble 3 a.toNat && Nat.blt a.toNat M.1 && Nat.ble 3 b.toNat && Nat.blt b.toNat M.1 && !(Nat.beq a.toNat b.toNat) && Nat.beq (q20_tget 8 M.2 a.toNat).1 0 && Nat.beq (q20_tget 8 M.2 b.toNat).1 0 && decide (0 ≤ z.toInt) && decide (0 ≤ y.toInt) && decide (0 ≤ x.toInt)
          && Nat.ble (x.toInt.toNat + z.toInt.toNat) (q20_tget 8 M.2 a.toNat).2.1 && Nat.ble (y.toInt.toNat + z.toInt.toNat) (q20_tget 8 M.2 b.toNat).2.1 && Nat.ble 1 (q2_fr k) && Nat.ble (q20_cats r + 18) (q2_lo k)) = g at h
        cases g with
        | false => cases h
        | true =>
          rw [cond_true] at h
          simp only [Bool.and_eq_true, decide_eq_true_eq, Bool.not_eq_true'] at hg
          obtain ⟨⟨⟨⟨⟨⟨⟨⟨⟨⟨⟨⟨⟨z1, z2⟩, z3⟩, z4⟩, z5⟩, z6⟩, z7⟩, z8⟩, z9⟩, z10⟩, z11⟩, z12⟩, z13⟩, z14⟩ := hg
          have z2 : a.toNat < M.1 := Nat.le_of_ble_eq_true z2
          have z4 : b.toNat < M.1 := Nat.le_of_ble_eq_true z4
          have hne : a.toNat ≠ b.toNat := Nat.ne_of_beq_eq_false z5
          obtain ⟨ra1, ra2, ra3⟩ := hR.2.2 _ z2
          obtain ⟨rb1, rb2, rb3⟩ := hR.2.2 _ z4
          obtain ⟨n1, n2⟩ := q24_tn z8
          obtain ⟨n3, n4⟩ := q24_tn z9
          obtain ⟨n5, n6⟩ := q24_tn z10
          have hcp := q24_cp (sp := x.toInt.toNat) (dp := y.toInt.toNat) hR z2 z4 hne z.toInt.toNat (Nat.le_of_ble_eq_true z11)
          refine q23_one hE h (r := .inl (pc + len, lvc, t5, q4_copy N a.toNat x.toInt.toNat b.toNat y.toInt.toNat z.toInt.toNat, ce, sl)) ?_ ⟨rfl, hL, hS5, hcp.2, rfl, rfl⟩
          simp only [q4_step]
          rw [n2, n4, n6, if_pos ⟨Nat.le_of_ble_eq_true z1, by rw [← hR.1]; exact z2, Nat.le_of_ble_eq_true z3, by rw [← hR.1]; exact z4, ra1.trans (Nat.eq_of_beq_eq_true z6), rb1.trans (Nat.eq_of_beq_eq_true z7), n5, n3, n1, by rw [ra2]; exact Nat.le_of_ble_eq_true z11, by rw [rb2]; exact Nat.le_of_ble_eq_true z12, Nat.le_of_ble_eq_true z13, by rw [(q21_cats hS5).1]; exact Nat.le_of_ble_eq_true z14⟩]
      · cases h
    · cases h
  case monitorenter =>
    simp only [q20_step] at h
    split at h
    · next a a0 r =>
      obtain ⟨x, t2, rfl, gx, hS2⟩ := hS.cons
      have hx : x = .ref a.toNat := gx
      subst hx
      generalize hg : (Nat.ble 1 (q2_fr k) && Nat.ble (q20_cats r + 12) (q2_lo k)) = g at h
      cases g with
      | false => cases h
      | true =>
        rw [cond_true] at h
        simp only [Bool.and_eq_true] at hg
        refine q23_one hE h (r := .inl (pc + len, lvc, t2, N, ce, sl)) ?_ ⟨rfl, hL, hS2, hR, rfl, rfl⟩
        simp only [q4_step]
        rw [if_pos ⟨Nat.le_of_ble_eq_true hg.1, by rw [(q21_cats hS2).1]; exact Nat.le_of_ble_eq_true hg.2⟩]
    · cases h
  case ireturn =>
    simp only [q20_step] at h
    split at h
    · next v t ht =>
      obtain ⟨x, t2, rfl, gx, hS2⟩ := hS.cons
      have := hS2.nil
      subst this
      cases hb : (q20_fit t E v && q20_ib t) with
      | false => rw [hb] at h; cases h
      | true =>
        rw [hb, cond_true] at h
        simp only [Bool.and_eq_true] at hb
        have hf := q24_fit hE hb.1 gx
        have hint : ∃ z : Int32, x = .int z := by
          cases t <;> first | (cases hb.2; done) | (cases x <;> first | exact ⟨_, rfl⟩ | cases hf)
        obtain ⟨z, rfl⟩ := hint
        exact q23_one hE h (r := .inr (.inr (some (.int z)))) (by simp only [q4_step, ht]; rw [if_pos hf]) gx
    · cases h
  case lreturn =>
    simp only [q20_step] at h
    split at h
    · next v ht =>
      obtain ⟨x, t2, rfl, gx, hS2⟩ := hS.cons
      have := hS2.nil
      subst this
      cases hb : q20_fit .long E v with
      | false => rw [hb] at h; cases h
      | true =>
        rw [hb, cond_true] at h
        obtain ⟨z, rfl⟩ := q24_flong (q24_fit hE hb gx)
        exact q23_one hE h (r := .inr (.inr (some (.long z)))) (by simp only [q4_step, ht]) gx
    · cases h
  case areturn =>
    simp only [q20_step] at h
    split at h
    · next v nm ht =>
      obtain ⟨x, t2, rfl, gx, hS2⟩ := hS.cons
      have := hS2.nil
      subst this
      cases hb : Nat.beq v.1 6 with
      | false => rw [hb] at h; cases h
      | true =>
        rw [hb, cond_true] at h
        obtain ⟨z, rfl⟩ := q25_six gx hb
        exact q23_one hE h (r := .inr (.inr (some (.ref z)))) (by simp only [q4_step, ht]) gx
    · cases h
  case return_ =>
    simp only [q20_step] at h
    split at h
    · next ht =>
      have := hS.nil
      subst this
      exact q23_one hE h (r := .inr (.inr none)) (by simp only [q4_step, ht]) trivial
    · cases h
  case invokestatic y => exact q25_call hE h hS hR
  case invokevirtual y => exact q25_call hE h hS hR
  case invokespecial y => exact q25_call hE h hS hR
  all_goals (simp only [q20_step] at h; cases h)
