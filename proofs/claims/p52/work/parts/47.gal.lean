/-! the general walk, one instruction: all of them -/
section Q59
variable {W : q50_W} {ρ : List Int} {k pc len ce sl : Nat} {lv : List (Nat × q50_V)} {st : List q50_V} {S : q50_S} {M : q4_M} {bs : List q50_B} {lvc : List (Nat × Value)} {stc : List Value}
theorem q59_call {y kd : Nat} (hE : q52_E ρ S) (hR : q52_R ρ M S.2.2.2) (hM : q52_M M) (h : q50_call k y kd st S ce sl = some bs) (hS : q52_S ρ st stc) :
    ∃ b ∈ bs, ∃ r, q4_call k y kd stc M ce sl = some r ∧ q52_rel W ρ M b r := by
  unfold q50_call at h
  dsimp only at h
  generalize hg : (decide (y ≠ 0) && Nat.blt y q2_n && Nat.beq (q2_kd y) kd && Nat.ble (q2_na y) st.length && Nat.ble (q50_cats (st.take (q2_na y)).reverse) (q2_ml y) && Nat.ble (q50_cats (st.drop (q2_na y))) 8 && Nat.ble (q2_fr y + 1) (q2_fr k) && Nat.ble (8 + (q2_ml y + 11) + q2_lo y) (q2_lo k) && Nat.ble (ce + q2_mc y) (q2_mc k) && Nat.ble (sl + q2_ms y) (q2_ms k)) = g at h
  cases g with
  | false => cases h
  | true =>
    rw [cond_true] at h
    simp only [Bool.and_eq_true, decide_eq_true_eq] at hg
    obtain ⟨⟨⟨⟨⟨⟨⟨⟨⟨z1, z2⟩, z3⟩, z4⟩, z5⟩, z6⟩, z7⟩, z8⟩, z9⟩, z10⟩ := hg
    have hA := (hS.take (q2_na y)).rev
    have hB := hS.drop (q2_na y)
    have hC : y ≠ 0 ∧ y < q2_n ∧ q2_kd y = kd ∧ q2_na y ≤ stc.length ∧ (lg_sl (stc.take (q2_na y)).reverse).length ≤ q2_ml y ∧ q4_cat (stc.drop (q2_na y)) ≤ 8 ∧ q2_fr y + 1 ≤ q2_fr k ∧ 8 + (q2_ml y + 11) + q2_lo y ≤ q2_lo k ∧ ce + q2_mc y ≤ q2_mc k ∧ sl + q2_ms y ≤ q2_ms k :=
      ⟨z1, Nat.le_of_ble_eq_true z2, Nat.eq_of_beq_eq_true z3, by rw [← hS.len]; exact Nat.le_of_ble_eq_true z4, by rw [(q54_cats hA).2]; exact Nat.le_of_ble_eq_true z5, by rw [(q54_cats hB).1]; exact Nat.le_of_ble_eq_true z6, Nat.le_of_ble_eq_true z7, Nat.le_of_ble_eq_true z8, Nat.le_of_ble_eq_true z9, Nat.le_of_ble_eq_true z10⟩
    unfold q4_call
    dsimp only
    rw [if_pos hC]
    generalize hAe : (st.take (q2_na y)).reverse = as at h hA
    generalize hAc : (stc.take (q2_na y)).reverse = asc at hA
    cases hkd : Nat.beq kd 0 with
    | true =>
      rw [hkd, cond_true] at h
      have e : kd = 0 := Nat.eq_of_beq_eq_true hkd
      subst e
      exact q58_one h rfl ⟨ρ, q54_er ρ, hE, rfl, hA, hB, hR⟩
    | false =>
      rw [hkd, cond_false] at h
      have e : kd ≠ 0 := Nat.ne_of_beq_eq_false hkd
      split at h
      · next b b' tl =>
        obtain ⟨x, m', rfl, gx, hA'⟩ := hA.cons
        obtain ⟨B, rfl, B1, B2⟩ := q54_ref gx
        generalize hg2 : (decide (0 < b) && decide (b = b') && Nat.blt b.toNat 124 && Nat.beq (q51_kind b.toNat) (q2_own y + 2) && Nat.blt (q2_own y) 8) = g2 at h
        cases g2 with
        | false => cases h
        | true =>
          rw [cond_true] at h
          simp only [Bool.and_eq_true, decide_eq_true_eq, q54_lq, q54_bq] at hg2
          obtain ⟨⟨⟨⟨y0, y1⟩, y2⟩, y3⟩, y4⟩ := hg2
          have eB : b.toNat = B := by omega
          rw [eB] at y2 y3
          have hb : B < M.1 ∧ (M.2 B).1 = q2_own y + 2 ∧ q2_own y < 8 := ⟨by rw [hM.1]; exact y2, (hM.2.2.2.2 B (by omega) y2).1.trans y3, y4⟩
          refine q58_one h (r := .inr (.inl (y, .ref B :: m', stc.drop (q2_na y)))) ?_ ⟨ρ, q54_er ρ, hE, rfl, hA, hB, hR⟩
          match kd, e with
          | kd + 1, _ => exact if_pos hb
      · cases h
theorem q59_nx (hE : q52_E ρ S) (hR : q52_R ρ M S.2.2.2) (hM : q52_M M) (hL : q52_L ρ lv lvc) {pc' ce' sl' : Nat} {st1 : List q50_V} {st2 : List Value} {i : Instr} (h : some [((S, .inl (pc', lv, st1, ce', sl')) : q50_B)] = some bs) (ho : q4_step k pc len lvc stc M ce sl i = some (.inl (pc', lvc, st2, M, ce', sl'))) (hS : q52_S ρ st1 st2) : ∃ b ∈ bs, ∃ r, q4_step k pc len lvc stc M ce sl i = some r ∧ q52_rel W ρ M b r :=
  q58_one h ho (q58_ok hE hR hM hL (q54_er ρ) hE hR hS)
theorem q59_step {i : Instr} (hE : q52_E ρ S) (hR : q52_R ρ M S.2.2.2) (hM : q52_M M) (h : q50_step W k pc len lv st ce sl S i = some bs) (hL : q52_L ρ lv lvc) (hS : q52_S ρ st stc) : ∃ b ∈ bs, ∃ r, q4_step k pc len lvc stc M ce sl i = some r ∧ q52_rel W ρ M b r := by
  cases i
  case iaload => exact q58_iaload hE hR hM h hL hS
  case aaload => exact q58_aaload hE hR hM h hL hS
  case iastore => exact q58_iastore hE hR hM h hL hS
  case arraylength => exact q58_arraylength hE hR hM h hL hS
  case getfield f => exact q58_getfield hE hR hM h hL hS
  case putfield f => exact q58_putfield hE hR hM h hL hS
  case nop => exact q58_nop hE hR hM h hL hS
  case invokestatic y => exact q59_call hE hR hM h hS
  case invokevirtual y => exact q59_call hE hR hM h hS
  case invokespecial y => exact q59_call hE hR hM h hS
  case aload n =>
    simp only [q50_step] at h
    split at h
    · next v hv =>
      obtain ⟨x, hx, gx⟩ := q54_look hL hv
      cases hb : Nat.beq v.1 6 with
      | false => rw [hb] at h; cases h
      | true =>
        rw [hb, cond_true] at h
        obtain ⟨r, rfl, -⟩ := q54_gr (Nat.eq_of_beq_eq_true hb) gx
        exact q59_nx (st2 := .ref r :: stc) hE hR hM hL h (by simp only [q4_step, hx]) ⟨gx, hS⟩
    · cases h
  case iload n =>
    simp only [q50_step] at h
    split at h
    · next v hv =>
      obtain ⟨x, hx, gx⟩ := q54_look hL hv
      cases hb : q50_isi v with
      | false => rw [hb] at h; cases h
      | true =>
        rw [hb, cond_true] at h
        obtain ⟨r, rfl, -⟩ := q54_gi hb gx
        exact q59_nx (st2 := .int r :: stc) hE hR hM hL h (by simp only [q4_step, hx]) ⟨gx, hS⟩
    · cases h
  case lload n =>
    simp only [q50_step] at h
    split at h
    · next v hv =>
      obtain ⟨x, hx, gx⟩ := q54_look hL hv
      cases hb : q50_isl v with
      | false => rw [hb] at h; cases h
      | true =>
        rw [hb, cond_true] at h
        obtain ⟨r, rfl, -⟩ := q54_gl hb gx
        exact q59_nx (st2 := .long r :: stc) hE hR hM hL h (by simp only [q4_step, hx]) ⟨gx, hS⟩
    · cases h
  case astore n =>
    simp only [q50_step] at h
    split at h
    · next v r =>
      obtain ⟨x, t, rfl, gx, hS1⟩ := hS.cons
      cases hb : (Nat.beq v.1 6 && Nat.blt n (q2_ml k)) with
      | false => rw [hb] at h; cases h
      | true =>
        rw [hb, cond_true] at h
        simp only [Bool.and_eq_true] at hb
        obtain ⟨a, rfl, -⟩ := q54_gr (Nat.eq_of_beq_eq_true hb.1) gx
        refine q58_one h (r := .inl (pc + len, q4_st1 lvc n (.ref a), t, M, ce, sl)) ?_ ⟨ρ, q54_er ρ, hE, rfl, q54_st1 hL gx, hS1, hR, hM, q57_Fr W M, rfl, rfl⟩
        simp only [q4_step]
        rw [if_pos (show n < q2_ml k from Nat.le_of_ble_eq_true hb.2)]
    · cases h
  case istore n =>
    simp only [q50_step] at h
    split at h
    · next v r =>
      obtain ⟨x, t, rfl, gx, hS1⟩ := hS.cons
      cases hb : (q50_isi v && Nat.blt n (q2_ml k)) with
      | false => rw [hb] at h; cases h
      | true =>
        rw [hb, cond_true] at h
        simp only [Bool.and_eq_true] at hb
        obtain ⟨a, rfl, -⟩ := q54_gi hb.1 gx
        obtain ⟨ρ', e1, e2, e3, e4, -, -⟩ := q57_fr (M := M) hE hR gx
        refine q58_one h (r := .inl (pc + len, q4_st1 lvc n (.int a), t, M, ce, sl)) ?_ ⟨ρ', e1, e2, rfl, q54_st1 (hL.mono e1) e4, hS1.mono e1, e3, hM, q57_Fr W M, rfl, rfl⟩
        simp only [q4_step]
        rw [if_pos (show n < q2_ml k from Nat.le_of_ble_eq_true hb.2)]
    · cases h
  case lstore n =>
    simp only [q50_step] at h
    split at h
    · next v r =>
      obtain ⟨x, t, rfl, gx, hS1⟩ := hS.cons
      cases hb : (q50_isl v && Nat.blt (n + 1) (q2_ml k)) with
      | false => rw [hb] at h; cases h
      | true =>
        rw [hb, cond_true] at h
        simp only [Bool.and_eq_true] at hb
        obtain ⟨a, rfl, -⟩ := q54_gl hb.1 gx
        obtain ⟨ρ', e1, e2, e3, e4, -, -⟩ := q57_fr (M := M) hE hR gx
        refine q58_one h (r := .inl (pc + len, q4_st2 lvc n (.long a), t, M, ce, sl)) ?_ ⟨ρ', e1, e2, rfl, q54_st2 (hL.mono e1) e4, hS1.mono e1, e3, hM, q57_Fr W M, rfl, rfl⟩
        simp only [q4_step]
        rw [if_pos (show n + 1 < q2_ml k from Nat.le_of_ble_eq_true hb.2)]
    · cases h
  case bipush v =>
    simp only [q50_step] at h
    exact q59_nx hE hR hM hL h rfl ⟨q54_k ρ _, hS⟩
  case sipush v =>
    simp only [q50_step] at h
    exact q59_nx hE hR hM hL h rfl ⟨Or.inr (Or.inl ⟨rfl, _, rfl, Int.le_refl _, Int.le_refl _⟩), hS⟩
  case dup =>
    simp only [q50_step] at h
    split at h
    · next v r =>
      obtain ⟨x, t, rfl, gx, hS1⟩ := hS.cons
      cases hb : Nat.beq (q50_cat v) 1 with
      | false => rw [hb] at h; cases h
      | true =>
        rw [hb, cond_true] at h
        have hc := (q54_cat gx).trans (Nat.eq_of_beq_eq_true hb)
        exact q59_nx (st2 := x :: x :: t) hE hR hM hL h (by simp only [q4_step]; rw [if_pos hc]) ⟨gx, gx, hS1⟩
    · cases h
  case dup2 =>
    simp only [q50_step] at h
    split at h
    · next v w r =>
      obtain ⟨x, t, rfl, gx, hS1⟩ := hS.cons
      obtain ⟨y, t2, rfl, gy, hS2⟩ := hS1.cons
      cases hb : (Nat.beq (q50_cat v) 1 && Nat.beq (q50_cat w) 1) with
      | false => rw [hb] at h; cases h
      | true =>
        rw [hb, cond_true] at h
        simp only [Bool.and_eq_true] at hb
        have hc := (q54_cat gx).trans (Nat.eq_of_beq_eq_true hb.1)
        have hd := (q54_cat gy).trans (Nat.eq_of_beq_eq_true hb.2)
        exact q59_nx (st2 := x :: y :: x :: y :: t2) hE hR hM hL h (by simp only [q4_step]; rw [if_pos ⟨hc, hd⟩]) ⟨gx, gy, gx, gy, hS2⟩
    · cases h
  case pop =>
    simp only [q50_step] at h
    split at h
    · next v r =>
      obtain ⟨x, t, rfl, gx, hS1⟩ := hS.cons
      cases hb : Nat.beq (q50_cat v) 1 with
      | false => rw [hb] at h; cases h
      | true =>
        rw [hb, cond_true] at h
        have hc := (q54_cat gx).trans (Nat.eq_of_beq_eq_true hb)
        exact q59_nx hE hR hM hL h (by simp only [q4_step]; rw [if_pos hc]) hS1
    · cases h
  case pop2 =>
    simp only [q50_step] at h
    split at h
    · next v r =>
      obtain ⟨x, t, rfl, gx, hS1⟩ := hS.cons
      cases hb : Nat.beq (q50_cat v) 2 with
      | false => rw [hb] at h; cases h
      | true =>
        rw [hb, cond_true] at h
        have hc := (q54_cat gx).trans (Nat.eq_of_beq_eq_true hb)
        exact q59_nx hE hR hM hL h (by simp only [q4_step]; rw [if_pos hc]) hS1
    · cases h
  case iinc n v =>
    simp only [q50_step] at h
    split at h
    · next x hv =>
      obtain ⟨X, hX, gx⟩ := q54_look hL hv
      cases hb : (q50_isi x && Nat.blt n (q2_ml k)) with
      | false => rw [hb] at h; cases h
      | true =>
        rw [hb, cond_true] at h
        simp only [Bool.and_eq_true] at hb
        obtain ⟨a, rfl, da⟩ := q54_gi hb.1 gx
        split at h
        · next q hq =>
          have bq := q54_iv hE hq da
          have ga : q52_g ρ (q50_add S x (q50_k (Int32.ofInt v).toInt) q ((Int32.ofInt v).toInt, (Int32.ofInt v).toInt)) (.int (a + Int32.ofInt v)) := q55_add da (show q52_d ρ (q50_k (Int32.ofInt v).toInt) (Int32.ofInt v).toInt from ⟨Int.le_refl _, Int.le_refl _⟩) bq ⟨Int.le_refl _, Int.le_refl _⟩
          obtain ⟨ρ', e1, e2, e3, e4, -, -⟩ := q57_fr (M := M) hE hR ga
          refine q58_one h (r := .inl (pc + len, q4_st1 lvc n (.int (a + Int32.ofInt v)), stc, M, ce, sl)) ?_ ⟨ρ', e1, e2, rfl, q54_st1 (hL.mono e1) e4, hS.mono e1, e3, hM, q57_Fr W M, rfl, rfl⟩
          simp only [q4_step, hX]
          rw [if_pos (show n < q2_ml k from Nat.le_of_ble_eq_true hb.2)]
        · cases h
    · cases h
  case goto t =>
    simp only [q50_step] at h
    exact q59_nx hE hR hM hL h rfl hS
  case getstatic n =>
    simp only [q50_step] at h
    cases hb : (Nat.beq n 1 || Nat.beq n 2) with
    | false => rw [hb] at h; cases h
    | true =>
      rw [hb, cond_true] at h
      simp only [Bool.or_eq_true, q54_bq, decide_eq_true_eq] at hb
      exact q59_nx (st2 := .ref n :: stc) hE hR hM hL h (by simp only [q4_step]; rw [if_pos hb]) ⟨Or.inr (Or.inr (Or.inl ⟨rfl, n, rfl, Int.le_refl _, Int.le_refl _⟩)), hS⟩
  case monitorenter =>
    simp only [q50_step] at h
    split at h
    · next p q r =>
      obtain ⟨x, t, rfl, gx, hS1⟩ := hS.cons
      obtain ⟨A, rfl, -⟩ := q54_ref gx
      cases hb : (Nat.ble 1 (q2_fr k) && Nat.ble (q50_cats r + 12) (q2_lo k)) with
      | false => rw [hb] at h; cases h
      | true =>
        rw [hb, cond_true] at h
        simp only [Bool.and_eq_true] at hb
        exact q59_nx hE hR hM hL h (by simp only [q4_step]; rw [if_pos ⟨Nat.le_of_ble_eq_true hb.1, by rw [(q54_cats hS1).1]; exact Nat.le_of_ble_eq_true hb.2⟩]) hS1
    · cases h
  case ireturn =>
    simp only [q50_step] at h
    split at h
    · next v t ht =>
      obtain ⟨x, t2, rfl, gx, hS2⟩ := hS.cons
      have := hS2.nil
      subst this
      cases hb : (q50_fit t S v && q20_ib t) with
      | false => rw [hb] at h; cases h
      | true =>
        rw [hb, cond_true] at h
        simp only [Bool.and_eq_true] at hb
        have hf := q58_fit hE hb.1 gx
        have hint : ∃ z : Int32, x = .int z := by
          cases t <;> first | (cases hb.2; done) | (cases x <;> first | exact ⟨_, rfl⟩ | cases hf)
        obtain ⟨z, rfl⟩ := hint
        exact q58_one h (r := .inr (.inr (some (.int z)))) (by simp only [q4_step, ht]; rw [if_pos hf]) ⟨ρ, q54_er ρ, hE, gx, hR⟩
    · cases h
  case lreturn =>
    simp only [q50_step] at h
    split at h
    · next v ht =>
      obtain ⟨x, t2, rfl, gx, hS2⟩ := hS.cons
      have := hS2.nil
      subst this
      cases hb : q50_isl v with
      | false => rw [hb] at h; cases h
      | true =>
        rw [hb, cond_true] at h
        obtain ⟨z, rfl, -⟩ := q54_gl hb gx
        exact q58_one h (r := .inr (.inr (some (.long z)))) (by simp only [q4_step, ht]) ⟨ρ, q54_er ρ, hE, gx, hR⟩
    · cases h
  case areturn =>
    simp only [q50_step] at h
    split at h
    · next v nm ht =>
      obtain ⟨x, t2, rfl, gx, hS2⟩ := hS.cons
      have := hS2.nil
      subst this
      cases hb : Nat.beq v.1 6 with
      | false => rw [hb] at h; cases h
      | true =>
        rw [hb, cond_true] at h
        obtain ⟨z, rfl, -⟩ := q54_gr (Nat.eq_of_beq_eq_true hb) gx
        exact q58_one h (r := .inr (.inr (some (.ref z)))) (by simp only [q4_step, ht]) ⟨ρ, q54_er ρ, hE, gx, hR⟩
    · cases h
  case return_ =>
    simp only [q50_step] at h
    split at h
    · next ht =>
      have := hS.nil
      subst this
      exact q58_one h (r := .inr (.inr none)) (by simp only [q4_step, ht]) ⟨ρ, q54_er ρ, hE, trivial, hR⟩
    · cases h
  all_goals (simp only [q50_step] at h; cases h)
/-- one of the branches -/
theorem q59_mem {l : List q50_S} {g : q50_S → q50_B} (h : q56_one ρ S l) (hbs : ∀ x ∈ l.map g, x ∈ bs) : ∃ T, q52_E ρ T ∧ T.2.2.2 = S.2.2.2 ∧ g T ∈ bs := by
  obtain ⟨T, h1, h2, h3⟩ := h
  exact ⟨T, h2, h3, hbs _ (List.mem_map.mpr ⟨T, h1, rfl⟩)⟩
theorem q59_go (hR : q52_R ρ M S.2.2.2) (hM : q52_M M) (hL : q52_L ρ lv lvc) {o : Option q4_R} {pc' : Nat} {st1 : List q50_V} {st2 : List Value} (h : ∃ T, q52_E ρ T ∧ T.2.2.2 = S.2.2.2 ∧ ((T, .inl (pc', lv, st1, ce, sl)) : q50_B) ∈ bs) (ho : o = some (.inl (pc', lvc, st2, M, ce, sl))) (hS : q52_S ρ st1 st2) : ∃ b ∈ bs, ∃ r, o = some r ∧ q52_rel W ρ M b r := by
  obtain ⟨T, h1, h2, h3⟩ := h
  exact ⟨_, h3, _, ho, ρ, q54_er ρ, h1, rfl, hL, hS, by rw [h2]; exact hR, hM, q57_Fr W M, rfl, rfl⟩
theorem q59_ts {x : q50_V} {a : Int × Int} {X : Int} {go : Nat → q50_S → q50_B} (hE : q52_E ρ S) (hx : q52_d ρ x X) (ha : a.1 ≤ X ∧ X ≤ a.2) : ∀ (ts : List Int) (z : Int) (n : Nat) (t : Int), ts[n]? = some t → X = z + n → ∃ T, q52_E ρ T ∧ T.2.2.2 = S.2.2.2 ∧ go t.toNat T ∈ q50_ts S x a go z ts
  | [], z, n, t, h, e => by simp at h
  | t0 :: r, z, 0, t, h, e => by
    have h : t0 = t := by simpa using h
    subst h
    obtain ⟨T, h1, h2, h3⟩ := q56_br (w := false) (c := .eq) (y := q50_k z) (b := (z, z)) hE hx (show q52_d ρ (q50_k z) z from ⟨Int.le_refl _, Int.le_refl _⟩) ha ⟨Int.le_refl _, Int.le_refl _⟩ (show X = z by omega)
    exact ⟨T, h2, h3, List.mem_append.mpr (Or.inl (List.mem_map.mpr ⟨T, h1, rfl⟩))⟩
  | t0 :: r, z, n + 1, t, h, e => by
    obtain ⟨T, h1, h2, h3⟩ := q59_ts (go := go) hE hx ha r (z + 1) n t (by simpa using h) (by omega)
    exact ⟨T, h1, h2, List.mem_append.mpr (Or.inr h3)⟩
theorem q59_ls {x : q50_V} {a : Int × Int} {X : Int} {go : Nat → q50_S → q50_B} {d : Int} (hE : q52_E ρ S) (hx : q52_d ρ x X) (ha : a.1 ≤ X ∧ X ≤ a.2) : ∀ (ps : List (Int × Int)), (∃ T, q52_E ρ T ∧ T.2.2.2 = S.2.2.2 ∧ go (Op.lookupswitch.offset ps d X).toNat T ∈ q50_ls S x a go ps) ∨ Op.lookupswitch.offset ps d X = d
  | [] => Or.inr rfl
  | t :: r => by
    obtain ⟨k0, t0⟩ := t
    rw [Op.lookupswitch.offset_cons]
    by_cases e : k0 = X
    · rw [if_pos e]
      subst e
      obtain ⟨T, h1, h2, h3⟩ := q56_br (w := false) (c := .eq) (y := q50_k k0) (b := (k0, k0)) hE hx (show q52_d ρ (q50_k k0) k0 from ⟨Int.le_refl _, Int.le_refl _⟩) ha ⟨Int.le_refl _, Int.le_refl _⟩ (show k0 = k0 from rfl)
      exact Or.inl ⟨T, h2, h3, List.mem_append.mpr (Or.inl (List.mem_map.mpr ⟨T, h1, rfl⟩))⟩
    · rw [if_neg e]
      rcases q59_ls (go := go) (d := d) hE hx ha r with ⟨T, h1, h2, h3⟩ | h
      · exact Or.inl ⟨T, h1, h2, List.mem_append.mpr (Or.inr h3)⟩
      · exact Or.inr h
theorem q59_cmp (x y : Int64) : (x.toInt < y.toInt ∧ lg_cmp x y = -1) ∨ (x.toInt = y.toInt ∧ lg_cmp x y = 0) ∨ (y.toInt < x.toInt ∧ lg_cmp x y = 1) := by
  unfold lg_cmp
  by_cases h1 : x > y
  · rw [if_pos h1]
    exact Or.inr (Or.inr ⟨Int64.lt_iff_toInt_lt.mp h1, rfl⟩)
  · rw [if_neg h1]
    have h2 : ¬ y.toInt < x.toInt := fun h => h1 (Int64.lt_iff_toInt_lt.mpr h)
    by_cases h3 : x = y
    · rw [if_pos h3]
      subst h3
      exact Or.inr (Or.inl ⟨rfl, rfl⟩)
    · rw [if_neg h3]
      have h4 : x.toInt ≠ y.toInt := fun h => h3 (Int64.toInt_inj.mp h)
      exact Or.inl ⟨by omega, rfl⟩
theorem q59_bin {i : Instr} {x y : q50_V} {r : List q50_V} (hE : q52_E ρ S) (hR : q52_R ρ M S.2.2.2) (hM : q52_M M) (hL : q52_L ρ lv lvc) (hS : q52_S ρ (y :: x :: r) stc)
    (h : (bif Nat.beq (q20_ar i) 2 then match q50_iv S x, q50_iv S y with
      | some a, some b => bif q50_isi x && q50_isi y then match q50_o2 S i x y a b with
          | some v => some [((S, .inl (pc + len, lv, v :: r, ce, sl)) : q50_B)]
          | none => none
        else bif q50_isl x && q50_isl y then match q50_l2 i a b with
          | some v => some [(S, .inl (pc + len, lv, v :: r, ce, sl))]
          | none => none
        else none
      | _, _ => none
    else bif Nat.beq (q20_ar i) 1 then match q50_iv S y with
      | some a => match q50_o1 S i y a with
        | some v => some [(S, .inl (pc + len, lv, v :: x :: r, ce, sl))]
        | none => none
      | none => none
    else none) = some bs) : ∃ b ∈ bs, ∃ r, q4_step k pc len lvc stc M ce sl i = some r ∧ q52_rel W ρ M b r := by
  obtain ⟨Y, t1, rfl, gy, hS1⟩ := hS.cons
  obtain ⟨X, t2, rfl, gx, hS2⟩ := hS1.cons
  cases h2 : Nat.beq (q20_ar i) 2 with
  | true =>
    rw [h2, cond_true] at h
    split at h
    · next a b ha hb =>
      cases h3 : (q50_isi x && q50_isi y) with
      | true =>
        rw [h3, cond_true] at h
        simp only [Bool.and_eq_true] at h3
        obtain ⟨X, rfl, dX⟩ := q54_gi h3.1 gx
        obtain ⟨Y, rfl, dY⟩ := q54_gi h3.2 gy
        split at h
        · next v hv =>
          obtain ⟨z, z1, z2⟩ := q55_o2 hv dX dY (q54_iv hE ha dX) (q54_iv hE hb dY) k pc len lvc t2 M ce sl
          exact q59_nx hE hR hM hL h z1 ⟨z2, hS2⟩
        · cases h
      | false =>
        rw [h3, cond_false] at h
        cases h4 : (q50_isl x && q50_isl y) with
        | true =>
          rw [h4, cond_true] at h
          simp only [Bool.and_eq_true] at h4
          obtain ⟨X, rfl, dX⟩ := q54_gl h4.1 gx
          obtain ⟨Y, rfl, dY⟩ := q54_gl h4.2 gy
          split at h
          · next v hv =>
            obtain ⟨z, z1, z2⟩ := q55_l2 hv (q54_iv hE ha dX) (q54_iv hE hb dY) k pc len lvc t2 M ce sl
            exact q59_nx hE hR hM hL h z1 ⟨z2, hS2⟩
          · cases h
        | false => rw [h4] at h; cases h
    · cases h
  | false =>
    rw [h2, cond_false] at h
    cases h3 : Nat.beq (q20_ar i) 1 with
    | false => rw [h3] at h; cases h
    | true =>
      rw [h3, cond_true] at h
      split at h
      · next a ha =>
        split at h
        · next v hv =>
          obtain ⟨z, z1, z2⟩ := q55_o1 hE hv ha gy k pc len lvc (X :: t2) M ce sl
          exact q59_nx hE hR hM hL h z1 ⟨z2, gx, hS2⟩
        · cases h
      · cases h
theorem q59_un {i : Instr} {x : q50_V} {r : List q50_V} (hE : q52_E ρ S) (hR : q52_R ρ M S.2.2.2) (hM : q52_M M) (hL : q52_L ρ lv lvc) (hS : q52_S ρ (x :: r) stc)
    (h : (bif Nat.beq (q20_ar i) 1 then match q50_iv S x with
      | some a => match q50_o1 S i x a with
        | some v => some [((S, .inl (pc + len, lv, v :: r, ce, sl)) : q50_B)]
        | none => none
      | none => none
    else none) = some bs) : ∃ b ∈ bs, ∃ r, q4_step k pc len lvc stc M ce sl i = some r ∧ q52_rel W ρ M b r := by
  obtain ⟨Y, t1, rfl, gy, hS1⟩ := hS.cons
  cases h3 : Nat.beq (q20_ar i) 1 with
  | false => rw [h3] at h; cases h
  | true =>
    rw [h3, cond_true] at h
    split at h
    · next a ha =>
      split at h
      · next v hv =>
        obtain ⟨z, z1, z2⟩ := q55_o1 hE hv ha gy k pc len lvc t1 M ce sl
        exact q59_nx hE hR hM hL h z1 ⟨z2, hS1⟩
      · cases h
    · cases h
theorem q59_open {i : Instr} {hn : Nat} {w : Bool} (hE : q52_E ρ S) (hR : q52_R ρ M S.2.2.2) (hM : q52_M M) (h : q50_open hn w pc len lv st ce sl S i = some bs) (hL : q52_L ρ lv lvc) (hS : q52_S ρ st stc) : ∃ b ∈ bs, ∃ r, q4_step k pc len lvc stc M ce sl i = some r ∧ q52_rel W ρ M b r := by
  unfold q50_open at h
  dsimp only at h
  split at h
  · -- lcmp
    next y x r =>
    obtain ⟨Yv, t1, rfl, gy, hS1⟩ := hS.cons
    obtain ⟨Xv, t2, rfl, gx, hS2⟩ := hS1.cons
    cases h3 : (q50_isl x && q50_isl y) with
    | false => rw [h3] at h; cases h
    | true =>
      rw [h3, cond_true] at h
      simp only [Bool.and_eq_true] at h3
      obtain ⟨X, rfl, dX⟩ := q54_gl h3.1 gx
      obtain ⟨Y, rfl, dY⟩ := q54_gl h3.2 gy
      split at h
      · next a b ha hb =>
        have bX := q54_iv hE ha dX
        have bY := q54_iv hE hb dY
        have ho : q4_step k pc len lvc (.long Y :: .long X :: t2) M ce sl .lcmp = some (.inl (pc + len, lvc, .int (lg_cmp X Y) :: t2, M, ce, sl)) := rfl
        have hm : (-1 : Int32).toInt = -1 := by decide
        have h1 : (1 : Int32).toInt = 1 := by decide
        have h0 : (0 : Int32).toInt = 0 := by decide
        have hc := q59_cmp X Y
        cases hn0 : Nat.beq hn 0 with
        | true =>
          rw [hn0, cond_true] at h
          cases h
          rcases hc with ⟨c, e⟩ | ⟨c, e⟩ | ⟨c, e⟩
          · exact q59_go hR hM hL (q59_mem (q56_br (c := .lt) hE dX dY bX bY c) (fun z hz => List.mem_append.mpr (Or.inl hz))) ho ⟨q55_iv0 (by rw [e]; omega) (by rw [e]; omega), hS2⟩
          · exact q59_go hR hM hL (q59_mem (q56_br (c := .ge) hE dX dY bX bY (show Y.toInt ≤ X.toInt by omega)) (fun z hz => List.mem_append.mpr (Or.inr hz))) ho ⟨q55_iv0 (by rw [e]; omega) (by rw [e]; omega), hS2⟩
          · exact q59_go hR hM hL (q59_mem (q56_br (c := .ge) hE dX dY bX bY (show Y.toInt ≤ X.toInt by omega)) (fun z hz => List.mem_append.mpr (Or.inr hz))) ho ⟨q55_iv0 (by rw [e]; omega) (by rw [e]; omega), hS2⟩
        | false =>
          rw [hn0, cond_false] at h
          cases hn1 : Nat.beq hn 1 with
          | true =>
            rw [hn1, cond_true] at h
            cases h
            rcases hc with ⟨c, e⟩ | ⟨c, e⟩ | ⟨c, e⟩
            · exact q59_go hR hM hL (q59_mem (q56_br (c := .le) hE dX dY bX bY (show X.toInt ≤ Y.toInt by omega)) (fun z hz => List.mem_append.mpr (Or.inl hz))) ho ⟨q55_iv0 (by rw [e]; omega) (by rw [e]; omega), hS2⟩
            · exact q59_go hR hM hL (q59_mem (q56_br (c := .le) hE dX dY bX bY (show X.toInt ≤ Y.toInt by omega)) (fun z hz => List.mem_append.mpr (Or.inl hz))) ho ⟨q55_iv0 (by rw [e]; omega) (by rw [e]; omega), hS2⟩
            · exact q59_go hR hM hL (q59_mem (q56_br (c := .gt) hE dX dY bX bY c) (fun z hz => List.mem_append.mpr (Or.inr hz))) ho ⟨q55_iv0 (by rw [e]; omega) (by rw [e]; omega), hS2⟩
          | false =>
            rw [hn1, cond_false] at h
            cases h
            rcases hc with ⟨c, e⟩ | ⟨c, e⟩ | ⟨c, e⟩
            · exact q59_go hR hM hL (q59_mem (q56_br (c := .lt) hE dX dY bX bY c) (fun z hz => List.mem_append.mpr (Or.inl (List.mem_append.mpr (Or.inl hz))))) ho ⟨q55_iv0 (by rw [e]; omega) (by rw [e]; omega), hS2⟩
            · exact q59_go hR hM hL (q59_mem (q56_br (c := .eq) hE dX dY bX bY c) (fun z hz => List.mem_append.mpr (Or.inl (List.mem_append.mpr (Or.inr hz))))) ho ⟨q55_iv0 (by rw [e]; omega) (by rw [e]; omega), hS2⟩
            · exact q59_go hR hM hL (q59_mem (q56_br (c := .gt) hE dX dY bX bY c) (fun z hz => List.mem_append.mpr (Or.inr hz))) ho ⟨q55_iv0 (by rw [e]; omega) (by rw [e]; omega), hS2⟩
      · cases h
  · -- if_icmp
    next c t y x r =>
    obtain ⟨Yv, t1, rfl, gy, hS1⟩ := hS.cons
    obtain ⟨Xv, t2, rfl, gx, hS2⟩ := hS1.cons
    cases h3 : (q50_isi x && q50_isi y) with
    | false => rw [h3] at h; cases h
    | true =>
      rw [h3, cond_true] at h
      simp only [Bool.and_eq_true] at h3
      obtain ⟨X, rfl, dX⟩ := q54_gi h3.1 gx
      obtain ⟨Y, rfl, dY⟩ := q54_gi h3.2 gy
      split at h
      · next a b ha hb =>
        cases h
        have bX := q54_iv hE ha dX
        have bY := q54_iv hE hb dY
        by_cases hc : q22_ci c X.toInt Y.toInt
        · exact q59_go hR hM hL (q59_mem (q56_br hE dX dY bX bY hc) (fun z hz => List.mem_append.mpr (Or.inl hz))) (by simp only [q4_step]; rw [if_pos ((q22_icmp c X Y).mpr hc)]) hS2
        · exact q59_go hR hM hL (q59_mem (q56_br hE dX dY bX bY (q22_neg hc)) (fun z hz => List.mem_append.mpr (Or.inr hz))) (by simp only [q4_step]; rw [if_neg (fun e => hc ((q22_icmp c X Y).mp e))]) hS2
      · cases h
  · -- ifCond
    next c t x r =>
    obtain ⟨Xv, t2, rfl, gx, hS2⟩ := hS.cons
    cases h3 : q50_isi x with
    | false => rw [h3] at h; cases h
    | true =>
      rw [h3, cond_true] at h
      obtain ⟨X, rfl, dX⟩ := q54_gi h3 gx
      split at h
      · next a ha =>
        cases h
        have bX := q54_iv hE ha dX
        have d0 : q52_d ρ (q50_k 0) (0 : Int32).toInt := ⟨Int.le_refl _, Int.le_refl _⟩
        have b0 : ((0, 0) : Int × Int).1 ≤ (0 : Int32).toInt ∧ (0 : Int32).toInt ≤ ((0, 0) : Int × Int).2 := ⟨by decide, by decide⟩
        by_cases hc : q22_ci c X.toInt (0 : Int32).toInt
        · exact q59_go hR hM hL (q59_mem (q56_br hE dX d0 bX b0 hc) (fun z hz => List.mem_append.mpr (Or.inl hz))) (by simp only [q4_step]; rw [if_pos ((q22_icmp c X 0).mpr hc)]) hS2
        · exact q59_go hR hM hL (q59_mem (q56_br hE dX d0 bX b0 (q22_neg hc)) (fun z hz => List.mem_append.mpr (Or.inr hz))) (by simp only [q4_step]; rw [if_neg (fun e => hc ((q22_icmp c X 0).mp e))]) hS2
      · cases h
  · -- tableswitch
    next d lo hi ts x r =>
    obtain ⟨Xv, t2, rfl, gx, hS2⟩ := hS.cons
    cases h3 : (q50_isi x && decide (hi - lo + 1 = (ts.size : Int))) with
    | false => rw [h3] at h; cases h
    | true =>
      rw [h3, cond_true] at h
      simp only [Bool.and_eq_true, decide_eq_true_eq] at h3
      obtain ⟨X, rfl, dX⟩ := q54_gi h3.1 gx
      split at h
      · next a ha =>
        cases h
        have bX := q54_iv hE ha dX
        have dk : ∀ z : Int, q52_d ρ (q50_k z) z := fun z => ⟨Int.le_refl _, Int.le_refl _⟩
        by_cases hlo : X.toInt < lo
        · exact q59_go hR hM hL (q59_mem (q56_br (w := false) (c := .lt) (b := (lo, lo)) hE dX (dk lo) bX ⟨Int.le_refl _, Int.le_refl _⟩ hlo) (fun z hz => List.mem_append.mpr (Or.inr (List.mem_append.mpr (Or.inl hz))))) (by simp only [q4_step]; rw [if_pos (Or.inl hlo)]) hS2
        · by_cases hhi : hi < X.toInt
          · exact q59_go hR hM hL (q59_mem (q56_br (w := false) (c := .gt) (b := (hi, hi)) hE dX (dk hi) bX ⟨Int.le_refl _, Int.le_refl _⟩ hhi) (fun z hz => List.mem_append.mpr (Or.inr (List.mem_append.mpr (Or.inr hz))))) (by simp only [q4_step]; rw [if_pos (Or.inr hhi)]) hS2
          · have hlt : (X.toInt - lo).toNat < ts.size := by omega
            have hget : ts[(X.toInt - lo).toNat]? = some ts[(X.toInt - lo).toNat] := Array.getElem?_eq_getElem hlt
            obtain ⟨T, t1, t2', t3⟩ := q59_ts (go := fun t S' => (S', .inl (t, lv, r, ce, sl))) hE dX bX ts.toList lo (X.toInt - lo).toNat ts[(X.toInt - lo).toNat] (by rw [Array.getElem?_toList]; exact hget) (by omega)
            exact q59_go hR hM hL ⟨T, t1, t2', List.mem_append.mpr (Or.inl t3)⟩ (by simp only [q4_step]; rw [if_neg (by omega), hget]) hS2
      · cases h
  · -- lookupswitch
    next d ps x r =>
    obtain ⟨Xv, t2, rfl, gx, hS2⟩ := hS.cons
    cases h3 : q50_isi x with
    | false => rw [h3] at h; cases h
    | true =>
      rw [h3, cond_true] at h
      obtain ⟨X, rfl, dX⟩ := q54_gi h3 gx
      split at h
      · next a ha =>
        cases h
        have bX := q54_iv hE ha dX
        rcases q59_ls (go := fun t S' => (S', .inl (t, lv, r, ce, sl))) (d := d) hE dX bX ps.toList with ⟨T, t1, t2', t3⟩ | e
        · exact q59_go hR hM hL ⟨T, t1, t2', List.mem_append.mpr (Or.inl t3)⟩ rfl hS2
        · exact q59_go hR hM hL ⟨S, hE, rfl, List.mem_append.mpr (Or.inr (List.mem_singleton_self _))⟩ (by simp only [q4_step, e]) hS2
      · cases h
  · exact q59_bin hE hR hM hL hS h
  · exact q59_un hE hR hM hL hS h
  · cases h
theorem q59_goS {i : Instr} (hE : q52_E ρ S) (hR : q52_R ρ M S.2.2.2) (hM : q52_M M) (h : q50_go W k pc len lv st ce sl S i = some bs) (hL : q52_L ρ lv lvc) (hS : q52_S ρ st stc) : ∃ b ∈ bs, ∃ r, q4_step k pc len lvc stc M ce sl i = some r ∧ q52_rel W ρ M b r := by
  unfold q50_go at h
  cases ha : Nat.beq (q20_ar i) 0 with
  | true =>
    rw [ha, cond_true] at h
    exact q59_step hE hR hM h hL hS
  | false =>
    rw [ha, cond_false] at h
    have hn : q20_ar i ≠ 0 := Nat.ne_of_beq_eq_false ha
    cases hb : Nat.blt st.length (q20_ar i) with
    | true => rw [hb] at h; cases h
    | false =>
      rw [hb, cond_false] at h
      split at h
      · next vs hvs =>
        have e := q54_cs hE hvs (hS.take (q20_ar i))
        split at h
        · next pc' lv1 st' N1 c1 s1 hst =>
          split at h
          · next as has =>
            have hf := q22_fr hn hst lvc (stc.drop (q20_ar i)) M ce sl
            rw [← e, List.take_append_drop] at hf
            exact q59_nx hE hR hM hL h hf ((q54_as has).app (hS.drop (q20_ar i)))
          · cases h
        · cases h
      · exact q59_open hE hR hM h hL hS
end Q59
