/-! THE WALK IS SOUND: some end of it is the run's -/
theorem q26_go {ρ : Nat → Int32} (h5 : ρ 5 = ρ 0 &&& 63) {k pc len ce sl : Nat} {lv : List (Nat × q20_V)} {st : List q20_V} {M : q20_M} {E : q20_E} {i : Instr} {bs : List q20_B} {lvc : List (Nat × Value)} {stc : List Value} {N : q4_M} (hE : q20_ok ρ E) (h : q20_go k pc len lv st M ce sl E i = some bs) (hL : q21_L ρ lv lvc) (hS : q21_S ρ st stc) (hR : q21_R ρ M N) :
    ∃ b ∈ bs, q20_ok ρ b.1 ∧ ∃ r, q4_step k pc len lvc stc N ce sl i = some r ∧ q23_rel ρ b.2 r := by
  unfold q20_go at h
  cases ha : Nat.beq (q20_ar i) 0 with
  | true =>
    rw [ha, cond_true] at h
    exact q25_step hE h hL hS hR
  | false =>
    rw [ha, cond_false] at h
    have hn : q20_ar i ≠ 0 := Nat.ne_of_beq_eq_false ha
    cases hb : Nat.blt st.length (q20_ar i) with
    | true => rw [hb] at h; cases h
    | false =>
      rw [hb, cond_false] at h
      split at h
      · next vs hvs =>
        have e := q21_consts hE hvs (hS.take (q20_ar i))
        split at h
        · next pc' lv1 st' N1 c1 s1 hst =>
          split at h
          · next as has =>
            have hf := q22_fr hn hst lvc (stc.drop (q20_ar i)) N ce sl
            rw [← e, List.take_append_drop] at hf
            exact q23_one hE h hf ⟨rfl, hL, (q21_absl has).app (hS.drop (q20_ar i)), hR, rfl, rfl⟩
          · cases h
        · cases h
      · exact q23_open h5 hE h hL hS hR
theorem q26_unf (f k pc : Nat) (lv : List (Nat × q20_V)) (st : List q20_V) (M : q20_M) (ce sl : Nat) (E : q20_E) : q20_run (f + 1) k pc lv st M ce sl E = (match q4_cd k pc with
      | none => none
      | some (i, len) => match q20_go k pc len lv st M ce sl E i with
        | none => none
        | some bs => q20_each (fun b => match b with
          | (E', .inl (pc', lv', st', M', ce', sl')) => q20_run f k pc' lv' st' M' ce' sl' E'
          | (E', .inr (.inl (y, as, rest))) => match q20_run f y 0 (q20_args 0 as) [] M 0 0 E' with
            | none => none
            | some outs => q20_each (fun o => match o with | (E2, M2, v) => q20_run f k (pc + 3) lv (v.toList ++ rest) M2 (ce + q2_mc y) (sl + q2_ms y) E2) outs
          | (E', .inr (.inr v)) => some [(E', M, v)]) bs) := rfl
theorem q26_run {ρ : Nat → Int32} (h5 : ρ 5 = ρ 0 &&& 63) : ∀ (f k pc : Nat) (lv : List (Nat × q20_V)) (st : List q20_V) (M : q20_M) (ce sl : Nat) (E : q20_E) (outs : List (q20_E × q20_M × Option q20_V)), q20_run f k pc lv st M ce sl E = some outs →
    ∀ (lvc : List (Nat × Value)) (stc : List Value) (N : q4_M), q20_ok ρ E → q21_L ρ lv lvc → q21_S ρ st stc → q21_R ρ M N → ∃ o ∈ outs, q20_ok ρ o.1 ∧ ∃ (v : Option Value) (N' : q4_M), q4_run f k pc lvc stc N ce sl = some (v, N') ∧ q23_opt ρ o.2.2 v ∧ q21_R ρ o.2.1 N' := by
  intro f
  induction f with
  | zero => intro k pc lv st M ce sl E outs h; cases h
  | succ f ih =>
    intro k pc lv st M ce sl E outs h lvc stc N hE hL hS hR
    rw [q26_unf] at h
    unfold q4_run
    split at h
    · cases h
    · next i len hcd =>
      rw [hcd]
      dsimp only
      split at h
      · cases h
      · next bs hgo =>
        obtain ⟨b, hb, hE1, r, hr, hrel⟩ := q26_go h5 hE hgo hL hS hR
        obtain ⟨c, hc1, hc2⟩ := q23_each h b hb
        rw [hr]
        obtain ⟨E', bb⟩ := b
        rcases bb with ⟨pc', lv', st', M', ce', sl'⟩ | ⟨y, as, rest⟩ | v
        · rcases r with ⟨rpc, rlv, rst, rN, rce, rsl⟩ | ⟨ry, ras, rrest⟩ | rv
          · obtain ⟨rfl, z1, z2, z3, rfl, rfl⟩ := hrel
            obtain ⟨o, ho, g1, v, N', g2, g3, g4⟩ := ih _ _ _ _ _ _ _ _ _ hc1 rlv rst rN hE1 z1 z2 z3
            exact ⟨o, hc2 o ho, g1, v, N', g2, g3, g4⟩
          · cases hrel
          · cases hrel
        · rcases r with ⟨rpc, rlv, rst, rN, rce, rsl⟩ | ⟨ry, ras, rrest⟩ | rv
          · cases hrel
          · obtain ⟨rfl, z1, z2⟩ := hrel
            dsimp only at hc1
            split at hc1
            · cases hc1
            · next outs1 hcall =>
              obtain ⟨o1, ho1, g1, v1, N1, g2, g3, g4⟩ := ih _ _ _ _ _ _ _ _ _ hcall (lv_args 0 ras) [] N hE1 (q21_args 0 z1) trivial hR
              obtain ⟨d, hd1, hd2⟩ := q23_each hc1 o1 ho1
              obtain ⟨E2, M2, w⟩ := o1
              dsimp only at hd1 g1 g3 g4
              have hS3 : q21_S ρ (w.toList ++ rest) (v1.toList ++ rrest) := by
                cases w with
                | none =>
                  cases v1 with
                  | none => exact z2
                  | some x => cases g3
                | some a =>
                  cases v1 with
                  | none => cases g3
                  | some x => exact ⟨g3, z2⟩
              obtain ⟨o, ho, t1, v, N', t2, t3, t4⟩ := ih _ _ _ _ _ _ _ _ _ hd1 lvc (v1.toList ++ rrest) N1 g1 hL hS3 g4
              refine ⟨o, hc2 o (hd2 o ho), t1, v, N', ?_, t3, t4⟩
              dsimp only
              rw [g2]
              exact t2
          · cases hrel
        · rcases r with ⟨rpc, rlv, rst, rN, rce, rsl⟩ | ⟨ry, ras, rrest⟩ | rv
          · cases hrel
          · cases hrel
          · cases hc1
            exact ⟨_, hc2 _ (List.mem_singleton_self _), hE1, rv, N, rfl, hrel, hR⟩
