/-! THE GENERAL WALK IS SOUND: runs, contracts -/
theorem q61_mono : ∀ (f g k pc : Nat) (lv : List (Nat × Value)) (st : List Value) (M : q4_M) (ce sl : Nat) (r : Option Value × q4_M), f ≤ g → q4_run f k pc lv st M ce sl = some r → q4_run g k pc lv st M ce sl = some r := by
  intro f
  induction f with
  | zero => intro g k pc lv st M ce sl r _ h; cases h
  | succ f ih =>
    intro g k pc lv st M ce sl r hg h
    obtain ⟨g, rfl⟩ : ∃ g', g = g' + 1 := ⟨g - 1, by omega⟩
    unfold q4_run at h ⊢
    split at h
    · cases h
    · next i len hcd =>
      try rw [hcd]
      try dsimp only
      split at h
      · cases h
      · next pc' lv' st' M' ce' sl' hst =>
        try rw [hst]
        exact ih g _ _ _ _ _ _ _ _ (by omega) h
      · next y as rest hst =>
        try rw [hst]
        try dsimp only
        split at h
        · cases h
        · next v M' hc =>
          rw [ih g _ _ _ _ _ _ _ _ (by omega) hc]
          exact ih g _ _ _ _ _ _ _ _ (by omega) h
      · next v hst =>
        try rw [hst]
        exact h
def q61_end (k pc : Nat) (lvc : List (Nat × Value)) (stc : List Value) (M : q4_M) (ce sl : Nat) (ρ' : List Int) (M' : q4_M) (o : Option q50_V ⊕ (Nat × List (Nat × q50_V) × Nat × Nat)) : Prop := match o with
  | .inl v => ∃ vc, q52_O ρ' v vc ∧ ∃ f', q4_run f' k pc lvc stc M ce sl = some (vc, M')
  | .inr (pc', lv', ce', sl') => ∃ lvc', q52_L ρ' lv' lvc' ∧ ∀ f1 r, q4_run f1 k pc' lvc' [] M' ce' sl' = some r → ∃ f', q4_run f' k pc lvc stc M ce sl = some r
theorem q61_back {k pc pc1 ce sl ce1 sl1 : Nat} {lvc lvc1 : List (Nat × Value)} {stc stc1 : List Value} {M M1 M' : q4_M} {ρ' : List Int} {o : Option q50_V ⊕ (Nat × List (Nat × q50_V) × Nat × Nat)} (hb : ∀ f1 r, q4_run f1 k pc1 lvc1 stc1 M1 ce1 sl1 = some r → ∃ f', q4_run f' k pc lvc stc M ce sl = some r) (h : q61_end k pc1 lvc1 stc1 M1 ce1 sl1 ρ' M' o) : q61_end k pc lvc stc M ce sl ρ' M' o := by
  rcases o with v | ⟨pc', lv', ce', sl'⟩
  · obtain ⟨vc, h1, f', h2⟩ := h
    exact ⟨vc, h1, hb _ _ h2⟩
  · obtain ⟨lvc', h1, h2⟩ := h
    refine ⟨lvc', h1, fun f1 r hr => ?_⟩
    obtain ⟨f', h3⟩ := h2 f1 r hr
    exact hb _ _ h3
theorem q61_fwd {k pc len pc1 ce sl ce1 sl1 : Nat} {lvc lvc1 : List (Nat × Value)} {stc stc1 : List Value} {M M1 : q4_M} {i : Instr} (hcd : q4_cd k pc = some (i, len)) (hst : q4_step k pc len lvc stc M ce sl i = some (.inl (pc1, lvc1, stc1, M1, ce1, sl1))) : ∀ f1 r, q4_run f1 k pc1 lvc1 stc1 M1 ce1 sl1 = some r → ∃ f', q4_run f' k pc lvc stc M ce sl = some r := by
  intro f1 r hr
  refine ⟨f1 + 1, ?_⟩
  unfold q4_run
  rw [hcd]
  dsimp only
  rw [hst]
  exact hr
theorem q61_call {k pc len ce sl y fa : Nat} {lvc : List (Nat × Value)} {stc as rest : List Value} {M M1 : q4_M} {i : Instr} {v : Option Value} (hcd : q4_cd k pc = some (i, len)) (hst : q4_step k pc len lvc stc M ce sl i = some (.inr (.inl (y, as, rest)))) (ha : q4_run fa y 0 (lv_args 0 as) [] M 0 0 = some (v, M1)) : ∀ f1 r, q4_run f1 k (pc + 3) lvc (v.toList ++ rest) M1 (ce + q2_mc y) (sl + q2_ms y) = some r → ∃ f', q4_run f' k pc lvc stc M ce sl = some r := by
  intro f1 r hr
  refine ⟨max fa f1 + 1, ?_⟩
  unfold q4_run
  rw [hcd]
  dsimp only
  rw [hst]
  dsimp only
  rw [q61_mono fa (max fa f1) _ _ _ _ _ _ _ _ (by omega) ha]
  exact q61_mono f1 (max fa f1) _ _ _ _ _ _ _ _ (by omega) hr
theorem q61_all {α β : Type} {f : α → Option (List β)} : ∀ {l : List α} {bs : List β}, q50_all f l = some bs → ∀ a ∈ l, ∃ c, f a = some c ∧ ∀ z ∈ c, z ∈ bs
  | [], _, _, a, ha => by cases ha
  | x :: l, bs, h, a, ha => by
    unfold q50_all at h
    cases h1 : f x with
    | none => rw [h1] at h; cases h
    | some b =>
      cases h2 : q50_all f l with
      | none => rw [h1, h2] at h; cases h
      | some c =>
        rw [h1, h2] at h
        cases h
        rcases List.mem_cons.mp ha with rfl | ha
        · exact ⟨b, h1, fun z hz => List.mem_append.mpr (Or.inl hz)⟩
        · obtain ⟨d, hd, hz⟩ := q61_all h2 a ha
          exact ⟨d, hd, fun z h => List.mem_append.mpr (Or.inr (hz z h))⟩
theorem q61_each {α β : Type} {f : α → Option (List β)} {l : List α} {bs : List β} (h : q50_each f l = some bs) : ∀ a ∈ l, ∃ c, f a = some c ∧ ∀ z ∈ c, z ∈ bs := by
  unfold q50_each at h
  split at h
  · next a =>
    intro x hx
    rw [List.mem_singleton.mp hx]
    exact ⟨bs, h, fun _ hz => hz⟩
  · exact q61_all h
theorem q61_Fw {W W' : q50_W} {M M' : q4_M} (h : W.all (fun w => q50_wr W' w.1 w.2.1 w.2.2) = true) (hF : q52_F W M M') : q52_F W' M M' := by
  refine ⟨hF.1, fun a j hj => hF.2 a j ?_⟩
  cases hb : q50_iw W a j with
  | false => rfl
  | true =>
    exfalso
    unfold q50_iw at hb
    obtain ⟨w, hw, hwb⟩ := List.any_eq_true.mp hb
    have h1 := List.all_eq_true.mp h w hw
    simp only [Bool.and_eq_true, q54_bq, q54_le, decide_eq_true_eq] at hwb
    have h2 := q57_wr (j := j) h1 hwb.1.2 hwb.2
    rw [hwb.1.1, hj] at h2
    cases h2
theorem q61_apply {cur y : Nat} {W : q50_W} {S : q50_S} {lv : List (Nat × q50_V)} {lvc : List (Nat × Value)} {ρ : List Int} {M : q4_M} (hE : q52_E ρ S) (hR : q52_R ρ M S.2.2.2) (hM : q52_M M) (hJ : q60_J M) (hL : q52_L ρ lv lvc) : ∀ {cs : List (Nat × q50_C)} {os : List (q50_S × Option q50_V)}, q50_apply cur W S lv cs = some os → (∀ c ∈ cs, c.1 < cur → c.2.1 = y ∧ q60_V c.2) →
    ∃ o ∈ os, ∃ (ρ2 : List Int) (v : Option Value) (M' : q4_M) (f : Nat), q4_run f y 0 lvc [] M 0 0 = some (v, M') ∧ q52_M M' ∧ q60_J M' ∧ q52_F W M M' ∧ q52_e ρ ρ2 ∧ q52_E ρ2 o.1 ∧ q52_R ρ2 M' o.1.2.2.2 ∧ q52_O ρ2 o.2 v
  | [], os, h, _ => by cases h
  | c :: r, os, h, hc => by
    unfold q50_apply at h
    cases hb : Nat.blt c.1 cur with
    | false =>
      rw [hb, cond_false] at h
      exact q61_apply hE hR hM hJ hL h (fun c hcr => hc c (List.mem_cons_of_mem _ hcr))
    | true =>
      rw [hb, cond_true] at h
      obtain ⟨hy, hV⟩ := hc c List.mem_cons_self (Nat.le_of_ble_eq_true hb)
      split at h
      · next S1 sg hm =>
        cases hw : c.2.2.2.1.all (fun w => q50_wr W w.1 w.2.1 w.2.2) with
        | false => rw [hw] at h; cases h
        | true =>
          rw [hw, cond_true] at h
          obtain ⟨ρ1, e1, e2, e3, -, zs, d1, d2⟩ := q60_match hE hR hM hL hm
          obtain ⟨f, v, M', r1, r2, rj, r3, P, hP, ho⟩ := hV zs M lvc hM hJ d2
          obtain ⟨o, o1, o2⟩ := q60_insts h hP
          obtain ⟨ρ2, g1, g2, g3, g4⟩ := q60_inst e2 e3 r3 d1 o2 ho
          rw [hy] at r1
          exact ⟨o, o1, ρ2, v, M', f, r1, r2, rj, q61_Fw hw r3, q54_et e1 g1, g2, g3, g4⟩
      · exact q61_apply hE hR hM hJ hL h (fun c hcr => hc c (List.mem_cons_of_mem _ hcr))
theorem q61_spv {ρ : List Int} {S : q50_S} {v w : q50_V} {x : Value} {bs : List Int} {c : Int} (hE : q52_E ρ S) (hg : q52_g ρ v x) (h : q50_spv S v bs = some (w, c)) : ∃ z, q52_d ρ w z := by
  unfold q50_spv at h
  cases hs : q50_sym v with
  | false => rw [hs] at h; cases h
  | true =>
    rw [hs, cond_true] at h
    split at h
    · next a b hq =>
      split at h
      · cases h
        exact q60_num hq hg
      · cases h
    · cases h
theorem q61_jr {S : q50_S} {ρ : List Int} {M : q4_M} (hE : q52_E ρ S) (hR : q52_R ρ M S.2.2.2) (hM : q52_M M) (hJ : q60_J M) : ∀ {R : List (Nat × q50_V × q50_V)}, (∀ r ∈ R, r ∈ S.2.2.2) → q52_E ρ (q50_jr S R) ∧ (q50_jr S R).2.2.2 = S.2.2.2
  | [], _ => ⟨hE, rfl⟩
  | r :: l, hl => by
    unfold q50_jr
    cases hb : (Nat.beq r.1 87 && Nat.beq r.2.1.1 1 && q50_isi r.2.2 && (match q50_cst S r.2.2 with | some z => decide (z = -1) | none => false) && (match q50_iv S r.2.1 with | some (a, b) => decide (0 ≤ a) && decide (b ≤ 7) | none => false)) with
    | false => rw [cond_false]; exact q61_jr hE hR hM hJ (fun r hr => hl r (List.mem_cons_of_mem _ hr))
    | true =>
      rw [cond_true]
      simp only [Bool.and_eq_true] at hb
      obtain ⟨⟨⟨⟨b1, b2⟩, b3⟩, b4⟩, b5⟩ := hb
      split
      · next w hw =>
        cases hw1 : Nat.beq w.1 1 with
        | false => rw [cond_false]; exact ⟨hE, rfl⟩
        | true =>
          rw [cond_true]
          obtain ⟨j, d1, g1⟩ := hR r (hl r List.mem_cons_self)
          obtain ⟨j', d2, g2⟩ := q57_rf hR hw
          have ej := q57_one (Nat.eq_of_beq_eq_true b2) d1 d2
          subst ej
          split at b5
          · next a b hq =>
            simp only [Bool.and_eq_true, decide_eq_true_eq] at b5
            have hj := q54_iv hE hq d1
            dsimp only at hj
            obtain ⟨x, hx, dx⟩ := q54_gi b3 g1
            have hx1 : x.toInt = -1 := by
              split at b4
              · next z hz =>
                have := of_decide_eq_true b4
                have := q54_cst hE hz dx
                omega
              · cases b4
            have ex : x = -1 := Int32.toInt_inj.mp (by rw [hx1]; decide)
            subst ex
            have hwi : q50_isi w = true := by
              unfold q50_isi
              rw [hw1]
              simp
            obtain ⟨y, hy, dy⟩ := q54_gi hwi g2
            rw [Nat.eq_of_beq_eq_true b1] at hx
            unfold q50_at at hx hy
            rw [if_neg (by omega)] at hx hy
            have := hJ j.toNat (by omega) y hx hy
            obtain ⟨e3, e4⟩ := q56_hi (x := 207) hE dy (by omega)
            exact ⟨e3, by rw [e4]⟩
          · cases b5
      · exact ⟨hE, rfl⟩
theorem q61_spl {S : q50_S} {lv : List (Nat × q50_V)} {lvc : List (Nat × Value)} {ρ : List Int} {M : q4_M} (h : q50_H × List Int) (hE : q52_E ρ S) (hR : q52_R ρ M S.2.2.2) (hM : q52_M M) (hJ : q60_J M) (hL : q52_L ρ lv lvc) : ∃ ρ1, q52_e ρ ρ1 ∧ q52_E ρ1 (q50_spl S lv h).1 ∧ q52_R ρ1 M (q50_spl S lv h).1.2.2.2 ∧ ∀ v c, (q50_spl S lv h).2 = some (v, c) → ∃ z, q52_d ρ1 v z := by
  obtain ⟨⟨t, a, j⟩, bs⟩ := h
  match t with
  | 0 =>
    refine ⟨ρ, q54_er ρ, hE, hR, fun v c hm => ?_⟩
    have hm : (match q50_look lv a with | some v => q50_spv S v bs | none => none) = some (v, c) := hm
    split at hm
    · next w hw =>
      obtain ⟨x, -, gx⟩ := q54_look hL hw
      exact q61_spv hE gx hm
    · cases hm
  | 1 =>
    have e : q50_spl S lv ((1, a, j), bs) = (bif Nat.blt 0 a && Nat.blt a 124 && Nat.blt j (q51_len a) then (match q50_gf S a j with | (S1, v) => (S1, q50_spv S1 v bs)) else (S, none)) := rfl
    rw [e]
    cases hb : (Nat.blt 0 a && Nat.blt a 124 && Nat.blt j (q51_len a)) with
    | false => exact ⟨ρ, q54_er ρ, hE, hR, fun v c hm => by cases hm⟩
    | true =>
      simp only [Bool.and_eq_true, q54_lq, decide_eq_true_eq] at hb
      obtain ⟨ρ1, e1, e2, e3, e4⟩ := q57_gf hE hR hM hb.1.1 hb.1.2 hb.2
      exact ⟨ρ1, e1, e2, e3, fun v c hm => q61_spv e2 e4 hm⟩
  | 2 =>
    obtain ⟨j1, j2⟩ := q61_jr hE hR hM hJ (R := S.2.2.2) (fun r hr => hr)
    refine ⟨ρ, q54_er ρ, j1, ?_, fun v c hm => by cases hm⟩
    show q52_R ρ M (q50_jr S S.2.2.2).2.2.2
    rw [j2]
    exact hR
  | _ + 3 => exact ⟨ρ, q54_er ρ, hE, hR, fun v c hm => by cases hm⟩
theorem q61_two {ρ : List Int} {S : q50_S} {v : q50_V} {c z : Int} (hE : q52_E ρ S) (hd : q52_d ρ v z) : ∃ T ∈ [q50_hi S v (c - 1), q50_lo S v c], q52_E ρ T ∧ T.2.2.2 = S.2.2.2 := by
  by_cases h : z < c
  · obtain ⟨e3, e4⟩ := q56_hi (x := c - 1) hE hd (by omega)
    exact ⟨_, List.mem_cons_self, e3, by rw [e4]⟩
  · obtain ⟨e1, e2⟩ := q56_lo (x := c) hE hd (by omega)
    exact ⟨_, List.mem_cons_of_mem _ List.mem_cons_self, e1, by rw [e2]⟩
theorem q61_rs {ρ : List Int} {v : q50_V} {x : Value} (hg : q52_g ρ v x) : ∀ {bs : List Int} {S : q50_S}, q52_E ρ S → ∃ T ∈ q50_rs v S bs, q52_E ρ T ∧ T.2.2.2 = S.2.2.2
  | [], S, hE => ⟨S, List.mem_cons_self, hE, rfl⟩
  | c :: r, S, hE => by
    unfold q50_rs
    split
    · next a b hq =>
      cases hb : (q50_sym v && decide (a < c) && decide (c ≤ b)) with
      | false => rw [cond_false]; exact q61_rs hg hE
      | true =>
        rw [cond_true]
        obtain ⟨z, hd⟩ := q60_num hq hg
        by_cases h : z < c
        · obtain ⟨e3, e4⟩ := q56_hi (x := c - 1) hE hd (by omega)
          exact ⟨_, List.mem_cons_self, e3, by rw [e4]⟩
        · obtain ⟨e1, e2⟩ := q56_lo (x := c) hE hd (by omega)
          obtain ⟨T, t1, t2, t3⟩ := q61_rs (bs := r) hg e1
          exact ⟨T, List.mem_cons_of_mem _ t1, t2, by rw [t3, e2]⟩
    · exact ⟨S, List.mem_cons_self, hE, rfl⟩
theorem q61_ca {ρ : List Int} {S : q50_S} {lv : List (Nat × q50_V)} {lvc : List (Nat × Value)} (hE : q52_E ρ S) (hL : q52_L ρ lv lvc) (h : Option (Nat × List Int)) : ∃ T ∈ q50_ca S lv h, q52_E ρ T ∧ T.2.2.2 = S.2.2.2 := by
  unfold q50_ca
  split
  · exact ⟨S, List.mem_cons_self, hE, rfl⟩
  · next n bs =>
    split
    · next v hv =>
      obtain ⟨x, -, gx⟩ := q54_look hL hv
      exact q61_rs gx hE
    · exact ⟨S, List.mem_cons_self, hE, rfl⟩
theorem q61_njF {W : q50_W} {M M' : q4_M} (h : q52_F (q50_nj W) M M') : q52_F W M M' := by
  refine ⟨h.1, fun a j hj => h.2 a j ?_⟩
  cases hb : q50_iw (q50_nj W) a j with
  | false => rfl
  | true =>
    exfalso
    unfold q50_iw at hb hj
    obtain ⟨w, hw, hwb⟩ := List.any_eq_true.mp hb
    have : (W.any fun w => Nat.beq w.1 a && Nat.ble w.2.1 j && Nat.ble j w.2.2) = true := List.any_eq_true.mpr ⟨w, (List.mem_filter.mp hw).1, hwb⟩
    rw [hj] at this
    cases this
section Q61
variable {Γ : Nat → List (Nat × q50_C)} {cur : Nat} {W : q50_W} {hs : List Nat}
theorem q61_unf (f k pc : Nat) (lv : List (Nat × q50_V)) (st : List q50_V) (ce sl : Nat) (S : q50_S) (top fst : Bool) : q50_run Γ cur W hs (f + 1) k pc lv st ce sl S top fst = (
      bif top && !fst && hs.any (Nat.beq pc) then (match st with | [] => some [(S, .inr (pc, lv, ce, sl))] | _ => none)
      else match (match q51_sp k pc with | some h => q50_spl S lv h | none => (S, none)) with
      | (S0, some (v, c)) => q50_each (fun S1 => q50_run Γ cur W hs f k pc lv st ce sl S1 top true) [q50_hi S0 v (c - 1), q50_lo S0 v c]
      | (S0, none) => match q4_cd k pc with
        | none => none
        | some (i, len) => match q50_go (q50_nj W) k pc len lv st ce sl S0 i with
          | none => none
          | some bs => q50_each (fun b => match b with
            | (S', .inl (pc', lv', st', ce', sl')) => q50_run Γ cur W hs f k pc' lv' st' ce' sl' S' top false
            | (S', .inr (.inl (y, as, rest))) => match Γ y with
              | [] => (match q50_frs S' as with
                | (S1, as1) => match q50_run Γ cur W hs f y 0 (q50_args 0 as1) [] 0 0 S1 false true with
                  | none => none
                  | some outs => q50_each (fun o => match o with
                    | (S2, .inl v) => q50_run Γ cur W hs f k (pc + 3) lv (v.toList ++ rest) (ce + q2_mc y) (sl + q2_ms y) S2 top false
                    | (_, .inr _) => none) outs)
              | cs => (match q50_frs S' as with
                | (S1, as1) => q50_each (fun S2 => match q50_apply cur W S2 (q50_args 0 as1) cs with
                  | none => none
                  | some outs => q50_each (fun o => match o with | (S3, v) => q50_run Γ cur W hs f k (pc + 3) lv (v.toList ++ rest) (ce + q2_mc y) (sl + q2_ms y) S3 top false) outs) (q50_ca S1 (q50_args 0 as1) (q51_ca y)))
            | (S', .inr (.inr v)) => some [(S', .inl v)]) bs) := rfl
theorem q61_O {ρ : List Int} {a : Option q50_V} {x : Option Value} {l : List q50_V} {m : List Value} (h : q52_O ρ a x) (hS : q52_S ρ l m) : q52_S ρ (a.toList ++ l) (x.toList ++ m) := by
  cases a with
  | none =>
    cases x with
    | none => exact hS
    | some x => cases h
  | some a =>
    cases x with
    | none => cases h
    | some x => exact ⟨h, hS⟩
theorem q61_run (hΓ : ∀ y c, c ∈ Γ y → c.1 < cur → c.2.1 = y ∧ q60_V c.2) : ∀ (f k pc : Nat) (lv : List (Nat × q50_V)) (st : List q50_V) (ce sl : Nat) (S : q50_S) (top fst : Bool) (ls : List q50_L), q50_run Γ cur W hs f k pc lv st ce sl S top fst = some ls →
    ∀ (ρ : List Int) (lvc : List (Nat × Value)) (stc : List Value) (M : q4_M), q52_E ρ S → q52_R ρ M S.2.2.2 → q52_M M → q60_J M → q52_L ρ lv lvc → q52_S ρ st stc → ∃ o ∈ ls, ∃ ρ' M', q52_e ρ ρ' ∧ q52_E ρ' o.1 ∧ q52_R ρ' M' o.1.2.2.2 ∧ (q52_M M' ∧ q60_J M') ∧ q52_F W M M' ∧ q61_end k pc lvc stc M ce sl ρ' M' o.2 := by
  intro f
  induction f with
  | zero => intro k pc lv st ce sl S top fst ls h; cases h
  | succ f ih =>
    intro k pc lv st ce sl S top fst ls h ρ lvc stc M hE hR hM hJ hL hS
    rw [q61_unf] at h
    cases ht : (top && !fst && hs.any (Nat.beq pc)) with
    | true =>
      rw [ht, cond_true] at h
      split at h
      · cases h
        have := hS.nil
        subst this
        exact ⟨_, List.mem_singleton_self _, ρ, M, q54_er ρ, hE, hR, ⟨hM, hJ⟩, q57_Fr W M, lvc, hL, fun f1 r hr => ⟨f1, hr⟩⟩
      · cases h
    | false =>
      rw [ht, cond_false] at h
      have hsp : ∃ ρ1, q52_e ρ ρ1 ∧ q52_E ρ1 (match q51_sp k pc with | some h => q50_spl S lv h | none => (S, none)).1 ∧ q52_R ρ1 M (match q51_sp k pc with | some h => q50_spl S lv h | none => (S, none)).1.2.2.2 ∧ ∀ v c, (match q51_sp k pc with | some h => q50_spl S lv h | none => (S, none)).2 = some (v, c) → ∃ z, q52_d ρ1 v z := by
        cases q51_sp k pc with
        | none => exact ⟨ρ, q54_er ρ, hE, hR, fun v c hm => by cases hm⟩
        | some h => exact q61_spl h hE hR hM hJ hL
      generalize (match q51_sp k pc with | some h => q50_spl S lv h | none => (S, none)) = sp at h hsp
      obtain ⟨S0, o⟩ := sp
      obtain ⟨ρ1, e1, hE1, hR1, hsp⟩ := hsp
      have hL1 := hL.mono e1
      have hS1 := hS.mono e1
      cases o with
      | some t =>
        obtain ⟨v, z0⟩ := t
        obtain ⟨z, dz⟩ := hsp v z0 rfl
        obtain ⟨T, t1, t2, t3⟩ := q61_two (c := z0) hE1 dz
        obtain ⟨c, c1, c2⟩ := q61_each h T t1
        obtain ⟨o, o1, ρ', M', g1, g2, g3, g4, g5, g6⟩ := ih _ _ _ _ _ _ _ _ _ _ c1 ρ1 lvc stc M t2 (by rw [t3]; exact hR1) hM hJ hL1 hS1
        exact ⟨o, c2 o o1, ρ', M', q54_et e1 g1, g2, g3, g4, g5, g6⟩
      | none =>
        dsimp only at h hE1 hR1
        split at h
        · cases h
        · next i len hcd =>
          split at h
          · cases h
          · next bs hgo =>
            obtain ⟨b, hb, r, hr, hrel⟩ := q59_goS hE1 hR1 hM hgo hL1 hS1
            obtain ⟨c, hc1, hc2⟩ := q61_each h b hb
            obtain ⟨S', bb⟩ := b
            rcases bb with ⟨pc', lv', st', ce', sl'⟩ | ⟨y, as, rest⟩ | v
            · rcases r with ⟨rpc, rlv, rst, rN, rce, rsl⟩ | ⟨ry, ras, rrest⟩ | rv
              · obtain ⟨ρ2, e2, hE2, rfl, hL2, hS2, hR2, hM2, hF2, rfl, rfl⟩ := hrel
                obtain ⟨o, o1, ρ', M', g1, g2, g3, g4, g5, g6⟩ := ih _ _ _ _ _ _ _ _ _ _ hc1 ρ2 rlv rst rN hE2 hR2 hM2 (q60_JF hF2 hJ) hL2 hS2
                exact ⟨o, hc2 o o1, ρ', M', q54_et e1 (q54_et e2 g1), g2, g3, g4, q57_Ft (q61_njF hF2) g5, q61_back (q61_fwd hcd hr) g6⟩
              · obtain ⟨ρ2, -, -, hf⟩ := hrel; cases hf
              · obtain ⟨ρ2, -, -, hf⟩ := hrel; cases hf
            · rcases r with ⟨rpc, rlv, rst, rN, rce, rsl⟩ | ⟨ry, ras, rrest⟩ | rv
              · obtain ⟨ρ2, -, -, hf⟩ := hrel; cases hf
              · obtain ⟨ρ2, e2, hE2, rfl, hA2, hS2, hR2⟩ := hrel
                have hL2 := hL1.mono e2
                dsimp only at hc1
                cases hΓy : Γ y with
                | nil =>
                  rw [hΓy] at hc1
                  dsimp only at hc1
                  obtain ⟨ρ3, e3, hE3, hR3, hA3⟩ := q57_frs hE2 hR2 hA2
                  generalize q50_frs S' as = fr at hc1 hE3 hR3 hA3
                  obtain ⟨S1, as1⟩ := fr
                  dsimp only at hc1
                  split at hc1
                  · cases hc1
                  · next outs hrun =>
                    obtain ⟨o, o1, ρ4, M4, g1, g2, g3, g4, g5, g6⟩ := ih _ _ _ _ _ _ _ _ _ _ hrun ρ3 (lv_args 0 ras) [] M hE3 hR3 hM hJ (q54_args 0 hA3).2 trivial
                    obtain ⟨d, d1, d2⟩ := q61_each hc1 o o1
                    obtain ⟨S2, ov⟩ := o
                    rcases ov with v | cc
                    · obtain ⟨vc, v1, fa, v2⟩ := g6
                      dsimp only at d1
                      have e5 := q54_et e3 g1
                      obtain ⟨o, p1, ρ', M', h1, h2, h3, h4, h5, h6⟩ := ih _ _ _ _ _ _ _ _ _ _ d1 ρ4 lvc (vc.toList ++ rrest) M4 g2 g3 g4.1 g4.2 (hL2.mono e5) (q61_O v1 (hS2.mono e5))
                      exact ⟨o, hc2 o (d2 o p1), ρ', M', q54_et e1 (q54_et e2 (q54_et e5 h1)), h2, h3, h4, q57_Ft g5 h5, q61_back (q61_call hcd hr v2) h6⟩
                    · cases d1
                | cons cc0 cs0 =>
                  rw [hΓy] at hc1
                  dsimp only at hc1
                  obtain ⟨ρ3, e3, hE3, hR3, hA3⟩ := q57_frs hE2 hR2 hA2
                  generalize q50_frs S' as = fr at hc1 hE3 hR3 hA3
                  obtain ⟨S1, as1⟩ := fr
                  dsimp only at hc1 hE3 hR3 hA3
                  have hLa := (q54_args 0 hA3).2
                  obtain ⟨T, t1, t2, t3⟩ := q61_ca hE3 hLa (q51_ca y)
                  obtain ⟨c0, k1, k2⟩ := q61_each hc1 T t1
                  split at k1
                  · cases k1
                  · next outs hap =>
                    obtain ⟨o, o1, ρ4, v, M4, fa, r1, r2, rj, r3, r4, r5, r6, r7⟩ := q61_apply (y := y) t2 (by rw [t3]; exact hR3) hM hJ hLa hap (fun c hcm hlt => hΓ y c (by rw [hΓy]; exact hcm) hlt)
                    obtain ⟨d, d1, d2⟩ := q61_each k1 o o1
                    obtain ⟨S2, ov⟩ := o
                    dsimp only at d1
                    have e5 := q54_et e3 r4
                    obtain ⟨o, p1, ρ', M', h1, h2, h3, h4, h5, h6⟩ := ih _ _ _ _ _ _ _ _ _ _ d1 ρ4 lvc (v.toList ++ rrest) M4 r5 r6 r2 rj (hL2.mono e5) (q61_O r7 (hS2.mono e5))
                    exact ⟨o, hc2 o (k2 o (d2 o p1)), ρ', M', q54_et e1 (q54_et e2 (q54_et e5 h1)), h2, h3, h4, q57_Ft r3 h5, q61_back (q61_call hcd hr r1) h6⟩
              · obtain ⟨ρ2, -, -, hf⟩ := hrel; cases hf
            · rcases r with ⟨rpc, rlv, rst, rN, rce, rsl⟩ | ⟨ry, ras, rrest⟩ | rv
              · obtain ⟨ρ2, -, -, hf⟩ := hrel; cases hf
              · obtain ⟨ρ2, -, -, hf⟩ := hrel; cases hf
              · obtain ⟨ρ2, e2, hE2, hO, hR2⟩ := hrel
                cases hc1
                refine ⟨_, hc2 _ (List.mem_singleton_self _), ρ2, M, q54_et e1 e2, hE2, hR2, ⟨hM, hJ⟩, q57_Fr W M, rv, hO, 1, ?_⟩
                unfold q4_run
                rw [hcd]
                dsimp only
                rw [hr]
/-! ranks -/
def q61_n (lv : List (Nat × Value)) (r : Nat × Int) : Int := if r.1 = 0 then r.2 else match q4_get lv r.2.toNat with
  | some (.int w) => w.toInt
  | some (.long w) => w.toInt
  | _ => 0
def q61_g (lv : List (Nat × Value)) (r : Nat × Int) : Nat := if r.1 = 2 then (18446744073709551616 + q61_n lv r).toNat else (18446744073709551616 - q61_n lv r).toNat
def q61_m (lv : List (Nat × Value)) : q50_K → Nat
  | [] => 0
  | r :: s => q61_g lv r * 73786976294838206464 ^ s.length + q61_m lv s
def q61_b (r : Nat × Int) : Bool := decide (-9223372036854775808 ≤ r.2) && decide (r.2 ≤ 9223372036854775808)
theorem q61_nb {lv : List (Nat × Value)} {r : Nat × Int} (h : q61_b r = true) : -9223372036854775808 ≤ q61_n lv r ∧ q61_n lv r ≤ 9223372036854775808 := by
  unfold q61_b at h
  simp only [Bool.and_eq_true, decide_eq_true_eq] at h
  unfold q61_n
  by_cases e : r.1 = 0
  · rw [if_pos e]; exact h
  · rw [if_neg e]
    split
    · next w _ => have := q53_r32 w; omega
    · next w _ => have := q53_r64 w; omega
    · decide
theorem q61_gb {lv : List (Nat × Value)} {r : Nat × Int} (h : q61_b r = true) : q61_g lv r < 73786976294838206464 := by
  have := q61_nb (lv := lv) h
  unfold q61_g
  split <;> omega
theorem q61_mb {lv : List (Nat × Value)} : ∀ {K : q50_K}, (∀ r ∈ K, q61_b r = true) → q61_m lv K < 73786976294838206464 ^ K.length
  | [], _ => (by decide : (0 : Nat) < 1)
  | r :: s, h => by
    have h1 := q61_mb (lv := lv) (K := s) (fun r hr => h r (List.mem_cons_of_mem _ hr))
    have h2 := q61_gb (lv := lv) (h r List.mem_cons_self)
    show q61_g lv r * 73786976294838206464 ^ s.length + q61_m lv s < 73786976294838206464 ^ (s.length + 1)
    rw [Nat.pow_succ]
    generalize 73786976294838206464 ^ s.length = B at h1 ⊢
    have h3 : (q61_g lv r + 1) * B ≤ 73786976294838206464 * B := Nat.mul_le_mul_right B h2
    rw [Nat.add_mul, Nat.one_mul, Nat.mul_comm 73786976294838206464 B] at h3
    omega
theorem q61_val {ρ : List Int} {S : q50_S} {la : List (Nat × q50_V)} {lca : List (Nat × Value)} {r : Nat × Int} {v : q50_V} (hL : q52_L ρ la lca) (h : q50_rv la r = some v) : q52_d ρ v (q61_n lca r) ∨ (q50_iv S v = none ∧ q50_sym v = false) := by
  unfold q50_rv at h
  unfold q61_n
  rw [q54_bq] at h
  by_cases e : r.1 = 0
  · rw [decide_eq_true e] at h
    cases h
    rw [if_pos e]
    exact Or.inl ⟨Int.le_refl _, Int.le_refl _⟩
  · rw [decide_eq_false e] at h
    rw [if_neg e]
    obtain ⟨x, x1, x2⟩ := q54_look hL h
    rw [x1]
    rcases x2 with ⟨-, w, rfl, h2⟩ | ⟨-, w, rfl, h2⟩ | ⟨h1, -⟩ | ⟨h1, -⟩
    · exact Or.inl h2
    · exact Or.inl h2
    · obtain ⟨t, a, b⟩ := v
      have h1 : t = 6 := h1
      subst h1
      exact Or.inr ⟨rfl, rfl⟩
    · obtain ⟨t, a, b⟩ := v
      have h1 : t = 8 := h1
      subst h1
      exact Or.inr ⟨rfl, rfl⟩
theorem q61_nolf {S : q50_S} {v w : q50_V} {c : Int} (h : (q50_iv S v = none ∧ q50_sym v = false) ∨ (q50_iv S w = none ∧ q50_sym w = false)) : q50_lf S v w c = false ∧ q50_same S v w c = false := by
  unfold q50_lf q50_same q50_cst
  rcases h with ⟨h1, h2⟩ | ⟨h1, h2⟩
  · rw [h1, h2]
    simp
  · rw [h1, h2]
    constructor
    · cases q50_iv S v <;> simp
    · simp
theorem q61_up {ρ : List Int} {S : q50_S} {la lb : List (Nat × q50_V)} {lca lcb : List (Nat × Value)} (hE : q52_E ρ S) (hA : q52_L ρ la lca) (hB : q52_L ρ lb lcb) : ∀ {x y : q50_K}, (∀ r ∈ x, q61_b r = true) → (∀ r ∈ y, q61_b r = true) → x.length = y.length → q50_up S la lb x y = true → q61_m lcb y < q61_m lca x
  | [], _, _, _, _, h => by cases h
  | _ :: _, [], _, _, _, h => by cases h
  | r :: x, s :: y, hx, hy, hl, h => by
    unfold q50_up at h
    simp only [Bool.and_eq_true] at h
    obtain ⟨h0, h⟩ := h
    have h0 : r.1 = s.1 := Nat.eq_of_beq_eq_true h0
    have hl : x.length = y.length := by simpa using hl
    split at h
    · next v w hv hw =>
      have nr := q61_nb (lv := lca) (hx r List.mem_cons_self)
      have ns := q61_nb (lv := lcb) (hy s List.mem_cons_self)
      have my := q61_mb (lv := lcb) (K := y) (fun r hr => hy r (List.mem_cons_of_mem _ hr))
      have dv := q61_val (S := S) hA hv
      have dw := q61_val (S := S) hB hw
      have strict : q61_g lcb s < q61_g lca r → q61_m lcb (s :: y) < q61_m lca (r :: x) := by
        intro hlt
        show q61_g lcb s * 73786976294838206464 ^ y.length + q61_m lcb y < q61_g lca r * 73786976294838206464 ^ x.length + q61_m lca x
        rw [hl]
        generalize 73786976294838206464 ^ y.length = B at my ⊢
        have h3 : (q61_g lcb s + 1) * B ≤ q61_g lca r * B := Nat.mul_le_mul_right B hlt
        rw [Nat.add_mul, Nat.one_mul] at h3
        omega
      have bad : ¬ (q52_d ρ v (q61_n lca r) ∧ q52_d ρ w (q61_n lcb s)) → False := by
        intro hn
        have hno : (q50_iv S v = none ∧ q50_sym v = false) ∨ (q50_iv S w = none ∧ q50_sym w = false) := by
          rcases dv with dv | dv
          · rcases dw with dw | dw
            · exact absurd ⟨dv, dw⟩ hn
            · exact Or.inr dw
          · exact Or.inl dv
        have n1 := (q61_nolf (c := 1) hno).1
        have n2 := (q61_nolf (c := 1) hno.symm).1
        have n3 := (q61_nolf (c := 0) hno).2
        rw [n1, n2, n3] at h
        simp at h
      by_cases hd : q52_d ρ v (q61_n lca r) ∧ q52_d ρ w (q61_n lcb s)
      · simp only [Bool.or_eq_true, Bool.and_eq_true] at h
        rcases h with h | ⟨h1, h2⟩
        · apply strict
          unfold q61_g
          rw [← h0]
          rw [q54_bq] at h
          by_cases e : r.1 = 2
          · rw [decide_eq_true e, cond_true] at h
            rw [if_pos e, if_pos e]
            have := q60_lf hE h hd.2 hd.1
            omega
          · rw [decide_eq_false e, cond_false] at h
            rw [if_neg e, if_neg e]
            have := q60_lf hE h hd.1 hd.2
            omega
        · have e := q60_same hE h1 hd.1 hd.2
          have ih := q61_up hE hA hB (fun r hr => hx r (List.mem_cons_of_mem _ hr)) (fun r hr => hy r (List.mem_cons_of_mem _ hr)) hl h2
          show q61_g lcb s * 73786976294838206464 ^ y.length + q61_m lcb y < q61_g lca r * 73786976294838206464 ^ x.length + q61_m lca x
          have eg : q61_g lcb s = q61_g lca r := by
            unfold q61_g
            rw [← h0, show q61_n lca r = q61_n lcb s by omega]
          rw [hl, eg]
          omega
      · exact absurd hd bad
    · cases h
/-- ranks of one length, their numbers not too large -/
def q61_rb (c : q50_C) : Bool := c.2.2.2.1.all (fun q => q.2.1.all q61_b && c.2.2.2.1.all (fun q' => Nat.beq q.2.1.length q'.2.1.length))
def q61_post (c : q50_C) (ce sl : Nat) (ρ0 : List Int) (pc : Nat) (lv : List (Nat × Value)) (M : q4_M) : Prop := ∃ (f : Nat) (v : Option Value) (M' : q4_M), q4_run f c.1 pc lv [] M ce sl = some (v, M') ∧ q52_M M' ∧ q60_J M' ∧ q52_F c.2.2.1 M M' ∧ ∃ P ∈ c.2.2.2.2, q60_out ρ0 M' P v
theorem q61_leaf {c : q50_C} {ce sl pc : Nat} {ρ0 ρ' : List Int} {rk : Option (List (Nat × q50_V) × q50_K)} {o : q50_L} {lvc : List (Nat × Value)} {M M' : q4_M} (hgo : c.2.2.2.2.all (fun P => q50_gh 0 ρ0.length P.2.1) = true) (hgc : c.2.2.2.1.all (fun q => q50_gh 0 ρ0.length q.2.2.2.1) = true)
    (h : q50_leaf ce sl c rk o = true) (he : q52_e ρ0 ρ') (hE : q52_E ρ' o.1) (hR : q52_R ρ' M' o.1.2.2.2) (hM : q52_M M') (hJ : q60_J M') (hF : q52_F c.2.2.1 M M') (hend : q61_end c.1 pc lvc [] M ce sl ρ' M' o.2) :
    q61_post c ce sl ρ0 pc lvc M ∨ ∃ q ∈ c.2.2.2.1, ∃ zs lv', q52_e ρ0 zs ∧ q60_in zs M' q.2.2 lv' ∧ (∀ la ra, rk = some (la, ra) → (∀ r ∈ ra, q61_b r = true) → (∀ r ∈ q.2.1, q61_b r = true) → ra.length = q.2.1.length → ∀ lca, q52_L ρ' la lca → q61_m lv' q.2.1 < q61_m lca ra) ∧ (q61_post c ce sl ρ0 q.1 lv' M' → q61_post c ce sl ρ0 pc lvc M) := by
  obtain ⟨S, ov⟩ := o
  rcases ov with (_ | v) | ⟨pc', lv, ce', sl'⟩
  · obtain ⟨vc, v1, f', v2⟩ := hend
    cases vc with
    | some x => cases v1
    | none =>
      obtain ⟨P, hP, hb⟩ := List.any_eq_true.mp h
      simp only [Bool.and_eq_true] at hb
      obtain ⟨hb1, hb2⟩ := hb
      split at hb2
      · next sm hm =>
        obtain ⟨S1, sg⟩ := sm
        obtain ⟨ρ1, e1, e2, e3, e4, zs, d1, d2⟩ := q60_match (lvc := []) hE hR hM (fun q hq => by cases hq) hm
        have hpre := q60_pre d1 (q54_et he e1) (q60_gh 0 _ (List.all_eq_true.mp hgo P hP) e4)
        refine Or.inl ⟨f', none, M', v2, hM, hJ, hF, P, hP, zs, hpre, d2.1, d2.2.1, ?_⟩
        generalize P.2.2 = l at hb1
        cases l with
        | nil => trivial
        | cons q r => cases hb1
      · cases hb2
  · obtain ⟨vc, v1, f', v2⟩ := hend
    cases vc with
    | none => cases v1
    | some x =>
      obtain ⟨P, hP, hb⟩ := List.any_eq_true.mp h
      simp only [Bool.and_eq_true] at hb
      obtain ⟨hb1, hb2⟩ := hb
      split at hb2
      · next sm hm =>
        obtain ⟨S1, sg⟩ := sm
        have hL0 : q52_L ρ' [(0, v)] [(0, x)] := fun q hq => by
          rw [List.mem_singleton.mp hq]
          exact ⟨x, rfl, v1⟩
        obtain ⟨ρ1, e1, e2, e3, e4, zs, d1, d2⟩ := q60_match (lvc := [(0, x)]) hE hR hM hL0 hm
        have hpre := q60_pre d1 (q54_et he e1) (q60_gh 0 _ (List.all_eq_true.mp hgo P hP) e4)
        refine Or.inl ⟨f', some x, M', v2, hM, hJ, hF, P, hP, zs, hpre, d2.1, d2.2.1, ?_⟩
        have hL := d2.2.2
        generalize P.2.2 = l at hb1 hL
        cases l with
        | nil => cases hb1
        | cons q r =>
          obtain ⟨y, y1, y2⟩ := hL q List.mem_cons_self
          rw [q54_get_cons] at y1
          by_cases e : (0 : Nat) = q.1
          · rw [if_pos e] at y1
            cases y1
            exact y2
          · rw [if_neg e] at y1
            cases y1
      · cases hb2
  · obtain ⟨lvc', l1, l2⟩ := hend
    unfold q50_leaf at h
    dsimp only at h
    simp only [Bool.and_eq_true] at h
    obtain ⟨⟨h1, h2⟩, h3⟩ := h
    have h1 : ce' = ce := Nat.eq_of_beq_eq_true h1
    have h2 : sl' = sl := Nat.eq_of_beq_eq_true h2
    subst h1
    subst h2
    obtain ⟨q, hq, hb⟩ := List.any_eq_true.mp h3
    simp only [Bool.and_eq_true] at hb
    obtain ⟨⟨hb0, hb1⟩, hb2⟩ := hb
    have hb0 : q.1 = pc' := Nat.eq_of_beq_eq_true hb0
    split at hb1
    · next sm hm =>
      obtain ⟨S1, sg⟩ := sm
      obtain ⟨ρ1, e1, e2, e3, e4, zs, d1, d2⟩ := q60_match hE hR hM l1 hm
      have hpre := q60_pre d1 (q54_et he e1) (q60_gh 0 _ (List.all_eq_true.mp hgc q hq) e4)
      refine Or.inr ⟨q, hq, zs, lvc', hpre, d2, fun la ra hrk b1 b2 b3 lca hA => ?_, fun hp => ?_⟩
      · subst hrk
        exact q61_up hE hA l1 b1 b2 b3 hb2
      · obtain ⟨f, v, M2, p1, p2, pj, p3, p4⟩ := hp
        rw [hb0] at p1
        obtain ⟨f', p5⟩ := l2 f _ p1
        exact ⟨f', v, M2, p5, p2, pj, q57_Ft hF p3, p4⟩
    · cases hb1
/-- from a cut one comes to a cut of higher rank, or to an end -/
def q61_step (c : q50_C) (ce sl : Nat) (ρ0 : List Int) (q : Nat × q50_K × q50_P) : Prop := ∀ (ρ : List Int) (lv : List (Nat × Value)) (M : q4_M), q52_e ρ0 ρ → q60_in ρ M q.2.2 lv → q52_M M → q60_J M → q61_post c ce sl ρ0 q.1 lv M ∨ ∃ q' ∈ c.2.2.2.1, ∃ (zs : List Int) (lv' : List (Nat × Value)) (M' : q4_M), q52_e ρ0 zs ∧ q60_in zs M' q'.2.2 lv' ∧ q52_M M' ∧ q60_J M' ∧ q61_m lv' q'.2.1 < q61_m lv q.2.1 ∧ (q61_post c ce sl ρ0 q'.1 lv' M' → q61_post c ce sl ρ0 q.1 lv M)
theorem q61_steps {c : q50_C} {ce sl : Nat} {ρ0 : List Int} (hs : ∀ q ∈ c.2.2.2.1, q61_step c ce sl ρ0 q) : ∀ (m : Nat) (q : Nat × q50_K × q50_P), q ∈ c.2.2.2.1 → ∀ (ρ : List Int) (lv : List (Nat × Value)) (M : q4_M), q52_e ρ0 ρ → q60_in ρ M q.2.2 lv → q52_M M → q60_J M → q61_m lv q.2.1 < m → q61_post c ce sl ρ0 q.1 lv M := by
  intro m
  induction m with
  | zero => intro q _ ρ lv M _ _ _ _ h; exact absurd h (Nat.not_lt_zero _)
  | succ m ih =>
    intro q hq ρ lv M he hin hM hJ hlt
    rcases hs q hq ρ lv M he hin hM hJ with hp | ⟨q', hq', zs, lv', M', z1, z2, z3, z4, z5, z6⟩
    · exact hp
    · exact z6 (ih q' hq' zs lv' M' z1 z2 z3 z4 (by omega))
/-- a segment that is checked is such a step -/
theorem q61_segS (hΓ : ∀ y c, c ∈ Γ y → c.1 < cur → c.2.1 = y ∧ q60_V c.2) {c : q50_C} {ce sl f : Nat} {ρ0 : List Int} (hgo : c.2.2.2.2.all (fun P => q50_gh 0 ρ0.length P.2.1) = true) (hgc : c.2.2.2.1.all (fun q => q50_gh 0 ρ0.length q.2.2.2.1) = true) (hrb : q61_rb c = true) {q : Nat × q50_K × q50_P} (hq : q ∈ c.2.2.2.1)
    (hseg : q50_seg Γ cur ce sl c f q.1 q.2.2 (some (q.2.2.2.2, q.2.1)) = true) : q61_step c ce sl ρ0 q := by
  intro ρ lv M he hin hM hJ
  unfold q50_seg at hseg
  split at hseg
  · next ls hrun =>
    obtain ⟨o, o1, ρ', M', g1, g2, g3, g4, g5, g6⟩ := q61_run hΓ _ _ _ _ _ _ _ _ _ _ _ hrun ρ lv [] M hin.1 hin.2.1 hM hJ hin.2.2 trivial
    have hl := List.all_eq_true.mp hseg o o1
    rcases q61_leaf hgo hgc hl (q54_et he g1) g2 g3 g4.1 g4.2 g5 g6 with hp | ⟨q', hq', zs, lv', z1, z2, z3, z4⟩
    · exact Or.inl hp
    · have hr := List.all_eq_true.mp hrb
      have r1 := hr q hq
      have r2 := hr q' hq'
      simp only [Bool.and_eq_true] at r1 r2
      have hml := z3 _ _ rfl (fun r hr => List.all_eq_true.mp r1.1 r hr) (fun r hr => List.all_eq_true.mp r2.1 r hr) (Nat.eq_of_beq_eq_true (List.all_eq_true.mp r1.2 q' hq')) lv (hin.2.2.mono g1)
      exact Or.inr ⟨q', hq', zs, lv', M', z1, z2, g4.1, g4.2, hml, z4⟩
  · cases hseg
/-- the check, some cuts left to be shown by hand -/
noncomputable def q50_chkx (Γ : Nat → List (Nat × q50_C)) (hp : List Nat) (f cur : Nat) (c : q50_C) : Bool :=
  c.2.2.2.1.all (fun q => q50_gh 0 c.2.1.1.1 q.2.2.2.1) && c.2.2.2.2.all (fun P => q50_gh 0 c.2.1.1.1 P.2.1)
  && q50_seg Γ cur 0 0 c f 0 c.2.1 none && c.2.2.2.1.all (fun q => bif hp.any (Nat.beq q.1) then true else q50_seg Γ cur 0 0 c f q.1 q.2.2 (some (q.2.2.2.2, q.2.1)))
theorem q61_conx (hΓ : ∀ y c, c ∈ Γ y → c.1 < cur → c.2.1 = y ∧ q60_V c.2) {c : q50_C} {f : Nat} {hp : List Nat} (hrb : q61_rb c = true) (h : q50_chkx Γ hp f cur c = true)
    (hand : ∀ (ρ0 : List Int), ρ0.length = c.2.1.1.1 → ∀ q ∈ c.2.2.2.1, hp.any (Nat.beq q.1) = true → q61_step c 0 0 ρ0 q) : q60_V c := by
  intro ρ0 M lv hM hJ hin
  unfold q50_chkx at h
  simp only [Bool.and_eq_true] at h
  obtain ⟨⟨⟨h1, h2⟩, h3⟩, h4⟩ := h
  have hn : ρ0.length = c.2.1.1.1 := hin.1.1
  rw [← hn] at h1 h2
  have hst : ∀ q ∈ c.2.2.2.1, q61_step c 0 0 ρ0 q := by
    intro q hq
    have h5 := List.all_eq_true.mp h4 q hq
    cases hb : hp.any (Nat.beq q.1) with
    | true => exact hand ρ0 hn q hq hb
    | false =>
      rw [hb, cond_false] at h5
      exact q61_segS hΓ h2 h1 hrb hq h5
  unfold q50_seg at h3
  split at h3
  · next ls hrun =>
    obtain ⟨o, o1, ρ', M', g1, g2, g3, g4, g5, g6⟩ := q61_run hΓ _ _ _ _ _ _ _ _ _ _ _ hrun ρ0 lv [] M hin.1 hin.2.1 hM hJ hin.2.2 trivial
    have hl := List.all_eq_true.mp h3 o o1
    rcases q61_leaf h2 h1 hl g1 g2 g3 g4.1 g4.2 g5 g6 with hp | ⟨q', hq', zs, lv', z1, z2, z3, z4⟩
    · exact hp
    · exact z4 (q61_steps hst _ q' hq' zs lv' M' z1 z2 g4.1 g4.2 (Nat.lt_succ_self _))
  · cases h3
/-- a contract that is checked is kept -/
theorem q61_con (hΓ : ∀ y c, c ∈ Γ y → c.1 < cur → c.2.1 = y ∧ q60_V c.2) {c : q50_C} {f : Nat} (hrb : q61_rb c = true) (h : q50_chkx Γ [] f cur c = true) : q60_V c :=
  q61_conx hΓ hrb h (fun _ _ _ _ hb => by cases hb)
end Q61
