/-! FROM RUNS TO FUNCTIONS: what a run that ends has done, over the ints that the cells hold -/
abbrev qa_S : Type := Nat → Nat → Int32
def qa_s (M : q4_M) : qa_S := fun a j => match (M.2 a).2.2 j with
  | .int x => x
  | .ref p => Int32.ofNat p
  | _ => 0
def qa_u (σ : qa_S) (a j : Nat) (v : Int32) : qa_S := fun b i => if b = a ∧ i = j then v else σ b i
def qa_cp (σ : qa_S) (a sp b dp n : Nat) : qa_S := fun c i => if c = b ∧ dp ≤ i ∧ i < dp + n then σ a (sp + (i - dp)) else σ c i
/-- kinds, lengths, refs as they are for good; ints elsewhere -/
def qa_O (M : q4_M) : Prop := M.1 = 124 ∧ (M.2 0).1 = 0 ∧ (∀ j, j < (M.2 0).2.1 → ∃ x, (M.2 0).2.2 j = .int x) ∧ ∀ a, 0 < a → a < 124 → (M.2 a).1 = q51_kind a ∧ (M.2 a).2.1 = q51_len a ∧ ∀ j, j < q51_len a → ((q51_G a j).1 = 0 → ∃ x, (M.2 a).2.2 j = .int x) ∧ (∀ p : Nat, q51_G a j = (6, (p : Int), (p : Int)) → (M.2 a).2.2 j = .ref p)
theorem qa_of {M : q4_M} (h : q52_M M) : qa_O M := by
  obtain ⟨h1, h2, h3, -, h5⟩ := h
  refine ⟨h1, h2, h3, fun a a0 a1 => ⟨(h5 a a0 a1).1, (h5 a a0 a1).2.1, fun j hj => ⟨fun hG => ?_, fun p hG => ?_⟩⟩⟩
  · have h := (h5 a a0 a1).2.2 j hj
    obtain ⟨w, hw, -⟩ := q54_gi (by unfold q50_isi; rw [hG]; rfl) h
    exact ⟨w, hw⟩
  · have h := (h5 a a0 a1).2.2 j hj
    rw [hG] at h
    obtain ⟨x, hx, h2, h3⟩ := q54_ref h
    have e : x = p := by omega
    rw [hx, e]
theorem qa_k0a : ∀ a, a < 124 → q51_kind a = 0 → (q51_uni a = true ∧ ((q51_cell a).2.2.2.1).1 = 0) ∨ (q51_uni a = false ∧ ∀ j, j < q51_len a → ((q51_cell a).2.2.2.2 j).1 = 0) := by decide +kernel
theorem qa_k0 (a : Nat) (h : a < 124) (hk : q51_kind a = 0) (j : Nat) (hj : j < q51_len a) : (q51_G a j).1 = 0 := by
  unfold q51_G
  rcases qa_k0a a h hk with ⟨e, g⟩ | ⟨e, g⟩
  · rw [e, cond_true]; exact g
  · rw [e, cond_false]; exact g j hj
theorem qa_rd {M : q4_M} (hM : qa_O M) {a j : Nat} (h0 : 0 < a) (h1 : a < 124) (hj : j < q51_len a) (hG : (q51_G a j).1 = 0) : (M.2 a).2.2 j = .int (qa_s M a j) := by
  obtain ⟨x, hx⟩ := ((hM.2.2.2 a h0 h1).2.2 j hj).1 hG
  unfold qa_s
  rw [hx]
theorem qa_rd0 {M : q4_M} (hM : qa_O M) {a j : Nat} (h1 : a < M.1) (hk : (M.2 a).1 = 0) (hj : j < (M.2 a).2.1) : (M.2 a).2.2 j = .int (qa_s M a j) := by
  by_cases e : a = 0
  · subst e
    obtain ⟨x, hx⟩ := hM.2.2.1 j hj
    unfold qa_s
    rw [hx]
  · rw [hM.1] at h1
    have h := hM.2.2.2 a (by omega) h1
    rw [h.1] at hk
    rw [h.2.1] at hj
    exact qa_rd hM (by omega) h1 hj (qa_k0 a h1 hk j hj)
theorem qa_put {M : q4_M} (hM : qa_O M) {a j : Nat} {v : Int32} (h0 : 0 < a) (h1 : a < 124) (hG : j < q51_len a → (q51_G a j).1 = 0) : qa_O (q4_put M a j (.int v)) ∧ qa_s (q4_put M a j (.int v)) = qa_u (qa_s M) a j v := by
  have hne : ∀ b, b ≠ a → (q4_put M a j (.int v)).2 b = M.2 b := fun b hb => by
    show (if b = a then _ else _) = _
    rw [if_neg hb]
  have hea : (q4_put M a j (.int v)).2 a = ((M.2 a).1, (M.2 a).2.1, updV (M.2 a).2.2 j (.int v)) := by
    show (if a = a then _ else _) = _
    rw [if_pos rfl]
  constructor
  · obtain ⟨g1, g2, g3, g4⟩ := hM
    refine ⟨g1, ?_, ?_, fun b b0 b1 => ?_⟩
    · rw [hne 0 (by omega)]; exact g2
    · rw [hne 0 (by omega)]; exact g3
    · by_cases e : b = a
      · subst e
        obtain ⟨k1, k2, k3⟩ := g4 b b0 b1
        rw [hea]
        refine ⟨k1, k2, fun i hi => ⟨fun hz => ?_, fun p hp => ?_⟩⟩
        · by_cases e : i = j
          · exact ⟨v, by show updV _ _ _ _ = _; unfold updV; rw [if_pos e]⟩
          · obtain ⟨x, hx⟩ := (k3 i hi).1 hz
            exact ⟨x, by show updV _ _ _ _ = _; unfold updV; rw [if_neg e]; exact hx⟩
        · by_cases e : i = j
          · subst e
            have := hG hi
            rw [hp] at this
            cases this
          · show updV _ _ _ _ = _
            unfold updV
            rw [if_neg e]
            exact (k3 i hi).2 p hp
      · rw [hne b e]
        exact g4 b b0 b1
  · funext b i
    unfold qa_u
    show (match ((q4_put M a j (.int v)).2 b).2.2 i with | .int x => x | .ref p => Int32.ofNat p | _ => 0) = _
    by_cases e : b = a
    · subst e
      rw [hea]
      show (match updV (M.2 b).2.2 j (.int v) i with | .int x => x | .ref p => Int32.ofNat p | _ => 0) = _
      unfold updV
      by_cases e : i = j
      · rw [if_pos e, if_pos ⟨rfl, e⟩]
      · rw [if_neg e, if_neg (fun h => e h.2)]
        rfl
    · rw [hne b e, if_neg (fun h => e h.1)]
      rfl
theorem qa_putr {M : q4_M} (hM : qa_O M) {a j p : Nat} (h0 : 0 < a) (h1 : a < 124) (hG : j < q51_len a → (q51_G a j).1 = 8) : qa_O (q4_put M a j (.ref p)) ∧ qa_s (q4_put M a j (.ref p)) = qa_u (qa_s M) a j (Int32.ofNat p) := by
  have hne : ∀ b, b ≠ a → (q4_put M a j (.ref p)).2 b = M.2 b := fun b hb => by
    show (if b = a then _ else _) = _
    rw [if_neg hb]
  have hea : (q4_put M a j (.ref p)).2 a = ((M.2 a).1, (M.2 a).2.1, updV (M.2 a).2.2 j (.ref p)) := by
    show (if a = a then _ else _) = _
    rw [if_pos rfl]
  constructor
  · obtain ⟨g1, g2, g3, g4⟩ := hM
    refine ⟨g1, ?_, ?_, fun b b0 b1 => ?_⟩
    · rw [hne 0 (by omega)]; exact g2
    · rw [hne 0 (by omega)]; exact g3
    · by_cases e : b = a
      · subst e
        obtain ⟨k1, k2, k3⟩ := g4 b b0 b1
        rw [hea]
        refine ⟨k1, k2, fun i hi => ⟨fun hz => ?_, fun p hp => ?_⟩⟩
        · by_cases e : i = j
          · subst e
            have := hG hi
            rw [hz] at this
            cases this
          · obtain ⟨x, hx⟩ := (k3 i hi).1 hz
            exact ⟨x, by show updV _ _ _ _ = _; unfold updV; rw [if_neg e]; exact hx⟩
        · by_cases e : i = j
          · subst e
            have := hG hi
            rw [hp] at this
            cases this
          · show updV _ _ _ _ = _
            unfold updV
            rw [if_neg e]
            exact (k3 i hi).2 p hp
      · rw [hne b e]
        exact g4 b b0 b1
  · funext b i
    unfold qa_u
    show (match ((q4_put M a j (.ref p)).2 b).2.2 i with | .int x => x | .ref p => Int32.ofNat p | _ => 0) = _
    by_cases e : b = a
    · subst e
      rw [hea]
      show (match updV (M.2 b).2.2 j (.ref p) i with | .int x => x | .ref p => Int32.ofNat p | _ => 0) = _
      unfold updV
      by_cases e : i = j
      · rw [if_pos e, if_pos ⟨rfl, e⟩]
      · rw [if_neg e, if_neg (fun h => e h.2)]
        rfl
    · rw [hne b e, if_neg (fun h => e h.1)]
      rfl
theorem qa_copy {M : q4_M} (hM : qa_O M) {a sp b dp n : Nat} (a0 : a < M.1) (ka : (M.2 a).1 = 0) (b0 : 0 < b) (b1 : b < 124) (kb : (M.2 b).1 = 0) (hs : sp + n ≤ (M.2 a).2.1) (hd : dp + n ≤ (M.2 b).2.1) : qa_O (q4_copy M a sp b dp n) ∧ qa_s (q4_copy M a sp b dp n) = qa_cp (qa_s M) a sp b dp n := by
  have hne : ∀ c, c ≠ b → (q4_copy M a sp b dp n).2 c = M.2 c := fun c hc => by
    show (if c = b then _ else _) = _
    rw [if_neg hc]
  have heb : (q4_copy M a sp b dp n).2 b = ((M.2 b).1, (M.2 b).2.1, va_cpy (M.2 a).2.2 (M.2 b).2.2 sp dp n) := by
    show (if b = b then _ else _) = _
    rw [if_pos rfl]
  constructor
  · obtain ⟨g1, g2, g3, g4⟩ := hM
    refine ⟨g1, ?_, ?_, fun c c0 c1 => ?_⟩
    · rw [hne 0 (by omega)]; exact g2
    · rw [hne 0 (by omega)]; exact g3
    · by_cases e : c = b
      · subst e
        obtain ⟨k1, k2, k3⟩ := g4 c c0 c1
        rw [heb]
        refine ⟨k1, k2, fun i hi => ⟨fun hz => ?_, fun p hp => ?_⟩⟩
        · show ∃ x, va_cpy _ _ _ _ _ i = Value.int x
          unfold va_cpy
          by_cases e : dp ≤ i ∧ i < dp + n
          · rw [if_pos e]
            exact ⟨_, qa_rd0 ⟨g1, g2, g3, g4⟩ a0 ka (by omega)⟩
          · rw [if_neg e]
            exact (k3 i hi).1 hz
        · rw [k1] at kb
          have := qa_k0 c c1 kb i hi
          rw [hp] at this
          cases this
      · rw [hne c e]
        exact g4 c c0 c1
  · funext c i
    unfold qa_cp
    show (match ((q4_copy M a sp b dp n).2 c).2.2 i with | .int x => x | .ref p => Int32.ofNat p | _ => 0) = _
    by_cases e : c = b
    · subst e
      rw [heb]
      show (match va_cpy (M.2 a).2.2 (M.2 c).2.2 sp dp n i with | .int x => x | .ref p => Int32.ofNat p | _ => 0) = _
      unfold va_cpy
      by_cases e : dp ≤ i ∧ i < dp + n
      · rw [if_pos e, if_pos ⟨rfl, e⟩]
        rfl
      · rw [if_neg e, if_neg (fun h => e h.2)]
        rfl
    · rw [hne c e, if_neg (fun h => e h.1)]
      rfl
/-- what the first step of a run that ends leaves -/
def qa_T (f k pc len : Nat) (lv : List (Nat × Value)) (st : List Value) (M : q4_M) (i : Instr) (r : Option Value × q4_M) : Prop :=
  ∃ s, q4_step k pc len lv st M 0 0 i = some s ∧ ((∀ pc' lv' st' M' ce' sl', s = .inl (pc', lv', st', M', ce', sl') → q4_run f k pc' lv' st' M' ce' sl' = some r) ∧ (∀ y as rest, s = .inr (.inl (y, as, rest)) → ∃ v M', q4_run f y 0 (lv_args 0 as) [] M 0 0 = some (v, M') ∧ q4_run f k (pc + 3) lv (v.toList ++ rest) M' (0 + q2_mc y) (0 + q2_ms y) = some r) ∧ (∀ v, s = .inr (.inr v) → r = (v, M)))
section QA
variable {f k pc len q : Nat} {lv : List (Nat × Value)} {st : List Value} {M : q4_M} {r : Option Value × q4_M} {σ : qa_S}
theorem qa_d {i : Instr} (hcd : q4_cd k pc = some (i, len)) (h : q4_run (f + 1) k pc lv st M 0 0 = some r) : qa_T f k pc len lv st M i r := by
  unfold q4_run at h
  rw [hcd] at h
  dsimp only at h
  split at h
  · cases h
  · next pc' lv' st' M' ce' sl' e =>
    exact ⟨_, e, fun _ _ _ _ _ _ e => (by cases e; exact h), fun _ _ _ e => (by cases e), fun _ e => (by cases e)⟩
  · next y as rest e =>
    split at h
    · cases h
    · next v M' hc =>
      exact ⟨_, e, fun _ _ _ _ _ _ e => (by cases e), fun _ _ _ e => (by cases e; exact ⟨v, M', hc, h⟩), fun _ e => (by cases e)⟩
  · next v e =>
    exact ⟨_, e, fun _ _ _ _ _ _ e => (by cases e), fun _ _ _ e => (by cases e), fun _ e => (by cases e; exact (Option.some.inj h).symm)⟩
theorem qa_e {i : Instr} (hcd : q4_cd k pc = some (i, len)) (h : q4_run f k pc lv st M 0 0 = some r) : qa_T f k pc len lv st M i r := by
  cases f with
  | zero => cases h
  | succ f =>
    obtain ⟨s, e, h1, h2, h3⟩ := qa_d hcd h
    refine ⟨s, e, fun pc' lv' st' M' ce' sl' es => q61_mono f (f + 1) _ _ _ _ _ _ _ _ (by omega) (h1 _ _ _ _ _ _ es), fun y as rest es => ?_, h3⟩
    obtain ⟨v, M', a1, a2⟩ := h2 y as rest es
    exact ⟨v, M', q61_mono f (f + 1) _ _ _ _ _ _ _ _ (by omega) a1, q61_mono f (f + 1) _ _ _ _ _ _ _ _ (by omega) a2⟩
theorem qa_g {i : Instr} {lv' : List (Nat × Value)} {st' : List Value} {M' : q4_M} (t : qa_T f k pc len lv st M i r) (hs : ∀ s, q4_step k pc len lv st M 0 0 i = some s → s = .inl (q, lv', st', M', 0, 0)) : q4_run f k q lv' st' M' 0 0 = some r := by
  obtain ⟨s, e, h1, -, -⟩ := t
  exact h1 _ _ _ _ _ _ (hs s e)
theorem qa_iload {n : Nat} {x : Int32} (t : qa_T f k pc len lv st M (.iload n) r) (hq : pc + len = q) (hg : q4_get lv n = some (.int x)) : q4_run f k q lv (.int x :: st) M 0 0 = some r := by
  subst hq
  exact qa_g t (fun s h => by unfold q4_step at h; dsimp only at h; rw [hg] at h; exact (Option.some.inj h).symm)
theorem qa_lload {n : Nat} {x : Int64} (t : qa_T f k pc len lv st M (.lload n) r) (hq : pc + len = q) (hg : q4_get lv n = some (.long x)) : q4_run f k q lv (.long x :: st) M 0 0 = some r := by
  subst hq
  exact qa_g t (fun s h => by unfold q4_step at h; dsimp only at h; rw [hg] at h; exact (Option.some.inj h).symm)
theorem qa_aload {n a : Nat} (t : qa_T f k pc len lv st M (.aload n) r) (hq : pc + len = q) (hg : q4_get lv n = some (.ref a)) : q4_run f k q lv (.ref a :: st) M 0 0 = some r := by
  subst hq
  exact qa_g t (fun s h => by unfold q4_step at h; dsimp only at h; rw [hg] at h; exact (Option.some.inj h).symm)
def qa_L (lv lv' : List (Nat × Value)) (n : Nat) : Prop := ∀ j v, q4_get lv j = some v → j ≠ n → j + 1 ≠ n ∨ v.category = 1 → q4_get lv' j = some v
theorem qa_L1 {n : Nat} {x : Value} : qa_L lv (q4_st1 lv n x) n := by
  intro j v hg h1 h2
  rcases h2 with h2 | h2
  · exact q62_g2' hg h1 h2
  · exact q62_g2 hg h2 h1
theorem qa_istore {n : Nat} {x : Int32} (t : qa_T f k pc len lv (.int x :: st) M (.istore n) r) (hq : pc + len = q) : ∃ lv', q4_run f k q lv' st M 0 0 = some r ∧ q4_get lv' n = some (.int x) ∧ qa_L lv lv' n := by
  subst hq
  exact ⟨_, qa_g t (fun s h => by
    unfold q4_step at h
    dsimp only at h
    split at h
    · exact (Option.some.inj h).symm
    · cases h), q62_g1, qa_L1⟩
theorem qa_g5 {i j : Nat} {v x : Value} (h : q4_get lv j = some x) (hj : j ≠ i) (hj1 : j ≠ i + 1) (hj' : j + 1 ≠ i ∨ x.category = 1) : q4_get (q4_st2 lv i v) j = some x := by
  unfold q4_st2
  rw [q54_get_cons, if_neg (fun e => hj e.symm)]
  apply q54_get_fil _ h
  simp only [Bool.and_eq_true, Bool.not_eq_true', beq_eq_false_iff_ne, ne_eq, Bool.and_eq_false_iff]
  refine ⟨hj, hj1, ?_⟩
  rcases hj' with h | h
  · exact Or.inl h
  · exact Or.inr (by rw [h]; decide)
theorem qa_lstore {n : Nat} {x : Int64} (t : qa_T f k pc len lv (.long x :: st) M (.lstore n) r) (hq : pc + len = q) : ∃ lv', q4_run f k q lv' st M 0 0 = some r ∧ q4_get lv' n = some (.long x) ∧ ∀ j v, q4_get lv j = some v → j ≠ n → j ≠ n + 1 → j + 1 ≠ n ∨ v.category = 1 → q4_get lv' j = some v := by
  subst hq
  exact ⟨_, qa_g t (fun s h => by
    unfold q4_step at h
    dsimp only at h
    split at h
    · exact (Option.some.inj h).symm
    · cases h), q62_g3, fun j v hg h1 h2 h3 => qa_g5 hg h1 h2 h3⟩
theorem qa_iinc {n : Nat} {d : Int} {x z : Int32} (t : qa_T f k pc len lv st M (.iinc n d) r) (hq : pc + len = q) (hz : Int32.ofInt d = z) (hg : q4_get lv n = some (.int x)) : ∃ lv', q4_run f k q lv' st M 0 0 = some r ∧ q4_get lv' n = some (.int (x + z)) ∧ qa_L lv lv' n := by
  subst hq hz
  exact ⟨_, qa_g t (fun s h => by
    unfold q4_step at h
    dsimp only at h
    rw [hg] at h
    dsimp only at h
    split at h
    · exact (Option.some.inj h).symm
    · cases h), q62_g1, qa_L1⟩
theorem qa_push {d : Int} {z : Int32} (t : qa_T f k pc len lv st M (.bipush d) r) (hq : pc + len = q) (hz : Int32.ofInt d = z) : q4_run f k q lv (.int z :: st) M 0 0 = some r := by
  subst hq hz
  exact qa_g t (fun s h => (Option.some.inj h).symm)
theorem qa_lpush {d : Int} {z : Int64} (t : qa_T f k pc len lv st M (.sipush d) r) (hq : pc + len = q) (hz : Int64.ofInt d = z) : q4_run f k q lv (.long z :: st) M 0 0 = some r := by
  subst hq hz
  exact qa_g t (fun s h => (Option.some.inj h).symm)
section OPS
variable {x y : Int32}
theorem qa_iadd (t : qa_T f k pc len lv (.int y :: .int x :: st) M .iadd r) (hq : pc + len = q) : q4_run f k q lv (.int (x + y) :: st) M 0 0 = some r := by
  subst hq; exact qa_g t (fun s h => (Option.some.inj h).symm)
theorem qa_isub (t : qa_T f k pc len lv (.int y :: .int x :: st) M .isub r) (hq : pc + len = q) : q4_run f k q lv (.int (x - y) :: st) M 0 0 = some r := by
  subst hq; exact qa_g t (fun s h => (Option.some.inj h).symm)
theorem qa_imul (t : qa_T f k pc len lv (.int y :: .int x :: st) M .imul r) (hq : pc + len = q) : q4_run f k q lv (.int (x * y) :: st) M 0 0 = some r := by
  subst hq; exact qa_g t (fun s h => (Option.some.inj h).symm)
theorem qa_idiv (t : qa_T f k pc len lv (.int y :: .int x :: st) M .idiv r) (hq : pc + len = q) : q4_run f k q lv (.int (x / y) :: st) M 0 0 = some r := by
  subst hq
  exact qa_g t (fun s h => by
    unfold q4_step at h
    dsimp only at h
    split at h
    · cases h
    · exact (Option.some.inj h).symm)
theorem qa_irem (t : qa_T f k pc len lv (.int y :: .int x :: st) M .irem r) (hq : pc + len = q) : q4_run f k q lv (.int (x - x / y * y) :: st) M 0 0 = some r := by
  subst hq
  exact qa_g t (fun s h => by
    unfold q4_step at h
    dsimp only at h
    split at h
    · cases h
    · exact (Option.some.inj h).symm)
theorem qa_ineg (t : qa_T f k pc len lv (.int x :: st) M .ineg r) (hq : pc + len = q) : q4_run f k q lv (.int (-x) :: st) M 0 0 = some r := by
  subst hq; exact qa_g t (fun s h => (Option.some.inj h).symm)
theorem qa_ishl (t : qa_T f k pc len lv (.int y :: .int x :: st) M .ishl r) (hq : pc + len = q) : q4_run f k q lv (.int (x <<< (y &&& 31)) :: st) M 0 0 = some r := by
  subst hq; exact qa_g t (fun s h => (Option.some.inj h).symm)
theorem qa_ishr (t : qa_T f k pc len lv (.int y :: .int x :: st) M .ishr r) (hq : pc + len = q) : q4_run f k q lv (.int (x >>> (y &&& 31)) :: st) M 0 0 = some r := by
  subst hq; exact qa_g t (fun s h => (Option.some.inj h).symm)
theorem qa_iushr (t : qa_T f k pc len lv (.int y :: .int x :: st) M .iushr r) (hq : pc + len = q) : q4_run f k q lv (.int (x.toUInt32 >>> (y.toUInt32 &&& Int32.toUInt32 31)).toInt32 :: st) M 0 0 = some r := by
  subst hq; exact qa_g t (fun s h => (Option.some.inj h).symm)
theorem qa_iand (t : qa_T f k pc len lv (.int y :: .int x :: st) M .iand r) (hq : pc + len = q) : q4_run f k q lv (.int (x &&& y) :: st) M 0 0 = some r := by
  subst hq; exact qa_g t (fun s h => (Option.some.inj h).symm)
theorem qa_ior (t : qa_T f k pc len lv (.int y :: .int x :: st) M .ior r) (hq : pc + len = q) : q4_run f k q lv (.int (x ||| y) :: st) M 0 0 = some r := by
  subst hq; exact qa_g t (fun s h => (Option.some.inj h).symm)
theorem qa_ixor (t : qa_T f k pc len lv (.int y :: .int x :: st) M .ixor r) (hq : pc + len = q) : q4_run f k q lv (.int (x ^^^ y) :: st) M 0 0 = some r := by
  subst hq; exact qa_g t (fun s h => (Option.some.inj h).symm)
theorem qa_i2l (t : qa_T f k pc len lv (.int x :: st) M .i2l r) (hq : pc + len = q) : q4_run f k q lv (.long x.toInt64 :: st) M 0 0 = some r := by
  subst hq; exact qa_g t (fun s h => (Option.some.inj h).symm)
theorem qa_ift {c : ClassFile.Cond} {T : Int} (t : qa_T f k pc len lv (.int y :: .int x :: st) M (.if_icmp c T) r) (hq : T.toNat = q) (hc : q4_icmp c x y = true) : q4_run f k q lv st M 0 0 = some r := by
  subst hq
  exact qa_g t (fun s h => by unfold q4_step at h; dsimp only at h; rw [if_pos hc] at h; exact (Option.some.inj h).symm)
theorem qa_iff {c : ClassFile.Cond} {T : Int} (t : qa_T f k pc len lv (.int y :: .int x :: st) M (.if_icmp c T) r) (hq : pc + len = q) (hc : q4_icmp c x y = false) : q4_run f k q lv st M 0 0 = some r := by
  subst hq
  exact qa_g t (fun s h => by unfold q4_step at h; dsimp only at h; rw [if_neg (by rw [hc]; decide)] at h; exact (Option.some.inj h).symm)
theorem qa_ict {c : ClassFile.Cond} {T : Int} (t : qa_T f k pc len lv (.int x :: st) M (.ifCond c T) r) (hq : T.toNat = q) (hc : q4_icmp c x 0 = true) : q4_run f k q lv st M 0 0 = some r := by
  subst hq
  exact qa_g t (fun s h => by unfold q4_step at h; dsimp only at h; rw [if_pos hc] at h; exact (Option.some.inj h).symm)
theorem qa_icf {c : ClassFile.Cond} {T : Int} (t : qa_T f k pc len lv (.int x :: st) M (.ifCond c T) r) (hq : pc + len = q) (hc : q4_icmp c x 0 = false) : q4_run f k q lv st M 0 0 = some r := by
  subst hq
  exact qa_g t (fun s h => by unfold q4_step at h; dsimp only at h; rw [if_neg (by rw [hc]; decide)] at h; exact (Option.some.inj h).symm)
theorem qa_T_lt (c : x < y) : q4_icmp .lt x y = true := decide_eq_true c
theorem qa_F_lt (c : ¬ x < y) : q4_icmp .lt x y = false := decide_eq_false c
theorem qa_T_ge (c : ¬ x < y) : q4_icmp .ge x y = true := decide_eq_true (Int32.not_lt.mp c)
theorem qa_F_ge (c : x < y) : q4_icmp .ge x y = false := decide_eq_false (fun h => Int32.not_lt.mpr h c)
theorem qa_T_gt (c : y < x) : q4_icmp .gt x y = true := decide_eq_true c
theorem qa_F_gt (c : ¬ y < x) : q4_icmp .gt x y = false := decide_eq_false c
theorem qa_T_le (c : ¬ y < x) : q4_icmp .le x y = true := decide_eq_true (Int32.not_lt.mp c)
theorem qa_F_le (c : y < x) : q4_icmp .le x y = false := decide_eq_false (fun h => Int32.not_lt.mpr h c)
theorem qa_T_eq (c : x = y) : q4_icmp .eq x y = true := decide_eq_true c
theorem qa_F_eq (c : ¬ x = y) : q4_icmp .eq x y = false := decide_eq_false c
theorem qa_T_ne (c : ¬ x = y) : q4_icmp .ne x y = true := by show (!decide (x = y)) = true; rw [decide_eq_false c]; rfl
theorem qa_F_ne (c : x = y) : q4_icmp .ne x y = false := by show (!decide (x = y)) = false; rw [decide_eq_true c]; rfl
theorem qa_ls {d T : Int} {ps : Array (Int × Int)} (t : qa_T f k pc len lv (.int x :: st) M (.lookupswitch d ps) r) (hT : Op.lookupswitch.offset ps.toList d x.toInt = T) (hq : T.toNat = q) : q4_run f k q lv st M 0 0 = some r := by
  subst hq hT
  exact qa_g t (fun s h => (Option.some.inj h).symm)
theorem qa_tsd {d lo hi : Int} {ts : Array Int} (t : qa_T f k pc len lv (.int x :: st) M (.tableswitch d lo hi ts) r) (hT : x.toInt < lo ∨ hi < x.toInt) (hq : d.toNat = q) : q4_run f k q lv st M 0 0 = some r := by
  subst hq
  exact qa_g t (fun s h => by unfold q4_step at h; dsimp only at h; rw [if_pos hT] at h; exact (Option.some.inj h).symm)
theorem qa_ts {d lo hi T v : Int} {ts : Array Int} (t : qa_T f k pc len lv (.int x :: st) M (.tableswitch d lo hi ts) r) (hv : x.toInt = v) (hn : lo ≤ v ∧ v ≤ hi) (hT : ts[(v - lo).toNat]? = some T) (hq : T.toNat = q) : q4_run f k q lv st M 0 0 = some r := by
  subst hq hv
  exact qa_g t (fun s h => by
    unfold q4_step at h
    dsimp only at h
    rw [if_neg (by omega)] at h
    rw [hT] at h
    exact (Option.some.inj h).symm)
end OPS
section LOPS
variable {x y : Int64}
theorem qa_ladd (t : qa_T f k pc len lv (.long y :: .long x :: st) M .ladd r) (hq : pc + len = q) : q4_run f k q lv (.long (x + y) :: st) M 0 0 = some r := by
  subst hq; exact qa_g t (fun s h => (Option.some.inj h).symm)
theorem qa_lsub (t : qa_T f k pc len lv (.long y :: .long x :: st) M .lsub r) (hq : pc + len = q) : q4_run f k q lv (.long (x - y) :: st) M 0 0 = some r := by
  subst hq; exact qa_g t (fun s h => (Option.some.inj h).symm)
theorem qa_lmul (t : qa_T f k pc len lv (.long y :: .long x :: st) M .lmul r) (hq : pc + len = q) : q4_run f k q lv (.long (x * y) :: st) M 0 0 = some r := by
  subst hq; exact qa_g t (fun s h => (Option.some.inj h).symm)
theorem qa_ldiv (t : qa_T f k pc len lv (.long y :: .long x :: st) M .ldiv r) (hq : pc + len = q) : q4_run f k q lv (.long (x / y) :: st) M 0 0 = some r := by
  subst hq
  exact qa_g t (fun s h => by
    unfold q4_step at h
    dsimp only at h
    split at h
    · cases h
    · exact (Option.some.inj h).symm)
theorem qa_lrem (t : qa_T f k pc len lv (.long y :: .long x :: st) M .lrem r) (hq : pc + len = q) : q4_run f k q lv (.long (x - x / y * y) :: st) M 0 0 = some r := by
  subst hq
  exact qa_g t (fun s h => by
    unfold q4_step at h
    dsimp only at h
    split at h
    · cases h
    · exact (Option.some.inj h).symm)
theorem qa_lneg (t : qa_T f k pc len lv (.long x :: st) M .lneg r) (hq : pc + len = q) : q4_run f k q lv (.long (-x) :: st) M 0 0 = some r := by
  subst hq; exact qa_g t (fun s h => (Option.some.inj h).symm)
theorem qa_lcmp (t : qa_T f k pc len lv (.long y :: .long x :: st) M .lcmp r) (hq : pc + len = q) : q4_run f k q lv (.int (lg_cmp x y) :: st) M 0 0 = some r := by
  subst hq; exact qa_g t (fun s h => (Option.some.inj h).symm)
end LOPS
theorem qa_goto {T : Int} (t : qa_T f k pc len lv st M (.goto T) r) (hq : T.toNat = q) : q4_run f k q lv st M 0 0 = some r := by
  subst hq; exact qa_g t (fun s h => (Option.some.inj h).symm)
theorem qa_dupi {x : Int32} (t : qa_T f k pc len lv (.int x :: st) M .dup r) (hq : pc + len = q) : q4_run f k q lv (.int x :: .int x :: st) M 0 0 = some r := by
  subst hq; exact qa_g t (fun s h => (Option.some.inj h).symm)
theorem qa_dupa {a : Nat} (t : qa_T f k pc len lv (.ref a :: st) M .dup r) (hq : pc + len = q) : q4_run f k q lv (.ref a :: .ref a :: st) M 0 0 = some r := by
  subst hq; exact qa_g t (fun s h => (Option.some.inj h).symm)
theorem qa_dup2 {x : Int32} {a : Nat} (t : qa_T f k pc len lv (.int x :: .ref a :: st) M .dup2 r) (hq : pc + len = q) : q4_run f k q lv (.int x :: .ref a :: .int x :: .ref a :: st) M 0 0 = some r := by
  subst hq; exact qa_g t (fun s h => (Option.some.inj h).symm)
theorem qa_popi {x : Int32} (t : qa_T f k pc len lv (.int x :: st) M .pop r) (hq : pc + len = q) : q4_run f k q lv st M 0 0 = some r := by
  subst hq; exact qa_g t (fun s h => (Option.some.inj h).symm)
theorem qa_popa {x : Nat} (t : qa_T f k pc len lv (.ref x :: st) M .pop r) (hq : pc + len = q) : q4_run f k q lv st M 0 0 = some r := by
  subst hq; exact qa_g t (fun s h => (Option.some.inj h).symm)
theorem qa_getstatic {a : Nat} (t : qa_T f k pc len lv st M (.getstatic a) r) (hq : pc + len = q) : q4_run f k q lv (.ref a :: st) M 0 0 = some r := by
  subst hq
  exact qa_g t (fun s h => by
    unfold q4_step at h
    dsimp only at h
    split at h
    · exact (Option.some.inj h).symm
    · cases h)
theorem qa_iaload {a jn : Nat} {j : Int32} (t : qa_T f k pc len lv (.int j :: .ref a :: st) M .iaload r) (hq : pc + len = q) (hM : qa_O M) (es : qa_s M = σ) (hj : j.toNatClampNeg = jn) : q4_run f k q lv (.int (σ a jn) :: st) M 0 0 = some r := by
  subst hq es hj
  exact qa_g t (fun s h => by
    unfold q4_step at h
    dsimp only at h
    split at h
    · next c =>
      rw [qa_rd0 hM c.1 c.2.1 c.2.2.2] at h
      exact (Option.some.inj h).symm
    · cases h)
theorem qa_aaload {a b jn : Nat} {j : Int32} (t : qa_T f k pc len lv (.int j :: .ref a :: st) M .aaload r) (hq : pc + len = q) (hM : qa_O M) (hj : j.toNatClampNeg = jn) (ha : 0 < a ∧ a < 124) (hb : ∀ j, j < q51_len a → q51_G a j = (6, ((b + j : Nat) : Int), ((b + j : Nat) : Int))) : q4_run f k q lv (.ref (b + jn) :: st) M 0 0 = some r := by
  subst hq hj
  exact qa_g t (fun s h => by
    unfold q4_step at h
    dsimp only at h
    split at h
    · next c =>
      have hk := hM.2.2.2 a ha.1 ha.2
      have hl := c.2.2.2
      rw [hk.2.1] at hl
      rw [(hk.2.2 _ hl).2 _ (hb _ hl)] at h
      exact (Option.some.inj h).symm
    · cases h)
theorem qa_alen {a : Nat} (t : qa_T f k pc len lv (.ref a :: st) M .arraylength r) (hq : pc + len = q) (hM : qa_O M) (ha : 0 < a ∧ a < 124) {z : Int32} (hz : (q51_len a).toInt32 = z) : q4_run f k q lv (.int z :: st) M 0 0 = some r := by
  subst hq hz
  exact qa_g t (fun s h => by
    unfold q4_step at h
    dsimp only at h
    split at h
    · rw [(hM.2.2.2 a ha.1 ha.2).2.1] at h
      exact (Option.some.inj h).symm
    · cases h)
theorem qa_iastore {a jn : Nat} {j z : Int32} (t : qa_T f k pc len lv (.int z :: .int j :: .ref a :: st) M .iastore r) (hq : pc + len = q) (hM : qa_O M) (es : qa_s M = σ) (hj : j.toNatClampNeg = jn) : ∃ M', q4_run f k q lv st M' 0 0 = some r ∧ qa_O M' ∧ qa_s M' = qa_u σ a jn z := by
  subst hq es hj
  obtain ⟨s, hs, h1, -, -⟩ := t
  unfold q4_step at hs
  dsimp only at hs
  split at hs
  · next c =>
    obtain ⟨c1, c2, c3, c4, c5⟩ := c
    rw [hM.1] at c2
    have a0 : 0 < a := Nat.lt_of_lt_of_le (by decide) c1
    have hk := hM.2.2.2 a a0 c2
    rw [hk.1] at c3
    have hp := qa_put hM (a := a) (j := j.toNatClampNeg) (v := z) a0 c2 (fun hj => qa_k0 a c2 c3 _ hj)
    exact ⟨_, h1 _ _ _ _ _ _ (Option.some.inj hs).symm, hp.1, hp.2⟩
  · cases hs
theorem qa_gi {p a j : Nat} (t : qa_T f k pc len lv (.ref a :: st) M (.getfield p) r) (hq : pc + len = q) (hM : qa_O M) (es : qa_s M = σ) (hj : p % 64 = j) (ha : 0 < a ∧ a < 124 ∧ j < q51_len a ∧ (q51_G a j).1 = 0) : q4_run f k q lv (.int (σ a j) :: st) M 0 0 = some r := by
  subst hq es hj
  exact qa_g t (fun s h => by
    unfold q4_step at h
    dsimp only at h
    split at h
    · rw [qa_rd hM ha.1 ha.2.1 ha.2.2.1 ha.2.2.2] at h
      exact (Option.some.inj h).symm
    · cases h)
theorem qa_gr {p a j b : Nat} (t : qa_T f k pc len lv (.ref a :: st) M (.getfield p) r) (hq : pc + len = q) (hM : qa_O M) (hj : p % 64 = j) (ha : 0 < a ∧ a < 124 ∧ j < q51_len a ∧ q51_G a j = (6, (b : Int), (b : Int))) : q4_run f k q lv (.ref b :: st) M 0 0 = some r := by
  subst hq hj
  exact qa_g t (fun s h => by
    unfold q4_step at h
    dsimp only at h
    split at h
    · rw [((hM.2.2.2 a ha.1 ha.2.1).2.2 _ ha.2.2.1).2 b ha.2.2.2] at h
      exact (Option.some.inj h).symm
    · cases h)
theorem qa_pf {p a j : Nat} {z : Int32} (t : qa_T f k pc len lv (.int z :: .ref a :: st) M (.putfield p) r) (hq : pc + len = q) (hM : qa_O M) (es : qa_s M = σ) (hj : p % 64 = j) (ha : 0 < a ∧ a < 124 ∧ (q51_G a j).1 = 0) : ∃ M', q4_run f k q lv st M' 0 0 = some r ∧ qa_O M' ∧ qa_s M' = qa_u σ a j z := by
  subst hq es hj
  obtain ⟨s, hs, h1, -, -⟩ := t
  unfold q4_step at hs
  dsimp only at hs
  split at hs
  · have hp := qa_put hM (a := a) (j := p % 64) (v := z) ha.1 ha.2.1 (fun _ => ha.2.2)
    exact ⟨_, h1 _ _ _ _ _ _ (Option.some.inj hs).symm, hp.1, hp.2⟩
  · cases hs
theorem qa_pk {p a j b : Nat} (t : qa_T f k pc len lv (.ref b :: .ref a :: st) M (.putfield p) r) (hq : pc + len = q) (hM : qa_O M) (es : qa_s M = σ) (hj : p % 64 = j) (ha : 0 < a ∧ a < 124 ∧ (q51_G a j).1 = 8) {z : Int32} (hz : Int32.ofNat b = z) : ∃ M', q4_run f k q lv st M' 0 0 = some r ∧ qa_O M' ∧ qa_s M' = qa_u σ a j z := by
  subst hq es hj hz
  obtain ⟨s, hs, h1, -, -⟩ := t
  unfold q4_step at hs
  dsimp only at hs
  split at hs
  · have hp := qa_putr hM (a := a) (j := p % 64) (p := b) ha.1 ha.2.1 (fun _ => ha.2.2)
    exact ⟨_, h1 _ _ _ _ _ _ (Option.some.inj hs).symm, hp.1, hp.2⟩
  · cases hs
theorem qa_ac {a b sn dn nn : Nat} {sp dp n : Int32} (t : qa_T f k pc len lv (.int n :: .int dp :: .ref b :: .int sp :: .ref a :: st) M .nop r) (hq : pc + len = q) (hM : qa_O M) (es : qa_s M = σ) (h1 : sp.toNatClampNeg = sn) (h2 : dp.toNatClampNeg = dn) (h3 : n.toNatClampNeg = nn) : ∃ M', q4_run f k q lv st M' 0 0 = some r ∧ qa_O M' ∧ qa_s M' = qa_cp σ a sn b dn nn := by
  subst hq es h1 h2 h3
  obtain ⟨s, hs, h1, -, -⟩ := t
  unfold q4_step at hs
  dsimp only at hs
  split at hs
  · next c =>
    obtain ⟨c1, c2, c3, c4, c5, c6, c7, c8, c9, c10, c11, c12, c13⟩ := c
    rw [hM.1] at c4
    have hp := qa_copy hM (a := a) (b := b) c2 c5 (Nat.lt_of_lt_of_le (by decide) c3) c4 c6 c10 c11
    exact ⟨_, h1 _ _ _ _ _ _ (Option.some.inj hs).symm, hp.1, hp.2⟩
  · cases hs
theorem qa_ri {x : Int32} (t : qa_T f k pc len lv [.int x] M .ireturn r) : r = (some (.int x), M) := by
  obtain ⟨s, hs, -, -, h1⟩ := t
  unfold q4_step at hs
  dsimp only at hs
  generalize q2_ret k = o at hs
  split at hs
  · next e =>
    cases e
    split at hs
    · exact h1 _ (Option.some.inj hs).symm
    · cases hs
  · cases hs
theorem qa_rl {x : Int64} (t : qa_T f k pc len lv [.long x] M .lreturn r) : r = (some (.long x), M) := by
  obtain ⟨s, hs, -, -, h1⟩ := t
  unfold q4_step at hs
  dsimp only at hs
  generalize q2_ret k = o at hs
  split at hs
  · next e =>
    cases e
    exact h1 _ (Option.some.inj hs).symm
  · cases hs
theorem qa_ra {x : Nat} (t : qa_T f k pc len lv [.ref x] M .areturn r) : r = (some (.ref x), M) := by
  obtain ⟨s, hs, -, -, h1⟩ := t
  unfold q4_step at hs
  dsimp only at hs
  generalize q2_ret k = o at hs
  split at hs
  · next e =>
    cases e
    exact h1 _ (Option.some.inj hs).symm
  · cases hs
theorem qa_rv (t : qa_T f k pc len lv [] M .return_ r) : r = (none, M) := by
  obtain ⟨s, hs, -, -, h1⟩ := t
  unfold q4_step at hs
  dsimp only at hs
  generalize q2_ret k = o at hs
  split at hs
  · exact h1 _ (Option.some.inj hs).symm
  · cases hs
theorem qa_cl {y kd : Nat} {s : q4_R} (h : q4_call k y kd st M 0 0 = some s) : s = .inr (.inl (y, (st.take (q2_na y)).reverse, st.drop (q2_na y))) := by
  unfold q4_call at h
  dsimp only at h
  split at h
  · split at h
    · exact (Option.some.inj h).symm
    · next e =>
      split at h
      · exact (Option.some.inj h).symm
      · cases h
    · cases h
  · cases h
theorem qa_c {y : Nat} {as rest : List Value} {i : Instr} {o : Option Value} {σ' : qa_S} (t : qa_T f k pc len lv st M i r) (hi : i = .invokevirtual y ∨ i = .invokestatic y) (has : (st.take (q2_na y)).reverse = as) (hr : st.drop (q2_na y) = rest) (hz : q2_mc y = 0 ∧ q2_ms y = 0) (hq : pc + 3 = q) (H : ∀ r', q4_run f y 0 (lv_args 0 as) [] M 0 0 = some r' → r'.1 = o ∧ qa_O r'.2 ∧ qa_s r'.2 = σ') : ∃ M', q4_run f k q lv (o.toList ++ rest) M' 0 0 = some r ∧ qa_O M' ∧ qa_s M' = σ' := by
  subst hq has hr
  obtain ⟨s, hs, -, h1, -⟩ := t
  have e : s = .inr (.inl (y, (st.take (q2_na y)).reverse, st.drop (q2_na y))) := by
    rcases hi with rfl | rfl
    · exact qa_cl (show q4_call k y 1 st M 0 0 = some s from hs)
    · exact qa_cl (show q4_call k y 0 st M 0 0 = some s from hs)
  obtain ⟨v, M', a1, a2⟩ := h1 _ _ _ e
  rw [hz.1, hz.2] at a2
  obtain ⟨b1, b2, b3⟩ := H _ a1
  have b1 : v = o := b1
  subst b1
  exact ⟨M', a2, b2, b3⟩
theorem qa_c1 {y : Nat} {as rest : List Value} {i : Instr} {x : Value} {σ' : qa_S} (t : qa_T f k pc len lv st M i r) (hi : i = .invokevirtual y ∨ i = .invokestatic y) (has : (st.take (q2_na y)).reverse = as) (hr : st.drop (q2_na y) = rest) (hz : q2_mc y = 0 ∧ q2_ms y = 0) (hq : pc + 3 = q) (H : ∀ r', q4_run f y 0 (lv_args 0 as) [] M 0 0 = some r' → r'.1 = some x ∧ qa_O r'.2 ∧ qa_s r'.2 = σ') : ∃ M', q4_run f k q lv (x :: rest) M' 0 0 = some r ∧ qa_O M' ∧ qa_s M' = σ' := qa_c t hi has hr hz hq H
theorem qa_c0 {y : Nat} {as rest : List Value} {i : Instr} {σ' : qa_S} (t : qa_T f k pc len lv st M i r) (hi : i = .invokevirtual y ∨ i = .invokestatic y) (has : (st.take (q2_na y)).reverse = as) (hr : st.drop (q2_na y) = rest) (hz : q2_mc y = 0 ∧ q2_ms y = 0) (hq : pc + 3 = q) (H : ∀ r', q4_run f y 0 (lv_args 0 as) [] M 0 0 = some r' → r'.1 = none ∧ qa_O r'.2 ∧ qa_s r'.2 = σ') : ∃ M', q4_run f k q lv rest M' 0 0 = some r ∧ qa_O M' ∧ qa_s M' = σ' := qa_c t hi has hr hz hq H
theorem qa_gk {p a j : Nat} (t : qa_T f k pc len lv (.ref a :: st) M (.getfield p) r) (hq : pc + len = q) (hj : p % 64 = j) : ∃ w, (M.2 a).2.2 j = w ∧ q4_run f k q lv (w :: st) M 0 0 = some r := by
  subst hq hj
  exact ⟨_, rfl, qa_g t (fun s h => by
    unfold q4_step at h
    dsimp only at h
    split at h
    · exact (Option.some.inj h).symm
    · cases h)⟩
theorem qa_iak {j : Int32} {w : Value} (t : qa_T f k pc len lv (.int j :: w :: st) M .iaload r) : ∃ a, w = .ref a ∧ a < M.1 := by
  obtain ⟨s, hs, -⟩ := t
  unfold q4_step at hs
  dsimp only at hs
  split at hs
  · next e =>
    cases e
    split at hs
    · next c => exact ⟨_, rfl, c.1⟩
    · cases hs
  · cases hs
theorem qa_isk {z j : Int32} {w : Value} (t : qa_T f k pc len lv (.int z :: .int j :: w :: st) M .iastore r) : ∃ a, w = .ref a ∧ a < M.1 := by
  obtain ⟨s, hs, -⟩ := t
  unfold q4_step at hs
  dsimp only at hs
  split at hs
  · next e =>
    cases e
    split at hs
    · next c => exact ⟨_, rfl, c.2.1⟩
    · cases hs
  · cases hs
theorem qa_sr {a j p : Nat} (e : (M.2 a).2.2 j = .ref p) (h : p < 124) : p = (qa_s M a j).toNatClampNeg := by
  unfold qa_s
  rw [e]
  show p = (Int32.ofNat p).toNatClampNeg
  have : ∀ p, p < 124 → p = (Int32.ofNat p).toNatClampNeg := by decide
  exact this p h
theorem qa_sp {x z : Int32} {v : Int} (c : x = z) (hz : z.toInt = v) : v = x.toInt := by rw [c, hz]
theorem qa_sn {x z : Int32} {v : Int} (c : ¬ x = z) (hz : z.toInt = v) : ¬ v = x.toInt := fun e => c (Int32.toInt_inj.mp (e.symm.trans hz.symm))
end QA
section QM
variable {f k pc : Nat} {lv : List (Nat × Value)} {st : List Value} {M : q4_M} {r : Option Value × q4_M}
theorem qa_gi1 {p : Prop} {d : Decidable p} {i : Nat} {a b : Int32} (c : p) (g : q4_get lv i = some (.int a)) : q4_get lv i = some (.int (if p then a else b)) := by rw [if_pos c]; exact g
theorem qa_gi0 {p : Prop} {d : Decidable p} {i : Nat} {a b : Int32} (c : ¬ p) (g : q4_get lv i = some (.int b)) : q4_get lv i = some (.int (if p then a else b)) := by rw [if_neg c]; exact g
theorem qa_gl1 {p : Prop} {d : Decidable p} {i : Nat} {a b : Int64} (c : p) (g : q4_get lv i = some (.long a)) : q4_get lv i = some (.long (if p then a else b)) := by rw [if_pos c]; exact g
theorem qa_gl0 {p : Prop} {d : Decidable p} {i : Nat} {a b : Int64} (c : ¬ p) (g : q4_get lv i = some (.long b)) : q4_get lv i = some (.long (if p then a else b)) := by rw [if_neg c]; exact g
theorem qa_hi1 {p : Prop} {d : Decidable p} {a b : Int32} (c : p) (h : q4_run f k pc lv (.int a :: st) M 0 0 = some r) : q4_run f k pc lv (.int (if p then a else b) :: st) M 0 0 = some r := by rw [if_pos c]; exact h
theorem qa_hi0 {p : Prop} {d : Decidable p} {a b : Int32} (c : ¬ p) (h : q4_run f k pc lv (.int b :: st) M 0 0 = some r) : q4_run f k pc lv (.int (if p then a else b) :: st) M 0 0 = some r := by rw [if_neg c]; exact h
theorem qa_hl1 {p : Prop} {d : Decidable p} {a b : Int64} (c : p) (h : q4_run f k pc lv (.long a :: st) M 0 0 = some r) : q4_run f k pc lv (.long (if p then a else b) :: st) M 0 0 = some r := by rw [if_pos c]; exact h
theorem qa_hl0 {p : Prop} {d : Decidable p} {a b : Int64} (c : ¬ p) (h : q4_run f k pc lv (.long b :: st) M 0 0 = some r) : q4_run f k pc lv (.long (if p then a else b) :: st) M 0 0 = some r := by rw [if_neg c]; exact h
theorem qa_ms1 {p : Prop} {d : Decidable p} {a b : qa_S} (c : p) (g : qa_s M = a) : qa_s M = (if p then a else b) := by rw [if_pos c]; exact g
theorem qa_ms0 {p : Prop} {d : Decidable p} {a b : qa_S} (c : ¬ p) (g : qa_s M = b) : qa_s M = (if p then a else b) := by rw [if_neg c]; exact g
end QM
/-! loops -/
def qa_wh {T B : Type} (e : T → B) (step : T → T ⊕ B) : Nat → T → B
  | 0, s => e s
  | n + 1, s => match step s with
    | .inl s' => qa_wh e step n s'
    | .inr b => b
theorem qa_whl {T B : Type} {e : T → B} {step : T → T ⊕ B} {n : Nat} {s s' : T} (h : step s = .inl s') : qa_wh e step (n + 1) s = qa_wh e step n s' := by
  show (match step s with | .inl s' => qa_wh e step n s' | .inr b => b) = _
  rw [h]
theorem qa_whr {T B : Type} {e : T → B} {step : T → T ⊕ B} {n : Nat} {s : T} {b : B} (h : step s = .inr b) : qa_wh e step (n + 1) s = b := by
  show (match step s with | .inl s' => qa_wh e step n s' | .inr b => b) = _
  rw [h]
def qa_cs {A B C : Type} (x : A ⊕ B) (g : A → C) (h : B → C) : C := match x with
  | .inl a => g a
  | .inr b => h b
theorem qa_csl {A B C : Type} {x : A ⊕ B} {a : A} (e : x = .inl a) (g : A → C) (h : B → C) : qa_cs x g h = g a := by rw [e]; rfl
theorem qa_csr {A B C : Type} {x : A ⊕ B} {b : B} (e : x = .inr b) (g : A → C) (h : B → C) : qa_cs x g h = h b := by rw [e]; rfl
/-- a value told once -/
def qa_in {A B : Type} (t : A) (F : A → B) : B := F t
theorem qa_ie {A B : Type} {r t : A} (e : r = t) {F : A → B} : qa_in t F = F r := by subst e; rfl
