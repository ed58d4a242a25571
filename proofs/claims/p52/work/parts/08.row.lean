/-! one instruction of the model's, where ours goes on in its frame -/
section Q6
variable {p : Program} {l : Launch} {e : Env} {R : Room} {s : State} {m : MethodId} {args : Array Value} {below : List Frame} {meth : Method} {c : Code} {H : Heap} {locs : List Loc} {Q : State → Prop}
variable {D : va_G} {ro : Nat → Nat} {h0 k pc len ce sl : Nat} {ls : Array Slot} {lv : List (Nat × Value)} {st : List Value} {M : q4_M} {w : Nat × List (Nat × Value) × List Value × q4_M × Nat × Nat} {i : Instr}
/-- what a frame of our method k knows -/
def q6_F (p : Program) (R : Room) (s : State) (m : MethodId) (meth : Method) (c : Code) (D : va_G) (k : Nat) : Prop :=
  p.tables.exec = Jvm.exec ∧ c.code = q3_b k ∧ c.maxLocals = q2_ml k ∧ s.vm.findClass (q2_cn (q2_own k)) = some m.cls ∧ (q2_kd k = 2 → meth.name = "<init>") ∧ q5_cx D s ∧ R.frames = q2_fr k ∧ R.locals = q2_lo k ∧ R.cells = q2_mc k ∧ R.slots = q2_ms k
/-- how it goes on -/
def q6_K (p : Program) (l : Launch) (e : Env) (R : Room) (s : State) (m : MethodId) (args : Array Value) (below : List Frame) (meth : Method) (c : Code) (Q : State → Prop) (D : va_G) (ro : Nat → Nat) (h0 k : Nat) (w : Nat × List (Nat × Value) × List Value × q4_M × Nat × Nat) : Prop :=
  ∀ (H' : Heap) (locs' : List Loc) (ls' : Array Slot), lv_has ls' (q2_ml k) (q5_tl (q5_ad ro h0) w.2.1) → q5_rep D ro h0 s w.2.2.2.1 H' → (∀ x ∈ locs', h0 ≤ x.base) →
    W p l e R s m args below meth c H' locs' w.2.2.2.2.1 w.2.2.2.2.2 Q (F0 m w.1 ls' (w.2.2.1.map (q5_tv (q5_ad ro h0))))
theorem q6_tgt {pc : Nat} {off t : Int} (h : q3_t pc off = some t) : (pc : Int) + off = (t.toNat : Int) := by
  unfold q3_t at h
  split at h
  · cases h; omega
  · cases h
theorem q6_iadd (F : q6_F p R s m meth c D k) (hd : decode (q3_b k) pc = .ok (.iadd, len)) (hn : len = 1) (hi : q3_nm (q2_own k) pc (.iadd) = some i) (hs : q4_step k pc len lv st M ce sl i = some (.inl w)) (hl : lv_has ls (q2_ml k) (q5_tl (q5_ad ro h0) lv)) (hr : q5_rep D ro h0 s M H) (hlo : ∀ x ∈ locs, h0 ≤ x.base) (kk : q6_K p l e R s m args below meth c Q D ro h0 k w) :
    W p l e R s m args below meth c H locs ce sl Q (F0 m pc ls (st.map (q5_tv (q5_ad ro h0)))) := by
  subst hn
  obtain ⟨hx, hb, hml, ho, hin, hc, hR1, hR2, hR3, hR4⟩ := F
  simp only [q3_nm, Option.some.injEq] at hi
  subst hi
  simp only [q4_step] at hs
  split at hs
  · next y x r =>
    cases hs
    simp only [List.map_cons, q5_tv]
    refine lv_iadd hx hb hd ?_
    exact kk _ _ _ hl hr hlo
  · cases hs
theorem q6_isub (F : q6_F p R s m meth c D k) (hd : decode (q3_b k) pc = .ok (.isub, len)) (hn : len = 1) (hi : q3_nm (q2_own k) pc (.isub) = some i) (hs : q4_step k pc len lv st M ce sl i = some (.inl w)) (hl : lv_has ls (q2_ml k) (q5_tl (q5_ad ro h0) lv)) (hr : q5_rep D ro h0 s M H) (hlo : ∀ x ∈ locs, h0 ≤ x.base) (kk : q6_K p l e R s m args below meth c Q D ro h0 k w) :
    W p l e R s m args below meth c H locs ce sl Q (F0 m pc ls (st.map (q5_tv (q5_ad ro h0)))) := by
  subst hn
  obtain ⟨hx, hb, hml, ho, hin, hc, hR1, hR2, hR3, hR4⟩ := F
  simp only [q3_nm, Option.some.injEq] at hi
  subst hi
  simp only [q4_step] at hs
  split at hs
  · next y x r =>
    cases hs
    simp only [List.map_cons, q5_tv]
    refine lv_isub hx hb hd ?_
    exact kk _ _ _ hl hr hlo
  · cases hs
theorem q6_imul (F : q6_F p R s m meth c D k) (hd : decode (q3_b k) pc = .ok (.imul, len)) (hn : len = 1) (hi : q3_nm (q2_own k) pc (.imul) = some i) (hs : q4_step k pc len lv st M ce sl i = some (.inl w)) (hl : lv_has ls (q2_ml k) (q5_tl (q5_ad ro h0) lv)) (hr : q5_rep D ro h0 s M H) (hlo : ∀ x ∈ locs, h0 ≤ x.base) (kk : q6_K p l e R s m args below meth c Q D ro h0 k w) :
    W p l e R s m args below meth c H locs ce sl Q (F0 m pc ls (st.map (q5_tv (q5_ad ro h0)))) := by
  subst hn
  obtain ⟨hx, hb, hml, ho, hin, hc, hR1, hR2, hR3, hR4⟩ := F
  simp only [q3_nm, Option.some.injEq] at hi
  subst hi
  simp only [q4_step] at hs
  split at hs
  · next y x r =>
    cases hs
    simp only [List.map_cons, q5_tv]
    refine lv_imul hx hb hd ?_
    exact kk _ _ _ hl hr hlo
  · cases hs
theorem q6_ishl (F : q6_F p R s m meth c D k) (hd : decode (q3_b k) pc = .ok (.ishl, len)) (hn : len = 1) (hi : q3_nm (q2_own k) pc (.ishl) = some i) (hs : q4_step k pc len lv st M ce sl i = some (.inl w)) (hl : lv_has ls (q2_ml k) (q5_tl (q5_ad ro h0) lv)) (hr : q5_rep D ro h0 s M H) (hlo : ∀ x ∈ locs, h0 ≤ x.base) (kk : q6_K p l e R s m args below meth c Q D ro h0 k w) :
    W p l e R s m args below meth c H locs ce sl Q (F0 m pc ls (st.map (q5_tv (q5_ad ro h0)))) := by
  subst hn
  obtain ⟨hx, hb, hml, ho, hin, hc, hR1, hR2, hR3, hR4⟩ := F
  simp only [q3_nm, Option.some.injEq] at hi
  subst hi
  simp only [q4_step] at hs
  split at hs
  · next y x r =>
    cases hs
    simp only [List.map_cons, q5_tv]
    refine lv_ishl hx hb hd ?_
    exact kk _ _ _ hl hr hlo
  · cases hs
theorem q6_ishr (F : q6_F p R s m meth c D k) (hd : decode (q3_b k) pc = .ok (.ishr, len)) (hn : len = 1) (hi : q3_nm (q2_own k) pc (.ishr) = some i) (hs : q4_step k pc len lv st M ce sl i = some (.inl w)) (hl : lv_has ls (q2_ml k) (q5_tl (q5_ad ro h0) lv)) (hr : q5_rep D ro h0 s M H) (hlo : ∀ x ∈ locs, h0 ≤ x.base) (kk : q6_K p l e R s m args below meth c Q D ro h0 k w) :
    W p l e R s m args below meth c H locs ce sl Q (F0 m pc ls (st.map (q5_tv (q5_ad ro h0)))) := by
  subst hn
  obtain ⟨hx, hb, hml, ho, hin, hc, hR1, hR2, hR3, hR4⟩ := F
  simp only [q3_nm, Option.some.injEq] at hi
  subst hi
  simp only [q4_step] at hs
  split at hs
  · next y x r =>
    cases hs
    simp only [List.map_cons, q5_tv]
    refine lv_ishr hx hb hd ?_
    exact kk _ _ _ hl hr hlo
  · cases hs
theorem q6_iand (F : q6_F p R s m meth c D k) (hd : decode (q3_b k) pc = .ok (.iand, len)) (hn : len = 1) (hi : q3_nm (q2_own k) pc (.iand) = some i) (hs : q4_step k pc len lv st M ce sl i = some (.inl w)) (hl : lv_has ls (q2_ml k) (q5_tl (q5_ad ro h0) lv)) (hr : q5_rep D ro h0 s M H) (hlo : ∀ x ∈ locs, h0 ≤ x.base) (kk : q6_K p l e R s m args below meth c Q D ro h0 k w) :
    W p l e R s m args below meth c H locs ce sl Q (F0 m pc ls (st.map (q5_tv (q5_ad ro h0)))) := by
  subst hn
  obtain ⟨hx, hb, hml, ho, hin, hc, hR1, hR2, hR3, hR4⟩ := F
  simp only [q3_nm, Option.some.injEq] at hi
  subst hi
  simp only [q4_step] at hs
  split at hs
  · next y x r =>
    cases hs
    simp only [List.map_cons, q5_tv]
    refine lv_iand hx hb hd ?_
    exact kk _ _ _ hl hr hlo
  · cases hs
theorem q6_ior (F : q6_F p R s m meth c D k) (hd : decode (q3_b k) pc = .ok (.ior, len)) (hn : len = 1) (hi : q3_nm (q2_own k) pc (.ior) = some i) (hs : q4_step k pc len lv st M ce sl i = some (.inl w)) (hl : lv_has ls (q2_ml k) (q5_tl (q5_ad ro h0) lv)) (hr : q5_rep D ro h0 s M H) (hlo : ∀ x ∈ locs, h0 ≤ x.base) (kk : q6_K p l e R s m args below meth c Q D ro h0 k w) :
    W p l e R s m args below meth c H locs ce sl Q (F0 m pc ls (st.map (q5_tv (q5_ad ro h0)))) := by
  subst hn
  obtain ⟨hx, hb, hml, ho, hin, hc, hR1, hR2, hR3, hR4⟩ := F
  simp only [q3_nm, Option.some.injEq] at hi
  subst hi
  simp only [q4_step] at hs
  split at hs
  · next y x r =>
    cases hs
    simp only [List.map_cons, q5_tv]
    refine lv_ior hx hb hd ?_
    exact kk _ _ _ hl hr hlo
  · cases hs
theorem q6_ixor (F : q6_F p R s m meth c D k) (hd : decode (q3_b k) pc = .ok (.ixor, len)) (hn : len = 1) (hi : q3_nm (q2_own k) pc (.ixor) = some i) (hs : q4_step k pc len lv st M ce sl i = some (.inl w)) (hl : lv_has ls (q2_ml k) (q5_tl (q5_ad ro h0) lv)) (hr : q5_rep D ro h0 s M H) (hlo : ∀ x ∈ locs, h0 ≤ x.base) (kk : q6_K p l e R s m args below meth c Q D ro h0 k w) :
    W p l e R s m args below meth c H locs ce sl Q (F0 m pc ls (st.map (q5_tv (q5_ad ro h0)))) := by
  subst hn
  obtain ⟨hx, hb, hml, ho, hin, hc, hR1, hR2, hR3, hR4⟩ := F
  simp only [q3_nm, Option.some.injEq] at hi
  subst hi
  simp only [q4_step] at hs
  split at hs
  · next y x r =>
    cases hs
    simp only [List.map_cons, q5_tv]
    refine lv_ixor hx hb hd ?_
    exact kk _ _ _ hl hr hlo
  · cases hs
theorem q6_ladd (F : q6_F p R s m meth c D k) (hd : decode (q3_b k) pc = .ok (.ladd, len)) (hn : len = 1) (hi : q3_nm (q2_own k) pc (.ladd) = some i) (hs : q4_step k pc len lv st M ce sl i = some (.inl w)) (hl : lv_has ls (q2_ml k) (q5_tl (q5_ad ro h0) lv)) (hr : q5_rep D ro h0 s M H) (hlo : ∀ x ∈ locs, h0 ≤ x.base) (kk : q6_K p l e R s m args below meth c Q D ro h0 k w) :
    W p l e R s m args below meth c H locs ce sl Q (F0 m pc ls (st.map (q5_tv (q5_ad ro h0)))) := by
  subst hn
  obtain ⟨hx, hb, hml, ho, hin, hc, hR1, hR2, hR3, hR4⟩ := F
  simp only [q3_nm, Option.some.injEq] at hi
  subst hi
  simp only [q4_step] at hs
  split at hs
  · next y x r =>
    cases hs
    simp only [List.map_cons, q5_tv]
    refine lv_ladd hx hb hd ?_
    exact kk _ _ _ hl hr hlo
  · cases hs
theorem q6_lsub (F : q6_F p R s m meth c D k) (hd : decode (q3_b k) pc = .ok (.lsub, len)) (hn : len = 1) (hi : q3_nm (q2_own k) pc (.lsub) = some i) (hs : q4_step k pc len lv st M ce sl i = some (.inl w)) (hl : lv_has ls (q2_ml k) (q5_tl (q5_ad ro h0) lv)) (hr : q5_rep D ro h0 s M H) (hlo : ∀ x ∈ locs, h0 ≤ x.base) (kk : q6_K p l e R s m args below meth c Q D ro h0 k w) :
    W p l e R s m args below meth c H locs ce sl Q (F0 m pc ls (st.map (q5_tv (q5_ad ro h0)))) := by
  subst hn
  obtain ⟨hx, hb, hml, ho, hin, hc, hR1, hR2, hR3, hR4⟩ := F
  simp only [q3_nm, Option.some.injEq] at hi
  subst hi
  simp only [q4_step] at hs
  split at hs
  · next y x r =>
    cases hs
    simp only [List.map_cons, q5_tv]
    refine lv_lsub hx hb hd ?_
    exact kk _ _ _ hl hr hlo
  · cases hs
theorem q6_lmul (F : q6_F p R s m meth c D k) (hd : decode (q3_b k) pc = .ok (.lmul, len)) (hn : len = 1) (hi : q3_nm (q2_own k) pc (.lmul) = some i) (hs : q4_step k pc len lv st M ce sl i = some (.inl w)) (hl : lv_has ls (q2_ml k) (q5_tl (q5_ad ro h0) lv)) (hr : q5_rep D ro h0 s M H) (hlo : ∀ x ∈ locs, h0 ≤ x.base) (kk : q6_K p l e R s m args below meth c Q D ro h0 k w) :
    W p l e R s m args below meth c H locs ce sl Q (F0 m pc ls (st.map (q5_tv (q5_ad ro h0)))) := by
  subst hn
  obtain ⟨hx, hb, hml, ho, hin, hc, hR1, hR2, hR3, hR4⟩ := F
  simp only [q3_nm, Option.some.injEq] at hi
  subst hi
  simp only [q4_step] at hs
  split at hs
  · next y x r =>
    cases hs
    simp only [List.map_cons, q5_tv]
    refine lv_lmul hx hb hd ?_
    exact kk _ _ _ hl hr hlo
  · cases hs
theorem q6_iushr (F : q6_F p R s m meth c D k) (hd : decode (q3_b k) pc = .ok (.iushr, len)) (hn : len = 1) (hi : q3_nm (q2_own k) pc (.iushr) = some i) (hs : q4_step k pc len lv st M ce sl i = some (.inl w)) (hl : lv_has ls (q2_ml k) (q5_tl (q5_ad ro h0) lv)) (hr : q5_rep D ro h0 s M H) (hlo : ∀ x ∈ locs, h0 ≤ x.base) (kk : q6_K p l e R s m args below meth c Q D ro h0 k w) :
    W p l e R s m args below meth c H locs ce sl Q (F0 m pc ls (st.map (q5_tv (q5_ad ro h0)))) := by
  subst hn
  obtain ⟨hx, hb, hml, ho, hin, hc, hR1, hR2, hR3, hR4⟩ := F
  simp only [q3_nm, Option.some.injEq] at hi
  subst hi
  simp only [q4_step] at hs
  split at hs
  · next y x r =>
    cases hs
    simp only [List.map_cons, q5_tv]
    refine lv_iushr hx hb hd rfl ?_
    exact kk _ _ _ hl hr hlo
  · cases hs
theorem q6_idiv (F : q6_F p R s m meth c D k) (hd : decode (q3_b k) pc = .ok (.idiv, len)) (hn : len = 1) (hi : q3_nm (q2_own k) pc (.idiv) = some i) (hs : q4_step k pc len lv st M ce sl i = some (.inl w)) (hl : lv_has ls (q2_ml k) (q5_tl (q5_ad ro h0) lv)) (hr : q5_rep D ro h0 s M H) (hlo : ∀ x ∈ locs, h0 ≤ x.base) (kk : q6_K p l e R s m args below meth c Q D ro h0 k w) :
    W p l e R s m args below meth c H locs ce sl Q (F0 m pc ls (st.map (q5_tv (q5_ad ro h0)))) := by
  subst hn
  obtain ⟨hx, hb, hml, ho, hin, hc, hR1, hR2, hR3, hR4⟩ := F
  simp only [q3_nm, Option.some.injEq] at hi
  subst hi
  simp only [q4_step] at hs
  split at hs
  · next y x r =>
    split at hs
    · cases hs
    · next hz =>
      cases hs
      simp only [List.map_cons, q5_tv]
      refine lv_idiv hx hb hd hz ?_
      exact kk _ _ _ hl hr hlo
  · cases hs
theorem q6_irem (F : q6_F p R s m meth c D k) (hd : decode (q3_b k) pc = .ok (.irem, len)) (hn : len = 1) (hi : q3_nm (q2_own k) pc (.irem) = some i) (hs : q4_step k pc len lv st M ce sl i = some (.inl w)) (hl : lv_has ls (q2_ml k) (q5_tl (q5_ad ro h0) lv)) (hr : q5_rep D ro h0 s M H) (hlo : ∀ x ∈ locs, h0 ≤ x.base) (kk : q6_K p l e R s m args below meth c Q D ro h0 k w) :
    W p l e R s m args below meth c H locs ce sl Q (F0 m pc ls (st.map (q5_tv (q5_ad ro h0)))) := by
  subst hn
  obtain ⟨hx, hb, hml, ho, hin, hc, hR1, hR2, hR3, hR4⟩ := F
  simp only [q3_nm, Option.some.injEq] at hi
  subst hi
  simp only [q4_step] at hs
  split at hs
  · next y x r =>
    split at hs
    · cases hs
    · next hz =>
      cases hs
      simp only [List.map_cons, q5_tv]
      refine lv_irem hx hb hd hz ?_
      exact kk _ _ _ hl hr hlo
  · cases hs
theorem q6_ldiv (F : q6_F p R s m meth c D k) (hd : decode (q3_b k) pc = .ok (.ldiv, len)) (hn : len = 1) (hi : q3_nm (q2_own k) pc (.ldiv) = some i) (hs : q4_step k pc len lv st M ce sl i = some (.inl w)) (hl : lv_has ls (q2_ml k) (q5_tl (q5_ad ro h0) lv)) (hr : q5_rep D ro h0 s M H) (hlo : ∀ x ∈ locs, h0 ≤ x.base) (kk : q6_K p l e R s m args below meth c Q D ro h0 k w) :
    W p l e R s m args below meth c H locs ce sl Q (F0 m pc ls (st.map (q5_tv (q5_ad ro h0)))) := by
  subst hn
  obtain ⟨hx, hb, hml, ho, hin, hc, hR1, hR2, hR3, hR4⟩ := F
  simp only [q3_nm, Option.some.injEq] at hi
  subst hi
  simp only [q4_step] at hs
  split at hs
  · next y x r =>
    split at hs
    · cases hs
    · next hz =>
      cases hs
      simp only [List.map_cons, q5_tv]
      refine lv_ldiv hx hb hd hz ?_
      exact kk _ _ _ hl hr hlo
  · cases hs
theorem q6_lrem (F : q6_F p R s m meth c D k) (hd : decode (q3_b k) pc = .ok (.lrem, len)) (hn : len = 1) (hi : q3_nm (q2_own k) pc (.lrem) = some i) (hs : q4_step k pc len lv st M ce sl i = some (.inl w)) (hl : lv_has ls (q2_ml k) (q5_tl (q5_ad ro h0) lv)) (hr : q5_rep D ro h0 s M H) (hlo : ∀ x ∈ locs, h0 ≤ x.base) (kk : q6_K p l e R s m args below meth c Q D ro h0 k w) :
    W p l e R s m args below meth c H locs ce sl Q (F0 m pc ls (st.map (q5_tv (q5_ad ro h0)))) := by
  subst hn
  obtain ⟨hx, hb, hml, ho, hin, hc, hR1, hR2, hR3, hR4⟩ := F
  simp only [q3_nm, Option.some.injEq] at hi
  subst hi
  simp only [q4_step] at hs
  split at hs
  · next y x r =>
    split at hs
    · cases hs
    · next hz =>
      cases hs
      simp only [List.map_cons, q5_tv]
      refine lv_lrem hx hb hd hz ?_
      exact kk _ _ _ hl hr hlo
  · cases hs
theorem q6_lcmp (F : q6_F p R s m meth c D k) (hd : decode (q3_b k) pc = .ok (.lcmp, len)) (hn : len = 1) (hi : q3_nm (q2_own k) pc (.lcmp) = some i) (hs : q4_step k pc len lv st M ce sl i = some (.inl w)) (hl : lv_has ls (q2_ml k) (q5_tl (q5_ad ro h0) lv)) (hr : q5_rep D ro h0 s M H) (hlo : ∀ x ∈ locs, h0 ≤ x.base) (kk : q6_K p l e R s m args below meth c Q D ro h0 k w) :
    W p l e R s m args below meth c H locs ce sl Q (F0 m pc ls (st.map (q5_tv (q5_ad ro h0)))) := by
  subst hn
  obtain ⟨hx, hb, hml, ho, hin, hc, hR1, hR2, hR3, hR4⟩ := F
  simp only [q3_nm, Option.some.injEq] at hi
  subst hi
  simp only [q4_step] at hs
  split at hs
  · next y x r =>
    cases hs
    simp only [List.map_cons, q5_tv]
    refine W.lcmp hx hb hd ?_
    exact kk _ _ _ hl hr hlo
  · cases hs
theorem q6_ineg (F : q6_F p R s m meth c D k) (hd : decode (q3_b k) pc = .ok (.ineg, len)) (hn : len = 1) (hi : q3_nm (q2_own k) pc (.ineg) = some i) (hs : q4_step k pc len lv st M ce sl i = some (.inl w)) (hl : lv_has ls (q2_ml k) (q5_tl (q5_ad ro h0) lv)) (hr : q5_rep D ro h0 s M H) (hlo : ∀ x ∈ locs, h0 ≤ x.base) (kk : q6_K p l e R s m args below meth c Q D ro h0 k w) :
    W p l e R s m args below meth c H locs ce sl Q (F0 m pc ls (st.map (q5_tv (q5_ad ro h0)))) := by
  subst hn
  obtain ⟨hx, hb, hml, ho, hin, hc, hR1, hR2, hR3, hR4⟩ := F
  simp only [q3_nm, Option.some.injEq] at hi
  subst hi
  simp only [q4_step] at hs
  split at hs
  · next x r =>
    cases hs
    simp only [List.map_cons, q5_tv]
    refine lv_ineg hx hb hd ?_
    exact kk _ _ _ hl hr hlo
  · cases hs
theorem q6_lneg (F : q6_F p R s m meth c D k) (hd : decode (q3_b k) pc = .ok (.lneg, len)) (hn : len = 1) (hi : q3_nm (q2_own k) pc (.lneg) = some i) (hs : q4_step k pc len lv st M ce sl i = some (.inl w)) (hl : lv_has ls (q2_ml k) (q5_tl (q5_ad ro h0) lv)) (hr : q5_rep D ro h0 s M H) (hlo : ∀ x ∈ locs, h0 ≤ x.base) (kk : q6_K p l e R s m args below meth c Q D ro h0 k w) :
    W p l e R s m args below meth c H locs ce sl Q (F0 m pc ls (st.map (q5_tv (q5_ad ro h0)))) := by
  subst hn
  obtain ⟨hx, hb, hml, ho, hin, hc, hR1, hR2, hR3, hR4⟩ := F
  simp only [q3_nm, Option.some.injEq] at hi
  subst hi
  simp only [q4_step] at hs
  split at hs
  · next x r =>
    cases hs
    simp only [List.map_cons, q5_tv]
    refine lv_lneg hx hb hd ?_
    exact kk _ _ _ hl hr hlo
  · cases hs
theorem q6_i2l (F : q6_F p R s m meth c D k) (hd : decode (q3_b k) pc = .ok (.i2l, len)) (hn : len = 1) (hi : q3_nm (q2_own k) pc (.i2l) = some i) (hs : q4_step k pc len lv st M ce sl i = some (.inl w)) (hl : lv_has ls (q2_ml k) (q5_tl (q5_ad ro h0) lv)) (hr : q5_rep D ro h0 s M H) (hlo : ∀ x ∈ locs, h0 ≤ x.base) (kk : q6_K p l e R s m args below meth c Q D ro h0 k w) :
    W p l e R s m args below meth c H locs ce sl Q (F0 m pc ls (st.map (q5_tv (q5_ad ro h0)))) := by
  subst hn
  obtain ⟨hx, hb, hml, ho, hin, hc, hR1, hR2, hR3, hR4⟩ := F
  simp only [q3_nm, Option.some.injEq] at hi
  subst hi
  simp only [q4_step] at hs
  split at hs
  · next x r =>
    cases hs
    simp only [List.map_cons, q5_tv]
    refine lv_i2l hx hb hd rfl ?_
    exact kk _ _ _ hl hr hlo
  · cases hs
theorem q6_l2i (F : q6_F p R s m meth c D k) (hd : decode (q3_b k) pc = .ok (.l2i, len)) (hn : len = 1) (hi : q3_nm (q2_own k) pc (.l2i) = some i) (hs : q4_step k pc len lv st M ce sl i = some (.inl w)) (hl : lv_has ls (q2_ml k) (q5_tl (q5_ad ro h0) lv)) (hr : q5_rep D ro h0 s M H) (hlo : ∀ x ∈ locs, h0 ≤ x.base) (kk : q6_K p l e R s m args below meth c Q D ro h0 k w) :
    W p l e R s m args below meth c H locs ce sl Q (F0 m pc ls (st.map (q5_tv (q5_ad ro h0)))) := by
  subst hn
  obtain ⟨hx, hb, hml, ho, hin, hc, hR1, hR2, hR3, hR4⟩ := F
  simp only [q3_nm, Option.some.injEq] at hi
  subst hi
  simp only [q4_step] at hs
  split at hs
  · next x r =>
    cases hs
    simp only [List.map_cons, q5_tv]
    refine lv_l2i hx hb hd rfl ?_
    exact kk _ _ _ hl hr hlo
  · cases hs
theorem q6_iload {n : Nat} (F : q6_F p R s m meth c D k) (hd : decode (q3_b k) pc = .ok (.iload n, len)) (hn : len = 2) (hi : q3_nm (q2_own k) pc (.iload n) = some i) (hs : q4_step k pc len lv st M ce sl i = some (.inl w)) (hl : lv_has ls (q2_ml k) (q5_tl (q5_ad ro h0) lv)) (hr : q5_rep D ro h0 s M H) (hlo : ∀ x ∈ locs, h0 ≤ x.base) (kk : q6_K p l e R s m args below meth c Q D ro h0 k w) :
    W p l e R s m args below meth c H locs ce sl Q (F0 m pc ls (st.map (q5_tv (q5_ad ro h0)))) := by
  subst hn
  obtain ⟨hx, hb, hml, ho, hin, hc, hR1, hR2, hR3, hR4⟩ := F
  simp only [q3_nm, Option.some.injEq] at hi
  subst hi
  simp only [q4_step] at hs
  split at hs
  · next x hg =>
    cases hs
    refine lv_iload hx hb hd (q5_at hl hg) ?_
    exact kk _ _ _ hl hr hlo
  · cases hs
theorem q6_iload_n {n : Fin 4} (F : q6_F p R s m meth c D k) (hd : decode (q3_b k) pc = .ok (.iload_n n, len)) (hn : len = 1) (hi : q3_nm (q2_own k) pc (.iload_n n) = some i) (hs : q4_step k pc len lv st M ce sl i = some (.inl w)) (hl : lv_has ls (q2_ml k) (q5_tl (q5_ad ro h0) lv)) (hr : q5_rep D ro h0 s M H) (hlo : ∀ x ∈ locs, h0 ≤ x.base) (kk : q6_K p l e R s m args below meth c Q D ro h0 k w) :
    W p l e R s m args below meth c H locs ce sl Q (F0 m pc ls (st.map (q5_tv (q5_ad ro h0)))) := by
  subst hn
  obtain ⟨hx, hb, hml, ho, hin, hc, hR1, hR2, hR3, hR4⟩ := F
  simp only [q3_nm, Option.some.injEq] at hi
  subst hi
  simp only [q4_step] at hs
  split at hs
  · next x hg =>
    cases hs
    refine lv_iload_n hx hb hd rfl (q5_at hl hg) ?_
    exact kk _ _ _ hl hr hlo
  · cases hs
theorem q6_lload {n : Nat} (F : q6_F p R s m meth c D k) (hd : decode (q3_b k) pc = .ok (.lload n, len)) (hn : len = 2) (hi : q3_nm (q2_own k) pc (.lload n) = some i) (hs : q4_step k pc len lv st M ce sl i = some (.inl w)) (hl : lv_has ls (q2_ml k) (q5_tl (q5_ad ro h0) lv)) (hr : q5_rep D ro h0 s M H) (hlo : ∀ x ∈ locs, h0 ≤ x.base) (kk : q6_K p l e R s m args below meth c Q D ro h0 k w) :
    W p l e R s m args below meth c H locs ce sl Q (F0 m pc ls (st.map (q5_tv (q5_ad ro h0)))) := by
  subst hn
  obtain ⟨hx, hb, hml, ho, hin, hc, hR1, hR2, hR3, hR4⟩ := F
  simp only [q3_nm, Option.some.injEq] at hi
  subst hi
  simp only [q4_step] at hs
  split at hs
  · next x hg =>
    cases hs
    refine lv_lload hx hb hd (q5_at hl hg) ?_
    exact kk _ _ _ hl hr hlo
  · cases hs
theorem q6_lload_n {n : Fin 4} (F : q6_F p R s m meth c D k) (hd : decode (q3_b k) pc = .ok (.lload_n n, len)) (hn : len = 1) (hi : q3_nm (q2_own k) pc (.lload_n n) = some i) (hs : q4_step k pc len lv st M ce sl i = some (.inl w)) (hl : lv_has ls (q2_ml k) (q5_tl (q5_ad ro h0) lv)) (hr : q5_rep D ro h0 s M H) (hlo : ∀ x ∈ locs, h0 ≤ x.base) (kk : q6_K p l e R s m args below meth c Q D ro h0 k w) :
    W p l e R s m args below meth c H locs ce sl Q (F0 m pc ls (st.map (q5_tv (q5_ad ro h0)))) := by
  subst hn
  obtain ⟨hx, hb, hml, ho, hin, hc, hR1, hR2, hR3, hR4⟩ := F
  simp only [q3_nm, Option.some.injEq] at hi
  subst hi
  simp only [q4_step] at hs
  split at hs
  · next x hg =>
    cases hs
    refine lv_lload_n hx hb hd rfl (q5_at hl hg) ?_
    exact kk _ _ _ hl hr hlo
  · cases hs
theorem q6_aload {n : Nat} (F : q6_F p R s m meth c D k) (hd : decode (q3_b k) pc = .ok (.aload n, len)) (hn : len = 2) (hi : q3_nm (q2_own k) pc (.aload n) = some i) (hs : q4_step k pc len lv st M ce sl i = some (.inl w)) (hl : lv_has ls (q2_ml k) (q5_tl (q5_ad ro h0) lv)) (hr : q5_rep D ro h0 s M H) (hlo : ∀ x ∈ locs, h0 ≤ x.base) (kk : q6_K p l e R s m args below meth c Q D ro h0 k w) :
    W p l e R s m args below meth c H locs ce sl Q (F0 m pc ls (st.map (q5_tv (q5_ad ro h0)))) := by
  subst hn
  obtain ⟨hx, hb, hml, ho, hin, hc, hR1, hR2, hR3, hR4⟩ := F
  simp only [q3_nm, Option.some.injEq] at hi
  subst hi
  simp only [q4_step] at hs
  split at hs
  · next x hg =>
    cases hs
    refine lv_aload hx hb hd (q5_at hl hg) ?_
    exact kk _ _ _ hl hr hlo
  · cases hs
theorem q6_aload_n {n : Fin 4} (F : q6_F p R s m meth c D k) (hd : decode (q3_b k) pc = .ok (.aload_n n, len)) (hn : len = 1) (hi : q3_nm (q2_own k) pc (.aload_n n) = some i) (hs : q4_step k pc len lv st M ce sl i = some (.inl w)) (hl : lv_has ls (q2_ml k) (q5_tl (q5_ad ro h0) lv)) (hr : q5_rep D ro h0 s M H) (hlo : ∀ x ∈ locs, h0 ≤ x.base) (kk : q6_K p l e R s m args below meth c Q D ro h0 k w) :
    W p l e R s m args below meth c H locs ce sl Q (F0 m pc ls (st.map (q5_tv (q5_ad ro h0)))) := by
  subst hn
  obtain ⟨hx, hb, hml, ho, hin, hc, hR1, hR2, hR3, hR4⟩ := F
  simp only [q3_nm, Option.some.injEq] at hi
  subst hi
  simp only [q4_step] at hs
  split at hs
  · next x hg =>
    cases hs
    refine lv_aload_n hx hb hd rfl (q5_at hl hg) ?_
    exact kk _ _ _ hl hr hlo
  · cases hs
theorem q6_istore {n : Nat} (F : q6_F p R s m meth c D k) (hd : decode (q3_b k) pc = .ok (.istore n, len)) (hn : len = 2) (hi : q3_nm (q2_own k) pc (.istore n) = some i) (hs : q4_step k pc len lv st M ce sl i = some (.inl w)) (hl : lv_has ls (q2_ml k) (q5_tl (q5_ad ro h0) lv)) (hr : q5_rep D ro h0 s M H) (hlo : ∀ x ∈ locs, h0 ≤ x.base) (kk : q6_K p l e R s m args below meth c Q D ro h0 k w) :
    W p l e R s m args below meth c H locs ce sl Q (F0 m pc ls (st.map (q5_tv (q5_ad ro h0)))) := by
  subst hn
  obtain ⟨hx, hb, hml, ho, hin, hc, hR1, hR2, hR3, hR4⟩ := F
  simp only [q3_nm, Option.some.injEq] at hi
  subst hi
  simp only [q4_step] at hs
  split at hs
  · next x r =>
    split at hs
    · next hlt =>
      cases hs
      simp only [List.map_cons, q5_tv]
      refine lv_istore hx hb hd hl hlt (q5_st1 (q5_ad ro h0) lv _ (.int x)) (fun ls1 hl1 => ?_)
      exact kk _ _ _ hl1 hr hlo
    · cases hs
  · cases hs
theorem q6_istore_n {n : Fin 4} (F : q6_F p R s m meth c D k) (hd : decode (q3_b k) pc = .ok (.istore_n n, len)) (hn : len = 1) (hi : q3_nm (q2_own k) pc (.istore_n n) = some i) (hs : q4_step k pc len lv st M ce sl i = some (.inl w)) (hl : lv_has ls (q2_ml k) (q5_tl (q5_ad ro h0) lv)) (hr : q5_rep D ro h0 s M H) (hlo : ∀ x ∈ locs, h0 ≤ x.base) (kk : q6_K p l e R s m args below meth c Q D ro h0 k w) :
    W p l e R s m args below meth c H locs ce sl Q (F0 m pc ls (st.map (q5_tv (q5_ad ro h0)))) := by
  subst hn
  obtain ⟨hx, hb, hml, ho, hin, hc, hR1, hR2, hR3, hR4⟩ := F
  simp only [q3_nm, Option.some.injEq] at hi
  subst hi
  simp only [q4_step] at hs
  split at hs
  · next x r =>
    split at hs
    · next hlt =>
      cases hs
      simp only [List.map_cons, q5_tv]
      refine lv_istore_n hx hb hd rfl hl hlt (q5_st1 (q5_ad ro h0) lv _ (.int x)) (fun ls1 hl1 => ?_)
      exact kk _ _ _ hl1 hr hlo
    · cases hs
  · cases hs
theorem q6_lstore {n : Nat} (F : q6_F p R s m meth c D k) (hd : decode (q3_b k) pc = .ok (.lstore n, len)) (hn : len = 2) (hi : q3_nm (q2_own k) pc (.lstore n) = some i) (hs : q4_step k pc len lv st M ce sl i = some (.inl w)) (hl : lv_has ls (q2_ml k) (q5_tl (q5_ad ro h0) lv)) (hr : q5_rep D ro h0 s M H) (hlo : ∀ x ∈ locs, h0 ≤ x.base) (kk : q6_K p l e R s m args below meth c Q D ro h0 k w) :
    W p l e R s m args below meth c H locs ce sl Q (F0 m pc ls (st.map (q5_tv (q5_ad ro h0)))) := by
  subst hn
  obtain ⟨hx, hb, hml, ho, hin, hc, hR1, hR2, hR3, hR4⟩ := F
  simp only [q3_nm, Option.some.injEq] at hi
  subst hi
  simp only [q4_step] at hs
  split at hs
  · next x r =>
    split at hs
    · next hlt =>
      cases hs
      simp only [List.map_cons, q5_tv]
      refine lv_lstore hx hb hd hl hlt (q5_st2 (q5_ad ro h0) lv _ (.long x)) (fun ls1 hl1 => ?_)
      exact kk _ _ _ hl1 hr hlo
    · cases hs
  · cases hs
theorem q6_lstore_n {n : Fin 4} (F : q6_F p R s m meth c D k) (hd : decode (q3_b k) pc = .ok (.lstore_n n, len)) (hn : len = 1) (hi : q3_nm (q2_own k) pc (.lstore_n n) = some i) (hs : q4_step k pc len lv st M ce sl i = some (.inl w)) (hl : lv_has ls (q2_ml k) (q5_tl (q5_ad ro h0) lv)) (hr : q5_rep D ro h0 s M H) (hlo : ∀ x ∈ locs, h0 ≤ x.base) (kk : q6_K p l e R s m args below meth c Q D ro h0 k w) :
    W p l e R s m args below meth c H locs ce sl Q (F0 m pc ls (st.map (q5_tv (q5_ad ro h0)))) := by
  subst hn
  obtain ⟨hx, hb, hml, ho, hin, hc, hR1, hR2, hR3, hR4⟩ := F
  simp only [q3_nm, Option.some.injEq] at hi
  subst hi
  simp only [q4_step] at hs
  split at hs
  · next x r =>
    split at hs
    · next hlt =>
      cases hs
      simp only [List.map_cons, q5_tv]
      refine lv_lstore_n hx hb hd rfl hl hlt (q5_st2 (q5_ad ro h0) lv _ (.long x)) (fun ls1 hl1 => ?_)
      exact kk _ _ _ hl1 hr hlo
    · cases hs
  · cases hs
theorem q6_astore {n : Nat} (F : q6_F p R s m meth c D k) (hd : decode (q3_b k) pc = .ok (.astore n, len)) (hn : len = 2) (hi : q3_nm (q2_own k) pc (.astore n) = some i) (hs : q4_step k pc len lv st M ce sl i = some (.inl w)) (hl : lv_has ls (q2_ml k) (q5_tl (q5_ad ro h0) lv)) (hr : q5_rep D ro h0 s M H) (hlo : ∀ x ∈ locs, h0 ≤ x.base) (kk : q6_K p l e R s m args below meth c Q D ro h0 k w) :
    W p l e R s m args below meth c H locs ce sl Q (F0 m pc ls (st.map (q5_tv (q5_ad ro h0)))) := by
  subst hn
  obtain ⟨hx, hb, hml, ho, hin, hc, hR1, hR2, hR3, hR4⟩ := F
  simp only [q3_nm, Option.some.injEq] at hi
  subst hi
  simp only [q4_step] at hs
  split at hs
  · next x r =>
    split at hs
    · next hlt =>
      cases hs
      simp only [List.map_cons, q5_tv]
      refine lv_astore hx hb hd hl hlt (q5_st1 (q5_ad ro h0) lv _ (.ref x)) (fun ls1 hl1 => ?_)
      exact kk _ _ _ hl1 hr hlo
    · cases hs
  · cases hs
theorem q6_astore_n {n : Fin 4} (F : q6_F p R s m meth c D k) (hd : decode (q3_b k) pc = .ok (.astore_n n, len)) (hn : len = 1) (hi : q3_nm (q2_own k) pc (.astore_n n) = some i) (hs : q4_step k pc len lv st M ce sl i = some (.inl w)) (hl : lv_has ls (q2_ml k) (q5_tl (q5_ad ro h0) lv)) (hr : q5_rep D ro h0 s M H) (hlo : ∀ x ∈ locs, h0 ≤ x.base) (kk : q6_K p l e R s m args below meth c Q D ro h0 k w) :
    W p l e R s m args below meth c H locs ce sl Q (F0 m pc ls (st.map (q5_tv (q5_ad ro h0)))) := by
  subst hn
  obtain ⟨hx, hb, hml, ho, hin, hc, hR1, hR2, hR3, hR4⟩ := F
  simp only [q3_nm, Option.some.injEq] at hi
  subst hi
  simp only [q4_step] at hs
  split at hs
  · next x r =>
    split at hs
    · next hlt =>
      cases hs
      simp only [List.map_cons, q5_tv]
      refine lv_astore_n hx hb hd rfl hl hlt (q5_st1 (q5_ad ro h0) lv _ (.ref x)) (fun ls1 hl1 => ?_)
      exact kk _ _ _ hl1 hr hlo
    · cases hs
  · cases hs
theorem q6_iconst {v : Int} (F : q6_F p R s m meth c D k) (hd : decode (q3_b k) pc = .ok (.iconst v, len)) (hn : len = 1) (hi : q3_nm (q2_own k) pc (.iconst v) = some i) (hs : q4_step k pc len lv st M ce sl i = some (.inl w)) (hl : lv_has ls (q2_ml k) (q5_tl (q5_ad ro h0) lv)) (hr : q5_rep D ro h0 s M H) (hlo : ∀ x ∈ locs, h0 ≤ x.base) (kk : q6_K p l e R s m args below meth c Q D ro h0 k w) :
    W p l e R s m args below meth c H locs ce sl Q (F0 m pc ls (st.map (q5_tv (q5_ad ro h0)))) := by
  subst hn
  obtain ⟨hx, hb, hml, ho, hin, hc, hR1, hR2, hR3, hR4⟩ := F
  simp only [q3_nm, Option.some.injEq] at hi
  subst hi
  simp only [q4_step] at hs
  cases hs
  refine lv_iconst hx hb hd rfl ?_
  exact kk _ _ _ hl hr hlo
theorem q6_bipush {v : Int} (F : q6_F p R s m meth c D k) (hd : decode (q3_b k) pc = .ok (.bipush v, len)) (hn : len = 2) (hi : q3_nm (q2_own k) pc (.bipush v) = some i) (hs : q4_step k pc len lv st M ce sl i = some (.inl w)) (hl : lv_has ls (q2_ml k) (q5_tl (q5_ad ro h0) lv)) (hr : q5_rep D ro h0 s M H) (hlo : ∀ x ∈ locs, h0 ≤ x.base) (kk : q6_K p l e R s m args below meth c Q D ro h0 k w) :
    W p l e R s m args below meth c H locs ce sl Q (F0 m pc ls (st.map (q5_tv (q5_ad ro h0)))) := by
  subst hn
  obtain ⟨hx, hb, hml, ho, hin, hc, hR1, hR2, hR3, hR4⟩ := F
  simp only [q3_nm] at hi
  split at hi
  · next hv =>
    cases hi
    simp only [q4_step] at hs
    cases hs
    refine lv_bipush hx hb hd hv ?_
    exact kk _ _ _ hl hr hlo
  · cases hi
theorem q6_sipush {v : Int} (F : q6_F p R s m meth c D k) (hd : decode (q3_b k) pc = .ok (.sipush v, len)) (hn : len = 3) (hi : q3_nm (q2_own k) pc (.sipush v) = some i) (hs : q4_step k pc len lv st M ce sl i = some (.inl w)) (hl : lv_has ls (q2_ml k) (q5_tl (q5_ad ro h0) lv)) (hr : q5_rep D ro h0 s M H) (hlo : ∀ x ∈ locs, h0 ≤ x.base) (kk : q6_K p l e R s m args below meth c Q D ro h0 k w) :
    W p l e R s m args below meth c H locs ce sl Q (F0 m pc ls (st.map (q5_tv (q5_ad ro h0)))) := by
  subst hn
  obtain ⟨hx, hb, hml, ho, hin, hc, hR1, hR2, hR3, hR4⟩ := F
  simp only [q3_nm] at hi
  split at hi
  · next hv =>
    cases hi
    simp only [q4_step] at hs
    cases hs
    refine lv_sipush hx hb hd hv ?_
    exact kk _ _ _ hl hr hlo
  · cases hi
theorem q6_lconst {v : Fin 2} (F : q6_F p R s m meth c D k) (hd : decode (q3_b k) pc = .ok (.lconst v, len)) (hn : len = 1) (hi : q3_nm (q2_own k) pc (.lconst v) = some i) (hs : q4_step k pc len lv st M ce sl i = some (.inl w)) (hl : lv_has ls (q2_ml k) (q5_tl (q5_ad ro h0) lv)) (hr : q5_rep D ro h0 s M H) (hlo : ∀ x ∈ locs, h0 ≤ x.base) (kk : q6_K p l e R s m args below meth c Q D ro h0 k w) :
    W p l e R s m args below meth c H locs ce sl Q (F0 m pc ls (st.map (q5_tv (q5_ad ro h0)))) := by
  subst hn
  obtain ⟨hx, hb, hml, ho, hin, hc, hR1, hR2, hR3, hR4⟩ := F
  simp only [q3_nm, Option.some.injEq] at hi
  subst hi
  simp only [q4_step] at hs
  cases hs
  refine lv_lconst (v := Int64.ofInt (v.val : Int)) hx hb hd ?_ ?_
  · rcases v with ⟨_ | _ | n, hv⟩
    · rfl
    · rfl
    · omega
  · exact kk _ _ _ hl hr hlo
theorem q6_ldc {n : Nat} (F : q6_F p R s m meth c D k) (hd : decode (q3_b k) pc = .ok (.ldc n, len)) (hn : len = 2) (hi : q3_nm (q2_own k) pc (.ldc n) = some i) (hs : q4_step k pc len lv st M ce sl i = some (.inl w)) (hl : lv_has ls (q2_ml k) (q5_tl (q5_ad ro h0) lv)) (hr : q5_rep D ro h0 s M H) (hlo : ∀ x ∈ locs, h0 ≤ x.base) (kk : q6_K p l e R s m args below meth c Q D ro h0 k w) :
    W p l e R s m args below meth c H locs ce sl Q (F0 m pc ls (st.map (q5_tv (q5_ad ro h0)))) := by
  subst hn
  obtain ⟨hx, hb, hml, ho, hin, hc, hR1, hR2, hR3, hR4⟩ := F
  simp only [q3_nm, Option.map_eq_some_iff] at hi
  obtain ⟨r, hf, rfl⟩ := hi
  simp only [q4_step] at hs
  cases hs
  obtain ⟨hm, e1, e2⟩ := q3_fd_spec hf
  have hw := q3_mem (List.all_eq_true.mp q3_sK_ok r hm)
  unfold q3_iw at hw
  rw [e1, e2] at hw
  refine lv_ldc hx hb ho (q5_use hc hw rfl rfl) hd ?_
  exact kk _ _ _ hl hr hlo
theorem q6_ldc_w {n : Nat} (F : q6_F p R s m meth c D k) (hd : decode (q3_b k) pc = .ok (.ldc_w n, len)) (hn : len = 3) (hi : q3_nm (q2_own k) pc (.ldc_w n) = some i) (hs : q4_step k pc len lv st M ce sl i = some (.inl w)) (hl : lv_has ls (q2_ml k) (q5_tl (q5_ad ro h0) lv)) (hr : q5_rep D ro h0 s M H) (hlo : ∀ x ∈ locs, h0 ≤ x.base) (kk : q6_K p l e R s m args below meth c Q D ro h0 k w) :
    W p l e R s m args below meth c H locs ce sl Q (F0 m pc ls (st.map (q5_tv (q5_ad ro h0)))) := by
  subst hn
  obtain ⟨hx, hb, hml, ho, hin, hc, hR1, hR2, hR3, hR4⟩ := F
  simp only [q3_nm, Option.map_eq_some_iff] at hi
  obtain ⟨r, hf, rfl⟩ := hi
  simp only [q4_step] at hs
  cases hs
  obtain ⟨hm, e1, e2⟩ := q3_fd_spec hf
  have hw := q3_mem (List.all_eq_true.mp q3_sK_ok r hm)
  unfold q3_iw at hw
  rw [e1, e2] at hw
  refine lv_ldcw hx hb ho (q5_use hc hw rfl rfl) hd ?_
  exact kk _ _ _ hl hr hlo
theorem q6_ldc2_w {n : Nat} (F : q6_F p R s m meth c D k) (hd : decode (q3_b k) pc = .ok (.ldc2_w n, len)) (hn : len = 3) (hi : q3_nm (q2_own k) pc (.ldc2_w n) = some i) (hs : q4_step k pc len lv st M ce sl i = some (.inl w)) (hl : lv_has ls (q2_ml k) (q5_tl (q5_ad ro h0) lv)) (hr : q5_rep D ro h0 s M H) (hlo : ∀ x ∈ locs, h0 ≤ x.base) (kk : q6_K p l e R s m args below meth c Q D ro h0 k w) :
    W p l e R s m args below meth c H locs ce sl Q (F0 m pc ls (st.map (q5_tv (q5_ad ro h0)))) := by
  subst hn
  obtain ⟨hx, hb, hml, ho, hin, hc, hR1, hR2, hR3, hR4⟩ := F
  simp only [q3_nm, Option.map_eq_some_iff] at hi
  obtain ⟨r, hf, rfl⟩ := hi
  simp only [q4_step] at hs
  cases hs
  obtain ⟨hm, e1, e2⟩ := q3_fd_spec hf
  have hw := q3_mem (List.all_eq_true.mp q3_sL_ok r hm)
  unfold q3_jw at hw
  rw [e1, e2] at hw
  refine lv_ldc2 hx hb ho (q5_use hc hw rfl rfl) hd ?_
  exact kk _ _ _ hl hr hlo
theorem q6_dup (F : q6_F p R s m meth c D k) (hd : decode (q3_b k) pc = .ok (.dup, len)) (hn : len = 1) (hi : q3_nm (q2_own k) pc (.dup) = some i) (hs : q4_step k pc len lv st M ce sl i = some (.inl w)) (hl : lv_has ls (q2_ml k) (q5_tl (q5_ad ro h0) lv)) (hr : q5_rep D ro h0 s M H) (hlo : ∀ x ∈ locs, h0 ≤ x.base) (kk : q6_K p l e R s m args below meth c Q D ro h0 k w) :
    W p l e R s m args below meth c H locs ce sl Q (F0 m pc ls (st.map (q5_tv (q5_ad ro h0)))) := by
  subst hn
  obtain ⟨hx, hb, hml, ho, hin, hc, hR1, hR2, hR3, hR4⟩ := F
  simp only [q3_nm, Option.some.injEq] at hi
  subst hi
  simp only [q4_step] at hs
  split at hs
  · next v r =>
    split at hs
    · next hv =>
      cases hs
      simp only [List.map_cons]
      refine lv_dup hx hb hd ((q5_cat _ v).trans hv) ?_
      exact kk _ _ _ hl hr hlo
    · cases hs
  · cases hs
theorem q6_pop (F : q6_F p R s m meth c D k) (hd : decode (q3_b k) pc = .ok (.pop, len)) (hn : len = 1) (hi : q3_nm (q2_own k) pc (.pop) = some i) (hs : q4_step k pc len lv st M ce sl i = some (.inl w)) (hl : lv_has ls (q2_ml k) (q5_tl (q5_ad ro h0) lv)) (hr : q5_rep D ro h0 s M H) (hlo : ∀ x ∈ locs, h0 ≤ x.base) (kk : q6_K p l e R s m args below meth c Q D ro h0 k w) :
    W p l e R s m args below meth c H locs ce sl Q (F0 m pc ls (st.map (q5_tv (q5_ad ro h0)))) := by
  subst hn
  obtain ⟨hx, hb, hml, ho, hin, hc, hR1, hR2, hR3, hR4⟩ := F
  simp only [q3_nm, Option.some.injEq] at hi
  subst hi
  simp only [q4_step] at hs
  split at hs
  · next v r =>
    split at hs
    · next hv =>
      cases hs
      simp only [List.map_cons]
      refine lv_pop hx hb hd ((q5_cat _ v).trans hv) ?_
      exact kk _ _ _ hl hr hlo
    · cases hs
  · cases hs
theorem q6_pop2 (F : q6_F p R s m meth c D k) (hd : decode (q3_b k) pc = .ok (.pop2, len)) (hn : len = 1) (hi : q3_nm (q2_own k) pc (.pop2) = some i) (hs : q4_step k pc len lv st M ce sl i = some (.inl w)) (hl : lv_has ls (q2_ml k) (q5_tl (q5_ad ro h0) lv)) (hr : q5_rep D ro h0 s M H) (hlo : ∀ x ∈ locs, h0 ≤ x.base) (kk : q6_K p l e R s m args below meth c Q D ro h0 k w) :
    W p l e R s m args below meth c H locs ce sl Q (F0 m pc ls (st.map (q5_tv (q5_ad ro h0)))) := by
  subst hn
  obtain ⟨hx, hb, hml, ho, hin, hc, hR1, hR2, hR3, hR4⟩ := F
  simp only [q3_nm, Option.some.injEq] at hi
  subst hi
  simp only [q4_step] at hs
  split at hs
  · next v r =>
    split at hs
    · next hv =>
      cases hs
      simp only [List.map_cons]
      refine lv_pop2_2 hx hb hd ((q5_cat _ v).trans hv) ?_
      exact kk _ _ _ hl hr hlo
    · cases hs
  · cases hs
theorem q6_dup2 (F : q6_F p R s m meth c D k) (hd : decode (q3_b k) pc = .ok (.dup2, len)) (hn : len = 1) (hi : q3_nm (q2_own k) pc (.dup2) = some i) (hs : q4_step k pc len lv st M ce sl i = some (.inl w)) (hl : lv_has ls (q2_ml k) (q5_tl (q5_ad ro h0) lv)) (hr : q5_rep D ro h0 s M H) (hlo : ∀ x ∈ locs, h0 ≤ x.base) (kk : q6_K p l e R s m args below meth c Q D ro h0 k w) :
    W p l e R s m args below meth c H locs ce sl Q (F0 m pc ls (st.map (q5_tv (q5_ad ro h0)))) := by
  subst hn
  obtain ⟨hx, hb, hml, ho, hin, hc, hR1, hR2, hR3, hR4⟩ := F
  simp only [q3_nm, Option.some.injEq] at hi
  subst hi
  simp only [q4_step] at hs
  split at hs
  · next v z r =>
    split at hs
    · next hv =>
      cases hs
      simp only [List.map_cons]
      refine lv_dup2_11 hx hb hd ((q5_cat _ v).trans hv.1) ((q5_cat _ z).trans hv.2) ?_
      exact kk _ _ _ hl hr hlo
    · cases hs
  · cases hs
theorem q6_iinc {n : Nat} {v : Int} (F : q6_F p R s m meth c D k) (hd : decode (q3_b k) pc = .ok (.iinc n v, len)) (hn : len = 3) (hi : q3_nm (q2_own k) pc (.iinc n v) = some i) (hs : q4_step k pc len lv st M ce sl i = some (.inl w)) (hl : lv_has ls (q2_ml k) (q5_tl (q5_ad ro h0) lv)) (hr : q5_rep D ro h0 s M H) (hlo : ∀ x ∈ locs, h0 ≤ x.base) (kk : q6_K p l e R s m args below meth c Q D ro h0 k w) :
    W p l e R s m args below meth c H locs ce sl Q (F0 m pc ls (st.map (q5_tv (q5_ad ro h0)))) := by
  subst hn
  obtain ⟨hx, hb, hml, ho, hin, hc, hR1, hR2, hR3, hR4⟩ := F
  simp only [q3_nm, Option.some.injEq] at hi
  subst hi
  simp only [q4_step] at hs
  split at hs
  · next x hg =>
    split at hs
    · next hlt =>
      cases hs
      obtain ⟨j, hj⟩ := q5_ix (ad := q5_ad ro h0) hg
      refine lv_iinc (k := j) hx hb hd hl hj rfl hlt (q5_st1 (q5_ad ro h0) lv _ (.int _)) (fun ls1 hl1 => ?_)
      exact kk _ _ _ hl1 hr hlo
    · cases hs
  · cases hs
theorem q6_goto {off : Int} (F : q6_F p R s m meth c D k) (hd : decode (q3_b k) pc = .ok (.goto off, len)) (hn : len = 3) (hi : q3_nm (q2_own k) pc (.goto off) = some i) (hs : q4_step k pc len lv st M ce sl i = some (.inl w)) (hl : lv_has ls (q2_ml k) (q5_tl (q5_ad ro h0) lv)) (hr : q5_rep D ro h0 s M H) (hlo : ∀ x ∈ locs, h0 ≤ x.base) (kk : q6_K p l e R s m args below meth c Q D ro h0 k w) :
    W p l e R s m args below meth c H locs ce sl Q (F0 m pc ls (st.map (q5_tv (q5_ad ro h0)))) := by
  subst hn
  obtain ⟨hx, hb, hml, ho, hin, hc, hR1, hR2, hR3, hR4⟩ := F
  simp only [q3_nm, Option.map_eq_some_iff] at hi
  obtain ⟨t, ht, rfl⟩ := hi
  simp only [q4_step] at hs
  cases hs
  refine lv_goto (tgt := t.toNat) hx hb hd (q6_tgt ht) ?_
  exact kk _ _ _ hl hr hlo
theorem q6_if_icmp {cd : ClassFile.Cond} {off : Int} (F : q6_F p R s m meth c D k) (hd : decode (q3_b k) pc = .ok (.if_icmp cd off, len)) (hn : len = 3) (hi : q3_nm (q2_own k) pc (.if_icmp cd off) = some i) (hs : q4_step k pc len lv st M ce sl i = some (.inl w)) (hl : lv_has ls (q2_ml k) (q5_tl (q5_ad ro h0) lv)) (hr : q5_rep D ro h0 s M H) (hlo : ∀ x ∈ locs, h0 ≤ x.base) (kk : q6_K p l e R s m args below meth c Q D ro h0 k w) :
    W p l e R s m args below meth c H locs ce sl Q (F0 m pc ls (st.map (q5_tv (q5_ad ro h0)))) := by
  subst hn
  obtain ⟨hx, hb, hml, ho, hin, hc, hR1, hR2, hR3, hR4⟩ := F
  simp only [q3_nm, Option.map_eq_some_iff] at hi
  obtain ⟨t, ht, rfl⟩ := hi
  simp only [q4_step] at hs
  split at hs
  · next y x r =>
    simp only [List.map_cons, q5_tv]
    cases cd
    · refine lv_icmp_eq (tgt := t.toNat) hx hb hd (q6_tgt ht) (fun hz => ?_) (fun hz => ?_)
      · simp [q4_icmp, hz] at hs
        subst hs
        exact kk _ _ _ hl hr hlo
      · simp [q4_icmp, hz] at hs
        subst hs
        exact kk _ _ _ hl hr hlo
    · refine lv_icmp_ne (tgt := t.toNat) hx hb hd (q6_tgt ht) (fun hz => ?_) (fun hz => ?_)
      · simp [q4_icmp, hz] at hs
        subst hs
        exact kk _ _ _ hl hr hlo
      · simp [q4_icmp, hz] at hs
        subst hs
        exact kk _ _ _ hl hr hlo
    · refine lv_icmp_lt (tgt := t.toNat) hx hb hd (q6_tgt ht) (fun hz => ?_) (fun hz => ?_)
      · simp [q4_icmp, hz] at hs
        subst hs
        exact kk _ _ _ hl hr hlo
      · simp [q4_icmp, hz] at hs
        subst hs
        exact kk _ _ _ hl hr hlo
    · refine lv_icmp_ge (tgt := t.toNat) hx hb hd (q6_tgt ht) (fun hz => ?_) (fun hz => ?_)
      · simp [q4_icmp, hz] at hs
        subst hs
        exact kk _ _ _ hl hr hlo
      · simp [q4_icmp, hz] at hs
        subst hs
        exact kk _ _ _ hl hr hlo
    · refine lv_icmp_gt (tgt := t.toNat) hx hb hd (q6_tgt ht) (fun hz => ?_) (fun hz => ?_)
      · simp [q4_icmp, hz] at hs
        subst hs
        exact kk _ _ _ hl hr hlo
      · simp [q4_icmp, hz] at hs
        subst hs
        exact kk _ _ _ hl hr hlo
    · refine lv_icmp_le (tgt := t.toNat) hx hb hd (q6_tgt ht) (fun hz => ?_) (fun hz => ?_)
      · simp [q4_icmp, hz] at hs
        subst hs
        exact kk _ _ _ hl hr hlo
      · simp [q4_icmp, hz] at hs
        subst hs
        exact kk _ _ _ hl hr hlo
  · cases hs
theorem q6_ifCond {cd : ClassFile.Cond} {off : Int} (F : q6_F p R s m meth c D k) (hd : decode (q3_b k) pc = .ok (.ifCond cd off, len)) (hn : len = 3) (hi : q3_nm (q2_own k) pc (.ifCond cd off) = some i) (hs : q4_step k pc len lv st M ce sl i = some (.inl w)) (hl : lv_has ls (q2_ml k) (q5_tl (q5_ad ro h0) lv)) (hr : q5_rep D ro h0 s M H) (hlo : ∀ x ∈ locs, h0 ≤ x.base) (kk : q6_K p l e R s m args below meth c Q D ro h0 k w) :
    W p l e R s m args below meth c H locs ce sl Q (F0 m pc ls (st.map (q5_tv (q5_ad ro h0)))) := by
  subst hn
  obtain ⟨hx, hb, hml, ho, hin, hc, hR1, hR2, hR3, hR4⟩ := F
  simp only [q3_nm, Option.map_eq_some_iff] at hi
  obtain ⟨t, ht, rfl⟩ := hi
  simp only [q4_step] at hs
  split at hs
  · next x r =>
    simp only [List.map_cons, q5_tv]
    cases cd
    · refine lv_if_eq (tgt := t.toNat) hx hb hd (q6_tgt ht) (fun hz => ?_) (fun hz => ?_)
      · simp [q4_icmp, hz] at hs
        subst hs
        exact kk _ _ _ hl hr hlo
      · simp [q4_icmp, hz] at hs
        subst hs
        exact kk _ _ _ hl hr hlo
    · refine lv_if_ne (tgt := t.toNat) hx hb hd (q6_tgt ht) (fun hz => ?_) (fun hz => ?_)
      · simp [q4_icmp, hz] at hs
        subst hs
        exact kk _ _ _ hl hr hlo
      · simp [q4_icmp, hz] at hs
        subst hs
        exact kk _ _ _ hl hr hlo
    · refine lv_if_lt (tgt := t.toNat) hx hb hd (q6_tgt ht) (fun hz => ?_) (fun hz => ?_)
      · simp [q4_icmp, hz] at hs
        subst hs
        exact kk _ _ _ hl hr hlo
      · simp [q4_icmp, hz] at hs
        subst hs
        exact kk _ _ _ hl hr hlo
    · refine lv_if_ge (tgt := t.toNat) hx hb hd (q6_tgt ht) (fun hz => ?_) (fun hz => ?_)
      · simp [q4_icmp, hz] at hs
        subst hs
        exact kk _ _ _ hl hr hlo
      · simp [q4_icmp, hz] at hs
        subst hs
        exact kk _ _ _ hl hr hlo
    · refine lv_if_gt (tgt := t.toNat) hx hb hd (q6_tgt ht) (fun hz => ?_) (fun hz => ?_)
      · simp [q4_icmp, hz] at hs
        subst hs
        exact kk _ _ _ hl hr hlo
      · simp [q4_icmp, hz] at hs
        subst hs
        exact kk _ _ _ hl hr hlo
    · refine lv_if_le (tgt := t.toNat) hx hb hd (q6_tgt ht) (fun hz => ?_) (fun hz => ?_)
      · simp [q4_icmp, hz] at hs
        subst hs
        exact kk _ _ _ hl hr hlo
      · simp [q4_icmp, hz] at hs
        subst hs
        exact kk _ _ _ hl hr hlo
  · cases hs
end Q6
