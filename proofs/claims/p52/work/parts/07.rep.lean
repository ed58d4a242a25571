/-! what our machine's states stand for in the model's -/
def q5_ad (ro : Nat → Nat) (h0 k : Nat) : Nat := if k < 3 then ro k else h0 + (k - 3)
def q5_tv (ad : Nat → Nat) : Value → Value
  | .ref k => .ref (ad k)
  | v => v
def q5_tl (ad : Nat → Nat) (lv : List (Nat × Value)) : List (Nat × Value) := lv.map (fun q => (q.1, q5_tv ad q.2))
theorem q5_cat (ad : Nat → Nat) (v : Value) : (q5_tv ad v).category = v.category := by cases v <;> rfl
theorem q5_cats (ad : Nat → Nat) (st : List Value) : ((st.map (q5_tv ad)).map fun v => v.category).sum = q4_cat st := by
  unfold q4_cat
  rw [List.map_map]
  congr 1
  apply List.map_congr_left
  intro v _
  exact q5_cat ad v
theorem q5_get {ad : Nat → Nat} {lv : List (Nat × Value)} {n : Nat} {v : Value} (h : q4_get lv n = some v) : (n, q5_tv ad v) ∈ q5_tl ad lv := by
  unfold q4_get at h
  cases hf : lv.find? (fun q => Nat.beq q.1 n) with
  | none => rw [hf] at h; cases h
  | some q =>
    rw [hf] at h
    cases h
    have h1 := List.find?_some hf
    have h2 := List.mem_of_find?_eq_some hf
    have e : q.1 = n := Nat.eq_of_beq_eq_true h1
    exact List.mem_map.mpr ⟨q, h2, by rw [e]⟩
theorem q5_at {ad : Nat → Nat} {ls : Array Slot} {nL n : Nat} {lv : List (Nat × Value)} {v : Value} (hl : lv_has ls nL (q5_tl ad lv)) (h : q4_get lv n = some v) : ls[n]? = some (.val (q5_tv ad v)) := hl.2.2 _ (q5_get h)
theorem q5_ix {ad : Nat → Nat} {lv : List (Nat × Value)} {n : Nat} {v : Value} (h : q4_get lv n = some v) : ∃ k : Nat, (q5_tl ad lv)[k]? = some (n, q5_tv ad v) := List.getElem?_of_mem (q5_get h)
theorem q5_st1 (ad : Nat → Nat) (lv : List (Nat × Value)) (i : Nat) (v : Value) : (i, q5_tv ad v) :: (q5_tl ad lv).filter (fun q => !(q.1 == i) && !(q.1 + 1 == i && q.2.category == 2)) = q5_tl ad (q4_st1 lv i v) := by
  unfold q5_tl q4_st1
  rw [List.map_cons, List.filter_map]
  congr 2
  apply List.filter_congr
  intro q _
  simp only [Function.comp, q5_cat]
theorem q5_st2 (ad : Nat → Nat) (lv : List (Nat × Value)) (i : Nat) (v : Value) : (i, q5_tv ad v) :: (q5_tl ad lv).filter (fun q => !(q.1 == i) && (!(q.1 == i + 1) && !(q.1 + 1 == i && q.2.category == 2))) = q5_tl ad (q4_st2 lv i v) := by
  unfold q5_tl q4_st2
  rw [List.map_cons, List.filter_map]
  congr 2
  apply List.filter_congr
  intro q _
  simp only [Function.comp, q5_cat]
theorem q5_args (ad : Nat → Nat) (as : List Value) : ∀ i : Nat, lv_args i (as.map (q5_tv ad)) = q5_tl ad (lv_args i as) := by
  induction as with
  | nil => intro i; rfl
  | cons v t ih =>
    intro i
    show (i, q5_tv ad v) :: lv_args (if (q5_tv ad v).category = 2 then i + 2 else i + 1) (t.map (q5_tv ad)) = (i, q5_tv ad v) :: q5_tl ad (lv_args (if v.category = 2 then i + 2 else i + 1) t)
    rw [q5_cat, ih]
theorem q5_sl (ad : Nat → Nat) (as : List Value) : (lg_sl (as.map (q5_tv ad))).length = (lg_sl as).length := by
  unfold lg_sl
  induction as with
  | nil => rfl
  | cons v t ih =>
    simp only [List.map_cons, List.flatMap_cons, List.length_append, ih, q5_cat]
    congr 1
    split <;> rfl
theorem q5_fit {ad : Nat → Nat} {t : FieldType} {v : Value} (h : q4_fit t v = true) : narrow t (q5_tv ad v) = q5_tv ad v ∧ fits t (q5_tv ad v) = true := by
  unfold q4_fit at h
  split at h
  · exact ⟨rfl, rfl⟩
  · next x =>
    simp only [Bool.or_eq_true, decide_eq_true_eq] at h
    rcases h with rfl | rfl
    · exact ⟨(by decide : narrow FieldType.boolean (Value.int 0) = Value.int 0), (by decide : fits FieldType.boolean (Value.int 0) = true)⟩
    · exact ⟨(by decide : narrow FieldType.boolean (Value.int 1) = Value.int 1), (by decide : fits FieldType.boolean (Value.int 1) = true)⟩
  · exact ⟨rfl, rfl⟩
  · exact ⟨rfl, rfl⟩
  · exact ⟨rfl, rfl⟩
  · cases h
/-! the tables' words, moved from state to state -/
def q5_ok (w : Cond) : Bool := match w with
  | .fieldLinkNest _ _ _ _ _ _ => true
  | .methodLinkNest _ _ _ _ => true
  | w => goodWord w
theorem q5_move {w : Cond} {args : Array Value} {s U : State} (h : w.before args s = true) (hk : q5_ok w = true) (hW : s.WarmedH U.vm) : w.before #[] U = true := by
  by_cases h1 : goodWord w = true
  · exact word_at hW (good_of_word h1) h
  · cases w <;> first
      | exact va_Nw.warmF hW (va_Nw.of rfl h)
      | exact va_Nw.warmM hW (va_Nw.of rfl h)
      | exact absurd hk h1
theorem q5_same {w : Cond} {s U : State} (h : w.before #[] s = true) (hk : q5_ok w = true) (hv : s.vm = U.vm) : w.before #[] U = true := q5_move h hk (by rw [← hv]; exact State.WarmedH.refl s)
/-- the class of int[][] is there, over that of int[] -/
def q5_ao (U : State) : Prop := ∃ (comp cA : ClassId) (kA : Class), U.vm.findClass "[I" = some comp ∧ U.vm.classes[cA]? = some kA ∧ kA.kind = .array comp (.array .int) ∧ U.vm.findClass "[[I" = some cA
theorem q5_ao_of {args : Array Value} {U : State} (h : (Cond.arrayOver (.array .int)).before args U = true) : q5_ao U := by
  have h : (Cond.arrayOver (.array .int)).value args U none U [] = some true := by simpa [Cond.before, Cond.holds] using h
  simp only [Cond.value] at h
  cases hc : U.vm.findClass (FieldType.array .int).toString with
  | none => rw [hc] at h; cases h
  | some comp =>
    rw [hc] at h
    simp only [Option.bind_some, Option.bind_eq_some_iff, Option.map_eq_some_iff] at h
    obtain ⟨c, hi, k, hk, hb⟩ := h
    obtain ⟨hlt, hp, -⟩ := Array.findIdx?_eq_some_iff_getElem.mp hi
    have e : U.vm.classes[c] = k := (Array.getElem?_eq_some_iff.mp hk).2
    rw [e] at hp
    cases hkind : k.kind with
    | array co ty =>
      rw [hkind] at hb hp
      simp only [Bool.and_eq_true, decide_eq_true_eq, beq_iff_eq] at hb hp
      exact ⟨comp, c, k, hc, hk, by rw [hkind, ← hp, hb.1], hb.2⟩
    | _ => rw [hkind] at hb; cases hb
theorem q5_ao.moved {u U : State} (hvm : u.vm.Alike U.vm) (h : q5_ao u) : q5_ao U := by
  obtain ⟨comp, cA, kA, h1, h2, h3, h4⟩ := h
  obtain ⟨k', hk', he⟩ := hvm.2.2 _ _ h2
  exact ⟨comp, cA, k', by rw [hvm.findClass]; exact h1, hk', by rw [he]; exact h3, by rw [hvm.findClass]; exact h4⟩
def q5_cx (D : va_G) (U : State) : Prop := (∀ w ∈ lw_tbl, q5_ok w = true → w.before #[] U = true) ∧ (∀ c, c < 8 → u_Kn U (q2_cn c) (q2_T c) (q2_N c) (D.1 c) (D.2 c)) ∧ q5_ao U
theorem q5_cx.moved {D : va_G} {s U : State} (hW : s.WarmedH U.vm) (h : q5_cx D s) : q5_cx D U := ⟨fun w hw hk => q5_move (h.1 w hw hk) hk hW, fun c hc => u_Kn_moved hW.alike (h.2.1 c hc), h.2.2.moved hW.alike⟩
theorem q5_cx.same {D : va_G} {s U : State} (hv : s.vm = U.vm) (h : q5_cx D s) : q5_cx D U := h.moved (by rw [← hv]; exact State.WarmedH.refl s)
/-- a word of the tables, at any arguments -/
theorem q5_use {w : Cond} {s : State} {args : Array Value} {D : va_G} (h : q5_cx D s) (hw : w ∈ lw_tbl) (hk : w.onTables = true) (ho : q5_ok w = true) : w.before args s = true := va_tabs hk rfl (h.1 w hw ho)
/-! cells -/
def q5_cl (D : va_G) (ro : Nat → Nat) (h0 : Nat) (s : State) (H : Heap) (k : Nat) (x : q4_C) : Prop :=
  (x.1 = 0 ∧ (∀ j, j < x.2.1 → ∃ z : Int32, x.2.2 j = .int z) ∧ ((k < 3 ∧ ∃ cell : Cell, H[ro k]? = some cell ∧ s.isArrayOf cell .int ∧ cell.vm ≠ .unknown ∧ (x.2.1 ≤ cell.slots.size ∧ cell.slots.size.toInt32 = x.2.1.toInt32) ∧ ∀ j, j < x.2.1 → cell.slots[j]? = some (x.2.2 j)) ∨ (3 ≤ k ∧ ∃ cA : ClassId, H[q5_ad ro h0 k]? = some (arrV cA x.2.1 (fun j => q5_tv (q5_ad ro h0) (x.2.2 j))) ∧ ArrOfT s cA .int))) ∨
  (x.1 = 1 ∧ 3 ≤ k ∧ ∃ cA : ClassId, H[q5_ad ro h0 k]? = some (arrV cA x.2.1 (fun j => q5_tv (q5_ad ro h0) (x.2.2 j))) ∧ ArrOfT s cA (.array .int)) ∨
  (3 ≤ k ∧ ∃ c : Nat, x.1 = c + 2 ∧ c < 8 ∧ t_OB (q5_ad ro h0 k) (D.1 c) (q2_N c) (D.2 c) H (fun j => q5_tv (q5_ad ro h0) (x.2.2 j)))
def q5_rep (D : va_G) (ro : Nat → Nat) (h0 : Nat) (s : State) (M : q4_M) (H : Heap) : Prop :=
  3 ≤ M.1 ∧ H.size = h0 + (M.1 - 3) ∧ (∀ k, k < M.1 → q5_cl D ro h0 s H k (M.2 k)) ∧ (∀ k, k < 3 → ro k < h0) ∧
  va_Z "BuriedBySevens" "POWERS" "[I" (.ref (ro 1)) (fun q => h0 ≤ q) s H ∧ va_Z "BuriedBySevens" "FACTORIALS" "[I" (.ref (ro 2)) (fun q => h0 ≤ q) s H
theorem q5_own {ro : Nat → Nat} {h0 k : Nat} (h : 3 ≤ k) : q5_ad ro h0 k = h0 + (k - 3) := if_neg (by omega)
theorem q5_old {ro : Nat → Nat} {h0 k : Nat} (h : k < 3) : q5_ad ro h0 k = ro k := if_pos h
theorem q5_inj {ro : Nat → Nat} {h0 k a : Nat} (hro : ∀ k, k < 3 → ro k < h0) (ha : 3 ≤ a) (h : q5_ad ro h0 k = q5_ad ro h0 a) : k = a := by
  rw [q5_own ha] at h
  by_cases hk : k < 3
  · rw [q5_old hk] at h
    have := hro k hk
    omega
  · rw [q5_own (by omega)] at h
    omega
theorem q5_cl.kept {D : va_G} {ro : Nat → Nat} {h0 : Nat} {s : State} {H H1 : Heap} {k : Nat} {x : q4_C} (h : q5_cl D ro h0 s H k x) (hq : H1[q5_ad ro h0 k]? = H[q5_ad ro h0 k]?) : q5_cl D ro h0 s H1 k x := by
  rcases h with ⟨e, hi, ⟨hk, cell, h1, h2⟩ | ⟨hk, cA, h1, h2⟩⟩ | ⟨e, hk, cA, h1, h2⟩ | ⟨hk, c, e, hc, h1⟩
  · refine Or.inl ⟨e, hi, Or.inl ⟨hk, cell, ?_, h2⟩⟩
    rw [q5_old hk] at hq
    rw [hq]; exact h1
  · exact Or.inl ⟨e, hi, Or.inr ⟨hk, cA, by rw [hq]; exact h1, h2⟩⟩
  · exact Or.inr (Or.inl ⟨e, hk, cA, by rw [hq]; exact h1, h2⟩)
  · exact Or.inr (Or.inr ⟨hk, c, e, hc, h1.kept hq⟩)
theorem q5_cl.moved {D : va_G} {ro : Nat → Nat} {h0 : Nat} {s U : State} {H : Heap} {k : Nat} {x : q4_C} (hvm : s.vm.Alike U.vm) (h : q5_cl D ro h0 s H k x) : q5_cl D ro h0 U H k x := by
  rcases h with ⟨e, hi, ⟨hk, cell, h1, h2, h3⟩ | ⟨hk, cA, h1, h2⟩⟩ | ⟨e, hk, cA, h1, h2⟩ | ⟨hk, c, e, hc, h1⟩
  · exact Or.inl ⟨e, hi, Or.inl ⟨hk, cell, h1, State.isArrayOf_alike hvm h2, h3⟩⟩
  · exact Or.inl ⟨e, hi, Or.inr ⟨hk, cA, h1, arrOfT_moved hvm h2⟩⟩
  · exact Or.inr (Or.inl ⟨e, hk, cA, h1, arrOfT_moved hvm h2⟩)
  · exact Or.inr (Or.inr ⟨hk, c, e, hc, h1⟩)
theorem q5_rep.moved {D : va_G} {ro : Nat → Nat} {h0 : Nat} {s U : State} {M : q4_M} {H : Heap} (hvm : s.vm.Alike U.vm) (h : q5_rep D ro h0 s M H) : q5_rep D ro h0 U M H :=
  ⟨h.1, h.2.1, fun k hk => (h.2.2.1 k hk).moved hvm, h.2.2.2.1, h.2.2.2.2.1.moved hvm, h.2.2.2.2.2.moved hvm⟩
/-- the cell of an array of ints, for reading -/
theorem q5_cl.ints {D : va_G} {ro : Nat → Nat} {h0 : Nat} {s : State} {H : Heap} {k : Nat} {x : q4_C} (h : q5_cl D ro h0 s H k x) (e : x.1 = 0) : ∃ cell : Cell, H[q5_ad ro h0 k]? = some cell ∧ s.isArrayOf cell .int ∧ cell.vm ≠ .unknown ∧ (x.2.1 ≤ cell.slots.size ∧ cell.slots.size.toInt32 = x.2.1.toInt32) ∧ ∀ j, j < x.2.1 → cell.slots[j]? = some (q5_tv (q5_ad ro h0) (x.2.2 j)) := by
  rcases h with ⟨-, hi, ⟨hk, cell, h1, h2, h3, h4, h5⟩ | ⟨hk, cA, h1, h2⟩⟩ | ⟨e', -⟩ | ⟨-, c, e', -⟩
  · refine ⟨cell, by rw [q5_old hk]; exact h1, h2, h3, h4, fun j hj => ?_⟩
    obtain ⟨z, hz⟩ := hi j hj
    rw [h5 j hj, hz]
    rfl
  · exact ⟨_, h1, h2 _ _, (fun q => by cases q), ⟨Nat.le_of_eq (arrV_size _ _ _).symm, by rw [arrV_size]⟩, fun j hj => arrV_read _ _ hj⟩
  · omega
  · omega
theorem q5_cl.own {D : va_G} {ro : Nat → Nat} {h0 : Nat} {s : State} {H : Heap} {k : Nat} {x : q4_C} (h : q5_cl D ro h0 s H k x) (e : x.1 = 0) (hk : 3 ≤ k) : (∀ j, j < x.2.1 → ∃ z : Int32, x.2.2 j = .int z) ∧ ∃ cA : ClassId, H[q5_ad ro h0 k]? = some (arrV cA x.2.1 (fun j => q5_tv (q5_ad ro h0) (x.2.2 j))) ∧ ArrOfT s cA .int := by
  rcases h with ⟨-, hi, ⟨hk', -⟩ | ⟨-, h1⟩⟩ | ⟨e', -⟩ | ⟨-, c, e', -⟩
  · omega
  · exact ⟨hi, h1⟩
  · omega
  · omega
theorem q5_cl.rows {D : va_G} {ro : Nat → Nat} {h0 : Nat} {s : State} {H : Heap} {k : Nat} {x : q4_C} (h : q5_cl D ro h0 s H k x) (e : x.1 = 1) : ∃ cA : ClassId, H[q5_ad ro h0 k]? = some (arrV cA x.2.1 (fun j => q5_tv (q5_ad ro h0) (x.2.2 j))) ∧ ArrOfT s cA (.array .int) := by
  rcases h with ⟨e', -⟩ | ⟨-, -, h1⟩ | ⟨-, c, e', -⟩
  · omega
  · exact h1
  · omega
theorem q5_cl.ob {D : va_G} {ro : Nat → Nat} {h0 : Nat} {s : State} {H : Heap} {k c : Nat} {x : q4_C} (h : q5_cl D ro h0 s H k x) (e : x.1 = c + 2) : 3 ≤ k ∧ c < 8 ∧ t_OB (q5_ad ro h0 k) (D.1 c) (q2_N c) (D.2 c) H (fun j => q5_tv (q5_ad ro h0) (x.2.2 j)) := by
  rcases h with ⟨e', -⟩ | ⟨e', -⟩ | ⟨hk, c', e', hc, h1⟩
  · omega
  · omega
  · have : c' = c := by omega
    subst this
    exact ⟨hk, hc, h1⟩
/-- a cell of our own is written -/
theorem q5_rep.upd {D : va_G} {ro : Nat → Nat} {h0 : Nat} {s : State} {M : q4_M} {H H1 : Heap} (h : q5_rep D ro h0 s M H) {a : Nat} {x : q4_C} (ha : 3 ≤ a) (hs : H1.size = H.size) (hq : ∀ q, q ≠ q5_ad ro h0 a → H1[q]? = H[q]?) (hx : q5_cl D ro h0 s H1 a x) : q5_rep D ro h0 s (M.1, fun k => if k = a then x else M.2 k) H1 := by
  obtain ⟨h1, h2, h3, h4, h5, h6⟩ := h
  have old : ∀ q : Nat, q < H.size → ¬ h0 ≤ q → H1[q]? = H[q]? := fun q _ hlt => hq q (by rw [q5_own ha]; omega)
  refine ⟨h1, hs.trans h2, fun k hk => ?_, h4, h5.kept old, h6.kept old⟩
  show q5_cl D ro h0 s H1 k (if k = a then x else M.2 k)
  by_cases e : k = a
  · rw [if_pos e, e]; exact hx
  · rw [if_neg e]
    exact (h3 k hk).kept (hq _ (fun z => e (q5_inj h4 ha z)))
/-- cells are made -/
theorem q5_rep.push {D : va_G} {ro : Nat → Nat} {h0 : Nat} {s : State} {M : q4_M} {H H1 : Heap} (h : q5_rep D ro h0 s M H) {n : Nat} {f : Nat → q4_C} (hs : H1.size = H.size + n) (hq : ∀ q, q < H.size → H1[q]? = H[q]?) (hf : ∀ k, k < M.1 → f k = M.2 k) (hx : ∀ k, M.1 ≤ k → k < M.1 + n → q5_cl D ro h0 s H1 k (f k)) : q5_rep D ro h0 s (M.1 + n, f) H1 := by
  obtain ⟨h1, h2, h3, h4, h5, h6⟩ := h
  have old : ∀ q : Nat, q < H.size → ¬ h0 ≤ q → H1[q]? = H[q]? := fun q hlt _ => hq q hlt
  refine ⟨by show 3 ≤ M.1 + n; omega, by show H1.size = h0 + (M.1 + n - 3); omega, fun k hk => ?_, h4, h5.kept old, h6.kept old⟩
  show q5_cl D ro h0 s H1 k (f k)
  by_cases e : k < M.1
  · rw [hf k e]
    refine (h3 k e).kept (hq _ ?_)
    by_cases hk3 : k < 3
    · rw [q5_old hk3]
      have := h4 k hk3
      omega
    · rw [q5_own (by omega)]
      omega
  · exact hx k (by omega) hk
/-- the address of the next cell -/
theorem q5_rep.next {D : va_G} {ro : Nat → Nat} {h0 : Nat} {s : State} {M : q4_M} {H : Heap} (h : q5_rep D ro h0 s M H) (n : Nat) : q5_ad ro h0 (M.1 + n) = H.size + n := by
  rw [q5_own (by have := h.1; omega), h.2.1]
  have := h.1
  omega
