/-! the walk's other instructions -/
theorem q24_get {M : q20_M} {a i j : Nat} {v : q20_V} (ha : a < 256) : q20_get (q20_put M a i v) a j = if j = i then v else q20_get M a j := by
  have ht : q20_tget 8 (q20_put M a i v).2 a = ((q20_tget 8 M.2 a).1, (q20_tget 8 M.2 a).2.1, (q20_tget 8 M.2 a).2.2.1, q20_wput i v (q20_tget 8 M.2 a).2.2.2) := (q21_tg 8 M.2 a a _ ha ha).trans (if_pos rfl)
  unfold q20_get
  rw [ht]
  exact q21_wg _ _ _ _ _
theorem q24_fit {ρ : Nat → Int32} {E : q20_E} {t : FieldType} {v : q20_V} {x : Value} (hE : q20_ok ρ E) (h : q20_fit t E v = true) (hg : q20_g ρ v x) : q4_fit t x = true := by
  unfold q20_fit at h
  split at h
  · split at h
    · next q hi => obtain ⟨z, rfl, -⟩ := q21_iv hE hi hg; rfl
    · obtain ⟨tt, i, b⟩ := v
      have ht : tt = 4 := Nat.eq_of_beq_eq_true h
      subst ht
      rw [show x = .int _ from hg]
      rfl
  · split at h
    · next lo hi hq =>
      obtain ⟨z, rfl, h1, h2⟩ := q21_iv hE hq hg
      simp only [Bool.and_eq_true, decide_eq_true_eq] at h
      dsimp only at h1 h2
      have : z.toInt = 0 ∨ z.toInt = 1 := by omega
      rcases this with e | e
      · have hz : z = 0 := Int32.toInt_inj.mp (e.trans (by decide))
        subst hz
        rfl
      · have hz : z = 1 := Int32.toInt_inj.mp (e.trans (by decide))
        subst hz
        rfl
    · cases h
  · obtain ⟨tt, i, b⟩ := v
    simp only [Bool.or_eq_true] at h
    rcases h with h | h
    · have ht : tt = 2 := Nat.eq_of_beq_eq_true h
      subst ht
      obtain ⟨z, rfl, -⟩ := hg
      rfl
    · have ht : tt = 3 := Nat.eq_of_beq_eq_true h
      subst ht
      rw [show x = .long _ from hg]
      rfl
  · obtain ⟨tt, i, b⟩ := v
    have ht : tt = 6 := Nat.eq_of_beq_eq_true h
    subst ht
    rw [show x = .ref _ from hg]
    rfl
  · obtain ⟨tt, i, b⟩ := v
    have ht : tt = 6 := Nat.eq_of_beq_eq_true h
    subst ht
    rw [show x = .ref _ from hg]
    rfl
  · cases h
theorem q24_fint {x : Value} (h : q4_fit .int x = true) : ∃ z : Int32, x = .int z := by
  cases x <;> first | exact ⟨_, rfl⟩ | cases h
theorem q24_flong {x : Value} (h : q4_fit .long x = true) : ∃ z : Int64, x = .long z := by
  cases x <;> first | exact ⟨_, rfl⟩ | cases h
theorem q24_join {ρ : Nat → Int32} {E : q20_E} {a b c : q20_V} {x : Value} (hE : q20_ok ρ E) (h : q20_join E a b = some c) (hg : q20_g ρ a x ∨ q20_g ρ b x) : q20_g ρ c x := by
  unfold q20_join at h
  split at h
  · next e =>
    cases h
    rcases hg with hg | hg
    · exact hg
    · rw [e]; exact hg
  · split at h
    · next x1 y1 z1 w1 ha hb =>
      cases h
      rcases hg with hg | hg
      · obtain ⟨z, rfl, h1, h2⟩ := q21_iv hE ha hg
        dsimp only at h1 h2
        exact ⟨z, rfl, by omega, by omega⟩
      · obtain ⟨z, rfl, h1, h2⟩ := q21_iv hE hb hg
        dsimp only at h1 h2
        exact ⟨z, rfl, by omega, by omega⟩
    · cases h
theorem q24_some {ρ : Nat → Int32} {E : q20_E} {M : q20_M} {a lo : Nat} (hE : q20_ok ρ E) : ∀ (n : Nat) {v : q20_V}, q20_some E M a lo n = some v → ∀ j, lo ≤ j → j ≤ lo + n → ∀ x, q20_g ρ (q20_get M a j) x → q20_g ρ v x
  | 0, v, h, j, h1, h2, x, hg => by
    cases h
    rw [show lo = j by omega]
    exact hg
  | n + 1, v, h, j, h1, h2, x, hg => by
    unfold q20_some at h
    cases h3 : q20_some E M a lo n with
    | none => rw [h3] at h; cases h
    | some v1 =>
      rw [h3] at h
      by_cases e : j = lo + (n + 1)
      · subst e
        exact q24_join hE h (Or.inr hg)
      · exact q24_join hE h (Or.inl (q24_some hE n h3 j h1 (by omega) x hg))
theorem q24_same {ρ : Nat → Int32} {M : q20_M} {N : q4_M} {a j : Nat} {w : q20_V} (h : q21_R ρ M N) (ha : a < M.1) (hw : ∀ x, q20_g ρ (q20_get M a j) x → q20_g ρ w x) : q21_R ρ (q20_put M a j w) N := by
  obtain ⟨h1, h2, h3⟩ := h
  refine ⟨h1, h2, fun k hk => ?_⟩
  have hk : k < M.1 := hk
  have ht : q20_tget 8 (q20_put M a j w).2 k = if k = a then ((q20_tget 8 M.2 a).1, (q20_tget 8 M.2 a).2.1, (q20_tget 8 M.2 a).2.2.1, q20_wput j w (q20_tget 8 M.2 a).2.2.2) else q20_tget 8 M.2 k := q21_tg 8 M.2 a k _ (Nat.lt_of_lt_of_le ha h2) (Nat.lt_of_lt_of_le hk h2)
  obtain ⟨g1, g2, g3⟩ := h3 k hk
  by_cases e : k = a
  · subst e
    rw [ht, if_pos rfl]
    refine ⟨g1, g2, fun i hi => ?_⟩
    rw [q24_get (Nat.lt_of_lt_of_le ha h2)]
    by_cases ei : i = j
    · rw [if_pos ei]
      subst ei
      exact hw _ (g3 i hi)
    · rw [if_neg ei]
      exact g3 i hi
  · unfold q20_get
    rw [ht, if_neg e]
    exact ⟨g1, g2, g3⟩
theorem q24_lay {ρ : Nat → Int32} {E : q20_E} {M : q20_M} {N : q4_M} {a lo : Nat} {v : q20_V} (hE : q20_ok ρ E) (hR : q21_R ρ M N) (ha : a < M.1) : ∀ (n : Nat) {M1 : q20_M}, q20_lay E M a lo v n = some M1 → M1.1 = M.1 ∧ q21_R ρ M1 N ∧ ∀ j, lo ≤ j → j ≤ lo + n → ∀ x, q20_g ρ v x → q20_g ρ (q20_get M1 a j) x
  | 0, M1, h => by
    unfold q20_lay at h
    split at h
    · next w hw =>
      cases h
      refine ⟨rfl, q24_same hR ha (fun x hx => q24_join hE hw (Or.inl hx)), fun j h1 h2 x hx => ?_⟩
      rw [q24_get (Nat.lt_of_lt_of_le ha hR.2.1), if_pos (by omega)]
      exact q24_join hE hw (Or.inr hx)
    · cases h
  | n + 1, M1, h => by
    unfold q20_lay at h
    cases h3 : q20_lay E M a lo v n with
    | none => rw [h3] at h; cases h
    | some M0 =>
      rw [h3] at h
      dsimp only at h
      obtain ⟨e0, hR0, hv0⟩ := q24_lay hE hR ha n h3
      split at h
      · next w hw =>
        cases h
        have ha0 : a < M0.1 := by rw [e0]; exact ha
        refine ⟨e0, q24_same hR0 ha0 (fun x hx => q24_join hE hw (Or.inl hx)), fun j h1 h2 x hx => ?_⟩
        rw [q24_get (Nat.lt_of_lt_of_le ha0 hR0.2.1)]
        by_cases e : j = lo + (n + 1)
        · rw [if_pos e]
          exact q24_join hE hw (Or.inr hx)
        · rw [if_neg e]
          exact hv0 j h1 (by omega) x hx
      · cases h
theorem q24_into {ρ : Nat → Int32} {M : q20_M} {N : q4_M} {a j : Nat} {x : Value} (h : q21_R ρ M N) (hg : q20_g ρ (q20_get M a j) x) : q21_R ρ M (q4_put N a j x) := by
  obtain ⟨h1, h2, h3⟩ := h
  refine ⟨h1, h2, fun k hk => ?_⟩
  obtain ⟨g1, g2, g3⟩ := h3 k hk
  simp only [q4_put]
  by_cases e : k = a
  · subst e
    simp only [if_true]
    refine ⟨g1, g2, fun i hi => ?_⟩
    by_cases ei : i = j
    · subst ei
      simp only [updV, if_true]
      exact hg
    · simp only [updV, if_neg ei]
      exact g3 i hi
  · simp only [if_neg e]
    exact ⟨g1, g2, g3⟩
theorem q24_wm (d : q20_V) (f : Nat → q20_V) (j : Nat) : ∀ l : List Nat, j ∈ l → q20_wget d j (l.map (fun i => (i, f i))) = f j
  | i :: l, h => by
    simp only [List.map_cons, q20_wget, q21_bq]
    by_cases e : i = j
    · subst e
      simp
    · simp only [e, decide_false, cond_false]
      exact q24_wm d f j l ((List.mem_cons.mp h).resolve_left (Ne.symm e))
theorem q24_cpy {α : Type} (f g : Nat → α) (sp dp n : Nat) : va_cpy f g sp dp (n + 1) = fun j => if j = dp + n then f (sp + n) else va_cpy f g sp dp n j := by
  funext j
  by_cases e : j = dp + n
  · rw [if_pos e, pk_cpy_in (by omega) (by omega)]
    congr 1
    omega
  · rw [if_neg e]
    by_cases h : dp ≤ j ∧ j < dp + n
    · rw [pk_cpy_in h.1 (by omega), pk_cpy_in h.1 h.2]
    · rw [pk_cpy_out (by omega), pk_cpy_out (by omega)]
theorem q24_cp {ρ : Nat → Int32} {M : q20_M} {N : q4_M} {a sp b dp : Nat} (h : q21_R ρ M N) (ha : a < M.1) (hb : b < M.1) (hne : a ≠ b) : ∀ n, sp + n ≤ (q20_tget 8 M.2 a).2.1 → (q20_cp M a sp b dp n).1 = M.1 ∧ q21_R ρ (q20_cp M a sp b dp n) (q4_copy N a sp b dp n)
  | 0, _ => by
    refine ⟨rfl, ?_⟩
    have e : q4_copy N a sp b dp 0 = N := by
      unfold q4_copy
      refine Prod.ext rfl (funext fun k => ?_)
      by_cases hk : k = b
      · subst hk
        simp only [if_true]
        refine Prod.ext rfl (Prod.ext rfl (funext fun j => ?_))
        exact pk_cpy_out (by omega)
      · simp only [if_neg hk]
    rw [e]
    exact h
  | n + 1, hn => by
    obtain ⟨e0, hR0⟩ := q24_cp (sp := sp) (dp := dp) h ha hb hne n (by omega)
    refine ⟨e0, ?_⟩
    have e : q4_copy N a sp b dp (n + 1) = q4_put (q4_copy N a sp b dp n) b (dp + n) ((N.2 a).2.2 (sp + n)) := by
      unfold q4_copy q4_put
      refine Prod.ext rfl (funext fun k => ?_)
      by_cases hk : k = b
      · subst hk
        simp only [if_true]
        refine Prod.ext rfl (Prod.ext rfl (funext fun j => ?_))
        rw [q24_cpy]
        rfl
      · simp only [if_neg hk]
    rw [e]
    exact hR0.put (by rw [e0]; exact hb) ((h.2.2 a ha).2.2 _ (by omega))
theorem q24_rows {a m : Nat} {t : q20_T 8} : ∀ (n : Nat), a + n ≤ 256 → ∀ k, k < 256 → q20_tget 8 (q20_rows a m t n) k = if a ≤ k ∧ k < a + n then (0, m, q20_int 0, []) else q20_tget 8 t k
  | 0, _, k, hk => by rw [if_neg (by omega)]; rfl
  | n + 1, h, k, hk => by
    refine (q21_tg 8 _ (a + n) k _ (by show _ < 256; omega) hk).trans ?_
    by_cases e : k = a + n
    · rw [if_pos e, if_pos (by omega)]
    · rw [if_neg e, q24_rows n (by omega) k hk]
      by_cases e2 : a ≤ k ∧ k < a + n
      · rw [if_pos e2, if_pos (by omega)]
      · rw [if_neg e2, if_neg (by omega)]
theorem q24_grid {ρ : Nat → Int32} {M : q20_M} {N : q4_M} {n m : Nat} (h : q21_R ρ M N) (hM : M.1 + 1 + n ≤ 256) : q21_R ρ (M.1 + 1 + n, q20_rows (M.1 + 1) m (q20_tput 8 M.2 M.1 (1, n, (7, 0, 0), (List.range n).map (fun j => (j, ((6, ((M.1 + 1 + j : Nat) : Int), 0) : q20_V))))) n) (q4_grid N n m) := by
  obtain ⟨h1, h2, h3⟩ := h
  refine ⟨by show M.1 + 1 + n = N.1 + 1 + n; rw [h1], hM, fun k hk => ?_⟩
  have hk : k < M.1 + 1 + n := hk
  have ht := q24_rows (a := M.1 + 1) (m := m) (t := q20_tput 8 M.2 M.1 (1, n, (7, 0, 0), (List.range n).map (fun j => (j, ((6, ((M.1 + 1 + j : Nat) : Int), 0) : q20_V))))) n hM k (by omega)
  have ht2 := q21_tg 8 M.2 M.1 k (1, n, (7, 0, 0), (List.range n).map (fun j => (j, ((6, ((M.1 + 1 + j : Nat) : Int), 0) : q20_V)))) (by show _ < 256; omega) (by show _ < 256; omega)
  unfold q20_get
  dsimp only
  rw [ht]
  simp only [q4_grid, ← h1]
  by_cases e1 : k = M.1
  · subst e1
    have n1 : ¬ (M.1 + 1 ≤ M.1 ∧ M.1 < M.1 + 1 + n) := by omega
    rw [if_neg n1, ht2]
    simp only [if_true]
    refine ⟨trivial, trivial, fun j hj => ?_⟩
    rw [q24_wm _ (fun j => ((6, ((M.1 + 1 + j : Nat) : Int), 0) : q20_V)) j _ (List.mem_range.mpr hj)]
    exact (rfl : Value.ref (M.1 + 1 + j) = .ref ((M.1 + 1 + j : Nat) : Int).toNat)
  · by_cases e2 : M.1 + 1 ≤ k ∧ k < M.1 + 1 + n
    · rw [if_pos e2, if_neg e1, if_pos (by omega)]
      exact ⟨rfl, rfl, fun j hj => ⟨0, rfl, by decide, by decide⟩⟩
    · have n1 : ¬ (M.1 < k ∧ k < M.1 + 1 + n) := by omega
      rw [if_neg e2, ht2]
      simp only [if_neg e1, if_neg n1]
      exact h3 k (by omega)
theorem q24_tn {z : Int32} (h : 0 ≤ z.toInt) : (¬ z < 0) ∧ z.toNatClampNeg = z.toInt.toNat := by
  refine ⟨fun h2 => ?_, rfl⟩
  have := Int32.lt_iff_toInt_lt.mp h2
  have e : (0 : Int32).toInt = 0 := by decide
  omega
