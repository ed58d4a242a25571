/-! what makes cells, copies, statics, switches -/
section Q8
variable {p : Program} {l : Launch} {e : Env} {R : Room} {s : State} {m : MethodId} {args : Array Value} {below : List Frame} {meth : Method} {c : Code} {H : Heap} {locs : List Loc} {Q : State → Prop}
variable {D : va_G} {ro : Nat → Nat} {h0 k pc len ce sl : Nat} {ls : Array Slot} {lv : List (Nat × Value)} {st : List Value} {M : q4_M} {w : Nat × List (Nat × Value) × List Value × q4_M × Nat × Nat} {i : Instr}
theorem q8_ow : Cond.instanceMethod Lib.objectInit ∈ lw_tbl ∧ Cond.code Lib.objectInit ⟨#[0xb1]⟩ 1 none ∈ lw_tbl ∧ Cond.native arraycopyName ∈ lw_tbl ∧ Cond.static arraycopyName ∈ lw_tbl ∧ Cond.initialized "java/lang/System" ∈ lw_tbl ∧ Cond.arrayClass .int ∈ lw_tbl ∧ Cond.arrayOver (.array .int) ∈ lw_tbl ∧ Cond.laysStatic "BuriedBySevens" "POWERS" "[I" ∈ lw_tbl ∧ Cond.laysStatic "BuriedBySevens" "FACTORIALS" "[I" ∈ lw_tbl := by
  have h := q3_ow_ok
  simp only [Bool.and_eq_true] at h
  obtain ⟨⟨⟨⟨⟨⟨⟨⟨h1, h2⟩, h3⟩, h4⟩, h5⟩, h6⟩, h7⟩, h8⟩, h9⟩ := h
  exact ⟨q3_mem h1, q3_mem h2, q3_mem h3, q3_mem h4, q3_mem h5, q3_mem h6, q3_mem h7, q3_mem h8, q3_mem h9⟩
theorem q8_cw {c : Nat} (h8 : c < 8) : Cond.instantiable (q2_cn c) (q2_N c) ∈ lw_tbl ∧ Cond.initialized (q2_cn c) ∈ lw_tbl := by
  have h := List.all_eq_true.mp q3_cw_ok c (List.mem_range.mpr h8)
  simp only [Bool.and_eq_true] at h
  exact ⟨q3_mem h.1, q3_mem h.2⟩
theorem q8_dv {ad : Nat → Nat} (t : FieldType) : q5_tv ad (defaultValue t) = defaultValue t := by cases t <;> rfl
theorem q8_new {n : Nat} (F : q6_F p R s m meth c D k) (hd : decode (q3_b k) pc = .ok (.new n, len)) (hn : len = 3) (hi : q3_nm (q2_own k) pc (.new n) = some i) (hs : q4_step k pc len lv st M ce sl i = some (.inl w)) (hl : lv_has ls (q2_ml k) (q5_tl (q5_ad ro h0) lv)) (hr : q5_rep D ro h0 s M H) (hlo : ∀ x ∈ locs, h0 ≤ x.base) (kk : q6_K p l e R s m args below meth c Q D ro h0 k w) :
    W p l e R s m args below meth c H locs ce sl Q (F0 m pc ls (st.map (q5_tv (q5_ad ro h0)))) := by
  subst hn
  obtain ⟨hx, hb, hml, ho, hin, hc, hR1, hR2, hR3, hR4⟩ := F
  simp only [q3_nm, Option.map_eq_some_iff] at hi
  obtain ⟨r, hf, rfl⟩ := hi
  obtain ⟨hm, e1, e2⟩ := q3_fd_spec hf
  have hw := q3_mem (List.all_eq_true.mp q3_sC_ok r hm)
  unfold q3_nw at hw
  rw [e1, e2] at hw
  simp only [q4_step] at hs
  split at hs
  · next hh =>
    cases hs
    obtain ⟨h8, h1, h2⟩ := hh
    have hKn := hc.2.1 _ h8
    obtain ⟨w1, w2⟩ := q8_cw h8
    refine W.newcK hx hb ho (q5_use hc hw rfl rfl) (q5_use hc w1 rfl rfl) (q5_use hc w2 rfl rfl) rfl hd (by rw [hR3]; exact h1) (by rw [hR4]; exact h2) hKn.2.1 rfl fun H1 kC hkC z1 z2 z3 => ?_
    have hnx := hr.next 0
    simp only [Nat.add_zero] at hnx
    have hr' := hr.push (n := 1) (f := fun k => if k = M.1 then (r.2.1 + 2, q2_N r.2.1, fun j => defaultValue (q2_ty r.2.1 j)) else M.2 k) z2 z3 (fun k hk => if_neg (Nat.ne_of_lt hk)) (fun k hk1 hk2 => ?_)
    · have hk := kk H1 locs ls hl hr' hlo
      simp only [List.map_cons, q5_tv, hnx] at hk
      exact hk
    · have ek : k = M.1 := by omega
      subst ek
      simp only [if_true]
      refine Or.inr (Or.inr ⟨hr.1, _, rfl, h8, ?_⟩)
      rw [hnx]
      exact (u_born (args := args) (q2_ty r.2.1) (q7_lays hc h8) (fun _ h => h) hKn hkC z1 (fun j hj => (q7_lay h8 hj).2.1)).to (fun j _ => (q8_dv _).symm)
  · cases hs
theorem q8_newarray {t : ArrayType} (F : q6_F p R s m meth c D k) (hd : decode (q3_b k) pc = .ok (.newarray t, len)) (hn : len = 2) (hi : q3_nm (q2_own k) pc (.newarray t) = some i) (hs : q4_step k pc len lv st M ce sl i = some (.inl w)) (hl : lv_has ls (q2_ml k) (q5_tl (q5_ad ro h0) lv)) (hr : q5_rep D ro h0 s M H) (hlo : ∀ x ∈ locs, h0 ≤ x.base) (kk : q6_K p l e R s m args below meth c Q D ro h0 k w) :
    W p l e R s m args below meth c H locs ce sl Q (F0 m pc ls (st.map (q5_tv (q5_ad ro h0)))) := by
  subst hn
  obtain ⟨hx, hb, hml, ho, hin, hc, hR1, hR2, hR3, hR4⟩ := F
  simp only [q3_nm] at hi
  split at hi
  · cases hi
    simp only [q4_step] at hs
    split at hs
    · next n r =>
      split at hs
      · next hh =>
        cases hs
        obtain ⟨h1, h2, h3, h4⟩ := hh
        simp only [List.map_cons, q5_tv]
        have hac : (Cond.arrayClass .int).before args s = true := hc.1 _ q8_ow.2.2.2.2.2.1 rfl
        refine W.newaK (atype := .int) hx hb hac rfl hd rfl h1 rfl (by show n.toNatClampNeg * 4 ≤ _; omega) (by rw [hR3]; exact h3) (by rw [hR4]; exact h4) rfl fun H1 cA z1 z2 z3 z4 => ?_
        have hnx := hr.next 0
        simp only [Nat.add_zero] at hnx
        have hr' := hr.push (n := 1) (f := fun k => if k = M.1 then (0, n.toNatClampNeg, fun _ => .int 0) else M.2 k) z2 z3 (fun k hk => if_neg (Nat.ne_of_lt hk)) (fun k hk1 hk2 => ?_)
        · have hk := kk H1 locs ls hl hr' hlo
          simp only [List.map_cons, q5_tv, hnx] at hk
          exact hk
        · have ek : k = M.1 := by omega
          subst ek
          simp only [if_true]
          refine Or.inl ⟨rfl, fun _ _ => ⟨0, rfl⟩, Or.inr ⟨hr.1, cA, ?_, z4⟩⟩
          rw [hnx]
          exact z1
      · cases hs
    · cases hs
  · cases hi
theorem q8_getstatic {n : Nat} (F : q6_F p R s m meth c D k) (hd : decode (q3_b k) pc = .ok (.getstatic n, len)) (hn : len = 3) (hi : q3_nm (q2_own k) pc (.getstatic n) = some i) (hs : q4_step k pc len lv st M ce sl i = some (.inl w)) (hl : lv_has ls (q2_ml k) (q5_tl (q5_ad ro h0) lv)) (hr : q5_rep D ro h0 s M H) (hlo : ∀ x ∈ locs, h0 ≤ x.base) (kk : q6_K p l e R s m args below meth c Q D ro h0 k w) :
    W p l e R s m args below meth c H locs ce sl Q (F0 m pc ls (st.map (q5_tv (q5_ad ro h0)))) := by
  subst hn
  obtain ⟨hx, hb, hml, ho, hin, hc, hR1, hR2, hR3, hR4⟩ := F
  simp only [q3_nm, Option.map_eq_some_iff] at hi
  obtain ⟨r, hf, rfl⟩ := hi
  obtain ⟨hm, e1, e2⟩ := q3_fd_spec hf
  have hw := q3_mem (List.all_eq_true.mp q3_sS_ok r hm)
  unfold q3_sw at hw
  rw [e1, e2] at hw
  simp only [q4_step] at hs
  split at hs
  · next hh =>
    cases hs
    have hZ : va_Z "BuriedBySevens" (q3_sn r.2.1) "[I" (.ref (ro r.2.1)) (fun q => h0 ≤ q) s H := by
      rcases hh with h | h <;> rw [h]
      · exact hr.2.2.2.2.1
      · exact hr.2.2.2.2.2
    have had : q5_ad ro h0 r.2.1 = ro r.2.1 := q5_old (by omega)
    have hk := kk H locs ls hl hr hlo
    simp only [List.map_cons, q5_tv, had] at hk
    obtain ⟨cf, kf, fi, f, a, cell, z1, z2, z3, z4, z5, z6, z7, z8⟩ := hZ
    cases hb2 : Nat.beq r.2.2.1 0 with
    | true =>
      rw [hb2, cond_true] at hw
      exact W.gets hx hb ho (q5_use hc hw rfl rfl) z1 z2 z3 z4 z5 (fun e => by rw [e] at z6; cases z6) z7 rfl hd hk
    | false =>
      rw [hb2, cond_false] at hw
      exact va_WgetsN hx hb ho (q5_use hc hw rfl rfl) z1 z2 z3 z4 z5 (fun e => by rw [e] at z6; cases z6) z7 rfl hd hk
  · cases hs
theorem q8_special {n : Nat} (F : q6_F p R s m meth c D k) (hd : decode (q3_b k) pc = .ok (.invokespecial n, len)) (hn : len = 3) (hi : q3_nm (q2_own k) pc (.invokespecial n) = some i) (hs : q4_step k pc len lv st M ce sl i = some (.inl w)) (hl : lv_has ls (q2_ml k) (q5_tl (q5_ad ro h0) lv)) (hr : q5_rep D ro h0 s M H) (hlo : ∀ x ∈ locs, h0 ≤ x.base) (kk : q6_K p l e R s m args below meth c Q D ro h0 k w) :
    W p l e R s m args below meth c H locs ce sl Q (F0 m pc ls (st.map (q5_tv (q5_ad ro h0)))) := by
  subst hn
  obtain ⟨hx, hb, hml, ho, hin, hc, hR1, hR2, hR3, hR4⟩ := F
  simp only [q3_nm] at hi
  split at hi
  · next r hf =>
    cases hz : Nat.beq r.2.2.1 2 with
    | true =>
      rw [hz, cond_true] at hi
      cases hi
      simp only [q4_step, q4_call] at hs
      split at hs
      · split at hs
        · cases hs
        · split at hs <;> cases hs
        · cases hs
      · cases hs
    | false => rw [hz, cond_false] at hi; cases hi
  · next hnone =>
    simp only [Option.map_eq_some_iff] at hi
    obtain ⟨r, hf, rfl⟩ := hi
    obtain ⟨hm, e1, e2⟩ := q3_fd_spec hf
    have hw := q3_mem (List.all_eq_true.mp q3_sO_ok r hm)
    unfold q3_ow at hw
    rw [e1, e2] at hw
    simp only [q4_step] at hs
    split at hs
    · next a rs =>
      split at hs
      · next hh =>
        cases hs
        simp only [List.map_cons, q5_tv]
        refine W.objInit hx hb ho (q5_use hc hw rfl rfl) (q5_use hc q8_ow.1 rfl rfl) (q5_use hc q8_ow.2.1 rfl rfl) rfl (hl.1.trans hml.symm) rfl hd (by rw [hR1]; exact hh.1) ?_ ?_
        · rw [q5_cats, hR2]
          show 2 * 0 + _ + 12 ≤ _
          omega
        · exact kk _ _ _ hl hr hlo
      · cases hs
    · cases hs
theorem q8_nat {z : Int32} (hz : ¬ z < 0) : z.toInt = (z.toNatClampNeg : Int) := by
  have h1 : (0 : Int) ≤ z.toInt := by
    have := Int32.le_iff_toInt_le.mp (Int32.not_lt.mp hz)
    simpa using this
  show z.toInt = ((z.toInt.toNat : Nat) : Int)
  omega
theorem q8_static {n : Nat} (F : q6_F p R s m meth c D k) (hd : decode (q3_b k) pc = .ok (.invokestatic n, len)) (hn : len = 3) (hi : q3_nm (q2_own k) pc (.invokestatic n) = some i) (hs : q4_step k pc len lv st M ce sl i = some (.inl w)) (hl : lv_has ls (q2_ml k) (q5_tl (q5_ad ro h0) lv)) (hr : q5_rep D ro h0 s M H) (hlo : ∀ x ∈ locs, h0 ≤ x.base) (kk : q6_K p l e R s m args below meth c Q D ro h0 k w) :
    W p l e R s m args below meth c H locs ce sl Q (F0 m pc ls (st.map (q5_tv (q5_ad ro h0)))) := by
  subst hn
  obtain ⟨hx, hb, hml, ho, hin, hc, hR1, hR2, hR3, hR4⟩ := F
  simp only [q3_nm] at hi
  split at hi
  · next r hf =>
    cases hz : Nat.beq r.2.2.1 0 with
    | true =>
      rw [hz, cond_true] at hi
      cases hi
      simp only [q4_step, q4_call] at hs
      split at hs <;> cases hs
    | false => rw [hz, cond_false] at hi; cases hi
  · next hnone =>
    simp only [Option.map_eq_some_iff] at hi
    obtain ⟨r, hf, rfl⟩ := hi
    obtain ⟨hm, e1, e2⟩ := q3_fd_spec hf
    have hw := q3_mem (List.all_eq_true.mp q3_sY_ok r hm)
    unfold q3_yw at hw
    rw [e1, e2] at hw
    simp only [q4_step] at hs
    split at hs
    · next nn dp b sp a rs =>
      split at hs
      · next hh =>
        cases hs
        obtain ⟨ha3, ha, hb3, hbl, ka, kb, h1, h2, h3, h4, h5, h6, h7⟩ := hh
        obtain ⟨ia, cA, ga, ta⟩ := (hr.2.2.1 a ha).own ka ha3
        obtain ⟨ib, cB, gb, tb⟩ := (hr.2.2.1 b hbl).own kb hb3
        obtain ⟨-, k0, hk0, cm0, hkk0⟩ := ta (M.2 a).2.1 (fun j => q5_tv (q5_ad ro h0) ((M.2 a).2.2 j))
        obtain ⟨-, k1, hk1, cm1, hkk1⟩ := tb (M.2 b).2.1 (fun j => q5_tv (q5_ad ro h0) ((M.2 b).2.2 j))
        intro T hT X
        simp only [List.map_cons, q5_tv]
        obtain ⟨vm', X', step⟩ := X.arraycopy hx ho (q5_use hc hw rfl rfl) (q5_use hc q8_ow.2.2.1 rfl rfl) (q5_use hc q8_ow.2.2.2.1 rfl rfl) (q5_use hc q8_ow.2.2.2.2.1 rfl rfl) (src := q5_ad ro h0 a) (dst := q5_ad ro h0 b) (srcPos := sp) (destPos := dp) (n := nn) (by rw [hT]; exact ga) (by rw [hT]; exact gb)
          (fun _ h => by cases h) (fun _ h => by cases h) (fun h => by cases h) (fun h => by cases h) hk0 hk1 hkk0 hkk1 rfl h1 h2 h3
          (by rw [q8_nat h1, q8_nat h3, arrV_size]; omega) (by rw [q8_nat h2, q8_nat h3, arrV_size]; omega)
          (fun vm₁ _ j hj => by
            have e : (arrV cA (M.2 a).2.1 (fun j => q5_tv (q5_ad ro h0) ((M.2 a).2.2 j))).slots.getD (sp.toNatClampNeg + j) .null = q5_tv (q5_ad ro h0) ((M.2 a).2.2 (sp.toNatClampNeg + j)) := by
              rw [Array.getD_eq_getD_getElem?, arrV_read _ _ (by omega)]
              rfl
            obtain ⟨z, hz⟩ := ia (sp.toNatClampNeg + j) (by omega)
            rw [e, hz]
            exact ⟨rfl, trivial⟩)
          (g := F0 m pc ls (.int nn :: .int dp :: .ref (q5_ad ro h0 b) :: .int sp :: .ref (q5_ad ro h0 a) :: rs.map (q5_tv (q5_ad ro h0)))) rfl (hl.1.trans hml.symm) (rest := rs.map (q5_tv (q5_ad ro h0))) rfl (by rw [hb]; exact hd) (by rw [hR1]; exact h6)
          (by rw [q5_cats, hR2]; show 2 * 0 + _ + (7 + 11) ≤ _; omega)
        have e1 : copied (arrV cA (M.2 a).2.1 (fun j => q5_tv (q5_ad ro h0) ((M.2 a).2.2 j))) (arrV cB (M.2 b).2.1 (fun j => q5_tv (q5_ad ro h0) ((M.2 b).2.2 j))) sp dp nn = arrV cB (M.2 b).2.1 (fun j => q5_tv (q5_ad ro h0) (va_cpy (M.2 a).2.2 (M.2 b).2.2 sp.toNatClampNeg dp.toNatClampNeg nn.toNatClampNeg j)) := va_copied (q5_tv (q5_ad ro h0)) cA cB (M.2 a).2.2 (M.2 b).2.2 h4
        rw [e1] at X' step
        generalize hcell : arrV cB (M.2 b).2.1 (fun j => q5_tv (q5_ad ro h0) (va_cpy (M.2 a).2.2 (M.2 b).2.2 sp.toNatClampNeg dp.toNatClampNeg nn.toNatClampNeg j)) = cellB at X' step
        have hlb : q5_ad ro h0 b < H.size := (Array.getElem?_eq_some_iff.mp gb).1
        have hheap : ((T.setVm vm').setCell (q5_ad ro h0 b) cellB).heap = H.setIfInBounds (q5_ad ro h0 b) cellB := by rw [← hT]; rfl
        have oq : ∀ q : Nat, q ≠ q5_ad ro h0 b → (H.setIfInBounds (q5_ad ro h0 b) cellB)[q]? = H[q]? := fun q hq => by simp [Array.getElem?_setIfInBounds, Ne.symm hq]
        have hat : (H.setIfInBounds (q5_ad ro h0 b) cellB)[q5_ad ro h0 b]? = some cellB := by simp [Array.getElem?_setIfInBounds, hlb]
        have hr' := hr.upd (x := ((M.2 b).1, (M.2 b).2.1, va_cpy (M.2 a).2.2 (M.2 b).2.2 sp.toNatClampNeg dp.toNatClampNeg nn.toNatClampNeg)) hb3 (show (H.setIfInBounds (q5_ad ro h0 b) cellB).size = H.size by simp) oq (Or.inl ⟨kb, fun j hj => by
            show ∃ z : Int32, va_cpy (M.2 a).2.2 (M.2 b).2.2 sp.toNatClampNeg dp.toNatClampNeg nn.toNatClampNeg j = .int z
            by_cases hq : dp.toNatClampNeg ≤ j ∧ j < dp.toNatClampNeg + nn.toNatClampNeg
            · rw [pk_cpy_in hq.1 hq.2]
              exact ia _ (by omega)
            · rw [pk_cpy_out (by omega)]
              exact ib j hj, Or.inr ⟨hb3, cB, by rw [hat, ← hcell], tb⟩⟩)
        obtain ⟨t, a1, b1⟩ := kk _ _ _ hl hr' (fun z hz => by
            rcases List.mem_append.mp hz with h | h
            · exact hlo z h
            · obtain ⟨y, -, hy⟩ := List.mem_map.mp h
              rw [← hy]
              show h0 ≤ q5_ad ro h0 b
              rw [q5_own hb3]; omega) _ hheap X'
        exact ⟨t, step t a1, b1⟩
      · cases hs
    · cases hs
theorem q8_table {d lo hi : Int} {offs : Array Int} (F : q6_F p R s m meth c D k) (hd : decode (q3_b k) pc = .ok (.tableswitch d lo hi offs, len)) (hi' : q3_nm (q2_own k) pc (.tableswitch d lo hi offs) = some i) (hs : q4_step k pc len lv st M ce sl i = some (.inl w)) (hl : lv_has ls (q2_ml k) (q5_tl (q5_ad ro h0) lv)) (hr : q5_rep D ro h0 s M H) (hlo : ∀ x ∈ locs, h0 ≤ x.base) (kk : q6_K p l e R s m args below meth c Q D ro h0 k w) :
    W p l e R s m args below meth c H locs ce sl Q (F0 m pc ls (st.map (q5_tv (q5_ad ro h0)))) := by
  obtain ⟨hx, hb, hml, ho, hin, hc, hR1, hR2, hR3, hR4⟩ := F
  simp only [q3_nm] at hi'
  split at hi'
  · next hh =>
    cases hi'
    simp only [q4_step] at hs
    split at hs
    · next x r =>
      simp only [List.map_cons, q5_tv]
      split at hs
      · next h =>
        cases hs
        refine lv_tableOut (tgt := ((pc : Int) + d).toNat) hx hb hd h (by have := hh.1; omega) ?_
        exact kk _ _ _ hl hr hlo
      · next h =>
        split at hs
        · next t ht =>
          cases hs
          rw [Array.getElem?_map, Option.map_eq_some_iff] at ht
          obtain ⟨off, hoff, rfl⟩ := ht
          have h2 := List.all_eq_true.mp hh.2 off (by
            have := Array.mem_of_getElem? hoff
            exact Array.mem_toList_iff.mpr this)
          have h3 : 0 ≤ (pc : Int) + off := of_decide_eq_true h2
          refine lv_tableIn (tgt := ((pc : Int) + off).toNat) hx hb hd (fun z => h (Or.inl z)) (fun z => h (Or.inr z)) hoff (by omega) ?_
          exact kk _ _ _ hl hr hlo
        · cases hs
    · cases hs
  · cases hi'
theorem q8_off (ps : List (Int × Int)) (d x : Int) (q : Nat) (h0 : 0 ≤ (q : Int) + d) (h : ∀ z ∈ ps, 0 ≤ (q : Int) + z.2) : Op.lookupswitch.offset (ps.map (fun z => (z.1, (q : Int) + z.2))) ((q : Int) + d) x = (q : Int) + Op.lookupswitch.offset ps d x ∧ 0 ≤ (q : Int) + Op.lookupswitch.offset ps d x := by
  induction ps with
  | nil => exact ⟨rfl, h0⟩
  | cons z t ih =>
    obtain ⟨a, o⟩ := z
    have ih := ih (fun z hz => h z (List.mem_cons_of_mem _ hz))
    have hz := h (a, o) List.mem_cons_self
    simp only [List.map_cons, Op.lookupswitch.offset_cons]
    split
    · exact ⟨rfl, hz⟩
    · exact ih
theorem q8_lookup {d : Int} {ps : Array (Int × Int)} (F : q6_F p R s m meth c D k) (hd : decode (q3_b k) pc = .ok (.lookupswitch d ps, len)) (hi' : q3_nm (q2_own k) pc (.lookupswitch d ps) = some i) (hs : q4_step k pc len lv st M ce sl i = some (.inl w)) (hl : lv_has ls (q2_ml k) (q5_tl (q5_ad ro h0) lv)) (hr : q5_rep D ro h0 s M H) (hlo : ∀ x ∈ locs, h0 ≤ x.base) (kk : q6_K p l e R s m args below meth c Q D ro h0 k w) :
    W p l e R s m args below meth c H locs ce sl Q (F0 m pc ls (st.map (q5_tv (q5_ad ro h0)))) := by
  obtain ⟨hx, hb, hml, ho, hin, hc, hR1, hR2, hR3, hR4⟩ := F
  simp only [q3_nm] at hi'
  split at hi'
  · next hh =>
    cases hi'
    simp only [q4_step] at hs
    split at hs
    · next x r =>
      cases hs
      simp only [List.map_cons, q5_tv]
      obtain ⟨z1, z2⟩ := q8_off ps.toList d x.toInt pc hh.1 (fun z hz => of_decide_eq_true (List.all_eq_true.mp hh.2.1 z hz))
      have hk := kk H locs ls hl hr hlo
      simp only [Array.toList_map, z1] at hk
      exact lv_lookup (tgt := ((pc : Int) + Op.lookupswitch.offset ps.toList d x.toInt).toNat) hx hb hd hh.2.2 rfl (by omega) hk
    · cases hs
  · cases hi'
end Q8
