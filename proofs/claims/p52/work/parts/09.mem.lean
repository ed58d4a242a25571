/-! instructions on cells, switches -/
section Q7
variable {p : Program} {l : Launch} {e : Env} {R : Room} {s : State} {m : MethodId} {args : Array Value} {below : List Frame} {meth : Method} {c : Code} {H : Heap} {locs : List Loc} {Q : State → Prop}
variable {D : va_G} {ro : Nat → Nat} {h0 k pc len ce sl : Nat} {ls : Array Slot} {lv : List (Nat × Value)} {st : List Value} {M : q4_M} {w : Nat × List (Nat × Value) × List Value × q4_M × Nat × Nat} {i : Instr}
theorem q7_lay {c k : Nat} (hc : c < 8) (hk : k < q2_N c) : u_lay (q2_cn c) (q2_T c) k ∈ lw_tbl ∧ parseFieldDescriptor (q2_T c k).2.2.1 = some (q2_ty c k) ∧ (q2_T c k).1 = q2_cn c ∧ ∀ j, j < q2_N c → j ≠ k → (q2_T c j).2.1 ≠ (q2_T c k).2.1 := by
  have h := List.all_eq_true.mp q3_lay_ok c (List.mem_range.mpr hc)
  have h := List.all_eq_true.mp h k (List.mem_range.mpr hk)
  simp only [Bool.and_eq_true, decide_eq_true_eq] at h
  obtain ⟨⟨⟨h1, h2⟩, h3⟩, h4⟩ := h
  refine ⟨q3_mem h1, h2, h3, fun j hj hne => ?_⟩
  have h5 := List.all_eq_true.mp h4 j (List.mem_range.mpr hj)
  simp only [Bool.or_eq_true, decide_eq_true_eq] at h5
  exact h5.resolve_left hne
theorem q7_layok (C : String) (T : u_T) (k : Nat) : (u_lay C T k).onTables = true ∧ q5_ok (u_lay C T k) = true := by
  unfold u_lay
  split <;> exact ⟨rfl, rfl⟩
theorem q7_lays (hc : q5_cx D s) {c : Nat} (h8 : c < 8) : ∀ w ∈ u_ws (q2_cn c) (q2_T c) (q2_N c), w.before args s = true := by
  intro w hw
  obtain ⟨k, hk, rfl⟩ := List.mem_map.mp hw
  exact q5_use hc (q7_lay h8 (List.mem_range.mp hk)).1 (q7_layok _ _ _).1 (q7_layok _ _ _).2
theorem q7_iaload (F : q6_F p R s m meth c D k) (hd : decode (q3_b k) pc = .ok (.iaload, len)) (hn : len = 1) (hi : q3_nm (q2_own k) pc .iaload = some i) (hs : q4_step k pc len lv st M ce sl i = some (.inl w)) (hl : lv_has ls (q2_ml k) (q5_tl (q5_ad ro h0) lv)) (hr : q5_rep D ro h0 s M H) (hlo : ∀ x ∈ locs, h0 ≤ x.base) (kk : q6_K p l e R s m args below meth c Q D ro h0 k w) :
    W p l e R s m args below meth c H locs ce sl Q (F0 m pc ls (st.map (q5_tv (q5_ad ro h0)))) := by
  subst hn
  obtain ⟨hx, hb, hml, ho, hin, hc, hR1, hR2, hR3, hR4⟩ := F
  simp only [q3_nm, Option.some.injEq] at hi
  subst hi
  simp only [q4_step] at hs
  split at hs
  · next j a r =>
    split at hs
    · next hh =>
      cases hs
      obtain ⟨h1, h2, h3, h4⟩ := hh
      obtain ⟨cell, g1, g2, g3, g4, g5⟩ := (hr.2.2.1 a h1).ints h2
      simp only [List.map_cons, q5_tv]
      refine W.iald hx hb g1 g2 g3 (fun h => h.elim h3 (fun h => absurd (Nat.lt_of_lt_of_le h4 g4.1) (Nat.not_lt.mpr h))) (g5 _ h4) rfl rfl hd ?_
      exact kk _ _ _ hl hr hlo
    · cases hs
  · cases hs
theorem q7_aaload (F : q6_F p R s m meth c D k) (hd : decode (q3_b k) pc = .ok (.aaload, len)) (hn : len = 1) (hi : q3_nm (q2_own k) pc .aaload = some i) (hs : q4_step k pc len lv st M ce sl i = some (.inl w)) (hl : lv_has ls (q2_ml k) (q5_tl (q5_ad ro h0) lv)) (hr : q5_rep D ro h0 s M H) (hlo : ∀ x ∈ locs, h0 ≤ x.base) (kk : q6_K p l e R s m args below meth c Q D ro h0 k w) :
    W p l e R s m args below meth c H locs ce sl Q (F0 m pc ls (st.map (q5_tv (q5_ad ro h0)))) := by
  subst hn
  obtain ⟨hx, hb, hml, ho, hin, hc, hR1, hR2, hR3, hR4⟩ := F
  simp only [q3_nm, Option.some.injEq] at hi
  subst hi
  simp only [q4_step] at hs
  split at hs
  · next j a r =>
    split at hs
    · next hh =>
      cases hs
      obtain ⟨h1, h2, h3, h4⟩ := hh
      obtain ⟨cA, g1, g2⟩ := (hr.2.2.1 a h1).rows h2
      simp only [List.map_cons, q5_tv]
      refine W.aald hx hb g1 (g2 _ _) rfl (fun q => by cases q) (by rw [arrV_size]; exact fun h => h.elim h3 (fun h => absurd h4 (Nat.not_lt.mpr h))) (arrV_read _ _ h4) rfl rfl hd ?_
      exact kk _ _ _ hl hr hlo
    · cases hs
  · cases hs
theorem q7_iastore (F : q6_F p R s m meth c D k) (hd : decode (q3_b k) pc = .ok (.iastore, len)) (hn : len = 1) (hi : q3_nm (q2_own k) pc .iastore = some i) (hs : q4_step k pc len lv st M ce sl i = some (.inl w)) (hl : lv_has ls (q2_ml k) (q5_tl (q5_ad ro h0) lv)) (hr : q5_rep D ro h0 s M H) (hlo : ∀ x ∈ locs, h0 ≤ x.base) (kk : q6_K p l e R s m args below meth c Q D ro h0 k w) :
    W p l e R s m args below meth c H locs ce sl Q (F0 m pc ls (st.map (q5_tv (q5_ad ro h0)))) := by
  subst hn
  obtain ⟨hx, hb, hml, ho, hin, hc, hR1, hR2, hR3, hR4⟩ := F
  simp only [q3_nm, Option.some.injEq] at hi
  subst hi
  simp only [q4_step] at hs
  split at hs
  · next x j a r =>
    split at hs
    · next hh =>
      cases hs
      obtain ⟨h0', h1, h2, h3, h4⟩ := hh
      obtain ⟨gi, cA, g1, g2⟩ := (hr.2.2.1 a h1).own h2 h0'
      simp only [List.map_cons, q5_tv]
      refine W.iast hx hb g1 (g2 _ _) (fun q => by cases q) (by rw [arrV_size]; exact fun h => h.elim h3 (fun h => absurd h4 (Nat.not_lt.mpr h))) rfl rfl hd (fun H' e1 e2 e3 => ?_)
      refine kk _ _ _ hl (hr.upd h0' e2 e3 (Or.inl ⟨h2, fun y hy => ?_, Or.inr ⟨h0', cA, ?_, g2⟩⟩)) (fun z hz => ?_)
      · by_cases ey : y = j.toNatClampNeg
        · exact ⟨x, if_pos ey⟩
        · obtain ⟨z, hz⟩ := gi y hy
          exact ⟨z, (if_neg ey).trans hz⟩
      · rw [e1, arrV_store]
        congr 2
        funext y
        by_cases ey : y = j.toNatClampNeg
        · simp only [updV, ey, if_true]; rfl
        · simp only [updV, if_neg ey]
      · rcases List.mem_append.mp hz with h | h
        · exact hlo z h
        · rw [List.mem_singleton.mp h]
          show h0 ≤ q5_ad ro h0 a
          rw [q5_own h0']; omega
    · cases hs
  · cases hs
theorem q7_arraylength (F : q6_F p R s m meth c D k) (hd : decode (q3_b k) pc = .ok (.arraylength, len)) (hn : len = 1) (hi : q3_nm (q2_own k) pc .arraylength = some i) (hs : q4_step k pc len lv st M ce sl i = some (.inl w)) (hl : lv_has ls (q2_ml k) (q5_tl (q5_ad ro h0) lv)) (hr : q5_rep D ro h0 s M H) (hlo : ∀ x ∈ locs, h0 ≤ x.base) (kk : q6_K p l e R s m args below meth c Q D ro h0 k w) :
    W p l e R s m args below meth c H locs ce sl Q (F0 m pc ls (st.map (q5_tv (q5_ad ro h0)))) := by
  subst hn
  obtain ⟨hx, hb, hml, ho, hin, hc, hR1, hR2, hR3, hR4⟩ := F
  simp only [q3_nm, Option.some.injEq] at hi
  subst hi
  simp only [q4_step] at hs
  split at hs
  · next a r =>
    split at hs
    · next hh =>
      cases hs
      obtain ⟨h1, h2⟩ := hh
      obtain ⟨cell, g1, g2, g3, g4, g5⟩ := (hr.2.2.1 a h1).ints h2
      simp only [List.map_cons, q5_tv]
      refine W.alen hx hb g1 g2 g4.2 rfl rfl hd ?_
      exact kk _ _ _ hl hr hlo
    · cases hs
  · cases hs
theorem q7_getfield {n : Nat} (F : q6_F p R s m meth c D k) (hd : decode (q3_b k) pc = .ok (.getfield n, len)) (hn : len = 3) (hi : q3_nm (q2_own k) pc (.getfield n) = some i) (hs : q4_step k pc len lv st M ce sl i = some (.inl w)) (hl : lv_has ls (q2_ml k) (q5_tl (q5_ad ro h0) lv)) (hr : q5_rep D ro h0 s M H) (hlo : ∀ x ∈ locs, h0 ≤ x.base) (kk : q6_K p l e R s m args below meth c Q D ro h0 k w) :
    W p l e R s m args below meth c H locs ce sl Q (F0 m pc ls (st.map (q5_tv (q5_ad ro h0)))) := by
  subst hn
  obtain ⟨hx, hb, hml, ho, hin, hc, hR1, hR2, hR3, hR4⟩ := F
  simp only [q3_nm, Option.map_eq_some_iff] at hi
  obtain ⟨r, hf, rfl⟩ := hi
  obtain ⟨hm, e1, e2⟩ := q3_fd_spec hf
  have hw := q3_mem (List.all_eq_true.mp q3_sF_ok r hm)
  unfold q3_fw at hw
  rw [e1, e2] at hw
  simp only [q4_step] at hs
  split at hs
  · next a rs =>
    split at hs
    · next hh =>
      cases hs
      obtain ⟨h1, h2, h3, h4⟩ := hh
      obtain ⟨-, -, cell, g1, g2, g3, g4⟩ := (hr.2.2.1 a h1).ob h2
      obtain ⟨hS, hfc, kC, hkC, hkind⟩ := hc.2.1 _ h3
      obtain ⟨cf, kf, fi, f, hfi, hsl⟩ := hS _ h4
      have hu := u_facts hfc hkC (u_lays (q7_lays (args := args) hc h3) (fun _ h => h) h4) hfi
      rw [(q7_lay h3 h4).2.2.1] at hfi
      simp only [List.map_cons, q5_tv]
      refine W.getf hx hb ho (q5_use hc hw rfl rfl) hfi hu.1 g1 (by rw [g3]; exact fun h => by cases h) (v := q5_tv (q5_ad ro h0) ((M.2 a).2.2 (r.2.1 % 64))) (by rw [hsl]; exact g4 _ h4) rfl rfl hd ?_
      exact kk _ _ _ hl hr hlo
    · cases hs
  · cases hs
theorem q7_apart (hc : q5_cx D s) {c : Nat} (h8 : c < 8) : ∀ x y, x < q2_N c → y < q2_N c → x ≠ y → (D.2 c) x ≠ (D.2 c) y := by
  intro x y hx hy hne
  obtain ⟨hS, -⟩ := hc.2.1 c h8
  obtain ⟨_, _, _, fa, hia, ea⟩ := hS x hx
  obtain ⟨_, _, _, fb, hib, eb⟩ := hS y hy
  rw [← ea, ← eb]
  refine u_apart (args := #[]) (u_lays (q7_lays hc h8) (fun _ h => h) hx) (u_lays (q7_lays hc h8) (fun _ h => h) hy) hia hib ?_
  rw [(State.fieldFound?_type hia (q7_lay h8 hx).2.1).1, (State.fieldFound?_type hib (q7_lay h8 hy).2.1).1]
  exact (q7_lay h8 hy).2.2.2 x hx hne
theorem q7_putfield {n : Nat} (F : q6_F p R s m meth c D k) (hd : decode (q3_b k) pc = .ok (.putfield n, len)) (hn : len = 3) (hi : q3_nm (q2_own k) pc (.putfield n) = some i) (hs : q4_step k pc len lv st M ce sl i = some (.inl w)) (hl : lv_has ls (q2_ml k) (q5_tl (q5_ad ro h0) lv)) (hr : q5_rep D ro h0 s M H) (hlo : ∀ x ∈ locs, h0 ≤ x.base) (kk : q6_K p l e R s m args below meth c Q D ro h0 k w) :
    W p l e R s m args below meth c H locs ce sl Q (F0 m pc ls (st.map (q5_tv (q5_ad ro h0)))) := by
  subst hn
  obtain ⟨hx, hb, hml, ho, hin, hc, hR1, hR2, hR3, hR4⟩ := F
  simp only [q3_nm, Option.map_eq_some_iff] at hi
  obtain ⟨r, hf, rfl⟩ := hi
  obtain ⟨hm, e1, e2⟩ := q3_fd_spec hf
  have hw := q3_mem (List.all_eq_true.mp q3_sF_ok r hm)
  unfold q3_fw at hw
  rw [e1, e2] at hw
  simp only [q4_step] at hs
  split at hs
  · next v a rs =>
    split at hs
    · next hh =>
      cases hs
      obtain ⟨h1, h2, h3, h4, h5, h6⟩ := hh
      obtain ⟨ha3, -, cell, g1, g2, g3, g4⟩ := (hr.2.2.1 a h1).ob h2
      obtain ⟨hS, hfc, kC, hkC, hkind⟩ := hc.2.1 _ h3
      obtain ⟨cf, kf, fi, f, hfi, hsl⟩ := hS _ h4
      obtain ⟨q1, q2, q3, -⟩ := q7_lay h3 h4
      have hu := u_facts hfc hkC (u_lays (q7_lays (args := args) hc h3) (fun _ h => h) h4) hfi
      have hlw := q7_lays (args := args) hc h3 _ (u_in_lay h4)
      have hfit := q5_fit (ad := q5_ad ro h0) h5
      have fin : ∀ H' : Heap, H'[q5_ad ro h0 a]? = some (cell.setSlot f.slot (q5_tv (q5_ad ro h0) v)) → H'.size = H.size → (∀ q, q ≠ q5_ad ro h0 a → H'[q]? = H[q]?) → W p l e R s m args below meth c H' (locs ++ [⟨q5_ad ro h0 a, f.slot⟩]) ce sl Q (F0 m (pc + 3) ls (rs.map (q5_tv (q5_ad ro h0)))) := by
        intro H' z1 z2 z3
        rw [hsl] at z1
        refine kk _ _ _ hl (hr.upd ha3 z2 z3 (Or.inr (Or.inr ⟨ha3, _, h2, h3, ?_⟩))) (fun z hz => ?_)
        · refine t_OB.to (V := updV (fun j => q5_tv (q5_ad ro h0) ((M.2 a).2.2 j)) (r.2.1 % 64) (q5_tv (q5_ad ro h0) v)) ⟨_, z1, g2, g3, t_set g4 (q7_apart hc h3) h4 _⟩ (fun j _ => ?_)
          by_cases ej : j = r.2.1 % 64
          · simp only [updV, if_pos ej]
          · simp only [updV, if_neg ej]
        · rcases List.mem_append.mp hz with h | h
          · exact hlo z h
          · rw [List.mem_singleton.mp h]
            show h0 ≤ q5_ad ro h0 a
            rw [q5_own ha3]; omega
      simp only [List.map_cons]
      show W p l e R s m args below meth c H locs ce sl Q (F0 m pc ls (q5_tv (q5_ad ro h0) v :: .ref (q5_ad ro h0 a) :: rs.map (q5_tv (q5_ad ro h0))))
      have hfi2 := hfi
      rw [q3] at hfi2
      by_cases hfn : (q2_T (r.2.1 / 64) (r.2.1 % 64)).2.2.2 = true
      · obtain ⟨hk2, hown⟩ := h6.resolve_left (by rw [hfn]; decide)
        unfold u_lay at hlw
        rw [if_pos hfn] at hlw
        have hcf : m.cls = cf := by
          obtain ⟨_, _, c', _, _, _, -, -, hf', -, -, -, hown2, -⟩ := Cond.laysFinal_spec hlw
          have e3 : c' = cf := by have := hfi.symm.trans hf'; simp at this; exact this.1.symm
          rw [q3, ← hown] at hown2
          rw [← e3]; exact Option.some.inj (ho.symm.trans hown2)
        have h7 := u_fits hfc hkC hkind (Or.inr hlw) hfi q2 hfit.1 hfit.2
        exact W.putFinK hx hb ho (q5_use hc hw rfl rfl) hfi2 hu.1 hcf (hin hk2) (by rw [g2]; exact h7) g1 g3 (by rw [hsl]; exact k2_hasslot (g4 _ h4)) rfl rfl hd fin
      · unfold u_lay at hlw
        rw [if_neg hfn] at hlw
        have h7 := u_store hfc hkC hkind hlw hfi q2 hfit.1 hfit.2
        exact W.putK hx hb (f := f) ⟨ho, q5_use hc hw rfl rfl, ⟨_, _, _, hfi2⟩, hu.1⟩ (by rw [g2]; exact h7) g1 g3 (by rw [hsl]; exact k2_hasslot (g4 _ h4)) rfl rfl hd fin
    · cases hs
  · cases hs
end Q7
