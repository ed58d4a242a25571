/-! one step of ours, whatever the instruction; calls; the end of a frame -/
section Q10
variable {p : Program} {l : Launch} {e : Env} {R : Room} {s : State} {m : MethodId} {args : Array Value} {below : List Frame} {meth : Method} {c : Code} {H : Heap} {locs : List Loc} {Q : State → Prop}
variable {D : va_G} {ro : Nat → Nat} {h0 k pc len ce sl : Nat} {ls : Array Slot} {lv : List (Nat × Value)} {st : List Value} {M : q4_M} {w : Nat × List (Nat × Value) × List Value × q4_M × Nat × Nat} {i : Instr}
theorem q10_multi {n dd : Nat} (F : q6_F p R s m meth c D k) (hd : decode (q3_b k) pc = .ok (.multianewarray n dd, len)) (hn : len = 4) (hi : q3_nm (q2_own k) pc (.multianewarray n dd) = some i) (hs : q4_step k pc len lv st M ce sl i = some (.inl w)) (hl : lv_has ls (q2_ml k) (q5_tl (q5_ad ro h0) lv)) (hr : q5_rep D ro h0 s M H) (hlo : ∀ x ∈ locs, h0 ≤ x.base) (kk : q6_K p l e R s m args below meth c Q D ro h0 k w) :
    W p l e R s m args below meth c H locs ce sl Q (F0 m pc ls (st.map (q5_tv (q5_ad ro h0)))) := by
  subst hn
  obtain ⟨hx, hb, hml, ho, hin, hc, hR1, hR2, hR3, hR4⟩ := F
  simp only [q3_nm] at hi
  split at hi
  · next h2 =>
    subst h2
    simp only [Option.map_eq_some_iff] at hi
    obtain ⟨r, hf, rfl⟩ := hi
    obtain ⟨hm, e1, e2⟩ := q3_fd_spec hf
    have hw := q3_mem (List.all_eq_true.mp q3_sA_ok r hm)
    unfold q3_aw at hw
    rw [e1, e2] at hw
    simp only [q4_step] at hs
    split at hs
    · next y x rs =>
      split at hs
      · next hh =>
        cases hs
        obtain ⟨h1, h2, h3, h4, h5, h6⟩ := hh
        simp only [List.map_cons, q5_tv]
        have hac : (Cond.arrayClass .int).before args s = true := hc.1 _ q8_ow.2.2.2.2.2.1 rfl
        refine q9_make hx hb ho (q5_use hc hw rfl rfl) hc.2.2 hac hd h1 h2 h3 h4 (by rw [hR3]; exact h5) (by rw [hR4]; exact h6) (fun H' L cA cI hL z1 z2 z3 z4 z5 z6 => ?_)
        have h3M := hr.1
        have hHs := hr.2.1
        have hr' : q5_rep D ro h0 s (q4_grid M x.toNatClampNeg y.toNatClampNeg) H' := by
          have hp := hr.push (H1 := H') (n := 1 + x.toNatClampNeg) (f := (q4_grid M x.toNatClampNeg y.toNatClampNeg).2) z1 z4 (fun q hq => ?_) (fun q hq1 hq2 => ?_)
          · rw [← Nat.add_assoc] at hp
            exact hp
          · show (if q = M.1 then _ else if M.1 < q ∧ q < M.1 + 1 + x.toNatClampNeg then _ else M.2 q) = M.2 q
            rw [if_neg (by omega), if_neg (by omega)]
          · show q5_cl D ro h0 s H' q (if q = M.1 then (1, x.toNatClampNeg, fun j => .ref (M.1 + 1 + j)) else if M.1 < q ∧ q < M.1 + 1 + x.toNatClampNeg then (0, y.toNatClampNeg, fun _ => .int 0) else M.2 q)
            by_cases eq : q = M.1
            · rw [if_pos eq]
              subst eq
              refine Or.inr (Or.inl ⟨rfl, h3M, cA, ?_, z5⟩)
              have hnx := hr.next 0
              simp only [Nat.add_zero] at hnx
              rw [hnx, z2]
              have hext : (arrV cA x.toNatClampNeg fun j => if j < x.toNatClampNeg then Value.ref (H.size + 1 + j) else Value.null) = arrV cA x.toNatClampNeg (fun j => q5_tv (q5_ad ro h0) (.ref (M.1 + 1 + j))) := by
                unfold arrV
                congr 1
                apply Array.ext
                · simp
                · intro j hj1 hj2
                  have hj : j < x.toNatClampNeg := by simpa using hj1
                  simp only [Array.getElem_ofFn, q5_tv]
                  rw [if_pos hj]
                  have := hr.next (1 + j)
                  rw [show M.1 + 1 + j = M.1 + (1 + j) by omega, this, Nat.add_assoc]
              rw [hext]
            · rw [if_neg eq, if_pos (by omega)]
              refine Or.inl ⟨rfl, fun _ _ => ⟨0, rfl⟩, Or.inr ⟨by omega, cI, ?_, z6⟩⟩
              have := hr.next (q - M.1)
              rw [show M.1 + (q - M.1) = q by omega] at this
              rw [this, show H.size + (q - M.1) = H.size + 1 + (q - M.1 - 1) by omega]
              exact z3 _ (by omega)
        have hk := kk H' (locs ++ L) ls hl hr' (fun z hz => by
          rcases List.mem_append.mp hz with h | h
          · exact hlo z h
          · rw [hL z h]; omega)
        have hnx := hr.next 0
        simp only [Nat.add_zero] at hnx
        simp only [List.map_cons, q5_tv, hnx] at hk
        exact hk
      · cases hs
    · cases hs
  · cases hi
theorem q10_call_inl {k y kd : Nat} : q4_call k y kd st M ce sl ≠ some (.inl w) := by
  intro h
  simp only [q4_call] at h
  repeat' split at h
  all_goals cases h
theorem q10_ln {x : Instr} {n q : Nat} (h : q3_ln x = 0 ∨ q3_ln x = q) (e : q3_ln x = n + 1) : q = n + 1 := by
  rcases h with h | h <;> omega
theorem q10_step {raw : Instr} (F : q6_F p R s m meth c D k) (hd : decode (q3_b k) pc = .ok (raw, len)) (hln : q3_ln raw = 0 ∨ q3_ln raw = len) (hi : q3_nm (q2_own k) pc raw = some i) (hs : q4_step k pc len lv st M ce sl i = some (.inl w)) (hl : lv_has ls (q2_ml k) (q5_tl (q5_ad ro h0) lv)) (hr : q5_rep D ro h0 s M H) (hlo : ∀ x ∈ locs, h0 ≤ x.base) (kk : q6_K p l e R s m args below meth c Q D ro h0 k w) :
    W p l e R s m args below meth c H locs ce sl Q (F0 m pc ls (st.map (q5_tv (q5_ad ro h0)))) := by
  cases raw
  case iadd => exact q6_iadd F hd (q10_ln hln rfl) hi hs hl hr hlo kk
  case isub => exact q6_isub F hd (q10_ln hln rfl) hi hs hl hr hlo kk
  case imul => exact q6_imul F hd (q10_ln hln rfl) hi hs hl hr hlo kk
  case idiv => exact q6_idiv F hd (q10_ln hln rfl) hi hs hl hr hlo kk
  case irem => exact q6_irem F hd (q10_ln hln rfl) hi hs hl hr hlo kk
  case ineg => exact q6_ineg F hd (q10_ln hln rfl) hi hs hl hr hlo kk
  case ishl => exact q6_ishl F hd (q10_ln hln rfl) hi hs hl hr hlo kk
  case ishr => exact q6_ishr F hd (q10_ln hln rfl) hi hs hl hr hlo kk
  case iushr => exact q6_iushr F hd (q10_ln hln rfl) hi hs hl hr hlo kk
  case iand => exact q6_iand F hd (q10_ln hln rfl) hi hs hl hr hlo kk
  case ior => exact q6_ior F hd (q10_ln hln rfl) hi hs hl hr hlo kk
  case ixor => exact q6_ixor F hd (q10_ln hln rfl) hi hs hl hr hlo kk
  case ladd => exact q6_ladd F hd (q10_ln hln rfl) hi hs hl hr hlo kk
  case lsub => exact q6_lsub F hd (q10_ln hln rfl) hi hs hl hr hlo kk
  case lmul => exact q6_lmul F hd (q10_ln hln rfl) hi hs hl hr hlo kk
  case ldiv => exact q6_ldiv F hd (q10_ln hln rfl) hi hs hl hr hlo kk
  case lrem => exact q6_lrem F hd (q10_ln hln rfl) hi hs hl hr hlo kk
  case lneg => exact q6_lneg F hd (q10_ln hln rfl) hi hs hl hr hlo kk
  case i2l => exact q6_i2l F hd (q10_ln hln rfl) hi hs hl hr hlo kk
  case l2i => exact q6_l2i F hd (q10_ln hln rfl) hi hs hl hr hlo kk
  case lcmp => exact q6_lcmp F hd (q10_ln hln rfl) hi hs hl hr hlo kk
  case dup => exact q6_dup F hd (q10_ln hln rfl) hi hs hl hr hlo kk
  case dup2 => exact q6_dup2 F hd (q10_ln hln rfl) hi hs hl hr hlo kk
  case pop => exact q6_pop F hd (q10_ln hln rfl) hi hs hl hr hlo kk
  case pop2 => exact q6_pop2 F hd (q10_ln hln rfl) hi hs hl hr hlo kk
  case iload => exact q6_iload F hd (q10_ln hln rfl) hi hs hl hr hlo kk
  case iload_n => exact q6_iload_n F hd (q10_ln hln rfl) hi hs hl hr hlo kk
  case lload => exact q6_lload F hd (q10_ln hln rfl) hi hs hl hr hlo kk
  case lload_n => exact q6_lload_n F hd (q10_ln hln rfl) hi hs hl hr hlo kk
  case aload => exact q6_aload F hd (q10_ln hln rfl) hi hs hl hr hlo kk
  case aload_n => exact q6_aload_n F hd (q10_ln hln rfl) hi hs hl hr hlo kk
  case istore => exact q6_istore F hd (q10_ln hln rfl) hi hs hl hr hlo kk
  case istore_n => exact q6_istore_n F hd (q10_ln hln rfl) hi hs hl hr hlo kk
  case lstore => exact q6_lstore F hd (q10_ln hln rfl) hi hs hl hr hlo kk
  case lstore_n => exact q6_lstore_n F hd (q10_ln hln rfl) hi hs hl hr hlo kk
  case astore => exact q6_astore F hd (q10_ln hln rfl) hi hs hl hr hlo kk
  case astore_n => exact q6_astore_n F hd (q10_ln hln rfl) hi hs hl hr hlo kk
  case iconst => exact q6_iconst F hd (q10_ln hln rfl) hi hs hl hr hlo kk
  case bipush => exact q6_bipush F hd (q10_ln hln rfl) hi hs hl hr hlo kk
  case sipush => exact q6_sipush F hd (q10_ln hln rfl) hi hs hl hr hlo kk
  case lconst => exact q6_lconst F hd (q10_ln hln rfl) hi hs hl hr hlo kk
  case ldc => exact q6_ldc F hd (q10_ln hln rfl) hi hs hl hr hlo kk
  case ldc_w => exact q6_ldc_w F hd (q10_ln hln rfl) hi hs hl hr hlo kk
  case ldc2_w => exact q6_ldc2_w F hd (q10_ln hln rfl) hi hs hl hr hlo kk
  case goto => exact q6_goto F hd (q10_ln hln rfl) hi hs hl hr hlo kk
  case iinc => exact q6_iinc F hd (q10_ln hln rfl) hi hs hl hr hlo kk
  case if_icmp => exact q6_if_icmp F hd (q10_ln hln rfl) hi hs hl hr hlo kk
  case ifCond => exact q6_ifCond F hd (q10_ln hln rfl) hi hs hl hr hlo kk
  case iaload => exact q7_iaload F hd (q10_ln hln rfl) hi hs hl hr hlo kk
  case aaload => exact q7_aaload F hd (q10_ln hln rfl) hi hs hl hr hlo kk
  case iastore => exact q7_iastore F hd (q10_ln hln rfl) hi hs hl hr hlo kk
  case arraylength => exact q7_arraylength F hd (q10_ln hln rfl) hi hs hl hr hlo kk
  case getfield => exact q7_getfield F hd (q10_ln hln rfl) hi hs hl hr hlo kk
  case putfield => exact q7_putfield F hd (q10_ln hln rfl) hi hs hl hr hlo kk
  case new => exact q8_new F hd (q10_ln hln rfl) hi hs hl hr hlo kk
  case newarray => exact q8_newarray F hd (q10_ln hln rfl) hi hs hl hr hlo kk
  case getstatic => exact q8_getstatic F hd (q10_ln hln rfl) hi hs hl hr hlo kk
  case invokespecial => exact q8_special F hd (q10_ln hln rfl) hi hs hl hr hlo kk
  case invokestatic => exact q8_static F hd (q10_ln hln rfl) hi hs hl hr hlo kk
  case multianewarray => exact q10_multi F hd (q10_ln hln rfl) hi hs hl hr hlo kk
  case tableswitch => exact q8_table F hd hi hs hl hr hlo kk
  case lookupswitch => exact q8_lookup F hd hi hs hl hr hlo kk
  case invokevirtual n =>
    simp only [q3_nm, Option.bind_eq_some_iff] at hi
    obtain ⟨r, -, h2⟩ := hi
    cases hz : (Nat.beq r.2.2.1 1 && Nat.beq r.2.2.2.1 0) with
    | true => rw [hz, cond_true] at h2; cases h2; exact absurd hs q10_call_inl
    | false => rw [hz, cond_false] at h2; cases h2
  case ireturn => simp only [q3_nm, Option.some.injEq] at hi; subst hi; simp only [q4_step] at hs; repeat' split at hs
                  all_goals cases hs
  case lreturn => simp only [q3_nm, Option.some.injEq] at hi; subst hi; simp only [q4_step] at hs; repeat' split at hs
                  all_goals cases hs
  case areturn => simp only [q3_nm, Option.some.injEq] at hi; subst hi; simp only [q4_step] at hs; repeat' split at hs
                  all_goals cases hs
  case return_ => simp only [q3_nm, Option.some.injEq] at hi; subst hi; simp only [q4_step] at hs; repeat' split at hs
                  all_goals cases hs
  all_goals (simp only [q3_nm] at hi; cases hi)
theorem q10_room (hs : q4_step k pc len lv st M ce sl i = some (.inl w)) (h1 : ce ≤ q2_mc k) (h2 : sl ≤ q2_ms k) : w.2.2.2.2.1 ≤ q2_mc k ∧ w.2.2.2.2.2 ≤ q2_ms k := by
  cases i <;> simp only [q4_step] at hs <;> (try exact absurd hs q10_call_inl) <;> (repeat' split at hs) <;> first | (cases hs; done) | (cases hs; exact ⟨h1, h2⟩) | (cases hs; refine ⟨?_, ?_⟩ <;> (dsimp only; omega))
end Q10
