/-! calls, and: what our machine runs, the model's machine runs -/
section Q11
variable {p : Program} {l : Launch} {e : Env} {R : Room} {s : State} {m : MethodId} {args : Array Value} {below : List Frame} {meth : Method} {c : Code} {H : Heap} {locs : List Loc} {Q : State → Prop}
variable {D : va_G} {ro : Nat → Nat} {h0 k pc len ce sl : Nat} {ls : Array Slot} {lv : List (Nat × Value)} {st : List Value} {M : q4_M} {i : Instr}
def q11_rm (y : Nat) : Room := { frames := q2_fr y, locals := q2_lo y, cells := q2_mc y, slots := q2_ms y }
def q11_P (D : va_G) (ro : Nat → Nat) (h0 : Nat) (as : List Value) (M : q4_M) : Array Value → State → Prop := fun a U => a = (as.map (q5_tv (q5_ad ro h0))).toArray ∧ q5_cx D U ∧ q5_rep D ro h0 U M U.heap
def q11_Q (D : va_G) (ro : Nat → Nat) (h0 : Nat) (v : Option Value) (M' : q4_M) : Array Value → State → Outcome → State → Prop := fun _ _ o t => o = .returned (v.map (q5_tv (q5_ad ro h0))) ∧ q5_rep D ro h0 t M' t.heap
/-- what is known of a method of ours -/
theorem q11_w {y : Nat} (h0 : y ≠ 0) (hn : y < q2_n) : Cond.code (q2_y y) (q3_b y) (q2_ml y) (q2_ret y) ∈ lw_tbl ∧ (q2_kd y = 0 → Cond.static (q2_y y) ∈ lw_tbl) ∧ (q2_kd y ≠ 0 → Cond.instanceMethod (q2_y y) ∈ lw_tbl) ∧ (q2_kd y = 1 → Cond.selects (q2_y y).cls (q2_y y) (q2_y y) ∈ lw_tbl) ∧ Cond.initialized (q2_y y).cls ∈ lw_tbl ∧
    q2_cn (q2_own y) = (q2_y y).cls ∧ ((q2_y y).cls ≠ "java/lang/invoke/MethodHandle" ∧ (q2_y y).cls ≠ "java/lang/invoke/VarHandle") ∧ plainFor (q2_y y) = true ∧ (parseMethodDescriptor (q2_y y).desc).map (fun d => d.parameters.length) = some (q2_na y - (bif Nat.beq (q2_kd y) 0 then 0 else 1)) ∧ (q2_kd y = 2 → (q2_y y).name = "<init>" ∧ q2_ret y = none) := by
  have hr := List.mem_range.mpr hn
  have hb : Nat.beq y 0 = false := by
    cases hz : Nat.beq y 0 with
    | true => exact absurd (Nat.eq_of_beq_eq_true hz) h0
    | false => rfl
  have g1 := List.all_eq_true.mp q3_m1_ok y hr
  have g2 := List.all_eq_true.mp q3_m2_ok y hr
  have g3 := List.all_eq_true.mp q3_m3_ok y hr
  have g4 := List.all_eq_true.mp q3_m4_ok y hr
  have g5 := List.all_eq_true.mp q3_m5_ok y hr
  have g6 := List.all_eq_true.mp q3_m6_ok y hr
  have g7 := List.all_eq_true.mp q3_m7_ok y hr
  have g8 := List.all_eq_true.mp q3_m8_ok y hr
  simp only [hb, Bool.false_or] at g1 g2 g3 g4
  simp only [q3_m5, Bool.and_eq_true, decide_eq_true_eq] at g5
  refine ⟨q3_m1_mem hb g1, fun hk => ?_, fun hk => ?_, fun hk => ?_, q3_mem g4, g5.1.1, ⟨g5.1.2, g5.2⟩, g6, of_decide_eq_true g7, fun hk => ?_⟩
  · unfold q3_m2 at g2
    rw [hk, show Nat.beq 0 0 = true from rfl, cond_true] at g2
    exact q3_mem g2
  · unfold q3_m2 at g2
    have hb2 : Nat.beq (q2_kd y) 0 = false := by
      cases hz : Nat.beq (q2_kd y) 0 with
      | true => exact absurd (Nat.eq_of_beq_eq_true hz) hk
      | false => rfl
    rw [hb2, cond_false] at g2
    exact q3_mem g2
  · unfold q3_m3 at g3
    rw [hk, show Nat.beq 1 1 = true from rfl, cond_true] at g3
    exact q3_mem g3
  · unfold q3_m8 at g8
    rw [hk, show Nat.beq 2 2 = true from rfl, cond_true] at g8
    simpa using g8
theorem q11_blind (as : List Value) : FrameBlind (q11_P D ro h0 as M) := fun a U g mk h => ⟨h.1, q5_cx.same (s := U) (U := U.calling g mk a) rfl h.2.1, q5_rep.moved (s := U) (U := U.calling g mk a) (Vm.Alike.refl U.vm) h.2.2⟩
theorem q11_back {mc ms : Nat} {st0 rest : List Value} {Qa : State → Outcome → State → Prop} {free : Addr → Prop} (hr : va_Run p l e R s m args below meth c H locs ce sl mc ms (F0 m pc ls st0) rest Qa free)
    (kk : ∀ (v : Option Value) (st₀ t : State) (L : List Loc), Qa st₀ (.returned v) t → s.vm.Alike t.vm → (∀ q ∈ L, free q.base) → W p l e R s m args below meth c t.heap (locs ++ L) (ce + mc) (sl + ms) Q (F0 m (pc + 3) ls (v.toList ++ rest))) : W p l e R s m args below meth c H locs ce sl Q (F0 m pc ls st0) := by
  intro T hT X
  obtain ⟨v, st₀, t, T', L, h0, X', hL, e1, e2, hq, st⟩ := hr T hT X
  obtain ⟨t2, a1, b1⟩ := kk v st₀ t L hq (by rw [← e2]; exact X'.warmed.alike) hL T' e1 X'
  exact ⟨t2, st t2 a1, b1⟩
/-- the receiver's cell -/
theorem q11_recv (hc : q5_cx D s) (hr : q5_rep D ro h0 s M H) {b cI : Nat} (hb : b < M.1) (he : (M.2 b).1 = cI + 2) : ∃ cellB : Cell, H[q5_ad ro h0 b]? = some cellB ∧ cellB.vm.isStatics = false ∧ s.vm.findClass (q2_cn cI) = some cellB.cls := by
  obtain ⟨-, h8, cell, g1, g2, g3, -⟩ := (hr.2.2.1 b hb).ob he
  exact ⟨cell, g1, by rw [g3]; rfl, by rw [g2]; exact (hc.2.1 _ h8).2.1⟩
/-- a call, the callee's contract given -/
theorem q11_call {raw : Instr} {y : Nat} {as rest : List Value} {v : Option Value} {M' : q4_M} (F : q6_F p R s m meth c D k) (hd : decode (q3_b k) pc = .ok (raw, len)) (hln : q3_ln raw = 0 ∨ q3_ln raw = len) (hi : q3_nm (q2_own k) pc raw = some i) (hs : q4_step k pc len lv st M ce sl i = some (.inr (.inl (y, as, rest)))) (hl : lv_has ls (q2_ml k) (q5_tl (q5_ad ro h0) lv)) (hr : q5_rep D ro h0 s M H)
    (hM : y ≠ 0 → y < q2_n → (lg_sl as).length ≤ q2_ml y → Met l (q2_y y) [Cond.code (q2_y y) (q3_b y) (q2_ml y) (q2_ret y)] (q11_rm y) (q11_P D ro h0 as M) (q11_Q D ro h0 v M') (q2_mc y) (q2_ms y) (fun q => h0 ≤ q))
    (kk : ∀ (H' : Heap) (L : List Loc), q5_rep D ro h0 s M' H' → (∀ x ∈ L, h0 ≤ x.base) → ce + q2_mc y ≤ q2_mc k → sl + q2_ms y ≤ q2_ms k → W p l e R s m args below meth c H' (locs ++ L) (ce + q2_mc y) (sl + q2_ms y) Q (F0 m (pc + 3) ls ((v.toList ++ rest).map (q5_tv (q5_ad ro h0))))) :
    W p l e R s m args below meth c H locs ce sl Q (F0 m pc ls (st.map (q5_tv (q5_ad ro h0)))) := by
  obtain ⟨hx, hb, hml, ho, hin, hc, hR1, hR2, hR3, hR4⟩ := F
  -- which instruction it is, and its site
  have site : ∃ (n : Nat) (r : Nat × Nat × Nat × Nat × Nat) (kd : Nat), q3_fd q2_sM (q2_own k) n = some r ∧ r.2.1 = y ∧ q4_call k y kd st M ce sl = some (.inr (.inl (y, as, rest))) ∧ ((kd = 0 ∧ decode (q3_b k) pc = .ok (.invokestatic n, 3)) ∨ (kd = 1 ∧ decode (q3_b k) pc = .ok (.invokevirtual n, 3) ∧ r.2.2.2.1 = 0) ∨ (kd = 2 ∧ decode (q3_b k) pc = .ok (.invokespecial n, 3))) := by
    have callee : ∀ {kd z : Nat}, q4_call k z kd st M ce sl = some (.inr (.inl (y, as, rest))) → z = y := by
      intro kd z h
      simp only [q4_call] at h
      repeat' split at h
      all_goals first | (cases h; rfl) | cases h
    cases raw
    case invokestatic n =>
      have hn := q10_ln hln rfl
      subst hn
      simp only [q3_nm] at hi
      split at hi
      · next r hf =>
        cases hz : Nat.beq r.2.2.1 0 with
        | true =>
          rw [hz, cond_true] at hi
          cases hi
          simp only [q4_step] at hs
          have := callee hs
          subst this
          exact ⟨n, r, 0, hf, rfl, hs, Or.inl ⟨rfl, hd⟩⟩
        | false => rw [hz, cond_false] at hi; cases hi
      · simp only [Option.map_eq_some_iff] at hi
        obtain ⟨r, -, rfl⟩ := hi
        simp only [q4_step] at hs
        repeat' split at hs
        all_goals cases hs
    case invokespecial n =>
      have hn := q10_ln hln rfl
      subst hn
      simp only [q3_nm] at hi
      split at hi
      · next r hf =>
        cases hz : Nat.beq r.2.2.1 2 with
        | true =>
          rw [hz, cond_true] at hi
          cases hi
          simp only [q4_step] at hs
          have := callee hs
          subst this
          exact ⟨n, r, 2, hf, rfl, hs, Or.inr (Or.inr ⟨rfl, hd⟩)⟩
        | false => rw [hz, cond_false] at hi; cases hi
      · simp only [Option.map_eq_some_iff] at hi
        obtain ⟨r, -, rfl⟩ := hi
        simp only [q4_step] at hs
        repeat' split at hs
        all_goals cases hs
    case invokevirtual n =>
      have hn := q10_ln hln rfl
      subst hn
      simp only [q3_nm, Option.bind_eq_some_iff] at hi
      obtain ⟨r, hf, h2⟩ := hi
      cases hz : (Nat.beq r.2.2.1 1 && Nat.beq r.2.2.2.1 0) with
      | true =>
        rw [hz, cond_true] at h2
        cases h2
        simp only [q4_step] at hs
        have := callee hs
        subst this
        simp only [Bool.and_eq_true] at hz
        exact ⟨n, r, 1, hf, rfl, hs, Or.inr (Or.inl ⟨rfl, hd, Nat.eq_of_beq_eq_true hz.2⟩)⟩
      | false => rw [hz, cond_false] at h2; cases h2
    all_goals (first
      | (simp only [q3_nm] at hi; cases hi; done)
      | (exfalso
         simp only [q3_nm] at hi
         (repeat' split at hi)
         all_goals first | (cases hi; done) | skip
         all_goals (first | (simp only [Option.some.injEq] at hi; subst hi) | (simp only [Option.map_eq_some_iff] at hi; obtain ⟨_, _, rfl⟩ := hi) | (cases hi))
         all_goals (simp only [q4_step] at hs; (repeat' split at hs); all_goals cases hs)))
  obtain ⟨n, r, kd, hf, hry, hcall, hkd⟩ := site
  have hq : (y ≠ 0 ∧ y < q2_n ∧ q2_kd y = kd ∧ q2_na y ≤ st.length ∧ (lg_sl (st.take (q2_na y)).reverse).length ≤ q2_ml y ∧ q4_cat (st.drop (q2_na y)) ≤ 8 ∧ q2_fr y + 1 ≤ q2_fr k ∧ 8 + (q2_ml y + 11) + q2_lo y ≤ q2_lo k ∧ ce + q2_mc y ≤ q2_mc k ∧ sl + q2_ms y ≤ q2_ms k) ∧ as = (st.take (q2_na y)).reverse ∧ rest = st.drop (q2_na y) ∧ (kd ≠ 0 → ∃ (b : Nat) (as' : List Value), as = .ref b :: as' ∧ b < M.1 ∧ (M.2 b).1 = q2_own y + 2) := by
    simp only [q4_call] at hcall
    split at hcall
    · next hh =>
      refine ⟨hh, ?_⟩
      split at hcall
      · cases hcall
        exact ⟨rfl, rfl, fun h => absurd rfl h⟩
      · next b as' hkd0 heq =>
        split at hcall
        · next h3 =>
          cases hcall
          exact ⟨rfl, rfl, fun _ => ⟨b, as', heq, h3.1, h3.2.1⟩⟩
        · cases hcall
      · cases hcall
    · cases hcall
  obtain ⟨⟨hy0, hyn, hykd, hyna, hysl, hycat, hyfr, hylo, hyce, hyms⟩, has, hrest, hrecv⟩ := hq
  obtain ⟨w1, w2, w3, w4, w5, w6, w7, w8, w9, w10⟩ := q11_w hy0 hyn
  have hsl' : (lg_sl as).length ≤ q2_ml y := by rw [has]; exact hysl
  have hM' := hM hy0 hyn hsl'
  have hlenA : as.length = q2_na y := by rw [has]; simp [hyna]
  have hst : st.map (q5_tv (q5_ad ro h0)) = (as.map (q5_tv (q5_ad ro h0))).reverse ++ rest.map (q5_tv (q5_ad ro h0)) := by
    rw [has, hrest, ← List.map_reverse, List.reverse_reverse, ← List.map_append, List.take_append_drop]
  have hcat : ((rest.map (q5_tv (q5_ad ro h0))).map fun v => v.category).sum ≤ 8 := by rw [q5_cats, hrest]; exact hycat
  have hW : 2 * (F0 m pc ls (st.map (q5_tv (q5_ad ro h0)))).monitorRoom + ((rest.map (q5_tv (q5_ad ro h0))).map fun v => v.category).sum ≤ 8 := lv_room hcat
  have S : CallFix p m c (q3_b k) (q2_ml k) s args [] (q2_cn (q2_own k)) := ⟨hx, hb, hml, ho, fun _ h => by cases h⟩
  have hws : ∀ z ∈ [Cond.code (q2_y y) (q3_b y) (q2_ml y) (q2_ret y)], ∀ (a' : Array Value) (U : State), s.WarmedH U.vm → z.before a' U = true := fun z hz a' U hWU => by
    rw [List.mem_singleton.mp hz]
    exact word_at (args := args) hWU (Or.inl rfl) (q5_use hc w1 rfl rfl)
  have hroom : (q11_rm y).cells = q2_mc y ∧ (q11_rm y).slots = q2_ms y ∧ (q11_rm y).frames + 1 ≤ R.frames ∧ 8 + (q2_ml y + 11) + (q11_rm y).locals ≤ R.locals := ⟨rfl, rfl, by rw [hR1]; exact hyfr, by rw [hR2]; exact hylo⟩
  have hsig : ∀ sig, parseMethodDescriptor (q2_y y).desc = some sig → q2_na y - (bif Nat.beq (q2_kd y) 0 then 0 else 1) = sig.parameters.length := fun sig h => by
    rw [h] at w9
    exact (Option.some.inj w9).symm
  have hpre : ∀ U : State, U.heap = H → s.WarmedH U.vm → q11_P D ro h0 as M (as.map (q5_tv (q5_ad ro h0))).toArray U := fun U hU hWU => ⟨rfl, hc.moved hWU, by rw [hU]; exact hr.moved hWU.alike⟩
  have hf2 : ce + q2_mc y ≤ R.cells ∧ sl + q2_ms y ≤ R.slots := ⟨by rw [hR3]; exact hyce, by rw [hR4]; exact hyms⟩
  obtain ⟨hm, e1, e2⟩ := q3_fd_spec hf
  have hw := q3_mem (List.all_eq_true.mp q3_sM_ok r hm)
  unfold q3_lw at hw
  rw [e1, e2, hry] at hw
  -- behind the call
  have back : ∀ {As : Array Value}, va_Run p l e R s m args below meth c H locs ce sl (q2_mc y) (q2_ms y) (F0 m pc ls (st.map (q5_tv (q5_ad ro h0)))) (rest.map (q5_tv (q5_ad ro h0))) (q11_Q D ro h0 v M' As) (fun q => h0 ≤ q) → W p l e R s m args below meth c H locs ce sl Q (F0 m pc ls (st.map (q5_tv (q5_ad ro h0)))) := by
    intro As hrun
    refine q11_back hrun (fun v' st₀ t L hq hvm hL => ?_)
    obtain ⟨hv, hrep⟩ := hq
    cases hv
    have hk := kk t.heap L (hrep.moved hvm.symm) hL hyce hyms
    rw [List.map_append] at hk
    have ev : (v.toList).map (q5_tv (q5_ad ro h0)) = (v.map (q5_tv (q5_ad ro h0))).toList := by cases v <;> rfl
    rw [ev] at hk
    exact hk
  rcases hkd with ⟨rfl, hdd⟩ | ⟨rfl, hdd, hnest⟩ | ⟨rfl, hdd⟩
  · -- static
    have hst0 : (Cond.static (q2_y y)).before args s = true := q5_use hc (w2 hykd) rfl rfl
    have hna : q2_na y - (bif Nat.beq (q2_kd y) 0 then 0 else 1) = q2_na y := by rw [hykd]; rfl
    rw [hna] at hsig
    cases hz : Nat.beq r.2.2.2.1 0 with
    | true =>
      rw [hz, cond_true] at hw
      exact back (va_runS (As := as.map (q5_tv (q5_ad ro h0))) S hM' ⟨⟨hroom.1, hroom.2.1, hroom.2.2.1, hroom.2.2.2, hws, List.mem_singleton_self _, q5_use hc w1 rfl rfl, q5_use hc w5 rfl rfl, w7, hsig, q5_use hc hw rfl rfl⟩, hst0⟩ ⟨q11_blind as, hpre⟩ rfl (by simp [hlenA]) (hl.1) hst hW hdd hf2)
    | false =>
      rw [hz, cond_false] at hw
      exact back (va_runSN (As := as.map (q5_tv (q5_ad ro h0))) S hM' ⟨⟨⟨hroom.1, hroom.2.1, hroom.2.2.1, hroom.2.2.2, hws, List.mem_singleton_self _⟩, q5_use hc w1 rfl rfl, q5_use hc w5 rfl rfl, w7, hsig, q5_use hc hw rfl rfl⟩, hst0, trivial⟩ ⟨q11_blind as, hpre⟩ rfl (by simp [hlenA]) (hl.1) hst hW hdd hf2)
  · -- an instance method
    obtain ⟨b, as', hasb, hbM, hbk⟩ := hrecv (by decide)
    have hin1 : (Cond.instanceMethod (q2_y y)).before args s = true := q5_use hc (w3 (by rw [hykd]; decide)) rfl rfl
    have hsel : (Cond.selects (q2_y y).cls (q2_y y) (q2_y y)).before args s = true := q5_use hc (w4 hykd) rfl rfl
    have hna : q2_na y - (bif Nat.beq (q2_kd y) 0 then 0 else 1) = q2_na y - 1 := by rw [hykd]; rfl
    rw [hna] at hsig
    have hcell := q11_recv hc hr hbM hbk
    rw [w6] at hcell
    rw [hnest, show Nat.beq 0 0 = true from rfl, cond_true] at hw
    subst hasb
    have hl2 : (as'.map (q5_tv (q5_ad ro h0))).length = q2_na y - 1 := by
      rw [List.length_map]
      rw [List.length_cons] at hlenA
      exact Nat.eq_sub_of_add_eq hlenA
    refine back (va_runV (C := (q2_y y).cls) (b := q5_ad ro h0 b) (As := as'.map (q5_tv (q5_ad ro h0))) S hM' ⟨⟨hroom.1, hroom.2.1, hroom.2.2.1, hroom.2.2.2, hws, List.mem_singleton_self _, q5_use hc w1 rfl rfl, q5_use hc w5 rfl rfl, w7, hsig, q5_use hc hw rfl rfl⟩, hin1, hsel⟩ ⟨q11_blind _, hcell, hpre⟩ rfl hl2 (hl.1) ?_ hW hdd hf2)
    show st.map (q5_tv (q5_ad ro h0)) = _
    rw [hst]
    simp [q5_tv]
  · -- a constructor
    obtain ⟨b, as', hasb, hbM, hbk⟩ := hrecv (by decide)
    have hin1 : (Cond.instanceMethod (q2_y y)).before args s = true := q5_use hc (w3 (by rw [hykd]; decide)) rfl rfl
    have hna : q2_na y - (bif Nat.beq (q2_kd y) 0 then 0 else 1) = q2_na y - 1 := by rw [hykd]; rfl
    rw [hna] at hsig
    obtain ⟨hname, hret⟩ := w10 hykd
    rw [hret] at hM' hws w1
    subst hasb
    have hl2 : (as'.map (q5_tv (q5_ad ro h0))).length = q2_na y - 1 := by
      rw [List.length_map]
      rw [List.length_cons] at hlenA
      exact Nat.eq_sub_of_add_eq hlenA
    have hst2 : st.map (q5_tv (q5_ad ro h0)) = (as'.map (q5_tv (q5_ad ro h0))).reverse ++ .ref (q5_ad ro h0 b) :: rest.map (q5_tv (q5_ad ro h0)) := by
      rw [hst]
      simp [q5_tv]
    cases hz : Nat.beq r.2.2.2.1 0 with
    | true =>
      rw [hz, cond_true] at hw
      exact back (va_runI (b := q5_ad ro h0 b) (As := as'.map (q5_tv (q5_ad ro h0))) S hM' ⟨⟨hroom.1, hroom.2.1, hroom.2.2.1, hroom.2.2.2, hws, List.mem_singleton_self _, q5_use hc w1 rfl rfl, q5_use hc w5 rfl rfl, w7, hsig, q5_use hc hw rfl rfl⟩, hname, hin1⟩ ⟨q11_blind _, hpre⟩ rfl hl2 (hl.1) hst2 hW hdd hf2)
    | false =>
      rw [hz, cond_false] at hw
      exact back (va_runIN (b := q5_ad ro h0 b) (As := as'.map (q5_tv (q5_ad ro h0))) S hM' ⟨⟨⟨hroom.1, hroom.2.1, hroom.2.2.1, hroom.2.2.2, hws, List.mem_singleton_self _⟩, q5_use hc w1 rfl rfl, q5_use hc w5 rfl rfl, w7, hsig, q5_use hc hw rfl rfl⟩, hname, hin1⟩ ⟨q11_blind _, hpre⟩ rfl hl2 (hl.1) hst2 hW hdd hf2)
end Q11
