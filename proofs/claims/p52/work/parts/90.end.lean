/-! the code is checked, all of it -/
theorem q40_r {k a n pc : Nat} (h : q3_ckr k a n = true) (h1 : a ≤ pc) (h2 : pc < a + n) : q3_ck k pc = true := by
  have h3 := List.all_eq_true.mp h (pc - a) (List.mem_range.mpr (by omega))
  rw [show a + (pc - a) = pc by omega] at h3
  exact h3
theorem q40_m {k b n pc : Nat} (h : (List.range n).all (fun k => bif Nat.beq (k + b) 0 then true else q3_ckr (k + b) 0 320) = true) (h0 : k ≠ 0) (h1 : b ≤ k) (h2 : k < b + n) (h3 : pc < 320) : q3_ck k pc = true := by
  have h4 := List.all_eq_true.mp h (k - b) (List.mem_range.mpr (by omega))
  rw [show k - b + b = k by omega] at h4
  have hb : Nat.beq k 0 = false := by
    cases hz : Nat.beq k 0 with
    | true => exact absurd (Nat.eq_of_beq_eq_true hz) h0
    | false => rfl
  rw [hb, cond_false] at h4
  exact q40_r h4 (Nat.zero_le _) (by omega)
theorem q40_ck : ∀ k pc, k < q2_n → pc < (bif Nat.beq k 0 then 1792 else 320) → q3_ck k pc = true := by
  intro k pc hk hpc
  by_cases h0 : k = 0
  · subst h0
    have hpc : pc < 1792 := hpc
    rcases Nat.lt_or_ge pc 112 with g | g
    · exact q40_r q3_l0 (by omega) (by omega)
    rcases Nat.lt_or_ge pc 224 with g | g
    · exact q40_r q3_l1 (by omega) (by omega)
    rcases Nat.lt_or_ge pc 336 with g | g
    · exact q40_r q3_l2 (by omega) (by omega)
    rcases Nat.lt_or_ge pc 448 with g | g
    · exact q40_r q3_l3 (by omega) (by omega)
    rcases Nat.lt_or_ge pc 560 with g | g
    · exact q40_r q3_l4 (by omega) (by omega)
    rcases Nat.lt_or_ge pc 672 with g | g
    · exact q40_r q3_l5 (by omega) (by omega)
    rcases Nat.lt_or_ge pc 784 with g | g
    · exact q40_r q3_l6 (by omega) (by omega)
    rcases Nat.lt_or_ge pc 896 with g | g
    · exact q40_r q3_l7 (by omega) (by omega)
    rcases Nat.lt_or_ge pc 1008 with g | g
    · exact q40_r q3_l8 (by omega) (by omega)
    rcases Nat.lt_or_ge pc 1120 with g | g
    · exact q40_r q3_l9 (by omega) (by omega)
    rcases Nat.lt_or_ge pc 1232 with g | g
    · exact q40_r q3_l10 (by omega) (by omega)
    rcases Nat.lt_or_ge pc 1344 with g | g
    · exact q40_r q3_l11 (by omega) (by omega)
    rcases Nat.lt_or_ge pc 1456 with g | g
    · exact q40_r q3_l12 (by omega) (by omega)
    rcases Nat.lt_or_ge pc 1568 with g | g
    · exact q40_r q3_l13 (by omega) (by omega)
    rcases Nat.lt_or_ge pc 1680 with g | g
    · exact q40_r q3_l14 (by omega) (by omega)
    exact q40_r q3_l15 (by omega) (by omega)
  · have hb : Nat.beq k 0 = false := by
      cases hz : Nat.beq k 0 with
      | true => exact absurd (Nat.eq_of_beq_eq_true hz) h0
      | false => rfl
    rw [hb, cond_false] at hpc
    have hk : k < 252 := hk
    rcases Nat.lt_or_ge k 16 with g | g
    · exact q40_m q3_k0 h0 (by omega) (by omega) hpc
    rcases Nat.lt_or_ge k 32 with g | g
    · exact q40_m q3_k1 h0 (by omega) (by omega) hpc
    rcases Nat.lt_or_ge k 48 with g | g
    · exact q40_m q3_k2 h0 (by omega) (by omega) hpc
    rcases Nat.lt_or_ge k 64 with g | g
    · exact q40_m q3_k3 h0 (by omega) (by omega) hpc
    rcases Nat.lt_or_ge k 80 with g | g
    · exact q40_m q3_k4 h0 (by omega) (by omega) hpc
    rcases Nat.lt_or_ge k 96 with g | g
    · exact q40_m q3_k5 h0 (by omega) (by omega) hpc
    rcases Nat.lt_or_ge k 112 with g | g
    · exact q40_m q3_k6 h0 (by omega) (by omega) hpc
    rcases Nat.lt_or_ge k 128 with g | g
    · exact q40_m q3_k7 h0 (by omega) (by omega) hpc
    rcases Nat.lt_or_ge k 144 with g | g
    · exact q40_m q3_k8 h0 (by omega) (by omega) hpc
    rcases Nat.lt_or_ge k 160 with g | g
    · exact q40_m q3_k9 h0 (by omega) (by omega) hpc
    rcases Nat.lt_or_ge k 176 with g | g
    · exact q40_m q3_k10 h0 (by omega) (by omega) hpc
    rcases Nat.lt_or_ge k 192 with g | g
    · exact q40_m q3_k11 h0 (by omega) (by omega) hpc
    rcases Nat.lt_or_ge k 208 with g | g
    · exact q40_m q3_k12 h0 (by omega) (by omega) hpc
    rcases Nat.lt_or_ge k 224 with g | g
    · exact q40_m q3_k13 h0 (by omega) (by omega) hpc
    rcases Nat.lt_or_ge k 240 with g | g
    · exact q40_m q3_k14 h0 (by omega) (by omega) hpc
    exact q40_m q3_k15 h0 (by omega) (by omega) hpc
/-! THE CLAIM OUT OF ONE WALK OF THE LAW'S BODY. Your part is whole_start (and what it stands on); all else here is the same for every law, but numbers. -/
def R_law : String := "BuriedBySevensLaw"
def lw_P (b : Addr) (xs : List Int32) (args : Array Value) (s : State) : Prop := args = #[.ref b] ∧ s.IntsAt b xs ∧ xs.length ≤ 2560 ∧ (Jvm.Cond.and given_1 narrow_1).before args s = true
def lw_Q (_ : Array Value) (s : State) (o : Outcome) (t : State) : Prop := o = .returned (some (.int 1)) ∧ Framed s o t [] 600000 7302250
def lw_Z (below : List Frame) (a : Array Value) (s : State) : State → Prop := fun t => ∃ o, t.status = .running ∧ Ended t below o ∧ lw_Q a s o t
/-- the law's own end, with 1 on the stack, nothing written that was there before, its room as the claim has it -/
theorem lw_ret {p : Program} {l : Launch} {e : Env} {s : State} {m : MethodId} {below : List Frame} {meth : Method} {c : Code} {b : Nat} (hx : p.tables.exec = Jvm.exec) (hb : c.code = code) (hr : meth.sig.returnType = ret) (hlocks : meth.locks = false) {pc : Nat} {H : Heap} {ls : Array Slot} (hdg : decode code pc = .ok (.ireturn, 1)) : W p l e room_1 s m #[Value.ref b] below meth c H [] 600000 7302250 (lw_Z below #[Value.ref b] s) (F0 m pc ls [.int 1]) := by
  intro T hT X
  obtain ⟨fs, hret, hrun, hended, hW, hframe⟩ := X.leave (v := some (.int 1)) (hlocks := hlocks) (fun h => by rw [hr] at h; cases h)
  have hmeth' : T.vm.method? m = some meth := X.method'
  refine ⟨T.setFrames fs, ?_, .returned (some (.int 1)), hrun, hended, rfl, ⟨_, rfl⟩, hW, hframe⟩
  jvm_step X.here [X.here.top, hx, hb, hdg, hmeth', hr, ret, narrow_b1]
  (try refine ⟨rfl, ?_⟩); (try refine ⟨rfl, ?_⟩)
  first | (intro acts; rw [hret _ acts rfl rfl rfl]) | rw [hret _ _ rfl rfl rfl]
  exact Steps.refl _
/-- what holds at the law's entry: the machine, the code, the tables' words (any of lw_tbl by 'hts w (by decide +kernel)'), the script of L ints xs at the cell b, what the Statement gives of the start (any of its parts by flat_of_before) -/
def lw_At (p : Program) (s : State) (m : MethodId) (meth : Method) (c : Code) (b L : Nat) (xs : Nat → Int32) : Prop :=
  p.tables.exec = Jvm.exec ∧ c.code = code ∧ meth.sig.returnType = ret ∧ c.maxLocals = 4 ∧ s.vm.findClass R_law = some m.cls ∧ (∀ w ∈ lw_tbl, w.before #[Value.ref b] s = true) ∧ va_X b L xs s s.heap ∧ b < s.heap.size ∧ meth.locks = false ∧ (Jvm.Cond.and given_1 narrow_1).before #[Value.ref b] s = true
set_option maxHeartbeats 4000000 in
set_option maxRecDepth 100000 in
theorem whole_start {p : Program} {e : Env} {s : State} {m : MethodId} {below : List Frame} {meth : Method} {c : Code} (l : Launch) (hflags : l.flags = flags0) {b L : Nat} {xs : Nat → Int32} (hL : L ≤ 2560) (C0 : lw_At p s m meth c b L xs) : W p l e room_1 s m #[Value.ref b] below meth c s.heap [] 0 0 (lw_Z below #[Value.ref b] s) (entryFrame m ([Value.ref b] : List Value).toArray 4) := by
  obtain ⟨hx, hb, hr, hml, hown, hts, hX, hbl, hlocks, hgv⟩ := C0
  have hA : ∀ a : Nat, a < s.heap.size → ¬ (fun q : Nat => s.heap.size ≤ q) a := fun a h => Nat.not_le.mpr h
  -- classes
  have hKn : ∀ k : Nat, ∃ q : ClassId × (Nat → Nat), k < 8 → u_Kn s (q2_cn k) (q2_T k) (q2_N k) q.1 q.2 := by
    intro k
    by_cases hk : k < 8
    · obtain ⟨cC, iS, h⟩ := u_known (C := q2_cn k) (T := q2_T k) (N := q2_N k) hts (fun w hw => by
        obtain ⟨z, hz, rfl⟩ := List.mem_map.mp hw
        exact (q7_lay hk (List.mem_range.mp hz)).1) (hts _ (q8_cw hk).1)
      exact ⟨(cC, iS), fun _ => h⟩
    · exact ⟨(0, fun _ => 0), fun h => absurd h hk⟩
  obtain ⟨D, hD⟩ : ∃ D : va_G, ∀ k, k < 8 → u_Kn s (q2_cn k) (q2_T k) (q2_N k) (D.1 k) (D.2 k) := ⟨(fun k => (Classical.choose (hKn k)).1, fun k => (Classical.choose (hKn k)).2), fun k hk => Classical.choose_spec (hKn k) hk⟩
  have hcx : q5_cx D s := ⟨fun w hw hk => q5_move (hts w hw) hk (State.WarmedH.refl s), hD, q5_ao_of (hts _ q8_ow.2.2.2.2.2.2.1)⟩
  -- statics
  have hs := flat_of_before _ hgv
  have hini : (Cond.initialized "BuriedBySevens").before #[Value.ref b] s = true := hts _ (q8_cw (c := 6) (by decide)).2
  obtain ⟨a1, ha1, hT1⟩ := va_Tof (args := #[Value.ref b]) (s := s) (tm := .static "BuriedBySevens" "POWERS" "[I") (ty := .int) (N := 8) (f := fun j => .int (q82_pw j)) (A := fun q : Nat => s.heap.size ≤ q) (by decide) (hs _ (by decide +kernel)) (va_eqt (hs _ (by decide +kernel))) (fun j hj => by
    match j, hj with
    | 0, _ => exact va_eqt (hs _ (by decide +kernel))
    | 1, _ => exact va_eqt (hs _ (by decide +kernel))
    | 2, _ => exact va_eqt (hs _ (by decide +kernel))
    | 3, _ => exact va_eqt (hs _ (by decide +kernel))
    | 4, _ => exact va_eqt (hs _ (by decide +kernel))
    | 5, _ => exact va_eqt (hs _ (by decide +kernel))
    | 6, _ => exact va_eqt (hs _ (by decide +kernel))
    | 7, _ => exact va_eqt (hs _ (by decide +kernel))
    ) hA
  obtain ⟨a2, ha2, hT2⟩ := va_Tof (args := #[Value.ref b]) (s := s) (tm := .static "BuriedBySevens" "FACTORIALS" "[I") (ty := .int) (N := 8) (f := fun j => .int (q82_fc j)) (A := fun q : Nat => s.heap.size ≤ q) (by decide) (hs _ (by decide +kernel)) (va_eqt (hs _ (by decide +kernel))) (fun j hj => by
    match j, hj with
    | 0, _ => exact va_eqt (hs _ (by decide +kernel))
    | 1, _ => exact va_eqt (hs _ (by decide +kernel))
    | 2, _ => exact va_eqt (hs _ (by decide +kernel))
    | 3, _ => exact va_eqt (hs _ (by decide +kernel))
    | 4, _ => exact va_eqt (hs _ (by decide +kernel))
    | 5, _ => exact va_eqt (hs _ (by decide +kernel))
    | 6, _ => exact va_eqt (hs _ (by decide +kernel))
    | 7, _ => exact va_eqt (hs _ (by decide +kernel))
    ) hA
  have hZ1 := va_Zof (hts _ q8_ow.2.2.2.2.2.2.2.1) hini ha1 hA
  have hZ2 := va_Zof (hts _ q8_ow.2.2.2.2.2.2.2.2) hini ha2 hA
  obtain ⟨c1, t11, t12, t13, t14, t15, t16, t17⟩ := hT1
  obtain ⟨c2, t21, t22, t23, t24, t25, t26, t27⟩ := hT2
  obtain ⟨scr, x1, x2, x3, x4, x5⟩ := hX
  obtain ⟨ro, hro⟩ : ∃ ro : Nat → Nat, ro = fun k => if k = 0 then b else if k = 1 then a1 else a2 := ⟨_, rfl⟩
  have r0 : ro 0 = b := by rw [hro]; rfl
  have r1 : ro 1 = a1 := by rw [hro]; rfl
  have r2 : ro 2 = a2 := by rw [hro]; rfl
  have hrep : q5_rep D ro s.heap.size s (q82_N0 (0, L, fun j => .int (xs j))) s.heap := by
    refine ⟨Nat.le_refl 3, rfl, fun k hk => ?_, fun k hk => ?_, by rw [r1]; exact hZ1, by rw [r2]; exact hZ2⟩
    · have hk : k < 3 := hk
      match k, hk with
      | 0, _ => exact Or.inl ⟨rfl, fun j _ => ⟨_, rfl⟩, Or.inl ⟨by decide, scr, by rw [r0]; exact x1, x2, x3, ⟨Nat.le_of_eq x4.symm, by rw [x4]; rfl⟩, x5⟩⟩
      | 1, _ => exact Or.inl ⟨rfl, fun j _ => ⟨_, rfl⟩, Or.inl ⟨by decide, c1, by rw [r1]; exact t11, t12, t13, ⟨t14, t15⟩, t16⟩⟩
      | 2, _ => exact Or.inl ⟨rfl, fun j _ => ⟨_, rfl⟩, Or.inl ⟨by decide, c2, by rw [r2]; exact t21, t22, t23, ⟨t24, t25⟩, t26⟩⟩
    · match k, hk with
      | 0, _ => rw [r0]; exact hbl
      | 1, _ => rw [r1]; exact (Array.getElem?_eq_some_iff.mp t11).1
      | 2, _ => rw [r2]; exact (Array.getElem?_eq_some_iff.mp t21).1
  have hF : q6_F p room_1 s m meth c D 0 := ⟨hx, hb, hml, hown, fun h => absurd h (by decide), hcx, rfl, rfl, rfl, rfl⟩
  have hl := lv_entry ([.ref b]) (n := 4) (Nat.le_of_ble_eq_true rfl)
  have had : q5_ad ro s.heap.size 0 = b := (q5_old (by decide)).trans r0
  have hl : lv_has ((lg_sl ([Value.ref b]) ++ List.replicate (4 - (lg_sl ([Value.ref b])).length) Slot.unset).toArray) (q2_ml 0) (q5_tl (q5_ad ro s.heap.size) [(0, .ref 0)]) := by
    show lv_has _ 4 [(0, Value.ref (q5_ad ro s.heap.size 0))]
    rw [had]
    exact hl
  obtain ⟨N', fu, hrun⟩ := q83_law hL xs
  rw [lg_entry_eq]
  refine q12_sound q40_ck l D ro s.heap.size fu 0 0 [(0, .ref 0)] [] (q82_N0 (0, L, fun j => .int (xs j))) 0 0 (some (.int 1)) N' hrun s.heap [] _ hF hl hrep (fun _ h => by cases h) (Nat.zero_le _) (Nat.zero_le _) (fun pc H locs ls st ce sl hend hr2 hlo z1 z2 => ?_)
  rcases hend with ⟨x, t, hv, rfl, hdd, -⟩ | ⟨x, hv, -⟩ | ⟨a, n, hv, -⟩ | ⟨hv, -⟩
  · cases hv
    refine va_forget hlo ?_
    refine W.widen (k := 600000) (n := 7302250) z1 z2 ?_
    exact lw_ret hx hb hr hlocks hdd
  · cases hv
  · cases hv
  · cases hv
-- ===== YOUR PART ENDS =====
set_option maxHeartbeats 4000000 in
theorem lw_walk (l : Launch) (hflags : l.flags = flags0) (b : Addr) (xs : List Int32) : MetFree l x (headSpec (Jvm.Cond.code x code maxLocals ret :: tables_1) room_1) (lw_P b xs) (fun _ _ _ _ _ => True) lw_Q := by
  refine MetFree.of_bodyS (code := code) (maxLocals := maxLocals) (ret := ret) (by decide) ?_ ?_
  · intro args s m h hn
    obtain ⟨meth, c, h1, h2, h3, h4, h5, h6, -, -⟩ := Cond.code_spec hn (atoms_spec (ws := Jvm.Cond.code x code maxLocals ret :: tables_1) h _ List.mem_cons_self)
    exact ⟨meth, c, h1, h2, h3, h4, h5, h6⟩
  · intro p e s m args below meth c s₁ B hml0 hP _
    obtain ⟨rfl, hx, hbd, hgv⟩ := hP
    obtain ⟨scr, harrAt, hlist, hof, hsmall⟩ := hx
    obtain ⟨hcb, hkn, -, -⟩ := State.arrayAt?_spec harrAt
    have hown : s.vm.findClass R_law = some m.cls := findClass_of_methodNamed B.named
    have hts0 : ∀ c ∈ (Jvm.Cond.code x code maxLocals ret :: tables_1), c.before #[Value.ref b] s = true := atoms_spec (ws := Jvm.Cond.code x code maxLocals ret :: tables_1) B.pre
    have hts : ∀ w ∈ lw_tbl, w.before #[Value.ref b] s = true := k2_hts_sels lw_privs (fun w hw => hts0 w (List.mem_cons_of_mem _ hw)) lw_privs_ok
    have hml : c.maxLocals = 4 := B.maxLocals_eq (hts0 _ List.mem_cons_self)
    have X₀ : Stand p l e room_1 s m #[Value.ref b] below meth c s₁ [] 0 0 := Stand.of_body B
    have hh0 : s₁.heap = s.heap := by rw [B.state]; rfl
    have hsz : scr.slots.size = xs.length := by rw [← Array.length_toList, hlist, List.length_map]
    have hval : ∀ j : Nat, j < xs.length → scr.slots[j]? = some (.int (xs.getD j 0)) := fun j hj => by
      rw [← Array.getElem?_toList, hlist]
      simp [hj]
    have hbl : b < s.heap.size := (Array.getElem?_eq_some_iff.mp hcb).1
    have hX : va_X b xs.length (fun j => xs.getD j 0) s s.heap := ⟨scr, hcb, hof, hkn, hsz, hval⟩
    have K : W p l e room_1 s m #[Value.ref b] below meth c s₁.heap [] 0 0 (lw_Z below #[Value.ref b] s) (entryFrame m ([Value.ref b] : List Value).toArray 4) := by
      rw [hh0]
      exact whole_start l hflags hbd ⟨B.exec, B.bytes, B.returns, hml, hown, hts, hX, hbl, B.notSynchronized, hgv⟩
    obtain ⟨t, a1, o, b1, b2, b3⟩ := K s₁ rfl X₀
    exact ⟨t, o, a1, b1, b2, b3⟩
theorem lw_pre_spec {args : Array Value} {s : State} (h : (Jvm.Cond.and given_1 narrow_1).before args s = true) (hr : rest_1_c.before args s = true) : ∃ (b : Addr) (xs : List Int32), lw_P b xs args s := by
  have hs := flat_of_before _ h
  have hq := flat_of_before _ hr
  have hc : (Cond.count 1).before args s = true := hs _ (by decide +kernel)
  have harr : (Cond.arrayOf (.arg 0) .int).before args s = true := hs _ (by decide +kernel)
  have hle : (Cond.le (.length (.arg 0)) (.int 2560)).before args s = true := hs _ (by decide +kernel)
  have hlen : (Cond.isInt (.length (.arg 0))).before args s = true := hq _ (by decide +kernel)
  have hall : (Cond.all (.arg 0) (.isInt (.elem (.arg 0) (.index 0)))).before args s = true := hq _ (by decide +kernel)
  obtain ⟨b, xs, hb, hx⟩ := State.ints_of_pre rfl harr hlen hall
  have hsm : xs.length < 2 ^ 31 := hx.choose_spec.2.2.2
  have hev : (Term.length (.arg 0)).eval args s none [] s = some (.int xs.length.toInt32) := hx.length_eval hb
  have hv := Cond.le_ints hev (show (Term.int 2560).eval args s none [] s = some (.int 2560) from rfl)
  have hd : xs.length.toInt32 ≤ 2560 := by
    simpa [Cond.before, Cond.holds, hv] using hle
  have hN : xs.length ≤ 2560 := (Int32.ofNat_le_ofNat hsm (by decide)).mp (show Int32.ofNat xs.length ≤ Int32.ofNat 2560 from hd)
  exact ⟨b, xs, Cond.one_arg hc (show args[0]? = some (.ref b) from hb), hx, hN, h⟩
theorem lw_comes (l : Launch) (hflags : l.flags = flags0) : Comes l x (Jvm.Cond.code x code maxLocals ret :: tables_1) room_1 (fun tb e args s => Calls_1 tb e args s ∧ rest_1 tb e args s ∧ Pre_1 tb e args s)
    (fun _ _ args s o t => lw_Q args s o t) := by
  intro p e ha hc hk s m args below hf hfit hheap happ hpre
  obtain ⟨b, xs, hP⟩ := lw_pre_spec hpre.2.2 hpre.2.1
  obtain ⟨k, o, h1, h2, h3, hQ⟩ := lw_walk l hflags b xs p e ha hc hk s m args below hf ((Spec.applies_iff_loose hf).mp happ).1 hP trivial
  exact ⟨k, o, h1, h2, h3, hQ⟩
theorem lw_frame {s t : State} {o : Outcome} {args : Array Value} (h : Framed s o t [] 600000 7302250) :
    Framed s o t (fieldLocs frame_1_writes args s ++ arrayLocs frame_1_arrays args s ++ staticLocs frame_1_statics s) 600000 7302250 := h
theorem lw_limb (L : Cond) (hL : ∀ (args : Array Value) (s t : State), L.after args s (.returned (some (.int 1))) t = true) :
    ArmFor flags0 classFile x code maxLocals ret World_1 tables_1 room_1 Calls_1 rest_1 Pre_1
      (fun tb e a s o t => postC L tb e a s o t ∧ Framed s o t (fieldLocs frame_1_writes a s ++ arrayLocs frame_1_arrays a s ++ staticLocs frame_1_statics s) 600000 7302250) := by
  intro l hflags _ _ p e ha hc hk s m args below hf hfit hheap happ hpre
  obtain ⟨k, o, h1, h2, h3, rfl, hF⟩ := lw_comes l hflags p e ha hc hk s m args below hf hfit hheap happ hpre
  exact ⟨k, _, h1, h2, h3, hL args s _, lw_frame hF⟩
theorem i_vc : Claimed_1_1 ∧ Claimed_1_2 := ⟨lw_limb limb_1_1 (fun args s t => by simp [limb_1_1, Cond.after, Cond.holds, Cond.value]), lw_limb limb_1_2 (fun args s t => Cond.after_iff.mpr (by
  first | (rw [show limb_1_2 = Cond.eq .result (.int 1) from rfl, Cond.eq_ints (x := 1) (y := 1) rfl rfl]; simp; done) | (simp [limb_1_2, Cond.value, Term.eval]; done)))⟩
