/-! THE MODEL'S MACHINE RUNS WHAT OURS RUNS -/
section Q12
/-- the end of a frame: what is answered, what stands on the stack, which instruction it is -/
def q12_end (k pc : Nat) (v : Option Value) (st : List Value) : Prop :=
  (∃ (x : Int32) (t : FieldType), v = some (.int x) ∧ st = [.int x] ∧ decode (q3_b k) pc = .ok (.ireturn, 1) ∧ q2_ret k = some t ∧ q4_fit t (.int x) = true) ∨
  (∃ x : Int64, v = some (.long x) ∧ st = [.long x] ∧ decode (q3_b k) pc = .ok (.lreturn, 1) ∧ q2_ret k = some .long) ∨
  (∃ (a : Nat) (n : String), v = some (.ref a) ∧ st = [.ref a] ∧ decode (q3_b k) pc = .ok (.areturn, 1) ∧ q2_ret k = some (.object n)) ∨
  (v = none ∧ st = [] ∧ decode (q3_b k) pc = .ok (.return_, 1) ∧ q2_ret k = none)
theorem q12_ends {k pc len ce sl : Nat} {lv : List (Nat × Value)} {st : List Value} {M : q4_M} {v : Option Value} {i raw : Instr} (hd : decode (q3_b k) pc = .ok (raw, len)) (hln : q3_ln raw = 0 ∨ q3_ln raw = len) (hi : q3_nm (q2_own k) pc raw = some i) (hs : q4_step k pc len lv st M ce sl i = some (.inr (.inr v))) : q12_end k pc v st := by
  have nocall : ∀ {y kd : Nat}, q4_call k y kd st M ce sl ≠ some (.inr (.inr v)) := by
    intro y kd h
    simp only [q4_call] at h
    repeat' split at h
    all_goals cases h
  cases raw
  case ireturn =>
    have hn := q10_ln hln rfl
    subst hn
    simp only [q3_nm, Option.some.injEq] at hi
    subst hi
    simp only [q4_step] at hs
    split at hs
    · next x t hr =>
      split at hs
      · next hf => cases hs; exact Or.inl ⟨x, t, rfl, rfl, hd, hr, hf⟩
      · cases hs
    · cases hs
  case lreturn =>
    have hn := q10_ln hln rfl
    subst hn
    simp only [q3_nm, Option.some.injEq] at hi
    subst hi
    simp only [q4_step] at hs
    split at hs
    · next x hr => cases hs; exact Or.inr (Or.inl ⟨x, rfl, rfl, hd, hr⟩)
    · cases hs
  case areturn =>
    have hn := q10_ln hln rfl
    subst hn
    simp only [q3_nm, Option.some.injEq] at hi
    subst hi
    simp only [q4_step] at hs
    split at hs
    · next a n hr => cases hs; exact Or.inr (Or.inr (Or.inl ⟨a, n, rfl, rfl, hd, hr⟩))
    · cases hs
  case return_ =>
    have hn := q10_ln hln rfl
    subst hn
    simp only [q3_nm, Option.some.injEq] at hi
    subst hi
    simp only [q4_step] at hs
    split at hs
    · next hr => cases hs; exact Or.inr (Or.inr (Or.inr ⟨rfl, rfl, hd, hr⟩))
    · cases hs
  case invokestatic n =>
    exfalso
    simp only [q3_nm] at hi
    split at hi
    · next r hf =>
      cases hz : Nat.beq r.2.2.1 0 with
      | true => rw [hz, cond_true] at hi; cases hi; exact nocall hs
      | false => rw [hz, cond_false] at hi; cases hi
    · simp only [Option.map_eq_some_iff] at hi
      obtain ⟨r, -, rfl⟩ := hi
      simp only [q4_step] at hs
      repeat' split at hs
      all_goals cases hs
  case invokespecial n =>
    exfalso
    simp only [q3_nm] at hi
    split at hi
    · next r hf =>
      cases hz : Nat.beq r.2.2.1 2 with
      | true => rw [hz, cond_true] at hi; cases hi; exact nocall hs
      | false => rw [hz, cond_false] at hi; cases hi
    · simp only [Option.map_eq_some_iff] at hi
      obtain ⟨r, -, rfl⟩ := hi
      simp only [q4_step] at hs
      repeat' split at hs
      all_goals cases hs
  case invokevirtual n =>
    exfalso
    simp only [q3_nm, Option.bind_eq_some_iff] at hi
    obtain ⟨r, hf, h2⟩ := hi
    cases hz : (Nat.beq r.2.2.1 1 && Nat.beq r.2.2.2.1 0) with
    | true => rw [hz, cond_true] at h2; cases h2; exact nocall hs
    | false => rw [hz, cond_false] at h2; cases h2
  all_goals (first
    | (simp only [q3_nm] at hi; cases hi; done)
    | (exfalso
       simp only [q3_nm] at hi
       (repeat' split at hi)
       all_goals first | (cases hi; done) | skip
       all_goals (first | (simp only [Option.some.injEq] at hi; subst hi) | (simp only [Option.map_eq_some_iff] at hi; obtain ⟨_, _, rfl⟩ := hi))
       all_goals (simp only [q4_step] at hs; (repeat' split at hs); all_goals cases hs)))
/-- how W is to go on at an end -/
def q12_K (p : Program) (l : Launch) (e : Env) (R : Room) (s : State) (m : MethodId) (args : Array Value) (below : List Frame) (meth : Method) (c : Code) (Q : State → Prop) (D : va_G) (ro : Nat → Nat) (h0 k : Nat) (v : Option Value) (M' : q4_M) : Prop :=
  ∀ (pc : Nat) (H : Heap) (locs : List Loc) (ls : Array Slot) (st : List Value) (ce sl : Nat), q12_end k pc v st → q5_rep D ro h0 s M' H → (∀ x ∈ locs, h0 ≤ x.base) → ce ≤ q2_mc k → sl ≤ q2_ms k →
    W p l e R s m args below meth c H locs ce sl Q (F0 m pc ls (st.map (q5_tv (q5_ad ro h0))))
theorem q12_sound (CK : ∀ k pc, k < q2_n → pc < (bif Nat.beq k 0 then 1792 else 320) → q3_ck k pc = true) (l : Launch) (D : va_G) (ro : Nat → Nat) (h0 : Nat) : ∀ (f k pc : Nat) (lv : List (Nat × Value)) (st : List Value) (M : q4_M) (ce sl : Nat) (v : Option Value) (M' : q4_M), q4_run f k pc lv st M ce sl = some (v, M') →
    ∀ {p : Program} {e : Env} {R : Room} {s : State} {m : MethodId} {args : Array Value} {below : List Frame} {meth : Method} {c : Code} {Q : State → Prop} (H : Heap) (locs : List Loc) (ls : Array Slot), q6_F p R s m meth c D k → lv_has ls (q2_ml k) (q5_tl (q5_ad ro h0) lv) → q5_rep D ro h0 s M H → (∀ x ∈ locs, h0 ≤ x.base) → ce ≤ q2_mc k → sl ≤ q2_ms k → q12_K p l e R s m args below meth c Q D ro h0 k v M' →
      W p l e R s m args below meth c H locs ce sl Q (F0 m pc ls (st.map (q5_tv (q5_ad ro h0)))) := by
  intro f
  induction f with
  | zero => intro k pc lv st M ce sl v M' h; cases h
  | succ f ih =>
    intro k pc lv st M ce sl v M' h p e R s m args below meth c Q H locs ls F hl hr hlo hce hsl hfin
    unfold q4_run at h
    cases hcd : q4_cd k pc with
    | none => rw [hcd] at h; cases h
    | some ii =>
      obtain ⟨i, len⟩ := ii
      rw [hcd] at h
      simp only at h
      obtain ⟨hkn, hpb, hcd2⟩ : k < q2_n ∧ pc < (bif Nat.beq k 0 then 1792 else 320) ∧ q2_cd k pc = some (i, len) := by
        unfold q4_cd at hcd
        cases h1 : Nat.blt k q2_n with
        | false => rw [h1] at hcd; cases hcd
        | true =>
          rw [h1, cond_true] at hcd
          cases h2 : Nat.blt pc (bif Nat.beq k 0 then 1792 else 320) with
          | false => rw [h2] at hcd; cases hcd
          | true =>
            rw [h2, cond_true] at hcd
            exact ⟨Nat.le_of_ble_eq_true h1, Nat.le_of_ble_eq_true h2, hcd⟩
      obtain ⟨raw, hd, hln, hi⟩ := q3_ck_spec (CK k pc hkn hpb) hcd2
      cases hstep : q4_step k pc len lv st M ce sl i with
      | none => rw [hstep] at h; cases h
      | some r =>
        rw [hstep] at h
        rcases r with ⟨pc', lv', st', M1, ce', sl'⟩ | ⟨y, as, rest⟩ | v1
        · simp only at h
          obtain ⟨z1, z2⟩ := q10_room hstep hce hsl
          refine q10_step F hd hln hi hstep hl hr hlo (fun H' locs' ls' hl' hr' hlo' => ?_)
          exact ih k pc' lv' st' M1 ce' sl' v M' h H' locs' ls' F hl' hr' hlo' z1 z2 hfin
        · simp only at h
          cases hcall : q4_run f y 0 (lv_args 0 as) [] M 0 0 with
          | none => rw [hcall] at h; cases h
          | some vm =>
            obtain ⟨v1, M1⟩ := vm
            rw [hcall] at h
            simp only at h
            refine q11_call (v := v1) (M' := M1) F hd hln hi hstep hl hr (fun hy0 hyn hsl1 => ?_) (fun H' L hr' hL z1 z2 => ?_)
            · obtain ⟨w1, -, -, -, -, w6, -, w8, -, w10⟩ := q11_w hy0 hyn
              refine va_MetF w8 rfl ?_
              intro p e s m args below meth c s₁ B hml hP
              obtain ⟨rfl, hcx, hrep⟩ := hP
              have hsl2 : (lg_sl (as.map (q5_tv (q5_ad ro h0)))).length ≤ q2_ml y := by rw [q5_sl]; exact hsl1
              have hle := lv_entry (as.map (q5_tv (q5_ad ro h0))) hsl2
              rw [q5_args] at hle
              rw [lg_entry_eq]
              have hown : s.vm.findClass (q2_cn (q2_own y)) = some m.cls := by rw [w6]; exact findClass_of_methodNamed B.named
              have hF : q6_F p (q11_rm y) s m meth c D y := ⟨B.exec, B.bytes, hml, hown, fun h2 => by rw [(name_of_methodNamed B.named B.method).1]; exact (w10 h2).1, hcx, rfl, rfl, rfl, rfl⟩
              refine ih y 0 (lv_args 0 as) [] M 0 0 v1 M1 hcall s.heap [] _ hF hle hrep (fun _ h => by cases h) (Nat.zero_le _) (Nat.zero_le _) (fun pc2 H2 locs2 ls2 st2 ce2 sl2 hend hr2 hlo2 z1 z2 => ?_)
              refine W.widen z1 z2 ?_
              rcases hend with ⟨x, t, rfl, rfl, hdd, hret, hfit⟩ | ⟨x, rfl, rfl, hdd, hret⟩ | ⟨a, nm, rfl, rfl, hdd, hret⟩ | ⟨rfl, rfl, hdd, hret⟩
              · exact W.zret B.exec B.bytes (B.returns.trans hret) (q5_fit (ad := q5_ad ro h0) hfit).1 (fun t ht hW => ⟨rfl, by rw [ht]; exact hr2.moved hW.alike⟩) hlo2 hdd B.notSynchronized
              · exact W.lret B.exec B.bytes (B.returns.trans hret) (fun t ht hW => ⟨rfl, by rw [ht]; exact hr2.moved hW.alike⟩) hlo2 hdd B.notSynchronized
              · exact W.aret B.exec B.bytes (B.returns.trans hret) (Or.inl ⟨nm, rfl⟩) (Or.inr ⟨_, rfl⟩) (fun t ht hW => ⟨rfl, by rw [ht]; exact hr2.moved hW.alike⟩) hlo2 hdd B.notSynchronized
              · exact W.vret B.exec B.bytes (B.returns.trans hret) (fun t ht hW => ⟨rfl, by rw [ht]; exact hr2.moved hW.alike⟩) hlo2 hdd B.notSynchronized
            · exact ih k (pc + 3) lv (v1.toList ++ rest) M1 _ _ v M' h H' (locs ++ L) ls F hl hr' (fun x hx => (List.mem_append.mp hx).elim (hlo x) (hL x)) z1 z2 hfin
        · simp only [Option.some.injEq, Prod.mk.injEq] at h
          obtain ⟨rfl, rfl⟩ := h
          exact hfin pc H locs ls st ce sl (q12_ends hd hln hi hstep) hr hlo hce hsl
end Q12
