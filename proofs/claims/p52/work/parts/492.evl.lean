/-! runs by hand -/
def q62_ev (k pc : Nat) (lv : List (Nat × Value)) (st : List Value) (M : q4_M) (ce sl : Nat) (r : Option Value × q4_M) : Prop := ∃ f, q4_run f k pc lv st M ce sl = some r
section Q62
variable {k pc len ce sl : Nat} {lv : List (Nat × Value)} {st : List Value} {M : q4_M} {r : Option Value × q4_M}
theorem q62_s {pc1 ce1 sl1 : Nat} {lv1 : List (Nat × Value)} {st1 : List Value} {M1 : q4_M} {i : Instr} (hcd : q4_cd k pc = some (i, len)) (hst : q4_step k pc len lv st M ce sl i = some (.inl (pc1, lv1, st1, M1, ce1, sl1))) (h : q62_ev k pc1 lv1 st1 M1 ce1 sl1 r) : q62_ev k pc lv st M ce sl r := by
  obtain ⟨f, hf⟩ := h
  exact q61_fwd hcd hst f r hf
theorem q62_c {y : Nat} {as rest : List Value} {M1 : q4_M} {i : Instr} {v : Option Value} (hcd : q4_cd k pc = some (i, len)) (hst : q4_step k pc len lv st M ce sl i = some (.inr (.inl (y, as, rest)))) (ha : q62_ev y 0 (lv_args 0 as) [] M 0 0 (v, M1)) (h : q62_ev k (pc + 3) lv (v.toList ++ rest) M1 (ce + q2_mc y) (sl + q2_ms y) r) : q62_ev k pc lv st M ce sl r := by
  obtain ⟨fa, ha⟩ := ha
  obtain ⟨f, hf⟩ := h
  exact q61_call hcd hst ha f r hf
theorem q62_r {i : Instr} {v : Option Value} (hcd : q4_cd k pc = some (i, len)) (hst : q4_step k pc len lv st M ce sl i = some (.inr (.inr v))) : q62_ev k pc lv st M ce sl (v, M) := by
  refine ⟨1, ?_⟩
  unfold q4_run
  rw [hcd]
  dsimp only
  rw [hst]
theorem q62_iload {n : Nat} {x : Int32} (hcd : q4_cd k pc = some (.iload n, len)) (hg : q4_get lv n = some (.int x)) (h : q62_ev k (pc + len) lv (.int x :: st) M ce sl r) : q62_ev k pc lv st M ce sl r :=
  q62_s hcd (by unfold q4_step; dsimp only; rw [hg]) h
theorem q62_lload {n : Nat} {x : Int64} (hcd : q4_cd k pc = some (.lload n, len)) (hg : q4_get lv n = some (.long x)) (h : q62_ev k (pc + len) lv (.long x :: st) M ce sl r) : q62_ev k pc lv st M ce sl r :=
  q62_s hcd (by unfold q4_step; dsimp only; rw [hg]) h
theorem q62_aload {n a : Nat} (hcd : q4_cd k pc = some (.aload n, len)) (hg : q4_get lv n = some (.ref a)) (h : q62_ev k (pc + len) lv (.ref a :: st) M ce sl r) : q62_ev k pc lv st M ce sl r :=
  q62_s hcd (by unfold q4_step; dsimp only; rw [hg]) h
theorem q62_istore {n : Nat} {x : Int32} (hcd : q4_cd k pc = some (.istore n, len)) (hn : n < q2_ml k) (h : q62_ev k (pc + len) (q4_st1 lv n (.int x)) st M ce sl r) : q62_ev k pc lv (.int x :: st) M ce sl r :=
  q62_s hcd (by unfold q4_step; dsimp only; rw [if_pos hn]) h
theorem q62_lstore {n : Nat} {x : Int64} (hcd : q4_cd k pc = some (.lstore n, len)) (hn : n + 1 < q2_ml k) (h : q62_ev k (pc + len) (q4_st2 lv n (.long x)) st M ce sl r) : q62_ev k pc lv (.long x :: st) M ce sl r :=
  q62_s hcd (by unfold q4_step; dsimp only; rw [if_pos hn]) h
theorem q62_iinc {n : Nat} {v : Int} {x : Int32} (hcd : q4_cd k pc = some (.iinc n v, len)) (hg : q4_get lv n = some (.int x)) (hn : n < q2_ml k) (h : q62_ev k (pc + len) (q4_st1 lv n (.int (x + Int32.ofInt v))) st M ce sl r) : q62_ev k pc lv st M ce sl r :=
  q62_s hcd (by unfold q4_step; dsimp only; rw [hg]; dsimp only; rw [if_pos hn]) h
theorem q62_ift {c : ClassFile.Cond} {t : Int} {x y : Int32} (hcd : q4_cd k pc = some (.if_icmp c t, len)) (hc : q4_icmp c x y = true) (h : q62_ev k t.toNat lv st M ce sl r) : q62_ev k pc lv (.int y :: .int x :: st) M ce sl r :=
  q62_s hcd (by unfold q4_step; dsimp only; rw [if_pos hc]) h
theorem q62_iff {c : ClassFile.Cond} {t : Int} {x y : Int32} (hcd : q4_cd k pc = some (.if_icmp c t, len)) (hc : q4_icmp c x y = false) (h : q62_ev k (pc + len) lv st M ce sl r) : q62_ev k pc lv (.int y :: .int x :: st) M ce sl r :=
  q62_s hcd (by unfold q4_step; dsimp only; rw [if_neg (by rw [hc]; decide)]) h
theorem q62_ict {c : ClassFile.Cond} {t : Int} {x : Int32} (hcd : q4_cd k pc = some (.ifCond c t, len)) (hc : q4_icmp c x 0 = true) (h : q62_ev k t.toNat lv st M ce sl r) : q62_ev k pc lv (.int x :: st) M ce sl r :=
  q62_s hcd (by unfold q4_step; dsimp only; rw [if_pos hc]) h
theorem q62_icf {c : ClassFile.Cond} {t : Int} {x : Int32} (hcd : q4_cd k pc = some (.ifCond c t, len)) (hc : q4_icmp c x 0 = false) (h : q62_ev k (pc + len) lv st M ce sl r) : q62_ev k pc lv (.int x :: st) M ce sl r :=
  q62_s hcd (by unfold q4_step; dsimp only; rw [if_neg (by rw [hc]; decide)]) h
/-! locals -/
theorem q62_g1 {i : Nat} {v : Value} : q4_get (q4_st1 lv i v) i = some v := by
  unfold q4_st1
  rw [q54_get_cons, if_pos rfl]
theorem q62_g2 {i j : Nat} {v x : Value} (h : q4_get lv j = some x) (hx : x.category = 1) (hj : j ≠ i) : q4_get (q4_st1 lv i v) j = some x := by
  unfold q4_st1
  rw [q54_get_cons, if_neg (fun e => hj e.symm)]
  apply q54_get_fil _ h
  simp only [Bool.and_eq_true, Bool.not_eq_true', beq_eq_false_iff_ne, ne_eq, Bool.and_eq_false_iff]
  exact ⟨hj, Or.inr (by rw [hx]; decide)⟩
theorem q62_g2' {i j : Nat} {v x : Value} (h : q4_get lv j = some x) (hj : j ≠ i) (hj' : j + 1 ≠ i) : q4_get (q4_st1 lv i v) j = some x := by
  unfold q4_st1
  rw [q54_get_cons, if_neg (fun e => hj e.symm)]
  apply q54_get_fil _ h
  simp only [Bool.and_eq_true, Bool.not_eq_true', beq_eq_false_iff_ne, ne_eq, Bool.and_eq_false_iff]
  exact ⟨hj, Or.inl hj'⟩
theorem q62_g3 {i : Nat} {v : Value} : q4_get (q4_st2 lv i v) i = some v := by
  unfold q4_st2
  rw [q54_get_cons, if_pos rfl]
theorem q62_g4 {i j : Nat} {v x : Value} (h : q4_get lv j = some x) (hj : j ≠ i) (hj1 : j ≠ i + 1) (hj' : j + 1 ≠ i) : q4_get (q4_st2 lv i v) j = some x := by
  unfold q4_st2
  rw [q54_get_cons, if_neg (fun e => hj e.symm)]
  apply q54_get_fil _ h
  simp only [Bool.and_eq_true, Bool.not_eq_true', beq_eq_false_iff_ne, ne_eq, Bool.and_eq_false_iff]
  exact ⟨hj, hj1, Or.inl hj'⟩
/-! memory -/
theorem q62_ref {a j : Nat} {p : Int} (hM : q52_M M) (h0 : 0 < a) (h1 : a < 124) (hj : j < q51_len a) (hG : q51_G a j = (6, p, p)) : (M.2 a).2.2 j = .ref p.toNat := by
  have h := (hM.2.2.2.2 a h0 h1).2.2 j hj
  rw [hG] at h
  obtain ⟨x, hx, h2, h3⟩ := q54_ref h
  have e : x = p.toNat := by omega
  rw [hx, e]
theorem q62_int {a j : Nat} {lo hi : Int} (hM : q52_M M) (h0 : 0 < a) (h1 : a < 124) (hj : j < q51_len a) (hG : q51_G a j = (0, lo, hi)) : ∃ x : Int32, (M.2 a).2.2 j = .int x ∧ lo ≤ x.toInt ∧ x.toInt ≤ hi := by
  have h := (hM.2.2.2.2 a h0 h1).2.2 j hj
  rw [hG] at h
  obtain ⟨x, hx, h2, h3⟩ := q54_gi rfl h
  exact ⟨x, hx, h2, h3⟩
theorem q62_getfield {f a : Nat} {v : Value} (hcd : q4_cd k pc = some (.getfield f, len)) (hM : q52_M M) (h : 0 < a ∧ a < 124 ∧ q51_kind a = f / 64 + 2 ∧ f / 64 < 8 ∧ f % 64 < q2_N (f / 64)) (hv : (M.2 a).2.2 (f % 64) = v) (hn : q62_ev k (pc + len) lv (v :: st) M ce sl r) : q62_ev k pc lv (.ref a :: st) M ce sl r :=
  q62_s hcd (by
    unfold q4_step
    dsimp only
    have hk := (hM.2.2.2.2 a h.1 h.2.1).1
    rw [if_pos ⟨by rw [hM.1]; exact h.2.1, by rw [hk]; exact h.2.2.1, h.2.2.2⟩, hv]) hn
theorem q62_iaload {a : Nat} {x : Int32} {v : Value} (hcd : q4_cd k pc = some (.iaload, len)) (hM : q52_M M) (h : 0 < a ∧ a < 124 ∧ q51_kind a = 0) (h0 : 0 ≤ x.toInt) (h1 : x.toInt < (q51_len a : Int)) (hv : (M.2 a).2.2 x.toInt.toNat = v) (hn : q62_ev k (pc + len) lv (v :: st) M ce sl r) : q62_ev k pc lv (.int x :: .ref a :: st) M ce sl r :=
  q62_s hcd (by
    unfold q4_step
    dsimp only
    obtain ⟨t1, t2⟩ := q58_tn h0
    have hk := (hM.2.2.2.2 a h.1 h.2.1)
    rw [if_pos ⟨by rw [hM.1]; exact h.2.1, by rw [hk.1]; exact h.2.2, t1, by rw [t2, hk.2.1]; omega⟩, t2, hv]) hn
theorem q62_iastore {a : Nat} {x z : Int32} (hcd : q4_cd k pc = some (.iastore, len)) (hM : q52_M M) (h : 3 ≤ a ∧ a < 124 ∧ q51_kind a = 0) (h0 : 0 ≤ x.toInt) (h1 : x.toInt < (q51_len a : Int)) (hn : q62_ev k (pc + len) lv st (q4_put M a x.toInt.toNat (.int z)) ce sl r) : q62_ev k pc lv (.int z :: .int x :: .ref a :: st) M ce sl r :=
  q62_s hcd (by
    unfold q4_step
    dsimp only
    obtain ⟨t1, t2⟩ := q58_tn h0
    have hk := (hM.2.2.2.2 a (by omega) h.2.1)
    rw [if_pos ⟨h.1, by rw [hM.1]; exact h.2.1, by rw [hk.1]; exact h.2.2, t1, by rw [t2, hk.2.1]; omega⟩, t2]) hn
/-- a call on an object -/
theorem q62_virt {y a : Nat} {as rest : List Value} {M1 : q4_M} {v : Option Value} (hcd : q4_cd k pc = some (.invokevirtual y, len)) (hM : q52_M M) (has : (st.take (q2_na y)).reverse = .ref a :: as) (hrest : st.drop (q2_na y) = rest)
    (hc : y ≠ 0 ∧ y < q2_n ∧ q2_kd y = 1 ∧ q2_na y ≤ st.length ∧ (lg_sl (Value.ref a :: as)).length ≤ q2_ml y ∧ q4_cat rest ≤ 8 ∧ q2_fr y + 1 ≤ q2_fr k ∧ 8 + (q2_ml y + 11) + q2_lo y ≤ q2_lo k ∧ ce + q2_mc y ≤ q2_mc k ∧ sl + q2_ms y ≤ q2_ms k)
    (ho : 0 < a ∧ a < 124 ∧ q51_kind a = q2_own y + 2 ∧ q2_own y < 8) (ha : q62_ev y 0 (lv_args 0 (.ref a :: as)) [] M 0 0 (v, M1)) (h : q62_ev k (pc + 3) lv (v.toList ++ rest) M1 (ce + q2_mc y) (sl + q2_ms y) r) : q62_ev k pc lv st M ce sl r :=
  q62_c hcd (by
    show q4_call k y 1 st M ce sl = _
    unfold q4_call
    dsimp only
    rw [has, hrest, if_pos hc]
    show (if a < M.1 ∧ (M.2 a).1 = q2_own y + 2 ∧ q2_own y < 8 then some (.inr (.inl (y, .ref a :: as, rest)) : q4_R) else none) = _
    rw [if_pos ⟨by rw [hM.1]; exact ho.2.1, by rw [(hM.2.2.2.2 a ho.1 ho.2.1).1]; exact ho.2.2.1, ho.2.2.2⟩]) ha h
/-- a call of a static method -/
theorem q62_stat {y : Nat} {as rest : List Value} {M1 : q4_M} {v : Option Value} (hcd : q4_cd k pc = some (.invokestatic y, len)) (has : (st.take (q2_na y)).reverse = as) (hrest : st.drop (q2_na y) = rest)
    (hc : y ≠ 0 ∧ y < q2_n ∧ q2_kd y = 0 ∧ q2_na y ≤ st.length ∧ (lg_sl as).length ≤ q2_ml y ∧ q4_cat rest ≤ 8 ∧ q2_fr y + 1 ≤ q2_fr k ∧ 8 + (q2_ml y + 11) + q2_lo y ≤ q2_lo k ∧ ce + q2_mc y ≤ q2_mc k ∧ sl + q2_ms y ≤ q2_ms k)
    (ha : q62_ev y 0 (lv_args 0 as) [] M 0 0 (v, M1)) (h : q62_ev k (pc + 3) lv (v.toList ++ rest) M1 (ce + q2_mc y) (sl + q2_ms y) r) : q62_ev k pc lv st M ce sl r :=
  q62_c hcd (by
    show q4_call k y 0 st M ce sl = _
    unfold q4_call
    dsimp only
    rw [has, hrest, if_pos hc]
    rfl) ha h
end Q62
