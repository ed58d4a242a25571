/-! adds of the class: some of the others have no more ones than all of them -/
def q75_us (x y : Int32) : Int32 := (x.toUInt32 >>> (y.toUInt32 &&& Int32.toUInt32 31)).toInt32
def q75_b1 (i : Int32) : Int32 := i - (q75_us i (Int32.ofInt 1) &&& Int32.ofInt 1431655765)
def q75_b2 (a : Int32) : Int32 := (a &&& Int32.ofInt 858993459) + (q75_us a (Int32.ofInt 2) &&& Int32.ofInt 858993459)
def q75_b3 (b : Int32) : Int32 := (b + q75_us b (Int32.ofInt 4)) &&& Int32.ofInt 252645135
def q75_b4 (c : Int32) : Int32 := c + q75_us c (Int32.ofInt 8)
def q75_b5 (d : Int32) : Int32 := d + q75_us d (Int32.ofInt 16)
def q75_bc (i : Int32) : Int32 := q75_b5 (q75_b4 (q75_b3 (q75_b2 (q75_b1 i)))) &&& Int32.ofInt 63
theorem q75_ev {M : q4_M} (x : Int32) : q62_ev 63 0 [(0, .int x)] [] M 0 0 (some (.int (q75_bc x)), M) := by
  refine q62_iload (n := 0) (x := x) rfl rfl ?_
  refine q62_iload (n := 0) (x := x) rfl rfl ?_
  refine q62_s (i := .bipush 1) rfl rfl ?_
  refine q62_s (i := .iushr) rfl rfl ?_
  refine q62_s (i := .bipush 1431655765) rfl rfl ?_
  refine q62_s (i := .iand) rfl rfl ?_
  refine q62_s (i := .isub) rfl rfl ?_
  refine q62_istore (n := 0) (x := q75_b1 x) rfl (by decide) ?_
  refine q62_iload (n := 0) (x := q75_b1 x) rfl q62_g1 ?_
  refine q62_s (i := .bipush 858993459) rfl rfl ?_
  refine q62_s (i := .iand) rfl rfl ?_
  refine q62_iload (n := 0) (x := q75_b1 x) rfl q62_g1 ?_
  refine q62_s (i := .bipush 2) rfl rfl ?_
  refine q62_s (i := .iushr) rfl rfl ?_
  refine q62_s (i := .bipush 858993459) rfl rfl ?_
  refine q62_s (i := .iand) rfl rfl ?_
  refine q62_s (i := .iadd) rfl rfl ?_
  refine q62_istore (n := 0) (x := q75_b2 (q75_b1 x)) rfl (by decide) ?_
  refine q62_iload (n := 0) (x := q75_b2 (q75_b1 x)) rfl q62_g1 ?_
  refine q62_iload (n := 0) (x := q75_b2 (q75_b1 x)) rfl q62_g1 ?_
  refine q62_s (i := .bipush 4) rfl rfl ?_
  refine q62_s (i := .iushr) rfl rfl ?_
  refine q62_s (i := .iadd) rfl rfl ?_
  refine q62_s (i := .bipush 252645135) rfl rfl ?_
  refine q62_s (i := .iand) rfl rfl ?_
  refine q62_istore (n := 0) (x := q75_b3 (q75_b2 (q75_b1 x))) rfl (by decide) ?_
  refine q62_iload (n := 0) (x := q75_b3 (q75_b2 (q75_b1 x))) rfl q62_g1 ?_
  refine q62_iload (n := 0) (x := q75_b3 (q75_b2 (q75_b1 x))) rfl q62_g1 ?_
  refine q62_s (i := .bipush 8) rfl rfl ?_
  refine q62_s (i := .iushr) rfl rfl ?_
  refine q62_s (i := .iadd) rfl rfl ?_
  refine q62_istore (n := 0) (x := q75_b4 (q75_b3 (q75_b2 (q75_b1 x)))) rfl (by decide) ?_
  refine q62_iload (n := 0) (x := q75_b4 (q75_b3 (q75_b2 (q75_b1 x)))) rfl q62_g1 ?_
  refine q62_iload (n := 0) (x := q75_b4 (q75_b3 (q75_b2 (q75_b1 x)))) rfl q62_g1 ?_
  refine q62_s (i := .bipush 16) rfl rfl ?_
  refine q62_s (i := .iushr) rfl rfl ?_
  refine q62_s (i := .iadd) rfl rfl ?_
  refine q62_istore (n := 0) (x := q75_b5 (q75_b4 (q75_b3 (q75_b2 (q75_b1 x))))) rfl (by decide) ?_
  refine q62_iload (n := 0) (x := q75_b5 (q75_b4 (q75_b3 (q75_b2 (q75_b1 x))))) rfl q62_g1 ?_
  refine q62_s (i := .bipush 63) rfl rfl ?_
  refine q62_s (i := .iand) rfl rfl ?_
  exact q62_r (i := .ireturn) rfl rfl
def q75_oth (x c : Int32) : Int32 := x &&& ((Int32.ofInt 1 <<< (c &&& 31)) ^^^ Int32.ofInt (-1))
theorem q75_f1 : (List.range 128).all (fun x => (List.range 7).all (fun c => decide (0 ≤ (q75_oth (nI x) (nI c)).toInt) && decide ((q75_oth (nI x) (nI c)).toInt ≤ 127) && decide (0 ≤ (q75_bc (q75_oth (nI x) (nI c))).toInt) && decide ((q75_bc (q75_oth (nI x) (nI c))).toInt ≤ 6))) = true := by decide +kernel
theorem q75_f2 : (List.range 128).all (fun o => (List.range 128).all (fun s => bif q4_icmp .eq (nI s &&& (nI o ^^^ Int32.ofInt (-1))) 0 then decide (0 ≤ (q75_bc (nI s)).toInt) && decide ((q75_bc (nI s)).toInt ≤ (q75_bc (nI o)).toInt) else true)) = true := by decide +kernel
theorem q75_nI {x : Int32} {n : Nat} (h0 : 0 ≤ x.toInt) (h1 : x.toInt < (n : Int)) : ∃ k, k < n ∧ x = nI k := ⟨x.toInt.toNat, by omega, q53_nI h0⟩
theorem q75_o {x c : Int32} (h0 : 0 ≤ x.toInt) (h1 : x.toInt ≤ 127) (c0 : 0 ≤ c.toInt) (c1 : c.toInt ≤ 6) : 0 ≤ (q75_oth x c).toInt ∧ (q75_oth x c).toInt ≤ 127 ∧ 0 ≤ (q75_bc (q75_oth x c)).toInt ∧ (q75_bc (q75_oth x c)).toInt ≤ 6 := by
  obtain ⟨a, ha, rfl⟩ := q75_nI (n := 128) h0 (by omega)
  obtain ⟨b, hb, rfl⟩ := q75_nI (n := 7) c0 (by omega)
  have := List.all_eq_true.mp (List.all_eq_true.mp q75_f1 a (List.mem_range.mpr ha)) b (List.mem_range.mpr hb)
  simp only [Bool.and_eq_true, decide_eq_true_eq] at this
  exact ⟨this.1.1.1, this.1.1.2, this.1.2, this.2⟩
theorem q75_s {o s : Int32} (h0 : 0 ≤ o.toInt) (h1 : o.toInt ≤ 127) (s0 : 0 ≤ s.toInt) (s1 : s.toInt ≤ 127) (h : q4_icmp .eq (s &&& (o ^^^ Int32.ofInt (-1))) 0 = true) : 0 ≤ (q75_bc s).toInt ∧ (q75_bc s).toInt ≤ (q75_bc o).toInt := by
  obtain ⟨a, ha, rfl⟩ := q75_nI (n := 128) h0 (by omega)
  obtain ⟨b, hb, rfl⟩ := q75_nI (n := 128) s0 (by omega)
  have := List.all_eq_true.mp (List.all_eq_true.mp q75_f2 a (List.mem_range.mpr ha)) b (List.mem_range.mpr hb)
  rw [h, cond_true] at this
  simp only [Bool.and_eq_true, decide_eq_true_eq] at this
  exact this
