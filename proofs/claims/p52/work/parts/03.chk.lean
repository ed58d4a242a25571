/-! the sites' words stand in the tables; the printed code is what the bytes decode to -/
def q3_at (w : Cond) (p : Nat) : Bool := decide (lw_tbl[p]? = some w)
theorem q3_mem {w : Cond} {p : Nat} (h : q3_at w p = true) : w ∈ lw_tbl := List.mem_of_getElem? (of_decide_eq_true h)
def q3_fw (r : Nat × Nat × Nat) : Cond := .fieldLink (q2_cn (r.1 / 65536)) (r.1 % 65536) (q2_cn (r.2.1 / 64)) (q2_T (r.2.1 / 64) (r.2.1 % 64)).2.1 (q2_T (r.2.1 / 64) (r.2.1 % 64)).2.2.1
def q3_sn (r : Nat) : String := bif Nat.beq r 1 then "POWERS" else "FACTORIALS"
def q3_sw (r : Nat × Nat × Nat × Nat) : Cond := bif Nat.beq r.2.2.1 0 then .fieldLink (q2_cn (r.1 / 65536)) (r.1 % 65536) "BuriedBySevens" (q3_sn r.2.1) "[I" else .fieldLinkNest (q2_cn (r.1 / 65536)) (r.1 % 65536) "BuriedBySevens" (q3_sn r.2.1) "[I" "BuriedBySevens"
def q3_lw (r : Nat × Nat × Nat × Nat × Nat) : Cond := bif Nat.beq r.2.2.2.1 0 then .methodLink (q2_cn (r.1 / 65536)) (r.1 % 65536) (q2_y r.2.1) else .methodLinkNest (q2_cn (r.1 / 65536)) (r.1 % 65536) (q2_y r.2.1) "BuriedBySevens"
def q3_nw (r : Nat × Nat × Nat) : Cond := .classLink (q2_cn (r.1 / 65536)) (r.1 % 65536) (q2_cn r.2.1)
def q3_iw (r : Nat × Int × Nat) : Cond := .constant (q2_cn (r.1 / 65536)) (r.1 % 65536) (Int32.ofInt r.2.1)
def q3_jw (r : Nat × Int × Nat) : Cond := .constantLong (q2_cn (r.1 / 65536)) (r.1 % 65536) (Int64.ofInt r.2.1)
def q3_aw (r : Nat × Nat) : Cond := .classLink (q2_cn (r.1 / 65536)) (r.1 % 65536) "[[I"
def q3_ow (r : Nat × Nat) : Cond := .methodLink (q2_cn (r.1 / 65536)) (r.1 % 65536) Lib.objectInit
def q3_yw (r : Nat × Nat) : Cond := .methodLink (q2_cn (r.1 / 65536)) (r.1 % 65536) arraycopyName
theorem q3_sF_ok : q2_sF.all (fun r => q3_at (q3_fw r) r.2.2) = true := by decide +kernel
theorem q3_sS_ok : q2_sS.all (fun r => q3_at (q3_sw r) r.2.2.2) = true := by decide +kernel
theorem q3_sM_ok : q2_sM.all (fun r => q3_at (q3_lw r) r.2.2.2.2) = true := by decide +kernel
theorem q3_sC_ok : q2_sC.all (fun r => q3_at (q3_nw r) r.2.2) = true := by decide +kernel
theorem q3_sK_ok : q2_sK.all (fun r => q3_at (q3_iw r) r.2.2) = true := by decide +kernel
theorem q3_sL_ok : q2_sL.all (fun r => q3_at (q3_jw r) r.2.2) = true := by decide +kernel
theorem q3_sA_ok : q2_sA.all (fun r => q3_at (q3_aw r) r.2) = true := by decide +kernel
theorem q3_sO_ok : q2_sO.all (fun r => q3_at (q3_ow r) r.2) = true := by decide +kernel
theorem q3_sY_ok : q2_sY.all (fun r => q3_at (q3_yw r) r.2) = true := by decide +kernel
/-- of method k (not the law): its words -/
def q3_b (k : Nat) : ByteArray := bif Nat.beq k 0 then code else match lw_tbl[(q2_mw.getD k (0, 0, 0, 0)).1]? with
  | some (.code _ b _ _) => b
  | _ => ByteArray.empty
def q3_m1 (k : Nat) : Bool := match lw_tbl[(q2_mw.getD k (0, 0, 0, 0)).1]? with
  | some (.code y _ n r) => decide (y = q2_y k) && decide (n = q2_ml k) && decide (r = q2_ret k)
  | _ => false
theorem q3_m1_mem {k : Nat} (h0 : Nat.beq k 0 = false) (h : q3_m1 k = true) : Cond.code (q2_y k) (q3_b k) (q2_ml k) (q2_ret k) ∈ lw_tbl := by
  unfold q3_m1 at h
  unfold q3_b
  rw [h0]
  split at h
  · next y b n r e =>
    simp only [Bool.and_eq_true, decide_eq_true_eq] at h
    obtain ⟨⟨h1, h2⟩, h3⟩ := h
    subst h1; subst h2; subst h3
    exact List.mem_of_getElem? e
  · cases h
def q3_m2 (k : Nat) : Bool := bif Nat.beq (q2_kd k) 0 then q3_at (.static (q2_y k)) (q2_mw.getD k (0, 0, 0, 0)).2.1 else q3_at (.instanceMethod (q2_y k)) (q2_mw.getD k (0, 0, 0, 0)).2.1
def q3_m3 (k : Nat) : Bool := bif Nat.beq (q2_kd k) 1 then q3_at (.selects (q2_y k).cls (q2_y k) (q2_y k)) (q2_mw.getD k (0, 0, 0, 0)).2.2.1 else true
def q3_m4 (k : Nat) : Bool := q3_at (.initialized (q2_y k).cls) (q2_mw.getD k (0, 0, 0, 0)).2.2.2
def q3_m5 (k : Nat) : Bool := decide (q2_cn (q2_own k) = (q2_y k).cls) && decide ((q2_y k).cls ≠ "java/lang/invoke/MethodHandle") && decide ((q2_y k).cls ≠ "java/lang/invoke/VarHandle")
def q3_m6 (k : Nat) : Bool := plainFor (q2_y k)
def q3_m7 (k : Nat) : Bool := decide ((parseMethodDescriptor (q2_y k).desc).map (fun d => d.parameters.length) = some (q2_na k - (bif Nat.beq (q2_kd k) 0 then 0 else 1)))
def q3_m8 (k : Nat) : Bool := bif Nat.beq (q2_kd k) 2 then decide ((q2_y k).name = "<init>") && decide (q2_ret k = none) else true
theorem q3_m1_ok : (List.range q2_n).all (fun k => Nat.beq k 0 || q3_m1 k) = true := by decide +kernel
theorem q3_m2_ok : (List.range q2_n).all (fun k => Nat.beq k 0 || q3_m2 k) = true := by decide +kernel
theorem q3_m3_ok : (List.range q2_n).all (fun k => Nat.beq k 0 || q3_m3 k) = true := by decide +kernel
theorem q3_m4_ok : (List.range q2_n).all (fun k => Nat.beq k 0 || q3_m4 k) = true := by decide +kernel
theorem q3_m5_ok : (List.range q2_n).all (fun k => q3_m5 k) = true := by decide +kernel
theorem q3_m6_ok : (List.range q2_n).all (fun k => q3_m6 k) = true := by decide +kernel
theorem q3_m7_ok : (List.range q2_n).all (fun k => q3_m7 k) = true := by decide +kernel
theorem q3_m8_ok : (List.range q2_n).all (fun k => q3_m8 k) = true := by decide +kernel
theorem q3_cw_ok : (List.range 8).all (fun c => q3_at (.instantiable (q2_cn c) (q2_N c)) (q2_cw.getD c (0, 0)).1 && q3_at (.initialized (q2_cn c)) (q2_cw.getD c (0, 0)).2) = true := by decide +kernel
theorem q3_lay_ok : (List.range 8).all (fun c => (List.range (q2_N c)).all fun k => q3_at (u_lay (q2_cn c) (q2_T c) k) ((q2_lays.getD c []).getD k 0) && decide (parseFieldDescriptor (q2_T c k).2.2.1 = some (q2_ty c k)) && decide ((q2_T c k).1 = q2_cn c) && (List.range (q2_N c)).all fun j => decide (j = k) || decide ((q2_T c j).2.1 ≠ (q2_T c k).2.1)) = true := by decide +kernel
theorem q3_ow_ok : (q3_at (.instanceMethod Lib.objectInit) (q2_ow.getD 0 0) && q3_at (.code Lib.objectInit ⟨#[0xb1]⟩ 1 none) (q2_ow.getD 1 0) && q3_at (.native arraycopyName) (q2_ow.getD 2 0) && q3_at (.static arraycopyName) (q2_ow.getD 3 0) && q3_at (.initialized "java/lang/System") (q2_ow.getD 4 0)
  && q3_at (.arrayClass .int) (q2_ow.getD 5 0) && q3_at (.arrayOver (.array .int)) (q2_ow.getD 6 0) && q3_at (.laysStatic "BuriedBySevens" "POWERS" "[I") (q2_ow.getD 7 0) && q3_at (.laysStatic "BuriedBySevens" "FACTORIALS" "[I") (q2_ow.getD 8 0)) = true := by decide +kernel
/-- what stands at an entry of a class's pool -/
def q3_fd {α : Type} (l : List (Nat × α)) (o n : Nat) : Option (Nat × α) := if n < 65536 then l.find? (fun r => Nat.beq r.1 (o * 65536 + n)) else none
theorem q3_fd_spec {α : Type} {l : List (Nat × α)} {o n : Nat} {r : Nat × α} (h : q3_fd l o n = some r) : r ∈ l ∧ r.1 / 65536 = o ∧ r.1 % 65536 = n := by
  unfold q3_fd at h
  split at h
  · next hn =>
    have h2 := List.find?_some h
    have h1 : r.1 = o * 65536 + n := Nat.eq_of_beq_eq_true h2
    exact ⟨List.mem_of_find?_eq_some h, by omega, by omega⟩
  · cases h
/-- a target, as a number -/
def q3_t (pc : Nat) (off : Int) : Option Int := if 0 ≤ (pc : Int) + off then some ((pc : Int) + off) else none
/-- an instruction in the normal form: places of locals and targets as numbers, what the pool says as numbers of ours -/
def q3_nm (o pc : Nat) (i : Instr) : Option Instr := match i with
  | .aload n => some (.aload n)
  | .aload_n n => some (.aload n.val)
  | .iload n => some (.iload n)
  | .iload_n n => some (.iload n.val)
  | .lload n => some (.lload n)
  | .lload_n n => some (.lload n.val)
  | .astore n => some (.astore n)
  | .astore_n n => some (.astore n.val)
  | .istore n => some (.istore n)
  | .istore_n n => some (.istore n.val)
  | .lstore n => some (.lstore n)
  | .lstore_n n => some (.lstore n.val)
  | .iconst v => some (.bipush v)
  | .bipush v => if (Int8.ofInt v).toInt32 = Int32.ofInt v then some (.bipush v) else none
  | .sipush v => if (Int16.ofInt v).toInt32 = Int32.ofInt v then some (.bipush v) else none
  | .ldc n => (q3_fd q2_sK o n).map (fun r => .bipush r.2.1)
  | .ldc_w n => (q3_fd q2_sK o n).map (fun r => .bipush r.2.1)
  | .ldc2_w n => (q3_fd q2_sL o n).map (fun r => .sipush r.2.1)
  | .lconst n => some (.sipush n.val)
  | .iadd => some .iadd | .isub => some .isub | .imul => some .imul | .idiv => some .idiv | .irem => some .irem | .ineg => some .ineg
  | .ishl => some .ishl | .ishr => some .ishr | .iushr => some .iushr | .iand => some .iand | .ior => some .ior | .ixor => some .ixor
  | .ladd => some .ladd | .lsub => some .lsub | .lmul => some .lmul | .ldiv => some .ldiv | .lrem => some .lrem | .lneg => some .lneg
  | .i2l => some .i2l | .l2i => some .l2i | .lcmp => some .lcmp
  | .dup => some .dup | .dup2 => some .dup2 | .pop => some .pop | .pop2 => some .pop2
  | .iaload => some .iaload | .iastore => some .iastore | .aaload => some .aaload | .arraylength => some .arraylength
  | .ireturn => some .ireturn | .lreturn => some .lreturn | .areturn => some .areturn | .return_ => some .return_
  | .iinc n v => some (.iinc n v)
  | .if_icmp c off => (q3_t pc off).map (fun t => .if_icmp c t)
  | .ifCond c off => (q3_t pc off).map (fun t => .ifCond c t)
  | .goto off => (q3_t pc off).map (fun t => .goto t)
  | .tableswitch d lo hi offs => if 0 ≤ (pc : Int) + d ∧ offs.toList.all (fun x => decide (0 ≤ (pc : Int) + x)) = true then some (.tableswitch (pc + d) lo hi (offs.map (fun x => (pc : Int) + x))) else none
  | .lookupswitch d ps => if 0 ≤ (pc : Int) + d ∧ ps.toList.all (fun x => decide (0 ≤ (pc : Int) + x.2)) = true ∧ (ps.toList.zip (ps.toList.drop 1)).all (fun (a, next) => a.1 < next.1) = true then some (.lookupswitch (pc + d) (ps.map (fun x => (x.1, (pc : Int) + x.2)))) else none
  | .getfield n => (q3_fd q2_sF o n).map (fun r => .getfield r.2.1)
  | .putfield n => (q3_fd q2_sF o n).map (fun r => .putfield r.2.1)
  | .getstatic n => (q3_fd q2_sS o n).map (fun r => .getstatic r.2.1)
  | .new n => (q3_fd q2_sC o n).map (fun r => .new r.2.1)
  | .newarray a => match a with | .int => some (.newarray .int) | _ => none
  | .multianewarray n d => if d = 2 then (q3_fd q2_sA o n).map (fun _ => .multianewarray 0 2) else none
  | .invokevirtual n => (q3_fd q2_sM o n).bind (fun r => bif Nat.beq r.2.2.1 1 && Nat.beq r.2.2.2.1 0 then some (.invokevirtual r.2.1) else none)
  | .invokestatic n => match q3_fd q2_sM o n with
    | some r => bif Nat.beq r.2.2.1 0 then some (.invokestatic r.2.1) else none
    | none => (q3_fd q2_sY o n).map (fun _ => .nop)
  | .invokespecial n => match q3_fd q2_sM o n with
    | some r => bif Nat.beq r.2.2.1 2 then some (.invokespecial r.2.1) else none
    | none => (q3_fd q2_sO o n).map (fun _ => .monitorenter)
  | _ => none
/-- how long an instruction is (of switches nothing is asked) -/
def q3_ln (i : Instr) : Nat := match i with
  | .aload _ => 2 | .iload _ => 2 | .lload _ => 2 | .astore _ => 2 | .istore _ => 2 | .lstore _ => 2
  | .bipush _ => 2 | .ldc _ => 2 | .newarray _ => 2
  | .sipush _ => 3 | .ldc_w _ => 3 | .ldc2_w _ => 3 | .iinc _ _ => 3 | .if_icmp _ _ => 3 | .ifCond _ _ => 3 | .goto _ => 3
  | .getfield _ => 3 | .putfield _ => 3 | .getstatic _ => 3 | .new _ => 3 | .invokevirtual _ => 3 | .invokestatic _ => 3 | .invokespecial _ => 3
  | .multianewarray _ _ => 4
  | .tableswitch _ _ _ _ => 0 | .lookupswitch _ _ => 0
  | _ => 1
def q3_ck (k pc : Nat) : Bool := match q2_cd k pc with
  | none => true
  | some (n, len) => match decode (q3_b k) pc with
    | .ok (r, len') => Nat.beq len len' && (Nat.beq (q3_ln r) 0 || Nat.beq (q3_ln r) len) && decide (q3_nm (q2_own k) pc r = some n)
    | _ => false
