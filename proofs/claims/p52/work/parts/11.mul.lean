/-! new int[n][m]: the outer array, then row by row: a row is made and laid into it -/
section Q9w
variable {E : CtlPost} {e : Env} {d : Bool} {acts : List Action} {S : State}
theorem q9_one {ca comp : ClassId} {kc : Class} {ty : FieldType} {n : Nat} {z : Value} (hk : S.vm.classes[ca]? = some kc) (hkind : kc.kind = .array comp ty) (hlim : ¬ n > e.platform.arrayLengthLimit) (hbytes : ¬ n * componentBytes ty > e.platform.maxHeapBytes) (hf : fits ty z = true) (hz : z.isDefault = true)
    (h1 : S.heap.size < e.platform.maxCells) (h2 : S.slotsUsed + n ≤ e.platform.maxSlots) {Q : Addr → Pre} (hq : Q S.heap.size d acts (S.pushCell { cls := ca, slots := Array.replicate n z, vm := .none })) : wp (Jvm.newArray ca n z) Q E e d acts S := by
  have fitsAll : ∀ (j : Nat) (v : Value), (Array.replicate n z)[j]? = some v → S.fitsSlot ca .none j v = true := fun j v hv => by
    rw [Array.getElem?_replicate] at hv
    split at hv
    · cases hv
      simp [State.fitsSlot, State.slotType?, hk, hkind, hf]
    · cases hv
  have quiet : allocActs (Array.replicate n z) S.heap.size acts = acts := by
    unfold allocActs
    rw [if_pos]
    rw [Array.all_replicate]
    split <;> simp [hz]
  simp only [Jvm.newArray, Jvm.arrayFits, wp_bind', W.ask, W.ite, hlim, if_false, wp_pure', W.theClass, hk, hkind, hbytes, W.alloc, W.stop, Option.some.injEq, exists_eq_left', Array.size_replicate, quiet]
  rw [if_neg (by omega)]
  exact ⟨h1, h2, fitsAll, hq⟩
theorem q9_row {ci co : ClassId} {kc : Class} {m : Int32} (hk : S.vm.classes[ci]? = some kc) (hkind : kc.kind = .array co .int) (hm : ¬ m < 0) (hlim : ¬ m.toNatClampNeg > e.platform.arrayLengthLimit) (hbytes : ¬ m.toNatClampNeg * 4 > e.platform.maxHeapBytes)
    (h1 : S.heap.size < e.platform.maxCells) (h2 : S.slotsUsed + m.toNatClampNeg ≤ e.platform.maxSlots) {Q : Addr → Pre} (hq : Q S.heap.size d acts (S.pushCell (arrV ci m.toNatClampNeg (fun _ => .int 0)))) : wp (multianewarray.make ci [m]) Q E e d acts S := by
  rw [multianewarray.make]
  simp only [wp_bind', W.ite, hm, if_false, wp_pure', W.theClass, hk, hkind, Option.some.injEq, exists_eq_left']
  refine q9_one hk hkind hlim hbytes rfl rfl h1 h2 ?_
  rw [show (defaultValue FieldType.int) = Value.int 0 from rfl, arrV_new]
  exact hq
end Q9w
section Q9
variable {p : Program} {l : Launch} {e : Env} {R : Room} {s : State} {m : MethodId} {args : Array Value} {below : List Frame} {meth : Method} {c : Code} {H : Heap} {locs : List Loc} {Q : State → Prop}
variable {cells slots pc : Nat} {ls : Array Slot} {rest : List Value}
/-- where the making of n rows of m stands when i of them are there -/
def q9_I (p : Program) (l : Launch) (e : Env) (R : Room) (s : State) (m : MethodId) (args : Array Value) (below : List Frame) (meth : Method) (c : Code) (H : Heap) (locs : List Loc) (cells slots : Nat) (vm₁ : Vm) (cA cI : ClassId) (n mm u : Nat) (i : Nat) (T' : State) : Prop :=
  T'.vm = vm₁ ∧ T'.heap.size = H.size + 1 + i ∧ T'.heap[H.size]? = some (arrV cA n (fun j => if j < i then .ref (H.size + 1 + j) else .null)) ∧ (∀ j, j < i → T'.heap[H.size + 1 + j]? = some (arrV cI mm (fun _ => .int 0))) ∧ (∀ q, q < H.size → T'.heap[q]? = H[q]?) ∧ T'.slotsUsed = u + n + i * mm ∧
  ∃ L : List Loc, (∀ x ∈ L, x.base = H.size) ∧ Stand p l e R s m args below meth c T' (locs ++ L) (cells + 1 + i) (slots + n + i * mm)
theorem q9_next {vm₁ : Vm} {cA cI : ClassId} {n mm u i : Nat} {T' : State} (hi : i < n) (h : q9_I p l e R s m args below meth c H locs cells slots vm₁ cA cI n mm u i T') :
    q9_I p l e R s m args below meth c H locs cells slots vm₁ cA cI n mm u (i + 1) ((T'.pushCell (arrV cI mm (fun _ => .int 0))).setCell H.size ((arrV cA n (fun j => if j < i then .ref (H.size + 1 + j) else .null)).setSlot i (.ref T'.heap.size))) := by
  obtain ⟨h1, h2, h3, h4, h5, h6, L, hL, X⟩ := h
  have hlt : H.size < T'.heap.size := by omega
  have hp : (T'.pushCell (arrV cI mm (fun _ => .int 0))).heap[H.size]? = some (arrV cA n (fun j => if j < i then .ref (H.size + 1 + j) else .null)) := by rw [State.heap_pushCell_of_lt (h := hlt)]; exact h3
  have hout : (arrV cA n (fun j => if j < i then .ref (H.size + 1 + j) else .null)).setSlot i (.ref T'.heap.size) = arrV cA n (fun j => if j < i + 1 then .ref (H.size + 1 + j) else .null) := by
    rw [arrV_store]
    congr 1
    funext j
    unfold updV
    by_cases e : j = i
    · rw [if_pos e, if_pos (by omega), h2, e]
    · rw [if_neg e]
      show (if j < i then Value.ref (H.size + 1 + j) else Value.null) = _
      by_cases e2 : j < i
      · rw [if_pos e2, if_pos (by omega)]
      · rw [if_neg e2, if_neg (by omega)]
  refine ⟨by simpa using h1, ?_, ?_, fun j hj => ?_, fun q hq => ?_, ?_, L ++ [⟨H.size, i⟩], fun x hx => ?_, ?_⟩
  · simp [State.setCell, h2]
    omega
  · rw [State.heap_setCell_self hp, hout]
  · rw [State.heap_setCell_other (show H.size ≠ H.size + 1 + j by omega)]
    by_cases e : j = i
    · rw [e, ← h2]
      exact State.heap_pushCell_size _ _
    · rw [State.heap_pushCell_of_lt (h := show H.size + 1 + j < T'.heap.size by omega)]
      exact h4 j (by omega)
  · rw [State.heap_setCell_other (show H.size ≠ q by omega), State.heap_pushCell_of_lt (h := show q < T'.heap.size by omega)]
    exact h5 q hq
  · simp [h6, arrV_size, Nat.succ_mul]
    omega
  · rcases List.mem_append.mp hx with h | h
    · exact hL x h
    · rw [List.mem_singleton.mp h]
  · have X1 := (X.pushed (arrV cI mm (fun _ => .int 0))).stored hp i (.ref T'.heap.size)
    rw [arrV_size, List.append_assoc] at X1
    have e3 : slots + n + (i + 1) * mm = slots + n + i * mm + mm := by rw [Nat.succ_mul]; omega
    rw [e3]
    exact X1
/-- the state when i rows are there -/
def q9_f (S : State) (cA cI : ClassId) (n mm : Nat) : Nat → State
  | 0 => S.pushCell (arrV cA n (fun _ => .null))
  | i + 1 => ((q9_f S cA cI n mm i).pushCell (arrV cI mm (fun _ => .int 0))).setCell S.heap.size ((arrV cA n (fun j => if j < i then .ref (S.heap.size + 1 + j) else .null)).setSlot i (.ref (q9_f S cA cI n mm i).heap.size))
theorem q9_top (S : State) (g : JFrame) (cA cI : ClassId) (n mm : Nat) : ∀ i, q9_f (S.setTop g) cA cI n mm i = (q9_f S cA cI n mm i).setTop g
  | 0 => rfl
  | i + 1 => by
    unfold q9_f
    rw [q9_top S g cA cI n mm i]
    rfl
set_option maxHeartbeats 4000000 in
theorem q9_make (hexec : p.tables.exec = Jvm.exec) {cc : ByteArray} (hb : c.code = cc) {own : String} {index : Nat} (hown : s.vm.findClass own = some m.cls) (hclink : (Cond.classLink own index "[[I").before args s = true) (hao : q5_ao s) (harr : (Cond.arrayClass .int).before args s = true)
    (hdg : decode cc pc = .ok (.multianewarray index 2, 4)) {n k : Int32} (hn : ¬ n < 0) (hk : ¬ k < 0) (hbn : n.toNatClampNeg ≤ 100000) (hbk : k.toNatClampNeg ≤ 100000)
    (hcells : cells + (1 + n.toNatClampNeg) ≤ R.cells) (hslots : slots + (n.toNatClampNeg + n.toNatClampNeg * k.toNatClampNeg) ≤ R.slots)
    (kk : ∀ (H' : Heap) (L : List Loc) (cA cI : ClassId), (∀ x ∈ L, x.base = H.size) → H'.size = H.size + (1 + n.toNatClampNeg) → H'[H.size]? = some (arrV cA n.toNatClampNeg (fun j => if j < n.toNatClampNeg then .ref (H.size + 1 + j) else .null)) → (∀ j, j < n.toNatClampNeg → H'[H.size + 1 + j]? = some (arrV cI k.toNatClampNeg (fun _ => .int 0))) → (∀ q, q < H.size → H'[q]? = H[q]?) → ArrOfT s cA (.array .int) → ArrOfT s cI .int →
      W p l e R s m args below meth c H' (locs ++ L) (cells + 1 + n.toNatClampNeg) (slots + n.toNatClampNeg + n.toNatClampNeg * k.toNatClampNeg) Q (F0 m (pc + 4) ls (.ref H.size :: rest))) :
    W p l e R s m args below meth c H locs cells slots Q (F0 m pc ls (.int k :: .int n :: rest)) := by
  intro T hT X
  subst hT; subst hb
  have hpl : e.platform.magicAccessors = ({} : Platform).magicAccessors := by rw [X.admits.platform]
  obtain ⟨cI, cA, kA, hcI, hkA, hkindA, hcA⟩ := hao
  obtain ⟨cI', kI, co, hcI', hkI, hkindI⟩ := Cond.arrayClass_spec harr
  have eI : cI' = cI := Option.some.inj (hcI'.symm.trans hcI)
  subst eI
  obtain ⟨c0, hfc0, hcl⟩ := Cond.classLink_spec hown hclink e.platform hpl
  have e0 : cA = c0 := Option.some.inj (hcA.symm.trans hfc0)
  subst e0
  obtain ⟨hg₁, hwarm₁, hready₁⟩ := State.classEntry (e := e) X.warmed hcl
  generalize T.vm.noted m.cls index (.cls cA) = vm₁ at hg₁ hwarm₁ hready₁
  obtain ⟨kA₁, hkA₁, heA⟩ := hwarm₁.alike.2.2 _ _ hkA
  obtain ⟨kI₁, hkI₁, heI⟩ := hwarm₁.alike.2.2 _ _ hkI
  have hkindA₁ : kA₁.kind = .array cI' (.array .int) := by rw [heA]; exact hkindA
  have hkindI₁ : kI₁.kind = .array co .int := by rw [heI]; exact hkindI
  have X₁ := X.noted hwarm₁
  obtain ⟨hr1, hr2⟩ := X.roomAbove hcells hslots
  have hl1 : ∀ z : Nat, z ≤ 100000 → ¬ z > e.platform.arrayLengthLimit := fun z hz => by rw [Launch.admits_arrayLengthLimit X.admits]; omega
  have hh1 : ∀ z : Nat, z ≤ 100000 → ¬ z * 4 > e.platform.maxHeapBytes := fun z hz => by rw [Launch.admits_maxHeapBytes X.admits]; omega
  -- the first state of the loop
  have I0 : q9_I p l e R s m args below meth c T.heap locs cells slots vm₁ cA cI' n.toNatClampNeg k.toNatClampNeg T.slotsUsed 0 ((T.setVm vm₁).pushCell (arrV cA n.toNatClampNeg (fun _ => .null))) := by
    have hp : ((T.setVm vm₁).pushCell (arrV cA n.toNatClampNeg (fun _ => .null))).heap[T.heap.size]? = some (arrV cA n.toNatClampNeg (fun _ => .null)) := State.heap_pushCell_size _ _
    refine ⟨rfl, by simp, ?_, fun j hj => absurd hj (Nat.not_lt_zero j), fun q hq => ?_, by simp [arrV_size], [], fun x hx => (by cases hx), ?_⟩
    · rw [hp]
      simp
    · exact State.heap_pushCell_of_lt (T.setVm vm₁) _ hq
    · have X2 := X₁.pushed (arrV cA n.toNatClampNeg (fun _ => .null))
      rw [arrV_size] at X2
      simpa using X2
  have IA : ∀ i, i ≤ n.toNatClampNeg → q9_I p l e R s m args below meth c T.heap locs cells slots vm₁ cA cI' n.toNatClampNeg k.toNatClampNeg T.slotsUsed i (q9_f (T.setVm vm₁) cA cI' n.toNatClampNeg k.toNatClampNeg i) := by
    intro i
    induction i with
    | zero => intro _; exact I0
    | succ i ih => intro hi; exact q9_next hi (ih (by omega))
  generalize hS : T.setVm vm₁ = S at IA X₁
  have hSh : S.heap = T.heap := by rw [← hS]; rfl
  have hSv : S.vm = vm₁ := by rw [← hS]; rfl
  have hSu : S.slotsUsed = T.slotsUsed := by rw [← hS]; rfl
  have hST : ∀ g : JFrame, (T.setTop g).setVm vm₁ = S.setTop g := fun g => by rw [← hS]; rfl
  obtain ⟨h1, h2, h3, h4, h5, h6, L, hL, XF⟩ := IA n.toNatClampNeg (Nat.le_refl _)
  obtain ⟨t, a, b⟩ := kk (q9_f S cA cI' n.toNatClampNeg k.toNatClampNeg n.toNatClampNeg).heap L cA cI' hL (by omega) h3 h4 h5 (fun N z => ⟨(fun q hq => by cases hq), kA, hkA, cI', hkindA⟩) (fun N z => ⟨(fun q hq => by cases hq), kI, hkI, co, hkindI⟩) _ rfl XF
  refine ⟨t, ?_, b⟩
  jvm_step X.here [hexec, hdg]
  simp only [multianewarray.sem, wp_bind', W.resolveClassAt_links (State.method?_setTop (F0 m pc ls (.int k :: .int n :: rest)) X.here.top) hg₁]
  rw [W.popN, if_neg (by decide)]
  refine ⟨F0 m pc ls (.int k :: .int n :: rest), State.topJava?_setTop' (s := T.setVm vm₁) _ X.here.top, [.int n, .int k], rest, rfl, rfl, ?_⟩
  simp only [List.mapM_cons, List.mapM_nil, wp_bind', wp_pure']
  rw [hST]
  have hvm : ∀ g : JFrame, (S.setTop g).vm = vm₁ := fun g => hSv
  have hfind : ([k].find? (· < 0)) = none := by simp [hk]
  rw [multianewarray.make]
  simp only [wp_bind', W.ite, hn, if_false, wp_pure', W.theClass, State.setTop_setTop]
  refine ⟨kA₁, by rw [hvm]; exact hkA₁, ?_⟩
  simp only [hkindA₁, wp_bind']
  generalize hg : ({ F0 m pc ls (Value.int k :: Value.int n :: rest) with stack := rest } : JFrame) = g
  have hsz : (S.setTop g).heap.size = T.heap.size := by rw [State.heap_setTop, hSh]
  have hsu : (S.setTop g).slotsUsed = T.slotsUsed := hSu
  refine q9_one (S := S.setTop g) (z := .null) (by rw [hvm]; exact hkA₁) hkindA₁ (hl1 _ hbn) (hh1 _ hbn) rfl rfl (by rw [hsz]; omega) (by rw [hsu]; have := Nat.zero_le (n.toNatClampNeg * k.toNatClampNeg); omega) ?_
  simp only [hfind, ite_self, wp_bind', wp_pure']
  rw [Std.Legacy.Range.forIn_eq_forIn_range']
  have hrs : ([:n.toNatClampNeg] : Std.Legacy.Range).size = n.toNatClampNeg := by simp [Std.Legacy.Range.size]
  rw [hrs]
  refine wp_forIn_inv (fun rs s' => ∃ i, i ≤ n.toNatClampNeg ∧ rs = List.range' i (n.toNatClampNeg - i) ∧ s' = (q9_f S cA cI' n.toNatClampNeg k.toNatClampNeg i).setTop g) _ _ ⟨0, Nat.zero_le _, rfl, ?_⟩ ?_ ?_
  · rw [arrV_new]
    rfl
  · rintro x rs s' d' acts' Q' ⟨i, hi, hrl, rfl⟩ hnext
    have hlt : i < n.toNatClampNeg := by
      rcases Nat.lt_or_ge i n.toNatClampNeg with h | h
      · exact h
      · rw [show n.toNatClampNeg - i = 0 by omega] at hrl
        cases hrl
    rw [show n.toNatClampNeg - i = (n.toNatClampNeg - (i + 1)) + 1 by omega, List.range'_succ] at hrl
    obtain ⟨rfl, hrest⟩ := List.cons.inj hrl
    obtain ⟨z1, z2, z3, z4, z5, z6, -⟩ := IA x (Nat.le_of_lt hlt)
    have hmul : x * k.toNatClampNeg + k.toNatClampNeg ≤ n.toNatClampNeg * k.toNatClampNeg := by
      have := Nat.mul_le_mul_right k.toNatClampNeg (show x + 1 ≤ n.toNatClampNeg from hlt)
      rw [Nat.succ_mul] at this
      exact this
    simp only [wp_bind']
    refine q9_row (kc := kI₁) (co := co) (by show (q9_f S cA cI' n.toNatClampNeg k.toNatClampNeg x).vm.classes[cI']? = _; rw [z1]; exact hkI₁) hkindI₁ hk (hl1 _ hbk) (hh1 _ hbk) (by rw [State.heap_setTop, z2]; omega) (by show (q9_f S cA cI' n.toNatClampNeg k.toNatClampNeg x).slotsUsed + _ ≤ _; rw [z6]; omega) ?_
    simp only [wp_bind', W.writeLoc, wp_pure']
    have hcell : (((q9_f S cA cI' n.toNatClampNeg k.toNatClampNeg x).setTop g).pushCell (arrV cI' k.toNatClampNeg (fun _ => .int 0))).heap[(S.setTop g).heap.size]? = some (arrV cA n.toNatClampNeg (fun j => if j < x then .ref (T.heap.size + 1 + j) else .null)) := by
      rw [State.heap_pushCell_of_lt (h := show (S.setTop g).heap.size < ((q9_f S cA cI' n.toNatClampNeg k.toNatClampNeg x).setTop g).heap.size by rw [hsz, State.heap_setTop, z2]; omega), hsz]
      exact z3
    refine ⟨arrV cA n.toNatClampNeg (fun j => if j < x then .ref (T.heap.size + 1 + j) else .null), hcell, by simp [arrV], by rw [arrV_size]; exact hlt, ?_, hnext _ _ _ ⟨x + 1, hlt, hrest, ?_⟩⟩
    · have hv : (q9_f S cA cI' n.toNatClampNeg k.toNatClampNeg x).vm.classes[cA]? = some kA₁ := by rw [z1]; exact hkA₁
      simp [State.fitsSlot, State.slotType?, hv, hkindA₁, arrV, fits]
    · rw [hsz, q9_f, hSh]
      rfl
  · rintro s' d' acts' ⟨i, hi, hrl, rfl⟩
    have hin : i = n.toNatClampNeg := by
      rcases Nat.lt_or_ge i n.toNatClampNeg with h | h
      · rw [show n.toNatClampNeg - i = (n.toNatClampNeg - (i + 1)) + 1 by omega, List.range'_succ] at hrl
        cases hrl
      · omega
    subst hin
    simp only [wp_bind', wp_pure', W.mark, W.pushRef, State.topJava?_setTop' _ XF.here.top, Option.some.injEq, exists_eq_left', State.setTop_setTop, State.heap_setTop]
    intro acts
    simp [jvm, XF.here.top]
    rw [← hg, hSh]
    exact a
end Q9
