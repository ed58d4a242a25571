/-! BITS OVER ALL TWO -/
theorem qs_enor {p q : Nat → Bool} {n : Nat} : qs_en p n ||| qs_en q n = qs_en (fun k => p k || q k) n := by
  apply Nat.eq_of_testBit_eq
  intro i
  rw [Nat.testBit_or, qs_ent, qs_ent, qs_ent]
  cases decide (i < n) <;> rfl
theorem qw_nt (a : Nat) : (nI a).toBitVec = BitVec.ofNat 32 a := rfl
/-- all but those -/
theorem qs_ennot {p : Nat → Bool} {n : Nat} (hn : n ≤ 31) : nI (2 ^ n - 1) &&& (nI (qs_en p n) ^^^ (-1 : Int32)) = nI (qs_en (fun k => !p k) n) := by
  apply Int32.toBitVec_inj.mp
  rw [← qs_en1 n, Int32.toBitVec_and, Int32.toBitVec_xor, qw_nt, qw_nt, qw_nt, show (-1 : Int32).toBitVec = BitVec.allOnes 32 by decide]
  apply BitVec.eq_of_getLsbD_eq
  intro i hi
  rw [BitVec.getLsbD_and, BitVec.getLsbD_xor, BitVec.getLsbD_ofNat, BitVec.getLsbD_ofNat, BitVec.getLsbD_ofNat, BitVec.getLsbD_allOnes, qs_ent, qs_ent, qs_ent, decide_eq_true hi]
  cases decide (i < n) <;> cases p i <;> rfl
theorem qs_bs : ∀ k, k < 31 → nI (2 ^ k) <<< ((1 : Int32) &&& 31) = nI (2 ^ (k + 1)) := by decide +kernel
theorem qw_fs {A : Type} {F : Nat → A → A} {n : Nat} {a : A} : qw_f F (n + 1) a = F n (qw_f F n a) := rfl
/-- bits gathered with a bit that moves on -/
theorem qs_mv {p : Nat → Bool} : ∀ m, m ≤ 31 → qw_f (fun k (a : Int32 × Int32) => (if p k then a.1 ||| a.2 else a.1, a.2 <<< ((1 : Int32) &&& 31))) m (0, 1) = (nI (qs_en p m), nI (2 ^ m)) := by
  intro m
  induction m with
  | zero => intro _; rfl
  | succ m ih =>
    intro hm
    rw [qw_fs, ih (by omega)]
    show ((if p m then nI (qs_en p m) ||| nI (2 ^ m) else nI (qs_en p m), nI (2 ^ m) <<< ((1 : Int32) &&& 31)) : Int32 × Int32) = (nI (if p m then qs_en p m + 2 ^ m else qs_en p m), nI (2 ^ (m + 1)))
    rw [qs_bs m (by omega)]
    have e := qs_eno (p := p) (k := m) (by omega)
    rw [qw_sh m (by omega)] at e
    cases p m
    · rfl
    · rw [if_pos rfl, if_pos rfl, e]
/-- some of them -/
def qs_any (f : Nat → Bool) (t : Nat) : Bool := qw_f (fun i a => a || f i) t false
def qs_n2 (n : Nat) : Nat := n * (n - 1) / 2
theorem qs_n2l : ∀ n, n ≤ 7 → qs_n2 n ≤ 21 := by
  have : ∀ n, n < 8 → qs_n2 n ≤ 21 := by decide
  exact fun n hn => this n (by omega)
section QG
variable {n t : Nat} {x s : Nat → Nat} {T : Nat → Nat → Nat} {o b : Nat → Nat} {σ τ : qa_S} {N : Nat}
/-- whether a taster tells the k-th two apart -/
def qs_P (n : Nat) (T : Nat → Nat → Nat) (o b : Nat → Nat) (i k : Nat) : Bool := qs_ap (o i) (b i) (T (qs_pi n k).1) (T (qs_pi n k).2)
theorem qs_58 (hN : 10 ≤ N) (hB : qv_B n t s T o b) (hC : qv_C n t s T o b σ) : (∀ i, i < t → ma_58_3 N σ 97 i = nI (qs_en (qs_P n T o b i) (qs_n2 n))) ∧ qb_F (fun a _ => a = 97) σ (ma_58_3 N σ) := by
  have n7 := hB.1
  have t6 := hB.2.1
  unfold ma_58_3
  dsimp only [qa_in]
  refine qb_l0 (fun (k : Nat) (q : Int32 × qa_S) => q.1 = nI k ∧ (∀ i, i < k → q.2 97 i = nI (qs_en (qs_P n T o b i) (qs_n2 n))) ∧ qb_F (fun a _ => a = 97) σ q.2) (fun (q : Int32 × qa_S) => (∀ i, i < t → q.2 97 i = nI (qs_en (qs_P n T o b i) (qs_n2 n))) ∧ qb_F (fun a _ => a = 97) σ q.2) t (by omega) ⟨rfl, fun m hm => by omega, qb_Fr⟩ ?_ ?_
  · rintro k ⟨q1, q2⟩ hk ⟨g1, g2, g3⟩
    dsimp only at g1 g2 g3
    subst g1
    have C2 := qv_CF g3 (fun a j h c => by omega) hC n7
    have L : qa_wh (fun s => s) (mc_58_3_p20 N (nI k) q2) N ((0 : Int32), (0 : Int32), (1 : Int32)) = (nI n, nI (qs_en (qs_P n T o b k) (qs_n2 n)), nI (2 ^ qs_n2 n)) := by
      have h := qw_pr (e1 := fun s => s) (so := mc_58_3_p20 N (nI k) q2) (enc := fun (a : Int32 × Int32) => a) (si := fun i => mc_58_3_p38 N (nI k) (nI i) q2) (e2 := fun s => s) (fun i j (a : Int32 × Int32) => (if qs_ap (o k) (b k) (T i) (T j) then a.1 ||| a.2 else a.1, a.2 <<< ((1 : Int32) &&& 31))) n (N := N) n7 (by omega) (fun i x hi => ?_) (fun x => ?_) (fun i j a hij hj => ?_) (fun i x => ?_) (0, 1)
      · refine Eq.trans h ?_
        rw [qs_pfk _ _ n n7]
        exact congrArg (fun z => (nI n, z)) (qs_mv (p := qs_P n T o b k) (qs_n2 n) (by have := qs_n2l n n7; omega))
      · unfold mc_58_3_p20
        dsimp only [qa_in]
        rw [if_pos (qw_ltT C2.1 hi (by omega)), qb_s]
      · unfold mc_58_3_p20
        dsimp only
        rw [if_neg (qw_ltF C2.1 (by omega))]
      · unfold mc_58_3_p38
        dsimp only [qa_in]
        rw [if_pos (qw_ltT C2.1 hj (by omega)), qb_n (k := i) (by omega), qb_n (k := j) (by omega), qs_53 (x := T i) (y := T j) (by omega) hB C2 (by omega) (fun m hm => ⟨C2.2.2.2.1 i m (by omega) hm, by have := hB.2.2.2.1 i m (by omega) hm; omega⟩) (fun m hm => ⟨C2.2.2.2.1 j m hj hm, by have := hB.2.2.2.1 j m hj hm; omega⟩), qb_s]
        cases qs_ap (o k) (b k) (T i) (T j) <;> rfl
      · unfold mc_58_3_p38
        dsimp only
        rw [if_neg (qw_ltF C2.1 (by omega))]
    unfold mc_58_3_p2
    dsimp only
    rw [if_pos (qw_ltT C2.2.1 hk (by omega)), L]
    unfold qa_in
    dsimp only
    refine ⟨_, rfl, qb_s, fun m hm => ?_, fun a i ha => ?_⟩
    · dsimp only
      rw [qb_n (k := k) (by omega), qb_uJ]
      by_cases c : m = k
      · rw [if_pos c, c]
      · rw [if_neg c]; exact g2 m (by omega)
    · dsimp only
      rw [qb_uA (by omega)]
      exact g3 a i ha
  · rintro ⟨q1, q2⟩ ⟨g1, g2, g3⟩
    dsimp only at g1 g2 g3
    subst g1
    have C2 := qv_CF g3 (fun a j h c => by omega) hC n7
    unfold mc_58_3_p2
    dsimp only
    rw [if_neg (qw_ltF C2.2.1 (by omega))]
    exact ⟨_, rfl, g2, g3⟩
/-- those of some tasters (bits) -/
def qs_Pw (n t : Nat) (T : Nat → Nat → Nat) (o b : Nat → Nat) (w k : Nat) : Bool := qs_any (fun i => w.testBit i && qs_P n T o b i k) t
theorem qs_61 {w : Nat} (hN : 10 ≤ N) (hB : qv_B n t s T o b) (h1 : σ 4 1 = nI t) (h : ∀ i, i < t → σ 97 i = nI (qs_en (qs_P n T o b i) (qs_n2 n))) (hw : w < 128) : ma_61_3 N (nI w) σ = nI (qs_en (qs_Pw n t T o b w) (qs_n2 n)) := by
  have t6 := hB.2.1
  unfold ma_61_3
  dsimp only [qa_in]
  have e : ∀ k, nI (qs_en (fun j => qs_any (fun i => w.testBit i && qs_P n T o b i j) k) (qs_n2 n)) = qw_f (fun i (a : Int32) => if w.testBit i then a ||| nI (qs_en (qs_P n T o b i) (qs_n2 n)) else a) k 0 := by
    intro k
    induction k with
    | zero =>
      have z : ∀ m, qs_en (fun _ => false) m = 0 := by
        intro m
        induction m with
        | zero => rfl
        | succ m ih => exact ih
      exact congrArg nI (z _)
    | succ k ih =>
      show nI (qs_en (fun j => qs_any (fun i => w.testBit i && qs_P n T o b i j) k || (w.testBit k && qs_P n T o b k j)) (qs_n2 n)) = (if w.testBit k then qw_f _ k 0 ||| nI (qs_en (qs_P n T o b k) (qs_n2 n)) else qw_f _ k 0)
      rw [← ih]
      cases hk : w.testBit k
      · rw [if_neg Bool.false_ne_true]
        exact congrArg nI (qs_enx (fun j _ => by rw [Bool.false_and, Bool.or_false]))
      · rw [if_pos rfl, qw_or, qs_enor]
        exact congrArg nI (qs_enx (fun j _ => by rw [Bool.true_and]))
  refine Eq.trans ?_ (e t).symm
  refine congrArg Prod.snd (qw_lp (e := fun s => s) (fun k (a : Int32) => (nI k, a)) (fun a => (nI t, a)) (fun i (a : Int32) => if w.testBit i then a ||| nI (qs_en (qs_P n T o b i) (qs_n2 n)) else a) t 0 (by omega) (fun i a hi => ?_) (fun a => ?_))
  · unfold mc_61_3_p4
    dsimp only
    rw [if_pos (qw_ltT h1 hi (by omega)), qb_n (k := i) (by omega), h i hi, qs_48 w hw i (by omega), qb_s]
    cases w.testBit i <;> rfl
  · unfold mc_61_3_p4
    dsimp only
    rw [if_neg (qw_ltF h1 (by omega))]
end QG
