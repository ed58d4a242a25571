/-! kinds: how many unlike tellings: a hash table against a list -/
/-- which is met first -/
def qu_nw (f : Nat → Nat) (k : Nat) : Bool := qs_all (fun j => !(f j == f k)) k
theorem qu_nwT {f : Nat → Nat} {k : Nat} : qu_nw f k = true ↔ ∀ j, j < k → f j ≠ f k := by
  unfold qu_nw
  rw [qs_allT]
  exact ⟨fun h j hj e => (by have := h j hj; rw [e, beq_self_eq_true] at this; cases this), fun h j hj => by rw [beq_eq_false_iff_ne.mpr (h j hj)]; rfl⟩
theorem qu_1st {p : Nat → Prop} : ∀ n, (∃ d, d < n ∧ p d ∧ ∀ e, e < d → ¬ p e) ∨ ∀ d, d < n → ¬ p d := by
  intro n
  induction n with
  | zero => exact Or.inr (fun d hd => by omega)
  | succ n ih =>
    rcases ih with ⟨d, d1, d2, d3⟩ | h
    · exact Or.inl ⟨d, by omega, d2, d3⟩
    · by_cases c : p n
      · exact Or.inl ⟨n, by omega, c, h⟩
      · exact Or.inr (fun d hd => by
          by_cases e : d = n
          · subst e; exact c
          · exact h d (by omega))
theorem qu_one {p q : Nat → Bool} {z : Nat} (hz : p z = false) (hq : q z = true) : ∀ n, (∀ i, i < n → i ≠ z → q i = p i) → qs_ct q n = qs_ct p n + (if z < n then 1 else 0) := by
  intro n
  induction n with
  | zero => intro _; rfl
  | succ n ih =>
    intro h
    show (if q n then qs_ct q n + 1 else qs_ct q n) = (if p n then qs_ct p n + 1 else qs_ct p n) + _
    rw [ih (fun i hi => h i (by omega))]
    by_cases e : n = z
    · subst e
      rw [hz, hq, if_pos rfl, if_neg Bool.false_ne_true, if_neg (Nat.lt_irrefl n), if_pos (Nat.lt_succ_self n)]
    · rw [h n (by omega) e]
      by_cases l : z < n
      · rw [if_pos l, if_pos (show z < n + 1 by omega)]
        split <;> omega
      · rw [if_neg l, if_neg (show ¬ z < n + 1 by omega)]
        rfl
theorem qu_full {p : Nat → Bool} : ∀ n, (∀ i, i < n → p i = true) → qs_ct p n = n := by
  intro n
  induction n with
  | zero => intro _; rfl
  | succ n ih =>
    intro h
    show (if p n then qs_ct p n + 1 else qs_ct p n) = n + 1
    rw [ih (fun i hi => h i (by omega)), h n (by omega), if_pos rfl]
/-- the slot where a search begins -/
def qu_sl (x : Int32) : Int32 := (((x * (-1640531535 : Int32))).toUInt32 >>> (((20 : Int32)).toUInt32 &&& Int32.toUInt32 31)).toInt32
theorem qu_slN (x : Int32) : ∃ h, h < 4096 ∧ qu_sl x = nI h := by
  have e := q53_ushr (x * (-1640531535 : Int32)) (k := 20) (by omega) (by omega) (a := 2147483647) (by have := q53_r32 (x * (-1640531535 : Int32)); omega)
  have e1 : 0 ≤ (qu_sl x).toInt := e.1
  have e2 : (qu_sl x).toInt ≤ 4294967295 / ((2 ^ 20 : Nat) : Int) := e.2.1
  have e3 : (4294967295 : Int) / ((2 ^ 20 : Nat) : Int) = 4095 := by decide
  exact ⟨(qu_sl x).toInt.toNat, by omega, q53_nI e1⟩
def qu_h (x : Int32) : Nat := (qu_sl x).toInt.toNat
theorem qu_hs (x : Int32) : qu_h x < 4096 ∧ qu_sl x = nI (qu_h x) := by
  obtain ⟨h, h1, h2⟩ := qu_slN x
  have e : qu_h x = h := by
    unfold qu_h
    rw [h2, nI_toInt (by omega)]
    rfl
  rw [e]
  exact ⟨h1, h2⟩
theorem qu_ix {h d : Nat} (hh : h < 4096) (hd : d < 4096) : (nI h + nI d) &&& (4095 : Int32) = nI ((h + d) % 4096) := by
  rw [qw_add, show (4095 : Int32) = nI (2 ^ 12 - 1) from rfl, qw_an, Nat.and_two_pow_sub_one_eq_mod]
section QU
variable {n t : Nat} {x s : Nat → Nat} {T : Nat → Nat → Nat} {o b : Nat → Nat} {σ τ : qa_S} {N : Nat}
/-- what a taster tells of a mark of a glass -/
def qu_t (n : Nat) (T : Nat → Nat → Nat) (oi bi g m : Nat) : Nat := if oi.testBit m then qs_tl bi (qs_X n T g m) else 0
theorem qu_tl {oi bi g m : Nat} (hB : qv_B n t s T o b) (hm : m < 4) : qu_t n T oi bi g m ≤ 99 := by
  have x9 := qs_Xl (g := g) hB hm
  have := qs_tlle (b := bi) (x := qs_X n T g m)
  unfold qu_t
  split <;> omega
/-- all tellings as one number: the class's, the reference's -/
def qu_V (n : Nat) (T : Nat → Nat → Nat) (oi bi k : Nat) : Nat := qw_f (fun m a => 128 * a + qu_t n T oi bi (1 + k) m) 4 1
def qu_U (n : Nat) (T : Nat → Nat → Nat) (oi bi k : Nat) : Nat := qw_f (fun m a => 100 * a + qu_t n T oi bi (1 + k) m) 4 0
theorem qu_VU {oi bi j k : Nat} (hB : qv_B n t s T o b) : qu_V n T oi bi j = qu_V n T oi bi k ↔ qu_U n T oi bi j = qu_U n T oi bi k := by
  have a0 := qu_tl (oi := oi) (bi := bi) (g := 1 + j) hB (m := 0) (by omega)
  have a1 := qu_tl (oi := oi) (bi := bi) (g := 1 + j) hB (m := 1) (by omega)
  have a2 := qu_tl (oi := oi) (bi := bi) (g := 1 + j) hB (m := 2) (by omega)
  have a3 := qu_tl (oi := oi) (bi := bi) (g := 1 + j) hB (m := 3) (by omega)
  have b0 := qu_tl (oi := oi) (bi := bi) (g := 1 + k) hB (m := 0) (by omega)
  have b1 := qu_tl (oi := oi) (bi := bi) (g := 1 + k) hB (m := 1) (by omega)
  have b2 := qu_tl (oi := oi) (bi := bi) (g := 1 + k) hB (m := 2) (by omega)
  have b3 := qu_tl (oi := oi) (bi := bi) (g := 1 + k) hB (m := 3) (by omega)
  unfold qu_V qu_U qw_f qw_f qw_f qw_f qw_f
  generalize qu_t n T oi bi (1 + j) 0 = p0 at *
  generalize qu_t n T oi bi (1 + j) 1 = p1 at *
  generalize qu_t n T oi bi (1 + j) 2 = p2 at *
  generalize qu_t n T oi bi (1 + j) 3 = p3 at *
  generalize qu_t n T oi bi (1 + k) 0 = q0 at *
  generalize qu_t n T oi bi (1 + k) 1 = q1 at *
  generalize qu_t n T oi bi (1 + k) 2 = q2 at *
  generalize qu_t n T oi bi (1 + k) 3 = q3 at *
  constructor
  · intro h
    have e3 : p3 = q3 := by omega
    have e2 : p2 = q2 := by omega
    have e1 : p1 = q1 := by omega
    have e0 : p0 = q0 := by omega
    rw [e0, e1, e2, e3]
  · intro h
    have e3 : p3 = q3 := by omega
    have e2 : p2 = q2 := by omega
    have e1 : p1 = q1 := by omega
    have e0 : p0 = q0 := by omega
    rw [e0, e1, e2, e3]
theorem qu_Vl {oi bi k : Nat} (hB : qv_B n t s T o b) : 1 ≤ qu_V n T oi bi k ∧ qu_V n T oi bi k < 536870912 := by
  have a0 := qu_tl (oi := oi) (bi := bi) (g := 1 + k) hB (m := 0) (by omega)
  have a1 := qu_tl (oi := oi) (bi := bi) (g := 1 + k) hB (m := 1) (by omega)
  have a2 := qu_tl (oi := oi) (bi := bi) (g := 1 + k) hB (m := 2) (by omega)
  have a3 := qu_tl (oi := oi) (bi := bi) (g := 1 + k) hB (m := 3) (by omega)
  unfold qu_V qw_f qw_f qw_f qw_f qw_f
  omega
theorem qu_Ul {oi bi k : Nat} (hB : qv_B n t s T o b) : qu_U n T oi bi k < 100000000 := by
  have a0 := qu_tl (oi := oi) (bi := bi) (g := 1 + k) hB (m := 0) (by omega)
  have a1 := qu_tl (oi := oi) (bi := bi) (g := 1 + k) hB (m := 1) (by omega)
  have a2 := qu_tl (oi := oi) (bi := bi) (g := 1 + k) hB (m := 2) (by omega)
  have a3 := qu_tl (oi := oi) (bi := bi) (g := 1 + k) hB (m := 3) (by omega)
  unfold qu_U qw_f qw_f qw_f qw_f qw_f
  omega
theorem qu_nwe {oi bi k : Nat} (hB : qv_B n t s T o b) : qu_nw (qu_V n T oi bi) k = qu_nw (qu_U n T oi bi) k := by
  apply Bool.eq_iff_iff.mpr
  rw [qu_nwT, qu_nwT]
  exact ⟨fun h j hj e => h j hj ((qu_VU hB).mpr e), fun h j hj e => h j hj ((qu_VU hB).mp e)⟩
theorem qu_sh : ∀ v, v < 4194304 → nI v <<< ((7 : Int32) &&& 31) = nI (128 * v) := by
  intro v hv
  have e : (7 : Int32) &&& 31 = 7 := by decide
  rw [e]
  apply Int32.toBitVec_inj.mp
  rw [Int32.toBitVec_shiftLeft]
  have e2 : ((7 : Int32).toBitVec.smod 32) = 7#32 := by decide
  rw [e2]
  apply BitVec.eq_of_toNat_eq
  show ((BitVec.ofNat 32 v) <<< (7#32)).toNat = (BitVec.ofNat 32 (128 * v)).toNat
  rw [BitVec.shiftLeft_eq', BitVec.toNat_shiftLeft, BitVec.toNat_ofNat, BitVec.toNat_ofNat, BitVec.toNat_ofNat, Nat.shiftLeft_eq, show 7 % 2 ^ 32 = 7 by decide]
  omega
theorem qu_or {v a : Nat} (ha : a < 128) : nI (128 * v) ||| nI a = nI (128 * v + a) := by
  rw [qw_or]
  have h := Nat.two_pow_add_eq_or_of_lt (i := 7) ha v
  rw [show 128 * v = 2 ^ 7 * v from rfl, ← h]
/-- the class: all that a taster tells of a glass -/
theorem qu_126 {i k : Nat} (hN : 10 ≤ N) (hB : qv_B n t s T o b) (hC : qv_C n t s T o b σ) (hV : qs_V n T σ) (z : σ 3 18 = 0) (hi : i < t) (hk : 1 + k < 3 ^ n) : ma_126_3 N (nI i) (nI (1 + k)) σ = (nI (qu_V n T (o i) (b i) k), σ) := by
  have n7 := hB.1
  have t6 := hB.2.1
  have l3 := qk_3n n7
  obtain ⟨o15, b9⟩ := hB.2.2.2.2 i (by omega)
  have L := qw_lj (e := fun s => s) (step := mc_126_3_p5 N (nI i) (nI (1 + k))) (N := N) (fun m a => a + 1 ≤ 2 * 128 ^ m) (fun m (a : Nat) => (nI m, nI a, σ)) (fun a => (nI 4, nI a, σ)) (fun m a => 128 * a + qu_t n T (o i) (b i) (1 + k) m) 4 1 (by omega) (by omega) (fun m a hm ha => ?_) (fun a ha => ?_)
  · have L1 : qa_wh (fun s => s) (mc_126_3_p5 N (nI i) (nI (1 + k))) N ((0 : Int32), (1 : Int32), σ) = _ := L.1
    unfold ma_126_3
    dsimp only [qa_in]
    rw [L1]
    rfl
  · have tm := qu_tl (oi := o i) (bi := b i) (g := 1 + k) hB hm
    have x9 := qs_Xl (g := 1 + k) hB hm
    have pm : 128 ^ m ≤ 128 ^ 3 := Nat.pow_le_pow_right (by omega) (by omega)
    have e128 : 128 ^ (m + 1) = 128 * 128 ^ m := by rw [Nat.pow_succ, Nat.mul_comm]
    have e3 : (128 : Nat) ^ 3 = 2097152 := by decide
    have d1 : (ma_48 (σ 24 i) (nI m) = 0) ↔ (o i).testBit m = false := by
      rw [(hC.2.2.2.2 i (by omega)).1, qs_48 (o i) (by omega) m (by omega)]
      exact qs_bz
    refine ⟨?_, ?_⟩
    · unfold mc_126_3_p5
      dsimp only [qa_in]
      rw [if_pos (show nI m < (4 : Int32) from qb_ltT (b := 4) hm (by omega)), qk_72i z, qb_n (k := i) (by omega), qb_n (k := m) (by omega), qb_n (k := 1 + k) (by omega), qu_sh a (by omega), qb_s]
      have e : (if ma_48 (σ 24 i) (nI m) = 0 then (0 : Int32) else ma_50 (σ (75 + m) (1 + k)) (σ 25 i)) = nI (qu_t n T (o i) (b i) (1 + k) m) := by
        unfold qu_t
        by_cases c : (o i).testBit m = true
        · rw [if_neg (fun h => by rw [d1.mp h] at c; cases c), if_pos c, (hV.2.2 (1 + k) (by omega) hk).2 m hm, (hC.2.2.2.2 i (by omega)).2, qs_50 (by omega) b9]
        · rw [if_pos (d1.mpr (Bool.eq_false_iff.mpr c)), if_neg c]; rfl
      rw [e, qu_or (by omega)]
    · skip
      omega
  · unfold mc_126_3_p5
    dsimp only [qa_in]
    rw [if_neg (show ¬ nI 4 < (4 : Int32) by decide)]
/-- what the table holds after some glasses -/
def qu_T (f : Nat → Nat) (k : Nat) (μ : qa_S) : Prop := (∀ i, i < 4096 → μ 98 i = 0 ∨ ∃ j, j < k ∧ μ 98 i = nI (f j)) ∧ (∀ j, j < k → ∃ d, d < 4096 ∧ μ 98 ((qu_h (nI (f j)) + d) % 4096) = nI (f j) ∧ ∀ e, e < d → μ 98 ((qu_h (nI (f j)) + e) % 4096) ≠ 0) ∧ qs_ct (fun i => !(decide (μ 98 i = 0))) 4096 = qs_ct (qu_nw f) k
theorem qu_TF {w : Nat → Nat → Prop} {f : Nat → Nat} {k : Nat} (h : qb_F w σ τ) (hw : ∀ j, ¬ w 98 j) (hT : qu_T f k σ) : qu_T f k τ := by
  have e : ∀ j, τ 98 j = σ 98 j := fun j => h 98 j (hw j)
  unfold qu_T
  simp only [e]
  exact hT
/-- the class asks the table -/
theorem qu_127 {f : Nat → Nat} {k : Nat} (hN : 5000 ≤ N) (hf : ∀ j, 1 ≤ f j ∧ f j < 536870912) (hk : k < 4000) (hT : qu_T f k σ) : (ma_127_3 N (nI (f k)) σ).1 = (if qu_nw f k then 1 else 0) ∧ qu_T f (k + 1) (ma_127_3 N (nI (f k)) σ).2 ∧ qb_F (fun a _ => a = 98) σ (ma_127_3 N (nI (f k)) σ).2 := by
  obtain ⟨T1, T2, T3⟩ := hT
  obtain ⟨hh, hs⟩ := qu_hs (nI (f k))
  have f0 : ∀ j, nI (f j) ≠ 0 := fun j c => by have := hf j; have := (qw_z (by omega)).mp c; omega
  have fi : ∀ i j, nI (f i) = nI (f j) ↔ f i = f j := fun i j => qb_eq (by have := hf i; omega) (by have := hf j; omega)
  have nl : qs_ct (qu_nw f) k ≤ k := qs_ctl
  -- the place where the search ends
  have fst : ∃ d, d < 4096 ∧ (σ 98 ((qu_h (nI (f k)) + d) % 4096) = nI (f k) ∨ σ 98 ((qu_h (nI (f k)) + d) % 4096) = 0) ∧ ∀ e, e < d → ¬ (σ 98 ((qu_h (nI (f k)) + e) % 4096) = nI (f k) ∨ σ 98 ((qu_h (nI (f k)) + e) % 4096) = 0) := by
    rcases qu_1st (p := fun d => σ 98 ((qu_h (nI (f k)) + d) % 4096) = nI (f k) ∨ σ 98 ((qu_h (nI (f k)) + d) % 4096) = 0) 4096 with h | h
    · exact h
    · exfalso
      have all : ∀ i, i < 4096 → (fun i => !(decide (σ 98 i = 0))) i = true := fun i hi => by
        have e : (qu_h (nI (f k)) + ((i + 4096 - qu_h (nI (f k))) % 4096)) % 4096 = i := by omega
        have := h ((i + 4096 - qu_h (nI (f k))) % 4096) (Nat.mod_lt _ (by omega))
        rw [e] at this
        dsimp only
        rw [decide_eq_false (fun c => this (Or.inr c))]
        rfl
      have := qu_full 4096 all
      omega
  obtain ⟨d, d1, d2, d3⟩ := fst
  have L : ma_127_3 N (nI (f k)) σ = if σ 98 ((qu_h (nI (f k)) + d) % 4096) = nI (f k) then (0, σ) else (1, qa_u σ 98 ((qu_h (nI (f k)) + d) % 4096) (nI (f k))) := by
    have ml : (qu_h (nI (f k)) + d) % 4096 < 4096 := Nat.mod_lt _ (by omega)
    have es : ((nI (f k) * (-1640531535 : Int32)).toUInt32 >>> ((20 : Int32).toUInt32 &&& Int32.toUInt32 31)).toInt32 = nI (qu_h (nI (f k))) := hs
    unfold ma_127_3
    dsimp only [qa_in]
    rw [es]
    refine qb_l0 (fun (e : Nat) (q : Int32 × qa_S) => q = (nI e, σ)) (fun (r : (Int32 × qa_S) ⊕ (Int32 × qa_S)) => qa_cs r (fun b2 => (b2.1, b2.2)) (fun b2 => ((0 : Int32), b2.2)) = if σ 98 ((qu_h (nI (f k)) + d) % 4096) = nI (f k) then (0, σ) else (1, qa_u σ 98 ((qu_h (nI (f k)) + d) % 4096) (nI (f k)))) d (by omega) rfl (fun e q he hq => ?_) (fun q hq => ?_)
    · subst hq
      have := d3 e he
      unfold mc_127_3_p11
      dsimp only [qa_in]
      rw [if_pos (show nI e < (4096 : Int32) from qb_ltT (b := 4096) (by omega) (by omega)), qu_ix hh (by omega), qb_n (Nat.lt_trans (Nat.mod_lt _ (by omega)) (by omega : 4096 < 2147483648)), if_neg (fun c => this (Or.inl c)), if_neg (fun c => this (Or.inr c)), qb_s]
      exact ⟨_, rfl, rfl⟩
    · subst hq
      unfold mc_127_3_p11
      dsimp only [qa_in]
      rw [if_pos (show nI d < (4096 : Int32) from qb_ltT (b := 4096) (by omega) (by omega)), qu_ix hh d1, qb_n (by omega)]
      by_cases c : σ 98 ((qu_h (nI (f k)) + d) % 4096) = nI (f k)
      · rw [if_pos c, if_pos c]
        exact ⟨_, rfl, rfl⟩
      · have c2 : σ 98 ((qu_h (nI (f k)) + d) % 4096) = 0 := d2.resolve_left c
        rw [if_neg c, if_pos c2, if_neg c]
        exact ⟨_, rfl, rfl⟩
  rw [L]
  have ml : (qu_h (nI (f k)) + d) % 4096 < 4096 := Nat.mod_lt _ (by omega)
  by_cases c : σ 98 ((qu_h (nI (f k)) + d) % 4096) = nI (f k)
  · rw [if_pos c]
    -- it was there
    have ex : ∃ j, j < k ∧ f j = f k := by
      rcases T1 _ ml with h | ⟨j, j1, j2⟩
      · rw [c] at h; exact absurd h (f0 k)
      · exact ⟨j, j1, (fi j k).mp (j2.symm.trans c)⟩
    have nn : qu_nw f k = false := Bool.eq_false_iff.mpr (fun h => by
      obtain ⟨j, j1, j2⟩ := ex
      exact qu_nwT.mp h j j1 j2)
    rw [nn]
    refine ⟨rfl, ⟨fun i hi => ?_, fun j hj => ?_, ?_⟩, qb_Fr⟩
    · rcases T1 i hi with h | ⟨j, j1, j2⟩
      · exact Or.inl h
      · exact Or.inr ⟨j, by omega, j2⟩
    · by_cases e : j = k
      · subst e
        exact ⟨d, d1, c, fun e he z => d3 e he (Or.inr z)⟩
      · exact T2 j (by omega)
    · show _ = if qu_nw f k then qs_ct (qu_nw f) k + 1 else qs_ct (qu_nw f) k
      rw [nn, if_neg Bool.false_ne_true]
      exact T3
  · have c2 : σ 98 ((qu_h (nI (f k)) + d) % 4096) = 0 := d2.resolve_left c
    rw [if_neg c]
    obtain ⟨z, ez⟩ : ∃ z, z = (qu_h (nI (f k)) + d) % 4096 := ⟨_, rfl⟩
    rw [← ez] at c c2 ml ⊢
    -- it was not there
    have nn : qu_nw f k = true := qu_nwT.mpr (fun j hj e => by
      obtain ⟨dj, g1, g2, g3⟩ := T2 j hj
      rw [e] at g2 g3
      rcases Nat.lt_trichotomy dj d with l | l | l
      · exact d3 dj l (Or.inl g2)
      · subst l; rw [← ez] at g2; exact c g2
      · have := g3 d l
        rw [← ez] at this
        exact this c2)
    rw [nn]
    dsimp only
    have up : ∀ i, qa_u σ 98 z (nI (f k)) 98 i = if i = z then nI (f k) else σ 98 i := fun i => qb_uJ
    refine ⟨rfl, ⟨fun i hi => ?_, fun j hj => ?_, ?_⟩, fun a j ha => qb_uA ha⟩
    · rw [up]
      by_cases e : i = z
      · rw [if_pos e]; exact Or.inr ⟨k, by omega, rfl⟩
      · rw [if_neg e]
        rcases T1 i hi with h | ⟨j, j1, j2⟩
        · exact Or.inl h
        · exact Or.inr ⟨j, by omega, j2⟩
    · by_cases e : j = k
      · subst e
        refine ⟨d, d1, ?_, fun e he => ?_⟩
        · rw [← ez, up, if_pos rfl]
        · rw [up]
          split
          · exact f0 j
          · exact fun y => d3 e he (Or.inr y)
      · obtain ⟨dj, g1, g2, g3⟩ := T2 j (by omega)
        refine ⟨dj, g1, ?_, fun e he => ?_⟩
        · rw [up]
          by_cases e2 : (qu_h (nI (f j)) + dj) % 4096 = z
          · exfalso
            rw [e2, c2] at g2
            exact f0 j g2.symm
          · rw [if_neg e2]; exact g2
        · rw [up]
          split
          · exact f0 k
          · exact g3 e he
    · show qs_ct (fun i => !(decide (qa_u σ 98 z (nI (f k)) 98 i = 0))) 4096 = if qu_nw f k then qs_ct (qu_nw f) k + 1 else qs_ct (qu_nw f) k
      rw [nn, if_pos rfl, ← T3]
      have h := qu_one (p := fun i => !(decide (σ 98 i = 0))) (q := fun i => !(decide (qa_u σ 98 z (nI (f k)) 98 i = 0))) (z := z) (by rw [decide_eq_true c2]; rfl) (by rw [up, if_pos rfl, decide_eq_false (f0 k)]; rfl) 4096 (fun i _ hi => by rw [up, if_neg hi])
      rw [h, if_pos ml]
theorem qu_68 {v : Int32} (hN : 5000 ≤ N) : (∀ i, i < 4096 → ma_68_98 N v σ 98 i = v) ∧ qb_F (fun a _ => a = 98) σ (ma_68_98 N v σ) := by
  unfold ma_68_98
  dsimp only [qa_in]
  refine qb_l0 (fun (k : Nat) (q : Int32 × qa_S) => q.1 = nI k ∧ (∀ m, m < k → q.2 98 m = v) ∧ qb_F (fun a _ => a = 98) σ q.2) (fun (q : Int32 × qa_S) => (∀ m, m < 4096 → q.2 98 m = v) ∧ qb_F (fun a _ => a = 98) σ q.2) 4096 (by omega) ⟨rfl, fun m hm => by omega, qb_Fr⟩ ?_ ?_
  · rintro k ⟨q1, q2⟩ hk ⟨g1, g2, g3⟩
    dsimp only at g1 g2 g3
    subst g1
    unfold mc_68_98_p5
    dsimp only [qa_in]
    rw [if_pos (show nI k < (4096 : Int32) from qb_ltT (b := 4096) hk (by omega)), qb_n (k := k) (by omega), qb_s]
    refine ⟨_, rfl, rfl, fun m hm => ?_, fun a i ha => ?_⟩
    · dsimp only
      rw [qb_uJ]
      by_cases e : m = k
      · rw [if_pos e]
      · rw [if_neg e]; exact g2 m (by omega)
    · dsimp only
      rw [qb_uA ha]; exact g3 a i ha
  · rintro ⟨q1, q2⟩ ⟨g1, g2, g3⟩
    dsimp only at g1 g2 g3
    subst g1
    unfold mc_68_98_p5
    dsimp only
    rw [if_neg (show ¬ nI 4096 < (4096 : Int32) by decide)]
    exact ⟨_, rfl, g2, g3⟩
theorem qc_125 {xx : Prop} (hN : 5000 ≤ N) (hI : qb_I xx True σ) (hk : qk_M σ) (x1 : Int32) : (ma_125_3 N x1 σ).1 = (ma_237_99 N x1 (ma_125_3 N x1 σ).2).1 := by
  obtain ⟨n, t, s, T, o, b, B, C, P⟩ := qv_get hI
  have F : qb_F qb_sm2 σ (ma_125_3 N x1 σ).2 := mf_125_3 qb_hw (qb_hm (by omega)) qb_Fr
  suffices h : ∃ v, (ma_125_3 N x1 σ).1 = v ∧ ∀ τ, qv_P n t s T o b (qa_u τ 99 9 0) → (ma_237_99 N x1 τ).1 = v by
    obtain ⟨v, h1, h2⟩ := h
    exact h1.trans (h2 _ (qv_P2 F P)).symm
  have n7 := B.1
  have t6 := B.2.1
  have l3 := qk_3n n7
  have p0 : 0 < 3 ^ n := Nat.pow_pos (by omega)
  unfold ma_125_3 ma_237_99
  dsimp only [qa_in]
  rcases qw_t t6 x1 with ⟨h1, h2⟩ | ⟨i, hi, rfl, h1, h2⟩
  · rw [if_pos (h1 σ C.2.1), qb_9_1]
    exact ⟨_, rfl, fun τ hP => by rw [if_pos (h2 _ hP.2.1)]; rfl⟩
  rw [if_neg (h1 σ C.2.1)]
  obtain ⟨o15, b9⟩ := B.2.2.2.2 i (by omega)
  obtain ⟨f, ef⟩ : ∃ f, f = qu_V n T (o i) (b i) := ⟨_, rfl⟩
  have fl : ∀ j, 1 ≤ f j ∧ f j < 536870912 := fun j => by rw [ef]; exact qu_Vl B
  -- the class
  obtain ⟨z1, F1⟩ := qu_68 (σ := σ) (N := N) (v := 0) hN
  obtain ⟨μ, eμ⟩ : ∃ μ, μ = ma_68_98 N 0 σ := ⟨_, rfl⟩
  rw [← eμ] at z1 F1 ⊢
  have M1 : qk_M μ := qk_MF F1 (fun a j r => by unfold qb_rQ at r; omega) hk
  have T0 : qu_T f 0 μ := ⟨fun i hi => Or.inl (z1 i hi), fun j hj => absurd hj (Nat.not_lt_zero j), by
    show _ = 0
    exact (qs_ct0 4096).mpr (fun i hi => by rw [decide_eq_true (z1 i hi)]; rfl)⟩
  have mix : ∀ m, qb_F (fun a j => qs_Zw a j ∨ a = 98) σ m ∧ qk_M m → qv_C n t s T o b (ma_72_3 N m) ∧ qs_V n T (ma_72_3 N m) ∧ ma_72_3 N m 3 18 = 0 ∧ qb_F (fun a j => qs_Zw a j ∨ a = 98) σ (ma_72_3 N m) ∧ qk_M (ma_72_3 N m) ∧ qb_F (fun a j => (a = 3 ∧ j = 18) ∨ a = 73 ∨ (75 ≤ a ∧ a ≤ 79)) m (ma_72_3 N m) := fun m hm => by
    obtain ⟨Q, z, F3⟩ := qk_72 (N := N) hN hm.2.1 hm.2.2
    have F4 : qb_F (fun a j => qs_Zw a j ∨ a = 98) σ (ma_72_3 N m) := qb_Ft hm.1 F3 (fun a j h => h) (fun a j h => Or.inl (by unfold qs_Zw; omega))
    have C4 := qv_CF F4 (fun a j h c => by unfold qs_Zw at c; omega) C n7
    exact ⟨C4, qs_V1 B C4 Q z, z, F4, qk_mm hN m hm.2, F3⟩
  have A : (qa_wh (fun s => s) (mc_125_3_p29 N (nI i)) N ((1 : Int32), (0 : Int32), μ)).2.1 = nI (qs_ct (qu_nw f) (3 ^ n - 1)) := by
    refine qb_l0 (fun (k : Nat) (q : Int32 × Int32 × qa_S) => q.1 = nI (1 + k) ∧ q.2.1 = nI (qs_ct (qu_nw f) k) ∧ qu_T f k q.2.2 ∧ qb_F (fun a j => qs_Zw a j ∨ a = 98) σ q.2.2 ∧ qk_M q.2.2) (fun (q : Int32 × Int32 × qa_S) => q.2.1 = nI (qs_ct (qu_nw f) (3 ^ n - 1))) (3 ^ n - 1) (by omega) ⟨rfl, rfl, T0, qb_Ft F1 qb_Fr (fun a j h => Or.inr h) (fun a j h => h), M1⟩ ?_ ?_
    · rintro k ⟨q1, q2, q3⟩ hk ⟨g1, g2, g3, g4, g5⟩
      dsimp only at g1 g2 g3 g4 g5
      subst g1 g2
      obtain ⟨C4, V4, z4, F4, M4, G4⟩ := mix q3 ⟨g4, g5⟩
      unfold mc_125_3_p29
      dsimp only [qa_in]
      obtain ⟨ν, eν⟩ : ∃ ν, ν = ma_72_3 N q3 := ⟨_, rfl⟩
      rw [← eν] at C4 V4 z4 F4 M4 G4 ⊢
      have T4 : qu_T f k ν := qu_TF G4 (fun j h => by omega) g3
      rw [if_pos (qw_ltT V4.2.1 (show 1 + k < 3 ^ n by omega) (by omega)), qu_126 (by omega) B C4 V4 z4 hi (by omega), ← ef]
      dsimp only
      obtain ⟨r1, r2, r3⟩ := qu_127 (N := N) (k := k) hN fl (by omega) T4
      rw [r1, qb_s]
      refine ⟨_, rfl, rfl, ?_, r2, qb_Ft F4 r3 (fun a j h => h) (fun a j h => Or.inr h), qk_MF r3 (fun a j r => by unfold qb_rQ at r; omega) M4⟩
      show (if (if qu_nw f k then (1 : Int32) else 0) = 0 then nI (qs_ct (qu_nw f) k) else nI (qs_ct (qu_nw f) k) + 1) = nI (if qu_nw f k then qs_ct (qu_nw f) k + 1 else qs_ct (qu_nw f) k)
      cases qu_nw f k
      · rfl
      · rw [if_neg (by decide), if_pos rfl, qb_s]
    · rintro ⟨q1, q2, q3⟩ ⟨g1, g2, g3, g4, g5⟩
      dsimp only at g1 g2 g3 g4 g5
      subst g1 g2
      obtain ⟨C4, V4, z4, F4, M4, G4⟩ := mix q3 ⟨g4, g5⟩
      unfold mc_125_3_p29
      dsimp only [qa_in]
      rw [if_neg (show ¬ nI (1 + (3 ^ n - 1)) < ma_72_3 N q3 73 1 by rw [V4.2.1]; exact qb_ltF (by omega) (by omega))]
      exact ⟨_, rfl, rfl⟩
  dsimp only
  rw [A]
  refine ⟨_, rfl, fun τ hP => ?_⟩
  rw [if_neg (h2 _ hP.2.1)]
  have R := (qv_181 (N := N) (by omega) n7 hP).1
  obtain ⟨ρ, eρ⟩ : ∃ ρ, ρ = ma_181_99 N (qa_u τ 99 9 0) := ⟨_, rfl⟩
  rw [← eρ] at R ⊢
  rw [qs_195 (by omega) n7 R.1]
  obtain ⟨u, eu⟩ : ∃ u, u = qu_U n T (o i) (b i) := ⟨_, rfl⟩
  have ul : ∀ j, u j < 100000000 := fun j => by rw [eu]; exact qu_Ul B
  have ui : ∀ i j, nI (u i) = nI (u j) ↔ u i = u j := fun i j => qb_eq (by have := ul i; omega) (by have := ul j; omega)
  have same : qs_ct (qu_nw f) (3 ^ n - 1) = qs_ct (qu_nw u) (3 ^ n - 1) := qs_ctx (fun k _ => by rw [ef, eu]; exact qu_nwe B)
  rw [same]
  refine qb_l0 (fun (k : Nat) (q : Int32 × Int32 × qa_S) => q.1 = nI (1 + k) ∧ q.2.1 = nI (qs_ct (qu_nw u) k) ∧ (∀ c, c < qs_ct (qu_nw u) k → ∃ j, j < k ∧ q.2.2 123 c = nI (u j)) ∧ (∀ j, j < k → ∃ c, c < qs_ct (qu_nw u) k ∧ q.2.2 123 c = nI (u j)) ∧ qb_F (fun a _ => a = 110 ∨ a = 111 ∨ a = 123) ρ q.2.2) (fun (q : Int32 × Int32 × qa_S) => q.2.1 = nI (qs_ct (qu_nw u) (3 ^ n - 1))) (3 ^ n - 1) (by omega) ⟨rfl, rfl, fun c hc => absurd hc (Nat.not_lt_zero c), fun j hj => absurd hj (Nat.not_lt_zero j), qb_Fr⟩ ?_ ?_
  · rintro k ⟨q1, q2, q3⟩ hk ⟨g1, g2, g3, g4, g5⟩
    dsimp only at g1 g2 g3 g4 g5
    subst g1 g2
    obtain ⟨M, eM⟩ : ∃ M, M = qs_ct (qu_nw u) k := ⟨_, rfl⟩
    have Ml : M ≤ k := by rw [eM]; exact qs_ctl
    rw [← eM] at g3 g4 ⊢
    have R0 := qv_RF g5 (fun a j h c => by omega) R
    obtain ⟨b1, b2⟩ := qs_196 (N := N) (τ := q3) (g := 1 + k) (by omega) n7 R0.1 (by omega)
    have R1 := qv_RF b2 (fun a j h c => by omega) R0
    obtain ⟨m1, em1⟩ : ∃ m1, m1 = ma_196_99 N (nI (1 + k)) q3 := ⟨_, rfl⟩
    rw [← em1] at b1 b2 R1
    obtain ⟨c1, c2⟩ := qs_183 (N := N) (r := qb_sh n (1 + k)) (by omega) B R1 (fun c hc => ⟨b1 c hc, by have := qk_sh2 (n := n) (g := 1 + k) (c := c); omega⟩)
    have R2 := qv_RF c2 (fun a j h c => by omega) R1
    obtain ⟨m2, em2⟩ : ∃ m2, m2 = ma_183_99 N m1 := ⟨_, rfl⟩
    rw [← em2] at c1 c2 R2
    have m123 : ∀ c, m2 123 c = q3 123 c := fun c => (c2 123 c (by omega)).trans (b2 123 c (by omega))
    have Z1 : qa_wh (fun s => s) (mc_237_99_p55 N (nI i) (nI (3 ^ n)) (nI M) (nI (1 + k)) m2) N ((0 : Int32), (0 : Int32)) = (nI 4, nI (u k)) := by
      rw [eu]
      refine qw_lp (e := fun s => s) (fun j (a : Nat) => (nI j, nI a)) (fun a => (nI 4, nI a)) (fun m a => 100 * a + qu_t n T (o i) (b i) (1 + k) m) 4 0 (by omega) (fun m a hm => ?_) (fun a => ?_)
      · have x9 := qs_Xl (g := 1 + k) B hm
        have c1' : m2 111 m = nI (qs_X n T (1 + k) m) := c1 m hm
        have d1 : (ma_185 (m2 104 i) (nI m) = 0) ↔ (o i).testBit m = false := by
          rw [(R2.2.2.2.1 i (by omega)).1, qs_185 (o i) (by omega) m (by omega)]
          exact qs_bz
        have e : (if ma_185 (m2 104 i) (nI m) = 0 then (0 : Int32) else ma_186_99 (nI i) (m2 111 m) m2) = nI (qu_t n T (o i) (b i) (1 + k) m) := by
          unfold qu_t
          by_cases c : (o i).testBit m = true
          · rw [if_neg (fun h => by rw [d1.mp h] at c; cases c), if_pos c, c1', qs_186 (by rw [qb_n (by omega)]; exact (R2.2.2.2.1 i (by omega)).2) (by omega) b9]
          · rw [if_pos (d1.mpr (Bool.eq_false_iff.mpr c)), if_neg c]; rfl
        unfold mc_237_99_p55
        dsimp only
        rw [if_pos (show nI m < (4 : Int32) from qb_ltT (b := 4) hm (by omega)), qb_n (k := i) (by omega), qb_n (k := m) (by omega), e, show (100 : Int32) * nI a = nI (100 * a) from qw_mul (a := 100), qw_add, qb_s]
      · unfold mc_237_99_p55
        dsimp only
        rw [if_neg (show ¬ nI 4 < (4 : Int32) by decide)]
    have Z2 : (fun (q : Int32 × Int32) => (q.2 = 1 ∧ ∀ c, c < M → m2 123 c ≠ nI (u k)) ∨ (q.2 = 0 ∧ ∃ c, c < M ∧ m2 123 c = nI (u k))) (qa_wh (fun s => s) (mc_237_99_p111 N (nI i) (nI (3 ^ n)) (nI M) (nI (1 + k)) (nI (u k)) m2) N ((0 : Int32), (1 : Int32))) := by
      refine qb_lp (fun c (q : Int32 × Int32) => (q = (nI c, 1) ∧ ∀ e, e < c → m2 123 e ≠ nI (u k)) ∨ (q = (nI c, 0) ∧ ∃ e, e < M ∧ m2 123 e = nI (u k))) (fun (q : Int32 × Int32) => (q.2 = 1 ∧ ∀ c, c < M → m2 123 c ≠ nI (u k)) ∨ (q.2 = 0 ∧ ∃ c, c < M ∧ m2 123 c = nI (u k))) M (fun c q hc hq => ?_) (fun q hq => ?_) N 0 _ (Nat.zero_le _) (by omega) (Or.inl ⟨rfl, fun e he => absurd he (Nat.not_lt_zero e)⟩)
      · rcases hq with ⟨rfl, hq⟩ | ⟨rfl, hq⟩
        · unfold mc_237_99_p111
          dsimp only
          rw [if_pos (qb_ltT hc (by omega)), if_neg (show ¬ (1 : Int32) = 0 by decide), qb_n (k := c) (by omega), qb_s]
          by_cases e : m2 123 c = nI (u k)
          · rw [if_pos e]
            exact Or.inl ⟨_, rfl, Or.inr ⟨rfl, c, hc, e⟩⟩
          · rw [if_neg e]
            exact Or.inl ⟨_, rfl, Or.inl ⟨rfl, fun d hd => by
              by_cases g : d = c
              · subst g; exact e
              · exact hq d (by omega)⟩⟩
        · unfold mc_237_99_p111
          dsimp only
          rw [if_pos (qb_ltT hc (by omega)), if_pos (show (0 : Int32) = 0 from rfl)]
          exact Or.inr ⟨_, rfl, Or.inr ⟨rfl, hq⟩⟩
      · rcases hq with ⟨rfl, hq⟩ | ⟨rfl, hq⟩
        · unfold mc_237_99_p111
          dsimp only
          rw [if_neg (qb_ltF (Nat.le_refl M) (by omega))]
          exact ⟨_, rfl, Or.inl ⟨rfl, hq⟩⟩
        · unfold mc_237_99_p111
          dsimp only
          rw [if_neg (qb_ltF (Nat.le_refl M) (by omega))]
          exact ⟨_, rfl, Or.inr ⟨rfl, hq⟩⟩
    unfold mc_237_99_p33
    dsimp only [qa_in]
    rw [if_pos (show nI (1 + k) < nI (3 ^ n) from qb_ltT (by omega) (by omega)), ← em1, ← em2, Z1, qb_s, qb_n (k := M) (by omega)]
    dsimp only
    obtain ⟨r, er⟩ : ∃ r, r = (qa_wh (fun s => s) (mc_237_99_p111 N (nI i) (nI (3 ^ n)) (nI M) (nI (1 + k)) (nI (u k)) m2) N ((0 : Int32), (1 : Int32))).2 := ⟨_, rfl⟩
    dsimp only at Z2
    rw [← er] at Z2 ⊢
    have step : qs_ct (qu_nw u) (k + 1) = if qu_nw u k then M + 1 else M := by
      show (if qu_nw u k then qs_ct (qu_nw u) k + 1 else qs_ct (qu_nw u) k) = _
      rw [← eM]
    have F5 : qb_F (fun a _ => a = 110 ∨ a = 111 ∨ a = 123) ρ m2 := qb_Ft (qb_Ft g5 b2 (fun a j h => h) (fun a j h => Or.inl h)) c2 (fun a j h => h) (fun a j h => Or.inr (Or.inl h))
    rcases Z2 with ⟨rfl, h⟩ | ⟨rfl, h⟩
    · have nn : qu_nw u k = true := qu_nwT.mpr (fun j hj e => by
        obtain ⟨c, c1, c2⟩ := g4 j hj
        exact h c c1 (by rw [m123, c2, e]))
      rw [nn, if_pos rfl] at step
      rw [if_neg (show ¬ (1 : Int32) = 0 by decide), if_neg (show ¬ (1 : Int32) = 0 by decide), step]
      refine ⟨_, rfl, rfl, qb_s, fun c hc => ?_, fun j hj => ?_, fun a j ha => ?_⟩
      · dsimp only
        rw [qb_uJ]
        by_cases e : c = M
        · rw [if_pos e]; exact ⟨k, by omega, rfl⟩
        · rw [if_neg e, m123]
          obtain ⟨j, j1, j2⟩ := g3 c (by omega)
          exact ⟨j, by omega, j2⟩
      · dsimp only
        by_cases e : j = k
        · subst e; exact ⟨M, by omega, by rw [qb_uE]⟩
        · obtain ⟨c, c1, c2⟩ := g4 j (by omega)
          exact ⟨c, by omega, by rw [qb_uN (by omega), m123]; exact c2⟩
      · dsimp only
        rw [qb_uA (by omega)]; exact F5 a j ha
    · have nn : qu_nw u k = false := Bool.eq_false_iff.mpr (fun y => by
        obtain ⟨c, c1, c2⟩ := h
        obtain ⟨j, j1, j2⟩ := g3 c c1
        rw [m123, j2] at c2
        exact qu_nwT.mp y j j1 ((ui j k).mp c2))
      rw [nn, if_neg Bool.false_ne_true] at step
      rw [if_pos (show (0 : Int32) = 0 from rfl), if_pos (show (0 : Int32) = 0 from rfl), step]
      refine ⟨_, rfl, rfl, rfl, fun c hc => ?_, fun j hj => ?_, F5⟩
      · dsimp only
        rw [m123]
        obtain ⟨j, j1, j2⟩ := g3 c hc
        exact ⟨j, by omega, j2⟩
      · dsimp only
        by_cases e : j = k
        · subst e
          obtain ⟨c, c1, c2⟩ := h
          exact ⟨c, c1, c2⟩
        · obtain ⟨c, c1, c2⟩ := g4 j (by omega)
          exact ⟨c, c1, by rw [m123]; exact c2⟩
  · rintro ⟨q1, q2, q3⟩ ⟨g1, g2, g3, g4, g5⟩
    dsimp only at g1 g2 g3 g4 g5
    subst g1 g2
    unfold mc_237_99_p33
    dsimp only
    rw [if_neg (show ¬ nI (1 + (3 ^ n - 1)) < nI (3 ^ n) from qb_ltF (by omega) (by omega))]
    exact ⟨_, rfl, rfl⟩
end QU
