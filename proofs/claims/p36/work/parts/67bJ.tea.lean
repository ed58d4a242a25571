/-! team: the fewest of some (bits), of several the least -/
theorem qs_bst {c : Nat → Nat} {E : Nat → Bool} {a : Nat} (hE : E a = true) (hc : ∀ w, w < a → c w < c a) : qw_f (fun w x => if c w < c x then (if E w then w else x) else x) a a = qw_f (fun k x => if c x < c (a - k) then x else (if E (a - k) then a - k else x)) (a + 1) a ∧ qw_f (fun w x => if c w < c x then (if E w then w else x) else x) a a ≤ a := by
  have U : ∀ k, k ≤ a → (fun x => x ≤ a ∧ E x = true ∧ (x < k ∨ x = a) ∧ ∀ w, (w < k ∨ w = a) → E w = true → c x < c w ∨ (c x = c w ∧ x ≤ w)) (qw_f (fun w x => if c w < c x then (if E w then w else x) else x) k a) := by
    intro k hk
    refine qw_fI (F := fun w x => if c w < c x then (if E w then w else x) else x) (a := a) (fun k x => x ≤ a ∧ E x = true ∧ (x < k ∨ x = a) ∧ ∀ w, (w < k ∨ w = a) → E w = true → c x < c w ∨ (c x = c w ∧ x ≤ w)) ⟨Nat.le_refl a, hE, Or.inr rfl, fun w hw _ => by rcases hw with h | h; omega; subst h; exact Or.inr ⟨rfl, Nat.le_refl _⟩⟩ (n := k) (fun j x hj hx => ?_)
    obtain ⟨x1, x2, x3, x4⟩ := hx
    have st : ¬ (c j < c x ∧ E j = true) → (x ≤ a ∧ E x = true ∧ (x < j + 1 ∨ x = a) ∧ ∀ w, (w < j + 1 ∨ w = a) → E w = true → c x < c w ∨ (c x = c w ∧ x ≤ w)) := fun hn => ⟨x1, x2, by omega, fun w hw ew => by
      by_cases e : w = j
      · subst e
        have h1 : ¬ c w < c x := fun h => hn ⟨h, ew⟩
        have h2 := hc w (by omega)
        rcases x3 with h | h
        · omega
        · subst h; omega
      · exact x4 w (by omega) ew⟩
    by_cases h1 : c j < c x
    · rw [if_pos h1]
      by_cases h2 : E j = true
      · rw [if_pos h2]
        refine ⟨by omega, h2, Or.inl (by omega), fun w hw ew => ?_⟩
        by_cases e : w = j
        · subst e; exact Or.inr ⟨rfl, Nat.le_refl _⟩
        · have := x4 w (by omega) ew
          omega
      · rw [if_neg h2]; exact st (fun h => h2 h.2)
    · rw [if_neg h1]; exact st (fun h => h1 h.1)
  have D : (fun x => x ≤ a ∧ E x = true ∧ ∀ w, w ≤ a → E w = true → c x < c w ∨ (c x = c w ∧ x ≤ w)) (qw_f (fun k x => if c x < c (a - k) then x else (if E (a - k) then a - k else x)) (a + 1) a) := by
    have := qw_fI (F := fun k x => if c x < c (a - k) then x else (if E (a - k) then a - k else x)) (a := a) (fun k x => x ≤ a ∧ E x = true ∧ (k = 0 → x = a) ∧ (a ≤ x + k) ∧ ∀ w, a < w + k → w ≤ a → E w = true → c x < c w ∨ (c x = c w ∧ x ≤ w)) ⟨Nat.le_refl a, hE, fun _ => rfl, Nat.le_refl a, fun w h1 h2 _ => by omega⟩ (n := a + 1) (fun j x hj hx => ?_)
    · exact ⟨this.1, this.2.1, fun w hw ew => this.2.2.2.2 w (by omega) hw ew⟩
    · obtain ⟨x1, x2, x3, x4, x5⟩ := hx
      have st : (E (a - j) = true → c x < c (a - j)) → (x ≤ a ∧ E x = true ∧ (j + 1 = 0 → x = a) ∧ a ≤ x + (j + 1) ∧ ∀ w, a < w + (j + 1) → w ≤ a → E w = true → c x < c w ∨ (c x = c w ∧ x ≤ w)) := fun hn => ⟨x1, x2, fun h => by omega, by omega, fun w h1 h2 ew => by
        by_cases e : w = a - j
        · subst e; exact Or.inl (hn ew)
        · exact x5 w (by omega) h2 ew⟩
      by_cases h1 : c x < c (a - j)
      · rw [if_pos h1]; exact st (fun _ => h1)
      · rw [if_neg h1]
        by_cases h2 : E (a - j) = true
        · rw [if_pos h2]
          refine ⟨by omega, h2, fun h => by omega, by omega, fun w g1 g2 ew => ?_⟩
          by_cases e : w = a - j
          · subst e; exact Or.inr ⟨rfl, Nat.le_refl _⟩
          · have := x5 w (by omega) g2 ew
            omega
        · rw [if_neg h2]; exact st (fun h => absurd h h2)
  have U' := U a (Nat.le_refl a)
  dsimp only at U' D
  obtain ⟨u1, u2, -, u4⟩ := U'
  obtain ⟨d1, d2, d3⟩ := D
  refine ⟨?_, u1⟩
  have p1 := u4 _ (by omega) d2
  have p2 := d3 _ u1 u2
  omega
def qs_all (f : Nat → Bool) (m : Nat) : Bool := qw_f (fun k a => a && f k) m true
theorem qs_allT {f : Nat → Bool} : ∀ m, qs_all f m = true ↔ ∀ k, k < m → f k = true := by
  intro m
  induction m with
  | zero => exact ⟨fun _ k hk => absurd hk (Nat.not_lt_zero k), fun _ => rfl⟩
  | succ m ih =>
    show (qs_all f m && f m) = true ↔ _
    rw [Bool.and_eq_true, ih]
    exact ⟨fun h k hk => by
      by_cases e : k = m
      · subst e; exact h.2
      · exact h.1 k (by omega), fun h => ⟨fun k hk => h k (by omega), h m (by omega)⟩⟩
theorem qs_63 : ∀ v, v < 128 → ma_63 (nI v) = nI (qs_ct (fun k => v.testBit k) 7) := by decide +kernel
theorem qs_ctm : ∀ t, t ≤ 6 → ∀ w, w < 2 ^ t - 1 → qs_ct (fun k => w.testBit k) 7 < qs_ct (fun k => (2 ^ t - 1).testBit k) 7 := by
  have h : ∀ t, t < 7 → ∀ w, w < 64 → w < 2 ^ t - 1 → qs_ct (fun k => w.testBit k) 7 < qs_ct (fun k => (2 ^ t - 1).testBit k) 7 := by decide +kernel
  intro t ht w hw
  have := qs_2t ht
  exact h t (by omega) w (by omega) hw
theorem qs_dn : ∀ a, a < 128 → (∀ k, k < 128 → nI a - nI k + -1 = nI a - nI (k + 1)) ∧ nI a - nI (a + 1) < 0 := by decide +kernel
section QJ
variable {n t : Nat} {x s : Nat → Nat} {T : Nat → Nat → Nat} {o b : Nat → Nat} {σ τ : qa_S} {N : Nat}
/-- those who tell apart all that all tell apart -/
def qs_Ew (n t : Nat) (T : Nat → Nat → Nat) (o b : Nat → Nat) (w : Nat) : Bool := qs_all (fun k => qs_Pw n t T o b w k == qs_Pw n t T o b (2 ^ t - 1) k) (qs_n2 n)
theorem qs_Ewc {w : Nat} (hn : n ≤ 7) : (nI (qs_en (qs_Pw n t T o b w) (qs_n2 n)) = nI (qs_en (qs_Pw n t T o b (2 ^ t - 1)) (qs_n2 n))) ↔ qs_Ew n t T o b w = true := by
  have l : ∀ p : Nat → Bool, qs_en p (qs_n2 n) < 2147483648 := fun p => by
    have h1 := qs_enl (p := p) (qs_n2 n)
    have h2 : 2 ^ qs_n2 n ≤ 2 ^ 21 := Nat.pow_le_pow_right (by omega) (qs_n2l n hn)
    omega
  unfold qs_Ew
  rw [qb_eq (l _) (l _), qs_allT]
  exact ⟨fun h k hk => by rw [beq_iff_eq]; exact qs_enj h k hk, fun h => qs_enx (fun k hk => by have := h k hk; rwa [beq_iff_eq] at this)⟩
theorem qs_211 {w : Nat} (hN : 20 ≤ N) (hB : qv_B n t s T o b) (hR : qv_R n t s T o b τ) (hw : w < 128) : ma_211_99 N (nI w) τ = if qs_Ew n t T o b w then 1 else 0 := by
  have n7 := hB.1
  have t6 := hB.2.1
  have w64 := qs_2t t6
  unfold ma_211_99
  dsimp only [qa_in]
  refine congrArg Prod.snd (show _ = (nI n, if qs_Ew n t T o b w then (1 : Int32) else 0) from ?_)
  have h := qw_pr (e1 := fun s => s) (so := mc_211_99_p4 N (nI w) τ) (enc := fun (a : Bool) => if a then (1 : Int32) else 0) (si := fun i => mc_211_99_p17 N (nI w) (nI i) τ) (e2 := fun s => s) (fun i j (a : Bool) => a && (qs_any (fun u => w.testBit u && qs_ap (o u) (b u) (T i) (T j)) t == qs_any (fun u => (2 ^ t - 1).testBit u && qs_ap (o u) (b u) (T i) (T j)) t)) n (N := N) n7 (by omega) (fun i x hi => ?_) (fun x => ?_) (fun i j a hij hj => ?_) (fun i x => ?_) true
  · refine Eq.trans h ?_
    rw [qs_pfk _ _ n n7]
    rfl
  · unfold mc_211_99_p4
    dsimp only [qa_in]
    rw [if_pos (qw_ltT hR.1 hi (by omega)), qb_s]
  · unfold mc_211_99_p4
    dsimp only
    rw [if_neg (qw_ltF hR.1 (by omega))]
  · unfold mc_211_99_p17
    dsimp only [qa_in]
    rw [if_pos (qw_ltT hR.1 hj (by omega)), qs_190p t6 hR.2.1, qs_191 (by omega) hB hR (show 2 ^ t - 1 < 128 by omega) (show i < n by omega) hj, qs_191 (by omega) hB hR hw (show i < n by omega) hj, qb_s]
    cases qs_any (fun u => w.testBit u && qs_ap (o u) (b u) (T i) (T j)) t <;> cases qs_any (fun u => (2 ^ t - 1).testBit u && qs_ap (o u) (b u) (T i) (T j)) t <;> cases a <;> rfl
  · unfold mc_211_99_p17
    dsimp only
    rw [if_neg (qw_ltF hR.1 (by omega))]
theorem qc_90 {xx yy : Prop} (hN : 5000 ≤ N) (hI : qb_I xx yy σ) : (ma_90_3 N σ).1 = (ma_210_99 N (ma_90_3 N σ).2).1 := by
  obtain ⟨n, t, s, T, o, b, B, C, P⟩ := qv_get hI
  have F : qb_F qb_sm2 σ (ma_90_3 N σ).2 := mf_90_3 qb_hw (qb_hm (by omega)) qb_Fr
  suffices h : ∃ v, (ma_90_3 N σ).1 = v ∧ ∀ τ, qv_P n t s T o b (qa_u τ 99 9 0) → (ma_210_99 N τ).1 = v by
    obtain ⟨v, h1, h2⟩ := h
    exact h1.trans (h2 _ (qv_P2 F P)).symm
  have n7 := B.1
  have t6 := B.2.1
  have w64 := qs_2t t6
  have bst := qs_bst (c := fun w => qs_ct (fun k => w.testBit k) 7) (E := qs_Ew n t T o b) (a := 2 ^ t - 1) ((qs_allT _).mpr (fun k _ => beq_self_eq_true _)) (qs_ctm t t6)
  have ct7 : ∀ v : Nat, qs_ct (fun k => v.testBit k) 7 < 2147483648 := fun v => by
    have := qs_ctl (p := fun k => v.testBit k) (n := 7)
    omega
  unfold ma_90_3 ma_210_99
  dsimp only [qa_in]
  obtain ⟨h1, F1⟩ := qs_58 (N := N) (by omega) B C
  have C1 := qv_CF F1 (fun a j h c => by omega) C n7
  obtain ⟨m, em⟩ : ∃ m, m = ma_58_3 N σ := ⟨_, rfl⟩
  rw [← em] at h1 F1 C1 ⊢
  rw [qs_60p t6 C1.2.1, qs_61 (by omega) B C1.2.1 h1 (show 2 ^ t - 1 < 128 by omega)]
  have L := qw_lj (e := fun s => s) (step := mc_90_3_p20 N (nI (2 ^ t - 1)) (nI (qs_en (qs_Pw n t T o b (2 ^ t - 1)) (qs_n2 n))) m) (N := N) (fun _ x => x ≤ 2 ^ t - 1) (fun k (x : Nat) => (nI k, nI x)) (fun x => (nI (2 ^ t - 1), nI x)) (fun w x => if qs_ct (fun k => w.testBit k) 7 < qs_ct (fun k => x.testBit k) 7 then (if qs_Ew n t T o b w then w else x) else x) (2 ^ t - 1) (2 ^ t - 1) (by omega) (Nat.le_refl _) (fun w x hw hx => ?_) (fun x hx => ?_)
  · have L' : qa_wh (fun s => s) (mc_90_3_p20 N (nI (2 ^ t - 1)) (nI (qs_en (qs_Pw n t T o b (2 ^ t - 1)) (qs_n2 n))) m) N ((0 : Int32), nI (2 ^ t - 1)) = _ := L.1
    rw [L']
    refine ⟨_, rfl, fun τ hP => ?_⟩
    have R := (qv_181 (N := N) (by omega) n7 hP).1
    obtain ⟨ρ, eρ⟩ : ∃ ρ, ρ = ma_181_99 N (qa_u τ 99 9 0) := ⟨_, rfl⟩
    rw [← eρ] at R ⊢
    rw [qs_190p t6 R.2.1]
    have D := qw_lj (e := fun s => s) (step := mc_210_99_p19 N ρ) (N := N) (fun _ x => x ≤ 2 ^ t - 1) (fun k (x : Nat) => (nI (2 ^ t - 1) - nI k, nI x)) (fun x => (nI (2 ^ t - 1) - nI (2 ^ t - 1 + 1), nI x)) (fun k x => if qs_ct (fun k => x.testBit k) 7 < qs_ct (fun j => (2 ^ t - 1 - k).testBit j) 7 then x else (if qs_Ew n t T o b (2 ^ t - 1 - k) then 2 ^ t - 1 - k else x)) (2 ^ t - 1 + 1) (2 ^ t - 1) (by omega) (Nat.le_refl _) (fun k x hk hx => ?_) (fun x hx => ?_)
    · have e0 : nI (2 ^ t - 1) - nI 0 = nI (2 ^ t - 1) := qw_sub (Nat.zero_le _)
      have D1 := D.1
      rw [e0] at D1
      have D' : qa_wh (fun s => s) (mc_210_99_p19 N ρ) N (nI (2 ^ t - 1), nI (2 ^ t - 1)) = _ := D1
      rw [D']
      exact congrArg nI bst.1.symm
    · unfold mc_210_99_p19
      dsimp only [qa_in]
      have hd := qs_dn (2 ^ t - 1) (by omega)
      rw [hd.1 k (by omega), qw_sub (show k ≤ 2 ^ t - 1 by omega), if_neg (qw_n0 (by omega)), qs_208 (by omega) (show 2 ^ t - 1 - k < 128 by omega), qs_208 (by omega) (show x < 128 by omega), qs_211 (by omega) B R (show 2 ^ t - 1 - k < 128 by omega)]
      refine ⟨congrArg Sum.inl (Prod.ext rfl ?_), ?_⟩
      · dsimp only
        by_cases c : qs_ct (fun k => x.testBit k) 7 < qs_ct (fun j => (2 ^ t - 1 - k).testBit j) 7
        · rw [if_pos c, if_pos (qb_ltT c (ct7 _))]
        · rw [if_neg c, if_neg (qb_ltF (Nat.le_of_not_lt c) (ct7 _))]
          cases qs_Ew n t T o b (2 ^ t - 1 - k) <;> rfl
      · try dsimp only
        split
        · exact hx
        · split <;> omega
    · unfold mc_210_99_p19
      dsimp only [qa_in]
      rw [if_pos (qs_dn (2 ^ t - 1) (by omega)).2]
  · unfold mc_90_3_p20
    dsimp only [qa_in]
    rw [if_pos (qb_ltT hw (by omega)), qs_61 (by omega) B C1.2.1 h1 (show w < 128 by omega), qs_63 w (by omega), qs_63 x (by omega), qb_s]
    refine ⟨congrArg Sum.inl (Prod.ext rfl ?_), ?_⟩
    · dsimp only
      by_cases c : qs_ct (fun k => w.testBit k) 7 < qs_ct (fun k => x.testBit k) 7
      · rw [if_pos c, if_pos (qb_ltT c (ct7 _))]
        by_cases c2 : qs_Ew n t T o b w = true
        · rw [if_pos c2, if_pos ((qs_Ewc n7).mpr c2)]
        · rw [if_neg c2, if_neg (fun h => c2 ((qs_Ewc n7).mp h))]
      · rw [if_neg c, if_neg (qb_ltF (Nat.le_of_not_lt c) (ct7 _))]
    · try dsimp only
      split
      · split <;> omega
      · exact hx
  · unfold mc_90_3_p20
    dsimp only [qa_in]
    rw [if_neg (qb_ltF (Nat.le_refl _) (by omega))]
end QJ
