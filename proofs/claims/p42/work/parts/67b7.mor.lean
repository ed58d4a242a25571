/-! WHO TELLS ALIKE; loner, like -/
theorem qw_ltT {x : Int32} {k n : Nat} (h : x = nI n) (hk : k < n) (hn : n < 2147483648) : nI k < x := by rw [h]; exact qb_ltT hk hn
theorem qw_ltF {x : Int32} {n : Nat} (h : x = nI n) (hn : n < 2147483648) : ¬ nI n < x := by rw [h]; exact qb_ltF (Nat.le_refl n) hn
/-- bits gathered -/
def qs_eb (p : Nat → Bool) (n : Nat) : Int32 := qw_f (fun k a => if p k then a ||| ((1 : Int32) <<< (nI k &&& 31)) else a) n 0
theorem qs_ebn {p : Nat → Bool} : ∀ n, n ≤ 31 → qs_eb p n = nI (qs_en p n) := by
  intro n
  induction n with
  | zero => intro _; rfl
  | succ n ih =>
    intro h
    show (if p n then qs_eb p n ||| ((1 : Int32) <<< (nI n &&& 31)) else qs_eb p n) = nI (if p n then qs_en p n + 2 ^ n else qs_en p n)
    rw [ih (by omega), qs_eno (by omega)]
    cases p n <;> rfl
section Q7
variable {n t : Nat} {s : Nat → Nat} {T : Nat → Nat → Nat} {o b : Nat → Nat} {σ τ : qa_S} {N : Nat}
theorem qs_197 {x y : Nat → Nat} (hN : 10 ≤ N) (hB : qv_B n t s T o b) (hR : qv_R n t s T o b τ) (hx : ∀ m, m < 4 → τ 109 m = nI (x m) ∧ x m < 1000000) (hy : ∀ m, m < 4 → τ 111 m = nI (y m) ∧ y m < 1000000) : ma_197_99 N τ = nI (qs_en (fun i => !qs_ap (o i) (b i) x y) t) := by
  have t6 := hB.2.1
  unfold ma_197_99
  dsimp only [qa_in]
  rw [← qs_ebn t (by omega)]
  refine congrArg Prod.snd (qw_lp (e := fun s => s) (fun k (a : Int32) => (nI k, a)) (fun a => (nI t, a)) (fun k a => if !qs_ap (o k) (b k) x y then a ||| ((1 : Int32) <<< (nI k &&& 31)) else a) t 0 (by omega) (fun k a hk => ?_) (fun a => ?_))
  · unfold mc_197_99_p4
    dsimp only [qa_in]
    rw [hR.2.1, if_pos (qb_ltT hk (by omega)), qs_198 (by omega) hB hR (by omega) hx hy, qb_s]
    cases qs_ap (o k) (b k) x y
    · rfl
    · exact congrArg (fun z => Sum.inl (nI (k + 1), z)) Int32.or_zero
  · unfold mc_197_99_p4
    dsimp only
    rw [hR.2.1, if_neg (qb_ltF (Nat.le_refl t) (by omega))]
/-- how many tell what is tried otherwise -/
theorem qs_218 {x r : Nat → Nat} (hN : 10 ≤ N) (hB : qv_B n t s T o b) (hR : qv_R n t s T o b τ) (hx : ∀ m, m < 4 → τ 109 m = nI (x m) ∧ x m < 1000000) (hr : ∀ c, c < n → τ 110 c = nI (r c) ∧ r c ≤ 99) : (ma_218_99 N τ).1 = nI (qs_ct (fun i => qs_ap (o i) (b i) x (qs_mx n r T 0)) t) ∧ qb_F (fun a _ => a = 111) τ (ma_218_99 N τ).2 := by
  have t6 := hB.2.1
  obtain ⟨h1, F⟩ := qs_183 hN hB hR hr
  have R1 := qv_RF F (fun a j h c => by omega) hR
  unfold ma_218_99
  dsimp only [qa_in]
  have h2 := qs_197 (x := x) (y := qs_mx n r T 0) hN hB R1 (fun m hm => ⟨(F 109 m (by omega)).trans (hx m hm).1, (hx m hm).2⟩) (fun m hm => ⟨h1 m hm, (qs_mxl hB.1 (fun c hc => (hr c hc).2) (fun c hc => hB.2.2.2.1 c m hc hm)).2.2⟩)
  refine ⟨?_, F⟩
  rw [h2, qs_208e hN (by omega), R1.2.1]
  have e := qs_ctn (p := fun i => qs_ap (o i) (b i) x (qs_mx n r T 0)) t
  rw [qw_sub (by omega)]
  exact congrArg nI (by omega)
/-! loner -/
end Q7
