/-! the general walk's memory -/
/-- the object graph: its kinds and lengths, and what each place may hold -/
def q52_M (M : q4_M) : Prop := M.1 = 124 ∧ (M.2 0).1 = 0 ∧ (∀ j, j < (M.2 0).2.1 → ∃ x, (M.2 0).2.2 j = .int x) ∧ (M.2 0).2.1 ≤ 2560 ∧ ∀ a, 0 < a → a < 124 → (M.2 a).1 = q51_kind a ∧ (M.2 a).2.1 = q51_len a ∧ ∀ j, j < q51_len a → q52_g [] (q51_G a j) ((M.2 a).2.2 j)
/-- nothing else is written -/
def q52_F (W : q50_W) (M M' : q4_M) : Prop := (∀ a, (M'.2 a).1 = (M.2 a).1 ∧ (M'.2 a).2.1 = (M.2 a).2.1) ∧ ∀ a j, q50_iw W a j = false → (M'.2 a).2.2 j = (M.2 a).2.2 j
theorem q57_Fr (W : q50_W) (M : q4_M) : q52_F W M M := ⟨fun _ => ⟨rfl, rfl⟩, fun _ _ _ => rfl⟩
theorem q57_Ft {W : q50_W} {A B C : q4_M} (h : q52_F W A B) (h' : q52_F W B C) : q52_F W A C := ⟨fun a => ⟨(h'.1 a).1.trans (h.1 a).1, (h'.1 a).2.trans (h.1 a).2⟩, fun a j hj => (h'.2 a j hj).trans (h.2 a j hj)⟩
theorem q57_nil {ρ : List Int} {v : q50_V} {x : Value} (h : q52_g [] v x) : q52_g ρ v x := q54_gm ⟨ρ, rfl⟩ h
theorem q57_jn {ρ : List Int} {a b c : q50_V} {x : Value} (h : q50_jn a b = some c) (hg : q52_g ρ a x ∨ q52_g ρ b x) : q52_g ρ c x := by
  unfold q50_jn at h
  cases hc : (Nat.beq a.1 b.1 && (Nat.beq a.1 0 || Nat.beq a.1 6)) with
  | false => rw [hc] at h; cases h
  | true =>
    rw [hc] at h
    cases h
    simp only [Bool.and_eq_true, Bool.or_eq_true] at hc
    obtain ⟨ta, a1, a2⟩ := a
    obtain ⟨tb, b1, b2⟩ := b
    have e1 : ta = tb := Nat.eq_of_beq_eq_true hc.1
    subst e1
    rcases hc.2 with h0 | h0
    · have h0 : ta = 0 := Nat.eq_of_beq_eq_true h0
      subst h0
      rcases hg with hg | hg
      · obtain ⟨w, rfl, hw⟩ := q54_gi rfl hg
        have hw : a1 ≤ w.toInt ∧ w.toInt ≤ a2 := hw
        exact q55_iv0 (by dsimp only; omega) (by dsimp only; omega)
      · obtain ⟨w, rfl, hw⟩ := q54_gi rfl hg
        have hw : b1 ≤ w.toInt ∧ w.toInt ≤ b2 := hw
        exact q55_iv0 (by dsimp only; omega) (by dsimp only; omega)
    · have h0 : ta = 6 := Nat.eq_of_beq_eq_true h0
      subst h0
      rcases hg with hg | hg
      · obtain ⟨r, rfl, h1, h2⟩ := q54_ref hg
        exact Or.inr (Or.inr (Or.inl ⟨rfl, r, rfl, by dsimp only; omega, by dsimp only; omega⟩))
      · obtain ⟨r, rfl, h1, h2⟩ := q54_ref hg
        exact Or.inr (Or.inr (Or.inl ⟨rfl, r, rfl, by dsimp only; omega, by dsimp only; omega⟩))
theorem q57_gs {ρ : List Int} {a lo : Nat} : ∀ (n : Nat) {g : q50_V}, q50_gs a lo n = some g → ∀ j, lo ≤ j → j ≤ lo + n → ∀ x, q52_g ρ (q51_G a j) x → q52_g ρ g x
  | 0, g, h, j, h1, h2, x, hx => by
    cases h
    rw [show lo = j by omega]
    exact hx
  | n + 1, g, h, j, h1, h2, x, hx => by
    unfold q50_gs at h
    split at h
    · next v hv =>
      by_cases e : j = lo + (n + 1)
      · subst e; exact q57_jn h (Or.inr hx)
      · exact q57_jn h (Or.inl (q57_gs n hv j h1 (by omega) x hx))
    · cases h
theorem q57_uni {a : Nat} (h : q51_uni a = true) (j : Nat) : q51_G a j = q51_G a 0 := by
  unfold q51_G
  rw [h]
  rfl
theorem q57_gr {ρ : List Int} {a lo hi j : Nat} {g : q50_V} {x : Value} (h : q50_gr a lo hi = some g) (h1 : lo ≤ j) (h2 : j ≤ hi) (hx : q52_g ρ (q51_G a j) x) : q52_g ρ g x := by
  unfold q50_gr at h
  cases hu : q51_uni a with
  | true =>
    rw [hu] at h
    cases h
    rw [q57_uni hu] at hx
    exact hx
  | false =>
    rw [hu, cond_false] at h
    cases hb : Nat.blt (hi - lo) 64 with
    | false => rw [hb] at h; cases h
    | true =>
      rw [hb, cond_true] at h
      exact q57_gs _ h j h1 (by omega) x hx
theorem q57_gc {ρ : List Int} {lo hi a : Nat} : ∀ (n : Nat) {g : q50_V}, q50_gc lo hi a n = some g → ∀ b j, a ≤ b → b ≤ a + n → lo ≤ j → j ≤ hi → ∀ x, q52_g ρ (q51_G b j) x → q52_g ρ g x
  | 0, g, h, b, j, h1, h2, h3, h4, x, hx => by
    have e : b = a := by omega
    subst e
    exact q57_gr h h3 h4 hx
  | n + 1, g, h, b, j, h1, h2, h3, h4, x, hx => by
    unfold q50_gc at h
    split at h
    · next v hv =>
      split at h
      · next w hw =>
        by_cases e : b = a + (n + 1)
        · subst e; exact q57_jn h (Or.inr (q57_gr hw h3 h4 hx))
        · exact q57_jn h (Or.inl (q57_gc n hv b j h1 (by omega) h3 h4 x hx))
      · cases h
    · cases h
theorem q57_al {f : Nat → Bool} {a : Nat} : ∀ (n : Nat), q50_al f a n = true → ∀ b, a ≤ b → b ≤ a + n → f b = true
  | 0, h, b, h1, h2 => by
    rw [show b = a by omega]
    exact h
  | n + 1, h, b, h1, h2 => by
    unfold q50_al at h
    simp only [Bool.and_eq_true] at h
    by_cases e : b = a + (n + 1)
    · rw [e]; exact h.2
    · exact q57_al n h.1 b h1 (by omega)
theorem q57_sh {kd p q : Nat} {hi : Int} (h : q50_sh kd p q hi = true) : 0 < p ∧ q < 124 ∧ p ≤ q ∧ ∀ b, p ≤ b → b ≤ q → q51_kind b = kd ∧ hi < (q51_len b : Int) := by
  unfold q50_sh at h
  simp only [Bool.and_eq_true] at h
  obtain ⟨⟨⟨h1, h2⟩, h3⟩, h4⟩ := h
  have h3 : p ≤ q := Nat.le_of_ble_eq_true h3
  refine ⟨Nat.le_of_ble_eq_true h1, Nat.le_of_ble_eq_true h2, h3, fun b b1 b2 => ?_⟩
  have := q57_al _ h4 b b1 (by omega)
  simp only [Bool.and_eq_true, decide_eq_true_eq] at this
  exact ⟨Nat.eq_of_beq_eq_true this.1, this.2⟩
theorem q57_in {ρ : List Int} {S : q50_S} {v g : q50_V} {x : Value} (hE : q52_E ρ S) (h : q50_in S v g = true) (hg : q52_g ρ v x) : q52_g [] g x := by
  unfold q50_in at h
  split at h
  · next lo hi =>
    cases hi0 : q50_isi v with
    | false => rw [hi0] at h; cases h
    | true =>
      rw [hi0, cond_true] at h
      obtain ⟨w, rfl, hw⟩ := q54_gi hi0 hg
      split at h
      · next a b hq =>
        simp only [Bool.and_eq_true, decide_eq_true_eq] at h
        have := q54_iv hE hq hw
        dsimp only at this
        exact q55_iv0 (by omega) (by omega)
      · cases h
  · next lo hi =>
    simp only [Bool.and_eq_true, decide_eq_true_eq] at h
    obtain ⟨r, rfl, h1, h2⟩ := q54_gr (Nat.eq_of_beq_eq_true h.1.1) hg
    exact Or.inr (Or.inr (Or.inl ⟨rfl, r, rfl, by dsimp only; omega, by dsimp only; omega⟩))
  · exact Or.inr (Or.inr (Or.inr ⟨rfl, (q54_cat hg).trans (Nat.eq_of_beq_eq_true h)⟩))
  · cases h
theorem q57_wr {W : q50_W} {b lo hi j : Nat} (h : q50_wr W b lo hi = true) (h1 : lo ≤ j) (h2 : j ≤ hi) : q50_iw W b j = true := by
  unfold q50_wr at h
  unfold q50_iw
  obtain ⟨w, hw, hb⟩ := List.any_eq_true.mp h
  refine List.any_eq_true.mpr ⟨w, hw, ?_⟩
  simp only [q54_bq, q54_le, Bool.and_eq_true, decide_eq_true_eq] at hb ⊢
  omega
theorem q57_veq {v w : q50_V} (h : q50_veq v w = true) : v = w := by
  unfold q50_veq at h
  simp only [Bool.and_eq_true, decide_eq_true_eq] at h
  obtain ⟨a, b, c⟩ := v
  obtain ⟨a', b', c'⟩ := w
  obtain ⟨⟨h1, h2⟩, h3⟩ := h
  have h1 : a = a' := Nat.eq_of_beq_eq_true h1
  have h2 : b = b' := h2
  have h3 : c = c' := h3
  rw [h1, h2, h3]
theorem q57_rf {ρ : List Int} {M : q4_M} {a : Nat} {j v : q50_V} : ∀ {R : List (Nat × q50_V × q50_V)}, q52_R ρ M R → q50_rf a j R = some v → ∃ z, q52_d ρ j z ∧ q52_g ρ v (q50_at M a z)
  | [], _, h => by cases h
  | r :: R, hR, h => by
    unfold q50_rf at h
    cases hb : (Nat.beq r.1 a && q50_veq r.2.1 j) with
    | true =>
      rw [hb] at h
      cases h
      simp only [Bool.and_eq_true] at hb
      obtain ⟨z, h1, h2⟩ := hR r List.mem_cons_self
      rw [q57_veq hb.2] at h1
      rw [Nat.eq_of_beq_eq_true hb.1] at h2
      exact ⟨z, h1, h2⟩
    | false =>
      rw [hb, cond_false] at h
      exact q57_rf (fun q hq => hR q (List.mem_cons_of_mem _ hq)) h
theorem q57_k {ρ : List Int} {c z : Int} (h : q52_d ρ (q50_k c) z) : z = c := by
  have h : c ≤ z ∧ z ≤ c := h
  omega
theorem q57_one {ρ : List Int} {v : q50_V} (h : v.1 = 1) {y z : Int} (h1 : q52_d ρ v y) (h2 : q52_d ρ v z) : y = z := by
  obtain ⟨t, i, c⟩ := v
  have h : t = 1 := h
  subst h
  obtain ⟨u, hu, rfl⟩ := h1
  obtain ⟨u', hu', rfl⟩ := h2
  rw [hu] at hu'
  cases hu'
  rfl
theorem q57_atn (M : q4_M) (a j : Nat) : q50_at M a (j : Int) = (M.2 a).2.2 j := by
  unfold q50_at
  rw [if_neg (by omega)]
  rfl
/-- behind a write -/
theorem q57_rk {ρ : List Int} {S : q50_S} {M M' : q4_M} {p q : Nat} {jl jh : Int} (hE : q52_E ρ S) (hR : q52_R ρ M S.2.2.2) (hl : ∀ a, (M'.2 a).2.1 = (M.2 a).2.1) (hs : ∀ a (j : Nat), ¬ (p ≤ a ∧ a ≤ q ∧ jl ≤ (j : Int) ∧ (j : Int) ≤ jh) → (M'.2 a).2.2 j = (M.2 a).2.2 j) : q52_R ρ M' (q50_rk S p q jl jh).2.2.2 := by
  intro r hr
  obtain ⟨h1, h2⟩ := List.mem_filter.mp hr
  obtain ⟨z, g1, g2⟩ := hR r h1
  refine ⟨z, g1, ?_⟩
  have e : q50_at M' r.1 z = q50_at M r.1 z := by
    unfold q50_at
    by_cases hz : z < 0
    · rw [if_pos hz, if_pos hz, hl]
    · rw [if_neg hz, if_neg hz]
      apply hs
      intro ⟨a1, a2, a3, a4⟩
      simp only [Bool.or_eq_true, q54_lq, decide_eq_true_eq] at h2
      rcases h2 with (h2 | h2) | h2
      · omega
      · omega
      · split at h2
        · next x y hq =>
          have := q54_iv hE hq g1
          simp only [Bool.or_eq_true, decide_eq_true_eq] at h2
          dsimp only at this
          omega
        · cases h2
  rw [e]
  exact g2
theorem q57_Ek {ρ : List Int} {S : q50_S} {p q : Nat} {jl jh : Int} (hE : q52_E ρ S) : q52_E ρ (q50_rk S p q jl jh) := hE
theorem q57_Ep {ρ : List Int} {S : q50_S} {a : Nat} {j v : q50_V} (hE : q52_E ρ S) : q52_E ρ (q50_rp S a j v) := hE
theorem q57_rp {ρ : List Int} {S : q50_S} {M : q4_M} {a : Nat} {j v : q50_V} {z : Int} (hR : q52_R ρ M S.2.2.2) (h1 : q52_d ρ j z) (h2 : q52_g ρ v (q50_at M a z)) : q52_R ρ M (q50_rp S a j v).2.2.2 := by
  intro r hr
  rcases List.mem_cons.mp hr with rfl | hr
  · exact ⟨z, h1, h2⟩
  · exact hR r hr
/-- an interval made a symbol, what is remembered stays -/
theorem q57_fr {ρ : List Int} {S : q50_S} {M : q4_M} {v : q50_V} {x : Value} (hE : q52_E ρ S) (hR : q52_R ρ M S.2.2.2) (hg : q52_g ρ v x) : ∃ ρ', q52_e ρ ρ' ∧ q52_E ρ' (q50_fr S v).1 ∧ q52_R ρ' M (q50_fr S v).1.2.2.2 ∧ q52_g ρ' (q50_fr S v).2 x ∧ q50_isi (q50_fr S v).2 = q50_isi v ∧ q50_isl (q50_fr S v).2 = q50_isl v := by
  obtain ⟨ρ', h1, h2, h3, h4, h5, h6⟩ := q54_fr hE hg
  exact ⟨ρ', h1, h2, by rw [h4]; exact q54_Rm h1 hR, h3, h5, h6⟩
theorem q57_frs {M : q4_M} : ∀ {ρ : List Int} {S : q50_S} {l : List q50_V} {m : List Value}, q52_E ρ S → q52_R ρ M S.2.2.2 → q52_S ρ l m → ∃ ρ', q52_e ρ ρ' ∧ q52_E ρ' (q50_frs S l).1 ∧ q52_R ρ' M (q50_frs S l).1.2.2.2 ∧ q52_S ρ' (q50_frs S l).2 m
  | ρ, S, [], [], hE, hR, _ => ⟨ρ, q54_er ρ, hE, hR, trivial⟩
  | ρ, S, v :: l, x :: m, hE, hR, hS => by
    obtain ⟨ρ1, h1, h2, h3, h4, -, -⟩ := q57_fr (M := M) hE hR hS.1
    obtain ⟨ρ2, g1, g2, g3, g4⟩ := q57_frs (S := (q50_fr S v).1) h2 h3 (hS.2.mono h1)
    exact ⟨ρ2, q54_et h1 g1, g2, g3, ⟨q54_gm g1 h4, g4⟩⟩
theorem q57_gf {ρ : List Int} {S : q50_S} {M : q4_M} {a j : Nat} (hE : q52_E ρ S) (hR : q52_R ρ M S.2.2.2) (hM : q52_M M) (h0 : 0 < a) (h1 : a < 124) (h2 : j < q51_len a) : ∃ ρ', q52_e ρ ρ' ∧ q52_E ρ' (q50_gf S a j).1 ∧ q52_R ρ' M (q50_gf S a j).1.2.2.2 ∧ q52_g ρ' (q50_gf S a j).2 ((M.2 a).2.2 j) := by
  unfold q50_gf
  have hG := (hM.2.2.2.2 a h0 h1).2.2 j h2
  cases hf : q50_rf a (q50_k j) S.2.2.2 with
  | some v =>
    obtain ⟨z, d1, d2⟩ := q57_rf hR hf
    have := q57_k d1
    subst this
    rw [q57_atn] at d2
    exact ⟨ρ, q54_er ρ, hE, hR, d2⟩
  | none =>
    dsimp only
    cases ht : Nat.beq (q51_G a j).1 0 with
    | false => exact ⟨ρ, q54_er ρ, hE, hR, q57_nil hG⟩
    | true =>
      rw [cond_true]
      obtain ⟨ρ', e1, e2, e3, e4, -, -⟩ := q57_fr hE hR (q57_nil hG)
      refine ⟨ρ', e1, q57_Ep e2, q57_rp e3 (z := (j : Int)) ⟨Int.le_refl _, Int.le_refl _⟩ (by rw [q57_atn]; exact e4), e4⟩
/-- a write that keeps to what the place may hold -/
theorem q57_put {M : q4_M} {a j : Nat} {v : Value} (hM : q52_M M) (h0 : 0 < a) (h1 : a < 124) (hg : j < q51_len a → q52_g [] (q51_G a j) v) : q52_M (q4_put M a j v) := by
  obtain ⟨g1, g2, g3, g4, g5⟩ := hM
  have hne : ∀ b, b ≠ a → (q4_put M a j v).2 b = M.2 b := fun b hb => by
    show (if b = a then _ else _) = _
    rw [if_neg hb]
  have heq : (q4_put M a j v).2 a = ((M.2 a).1, (M.2 a).2.1, updV (M.2 a).2.2 j v) := by
    show (if a = a then _ else _) = _
    rw [if_pos rfl]
  have h00 : (0 : Nat) ≠ a := by omega
  refine ⟨g1, by rw [hne 0 h00]; exact g2, by rw [hne 0 h00]; exact g3, by rw [hne 0 h00]; exact g4, fun b b0 b1 => ?_⟩
  by_cases e : b = a
  · subst e
    rw [heq]
    obtain ⟨k1, k2, k3⟩ := g5 b b0 b1
    refine ⟨k1, k2, fun i hi => ?_⟩
    show q52_g [] _ (if i = j then v else _)
    by_cases ei : i = j
    · subst ei; rw [if_pos rfl]; exact hg hi
    · rw [if_neg ei]; exact k3 i hi
  · rw [hne b e]
    exact g5 b b0 b1
theorem q57_putF {W : q50_W} {M : q4_M} {a j : Nat} {v : Value} (h : q50_iw W a j = true) : q52_F W M (q4_put M a j v) := by
  refine ⟨fun b => ?_, fun b i hi => ?_⟩
  · show (if b = a then _ else _ : q4_C).1 = _ ∧ (if b = a then _ else _ : q4_C).2.1 = _
    by_cases e : b = a
    · subst e; rw [if_pos rfl]; exact ⟨rfl, rfl⟩
    · rw [if_neg e]; exact ⟨rfl, rfl⟩
  · show (if b = a then _ else _ : q4_C).2.2 i = _
    by_cases e : b = a
    · subst e
      rw [if_pos rfl]
      show (if i = j then v else _) = _
      by_cases ei : i = j
      · subst ei; rw [h] at hi; cases hi
      · rw [if_neg ei]
    · rw [if_neg e]
theorem q57_putN {M : q4_M} {a j b i : Nat} {v : Value} (h : ¬ (b = a ∧ i = j)) : ((q4_put M a j v).2 b).2.2 i = (M.2 b).2.2 i := by
  show (if b = a then _ else _ : q4_C).2.2 i = _
  by_cases e : b = a
  · subst e
    rw [if_pos rfl]
    show (if i = j then v else _) = _
    rw [if_neg (fun ei => h ⟨rfl, ei⟩)]
  · rw [if_neg e]
theorem q57_putE {M : q4_M} {a j : Nat} {v : Value} : ((q4_put M a j v).2 a).2.2 j = v := by
  show (if a = a then _ else _ : q4_C).2.2 j = _
  rw [if_pos rfl]
  show (if j = j then v else _) = _
  rw [if_pos rfl]
