/-! refusals; what is kept of changes -/
theorem qb_9_1 {σ : qa_S} : ma_9_3 (-1 : Int32) σ = ((-1 : Int32), qa_u σ 93 1 (σ 93 1 + 1)) := by unfold ma_9_3; dsimp only [qa_in]; rw [if_pos (by decide), if_pos (by decide)]; rfl
theorem qb_152_1 {σ : qa_S} : ma_152_99 (-1 : Int32) σ = ((-1 : Int32), qa_u σ 107 1 (σ 107 1 + 1)) := rfl
theorem qb_9_2 {σ : qa_S} : ma_9_3 (-2 : Int32) σ = ((-2 : Int32), qa_u σ 93 2 (σ 93 2 + 1)) := by unfold ma_9_3; dsimp only [qa_in]; rw [if_pos (by decide), if_pos (by decide)]; rfl
theorem qb_152_2 {σ : qa_S} : ma_152_99 (-2 : Int32) σ = ((-2 : Int32), qa_u σ 107 2 (σ 107 2 + 1)) := rfl
theorem qb_9_3 {σ : qa_S} : ma_9_3 (-3 : Int32) σ = ((-3 : Int32), qa_u σ 93 3 (σ 93 3 + 1)) := by unfold ma_9_3; dsimp only [qa_in]; rw [if_pos (by decide), if_pos (by decide)]; rfl
theorem qb_152_3 {σ : qa_S} : ma_152_99 (-3 : Int32) σ = ((-3 : Int32), qa_u σ 107 3 (σ 107 3 + 1)) := rfl
theorem qb_9_4 {σ : qa_S} : ma_9_3 (-4 : Int32) σ = ((-4 : Int32), qa_u σ 93 4 (σ 93 4 + 1)) := by unfold ma_9_3; dsimp only [qa_in]; rw [if_pos (by decide), if_pos (by decide)]; rfl
theorem qb_152_4 {σ : qa_S} : ma_152_99 (-4 : Int32) σ = ((-4 : Int32), qa_u σ 107 4 (σ 107 4 + 1)) := rfl
theorem qb_9_5 {σ : qa_S} : ma_9_3 (-5 : Int32) σ = ((-5 : Int32), qa_u σ 93 5 (σ 93 5 + 1)) := by unfold ma_9_3; dsimp only [qa_in]; rw [if_pos (by decide), if_pos (by decide)]; rfl
theorem qb_152_5 {σ : qa_S} : ma_152_99 (-5 : Int32) σ = ((-5 : Int32), qa_u σ 107 5 (σ 107 5 + 1)) := rfl
theorem qb_9_6 {σ : qa_S} : ma_9_3 (-6 : Int32) σ = ((-6 : Int32), qa_u σ 93 6 (σ 93 6 + 1)) := by unfold ma_9_3; dsimp only [qa_in]; rw [if_pos (by decide), if_pos (by decide)]; rfl
theorem qb_152_6 {σ : qa_S} : ma_152_99 (-6 : Int32) σ = ((-6 : Int32), qa_u σ 107 6 (σ 107 6 + 1)) := rfl
def qb_tv (σ : qa_S) (j i : Nat) : Int32 := σ 119 (69 * j + i)
theorem qb_i69 : ∀ t, t < 8 → ∀ k, k < 69 → ((69 : Int32) * nI t + nI k).toNatClampNeg = 69 * t + k := by decide +kernel
theorem qb_s69 {k : Nat} : nI (69 + k) - (69 : Int32) = nI k := by
  have h : nI (69 + k) = (69 : Int32) + nI k := Int32.ofNat_add 69 k
  rw [h, Int32.add_comm]
  exact Int32.add_sub_cancel _ _
/-- the turns move down -/
theorem qb_176a {σ : qa_S} {N : Nat} (hN : 1000 ≤ N) : (∀ i, i < 483 → (qa_wh (fun s => s) (mc_176_99_p12 N) N ((69 : Int32), σ)).2 119 i = σ 119 (69 + i)) ∧ qb_F (fun a _ => a = 119) σ (qa_wh (fun s => s) (mc_176_99_p12 N) N ((69 : Int32), σ)).2 := by
  refine qb_l0 (fun (k : Nat) (s : Int32 × qa_S) => s.1 = nI (69 + k) ∧ (∀ i, i < k → s.2 119 i = σ 119 (69 + i)) ∧ (∀ i, k ≤ i → s.2 119 i = σ 119 i) ∧ qb_F (fun a _ => a = 119) σ s.2) (fun (x : Int32 × qa_S) => (∀ i, i < 483 → x.2 119 i = σ 119 (69 + i)) ∧ qb_F (fun a _ => a = 119) σ x.2) 483 (by omega) ⟨rfl, fun i hi => by omega, fun i _ => rfl, qb_Fr⟩ ?_ ?_
  · rintro k ⟨s1, s2⟩ hk ⟨h1, h2, h3, h4⟩
    dsimp only at h1 h2 h3 h4
    subst h1
    unfold mc_176_99_p12
    dsimp only [qa_in]
    rw [if_pos (show nI (69 + k) < (552 : Int32) from qb_ltT (b := 552) (by omega) (by omega)), qb_s69, qb_n (k := k) (by omega), qb_n (k := 69 + k) (by omega)]
    refine ⟨_, rfl, qb_s, fun i hi => ?_, fun i hi => ?_, fun a j h => ?_⟩
    · dsimp only
      rw [qb_uJ]
      by_cases e : i = k
      · rw [if_pos e, e]; exact h3 _ (by omega)
      · rw [if_neg e]; exact h2 i (by omega)
    · dsimp only
      rw [qb_uN (by omega)]; exact h3 i (by omega)
    · dsimp only
      rw [qb_uA h]; exact h4 a j h
  · rintro ⟨s1, s2⟩ ⟨h1, h2, h3, h4⟩
    dsimp only at h1 h2 h3 h4
    subst h1
    unfold mc_176_99_p12
    dsimp only [qa_in]
    rw [if_neg (show ¬ nI (69 + 483) < (552 : Int32) from qb_ltF (b := 552) (by omega) (by omega))]
    exact ⟨_, rfl, h2, h4⟩
theorem qb_176b {σ : qa_S} {N t : Nat} (hN : 1000 ≤ N) (ht : t < 8) (h : σ 99 32 = nI t) : (∀ i, i < 69 → qb_tv (qa_wh (fun s => s) (mc_176_99_p61 N) N ((0 : Int32), σ)).2 t i = σ 120 i) ∧ (∀ j i, j ≠ t → i < 69 → qb_tv (qa_wh (fun s => s) (mc_176_99_p61 N) N ((0 : Int32), σ)).2 j i = qb_tv σ j i) ∧ qb_F (fun a _ => a = 119) σ (qa_wh (fun s => s) (mc_176_99_p61 N) N ((0 : Int32), σ)).2 := by
  refine qb_l0 (fun (k : Nat) (s : Int32 × qa_S) => s.1 = nI k ∧ (∀ i, i < k → qb_tv s.2 t i = σ 120 i) ∧ (∀ j i, j ≠ t → i < 69 → qb_tv s.2 j i = qb_tv σ j i) ∧ qb_F (fun a _ => a = 119) σ s.2) (fun (x : Int32 × qa_S) => (∀ i, i < 69 → qb_tv x.2 t i = σ 120 i) ∧ (∀ j i, j ≠ t → i < 69 → qb_tv x.2 j i = qb_tv σ j i) ∧ qb_F (fun a _ => a = 119) σ x.2) 69 (by omega) ⟨rfl, fun i hi => by omega, fun _ _ _ _ => rfl, qb_Fr⟩ ?_ ?_
  · rintro k ⟨s1, s2⟩ hk ⟨h1, h2, h3, h4⟩
    dsimp only at h1 h2 h3 h4
    subst h1
    unfold mc_176_99_p61
    dsimp only [qa_in]
    rw [if_pos (show nI k < (69 : Int32) from qb_ltT (b := 69) (by omega) (by omega)), h4 99 32 (by omega), h, qb_i69 t ht k hk, qb_n (k := k) (by omega), h4 120 k (by omega)]
    refine ⟨_, rfl, qb_s, fun i hi => ?_, fun j i hj hi => ?_, fun a j h => ?_⟩
    · unfold qb_tv
      dsimp only
      rw [qb_uJ]
      by_cases e : i = k
      · rw [if_pos (by omega), e]
      · rw [if_neg (by omega)]; exact h2 i (by omega)
    · unfold qb_tv
      dsimp only
      rw [qb_uN (by omega)]; exact h3 j i hj hi
    · dsimp only
      rw [qb_uA h]; exact h4 a j h
  · rintro ⟨s1, s2⟩ ⟨h1, h2, h3, h4⟩
    dsimp only at h1 h2 h3 h4
    subst h1
    unfold mc_176_99_p61
    dsimp only [qa_in]
    rw [if_neg (show ¬ nI 69 < (69 : Int32) from qb_ltF (b := 69) (by omega) (by omega))]
    exact ⟨_, rfl, h2, h3, h4⟩
/-- what one change more makes of k kept ones: how many stay ahead of it, and from which on -/
def qb_kp (k : Nat) : Nat := if k = 8 then 7 else k
def qb_ks (k : Nat) : Nat := if k = 8 then 1 else 0
def qb_w176 (a j : Nat) : Prop := a = 119 ∨ a = 120 ∨ (a = 99 ∧ (j = 32 ∨ (27 ≤ j ∧ j ≤ 29)))
theorem qb_176 {σ : qa_S} {N k : Nat} (hN : 1000 ≤ N) (hk : k ≤ 8) (h : σ 99 32 = nI k) : ma_176_99 N σ 99 32 = nI (qb_kp k + 1) ∧ (∀ j i, j < qb_kp k → i < 69 → qb_tv (ma_176_99 N σ) j i = qb_tv σ (j + qb_ks k) i) ∧ (∀ i, i < 69 → qb_tv (ma_176_99 N σ) (qb_kp k) i = qb_gm σ i) ∧ qb_F qb_w176 σ (ma_176_99 N σ) := by
  unfold ma_176_99
  dsimp only [qa_in]
  obtain ⟨m, em⟩ : ∃ m, m = (if σ 99 32 = (8 : Int32) then qa_u (qa_wh (fun s => s) (mc_176_99_p12 N) N ((69 : Int32), σ)).2 99 32 ((qa_wh (fun s => s) (mc_176_99_p12 N) N ((69 : Int32), σ)).2 99 32 - 1) else σ) := ⟨_, rfl⟩
  rw [← em]
  have m1 : m 99 32 = nI (qb_kp k) ∧ (∀ j i, j < qb_kp k → i < 69 → qb_tv m j i = qb_tv σ (j + qb_ks k) i) ∧ qb_F (fun a j => a = 119 ∨ (a = 99 ∧ j = 32)) σ m := by
    rw [em]
    obtain ⟨a1, a2⟩ := qb_176a (σ := σ) hN
    by_cases e : k = 8
    · have : σ 99 32 = (8 : Int32) := by rw [h, e]; rfl
      rw [if_pos this]
      unfold qb_kp qb_ks
      rw [if_pos e, if_pos e]
      refine ⟨?_, fun j i hj hi => ?_, fun a j hh => ?_⟩
      · rw [qb_uE, a2 99 32 (by omega), this]; rfl
      · unfold qb_tv
        rw [qb_uA (by omega), a1 _ (by omega)]
        congr 1
        omega
      · rw [qb_uN (by omega)]
        exact a2 a j (by omega)
    · rw [if_neg (fun c => e (by
        rw [h] at c
        exact (qb_eq (b := 8) (by omega) (by decide)).mp c))]
      unfold qb_kp qb_ks
      rw [if_neg e, if_neg e]
      exact ⟨h, fun _ _ _ _ => rfl, qb_Fr⟩
  obtain ⟨m1, m2, m3⟩ := m1
  have kp : qb_kp k < 8 := by unfold qb_kp; by_cases e : k = 8 <;> simp only [e, if_true, if_false] <;> omega
  obtain ⟨c1, c2⟩ := qb_159_120T (σ := m) (N := N) (by omega)
  have t1 : ma_159_99_120 N 1 m 99 32 = nI (qb_kp k) := (c2 99 32 (by omega)).trans m1
  obtain ⟨d1, d2, d3⟩ := qb_176b (σ := ma_159_99_120 N 1 m) hN kp t1
  refine ⟨?_, fun j i hj hi => ?_, fun i hi => ?_, fun a j hh => ?_⟩
  · rw [qb_uE, d3 99 32 (by omega), t1, qb_s]
  · unfold qb_tv
    rw [qb_uA (by omega)]
    have := d2 j i (by omega) hi
    unfold qb_tv at this
    rw [this, c2 _ _ (by omega)]
    exact m2 j i hj hi
  · unfold qb_tv
    rw [qb_uA (by omega)]
    have := d1 i hi
    unfold qb_tv at this
    rw [this, c1 i hi]
    exact qb_mF m3 (fun b j hb => by omega) hi
  · unfold qb_w176 at hh
    rw [qb_uN (by omega), d3 a j (by omega), c2 a j (by omega), m3 a j (by omega)]
theorem qb_cpK {σ : qa_S} {a sp b n i : Nat} (h : i < n) : qa_cp σ a sp b 0 n b i = σ a (sp + i) := by unfold qa_cp; rw [if_pos ⟨rfl, Nat.zero_le _, by omega⟩]; congr 1
def qb_w37 (a j : Nat) : Prop := (86 ≤ a ∧ a ≤ 88) ∨ (a = 85 ∧ j = 0)
/-- the class keeps a change -/
theorem qb_37 {σ : qa_S} {k : Nat} {c f w : Int32} (hk : k ≤ 8) (h : σ 85 0 = nI k) : ma_37_85 c f w σ 85 0 = nI (qb_kp k + 1) ∧ (∀ j, j < qb_kp k → ma_37_85 c f w σ 86 j = σ 86 (j + qb_ks k) ∧ ma_37_85 c f w σ 87 j = σ 87 (j + qb_ks k) ∧ ma_37_85 c f w σ 88 j = σ 88 (j + qb_ks k)) ∧ (ma_37_85 c f w σ 86 (qb_kp k) = c ∧ ma_37_85 c f w σ 87 (qb_kp k) = f ∧ ma_37_85 c f w σ 88 (qb_kp k) = w) ∧ qb_F qb_w37 σ (ma_37_85 c f w σ) := by
  unfold ma_37_85
  dsimp only [qa_in]
  obtain ⟨m, em⟩ : ∃ m, m = (if σ 85 0 < (8 : Int32) then σ else ma_38_85 σ) := ⟨_, rfl⟩
  rw [← em]
  have m1 : m 85 0 = nI (qb_kp k) ∧ (∀ j, j < qb_kp k → m 86 j = σ 86 (j + qb_ks k) ∧ m 87 j = σ 87 (j + qb_ks k) ∧ m 88 j = σ 88 (j + qb_ks k)) ∧ qb_F qb_w37 σ m := by
    rw [em]
    by_cases e : k = 8
    · rw [if_neg (by rw [h, e]; decide)]
      unfold qb_kp qb_ks ma_38_85
      dsimp only [qa_in]
      rw [if_pos e, if_pos e]
      refine ⟨by rw [qb_uE]; rfl, fun j hj => ⟨?_, ?_, ?_⟩, fun a j hh => ?_⟩
      · rw [qb_uA (by omega), qb_cpA (by omega), qb_cpA (by omega), qb_cpK hj, Nat.add_comm]
      · rw [qb_uA (by omega), qb_cpA (by omega), qb_cpK hj, qb_cpA (by omega), Nat.add_comm]
      · rw [qb_uA (by omega), qb_cpK hj, qb_cpA (by omega), qb_cpA (by omega), Nat.add_comm]
      · unfold qb_w37 at hh
        rw [qb_uN (by omega), qb_cpA (by omega), qb_cpA (by omega), qb_cpA (by omega)]
    · rw [if_pos (by rw [h]; exact qb_ltT (b := 8) (by omega) (by omega))]
      unfold qb_kp qb_ks
      rw [if_neg e, if_neg e]
      exact ⟨h, fun j _ => ⟨rfl, rfl, rfl⟩, qb_Fr⟩
  obtain ⟨m1, m2, m3⟩ := m1
  have kp : qb_kp k < 8 := by unfold qb_kp; by_cases e : k = 8 <;> simp only [e, if_true, if_false] <;> omega
  have u1 : ∀ {x : Int32} {i : Nat}, qa_u m 86 i x 85 0 = nI (qb_kp k) := by intros; rw [qb_uA (by omega)]; exact m1
  have u2 : ∀ {x y : Int32} {i l : Nat}, qa_u (qa_u m 86 i x) 87 l y 85 0 = nI (qb_kp k) := by intros; rw [qb_uA (by omega)]; exact u1
  have u3 : ∀ {x y z : Int32} {i l n : Nat}, qa_u (qa_u (qa_u m 86 i x) 87 l y) 88 n z 85 0 = nI (qb_kp k) := by intros; rw [qb_uA (by omega)]; exact u2
  rw [m1, qb_n (k := qb_kp k) (by omega), u1, qb_n (k := qb_kp k) (by omega), u2, qb_n (k := qb_kp k) (by omega), u3, qb_s]
  refine ⟨qb_uE, fun j hj => ⟨?_, ?_, ?_⟩, ⟨?_, ?_, ?_⟩, fun a j hh => ?_⟩
  · rw [qb_uA (by omega), qb_uA (by omega), qb_uA (by omega), qb_uN (by omega)]; exact (m2 j hj).1
  · rw [qb_uA (by omega), qb_uA (by omega), qb_uN (by omega), qb_uA (by omega)]; exact (m2 j hj).2.1
  · rw [qb_uA (by omega), qb_uN (by omega), qb_uA (by omega), qb_uA (by omega)]; exact (m2 j hj).2.2
  · rw [qb_uA (by omega), qb_uA (by omega), qb_uA (by omega), qb_uE]
  · rw [qb_uA (by omega), qb_uA (by omega), qb_uE]
  · rw [qb_uA (by omega), qb_uE]
  · have h2 := hh
    unfold qb_w37 at h2
    rw [qb_uN (by omega), qb_uA (by omega), qb_uA (by omega), qb_uA (by omega)]
    exact m3 a j hh
/-- a change taken back -/
noncomputable def qb_U (c f w : Int32) (V : Nat → Int32) : Nat → Int32 :=
  if f = -1 then qb_set V (4 + 3 * c.toNatClampNeg) w
  else if f = 4 then qb_set (qb_set V (2 + 3 * c.toNatClampNeg) (w / 10)) (3 + 3 * c.toNatClampNeg) (w - w / 10 * 10)
  else if ma_26 f = 0 then V
  else qb_set V (23 + 4 * c.toNatClampNeg + f.toNatClampNeg) w
theorem qb_26 {x : Int32} (h : ¬ ma_26 x = 0) : ∃ m, x = nI m ∧ m < 4 := by
  unfold ma_26 at h
  by_cases h1 : x < 0
  · rw [if_pos h1] at h; exact absurd rfl h
  · rw [if_neg h1] at h
    by_cases h2 : x < 4
    · have h1 : ¬ x.toInt < (0 : Int32).toInt := fun c => h1 (Int32.lt_iff_toInt_lt.mpr c)
      have h2 := Int32.lt_iff_toInt_lt.mp h2
      have z : (0 : Int32).toInt = 0 := by decide
      have f : (4 : Int32).toInt = 4 := by decide
      exact ⟨x.toInt.toNat, q53_nI (by omega), by omega⟩
    · rw [if_neg h2] at h; exact absurd rfl h
def qb_w42 (a j : Nat) : Prop := (5 ≤ a ∧ a ≤ 7) ∨ (9 ≤ a ∧ a ≤ 15) ∨ (a = 85 ∧ j = 0)
theorem qb_42 {σ : qa_S} {k u n : Nat} {V : Nat → Int32} (hk : k < 8) (h : σ 85 0 = nI (k + 1)) (hV : ∀ i, i < 69 → qb_gc 4 σ i = V i) (hc : σ 86 k = nI u) (hn : σ 4 0 = nI n) (hu : u < n) (hn7 : n ≤ 7) : ma_42_85_4 σ 85 0 = nI k ∧ (∀ i, i < 69 → qb_gc 4 (ma_42_85_4 σ) i = qb_U (σ 86 k) (σ 87 k) (σ 88 k) V i) ∧ qb_F qb_w42 σ (ma_42_85_4 σ) := by
  unfold ma_42_85_4
  rw [if_neg (by rw [h]; exact qb_ltF (b := 1) (by omega) (by omega))]
  dsimp only [qa_in]
  obtain ⟨m, em⟩ : ∃ m, m = qa_u σ 85 0 (σ 85 0 - 1) := ⟨_, rfl⟩
  rw [← em]
  have m0 : m 85 0 = nI k := by rw [em, qb_uE, h]; exact qb_sm
  have mo : ∀ a j, a ≠ 85 → m a j = σ a j := fun a j ha => by rw [em]; exact qb_uA ha
  rw [m0, qb_n (k := k) (by omega), mo 86 k (by omega), mo 87 k (by omega), mo 88 k (by omega), hc, qb_n (k := u) (by omega)]
  have mV : ∀ i, i < 69 → qb_gc 4 m i = V i := fun i hi => by
    rw [em]
    exact (qb_cF (w := fun a _ => a = 85) (fun a j ha => qb_uA ha) (fun b j hb => by omega) hi).trans (hV i hi)
  have mF : qb_F qb_w42 σ m := by rw [em]; exact qb_Fu (Or.inr (Or.inr ⟨rfl, rfl⟩))
  have e22 : ¬ ma_22_4 (nI u) m = 0 := by
    unfold ma_22_4
    rw [if_neg (show ¬ nI u < (0 : Int32) from qb_ltF (b := 0) (by omega) (by omega)), if_pos (by rw [mo 4 0 (by omega), hn]; exact qb_ltT hu (by omega))]
    decide
  rw [if_neg e22]
  unfold qb_U
  by_cases f1 : σ 87 k = -1
  · rw [if_pos f1, if_pos f1]
    refine ⟨by rw [qb_uA (by omega)]; exact m0, ?_, fun a j hh => ?_⟩
    · rw [qb_n (k := u) (by omega)]; exact qb_cs mV (by omega) (qb_cS (by omega))
    · have h2 := hh
      unfold qb_w42 at h2
      rw [qb_uA (by omega)]; exact mF a j hh
  rw [if_neg f1, if_neg f1]
  by_cases f2 : σ 87 k = 4
  · rw [if_pos f2, if_pos f2]
    refine ⟨by rw [qb_uA (by omega), qb_uA (by omega)]; exact m0, ?_, fun a j hh => ?_⟩
    · rw [qb_n (k := u) (by omega)]; exact qb_cs (qb_cs mV (by omega) (qb_cK (by omega))) (by omega) (qb_cG (by omega))
    · have h2 := hh
      unfold qb_w42 at h2
      rw [qb_uA (by omega), qb_uA (by omega)]; exact mF a j hh
  rw [if_neg f2, if_neg f2]
  by_cases f3 : ma_26 (σ 87 k) = 0
  · rw [if_pos f3, if_pos f3]
    exact ⟨m0, mV, mF⟩
  rw [if_neg f3, if_neg f3]
  obtain ⟨x, hx, x4⟩ := qb_26 f3
  rw [hx, qb_n (k := x) (by omega)]
  refine ⟨by rw [qb_uA (by omega)]; exact m0, ?_, fun a j hh => ?_⟩
  · rw [qb_n (k := u) (by omega)]; exact qb_cs mV (by omega) (qb_cM (by omega) x4)
  · have h2 := hh
    unfold qb_w42 at h2
    rw [qb_uA (by omega)]; exact mF a j hh
/-- the reference takes its latest turn -/
theorem qb_168 {σ : qa_S} {N t : Nat} (hN : 1000 ≤ N) (ht : t < 8) (h : σ 99 32 = nI t) : (∀ i, i < 69 → (qa_wh (fun s => s) (mc_168_99_p31 N) N ((0 : Int32), σ)).2 120 i = qb_tv σ t i) ∧ qb_F (fun a _ => a = 120) σ (qa_wh (fun s => s) (mc_168_99_p31 N) N ((0 : Int32), σ)).2 := by
  refine qb_l0 (fun (k : Nat) (s : Int32 × qa_S) => s.1 = nI k ∧ (∀ i, i < k → s.2 120 i = qb_tv σ t i) ∧ qb_F (fun a _ => a = 120) σ s.2) (fun (x : Int32 × qa_S) => (∀ i, i < 69 → x.2 120 i = qb_tv σ t i) ∧ qb_F (fun a _ => a = 120) σ x.2) 69 (by omega) ⟨rfl, fun i hi => by omega, qb_Fr⟩ ?_ ?_
  · rintro k ⟨s1, s2⟩ hk ⟨h1, h2, h4⟩
    dsimp only at h1 h2 h4
    subst h1
    unfold mc_168_99_p31
    dsimp only [qa_in]
    rw [if_pos (show nI k < (69 : Int32) from qb_ltT (b := 69) (by omega) (by omega)), h4 99 32 (by omega), h, qb_i69 t ht k hk, qb_n (k := k) (by omega), h4 119 _ (by omega)]
    refine ⟨_, rfl, qb_s, fun i hi => ?_, fun a j h => ?_⟩
    · dsimp only
      rw [qb_uJ]
      by_cases e : i = k
      · rw [if_pos e, e]; rfl
      · rw [if_neg e]; exact h2 i (by omega)
    · dsimp only
      rw [qb_uA h]; exact h4 a j h
  · rintro ⟨s1, s2⟩ ⟨h1, h2, h4⟩
    dsimp only at h1 h2 h4
    subst h1
    unfold mc_168_99_p31
    dsimp only [qa_in]
    rw [if_neg (show ¬ nI 69 < (69 : Int32) from qb_ltF (b := 69) (by omega) (by omega))]
    exact ⟨_, rfl, h2, h4⟩
