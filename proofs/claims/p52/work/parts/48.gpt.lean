/-! patterns and contracts of the general walk -/
/-- a state within a pattern -/
def q60_in (ρ : List Int) (M : q4_M) (P : q50_P) (lv : List (Nat × Value)) : Prop := q52_E ρ P.1 ∧ q52_R ρ M P.1.2.2.2 ∧ q52_L ρ P.2.2 lv
def q60_out (ρ0 : List Int) (M : q4_M) (P : q50_P) (v : Option Value) : Prop := ∃ ρ', q52_e ρ0 ρ' ∧ q52_E ρ' P.1 ∧ q52_R ρ' M P.1.2.2.2 ∧ (match P.2.2, v with
  | [], none => True
  | q :: _, some x => q52_g ρ' q.2 x
  | _, _ => False)
/-- what is known besides of the changes kept: a share kept is not large -/
def q60_J (M : q4_M) : Prop := ∀ i, i < 8 → ∀ v : Int32, (M.2 87).2.2 i = .int (-1) → (M.2 88).2.2 i = .int v → v.toInt ≤ 207
theorem q60_JF {W : q50_W} {M M' : q4_M} (h : q52_F (q50_nj W) M M') (hJ : q60_J M) : q60_J M' := by
  intro i hi v h1 h2
  have key : ∀ a j, (a = 87 ∨ a = 88) → q50_iw (q50_nj W) a j = false := by
    intro a j ha
    cases hb : q50_iw (q50_nj W) a j with
    | false => rfl
    | true =>
      exfalso
      unfold q50_iw at hb
      obtain ⟨w, hw, hwb⟩ := List.any_eq_true.mp hb
      unfold q50_nj at hw
      obtain ⟨-, hw2⟩ := List.mem_filter.mp hw
      simp only [Bool.and_eq_true, Bool.not_eq_true', q54_bq, decide_eq_true_eq, decide_eq_false_iff_not] at hw2 hwb
      omega
  rw [h.2 87 i (key 87 i (Or.inl rfl))] at h1
  rw [h.2 88 i (key 88 i (Or.inr rfl))] at h2
  exact hJ i hi v h1 h2
/-- the contract is kept -/
def q60_V (c : q50_C) : Prop := ∀ (ρ0 : List Int) (M : q4_M) (lv : List (Nat × Value)), q52_M M → q60_J M → q60_in ρ0 M c.2.1 lv → ∃ (f : Nat) (v : Option Value) (M' : q4_M), q4_run f c.1 0 lv [] M 0 0 = some (v, M') ∧ q52_M M' ∧ q60_J M' ∧ q52_F c.2.2.1 M M' ∧ ∃ P ∈ c.2.2.2.2, q60_out ρ0 M' P v
/-- numbers for the values of a list -/
def q60_D (ρ : List Int) (sg : List q50_V) (zs : List Int) : Prop := zs.length = sg.length ∧ ∀ (n : Nat) (u : q50_V), sg[n]? = some u → ∃ z, zs[n]? = some z ∧ q52_d ρ u z
theorem q60_Dm {ρ ρ' : List Int} {sg : List q50_V} {zs : List Int} (e : q52_e ρ ρ') (h : q60_D ρ sg zs) : q60_D ρ' sg zs := ⟨h.1, fun n u hu => by
  obtain ⟨z, h1, h2⟩ := h.2 n u hu
  exact ⟨z, h1, q54_dm e h2⟩⟩
theorem q60_num {ρ : List Int} {S : q50_S} {v : q50_V} {q : Int × Int} {x : Value} (h : q50_iv S v = some q) (hg : q52_g ρ v x) : ∃ z, q52_d ρ v z := by
  rcases hg with ⟨-, w, -, h2⟩ | ⟨-, w, -, h2⟩ | ⟨h1, -⟩ | ⟨h1, -⟩
  · exact ⟨_, h2⟩
  · exact ⟨_, h2⟩
  · obtain ⟨t, a, b⟩ := v
    have h1 : t = 6 := h1
    subst h1
    cases h
  · obtain ⟨t, a, b⟩ := v
    have h1 : t = 8 := h1
    subst h1
    cases h
theorem q60_home {ρ : List Int} {S : q50_S} {M : q4_M} {lv : List (Nat × q50_V)} {lvc : List (Nat × Value)} {h : q50_H} {v : q50_V} {q : Int × Int} (hE : q52_E ρ S) (hR : q52_R ρ M S.2.2.2) (hL : q52_L ρ lv lvc) (hh : q50_home S lv h = some v) (hq : q50_iv S v = some q) : ∃ z, q52_d ρ v z := by
  unfold q50_home at hh
  split at hh
  · obtain ⟨x, -, gx⟩ := q54_look hL hh
    exact q60_num hq gx
  · obtain ⟨z, -, gx⟩ := q57_rf hR hh
    exact q60_num hq gx
  · next i _ =>
    cases hb : Nat.blt i S.1 with
    | false => rw [hb] at hh; cases hh
    | true =>
      rw [hb] at hh
      cases hh
      have hi : i < ρ.length := by rw [hE.1]; exact Nat.le_of_ble_eq_true hb
      exact ⟨ρ[i] + 0, ρ[i], List.getElem?_eq_getElem hi, rfl⟩
  · cases hh
theorem q60_homes {ρ : List Int} {S : q50_S} {M : q4_M} {lv : List (Nat × q50_V)} {lvc : List (Nat × Value)} {T : q50_T 12} (hE : q52_E ρ S) (hR : q52_R ρ M S.2.2.2) (hL : q52_L ρ lv lvc) : ∀ {hs : List q50_H} {sg : List q50_V} (i : Nat), q50_homes S lv hs = some sg → q50_ivs S T i sg = true → ∃ zs, q60_D ρ sg zs ∧ ∀ n z, zs[n]? = some z → (q50_tg 12 T (i + n)).1 ≤ z ∧ z ≤ (q50_tg 12 T (i + n)).2
  | [], sg, i, h, _ => by
    cases h
    exact ⟨[], ⟨rfl, fun n u hu => by simp at hu⟩, fun n z hz => by simp at hz⟩
  | h0 :: hs, sg, i, h, hv => by
    unfold q50_homes at h
    split at h
    · next v hv0 =>
      split at h
      · next vs hvs =>
        cases h
        unfold q50_ivs at hv
        simp only [Bool.and_eq_true] at hv
        obtain ⟨hv1, hv2⟩ := hv
        split at hv1
        · next x y hq =>
          simp only [Bool.and_eq_true, decide_eq_true_eq] at hv1
          obtain ⟨z, dz⟩ := q60_home hE hR hL hv0 hq
          have bz := q54_iv hE hq dz
          dsimp only at bz
          obtain ⟨zs, d1, d2⟩ := q60_homes hE hR hL (i + 1) hvs hv2
          refine ⟨z :: zs, ⟨by simp [d1.1], fun n u hu => ?_⟩, fun n y hy => ?_⟩
          · cases n with
            | zero =>
              have hu : v = u := by simpa using hu
              subst hu
              exact ⟨z, rfl, dz⟩
            | succ n =>
              obtain ⟨y, y1, y2⟩ := d1.2 n u (by simpa using hu)
              exact ⟨y, by simpa using y1, y2⟩
          · cases n with
            | zero =>
              have hy : z = y := by simpa using hy
              subst hy
              rw [Nat.add_zero]
              omega
            | succ n =>
              have := d2 n y (by simpa using hy)
              rw [show i + (n + 1) = i + 1 + n by omega]
              exact this
        · cases hv1
      · cases h
    · cases h
theorem q60_same {ρ : List Int} {S : q50_S} {v w : q50_V} {c x y : Int} (hE : q52_E ρ S) (h : q50_same S v w c = true) (hx : q52_d ρ v x) (hy : q52_d ρ w y) : x = y + c := by
  unfold q50_same at h
  simp only [Bool.or_eq_true, Bool.and_eq_true, decide_eq_true_eq] at h
  rcases h with ⟨⟨⟨h1, h2⟩, h3⟩, h4⟩ | h
  · obtain ⟨a, ha, ea⟩ := q56_symd h1 hx
    obtain ⟨b, hb, eb⟩ := q56_symd h2 hy
    rw [h3, hb] at ha
    cases ha
    omega
  · split at h
    · next a b ha hb =>
      have h := of_decide_eq_true h
      have e1 := q54_cst hE ha hx
      have e2 := q54_cst hE hb hy
      omega
    · cases h
theorem q60_lfd {ρ : List Int} {F : List (Nat × Nat × Int)} (hF : ∀ f ∈ F, ∃ x y, ρ[f.1]? = some x ∧ ρ[f.2.1]? = some y ∧ x + f.2.2 ≤ y) : ∀ (d i j : Nat) (c x y : Int), q50_lfd F d i j c = true → ρ[i]? = some x → ρ[j]? = some y → x + c ≤ y := by
  have base : ∀ (i j : Nat) (c x y : Int), (Nat.beq i j && decide (c ≤ 0)) = true → ρ[i]? = some x → ρ[j]? = some y → x + c ≤ y := by
    intro i j c x y h hx hy
    simp only [Bool.and_eq_true, decide_eq_true_eq] at h
    have e := Nat.eq_of_beq_eq_true h.1
    subst e
    rw [hx] at hy
    cases hy
    omega
  intro d
  induction d with
  | zero => intro i j c x y h hx hy; exact base i j c x y h hx hy
  | succ d ih =>
    intro i j c x y h hx hy
    unfold q50_lfd at h
    rw [Bool.or_eq_true] at h
    rcases h with h | h
    · exact base i j c x y h hx hy
    · obtain ⟨f, hf, hb⟩ := List.any_eq_true.mp h
      rw [Bool.and_eq_true] at hb
      have e := Nat.eq_of_beq_eq_true hb.1
      obtain ⟨u, t, hu, ht, hut⟩ := hF f hf
      rw [e, hy] at ht
      cases ht
      have := ih i f.1 (c - f.2.2) x u hb.2 hx hu
      omega
theorem q60_lf {ρ : List Int} {S : q50_S} {v w : q50_V} {c x y : Int} (hE : q52_E ρ S) (h : q50_lf S v w c = true) (hx : q52_d ρ v x) (hy : q52_d ρ w y) : x + c ≤ y := by
  unfold q50_lf at h
  simp only [Bool.or_eq_true, Bool.and_eq_true, decide_eq_true_eq] at h
  rcases h with h | ⟨⟨⟨⟨h1, h2⟩, h3⟩, h4⟩, h⟩
  · split at h
    · next a b ha hb =>
      have h := of_decide_eq_true h
      have e1 := q54_iv hE ha hx
      have e2 := q54_iv hE hb hy
      omega
    · cases h
  · obtain ⟨a, ha, ea⟩ := q56_symd h1 hx
    obtain ⟨b, hb, eb⟩ := q56_symd h2 hy
    have := q60_lfd hE.2.2.2 _ _ _ _ _ _ h ha hb
    omega
theorem q60_sb {ρ : List Int} {S : q50_S} {sg : List q50_V} {zs : List Int} {v w : q50_V} {x : Value} (hE : q52_E ρ S) (hD : q60_D ρ sg zs) (h : q50_sb S sg v w = true) (hg : q52_g ρ v x) : q52_g zs w x := by
  unfold q50_sb at h
  split at h
  · next lo hi =>
    simp only [Bool.and_eq_true] at h
    obtain ⟨u, rfl, du⟩ := q54_gi h.1 hg
    have h2 := h.2
    split at h2
    · next a b hq =>
      simp only [Bool.and_eq_true, decide_eq_true_eq] at h2
      have := q54_iv hE hq du
      dsimp only at this
      exact q55_iv0 (by omega) (by omega)
    · cases h2
  · next i c =>
    simp only [Bool.and_eq_true] at h
    obtain ⟨u, rfl, du⟩ := q54_gi h.1 hg
    have h2 := h.2
    split at h2
    · next s hs =>
      obtain ⟨z, z1, z2⟩ := hD.2 _ _ hs
      exact Or.inl ⟨rfl, u, rfl, z, z1, q60_same hE h2 du z2⟩
    · cases h2
  · next lo hi =>
    simp only [Bool.and_eq_true] at h
    obtain ⟨u, rfl, du⟩ := q54_gl h.1 hg
    have h2 := h.2
    split at h2
    · next a b hq =>
      simp only [Bool.and_eq_true, decide_eq_true_eq] at h2
      have := q54_iv hE hq du
      dsimp only at this
      exact Or.inr (Or.inl ⟨rfl, u, rfl, by omega, by omega⟩)
    · cases h2
  · next i c =>
    simp only [Bool.and_eq_true] at h
    obtain ⟨u, rfl, du⟩ := q54_gl h.1 hg
    have h2 := h.2
    split at h2
    · next s hs =>
      obtain ⟨z, z1, z2⟩ := hD.2 _ _ hs
      exact Or.inr (Or.inl ⟨rfl, u, rfl, z, z1, q60_same hE h2 du z2⟩)
    · cases h2
  · next lo hi =>
    simp only [Bool.and_eq_true, decide_eq_true_eq] at h
    obtain ⟨r, rfl, h1, h2⟩ := q54_gr (Nat.eq_of_beq_eq_true h.1.1) hg
    exact Or.inr (Or.inr (Or.inl ⟨rfl, r, rfl, by dsimp only; omega, by dsimp only; omega⟩))
  · exact Or.inr (Or.inr (Or.inr ⟨rfl, (q54_cat hg).trans (Nat.eq_of_beq_eq_true h)⟩))
  · cases h
theorem q60_ens {M : q4_M} (hM : q52_M M) : ∀ {hs : List q50_H} {ρ : List Int} {S : q50_S}, q52_E ρ S → q52_R ρ M S.2.2.2 → ∃ ρ', q52_e ρ ρ' ∧ q52_E ρ' (q50_ens S hs) ∧ q52_R ρ' M (q50_ens S hs).2.2.2
  | [], ρ, S, hE, hR => ⟨ρ, q54_er ρ, hE, hR⟩
  | (0, _, _) :: hs, ρ, S, hE, hR => q60_ens (hs := hs) hM hE hR
  | (1, a, j) :: hs, ρ, S, hE, hR => by
    show ∃ ρ', q52_e ρ ρ' ∧ q52_E ρ' (bif Nat.blt 0 a && Nat.blt a 124 && Nat.blt j (q51_len a) then q50_ens (q50_gf S a j).1 hs else q50_ens S hs) ∧ q52_R ρ' M (bif Nat.blt 0 a && Nat.blt a 124 && Nat.blt j (q51_len a) then q50_ens (q50_gf S a j).1 hs else q50_ens S hs).2.2.2
    cases hb : (Nat.blt 0 a && Nat.blt a 124 && Nat.blt j (q51_len a)) with
    | false => exact q60_ens (hs := hs) hM hE hR
    | true =>
      simp only [Bool.and_eq_true, q54_lq, decide_eq_true_eq] at hb
      obtain ⟨ρ1, e1, e2, e3, -⟩ := q57_gf hE hR hM hb.1.1 hb.1.2 hb.2
      obtain ⟨ρ2, g1, g2, g3⟩ := q60_ens (hs := hs) hM e2 e3
      exact ⟨ρ2, q54_et e1 g1, g2, g3⟩
  | (_ + 2, _, _) :: hs, ρ, S, hE, hR => q60_ens (hs := hs) hM hE hR
theorem q60_match {ρ : List Int} {S S1 : q50_S} {M : q4_M} {lv : List (Nat × q50_V)} {lvc : List (Nat × Value)} {P : q50_P} {sg : List q50_V} (hE : q52_E ρ S) (hR : q52_R ρ M S.2.2.2) (hM : q52_M M) (hL : q52_L ρ lv lvc) (h : q50_match S lv P = some (S1, sg)) :
    ∃ ρ1, q52_e ρ ρ1 ∧ q52_E ρ1 S1 ∧ q52_R ρ1 M S1.2.2.2 ∧ q50_homes S1 lv P.2.1 = some sg ∧ ∃ zs, q60_D ρ1 sg zs ∧ q60_in zs M P lvc := by
  unfold q50_match at h
  cases hp : q50_pre S lv P with
  | false => rw [hp] at h; cases h
  | true =>
    rw [hp, cond_true] at h
    dsimp only at h
    obtain ⟨ρ1, e1, e2, e3⟩ := q60_ens (hs := P.2.1) hM hE hR
    have hL1 := hL.mono e1
    split at h
    · next sg' hs =>
      cases hm : q50_m (q50_ens S P.2.1) lv sg' P with
      | false => rw [hm] at h; cases h
      | true =>
        rw [hm] at h
        cases h
        refine ⟨ρ1, e1, e2, e3, hs, ?_⟩
        unfold q50_m at hm
        simp only [Bool.and_eq_true] at hm
        obtain ⟨⟨⟨⟨⟨m1, m2⟩, m3⟩, m4⟩, m5⟩, m6⟩ := hm
        obtain ⟨zs, d1, d2⟩ := q60_homes e2 e3 hL1 0 hs m3
        refine ⟨zs, d1, ⟨d1.1.trans (Nat.eq_of_beq_eq_true m1), Nat.le_of_ble_eq_true m2, fun i z hz => ?_, fun f hf => ?_⟩, fun r hr => ?_, fun q hq => ?_⟩
        · have := d2 i z hz
          rw [Nat.zero_add] at this
          exact this
        · have h1 := List.all_eq_true.mp m5 f hf
          split at h1
          · next x y hx hy =>
            obtain ⟨a, a1, a2⟩ := d1.2 _ _ hx
            obtain ⟨b, b1, b2⟩ := d1.2 _ _ hy
            exact ⟨a, b, a1, b1, q60_lf e2 h1 a2 b2⟩
          · cases h1
        · have h1 := List.all_eq_true.mp m6 r hr
          obtain ⟨ra, rj, rv⟩ := r
          dsimp only at h1
          split at h1
          · next j j' =>
            simp only [Bool.and_eq_true, decide_eq_true_eq] at h1
            obtain ⟨ej, h1⟩ := h1
            subst ej
            refine ⟨j, ⟨Int.le_refl _, Int.le_refl _⟩, ?_⟩
            split at h1
            · next v hv =>
              obtain ⟨z, dz, gz⟩ := q57_rf e3 hv
              have ez := q57_k dz
              subst ez
              exact q60_sb e2 d1 h1 gz
            · simp only [Bool.and_eq_true, decide_eq_true_eq, q54_lq] at h1
              obtain ⟨⟨⟨⟨k1, k2⟩, k3⟩, k4⟩, k5⟩ := h1
              have hG := (hM.2.2.2.2 ra k3 k2).2.2 j.toNat k4
              have ea : q50_at M ra j = (M.2 ra).2.2 j.toNat := by
                unfold q50_at
                rw [if_neg (by omega)]
              rw [ea]
              exact q60_sb e2 d1 k5 (q57_nil hG)
          · cases h1
        · have h1 := List.all_eq_true.mp m4 q hq
          split at h1
          · next v hv =>
            obtain ⟨x, x1, x2⟩ := q54_look hL1 hv
            exact ⟨x, x1, q60_sb e2 d1 h1 x2⟩
          · cases h1
    · cases h
/-- the start's symbols keep their values -/
theorem q60_gh {S : q50_S} {lv : List (Nat × q50_V)} : ∀ {hs : List q50_H} {sg : List q50_V} (i n : Nat), q50_gh i n hs = true → q50_homes S lv hs = some sg → ∀ k, k < n → sg[k]? = some (1, ((i + k : Nat) : Int), 0)
  | [], sg, i, 0, _, _, k, hk => by omega
  | [], sg, i, n + 1, h, _, k, hk => by cases h
  | h0 :: hs, sg, i, 0, _, _, k, hk => by omega
  | (0, _, _) :: hs, sg, i, n + 1, h, hh, k, hk => by exact absurd (show false = true from h) (by decide)
  | (1, _, _) :: hs, sg, i, n + 1, h, hh, k, hk => by exact absurd (show false = true from h) (by decide)
  | (_ + 3, _, _) :: hs, sg, i, n + 1, h, hh, k, hk => by exact absurd (show false = true from h) (by decide)
  | (2, j, x) :: hs, sg, i, n + 1, h, hh, k, hk => by
    have h : (Nat.beq j i && q50_gh (i + 1) n hs) = true := h
    simp only [Bool.and_eq_true] at h
    unfold q50_homes at hh
    split at hh
    · next v hv =>
      split at hh
      · next vs hvs =>
        cases hh
        cases k with
        | zero =>
          have hv : (bif Nat.blt j S.1 then some ((1, (j : Int), 0) : q50_V) else none) = some v := hv
          cases hb : Nat.blt j S.1 with
          | false => rw [hb] at hv; cases hv
          | true =>
            rw [hb] at hv
            cases hv
            rw [Nat.eq_of_beq_eq_true h.1]
            rfl
        | succ k =>
          have := q60_gh (i + 1) n h.2 hvs k (by omega)
          rw [show i + (k + 1) = i + 1 + k by omega]
          simpa using this
      · cases hh
    · cases hh
theorem q60_pre {ρ0 ρ1 zs : List Int} {sg : List q50_V} (hD : q60_D ρ1 sg zs) (he : q52_e ρ0 ρ1) (h : ∀ k, k < ρ0.length → sg[k]? = some (1, ((0 + k : Nat) : Int), 0)) : q52_e ρ0 zs := by
  refine ⟨zs.drop ρ0.length, ?_⟩
  apply List.ext_getElem?
  intro k
  by_cases hk : k < ρ0.length
  · rw [List.getElem?_append_left hk]
    obtain ⟨z, z1, z2⟩ := hD.2 k _ (h k hk)
    obtain ⟨y, y1, y2⟩ := z2
    rw [z1, y2]
    have e : ((0 + k : Nat) : Int).toNat = k := by omega
    rw [e] at y1
    obtain ⟨t, rfl⟩ := he
    rw [List.getElem?_append_left hk] at y1
    rw [y1]
    simp
  · rw [List.getElem?_append_right (by omega), List.getElem?_drop]
    congr 1
    omega
/-! behind a call by contract -/
theorem q60_sh {ρ : List Int} {u : q50_V} {y c : Int} {l : Bool} (h : q52_d ρ u y) : q52_d ρ (q50_sh' u c l) (y + c) ∧ (l = false → q50_isi (q50_sh' u c l) = true) ∧ (l = true → q50_isl (q50_sh' u c l) = true) := by
  unfold q52_d at h
  split at h
  · unfold q50_sh'
    cases l <;> refine ⟨⟨by omega, by omega⟩, fun e => ?_, fun e => ?_⟩ <;> first | rfl | cases e
  · next i d =>
    obtain ⟨z, z1, z2⟩ := h
    unfold q50_sh'
    cases l <;> refine ⟨⟨z, z1, by omega⟩, fun e => ?_, fun e => ?_⟩ <;> first | rfl | cases e
  · unfold q50_sh'
    cases l <;> refine ⟨⟨by omega, by omega⟩, fun e => ?_, fun e => ?_⟩ <;> first | rfl | cases e
  · next i d =>
    obtain ⟨z, z1, z2⟩ := h
    unfold q50_sh'
    cases l <;> refine ⟨⟨z, z1, by omega⟩, fun e => ?_, fun e => ?_⟩ <;> first | rfl | cases e
  · cases h
theorem q60_tr1 {sg : List q50_V} {n : Nat} {i c : Int} : q50_tr sg n (1, i, c) = (match sg[i.toNat]? with | some u => q50_sh' u c false | none => (1, ((n + (i.toNat - sg.length) : Nat) : Int), c)) := rfl
theorem q60_tr3 {sg : List q50_V} {n : Nat} {i c : Int} : q50_tr sg n (3, i, c) = (match sg[i.toNat]? with | some u => q50_sh' u c true | none => (3, ((n + (i.toNat - sg.length) : Nat) : Int), c)) := rfl
section Q60
variable {ρ1 ρ' zs : List Int} {sg : List q50_V}
theorem q60_trd (hD : q60_D ρ1 sg zs) (he : q52_e zs ρ') {v : q50_V} {z : Int} (h : q52_d ρ' v z) : q52_d (ρ1 ++ ρ'.drop sg.length) (q50_tr sg ρ1.length v) z ∧ (q50_isi v = true → q50_isi (q50_tr sg ρ1.length v) = true) ∧ (q50_isl v = true → q50_isl (q50_tr sg ρ1.length v) = true) := by
  have key : ∀ (i : Int) (y : Int), ρ'[i.toNat]? = some y → (∀ u, sg[i.toNat]? = some u → q52_d (ρ1 ++ ρ'.drop sg.length) u y) ∧ (sg[i.toNat]? = none → (ρ1 ++ ρ'.drop sg.length)[((ρ1.length + (i.toNat - sg.length) : Nat) : Int).toNat]? = some y) := by
    intro i y hy
    refine ⟨fun u hu => ?_, fun hn => ?_⟩
    · obtain ⟨z, z1, z2⟩ := hD.2 _ _ hu
      have := q54_el he z1
      rw [hy] at this
      cases this
      exact q54_dm (q54_ea _ _) z2
    · have hl : sg.length ≤ i.toNat := List.getElem?_eq_none_iff.mp hn
      rw [show ((ρ1.length + (i.toNat - sg.length) : Nat) : Int).toNat = ρ1.length + (i.toNat - sg.length) from rfl, List.getElem?_append_right (by omega), List.getElem?_drop]
      rw [show sg.length + (ρ1.length + (i.toNat - sg.length) - ρ1.length) = i.toNat by omega]
      exact hy
  unfold q52_d at h
  split at h
  · exact ⟨h, fun _ => rfl, fun e => e⟩
  · next i c =>
    obtain ⟨y, hy, rfl⟩ := h
    obtain ⟨k1, k2⟩ := key i y hy
    cases hs : sg[i.toNat]? with
    | some u =>
      rw [show q50_tr sg ρ1.length (1, i, c) = q50_sh' u c false by rw [q60_tr1, hs]]
      have := q60_sh (c := c) (l := false) (k1 u hs)
      exact ⟨this.1, fun _ => this.2.1 rfl, fun e => by cases e⟩
    | none =>
      rw [show q50_tr sg ρ1.length (1, i, c) = (1, ((ρ1.length + (i.toNat - sg.length) : Nat) : Int), c) by rw [q60_tr1, hs]]
      exact ⟨⟨y, k2 hs, rfl⟩, fun _ => rfl, fun e => by cases e⟩
  · exact ⟨h, fun e => e, fun _ => rfl⟩
  · next i c =>
    obtain ⟨y, hy, rfl⟩ := h
    obtain ⟨k1, k2⟩ := key i y hy
    cases hs : sg[i.toNat]? with
    | some u =>
      rw [show q50_tr sg ρ1.length (3, i, c) = q50_sh' u c true by rw [q60_tr3, hs]]
      have := q60_sh (c := c) (l := true) (k1 u hs)
      exact ⟨this.1, fun e => (by cases e), fun _ => this.2.2 rfl⟩
    | none =>
      rw [show q50_tr sg ρ1.length (3, i, c) = (3, ((ρ1.length + (i.toNat - sg.length) : Nat) : Int), c) by rw [q60_tr3, hs]]
      exact ⟨⟨y, k2 hs, rfl⟩, fun e => (by cases e), fun _ => rfl⟩
  · cases h
theorem q60_trg (hD : q60_D ρ1 sg zs) (he : q52_e zs ρ') {v : q50_V} {x : Value} (h : q52_g ρ' v x) : q52_g (ρ1 ++ ρ'.drop sg.length) (q50_tr sg ρ1.length v) x := by
  rcases h with ⟨h1, w, h2, h3⟩ | ⟨h1, w, h2, h3⟩ | ⟨h1, r⟩ | ⟨h1, r⟩
  · obtain ⟨t1, t2, -⟩ := q60_trd hD he h3
    exact Or.inl ⟨t2 h1, w, h2, t1⟩
  · obtain ⟨t1, -, t3⟩ := q60_trd hD he h3
    exact Or.inr (Or.inl ⟨t3 h1, w, h2, t1⟩)
  · obtain ⟨t, a, b⟩ := v
    have h1 : t = 6 := h1
    subst h1
    exact Or.inr (Or.inr (Or.inl ⟨rfl, r⟩))
  · obtain ⟨t, a, b⟩ := v
    have h1 : t = 8 := h1
    subst h1
    exact Or.inr (Or.inr (Or.inr ⟨rfl, r⟩))
theorem q60_trf (hD : q60_D ρ1 sg zs) (he : q52_e zs ρ') : ∀ {F : List (Nat × Nat × Int)}, (∀ f ∈ F, ∃ x y, ρ'[f.1]? = some x ∧ ρ'[f.2.1]? = some y ∧ x + f.2.2 ≤ y) → ∀ f ∈ q50_trf sg ρ1.length F, ∃ x y, (ρ1 ++ ρ'.drop sg.length)[f.1]? = some x ∧ (ρ1 ++ ρ'.drop sg.length)[f.2.1]? = some y ∧ x + f.2.2 ≤ y
  | [], _, f, hf => by cases hf
  | g :: r, hF, f, hf => by
    have ih := q60_trf hD he (F := r) (fun f hf => hF f (List.mem_cons_of_mem _ hf))
    unfold q50_trf at hf
    split at hf
    · next i c j d h1 h2 =>
      rcases List.mem_cons.mp hf with rfl | hf
      · obtain ⟨x, y, hx, hy, hxy⟩ := hF g List.mem_cons_self
        have t1 := (q60_trd hD he (v := (1, (g.1 : Int), 0)) (z := x + 0) ⟨x, hx, rfl⟩).1
        have t2 := (q60_trd hD he (v := (1, (g.2.1 : Int), 0)) (z := y + 0) ⟨y, hy, rfl⟩).1
        rw [h1] at t1
        rw [h2] at t2
        obtain ⟨u, u1, u2⟩ := t1
        obtain ⟨v, v1, v2⟩ := t2
        exact ⟨u, v, u1, v1, by dsimp only; omega⟩
      · exact ih f hf
    · exact ih f hf
theorem q60_nt {T T' : q50_T 12} {n m : Nat} : ∀ (d : Nat), n + d ≤ 4096 → ∀ i, i < 4096 → q50_tg 12 (q50_nt T T' n m d) i = if n ≤ i ∧ i < n + d then q50_tg 12 T' (m + (i - n)) else q50_tg 12 T i
  | 0, _, i, _ => by rw [if_neg (by omega)]; rfl
  | d + 1, h, i, hi => by
    have e := q54_tg 12 (q50_nt T T' n m d) (n + d) i (q50_tg 12 T' (m + d)) (show n + d < 4096 by omega) hi
    refine Eq.trans e ?_
    by_cases e2 : i = n + d
    · rw [if_pos e2, if_pos (by omega), show m + (i - n) = m + d by omega]
    · rw [if_neg e2, q60_nt d (by omega) i hi]
      by_cases e3 : n ≤ i ∧ i < n + d
      · rw [if_pos e3, if_pos (by omega)]
      · rw [if_neg e3, if_neg (by omega)]
theorem q60_wok {S : q50_S} {W : q50_W} {M M' : q4_M} {r : Nat × q50_V × q50_V} {z : Int} (hE : q52_E ρ1 S) (hF : q52_F W M M') (h : q50_wok W S r = true) (hz : q52_d ρ1 r.2.1 z) : q50_at M' r.1 z = q50_at M r.1 z := by
  unfold q50_wok at h
  split at h
  · next x y hq =>
    have b := q54_iv hE hq hz
    dsimp only at b
    unfold q50_at
    by_cases h0 : z < 0
    · rw [if_pos h0, if_pos h0, (hF.1 r.1).2]
    · rw [if_neg h0, if_neg h0]
      apply hF.2
      cases hb : q50_iw W r.1 z.toNat with
      | false => rfl
      | true =>
        exfalso
        unfold q50_iw at hb
        obtain ⟨w, hw, hwb⟩ := List.any_eq_true.mp hb
        have := List.all_eq_true.mp h w hw
        simp only [Bool.and_eq_true, Bool.or_eq_true, Bool.not_eq_true', q54_bq, q54_le, decide_eq_true_eq, decide_eq_false_iff_not] at this hwb
        omega
  · cases h
theorem q60_inst {S : q50_S} {W : q50_W} {M M' : q4_M} {P : q50_P} {o : q50_S × Option q50_V} {v : Option Value} (hE : q52_E ρ1 S) (hR : q52_R ρ1 M S.2.2.2) (hF : q52_F W M M') (hD : q60_D ρ1 sg zs) (h : q50_inst S sg W P = some o) (ho : q60_out zs M' P v) : ∃ ρ2, q52_e ρ1 ρ2 ∧ q52_E ρ2 o.1 ∧ q52_R ρ2 M' o.1.2.2.2 ∧ q52_O ρ2 o.2 v := by
  obtain ⟨ρ', he, hE', hR', hv⟩ := ho
  unfold q50_inst at h
  dsimp only at h
  cases hb : (Nat.ble sg.length P.1.1 && Nat.ble (S.1 + (P.1.1 - sg.length)) 4096) with
  | false => rw [hb] at h; cases h
  | true =>
    rw [hb, cond_true] at h
    cases h
    simp only [Bool.and_eq_true, q54_le, decide_eq_true_eq] at hb
    have hn : ρ1.length = S.1 := hE.1
    rw [← hn] at hb ⊢
    refine ⟨ρ1 ++ ρ'.drop sg.length, q54_ea _ _, ⟨?_, hb.2, fun i z hz => ?_, fun f hf => ?_⟩, fun r hr => ?_, ?_⟩
    · rw [List.length_append, List.length_drop, hE'.1]
    · have hi : i < ρ1.length + (P.1.1 - sg.length) := by
        have := (List.getElem?_eq_some_iff.mp hz).1
        rw [List.length_append, List.length_drop, hE'.1] at this
        exact this
      show (q50_tg 12 (q50_nt S.2.1 P.1.2.1 ρ1.length sg.length (P.1.1 - sg.length)) i).1 ≤ z ∧ z ≤ (q50_tg 12 (q50_nt S.2.1 P.1.2.1 ρ1.length sg.length (P.1.1 - sg.length)) i).2
      rw [q60_nt _ hb.2 i (by omega)]
      by_cases e : ρ1.length ≤ i
      · rw [if_pos ⟨e, hi⟩]
        rw [List.getElem?_append_right e, List.getElem?_drop] at hz
        exact hE'.2.2.1 _ _ hz
      · rw [if_neg (by omega)]
        rw [List.getElem?_append_left (by omega)] at hz
        exact hE.2.2.1 _ _ hz
    · rcases List.mem_append.mp hf with hf | hf
      · exact q60_trf hD he hE'.2.2.2 f hf
      · obtain ⟨x, y, x1, y1, xy⟩ := hE.2.2.2 f hf
        exact ⟨x, y, q54_el (q54_ea _ _) x1, q54_el (q54_ea _ _) y1, xy⟩
    · rcases List.mem_append.mp hr with hr | hr
      · obtain ⟨r0, hr0, rfl⟩ := List.mem_map.mp hr
        obtain ⟨z, z1, z2⟩ := hR' r0 hr0
        exact ⟨z, (q60_trd hD he z1).1, q60_trg hD he z2⟩
      · obtain ⟨hr1, hr2⟩ := List.mem_filter.mp hr
        obtain ⟨z, z1, z2⟩ := hR r hr1
        refine ⟨z, q54_dm (q54_ea _ _) z1, ?_⟩
        rw [q60_wok hE hF hr2 z1]
        exact q54_gm (q54_ea _ _) z2
    · generalize P.2.2 = l at hv
      cases l with
      | nil =>
        cases v with
        | none => trivial
        | some x => cases hv
      | cons q r =>
        cases v with
        | none => cases hv
        | some x => exact q60_trg hD he hv
end Q60
theorem q60_insts {S : q50_S} {sg : List q50_V} {W : q50_W} {P : q50_P} : ∀ {l : List q50_P} {os : List (q50_S × Option q50_V)}, q50_insts S sg W l = some os → P ∈ l → ∃ o ∈ os, q50_inst S sg W P = some o
  | [], _, _, h => by cases h
  | Q :: r, os, h, hP => by
    unfold q50_insts at h
    split at h
    · next x hx =>
      split at h
      · next l hl =>
        cases h
        rcases List.mem_cons.mp hP with rfl | hP
        · exact ⟨x, List.mem_cons_self, hx⟩
        · obtain ⟨o, h1, h2⟩ := q60_insts hl hP
          exact ⟨o, List.mem_cons_of_mem _ h1, h2⟩
      · cases h
    · cases h
