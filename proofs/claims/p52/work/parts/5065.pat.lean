/-! patterns told by lists -/
theorem q74_mkl : ∀ (l : List (Int × Int)) (i0 : Nat) (T : q50_T 12) (j : Nat), i0 + l.length ≤ 4096 → j < i0 → q50_tg 12 (q50_mkT i0 T l) j = q50_tg 12 T j
  | [], _, _, _, _, _ => rfl
  | q :: r, i0, T, j, h, hj => by
    have hl : i0 + (r.length + 1) ≤ 4096 := h
    have e := q74_mkl r (i0 + 1) (q50_tp 12 T i0 q) j (by omega) (by omega)
    refine Eq.trans e ?_
    rw [q54_tg 12 T i0 j q (show i0 < 4096 by omega) (show j < 4096 by omega), if_neg (by omega)]
theorem q74_mk : ∀ (l : List (Int × Int)) (i0 : Nat) (T : q50_T 12) (i : Nat) (q : Int × Int), i0 + l.length ≤ 4096 → l[i]? = some q → q50_tg 12 (q50_mkT i0 T l) (i0 + i) = q
  | [], _, _, _, _, _, h => by simp at h
  | q0 :: r, i0, T, 0, q, hl, h => by
    have hl : i0 + (r.length + 1) ≤ 4096 := hl
    have h : q0 = q := by simpa using h
    subst h
    have e := q74_mkl r (i0 + 1) (q50_tp 12 T i0 q0) i0 (by omega) (by omega)
    refine Eq.trans e ?_
    rw [q54_tg 12 T i0 i0 q0 (show i0 < 4096 by omega) (show i0 < 4096 by omega), if_pos rfl]
  | q0 :: r, i0, T, i + 1, q, hl, h => by
    have hl : i0 + (r.length + 1) ≤ 4096 := hl
    have e := q74_mk r (i0 + 1) (q50_tp 12 T i0 q0) i q (by omega) (by simpa using h)
    rw [show i0 + (i + 1) = i0 + 1 + i by omega]
    exact e
def q74_B : List Int → List (Int × Int) → Prop
  | [], [] => True
  | z :: zs, q :: l => (q.1 ≤ z ∧ z ≤ q.2) ∧ q74_B zs l
  | _, _ => False
theorem q74_Bl : ∀ {zs : List Int} {l : List (Int × Int)}, q74_B zs l → zs.length = l.length
  | [], [], _ => rfl
  | _ :: _, _ :: _, h => by simp [q74_Bl h.2]
  | [], _ :: _, h => by cases h
  | _ :: _, [], h => by cases h
theorem q74_Bi : ∀ {zs : List Int} {l : List (Int × Int)}, q74_B zs l → ∀ (i : Nat) (z : Int), zs[i]? = some z → ∃ q, l[i]? = some q ∧ q.1 ≤ z ∧ z ≤ q.2
  | [], [], _, i, z, h => by simp at h
  | y :: zs, q :: l, hb, 0, z, h => by
    have h : y = z := by simpa using h
    subst h
    exact ⟨q, rfl, hb.1⟩
  | y :: zs, q :: l, hb, i + 1, z, h => by
    obtain ⟨q', h1, h2⟩ := q74_Bi hb.2 i z (by simpa using h)
    exact ⟨q', by simpa using h1, h2⟩
  | [], _ :: _, h, _, _, _ => by cases h
  | _ :: _, [], h, _, _, _ => by cases h
theorem q74_iB : ∀ {zs : List Int} {l : List (Int × Int)}, zs.length = l.length → (∀ (i : Nat) (z : Int) (q : Int × Int), zs[i]? = some z → l[i]? = some q → q.1 ≤ z ∧ z ≤ q.2) → q74_B zs l
  | [], [], _, _ => trivial
  | z :: zs, q :: l, hl, h => ⟨h 0 z q rfl rfl, q74_iB (by simpa using hl) (fun i z q h1 h2 => h (i + 1) z q (by simpa using h1) (by simpa using h2))⟩
  | [], _ :: _, h, _ => by simp at h
  | _ :: _, [], h, _ => by simp at h
theorem q74_E {zs : List Int} {l : List (Int × Int)} {F : List (Nat × Nat × Int)} {R : List (Nat × q50_V × q50_V)} (h : q74_B zs l) (hl : l.length ≤ 4096) (hF : ∀ f ∈ F, ∃ x y, zs[f.1]? = some x ∧ zs[f.2.1]? = some y ∧ x + f.2.2 ≤ y) : q52_E zs (l.length, q50_mk l, F, R) := by
  refine ⟨q74_Bl h, hl, fun i z hz => ?_, hF⟩
  obtain ⟨q, h1, h2⟩ := q74_Bi h i z hz
  have e := q74_mk l 0 (q50_ta (0, 0) 12) i q (by omega) h1
  rw [Nat.zero_add] at e
  have e : q50_tg 12 (q50_mk l) i = q := e
  show (q50_tg 12 (q50_mk l) i).1 ≤ z ∧ z ≤ (q50_tg 12 (q50_mk l) i).2
  rw [e]
  exact h2
theorem q74_Ei {zs : List Int} {l : List (Int × Int)} {F : List (Nat × Nat × Int)} {R : List (Nat × q50_V × q50_V)} (h : q52_E zs (l.length, q50_mk l, F, R)) : q74_B zs l := by
  refine q74_iB h.1 (fun i z q h1 h2 => ?_)
  have hl : l.length ≤ 4096 := h.2.1
  have e := q74_mk l 0 (q50_ta (0, 0) 12) i q (by omega) h2
  rw [Nat.zero_add] at e
  have e : q50_tg 12 (q50_mk l) i = q := e
  have h3 := h.2.2.1 i z h1
  have h3 : (q50_tg 12 (q50_mk l) i).1 ≤ z ∧ z ≤ (q50_tg 12 (q50_mk l) i).2 := h3
  rw [e] at h3
  exact h3
section Q74
variable {ρ : List Int} {L : List (Nat × q50_V)} {lv : List (Nat × Value)} {n : Nat}
theorem q74_li {i : Nat} {z : Int} (h : q52_L ρ L lv) (hm : (n, ((1, (i : Int), 0) : q50_V)) ∈ L) (hz : ρ[i]? = some z) : ∃ x : Int32, q4_get lv n = some (.int x) ∧ x.toInt = z := by
  obtain ⟨x, h1, h2⟩ := h _ hm
  obtain ⟨w, rfl, y, hy, hw⟩ := q54_gi rfl h2
  have hy : ρ[i]? = some y := hy
  rw [hz] at hy
  cases hy
  exact ⟨w, h1, by omega⟩
theorem q74_ll {i : Nat} {z : Int} (h : q52_L ρ L lv) (hm : (n, ((3, (i : Int), 0) : q50_V)) ∈ L) (hz : ρ[i]? = some z) : ∃ x : Int64, q4_get lv n = some (.long x) ∧ x.toInt = z := by
  obtain ⟨x, h1, h2⟩ := h _ hm
  obtain ⟨w, rfl, y, hy, hw⟩ := q54_gl rfl h2
  have hy : ρ[i]? = some y := hy
  rw [hz] at hy
  cases hy
  exact ⟨w, h1, by omega⟩
theorem q74_lr {a : Nat} (h : q52_L ρ L lv) (hm : (n, ((6, (a : Int), (a : Int)) : q50_V)) ∈ L) : q4_get lv n = some (.ref a) := by
  obtain ⟨x, h1, h2⟩ := h _ hm
  obtain ⟨r, rfl, h3, h4⟩ := q54_ref h2
  rw [h1]
  have e : r = a := by omega
  rw [e]
theorem q74_gi {i : Nat} {z : Int} {x : Int32} (hz : ρ[i]? = some z) (hx : x.toInt = z) : q52_g ρ (1, (i : Int), 0) (.int x) := Or.inl ⟨rfl, x, rfl, z, hz, by omega⟩
theorem q74_gl {i : Nat} {z : Int} {x : Int64} (hz : ρ[i]? = some z) (hx : x.toInt = z) : q52_g ρ (3, (i : Int), 0) (.long x) := Or.inr (Or.inl ⟨rfl, x, rfl, z, hz, by omega⟩)
theorem q74_gr {a : Nat} : q52_g ρ (6, (a : Int), (a : Int)) (.ref a) := Or.inr (Or.inr (Or.inl ⟨rfl, a, rfl, Int.le_refl _, Int.le_refl _⟩))
theorem q74_L0 : q52_L ρ [] lv := fun q hq => by cases hq
theorem q74_Lc {v : q50_V} {x : Value} (h1 : q4_get lv n = some x) (h2 : q52_g ρ v x) (h : q52_L ρ L lv) : q52_L ρ ((n, v) :: L) lv := fun q hq => by
  rcases List.mem_cons.mp hq with rfl | hq
  · exact ⟨x, h1, h2⟩
  · exact h q hq
end Q74
/-- a contract is kept: from explicit places -/
theorem q74_use {c : q50_C} (hV : q60_V c) {ρ0 : List Int} {M : q4_M} {lv : List (Nat × Value)} (hM : q52_M M) (hJ : q60_J M) (h : q60_in ρ0 M c.2.1 lv) : ∃ (v : Option Value) (M' : q4_M), q62_ev c.1 0 lv [] M 0 0 (v, M') ∧ q52_M M' ∧ q60_J M' ∧ q52_F c.2.2.1 M M' ∧ ∃ P ∈ c.2.2.2.2, q60_out ρ0 M' P v := by
  obtain ⟨f, v, M', h1, h2⟩ := hV ρ0 M lv hM hJ h
  exact ⟨v, M', ⟨f, h1⟩, h2⟩
