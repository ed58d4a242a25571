/-! the contracts by hand -/
theorem q77_div {lo hi : Int} {c : q50_C} (e1 : c.1 = 204) (e2 : c.2.1 = q70_p ([(lo, hi), (-9223372036854775808, 9223372036854775807)], [], [], [(0, 0, 0), (0, 2, 0)], [(0, (3, 0, 0)), (2, (3, 1, 0))])) (e3 : c.2.2.2.2 = [q70_p ([(lo, hi), (-9223372036854775808, 9223372036854775807)], [], [], [(2, 0, 0), (2, 1, 0)], [(0, (2, -9223372036854775808, -1))]), q70_p ([(lo, hi), (-9223372036854775808, 9223372036854775807)], [], [], [(2, 0, 0), (2, 1, 0)], [(0, (2, 1, 9223372036854775807))])]) (h : hi < 0 ∨ 0 < lo) : q60_V c := by
  intro ρ0 M lv hM hJ hin
  rw [e2] at hin
  have hB : q74_B ρ0 [(lo, hi), (-9223372036854775808, 9223372036854775807)] := q74_Ei hin.1
  match ρ0, hB, hin with
  | [a, b], hB, hin =>
    obtain ⟨B0, B1, -⟩ := hB
    dsimp only at B0 B1
    have hL : q52_L [a, b] [(0, (3, 0, 0)), (2, (3, 1, 0))] lv := hin.2.2
    obtain ⟨A, h0, eA⟩ := q74_ll hL (n := 0) (i := 0) (z := a) (by simp) rfl
    obtain ⟨Bv, h2, eB⟩ := q74_ll hL (n := 2) (i := 1) (z := b) (by simp) rfl
    obtain ⟨z, hz, f, hf⟩ := q72_div (M := M) A Bv lv h0 h2 (fun e => by
      rw [e] at eA
      have : (0 : Int64).toInt = 0 := by decide
      omega)
    have hz0 : z.toInt ≠ 0 := fun e => hz (Int64.toInt_inj.mp (by rw [e]; decide))
    have hr := q53_r64 z
    refine ⟨f, some (.long z), M, by rw [e1]; exact hf, hM, hJ, q57_Fr _ _, ?_⟩
    rw [e3]
    by_cases hs : z.toInt ≤ -1
    · exact ⟨_, .head _, [a, b], q54_er _, q74_E (l := [(lo, hi), (-9223372036854775808, 9223372036854775807)]) ⟨B0, B1, trivial⟩ (by decide : (2 : Nat) ≤ 4096) (fun f hf => by cases hf), fun r hr => (by cases hr), Or.inr (Or.inl ⟨rfl, z, rfl, hr.1, hs⟩)⟩
    · exact ⟨_, .tail _ (.head _), [a, b], q54_er _, q74_E (l := [(lo, hi), (-9223372036854775808, 9223372036854775807)]) ⟨B0, B1, trivial⟩ (by decide : (2 : Nat) ≤ 4096) (fun f hf => by cases hf), fun r hr => (by cases hr), Or.inr (Or.inl ⟨rfl, z, rfl, (by show (1 : Int) ≤ z.toInt; omega), hr.2⟩)⟩
theorem q77_165 : q60_V (q70_at 165) := q77_div (lo := -9223372036854775808) (hi := -1) rfl rfl rfl (Or.inl (by decide))
theorem q77_166 : q60_V (q70_at 166) := q77_div (lo := 1) (hi := 9223372036854775807) rfl rfl rfl (Or.inr (by decide))
theorem q77_lk {ρ : List Int} {L : List (Nat × q50_V)} {lv : List (Nat × Value)} {n : Nat} {z : Int} (h : q52_L ρ L lv) (hm : (n, ((0, z, z) : q50_V)) ∈ L) : ∃ x : Int32, q4_get lv n = some (.int x) ∧ x.toInt = z := by
  obtain ⟨x, h1, h2⟩ := h _ hm
  obtain ⟨w, rfl, h3, h4⟩ := q54_gi rfl h2
  exact ⟨w, h1, by omega⟩
theorem q77_kp {c : q50_C} {ρ0 : List Int} {E : List (Int × Int)} {H : List q50_H} {M : q4_M} {lv : List (Nat × Value)} {x f w : Int32} (e1 : c.1 = 37) (e3 : c.2.2.1 = q73_W) (e4 : c.2.2.2.2 = [q70_p (E, [], [], H, [])]) (hM : q52_M M) (hJ : q60_J M) (hE : q74_B ρ0 E) (hl : E.length ≤ 4096) (h0 : q4_get lv 0 = some (.ref 85)) (h1 : q4_get lv 1 = some (.int x)) (h2 : q4_get lv 2 = some (.int f)) (h3 : q4_get lv 3 = some (.int w))
    (c0 : 0 ≤ x.toInt ∧ x.toInt ≤ 6) (f0 : -1 ≤ f.toInt ∧ f.toInt ≤ 4) (hw : f = -1 → w.toInt ≤ 207) : ∃ (f : Nat) (v : Option Value) (M' : q4_M), q4_run f c.1 0 lv [] M 0 0 = some (v, M') ∧ q52_M M' ∧ q60_J M' ∧ q52_F c.2.2.1 M M' ∧ ∃ P ∈ c.2.2.2.2, q60_out ρ0 M' P v := by
  obtain ⟨M1, ⟨g, t1⟩, t2, t3, t4⟩ := q73_keep hM hJ h0 h1 h2 h3 c0 f0 hw
  rw [e1, e3, e4]
  exact ⟨g, none, M1, t1, t2, t3, t4, _, .head _, ρ0, q54_er _, q74_E hE hl (fun f hf => by cases hf), fun r hr => (by cases hr), trivial⟩
theorem q77_227 : q60_V (q70_at 227) := by
  intro ρ0 M lv hM hJ hin
  have hB : q74_B ρ0 [(0, 6), (-2147483648, 207)] := q74_Ei hin.1
  match ρ0, hB, hin with
  | [a, b], hB, hin =>
    obtain ⟨B0, B1, -⟩ := hB
    dsimp only at B0 B1
    have hL : q52_L [a, b] [(0, (6, 85, 85)), (1, (1, 0, 0)), (2, (0, -1, -1)), (3, (1, 1, 0))] lv := hin.2.2
    have h0 := q74_lr (a := 85) hL (n := 0) (by simp)
    obtain ⟨X, h1, eX⟩ := q74_li hL (n := 1) (i := 0) (z := a) (by simp) rfl
    obtain ⟨F, h2, eF⟩ := q77_lk hL (n := 2) (z := -1) (by simp)
    obtain ⟨W, h3, eW⟩ := q74_li hL (n := 3) (i := 1) (z := b) (by simp) rfl
    exact q77_kp (E := [(0, 6), (-2147483648, 207)]) (H := [(2, 0, 0), (2, 1, 0)]) rfl rfl rfl hM hJ ⟨B0, B1, trivial⟩ (by decide) h0 h1 h2 h3 (by omega) (by omega) (fun _ => by omega)
theorem q77_229 : q60_V (q70_at 229) := by
  intro ρ0 M lv hM hJ hin
  have hB : q74_B ρ0 [(0, 6), (-2147483648, 2147483647)] := q74_Ei hin.1
  match ρ0, hB, hin with
  | [a, b], hB, hin =>
    obtain ⟨B0, B1, -⟩ := hB
    dsimp only at B0 B1
    have hL : q52_L [a, b] [(0, (6, 85, 85)), (1, (1, 0, 0)), (2, (0, 4, 4)), (3, (1, 1, 0))] lv := hin.2.2
    have h0 := q74_lr (a := 85) hL (n := 0) (by simp)
    obtain ⟨X, h1, eX⟩ := q74_li hL (n := 1) (i := 0) (z := a) (by simp) rfl
    obtain ⟨F, h2, eF⟩ := q77_lk hL (n := 2) (z := 4) (by simp)
    obtain ⟨W, h3, eW⟩ := q74_li hL (n := 3) (i := 1) (z := b) (by simp) rfl
    exact q77_kp (E := [(0, 6), (-2147483648, 2147483647)]) (H := [(2, 0, 0), (2, 1, 0)]) rfl rfl rfl hM hJ ⟨B0, B1, trivial⟩ (by decide) h0 h1 h2 h3 (by omega) (by omega) (fun e => by
      rw [e] at eF
      exact absurd eF (by decide))
theorem q77_230 : q60_V (q70_at 230) := by
  intro ρ0 M lv hM hJ hin
  have hB : q74_B ρ0 [(0, 6), (0, 3), (-2147483648, 2147483647)] := q74_Ei hin.1
  match ρ0, hB, hin with
  | [a, d, b], hB, hin =>
    obtain ⟨B0, B1, B2, -⟩ := hB
    dsimp only at B0 B1 B2
    have hL : q52_L [a, d, b] [(0, (6, 85, 85)), (1, (1, 0, 0)), (2, (1, 1, 0)), (3, (1, 2, 0))] lv := hin.2.2
    have h0 := q74_lr (a := 85) hL (n := 0) (by simp)
    obtain ⟨X, h1, eX⟩ := q74_li hL (n := 1) (i := 0) (z := a) (by simp) rfl
    obtain ⟨F, h2, eF⟩ := q74_li hL (n := 2) (i := 1) (z := d) (by simp) rfl
    obtain ⟨W, h3, eW⟩ := q74_li hL (n := 3) (i := 2) (z := b) (by simp) rfl
    exact q77_kp (E := [(0, 6), (0, 3), (-2147483648, 2147483647)]) (H := [(2, 0, 0), (2, 1, 0), (2, 2, 0)]) rfl rfl rfl hM hJ ⟨B0, B1, B2, trivial⟩ (by decide) h0 h1 h2 h3 (by omega) (by omega) (fun e => by
      rw [e] at eF
      have : (-1 : Int32).toInt = -1 := by decide
      omega)
theorem q77_in {y : Nat} {c : Nat × q50_C} (h : c ∈ q70_G y) : c.1 < q70_n ∧ c.2 = q70_at c.1 ∧ (q70_at c.1).1 = y := by
  unfold q70_G at h
  cases hb : Nat.blt y 252 with
  | false => rw [hb] at h; cases h
  | true =>
    rw [hb, cond_true] at h
    obtain ⟨i, hi, rfl⟩ := List.mem_map.mp h
    have h2 := List.all_eq_true.mp (List.all_eq_true.mp q70_iy y (List.mem_range.mpr (Nat.le_of_ble_eq_true hb))) i hi
    rw [Bool.and_eq_true] at h2
    exact ⟨Nat.le_of_ble_eq_true h2.2, rfl, Nat.eq_of_beq_eq_true h2.1⟩
theorem q77_nb {i j : Nat} (h : i ≠ j) : Nat.beq i j = false := by
  cases hb : Nat.beq i j with
  | false => rfl
  | true => exact absurd (Nat.eq_of_beq_eq_true hb) h
/-- all contracts are kept -/
theorem q77_all (hok : ∀ i, i < q70_n → q70_ok i = true) : ∀ n i, i < n → i < q70_n → q60_V (q70_at i) := by
  intro n
  induction n with
  | zero => intro i hi; exact absurd hi (Nat.not_lt_zero _)
  | succ n ih =>
    intro i hi hlt
    have hV : ∀ j, j < i → q60_V (q70_at j) := fun j hj => ih j (by omega) (by omega)
    have hΓ : ∀ y c, c ∈ q70_G y → c.1 < i → c.2.1 = y ∧ q60_V c.2 := by
      intro y c hc hci
      obtain ⟨h1, h2, h3⟩ := q77_in hc
      rw [h2]
      exact ⟨h3, hV _ hci⟩
    by_cases e1 : i = 165
    · rw [e1]; exact q77_165
    by_cases e2 : i = 166
    · rw [e2]; exact q77_166
    by_cases e3 : i = 227
    · rw [e3]; exact q77_227
    by_cases e4 : i = 229
    · rw [e4]; exact q77_229
    by_cases e5 : i = 230
    · rw [e5]; exact q77_230
    by_cases e6 : i = 20
    · subst e6
      exact q75_V hΓ (hV 19 (by decide)) (hok 20 hlt)
    by_cases e7 : i = 157
    · subst e7
      exact q76_V hΓ hV (hok 157 hlt)
    have hk := hok i hlt
    unfold q70_ok at hk
    rw [show q70_hand i = false by unfold q70_hand; rw [q77_nb e1, q77_nb e2, q77_nb e3, q77_nb e4, q77_nb e5]; rfl, cond_false, show q70_hp i = [] by unfold q70_hp; rw [q77_nb e6, q77_nb e7]; rfl, Bool.and_eq_true] at hk
    exact q61_con hΓ hk.1 hk.2
