/-! the class looks for the first wrong letter; the reference reads digits -/
theorem qd_15 (x : Int32) : ma_15 x = nI (q9a_lb x.toInt) := by
  have e1 : x = 99 ↔ x.toInt = 99 := Int32.toInt_inj.symm.trans (by rw [show (99 : Int32).toInt = 99 by decide])
  have e2 : x = 109 ↔ x.toInt = 109 := Int32.toInt_inj.symm.trans (by rw [show (109 : Int32).toInt = 109 by decide])
  have e3 : x = 115 ↔ x.toInt = 115 := Int32.toInt_inj.symm.trans (by rw [show (115 : Int32).toInt = 115 by decide])
  have e4 : x = 116 ↔ x.toInt = 116 := Int32.toInt_inj.symm.trans (by rw [show (116 : Int32).toInt = 116 by decide])
  unfold ma_15 q9a_lb
  by_cases h1 : x.toInt = 99
  · rw [if_pos (e1.mpr h1), if_pos h1]; rfl
  rw [if_neg (fun c => h1 (e1.mp c)), if_neg h1]
  by_cases h2 : x.toInt = 109
  · rw [if_pos (e2.mpr h2), if_pos h2]; rfl
  rw [if_neg (fun c => h2 (e2.mp c)), if_neg h2]
  by_cases h3 : x.toInt = 115
  · rw [if_pos (e3.mpr h3), if_pos h3]; rfl
  rw [if_neg (fun c => h3 (e3.mp c)), if_neg h3]
  by_cases h4 : x.toInt = 116
  · rw [if_pos (e4.mpr h4), if_pos h4]; rfl
  rw [if_neg (fun c => h4 (e4.mp c)), if_neg h4]; rfl
theorem qb_ne0 {a : Nat} (h : a ≠ 0) (ha : a < 2147483648) : ¬ nI a = (0 : Int32) := fun c => h ((qb_eq (b := 0) ha (by decide)).mp c)
theorem qb_ne1 {a : Nat} (h : a ≠ 1) (ha : a < 2147483648) : ¬ nI a = (1 : Int32) := fun c => h ((qb_eq (b := 1) ha (by decide)).mp c)
def qd_r (o : Option Nat) : Int32 := match o with
  | some p => nI p
  | none => -1
theorem qd_bad (left : Nat) (x : Int32) (hl : left < 7) : ((if nI (left + 1) = (1 : Int32) then (if x = (59 : Int32) then (1 : Int32) else 0) else (if x < (48 : Int32) then 0 else (if (57 : Int32) < x then 0 else 1))) = 0) ↔ ¬ q9a_ok (left + 1) x.toInt = true := by
  have k1 : (59 : Int32).toInt = 59 := by decide
  have k2 : (48 : Int32).toInt = 48 := by decide
  have k3 : (57 : Int32).toInt = 57 := by decide
  by_cases h : left = 0
  · subst h
    rw [if_pos (by rfl), q9a_ok1]
    by_cases e : x = 59
    · rw [if_pos e]
      exact ⟨fun c => absurd c (by decide), fun c => absurd (by rw [e]; exact k1) c⟩
    · rw [if_neg e]
      exact ⟨fun _ c => e (Int32.toInt_inj.mp (c.trans k1.symm)), fun _ => rfl⟩
  · rw [if_neg (qb_ne1 (a := left + 1) (by omega) (by omega)), q9a_ok2 (by omega)]
    by_cases e1 : x < 48
    · rw [if_pos e1]
      rw [Int32.lt_iff_toInt_lt] at e1
      exact ⟨fun _ => by omega, fun _ => rfl⟩
    rw [if_neg e1]
    rw [Int32.lt_iff_toInt_lt] at e1
    by_cases e2 : 57 < x
    · rw [if_pos e2]
      rw [Int32.lt_iff_toInt_lt] at e2
      exact ⟨fun _ => by omega, fun _ => rfl⟩
    · rw [if_neg e2]
      rw [Int32.lt_iff_toInt_lt] at e2
      exact ⟨fun c => absurd c (by decide), fun c => by omega⟩
theorem qd_dn {k : Nat} : nI (k + 1) + (-1 : Int32) = nI k := by
  have : nI (k + 1) + (-1 : Int32) = nI (k + 1) - 1 := (Int32.sub_eq_add_neg _ _).symm
  rw [this]
  exact qb_sm
section W65
variable {σ : qa_S} {n : Nat}
noncomputable def qd_fin (σ : qa_S) (r : Int32 ⊕ (Int32 × Int32)) : Int32 := qa_cs r (fun b => b) (fun b => if (0 : Int32) < b.2 then σ 83 0 else if σ 83 0 = 0 then σ 83 0 else -1)
theorem qd_14l (hn : n ≤ 96) (h0 : σ 83 0 = nI n) (N0 : Nat) : ∀ (d a left N : Nat), a + d = n → left ≤ 7 → d < N → qd_fin σ (qa_wh (fun s => .inr s) (mc_14_83_p4 N0 σ) N (nI a, nI left)) = qd_r (q9a_w (fun i => (σ 84 i).toInt) d a left) := by
  intro d
  induction d with
  | zero =>
    intro a left N ha hl hN
    obtain ⟨N, rfl⟩ : ∃ m, N = m + 1 := ⟨N - 1, by omega⟩
    have ea : a = n := by omega
    subst ea
    rw [qa_whr (b := .inr (nI a, nI left)) (by unfold mc_14_83_p4; dsimp only; rw [if_neg (by rw [h0]; exact qb_ltF (by omega) (by omega))])]
    unfold qd_fin
    show (if (0 : Int32) < nI left then σ 83 0 else if σ 83 0 = 0 then σ 83 0 else -1) = qd_r (if left = 0 ∧ a ≠ 0 then none else some a)
    rw [h0]
    by_cases e : left = 0
    · subst e
      rw [if_neg (show ¬ (0 : Int32) < nI 0 by decide)]
      by_cases e0 : a = 0
      · subst e0; rfl
      · rw [if_neg (qb_ne0 e0 (by omega)), if_pos ⟨rfl, e0⟩]; rfl
    · rw [if_pos (show (0 : Int32) < nI left from qb_ltT (a := 0) (by omega) (by omega)), if_neg (fun c => e c.1)]; rfl
  | succ d ih =>
    intro a left N ha hl hN
    obtain ⟨N, rfl⟩ : ∃ m, N = m + 1 := ⟨N - 1, by omega⟩
    have hlt : nI a < σ 83 0 := by rw [h0]; exact qb_ltT (by omega) (by omega)
    cases left with
    | zero =>
      show _ = qd_r (if q9a_lb (σ 84 a).toInt = 0 then some a else q9a_w _ d (a + 1) (q9a_lb (σ 84 a).toInt))
      have h8 := q9a_lb8 (σ 84 a).toInt
      by_cases e : q9a_lb (σ 84 a).toInt = 0
      · rw [if_pos e, qa_whr (b := .inl (nI a)) (by unfold mc_14_83_p4; dsimp only; rw [if_pos hlt, if_pos (show nI 0 = (0 : Int32) from rfl), qb_n (k := a) (by omega), qd_15, e, if_pos (show nI 0 = (0 : Int32) from rfl)])]
        rfl
      · rw [if_neg e, qa_whl (s' := (nI (a + 1), nI (q9a_lb (σ 84 a).toInt))) (by unfold mc_14_83_p4; dsimp only; rw [if_pos hlt, if_pos (show nI 0 = (0 : Int32) from rfl), qb_n (k := a) (by omega), qd_15, if_neg (qb_ne0 e (by omega)), qb_s])]
        exact ih (a + 1) _ N (by omega) h8 (by omega)
    | succ left =>
      show _ = qd_r (if q9a_ok (left + 1) (σ 84 a).toInt = true then q9a_w _ d (a + 1) left else some a)
      have hz : ¬ nI (left + 1) = (0 : Int32) := qb_ne0 (by omega) (by omega)
      by_cases e : q9a_ok (left + 1) (σ 84 a).toInt = true
      · rw [if_pos e, qa_whl (s' := (nI (a + 1), nI left)) (by unfold mc_14_83_p4; dsimp only; rw [if_pos hlt, if_neg hz, qb_n (k := a) (by omega), if_neg (fun c => (qd_bad left _ (by omega)).mp c e), qb_s, qd_dn])]
        exact ih (a + 1) left N (by omega) (by omega) (by omega)
      · rw [if_neg e, qa_whr (b := .inl (nI a)) (by unfold mc_14_83_p4; dsimp only; rw [if_pos hlt, if_neg hz, qb_n (k := a) (by omega), if_pos ((qd_bad left _ (by omega)).mpr e)])]
        rfl
theorem qd_14 {N : Nat} (hN : 5000 ≤ N) (hn : n ≤ 96) (h0 : σ 83 0 = nI n) : ma_14_83 N σ = qd_r (q9a_w (fun i => (σ 84 i).toInt) n 0 0) := by
  have := qd_14l hn h0 N n 0 0 N (by omega) (by omega) (by omega)
  rw [← this]
  rfl
/-- the reference at the letter a, bad or not -/
def qd_S (X : Nat → Int32) (n : Nat) (σ : qa_S) (a : Nat) (b : Bool) : Prop := σ 99 17 = nI n ∧ (∀ i, i < 96 → σ 113 i = X i) ∧ σ 99 18 = nI a ∧ σ 99 19 = nI (bif b then 1 else 0) ∧ a ≤ n
theorem qd_SF {X : Nat → Int32} {w : Nat → Nat → Prop} {a : Nat} {b : Bool} {τ : qa_S} (h : qb_F w σ τ) (hw : ¬ w 99 17 ∧ ¬ w 99 18 ∧ ¬ w 99 19 ∧ ∀ i, ¬ w 113 i) (hS : qd_S X n σ a b) : qd_S X n τ a b := by
  obtain ⟨s1, s2, s3, s4, s5⟩ := hS
  exact ⟨by rw [h 99 17 hw.1]; exact s1, fun i hi => by rw [h 113 i (hw.2.2.2 i)]; exact s2 i hi, by rw [h 99 18 hw.2.1]; exact s3, by rw [h 99 19 hw.2.2.1]; exact s4, s5⟩
theorem qd_155 {X : Nat → Int32} {a : Nat} {b : Bool} (hn : n ≤ 96) (hS : qd_S X n σ a b) : ma_155_99 σ = q9b_h X n a := by
  obtain ⟨s1, s2, s3, s4, s5⟩ := hS
  unfold ma_155_99 q9b_h
  rw [s1, s3]
  by_cases e : a < n
  · rw [if_pos (qb_ltT e (by omega)), if_pos e, qb_n (k := a) (by omega)]; exact s2 a (by omega)
  · rw [if_neg (qb_ltF (by omega) (by omega)), if_neg e]
/-- isBad and at written -/
theorem qd_Sw {X : Nat → Int32} {a a' : Nat} {b b' : Bool} {x y : Int32} (hS : qd_S X n σ a b) (hx : x = nI (bif b' then 1 else 0)) (hy : y = nI a') (ha : a' ≤ n) : qd_S X n (qa_u (qa_u σ 99 19 x) 99 18 y) a' b' := by
  obtain ⟨s1, s2, s3, s4, s5⟩ := hS
  refine ⟨by rw [qb_uN (by omega), qb_uN (by omega)]; exact s1, fun i hi => by rw [qb_uA (by omega), qb_uA (by omega)]; exact s2 i hi, by rw [qb_uE]; exact hy, by rw [qb_uN (by omega), qb_uE]; exact hx, ha⟩
theorem qd_dig {x : Int32} : ma_158 x.toInt64 48 57 = 0 ↔ ¬ (48 ≤ x.toInt ∧ x.toInt ≤ 57) := by
  rw [qb_158z, qb_l, show (48 : Int64).toInt = 48 by decide, show (57 : Int64).toInt = 57 by decide]
theorem qd_h {X : Nat → Int32} {a : Nat} : (48 ≤ (q9b_h X n a).toInt ∧ (q9b_h X n a).toInt ≤ 57) ↔ (a < n ∧ 48 ≤ (X a).toInt ∧ (X a).toInt ≤ 57) := by
  unfold q9b_h
  by_cases e : a < n
  · rw [if_pos e]; exact ⟨fun h => ⟨e, h⟩, fun h => h.2⟩
  · rw [if_neg e, show (-1 : Int32).toInt = -1 by decide]; exact ⟨fun h => by omega, fun h => absurd h.1 e⟩
theorem qd_nx {k : Nat} : nI k + (0 : Int32) = nI k := Int32.add_zero _
/-- digits are read: c of them, i behind it, d to come -/
theorem qd_157l {X : Nat → Int32} (hn : n ≤ 96) (N0 c : Nat) (hc : c ≤ 4) : ∀ (d i a N : Nat) (b : Bool) (v : Int32) (σ : qa_S), i + d = c → d < N → qd_S X n σ a b →
    (b = true → qd_S X n (qa_wh (fun s => s) (mc_157_99_p4 N0 (nI c)) N (nI i, v, σ)).2.2 a true) ∧
    (b = false → (q9b_f (fun i => (X i).toInt) n d a = none → qd_S X n (qa_wh (fun s => s) (mc_157_99_p4 N0 (nI c)) N (nI i, v, σ)).2.2 (a + d) false ∧ (qa_wh (fun s => s) (mc_157_99_p4 N0 (nI c)) N (nI i, v, σ)).2.1 = q9b_v X d a v) ∧ (∀ p, q9b_f (fun i => (X i).toInt) n d a = some p → qd_S X n (qa_wh (fun s => s) (mc_157_99_p4 N0 (nI c)) N (nI i, v, σ)).2.2 p true)) ∧
    qb_F (fun a j => a = 99 ∧ (j = 18 ∨ j = 19)) σ (qa_wh (fun s => s) (mc_157_99_p4 N0 (nI c)) N (nI i, v, σ)).2.2 := by
  intro d
  induction d with
  | zero =>
    intro i a N b v σ hi hN hS
    obtain ⟨N, rfl⟩ : ∃ m, N = m + 1 := ⟨N - 1, by omega⟩
    have e : i = c := by omega
    subst e
    rw [qa_whr (b := (nI i, v, σ)) (by unfold mc_157_99_p4; dsimp only; rw [if_neg (qb_ltF (by omega) (by omega))])]
    refine ⟨fun hb => by rw [hb] at hS; exact hS, fun hb => ⟨fun _ => ⟨by rw [hb] at hS; exact hS, rfl⟩, fun p hp => (nomatch hp)⟩, qb_Fr⟩
  | succ d ih =>
    intro i a N b v σ hi hN hS
    obtain ⟨N, rfl⟩ : ∃ m, N = m + 1 := ⟨N - 1, by omega⟩
    have s3 := hS.2.2.1
    have s4 := hS.2.2.2.1
    have s5 := hS.2.2.2.2
    have eh := qd_155 hn hS
    -- the step
    have st : ∀ (b' : Bool) (a' : Nat), (if σ 99 19 = 0 then (if ma_158 (ma_155_99 σ).toInt64 48 57 = 0 then (1 : Int32) else 0) else 1) = nI (bif b' then 1 else 0) → (b' = true → a' = a) → (b' = false → a' = a + 1) → a' ≤ n → ∃ (v' : Int32) (τ : qa_S), mc_157_99_p4 N0 (nI c) (nI i, v, σ) = .inl (nI (i + 1), v', τ) ∧ qd_S X n τ a' b' ∧ qb_F (fun a j => a = 99 ∧ (j = 18 ∨ j = 19)) σ τ ∧ (b' = false → a < n → v' = ((10 : Int32) * v + X a) - 48) := by
      intro b' a' e1 e2 e3 e4
      unfold mc_157_99_p4
      dsimp only [qa_in]
      rw [if_pos (qb_ltT (by omega) (by omega)), e1, qb_s]
      have u19 : ∀ x, qa_u σ 99 19 x 99 19 = x := fun x => qb_uE
      have u18 : ∀ x, qa_u σ 99 19 x 99 18 = nI a := fun x => by rw [qb_uN (by omega)]; exact s3
      rw [u19, u18]
      cases b' with
      | true =>
        have ea := e2 rfl
        subst ea
        refine ⟨_, _, rfl, qd_Sw hS rfl ?_ s5, fun x y h => ?_, fun h => (nomatch h)⟩
        · show nI a' + (if nI 1 = (0 : Int32) then (1 : Int32) else 0) = nI a'
          rw [if_neg (by decide)]; exact qd_nx
        · rw [qb_uN (by omega), qb_uN (by omega)]
      | false =>
        have ea := e3 rfl
        subst ea
        refine ⟨_, _, rfl, qd_Sw hS rfl ?_ e4, fun x y h => ?_, fun _ h => ?_⟩
        · show nI a + (if nI 0 = (0 : Int32) then (1 : Int32) else 0) = nI (a + 1)
          rw [if_pos (show nI 0 = (0 : Int32) from rfl)]; exact qb_s
        · rw [qb_uN (by omega), qb_uN (by omega)]
        · rw [if_pos (show nI (bif false then 1 else 0) = (0 : Int32) from rfl), qb_n (k := a) (by omega), qb_uA (by omega), hS.2.1 a (by omega)]
    cases b with
    | true =>
      have hz : ¬ σ 99 19 = 0 := by rw [s4]; decide
      obtain ⟨v', τ, e1, e2, e3, -⟩ := st true a (by rw [if_neg hz]; rfl) (fun _ => rfl) (fun h => (nomatch h)) s5
      rw [qa_whl e1]
      obtain ⟨r1, -, r3⟩ := ih (i + 1) a N true v' τ (by omega) (by omega) e2
      exact ⟨fun _ => r1 rfl, fun h => (nomatch h), qb_Ft e3 r3 (fun _ _ h => h) (fun _ _ h => h)⟩
    | false =>
      have hz : σ 99 19 = 0 := by rw [s4]; rfl
      show _ ∧ (_ → ((if a < n ∧ 48 ≤ (X a).toInt ∧ (X a).toInt ≤ 57 then q9b_f (fun i => (X i).toInt) n d (a + 1) else some a) = none → _) ∧ (∀ p, (if a < n ∧ 48 ≤ (X a).toInt ∧ (X a).toInt ≤ 57 then q9b_f (fun i => (X i).toInt) n d (a + 1) else some a) = some p → _)) ∧ _
      by_cases hd : a < n ∧ 48 ≤ (X a).toInt ∧ (X a).toInt ≤ 57
      · rw [if_pos hd]
        obtain ⟨v', τ, e1, e2, e3, e4⟩ := st false (a + 1) (by rw [if_pos hz, if_neg (fun c => qd_dig.mp c (by rw [eh]; exact qd_h.mpr hd))]; rfl) (fun h => (nomatch h)) (fun _ => rfl) (by omega)
        rw [qa_whl e1]
        obtain ⟨-, r2, r3⟩ := ih (i + 1) (a + 1) N false v' τ (by omega) (by omega) e2
        obtain ⟨r4, r5⟩ := r2 rfl
        refine ⟨fun h => (nomatch h), fun _ => ⟨fun hf => ?_, r5⟩, qb_Ft e3 r3 (fun _ _ h => h) (fun _ _ h => h)⟩
        obtain ⟨q1, q2⟩ := r4 hf
        refine ⟨by rw [show a + (d + 1) = a + 1 + d by omega]; exact q1, ?_⟩
        rw [q2, e4 rfl hd.1]
        rfl
      · rw [if_neg hd]
        obtain ⟨v', τ, e1, e2, e3, -⟩ := st true a (by rw [if_pos hz, if_pos (qd_dig.mpr (fun c => hd (qd_h.mp (by rw [eh] at c; exact c))))]; rfl) (fun _ => rfl) (fun h => (nomatch h)) s5
        rw [qa_whl e1]
        obtain ⟨r1, -, r3⟩ := ih (i + 1) a N true v' τ (by omega) (by omega) e2
        exact ⟨fun h => (nomatch h), fun _ => ⟨fun hf => (nomatch hf), fun p hp => by rw [← Option.some.inj hp]; exact r1 rfl⟩, qb_Ft e3 r3 (fun _ _ h => h) (fun _ _ h => h)⟩
/-- what reading c digits from a on does -/
def qd_T (X : Nat → Int32) (n c a : Nat) (b : Bool) (a1 : Nat) (b1 : Bool) (r : Int32) : Prop := (b = true → a1 = a ∧ b1 = true) ∧ (b = false → (q9b_f (fun i => (X i).toInt) n c a = none → a1 = a + c ∧ b1 = false ∧ r = q9b_v X c a 0) ∧ (∀ p, q9b_f (fun i => (X i).toInt) n c a = some p → a1 = p ∧ b1 = true))
theorem qd_157 {X : Nat → Int32} {N c a : Nat} {b : Bool} (hN : 5000 ≤ N) (hn : n ≤ 96) (hc : c ≤ 4) (hS : qd_S X n σ a b) : ∃ a1 b1, qd_S X n (ma_157_99 N (nI c) σ).2 a1 b1 ∧ qd_T X n c a b a1 b1 (ma_157_99 N (nI c) σ).1 ∧ qb_F (fun a j => a = 99 ∧ (j = 18 ∨ j = 19)) σ (ma_157_99 N (nI c) σ).2 := by
  obtain ⟨r1, r2, r3⟩ := qd_157l hn N c hc c 0 a N b 0 σ (by omega) (by omega) hS
  have e1 : (ma_157_99 N (nI c) σ).2 = (qa_wh (fun s => s) (mc_157_99_p4 N (nI c)) N (nI 0, 0, σ)).2.2 := rfl
  have e2 : (ma_157_99 N (nI c) σ).1 = (qa_wh (fun s => s) (mc_157_99_p4 N (nI c)) N (nI 0, 0, σ)).2.1 := rfl
  rw [e1, e2]
  cases b with
  | true => exact ⟨a, true, r1 rfl, ⟨fun _ => ⟨rfl, rfl⟩, fun h => (nomatch h)⟩, r3⟩
  | false =>
    obtain ⟨r4, r5⟩ := r2 rfl
    cases hf : q9b_f (fun i => (X i).toInt) n c a with
    | none =>
      obtain ⟨q1, q2⟩ := r4 hf
      refine ⟨a + c, false, q1, ⟨fun h => (nomatch h), fun _ => ⟨fun _ => ⟨rfl, rfl, q2⟩, fun p hp => by rw [hf] at hp; cases hp⟩⟩, r3⟩
    | some p =>
      refine ⟨p, true, r5 p hf, ⟨fun h => (nomatch h), fun _ => ⟨fun h => (by rw [hf] at h; cases h), fun p' hp => (by rw [hf] at hp; exact ⟨Option.some.inj hp, rfl⟩)⟩⟩, r3⟩
end W65
