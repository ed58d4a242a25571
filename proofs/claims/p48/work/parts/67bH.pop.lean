/-! THE CLASS COUNTS BITS (Integer.bitCount), below 2^21 -/
def qp_s (x k : Int32) : Int32 := (x.toUInt32 >>> (k.toUInt32 &&& Int32.toUInt32 31)).toInt32
theorem qp_su {v k : Nat} (hv : v < 2147483648) (h0 : 0 < k) (hk : k < 32) : qp_s (nI v) (nI k) = nI (v / 2 ^ k) := by
  have e := pk_ushr (nI v) (nI k) k (q53_su k hk)
  have h1 : (nI v).toBitVec.toNat = v := by
    have := (q53_nat (x := nI v) (by rw [nI_toInt hv]; omega)).2
    rw [nI_toInt hv] at this
    omega
  have h2 : v / 2 ^ k ≤ v := Nat.div_le_self _ _
  rw [h1] at e
  have t := q53_ofnat e (by omega)
  apply Int32.toInt_inj.mp
  rw [nI_toInt (by omega)]
  exact t
def qp_1 (x : Int32) : Int32 := x - (qp_s x 1 &&& 1431655765)
def qp_2 (x : Int32) : Int32 := (x &&& 858993459) + (qp_s x 2 &&& 858993459)
def qp_3 (x : Int32) : Int32 := (x + qp_s x 4) &&& 252645135
def qp_4 (x : Int32) : Int32 := x + qp_s x 8
def qp_5 (x : Int32) : Int32 := x + qp_s x 16
theorem qp_63 (x : Int32) : ma_63 x = qp_5 (qp_4 (qp_3 (qp_2 (qp_1 x)))) &&& 63 := rfl
theorem qp_an {a b c d : Nat} (hb : b < 256) (hd : d < 256) : (256 * a + b) &&& (256 * c + d) = 256 * (a &&& c) + (b &&& d) := by
  have h1 : ((256 * a + b) &&& (256 * c + d)) % 2 ^ 8 = ((256 * a + b) % 2 ^ 8) &&& ((256 * c + d) % 2 ^ 8) := Nat.and_mod_two_pow
  have h2 : ((256 * a + b) &&& (256 * c + d)) / 2 ^ 8 = ((256 * a + b) / 2 ^ 8) &&& ((256 * c + d) / 2 ^ 8) := Nat.and_div_two_pow
  rw [show (256 * a + b) % 2 ^ 8 = b by omega, show (256 * c + d) % 2 ^ 8 = d by omega] at h1
  rw [show (256 * a + b) / 2 ^ 8 = a by omega, show (256 * c + d) / 2 ^ 8 = c by omega] at h2
  omega
theorem qp_an3 {a b c p q r : Nat} (ha : a < 256) (hb : b < 256) (hp : p < 256) (hq : q < 256) : (256 * (256 * c + b) + a) &&& (256 * (256 * r + q) + p) = 256 * (256 * (c &&& r) + (b &&& q)) + (a &&& p) := by
  rw [qp_an ha hp, qp_an hb hq]
def qp_f1 (a : Nat) : Nat := a - (a / 2 &&& 85)
def qp_f2 (a : Nat) : Nat := (a &&& 51) + (a / 4 &&& 51)
def qp_pc (a : Nat) : Nat := qs_ct (fun k => a.testBit k) 8
theorem qp_d1 : ∀ a, a < 256 → (a / 2 &&& 85) ≤ a ∧ qp_f1 a < 256 ∧ ((a / 2 + 128 * 0) &&& 85) = (a / 2 &&& 85) ∧ ((a / 2 + 128 * 1) &&& 85) = (a / 2 &&& 85) := by decide +kernel
theorem qp_d2 : ∀ a, a < 256 → (∀ e, e < 4 → ((qp_f1 a / 4 + 64 * e) &&& 51) = (qp_f1 a / 4 &&& 51)) ∧ qp_f2 (qp_f1 a) ≤ 68 ∧ qp_f2 (qp_f1 a) % 16 ≤ 4 := by decide +kernel
theorem qp_d3 : ∀ a, a < 256 → (∀ e, e < 5 → ((qp_f2 (qp_f1 a) + qp_f2 (qp_f1 a) / 16 + 16 * e) &&& 15) = qp_pc a) := by decide +kernel
theorem qp_d4 : ∀ c, c < 32 → (c / 2 &&& 21845) = (c / 2 &&& 85) ∧ (qp_f1 c &&& 13107) = (qp_f1 c &&& 51) ∧ (qp_f1 c / 4 &&& 13107) = (qp_f1 c / 4 &&& 51) ∧ ((qp_f2 (qp_f1 c) + qp_f2 (qp_f1 c) / 16) &&& 3855) = qp_pc c := by decide +kernel
theorem qp_all {a b c : Nat} (ha : a < 256) (hb : b < 256) (hc : c < 32) : ma_63 (nI (256 * (256 * c + b) + a)) = nI (qp_pc a + qp_pc b + qp_pc c) := by
  obtain ⟨a1, a2, a3, a4⟩ := qp_d1 a ha
  obtain ⟨b1, b2, b3, b4⟩ := qp_d1 b hb
  obtain ⟨c1, c2, c3, c4⟩ := qp_d1 c (by omega)
  obtain ⟨a5, a6, a7⟩ := qp_d2 a ha
  obtain ⟨b5, b6, b7⟩ := qp_d2 b hb
  obtain ⟨c5, c6, c7⟩ := qp_d2 c (by omega)
  have a8 := qp_d3 a ha
  have b8 := qp_d3 b hb
  obtain ⟨k1, k2, k3, k4⟩ := qp_d4 c hc
  rw [qp_63]
  have e1 : qp_1 (nI (256 * (256 * c + b) + a)) = nI (256 * (256 * qp_f1 c + qp_f1 b) + qp_f1 a) := by
    unfold qp_1
    rw [show qp_s (nI (256 * (256 * c + b) + a)) 1 = nI ((256 * (256 * c + b) + a) / 2 ^ 1) from qp_su (k := 1) (by omega) (by omega) (by omega), show (1431655765 : Int32) = nI (256 * (256 * 21845 + 85) + 85) from rfl, qw_an]
    have h : (256 * (256 * c + b) + a) / 2 ^ 1 = 256 * (256 * (c / 2) + (b / 2 + 128 * (c % 2))) + (a / 2 + 128 * (b % 2)) := by omega
    have hb2 : ((b / 2 + 128 * (c % 2)) &&& 85) = (b / 2 &&& 85) := by
      rcases Nat.mod_two_eq_zero_or_one c with e | e <;> rw [e] <;> assumption
    have ha2 : ((a / 2 + 128 * (b % 2)) &&& 85) = (a / 2 &&& 85) := by
      rcases Nat.mod_two_eq_zero_or_one b with e | e <;> rw [e] <;> assumption
    rw [h, qp_an3 (by omega) (by omega) (by omega) (by omega), k1, hb2, ha2, qw_sub (by omega)]
    unfold qp_f1
    exact congrArg nI (by omega)
  have f1c : qp_f1 c ≤ c := Nat.sub_le _ _
  have e2 : qp_2 (nI (256 * (256 * qp_f1 c + qp_f1 b) + qp_f1 a)) = nI (256 * (256 * qp_f2 (qp_f1 c) + qp_f2 (qp_f1 b)) + qp_f2 (qp_f1 a)) := by
    unfold qp_2
    rw [show qp_s (nI (256 * (256 * qp_f1 c + qp_f1 b) + qp_f1 a)) 2 = nI ((256 * (256 * qp_f1 c + qp_f1 b) + qp_f1 a) / 2 ^ 2) from qp_su (k := 2) (by omega) (by omega) (by omega), show (858993459 : Int32) = nI (256 * (256 * 13107 + 51) + 51) from rfl, qw_an, qw_an]
    have h : (256 * (256 * qp_f1 c + qp_f1 b) + qp_f1 a) / 2 ^ 2 = 256 * (256 * (qp_f1 c / 4) + (qp_f1 b / 4 + 64 * (qp_f1 c % 4))) + (qp_f1 a / 4 + 64 * (qp_f1 b % 4)) := by omega
    rw [h, qp_an3 a2 b2 (by omega) (by omega), qp_an3 (by omega) (by omega) (by omega) (by omega), k2, k3, b5 _ (Nat.mod_lt _ (by omega)), a5 _ (Nat.mod_lt _ (by omega)), qw_add]
    unfold qp_f2
    exact congrArg nI (by omega)
  have e3 : qp_3 (nI (256 * (256 * qp_f2 (qp_f1 c) + qp_f2 (qp_f1 b)) + qp_f2 (qp_f1 a))) = nI (256 * (256 * qp_pc c + qp_pc b) + qp_pc a) := by
    unfold qp_3
    rw [show qp_s (nI (256 * (256 * qp_f2 (qp_f1 c) + qp_f2 (qp_f1 b)) + qp_f2 (qp_f1 a))) 4 = nI ((256 * (256 * qp_f2 (qp_f1 c) + qp_f2 (qp_f1 b)) + qp_f2 (qp_f1 a)) / 2 ^ 4) from qp_su (k := 4) (by omega) (by omega) (by omega), show (252645135 : Int32) = nI (256 * (256 * 3855 + 15) + 15) from rfl, qw_add, qw_an]
    have h : (256 * (256 * qp_f2 (qp_f1 c) + qp_f2 (qp_f1 b)) + qp_f2 (qp_f1 a)) + (256 * (256 * qp_f2 (qp_f1 c) + qp_f2 (qp_f1 b)) + qp_f2 (qp_f1 a)) / 2 ^ 4 = 256 * (256 * (qp_f2 (qp_f1 c) + qp_f2 (qp_f1 c) / 16) + (qp_f2 (qp_f1 b) + qp_f2 (qp_f1 b) / 16 + 16 * (qp_f2 (qp_f1 c) % 16))) + (qp_f2 (qp_f1 a) + qp_f2 (qp_f1 a) / 16 + 16 * (qp_f2 (qp_f1 b) % 16)) := by omega
    rw [h, qp_an3 (by omega) (by omega) (by omega) (by omega), k4, b8 _ (by omega), a8 _ (by omega)]
  have pl : ∀ x, qp_pc x ≤ 8 := fun x => qs_ctl
  have p1 := pl a
  have p2 := pl b
  have p3 := pl c
  rw [e1, e2, e3]
  unfold qp_4
  rw [show qp_s (nI (256 * (256 * qp_pc c + qp_pc b) + qp_pc a)) 8 = nI ((256 * (256 * qp_pc c + qp_pc b) + qp_pc a) / 2 ^ 8) from qp_su (k := 8) (by omega) (by omega) (by omega), qw_add]
  unfold qp_5
  rw [show qp_s (nI (256 * (256 * qp_pc c + qp_pc b) + qp_pc a + (256 * (256 * qp_pc c + qp_pc b) + qp_pc a) / 2 ^ 8)) 16 = nI ((256 * (256 * qp_pc c + qp_pc b) + qp_pc a + (256 * (256 * qp_pc c + qp_pc b) + qp_pc a) / 2 ^ 8) / 2 ^ 16) from qp_su (k := 16) (by omega) (by omega) (by omega), qw_add, show (63 : Int32) = nI (2 ^ 6 - 1) from rfl, qw_an, Nat.and_two_pow_sub_one_eq_mod]
  have y1 : (256 * (256 * qp_pc c + qp_pc b) + qp_pc a) / 2 ^ 8 = 256 * qp_pc c + qp_pc b := by omega
  have y2 : (256 * (256 * qp_pc c + qp_pc b) + qp_pc a + (256 * qp_pc c + qp_pc b)) / 2 ^ 16 = qp_pc c := by omega
  rw [y1, y2]
  have y3 : (256 * (256 * qp_pc c + qp_pc b) + qp_pc a + (256 * qp_pc c + qp_pc b) + qp_pc c) % 64 = qp_pc a + qp_pc b + qp_pc c := by omega
  exact congrArg nI y3
theorem qp_cs {p : Nat → Bool} {m : Nat} : ∀ k, qs_ct p (m + k) = qs_ct p m + qs_ct (fun j => p (m + j)) k := by
  intro k
  induction k with
  | zero => rfl
  | succ k ih =>
    show (if p (m + k) then qs_ct p (m + k) + 1 else qs_ct p (m + k)) = qs_ct p m + (if p (m + k) then qs_ct (fun j => p (m + j)) k + 1 else qs_ct (fun j => p (m + j)) k)
    rw [ih]
    split <;> omega
/-- the class counts the bits gathered -/
theorem qs_pop {p : Nat → Bool} {n : Nat} (hn : n ≤ 21) : ma_63 (nI (qs_en p n)) = nI (qs_ct p n) := by
  have h1 := qs_enl (p := p) n
  have h2 : 2 ^ n ≤ 2 ^ 21 := Nat.pow_le_pow_right (by omega) hn
  obtain ⟨v, ev⟩ : ∃ v, v = qs_en p n := ⟨_, rfl⟩
  have hv : v < 2097152 := by rw [ev]; omega
  have e : v = 256 * (256 * (v / 65536) + v / 256 % 256) + v % 256 := by omega
  rw [← ev, e, qp_all (by omega) (by omega) (by omega)]
  refine congrArg nI ?_
  have t : ∀ k, v.testBit k = (decide (k < n) && p k) := fun k => by rw [ev]; exact qs_ent n k
  have s1 : qp_pc (v % 256) = qs_ct (fun k => v.testBit k) 8 := qs_ctx (fun k hk => by
    rw [show 256 = 2 ^ 8 from rfl, Nat.testBit_mod_two_pow, decide_eq_true hk, Bool.true_and])
  have s2 : qp_pc (v / 256 % 256) = qs_ct (fun k => v.testBit (8 + k)) 8 := qs_ctx (fun k hk => by
    rw [show 256 = 2 ^ 8 from rfl, Nat.testBit_mod_two_pow, decide_eq_true hk, Bool.true_and, Nat.testBit_div_two_pow, Nat.add_comm])
  have s3 : qp_pc (v / 65536) = qs_ct (fun k => v.testBit (16 + k)) 8 := qs_ctx (fun k hk => by
    rw [show 65536 = 2 ^ 16 from rfl, Nat.testBit_div_two_pow, Nat.add_comm])
  have a1 : qs_ct (fun k => v.testBit k) 24 = qs_ct (fun k => v.testBit k) 16 + qs_ct (fun k => v.testBit (16 + k)) 8 := qp_cs (p := fun k => v.testBit k) (m := 16) 8
  have a2 : qs_ct (fun k => v.testBit k) 16 = qs_ct (fun k => v.testBit k) 8 + qs_ct (fun k => v.testBit (8 + k)) 8 := qp_cs (p := fun k => v.testBit k) (m := 8) 8
  have a3 : qs_ct (fun k => v.testBit k) 24 = qs_ct p n := by
    have h := qs_ctp (p := p) (n := n) (24 - n)
    rw [show n + (24 - n) = 24 by omega] at h
    rw [← h]
    exact qs_ctx (fun k _ => t k)
  rw [s1, s2, s3, ← a3]
  omega
