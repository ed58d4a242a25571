/-! keeping a change: by hand, with what is known of the changes kept -/
section Q73
variable {k pc len ce sl : Nat} {lv : List (Nat × Value)} {st : List Value} {M : q4_M} {r : Option Value × q4_M}
theorem q73_putfield {f a : Nat} {v : Value} (hcd : q4_cd k pc = some (.putfield f, len)) (hM : q52_M M) (h : 0 < a ∧ a < 124 ∧ q51_kind a = f / 64 + 2 ∧ f / 64 < 8 ∧ f % 64 < q2_N (f / 64)) (hf : q4_fit (q2_ty (f / 64) (f % 64)) v = true) (ht : (q2_T (f / 64) (f % 64)).2.2.2 = false) (hn : q62_ev k (pc + len) lv st (q4_put M a (f % 64) v) ce sl r) : q62_ev k pc lv (v :: .ref a :: st) M ce sl r :=
  q62_s hcd (by
    unfold q4_step
    dsimp only
    have hk := (hM.2.2.2.2 a h.1 h.2.1).1
    rw [if_pos ⟨by rw [hM.1]; exact h.2.1, by rw [hk]; exact h.2.2.1, h.2.2.2.1, h.2.2.2.2, hf, Or.inl ht⟩]) hn
theorem q73_nop {a b : Nat} {n dp sp : Int32} (hcd : q4_cd k pc = some (.nop, len)) (hM : q52_M M) (ha : 3 ≤ a ∧ a < 124 ∧ q51_kind a = 0) (hb : 3 ≤ b ∧ b < 124 ∧ q51_kind b = 0) (h0 : ¬ sp < 0 ∧ ¬ dp < 0 ∧ ¬ n < 0) (h1 : sp.toNatClampNeg + n.toNatClampNeg ≤ q51_len a) (h2 : dp.toNatClampNeg + n.toNatClampNeg ≤ q51_len b) (hr : 1 ≤ q2_fr k ∧ q4_cat st + 18 ≤ q2_lo k) (hn : q62_ev k (pc + len) lv st (q4_copy M a sp.toNatClampNeg b dp.toNatClampNeg n.toNatClampNeg) ce sl r) : q62_ev k pc lv (.int n :: .int dp :: .ref b :: .int sp :: .ref a :: st) M ce sl r :=
  q62_s hcd (by
    unfold q4_step
    dsimp only
    have ka := hM.2.2.2.2 a (by omega) ha.2.1
    have kb := hM.2.2.2.2 b (by omega) hb.2.1
    rw [if_pos ⟨ha.1, by rw [hM.1]; exact ha.2.1, hb.1, by rw [hM.1]; exact hb.2.1, by rw [ka.1]; exact ha.2.2, by rw [kb.1]; exact hb.2.2, h0.1, h0.2.1, h0.2.2, by rw [ka.2.1]; exact h1, by rw [kb.2.1]; exact h2, hr.1, hr.2⟩]) hn
theorem q73_copyE {a sp b dp n i : Nat} (h : dp ≤ i ∧ i < dp + n) : ((q4_copy M a sp b dp n).2 b).2.2 i = (M.2 a).2.2 (sp + (i - dp)) := by
  show (if b = b then _ else _ : q4_C).2.2 i = _
  rw [if_pos rfl]
  show va_cpy (M.2 a).2.2 (M.2 b).2.2 sp dp n i = _
  exact pk_cpy_in h.1 h.2
theorem q73_copyF {W : q50_W} {a sp b dp n : Nat} (h : ∀ i, dp ≤ i → i < dp + n → q50_iw W b i = true) : q52_F W M (q4_copy M a sp b dp n) := by
  refine ⟨fun c => ?_, fun c i hi => ?_⟩
  · show (if c = b then _ else _ : q4_C).1 = _ ∧ (if c = b then _ else _ : q4_C).2.1 = _
    by_cases e : c = b
    · subst e; rw [if_pos rfl]; exact ⟨rfl, rfl⟩
    · rw [if_neg e]; exact ⟨rfl, rfl⟩
  · by_cases e : c = b ∧ dp ≤ i ∧ i < dp + n
    · obtain ⟨rfl, e1, e2⟩ := e
      rw [h i e1 e2] at hi
      cases hi
    · exact q58_copyN e
end Q73
def q73_W : q50_W := [(85, 0, 0), (86, 0, 7), (87, 0, 7), (88, 0, 7)]
theorem q73_iw : (List.range 8).all (fun i => q50_iw q73_W 86 i && q50_iw q73_W 87 i && q50_iw q73_W 88 i && q50_iw q73_W 85 0) = true := by decide +kernel
theorem q73_wi {i : Nat} (h : i < 8) : q50_iw q73_W 86 i = true ∧ q50_iw q73_W 87 i = true ∧ q50_iw q73_W 88 i = true ∧ q50_iw q73_W 85 0 = true := by
  have := List.all_eq_true.mp q73_iw i (List.mem_range.mpr h)
  simp only [Bool.and_eq_true] at this
  exact ⟨this.1.1.1, this.1.1.2, this.1.2, this.2⟩
theorem q73_gi {z : Int32} {lo hi : Int} (h1 : lo ≤ z.toInt) (h2 : z.toInt ≤ hi) : q52_g [] (0, lo, hi) (.int z) := Or.inl ⟨rfl, z, rfl, h1, h2⟩
theorem q73_drop {M : q4_M} {lv : List (Nat × Value)} (hM : q52_M M) (hJ : q60_J M) (h0 : q4_get lv 0 = some (.ref 85)) : ∃ M1, q62_ev 38 0 lv [] M 0 0 (none, M1) ∧ q52_M M1 ∧ q60_J M1 ∧ q52_F q73_W M M1 ∧ (M1.2 85).2.2 0 = .int 7 := by
  have gG : ∀ b i, 85 < b → b < 89 → i < 8 → ∀ M : q4_M, q52_M M → q52_g [] (q51_G b (0 + i)) ((M.2 b).2.2 (1 + i)) ∨ i = 7 := by
    intro b i h1 h2 h3 M hM
    by_cases e : i = 7
    · exact Or.inr e
    · left
      have h4 : q51_len b = 8 := by
        have : b = 86 ∨ b = 87 ∨ b = 88 := by omega
        rcases this with rfl | rfl | rfl <;> rfl
      have h5 : q51_uni b = true := by
        have : b = 86 ∨ b = 87 ∨ b = 88 := by omega
        rcases this with rfl | rfl | rfl <;> rfl
      have := (hM.2.2.2.2 b (by omega) (by omega)).2.2 (1 + i) (by omega)
      rw [q57_uni h5] at this ⊢
      exact this
  obtain ⟨Ma, ea⟩ : ∃ Ma, Ma = q4_copy M 86 1 86 0 7 := ⟨_, rfl⟩
  have hMa : q52_M Ma := by
    rw [ea]
    exact q58_copy hM (by decide) (by decide) (fun i hi => (gG 86 i (by decide) (by decide) (by omega) M hM).resolve_right (by omega))
  obtain ⟨Mb, eb⟩ : ∃ Mb, Mb = q4_copy Ma 87 1 87 0 7 := ⟨_, rfl⟩
  have hMb : q52_M Mb := by
    rw [eb]
    exact q58_copy hMa (by decide) (by decide) (fun i hi => (gG 87 i (by decide) (by decide) (by omega) Ma hMa).resolve_right (by omega))
  obtain ⟨Mc, ec⟩ : ∃ Mc, Mc = q4_copy Mb 88 1 88 0 7 := ⟨_, rfl⟩
  have hMc : q52_M Mc := by
    rw [ec]
    exact q58_copy hMb (by decide) (by decide) (fun i hi => (gG 88 i (by decide) (by decide) (by omega) Mb hMb).resolve_right (by omega))
  have hMd : q52_M (q4_put Mc 85 0 (.int 7)) := q57_put hMc (by decide) (by decide) (fun _ => q73_gi (by decide) (by decide))
  have v87 : ∀ i, (Mc.2 87).2.2 i = if i < 7 then (M.2 87).2.2 (i + 1) else (M.2 87).2.2 i := by
    intro i
    rw [ec, q58_copyN (by omega), eb]
    by_cases h : i < 7
    · rw [if_pos h, q73_copyE ⟨by omega, by omega⟩, ea, q58_copyN (by omega)]
      rw [show 1 + (i - 0) = i + 1 by omega]
    · rw [if_neg h, q58_copyN (by omega), ea, q58_copyN (by omega)]
  have v88 : ∀ i, (Mc.2 88).2.2 i = if i < 7 then (M.2 88).2.2 (i + 1) else (M.2 88).2.2 i := by
    intro i
    rw [ec]
    by_cases h : i < 7
    · rw [if_pos h, q73_copyE ⟨by omega, by omega⟩, eb, q58_copyN (by omega), ea, q58_copyN (by omega)]
      rw [show 1 + (i - 0) = i + 1 by omega]
    · rw [if_neg h, q58_copyN (by omega), eb, q58_copyN (by omega), ea, q58_copyN (by omega)]
  refine ⟨q4_put Mc 85 0 (.int 7), ?_, hMd, ?_, ?_, q57_putE⟩
  · refine q62_aload (n := 0) rfl h0 ?_
    refine q62_getfield (f := 129) rfl hM (by decide) (q62_ref (p := 86) hM (by decide) (by decide) (by decide) rfl) ?_
    refine q62_s (i := .bipush 1) rfl rfl ?_
    refine q62_aload (n := 0) rfl h0 ?_
    refine q62_getfield (f := 129) rfl hM (by decide) (q62_ref (p := 86) hM (by decide) (by decide) (by decide) rfl) ?_
    refine q62_s (i := .bipush 0) rfl rfl ?_
    refine q62_s (i := .bipush 7) rfl rfl ?_
    refine q73_nop (a := 86) (b := 86) rfl hM (by decide) (by decide) (by decide) (by decide) (by decide) (by decide) ?_
    rw [show q4_copy M 86 (Int32.ofInt 1).toNatClampNeg 86 (Int32.ofInt 0).toNatClampNeg (Int32.ofInt 7).toNatClampNeg = Ma from ea.symm]
    refine q62_aload (n := 0) rfl h0 ?_
    refine q62_getfield (f := 130) rfl hMa (by decide) (q62_ref (p := 87) hMa (by decide) (by decide) (by decide) rfl) ?_
    refine q62_s (i := .bipush 1) rfl rfl ?_
    refine q62_aload (n := 0) rfl h0 ?_
    refine q62_getfield (f := 130) rfl hMa (by decide) (q62_ref (p := 87) hMa (by decide) (by decide) (by decide) rfl) ?_
    refine q62_s (i := .bipush 0) rfl rfl ?_
    refine q62_s (i := .bipush 7) rfl rfl ?_
    refine q73_nop (a := 87) (b := 87) rfl hMa (by decide) (by decide) (by decide) (by decide) (by decide) (by decide) ?_
    rw [show q4_copy Ma 87 (Int32.ofInt 1).toNatClampNeg 87 (Int32.ofInt 0).toNatClampNeg (Int32.ofInt 7).toNatClampNeg = Mb from eb.symm]
    refine q62_aload (n := 0) rfl h0 ?_
    refine q62_getfield (f := 131) rfl hMb (by decide) (q62_ref (p := 88) hMb (by decide) (by decide) (by decide) rfl) ?_
    refine q62_s (i := .bipush 1) rfl rfl ?_
    refine q62_aload (n := 0) rfl h0 ?_
    refine q62_getfield (f := 131) rfl hMb (by decide) (q62_ref (p := 88) hMb (by decide) (by decide) (by decide) rfl) ?_
    refine q62_s (i := .bipush 0) rfl rfl ?_
    refine q62_s (i := .bipush 7) rfl rfl ?_
    refine q73_nop (a := 88) (b := 88) rfl hMb (by decide) (by decide) (by decide) (by decide) (by decide) (by decide) ?_
    rw [show q4_copy Mb 88 (Int32.ofInt 1).toNatClampNeg 88 (Int32.ofInt 0).toNatClampNeg (Int32.ofInt 7).toNatClampNeg = Mc from ec.symm]
    refine q62_aload (n := 0) rfl h0 ?_
    refine q62_s (i := .bipush 7) rfl rfl ?_
    refine q73_putfield (f := 128) rfl hMc (by decide) (by decide) (by decide) ?_
    exact q62_r (i := .return_) rfl rfl
  · intro i hi v h1 h2
    rw [q57_putN (by omega), v87] at h1
    rw [q57_putN (by omega), v88] at h2
    by_cases h : i < 7
    · rw [if_pos h] at h1 h2
      exact hJ (i + 1) (by omega) v h1 h2
    · rw [if_neg h] at h1 h2
      exact hJ i hi v h1 h2
  · have f1 : q52_F q73_W M Ma := by rw [ea]; exact q73_copyF (fun i h1 h2 => (q73_wi (by omega)).1)
    have f2 : q52_F q73_W Ma Mb := by rw [eb]; exact q73_copyF (fun i h1 h2 => (q73_wi (by omega)).2.1)
    have f3 : q52_F q73_W Mb Mc := by rw [ec]; exact q73_copyF (fun i h1 h2 => (q73_wi (by omega)).2.2.1)
    exact q57_Ft f1 (q57_Ft f2 (q57_Ft f3 (q57_putF (q73_wi (i := 0) (by decide)).2.2.2)))
theorem q73_tail {M : q4_M} {lv : List (Nat × Value)} {n c f w : Int32} (hM : q52_M M) (hJ : q60_J M) (hn : (M.2 85).2.2 0 = .int n) (n0 : 0 ≤ n.toInt) (n1 : n.toInt < 8) (h0 : q4_get lv 0 = some (.ref 85)) (h1 : q4_get lv 1 = some (.int c)) (h2 : q4_get lv 2 = some (.int f)) (h3 : q4_get lv 3 = some (.int w))
    (c0 : 0 ≤ c.toInt ∧ c.toInt ≤ 6) (f0 : -1 ≤ f.toInt ∧ f.toInt ≤ 4) (hw : f = -1 → w.toInt ≤ 207) : ∃ M1, q62_ev 37 13 lv [] M 0 0 (none, M1) ∧ q52_M M1 ∧ q60_J M1 ∧ q52_F q73_W M M1 := by
  obtain ⟨j, ej⟩ : ∃ j, j = n.toInt.toNat := ⟨_, rfl⟩
  have hj : j < 8 := by omega
  obtain ⟨Ma, ea⟩ : ∃ Ma, Ma = q4_put M 86 j (.int c) := ⟨_, rfl⟩
  have hMa : q52_M Ma := by rw [ea]; exact q57_put hM (by decide) (by decide) (fun _ => by rw [q57_uni (a := 86) rfl]; exact q73_gi c0.1 c0.2)
  obtain ⟨Mb, eb⟩ : ∃ Mb, Mb = q4_put Ma 87 j (.int f) := ⟨_, rfl⟩
  have hMb : q52_M Mb := by rw [eb]; exact q57_put hMa (by decide) (by decide) (fun _ => by rw [q57_uni (a := 87) rfl]; exact q73_gi f0.1 f0.2)
  obtain ⟨Mc, ec⟩ : ∃ Mc, Mc = q4_put Mb 88 j (.int w) := ⟨_, rfl⟩
  have hMc : q52_M Mc := by rw [ec]; exact q57_put hMb (by decide) (by decide) (fun _ => by rw [q57_uni (a := 88) rfl]; exact q73_gi (q53_r32 w).1 (q53_r32 w).2)
  have na : (Ma.2 85).2.2 0 = .int n := by rw [ea, q57_putN (by omega)]; exact hn
  have nb : (Mb.2 85).2.2 0 = .int n := by rw [eb, q57_putN (by omega)]; exact na
  have nc : (Mc.2 85).2.2 0 = .int n := by rw [ec, q57_putN (by omega)]; exact nb
  have e1 : (n + Int32.ofInt 1).toInt = n.toInt + 1 := by
    rw [Int32.toInt_add]
    exact q53_b32 (z := n.toInt + 1) (by omega) (by omega)
  refine ⟨q4_put Mc 85 0 (.int (n + Int32.ofInt 1)), ?_, ?_, ?_, ?_⟩
  · refine q62_aload (n := 0) rfl h0 ?_
    refine q62_getfield (f := 129) rfl hM (by decide) (q62_ref (p := 86) hM (by decide) (by decide) (by decide) rfl) ?_
    refine q62_aload (n := 0) rfl h0 ?_
    refine q62_getfield (f := 128) rfl hM (by decide) hn ?_
    refine q62_iload (n := 1) rfl h1 ?_
    refine q62_iastore (a := 86) rfl hM (by decide) n0 n1 ?_
    rw [← ej, ← ea]
    refine q62_aload (n := 0) rfl h0 ?_
    refine q62_getfield (f := 130) rfl hMa (by decide) (q62_ref (p := 87) hMa (by decide) (by decide) (by decide) rfl) ?_
    refine q62_aload (n := 0) rfl h0 ?_
    refine q62_getfield (f := 128) rfl hMa (by decide) na ?_
    refine q62_iload (n := 2) rfl h2 ?_
    refine q62_iastore (a := 87) rfl hMa (by decide) n0 n1 ?_
    rw [← ej, ← eb]
    refine q62_aload (n := 0) rfl h0 ?_
    refine q62_getfield (f := 131) rfl hMb (by decide) (q62_ref (p := 88) hMb (by decide) (by decide) (by decide) rfl) ?_
    refine q62_aload (n := 0) rfl h0 ?_
    refine q62_getfield (f := 128) rfl hMb (by decide) nb ?_
    refine q62_iload (n := 3) rfl h3 ?_
    refine q62_iastore (a := 88) rfl hMb (by decide) n0 n1 ?_
    rw [← ej, ← ec]
    refine q62_aload (n := 0) rfl h0 ?_
    refine q62_s (i := .dup) rfl rfl ?_
    refine q62_getfield (f := 128) rfl hMc (by decide) nc ?_
    refine q62_s (i := .bipush 1) rfl rfl ?_
    refine q62_s (i := .iadd) rfl rfl ?_
    refine q73_putfield (f := 128) rfl hMc (by decide) rfl (by decide) ?_
    exact q62_r (i := .return_) rfl rfl
  · exact q57_put hMc (by decide) (by decide) (fun _ => q73_gi (lo := 0) (hi := 8) (by omega) (by omega))
  · intro i hi v g1 g2
    rw [q57_putN (by omega), ec, q57_putN (by omega), eb] at g1
    rw [q57_putN (by omega), ec] at g2
    by_cases h : i = j
    · subst h
      rw [q57_putE] at g1 g2
      cases g1
      cases g2
      exact hw rfl
    · rw [q57_putN (by omega), ea, q57_putN (by omega)] at g1
      rw [q57_putN (by omega), eb, q57_putN (by omega), ea, q57_putN (by omega)] at g2
      exact hJ i hi v g1 g2
  · have f1 : q52_F q73_W M Ma := by rw [ea]; exact q57_putF (q73_wi hj).1
    have f2 : q52_F q73_W Ma Mb := by rw [eb]; exact q57_putF (q73_wi hj).2.1
    have f3 : q52_F q73_W Mb Mc := by rw [ec]; exact q57_putF (q73_wi hj).2.2.1
    exact q57_Ft f1 (q57_Ft f2 (q57_Ft f3 (q57_putF (q73_wi hj).2.2.2)))
theorem q73_keep {M : q4_M} {lv : List (Nat × Value)} {c f w : Int32} (hM : q52_M M) (hJ : q60_J M) (h0 : q4_get lv 0 = some (.ref 85)) (h1 : q4_get lv 1 = some (.int c)) (h2 : q4_get lv 2 = some (.int f)) (h3 : q4_get lv 3 = some (.int w))
    (c0 : 0 ≤ c.toInt ∧ c.toInt ≤ 6) (f0 : -1 ≤ f.toInt ∧ f.toInt ≤ 4) (hw : f = -1 → w.toInt ≤ 207) : ∃ M1, q62_ev 37 0 lv [] M 0 0 (none, M1) ∧ q52_M M1 ∧ q60_J M1 ∧ q52_F q73_W M M1 := by
  obtain ⟨n, hn, n0, n1⟩ := q62_int (a := 85) (j := 0) (lo := 0) (hi := 8) hM (by decide) (by decide) (by decide) rfl
  by_cases h : n.toInt < 8
  · obtain ⟨M1, t1, t2⟩ := q73_tail hM hJ hn n0 h h0 h1 h2 h3 c0 f0 hw
    refine ⟨M1, ?_, t2⟩
    refine q62_aload (n := 0) rfl h0 ?_
    refine q62_getfield (f := 128) rfl hM (by decide) hn ?_
    refine q62_s (i := .bipush 8) rfl rfl ?_
    have hlt : n < Int32.ofInt 8 := Int32.lt_iff_toInt_lt.mpr (by rw [show (Int32.ofInt 8).toInt = 8 from by decide]; omega)
    exact q62_ift (c := .lt) rfl (decide_eq_true hlt) t1
  · have e : n = 8 := Int32.toInt_inj.mp (by rw [show (8 : Int32).toInt = 8 from by decide]; omega)
    subst e
    obtain ⟨Md, d1, d2, d3, d4, d5⟩ := q73_drop (lv := [(0, .ref 85)]) hM hJ rfl
    obtain ⟨M1, t1, t2, t3, t4⟩ := q73_tail d2 d3 d5 (by decide) (by decide) h0 h1 h2 h3 c0 f0 hw
    refine ⟨M1, ?_, t2, t3, q57_Ft d4 t4⟩
    refine q62_aload (n := 0) rfl h0 ?_
    refine q62_getfield (f := 128) rfl hM (by decide) hn ?_
    refine q62_s (i := .bipush 8) rfl rfl ?_
    refine q62_iff (c := .lt) rfl (by decide) ?_
    refine q62_aload (n := 0) rfl h0 ?_
    exact q62_virt (y := 38) (a := 85) (as := []) (rest := []) (v := none) rfl hM rfl rfl (by decide) (by decide) d1 t1
