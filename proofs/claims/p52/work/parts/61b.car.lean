/-! carry, by hand: its array is told by a field -/
noncomputable def ma_160_99 (a1 : Int32) (σ : qa_S) : Int32 × qa_S :=
  let m1 := (if (σ 99 28) = (0 : Int32) then σ else qa_u σ (σ 99 29).toNatClampNeg (σ 99 27).toNatClampNeg a1)
  let m2 := qa_u m1 99 27 ((m1 99 27) + (1 : Int32))
  ((m2 (m2 99 29).toNatClampNeg ((m2 99 27) - (1 : Int32)).toNatClampNeg), m2)
theorem mb_160_99 {f : Nat} {M : q4_M} {r : Option Value × q4_M} {σ : qa_S} {a1 : Int32} (hM : qa_O M) (es : qa_s M = σ) (h : q4_run f 160 0 (lv_args 0 [.ref 99, .int (a1)]) [] M 0 0 = some r) : r.1 = some (.int ((ma_160_99 a1 σ).1)) ∧ qa_O r.2 ∧ qa_s r.2 = (ma_160_99 a1 σ).2 := by
  obtain ⟨lv, el⟩ : ∃ l, l = lv_args 0 [.ref 99, .int (a1)] := ⟨_, rfl⟩
  have g0 : q4_get lv 0 = some (.ref 99) := by rw [el]; rfl
  have g1 : q4_get lv 1 = some (.int (a1)) := by rw [el]; rfl
  rw [← el] at h
  clear el
  replace h := qa_aload (n := 0) (q := 1) (qa_e rfl h) rfl g0
  replace h := qa_gi (j := 28) (q := 4) (qa_e rfl h) rfl hM es rfl (by decide)
  obtain ⟨m1, em1⟩ : ∃ x, x = (if (σ 99 28) = (0 : Int32) then σ else qa_u σ (σ 99 29).toNatClampNeg (σ 99 27).toNatClampNeg a1) := ⟨_, rfl⟩
  obtain ⟨M, h, hM, es⟩ : ∃ M, q4_run f 160 17 lv [] M 0 0 = some r ∧ qa_O M ∧ qa_s M = m1 := by
    by_cases c1 : (σ 99 28) = (0 : Int32)
    · replace h := qa_ict (q := 17) (qa_e rfl h) rfl (qa_T_eq c1)
      exact ⟨M, h, hM, (qa_ms1 c1 es).trans em1.symm⟩
    · replace h := qa_icf (q := 7) (qa_e rfl h) rfl (qa_F_eq c1)
      replace h := qa_aload (n := 0) (q := 8) (qa_e rfl h) rfl g0
      obtain ⟨w, hw, h⟩ := qa_gk (j := 29) (q := 11) (qa_e rfl h) rfl rfl
      replace h := qa_aload (n := 0) (q := 12) (qa_e rfl h) rfl g0
      replace h := qa_gi (j := 27) (q := 15) (qa_e rfl h) rfl hM es rfl (by decide)
      replace h := qa_iload (n := 1) (q := 16) (qa_e rfl h) rfl g1
      obtain ⟨a, rfl, ha⟩ := qa_isk (qa_e rfl h)
      rw [hM.1] at ha
      have hr := qa_sr hw ha
      rw [es] at hr
      obtain ⟨M, h, hM, es⟩ := qa_iastore (jn := (σ 99 27).toNatClampNeg) (q := 17) (qa_e rfl h) rfl hM es rfl
      rw [hr] at es
      exact ⟨M, h, hM, (qa_ms0 c1 es).trans em1.symm⟩
  replace h := qa_aload (n := 0) (q := 18) (qa_e rfl h) rfl g0
  replace h := qa_dupa (q := 19) (qa_e rfl h) rfl
  replace h := qa_gi (j := 27) (q := 22) (qa_e rfl h) rfl hM es rfl (by decide)
  replace h := qa_push (z := (1 : Int32)) (q := 23) (qa_e rfl h) rfl (by decide)
  replace h := qa_iadd (q := 24) (qa_e rfl h) rfl
  obtain ⟨m2, em2⟩ : ∃ x, x = qa_u m1 99 27 ((m1 99 27) + (1 : Int32)) := ⟨_, rfl⟩
  obtain ⟨M, h, hM, es⟩ := qa_pf (j := 27) (q := 27) (qa_e rfl h) rfl hM es rfl (by decide)
  rw [← em2] at es
  replace h := qa_aload (n := 0) (q := 28) (qa_e rfl h) rfl g0
  obtain ⟨w, hw, h⟩ := qa_gk (j := 29) (q := 31) (qa_e rfl h) rfl rfl
  replace h := qa_aload (n := 0) (q := 32) (qa_e rfl h) rfl g0
  replace h := qa_gi (j := 27) (q := 35) (qa_e rfl h) rfl hM es rfl (by decide)
  replace h := qa_push (z := (1 : Int32)) (q := 36) (qa_e rfl h) rfl (by decide)
  replace h := qa_isub (q := 37) (qa_e rfl h) rfl
  obtain ⟨a, rfl, ha⟩ := qa_iak (qa_e rfl h)
  rw [hM.1] at ha
  have hr := qa_sr hw ha
  rw [es] at hr
  replace h := qa_iaload (jn := ((m2 99 27) - (1 : Int32)).toNatClampNeg) (q := 38) (qa_e rfl h) rfl hM es rfl
  have er := qa_ri (qa_e rfl h)
  subst er
  rw [hr]
  have e0 : ma_160_99 a1 σ = ((m2 (m2 99 29).toNatClampNeg ((m2 99 27) - (1 : Int32)).toNatClampNeg), m2) := by subst em2; subst em1; exact rfl
  rw [e0]
  exact ⟨rfl, hM, es⟩
