/-! the pairs of calls -/
def ql_I (M : q4_M) : Prop := q52_M M ∧ q60_J M ∧ qb_I False False (qa_s M)
theorem qp_8 {M : q4_M} (h : ql_I M) (x1 : Int32) : ∃ (M1 M2 : q4_M) (z z' : Int32), q62_ev 8 0 (lv_args 0 [.ref 3, .int x1]) [] M 0 0 (some (.int z), M1) ∧ q52_M M1 ∧ q62_ev 151 0 (lv_args 0 [.ref 99, .int x1]) [] M1 0 0 (some (.int z'), M2) ∧ ql_I M2 ∧ qf_S M M1 ∧ qf_S M M2 ∧ z = z' := by
  obtain ⟨hM, hJ, hI⟩ := h
  obtain ⟨f1, r1, e1, a1, b1, c1⟩ := qf_y8 x1 hM hJ
  obtain ⟨f2, r2, e2, a2, b2, c2⟩ := qf_y151 x1 a1 b1
  have p1 := mb_8_3 (qa_of hM) rfl e1
  have p2 := mb_151_99 (qa_of a1) p1.2.2 e2
  have q := qc_8 hI x1
  have I2 : qb_I False False (qa_s r2.2) := by rw [p2.2.2]; exact q.2
  exact ⟨r1.2, r2.2, _, _, ⟨f1, e1.trans (congrArg some (Prod.ext p1.1 rfl))⟩, a1, ⟨f2, e2.trans (congrArg some (Prod.ext p2.1 rfl))⟩, ⟨a2, b2, I2⟩, c1, qf_St c1 c2, q.1⟩
theorem qp_11 {M : q4_M} (h : ql_I M) : ∃ (M1 M2 : q4_M) (z z' : Int32), q62_ev 11 0 (lv_args 0 [.ref 3]) [] M 0 0 (some (.int z), M1) ∧ q52_M M1 ∧ q62_ev 153 0 (lv_args 0 [.ref 99]) [] M1 0 0 (some (.int z'), M2) ∧ ql_I M2 ∧ qf_S M M1 ∧ qf_S M M2 ∧ z = z' := by
  obtain ⟨hM, hJ, hI⟩ := h
  obtain ⟨f1, r1, e1, a1, b1, c1⟩ := qf_y11 hM hJ
  obtain ⟨f2, r2, e2, a2, b2, c2⟩ := qf_y153 a1 b1
  have p1 := mb_11_3 (N := f1 + f2 + 5000) (by omega) (qa_of hM) rfl e1
  have p2 := mb_153_99 (N := f1 + f2 + 5000) (by omega) (qa_of a1) p1.2.2 e2
  have q := qc_11 (N := f1 + f2 + 5000) (by omega) hI
  have I2 : qb_I False False (qa_s r2.2) := by rw [p2.2.2]; exact q.2
  exact ⟨r1.2, r2.2, _, _, ⟨f1, e1.trans (congrArg some (Prod.ext p1.1 rfl))⟩, a1, ⟨f2, e2.trans (congrArg some (Prod.ext p2.1 rfl))⟩, ⟨a2, b2, I2⟩, c1, qf_St c1 c2, q.1⟩
theorem qp_31 {M : q4_M} (h : ql_I M) (x1 : Int32) (x2 : Int32) : ∃ (M1 M2 : q4_M) (z z' : Int32), q62_ev 31 0 (lv_args 0 [.ref 3, .int x1, .int x2]) [] M 0 0 (some (.int z), M1) ∧ q52_M M1 ∧ q62_ev 169 0 (lv_args 0 [.ref 99, .int x1, .int x2]) [] M1 0 0 (some (.int z'), M2) ∧ ql_I M2 ∧ qf_S M M1 ∧ qf_S M M2 ∧ z = z' := by
  obtain ⟨hM, hJ, hI⟩ := h
  obtain ⟨f1, r1, e1, a1, b1, c1⟩ := qf_y31 x1 x2 hM hJ
  obtain ⟨f2, r2, e2, a2, b2, c2⟩ := qf_y169 x1 x2 a1 b1
  have p1 := mb_31_3 (qa_of hM) rfl e1
  have p2 := mb_169_99 (qa_of a1) p1.2.2 e2
  have q := qc_31 hI x1 x2
  have I2 : qb_I False False (qa_s r2.2) := by rw [p2.2.2]; exact q.2
  exact ⟨r1.2, r2.2, _, _, ⟨f1, e1.trans (congrArg some (Prod.ext p1.1 rfl))⟩, a1, ⟨f2, e2.trans (congrArg some (Prod.ext p2.1 rfl))⟩, ⟨a2, b2, I2⟩, c1, qf_St c1 c2, q.1⟩
theorem qp_32 {M : q4_M} (h : ql_I M) (x1 : Int32) (x2 : Int32) : ∃ (M1 M2 : q4_M) (z z' : Int32), q62_ev 32 0 (lv_args 0 [.ref 3, .int x1, .int x2]) [] M 0 0 (some (.int z), M1) ∧ q52_M M1 ∧ q62_ev 170 0 (lv_args 0 [.ref 99, .int x1, .int x2]) [] M1 0 0 (some (.int z'), M2) ∧ ql_I M2 ∧ qf_S M M1 ∧ qf_S M M2 ∧ z = z' := by
  obtain ⟨hM, hJ, hI⟩ := h
  obtain ⟨f1, r1, e1, a1, b1, c1⟩ := qf_y32 x1 x2 hM hJ
  obtain ⟨f2, r2, e2, a2, b2, c2⟩ := qf_y170 x1 x2 a1 b1
  have p1 := mb_32_3 (qa_of hM) rfl e1
  have p2 := mb_170_99 (qa_of a1) p1.2.2 e2
  have q := qc_32 hI x1 x2
  have I2 : qb_I False False (qa_s r2.2) := by rw [p2.2.2]; exact q.2
  exact ⟨r1.2, r2.2, _, _, ⟨f1, e1.trans (congrArg some (Prod.ext p1.1 rfl))⟩, a1, ⟨f2, e2.trans (congrArg some (Prod.ext p2.1 rfl))⟩, ⟨a2, b2, I2⟩, c1, qf_St c1 c2, q.1⟩
theorem qp_34 {M : q4_M} (h : ql_I M) (x1 : Int32) (x2 : Int32) (x3 : Int32) : ∃ (M1 M2 : q4_M) (z z' : Int32), q62_ev 34 0 (lv_args 0 [.ref 3, .int x1, .int x2, .int x3]) [] M 0 0 (some (.int z), M1) ∧ q52_M M1 ∧ q62_ev 172 0 (lv_args 0 [.ref 99, .int x1, .int x2, .int x3]) [] M1 0 0 (some (.int z'), M2) ∧ ql_I M2 ∧ qf_S M M1 ∧ qf_S M M2 ∧ z = z' := by
  obtain ⟨hM, hJ, hI⟩ := h
  obtain ⟨f1, r1, e1, a1, b1, c1⟩ := qf_y34 x1 x2 x3 hM hJ
  obtain ⟨f2, r2, e2, a2, b2, c2⟩ := qf_y172 x1 x2 x3 a1 b1
  have p1 := mb_34_3 (N := f1 + f2 + 5000) (by omega) (qa_of hM) rfl e1
  have p2 := mb_172_99 (N := f1 + f2 + 5000) (by omega) (qa_of a1) p1.2.2 e2
  have q := qc_34 (N := f1 + f2 + 5000) (by omega) hI x1 x2 x3
  have I2 : qb_I False False (qa_s r2.2) := by rw [p2.2.2]; exact q.2
  exact ⟨r1.2, r2.2, _, _, ⟨f1, e1.trans (congrArg some (Prod.ext p1.1 rfl))⟩, a1, ⟨f2, e2.trans (congrArg some (Prod.ext p2.1 rfl))⟩, ⟨a2, b2, I2⟩, c1, qf_St c1 c2, q.1⟩
theorem qp_35 {M : q4_M} (h : ql_I M) (x1 : Int32) (x2 : Int32) (x3 : Int32) : ∃ (M1 M2 : q4_M) (z z' : Int32), q62_ev 35 0 (lv_args 0 [.ref 3, .int x1, .int x2, .int x3]) [] M 0 0 (some (.int z), M1) ∧ q52_M M1 ∧ q62_ev 173 0 (lv_args 0 [.ref 99, .int x1, .int x2, .int x3]) [] M1 0 0 (some (.int z'), M2) ∧ ql_I M2 ∧ qf_S M M1 ∧ qf_S M M2 ∧ z = z' := by
  obtain ⟨hM, hJ, hI⟩ := h
  obtain ⟨f1, r1, e1, a1, b1, c1⟩ := qf_y35 x1 x2 x3 hM hJ
  obtain ⟨f2, r2, e2, a2, b2, c2⟩ := qf_y173 x1 x2 x3 a1 b1
  have p1 := mb_35_3 (N := f1 + f2 + 5000) (by omega) (qa_of hM) rfl e1
  have p2 := mb_173_99 (qa_of a1) p1.2.2 e2
  have q := qc_35 (N := f1 + f2 + 5000) (by omega) hI x1 x2 x3
  have I2 : qb_I False False (qa_s r2.2) := by rw [p2.2.2]; exact q.2
  exact ⟨r1.2, r2.2, _, _, ⟨f1, e1.trans (congrArg some (Prod.ext p1.1 rfl))⟩, a1, ⟨f2, e2.trans (congrArg some (Prod.ext p2.1 rfl))⟩, ⟨a2, b2, I2⟩, c1, qf_St c1 c2, q.1⟩
theorem qp_36 {M : q4_M} (h : ql_I M) (x1 : Int32) (x2 : Int32) : ∃ (M1 M2 : q4_M) (z z' : Int32), q62_ev 36 0 (lv_args 0 [.ref 3, .int x1, .int x2]) [] M 0 0 (some (.int z), M1) ∧ q52_M M1 ∧ q62_ev 174 0 (lv_args 0 [.ref 99, .int x1, .int x2]) [] M1 0 0 (some (.int z'), M2) ∧ ql_I M2 ∧ qf_S M M1 ∧ qf_S M M2 ∧ z = z' := by
  obtain ⟨hM, hJ, hI⟩ := h
  obtain ⟨f1, r1, e1, a1, b1, c1⟩ := qf_y36 x1 x2 hM hJ
  obtain ⟨f2, r2, e2, a2, b2, c2⟩ := qf_y174 x1 x2 a1 b1
  have p1 := mb_36_3 (qa_of hM) rfl e1
  have p2 := mb_174_99 (N := f1 + f2 + 5000) (by omega) (qa_of a1) p1.2.2 e2
  have q := qc_36 (N := f1 + f2 + 5000) (by omega) hI x1 x2
  have I2 : qb_I False False (qa_s r2.2) := by rw [p2.2.2]; exact q.2
  exact ⟨r1.2, r2.2, _, _, ⟨f1, e1.trans (congrArg some (Prod.ext p1.1 rfl))⟩, a1, ⟨f2, e2.trans (congrArg some (Prod.ext p2.1 rfl))⟩, ⟨a2, b2, I2⟩, c1, qf_St c1 c2, q.1⟩
theorem qp_39 {M : q4_M} (h : ql_I M) (x1 : Int32) (x2 : Int32) (x3 : Int32) : ∃ (M1 M2 : q4_M) (z z' : Int32), q62_ev 39 0 (lv_args 0 [.ref 3, .int x1, .int x2, .int x3]) [] M 0 0 (some (.int z), M1) ∧ q52_M M1 ∧ q62_ev 177 0 (lv_args 0 [.ref 99, .int x1, .int x2, .int x3]) [] M1 0 0 (some (.int z'), M2) ∧ ql_I M2 ∧ qf_S M M1 ∧ qf_S M M2 ∧ z = z' := by
  obtain ⟨hM, hJ, hI⟩ := h
  obtain ⟨f1, r1, e1, a1, b1, c1⟩ := qf_y39 x1 x2 x3 hM hJ
  obtain ⟨f2, r2, e2, a2, b2, c2⟩ := qf_y177 x1 x2 x3 a1 b1
  have p1 := mb_39_3 (N := f1 + f2 + 5000) (by omega) (qa_of hM) rfl e1
  have p2 := mb_177_99 (N := f1 + f2 + 5000) (by omega) (qa_of a1) p1.2.2 e2
  have q := qc_39 (N := f1 + f2 + 5000) (by omega) hI x1 x2 x3
  have I2 : qb_I False False (qa_s r2.2) := by rw [p2.2.2]; exact q.2
  exact ⟨r1.2, r2.2, _, _, ⟨f1, e1.trans (congrArg some (Prod.ext p1.1 rfl))⟩, a1, ⟨f2, e2.trans (congrArg some (Prod.ext p2.1 rfl))⟩, ⟨a2, b2, I2⟩, c1, qf_St c1 c2, q.1⟩
theorem qp_40 {M : q4_M} (h : ql_I M) (x1 : Int32) (x2 : Int32) (x3 : Int32) : ∃ (M1 M2 : q4_M) (z z' : Int32), q62_ev 40 0 (lv_args 0 [.ref 3, .int x1, .int x2, .int x3]) [] M 0 0 (some (.int z), M1) ∧ q52_M M1 ∧ q62_ev 178 0 (lv_args 0 [.ref 99, .int x1, .int x2, .int x3]) [] M1 0 0 (some (.int z'), M2) ∧ ql_I M2 ∧ qf_S M M1 ∧ qf_S M M2 ∧ z = z' := by
  obtain ⟨hM, hJ, hI⟩ := h
  obtain ⟨f1, r1, e1, a1, b1, c1⟩ := qf_y40 x1 x2 x3 hM hJ
  obtain ⟨f2, r2, e2, a2, b2, c2⟩ := qf_y178 x1 x2 x3 a1 b1
  have p1 := mb_40_3 (N := f1 + f2 + 5000) (by omega) (qa_of hM) rfl e1
  have p2 := mb_178_99 (N := f1 + f2 + 5000) (by omega) (qa_of a1) p1.2.2 e2
  have q := qc_40 (N := f1 + f2 + 5000) (by omega) hI x1 x2 x3
  have I2 : qb_I False False (qa_s r2.2) := by rw [p2.2.2]; exact q.2
  exact ⟨r1.2, r2.2, _, _, ⟨f1, e1.trans (congrArg some (Prod.ext p1.1 rfl))⟩, a1, ⟨f2, e2.trans (congrArg some (Prod.ext p2.1 rfl))⟩, ⟨a2, b2, I2⟩, c1, qf_St c1 c2, q.1⟩
theorem qp_41 {M : q4_M} (h : ql_I M) : ∃ (M1 M2 : q4_M) (z z' : Int32), q62_ev 41 0 (lv_args 0 [.ref 3]) [] M 0 0 (some (.int z), M1) ∧ q52_M M1 ∧ q62_ev 168 0 (lv_args 0 [.ref 99]) [] M1 0 0 (some (.int z'), M2) ∧ ql_I M2 ∧ qf_S M M1 ∧ qf_S M M2 ∧ z = z' := by
  obtain ⟨hM, hJ, hI⟩ := h
  obtain ⟨f1, r1, e1, a1, b1, c1⟩ := qf_y41 hM hJ
  obtain ⟨f2, r2, e2, a2, b2, c2⟩ := qf_y168 a1 b1
  have p1 := mb_41_3 (N := f1 + f2 + 5000) (by omega) (qa_of hM) rfl e1
  have p2 := mb_168_99 (N := f1 + f2 + 5000) (by omega) (qa_of a1) p1.2.2 e2
  have q := qc_41 (N := f1 + f2 + 5000) (by omega) hI
  have I2 : qb_I False False (qa_s r2.2) := by rw [p2.2.2]; exact q.2
  exact ⟨r1.2, r2.2, _, _, ⟨f1, e1.trans (congrArg some (Prod.ext p1.1 rfl))⟩, a1, ⟨f2, e2.trans (congrArg some (Prod.ext p2.1 rfl))⟩, ⟨a2, b2, I2⟩, c1, qf_St c1 c2, q.1⟩
theorem qp_43 {M : q4_M} (h : ql_I M) (x1 : Int32) (x2 : Int32) : ∃ (M1 M2 : q4_M) (z z' : Int32), q62_ev 43 0 (lv_args 0 [.ref 3, .int x1, .int x2]) [] M 0 0 (some (.int z), M1) ∧ q52_M M1 ∧ q62_ev 179 0 (lv_args 0 [.ref 99, .int x1, .int x2]) [] M1 0 0 (some (.int z'), M2) ∧ ql_I M2 ∧ qf_S M M1 ∧ qf_S M M2 := by
  obtain ⟨hM, hJ, hI⟩ := h
  obtain ⟨f1, r1, e1, a1, b1, c1⟩ := qf_y43 x1 x2 hM hJ
  obtain ⟨f2, r2, e2, a2, b2, c2⟩ := qf_y179 x1 x2 a1 b1
  have p1 := mb_43_3 (N := f1 + f2 + 5000) (by omega) (qa_of hM) rfl e1
  have p2 := mb_179_99 (N := f1 + f2 + 5000) (by omega) (qa_of a1) p1.2.2 e2
  have I1 : qb_I False False (qa_s r1.2) := by rw [p1.2.2]; exact qb_scI (mf_43_3 (N := f1 + f2 + 5000) qb_hw (qb_hm (by omega)) qb_Fr) hI
  have I2 : qb_I False False (qa_s r2.2) := by rw [p2.2.2, ← p1.2.2]; exact qb_scI (mf_179_99 (N := f1 + f2 + 5000) qb_hw (qb_hm (by omega)) qb_Fr) I1
  exact ⟨r1.2, r2.2, _, _, ⟨f1, e1.trans (congrArg some (Prod.ext p1.1 rfl))⟩, a1, ⟨f2, e2.trans (congrArg some (Prod.ext p2.1 rfl))⟩, ⟨a2, b2, I2⟩, c1, qf_St c1 c2⟩
theorem qp_49 {M : q4_M} (h : ql_I M) (x1 : Int32) (x2 : Int32) (x3 : Int32) : ∃ (M1 M2 : q4_M) (z z' : Int32), q62_ev 49 0 (lv_args 0 [.ref 3, .int x1, .int x2, .int x3]) [] M 0 0 (some (.int z), M1) ∧ q52_M M1 ∧ q62_ev 184 0 (lv_args 0 [.ref 99, .int x1, .int x2, .int x3]) [] M1 0 0 (some (.int z'), M2) ∧ ql_I M2 ∧ qf_S M M1 ∧ qf_S M M2 := by
  obtain ⟨hM, hJ, hI⟩ := h
  obtain ⟨f1, r1, e1, a1, b1, c1⟩ := qf_y49 x1 x2 x3 hM hJ
  obtain ⟨f2, r2, e2, a2, b2, c2⟩ := qf_y184 x1 x2 x3 a1 b1
  have p1 := mb_49_3 (N := f1 + f2 + 5000) (by omega) (qa_of hM) rfl e1
  have p2 := mb_184_99 (N := f1 + f2 + 5000) (by omega) (qa_of a1) p1.2.2 e2
  have I1 : qb_I False False (qa_s r1.2) := by rw [p1.2.2]; exact qb_scI (mf_49_3 (N := f1 + f2 + 5000) qb_hw (qb_hm (by omega)) qb_Fr) hI
  have I2 : qb_I False False (qa_s r2.2) := by rw [p2.2.2, ← p1.2.2]; exact qb_scI (mf_184_99 (N := f1 + f2 + 5000) qb_hw (qb_hm (by omega)) qb_Fr) I1
  exact ⟨r1.2, r2.2, _, _, ⟨f1, e1.trans (congrArg some (Prod.ext p1.1 rfl))⟩, a1, ⟨f2, e2.trans (congrArg some (Prod.ext p2.1 rfl))⟩, ⟨a2, b2, I2⟩, c1, qf_St c1 c2⟩
theorem qp_51 {M : q4_M} (h : ql_I M) (x1 : Int32) (x2 : Int32) (x3 : Int32) : ∃ (M1 M2 : q4_M) (z z' : Int32), q62_ev 51 0 (lv_args 0 [.ref 3, .int x1, .int x2, .int x3]) [] M 0 0 (some (.int z), M1) ∧ q52_M M1 ∧ q62_ev 187 0 (lv_args 0 [.ref 99, .int x1, .int x2, .int x3]) [] M1 0 0 (some (.int z'), M2) ∧ ql_I M2 ∧ qf_S M M1 ∧ qf_S M M2 := by
  obtain ⟨hM, hJ, hI⟩ := h
  obtain ⟨f1, r1, e1, a1, b1, c1⟩ := qf_y51 x1 x2 x3 hM hJ
  obtain ⟨f2, r2, e2, a2, b2, c2⟩ := qf_y187 x1 x2 x3 a1 b1
  have p1 := mb_51_3 (N := f1 + f2 + 5000) (by omega) (qa_of hM) rfl e1
  have p2 := mb_187_99 (N := f1 + f2 + 5000) (by omega) (qa_of a1) p1.2.2 e2
  have I1 : qb_I False False (qa_s r1.2) := by rw [p1.2.2]; exact qb_scI (mf_51_3 (N := f1 + f2 + 5000) qb_hw (qb_hm (by omega)) qb_Fr) hI
  have I2 : qb_I False False (qa_s r2.2) := by rw [p2.2.2, ← p1.2.2]; exact qb_scI (mf_187_99 (N := f1 + f2 + 5000) qb_hw (qb_hm (by omega)) qb_Fr) I1
  exact ⟨r1.2, r2.2, _, _, ⟨f1, e1.trans (congrArg some (Prod.ext p1.1 rfl))⟩, a1, ⟨f2, e2.trans (congrArg some (Prod.ext p2.1 rfl))⟩, ⟨a2, b2, I2⟩, c1, qf_St c1 c2⟩
theorem qp_56 {M : q4_M} (h : ql_I M) (x1 : Int32) : ∃ (M1 M2 : q4_M) (z z' : Int32), q62_ev 56 0 (lv_args 0 [.ref 3, .int x1]) [] M 0 0 (some (.int z), M1) ∧ q52_M M1 ∧ q62_ev 189 0 (lv_args 0 [.ref 99, .int x1]) [] M1 0 0 (some (.int z'), M2) ∧ ql_I M2 ∧ qf_S M M1 ∧ qf_S M M2 := by
  obtain ⟨hM, hJ, hI⟩ := h
  obtain ⟨f1, r1, e1, a1, b1, c1⟩ := qf_y56 x1 hM hJ
  obtain ⟨f2, r2, e2, a2, b2, c2⟩ := qf_y189 x1 a1 b1
  have p1 := mb_56_3 (N := f1 + f2 + 5000) (by omega) (qa_of hM) rfl e1
  have p2 := mb_189_99 (N := f1 + f2 + 5000) (by omega) (qa_of a1) p1.2.2 e2
  have I1 : qb_I False False (qa_s r1.2) := by rw [p1.2.2]; exact qb_scI (mf_56_3 (N := f1 + f2 + 5000) qb_hw (qb_hm (by omega)) qb_Fr) hI
  have I2 : qb_I False False (qa_s r2.2) := by rw [p2.2.2, ← p1.2.2]; exact qb_scI (mf_189_99 (N := f1 + f2 + 5000) qb_hw (qb_hm (by omega)) qb_Fr) I1
  exact ⟨r1.2, r2.2, _, _, ⟨f1, e1.trans (congrArg some (Prod.ext p1.1 rfl))⟩, a1, ⟨f2, e2.trans (congrArg some (Prod.ext p2.1 rfl))⟩, ⟨a2, b2, I2⟩, c1, qf_St c1 c2⟩
theorem qp_64 {M : q4_M} (h : ql_I M) (x1 : Int32) : ∃ (M1 M2 : q4_M) (z z' : Int32), q62_ev 64 0 (lv_args 0 [.ref 3, .int x1]) [] M 0 0 (some (.int z), M1) ∧ q52_M M1 ∧ q62_ev 192 0 (lv_args 0 [.ref 99, .int x1]) [] M1 0 0 (some (.int z'), M2) ∧ ql_I M2 ∧ qf_S M M1 ∧ qf_S M M2 := by
  obtain ⟨hM, hJ, hI⟩ := h
  obtain ⟨f1, r1, e1, a1, b1, c1⟩ := qf_y64 x1 hM hJ
  obtain ⟨f2, r2, e2, a2, b2, c2⟩ := qf_y192 x1 a1 b1
  have p1 := mb_64_3 (N := f1 + f2 + 5000) (by omega) (qa_of hM) rfl e1
  have p2 := mb_192_99 (N := f1 + f2 + 5000) (by omega) (qa_of a1) p1.2.2 e2
  have I1 : qb_I False False (qa_s r1.2) := by rw [p1.2.2]; exact qb_scI (mf_64_3 (N := f1 + f2 + 5000) qb_hw (qb_hm (by omega)) qb_Fr) hI
  have I2 : qb_I False False (qa_s r2.2) := by rw [p2.2.2, ← p1.2.2]; exact qb_scI (mf_192_99 (N := f1 + f2 + 5000) qb_hw (qb_hm (by omega)) qb_Fr) I1
  exact ⟨r1.2, r2.2, _, _, ⟨f1, e1.trans (congrArg some (Prod.ext p1.1 rfl))⟩, a1, ⟨f2, e2.trans (congrArg some (Prod.ext p2.1 rfl))⟩, ⟨a2, b2, I2⟩, c1, qf_St c1 c2⟩
theorem qp_80 {M : q4_M} (h : ql_I M) (x1 : Int32) (x2 : Int32) : ∃ (M1 M2 : q4_M) (z z' : Int64), q62_ev 80 0 (lv_args 0 [.ref 3, .int x1, .int x2]) [] M 0 0 (some (.long z), M1) ∧ q52_M M1 ∧ q62_ev 200 0 (lv_args 0 [.ref 99, .int x1, .int x2]) [] M1 0 0 (some (.long z'), M2) ∧ ql_I M2 ∧ qf_S M M1 ∧ qf_S M M2 := by
  obtain ⟨hM, hJ, hI⟩ := h
  obtain ⟨f1, r1, e1, a1, b1, c1⟩ := qf_y80 x1 x2 hM hJ
  obtain ⟨f2, r2, e2, a2, b2, c2⟩ := qf_y200 x1 x2 a1 b1
  have p1 := mb_80_3 (N := f1 + f2 + 5000) (by omega) (qa_of hM) rfl e1
  have p2 := mb_200_99 (N := f1 + f2 + 5000) (by omega) (qa_of a1) p1.2.2 e2
  have I1 : qb_I False False (qa_s r1.2) := by rw [p1.2.2]; exact qb_scI (mf_80_3 (N := f1 + f2 + 5000) qb_hw (qb_hm (by omega)) qb_Fr) hI
  have I2 : qb_I False False (qa_s r2.2) := by rw [p2.2.2, ← p1.2.2]; exact qb_scI (mf_200_99 (N := f1 + f2 + 5000) qb_hw (qb_hm (by omega)) qb_Fr) I1
  exact ⟨r1.2, r2.2, _, _, ⟨f1, e1.trans (congrArg some (Prod.ext p1.1 rfl))⟩, a1, ⟨f2, e2.trans (congrArg some (Prod.ext p2.1 rfl))⟩, ⟨a2, b2, I2⟩, c1, qf_St c1 c2⟩
theorem qp_85 {M : q4_M} (h : ql_I M) (x1 : Int32) : ∃ (M1 M2 : q4_M) (z z' : Int32), q62_ev 85 0 (lv_args 0 [.ref 3, .int x1]) [] M 0 0 (some (.int z), M1) ∧ q52_M M1 ∧ q62_ev 205 0 (lv_args 0 [.ref 99, .int x1]) [] M1 0 0 (some (.int z'), M2) ∧ ql_I M2 ∧ qf_S M M1 ∧ qf_S M M2 := by
  obtain ⟨hM, hJ, hI⟩ := h
  obtain ⟨f1, r1, e1, a1, b1, c1⟩ := qf_y85 x1 hM hJ
  obtain ⟨f2, r2, e2, a2, b2, c2⟩ := qf_y205 x1 a1 b1
  have p1 := mb_85_3 (N := f1 + f2 + 5000) (by omega) (qa_of hM) rfl e1
  have p2 := mb_205_99 (N := f1 + f2 + 5000) (by omega) (qa_of a1) p1.2.2 e2
  have I1 : qb_I False False (qa_s r1.2) := by rw [p1.2.2]; exact qb_scI (mf_85_3 (N := f1 + f2 + 5000) qb_hw (qb_hm (by omega)) qb_Fr) hI
  have I2 : qb_I False False (qa_s r2.2) := by rw [p2.2.2, ← p1.2.2]; exact qb_scI (mf_205_99 (N := f1 + f2 + 5000) qb_hw (qb_hm (by omega)) qb_Fr) I1
  exact ⟨r1.2, r2.2, _, _, ⟨f1, e1.trans (congrArg some (Prod.ext p1.1 rfl))⟩, a1, ⟨f2, e2.trans (congrArg some (Prod.ext p2.1 rfl))⟩, ⟨a2, b2, I2⟩, c1, qf_St c1 c2⟩
theorem qp_86 {M : q4_M} (h : ql_I M) (x1 : Int32) : ∃ (M1 M2 : q4_M) (z z' : Int32), q62_ev 86 0 (lv_args 0 [.ref 3, .int x1]) [] M 0 0 (some (.int z), M1) ∧ q52_M M1 ∧ q62_ev 206 0 (lv_args 0 [.ref 99, .int x1]) [] M1 0 0 (some (.int z'), M2) ∧ ql_I M2 ∧ qf_S M M1 ∧ qf_S M M2 := by
  obtain ⟨hM, hJ, hI⟩ := h
  obtain ⟨f1, r1, e1, a1, b1, c1⟩ := qf_y86 x1 hM hJ
  obtain ⟨f2, r2, e2, a2, b2, c2⟩ := qf_y206 x1 a1 b1
  have p1 := mb_86_3 (N := f1 + f2 + 5000) (by omega) (qa_of hM) rfl e1
  have p2 := mb_206_99 (N := f1 + f2 + 5000) (by omega) (qa_of a1) p1.2.2 e2
  have I1 : qb_I False False (qa_s r1.2) := by rw [p1.2.2]; exact qb_scI (mf_86_3 (N := f1 + f2 + 5000) qb_hw (qb_hm (by omega)) qb_Fr) hI
  have I2 : qb_I False False (qa_s r2.2) := by rw [p2.2.2, ← p1.2.2]; exact qb_scI (mf_206_99 (N := f1 + f2 + 5000) qb_hw (qb_hm (by omega)) qb_Fr) I1
  exact ⟨r1.2, r2.2, _, _, ⟨f1, e1.trans (congrArg some (Prod.ext p1.1 rfl))⟩, a1, ⟨f2, e2.trans (congrArg some (Prod.ext p2.1 rfl))⟩, ⟨a2, b2, I2⟩, c1, qf_St c1 c2⟩
theorem qp_88 {M : q4_M} (h : ql_I M) : ∃ (M1 M2 : q4_M) (z z' : Int32), q62_ev 88 0 (lv_args 0 [.ref 3]) [] M 0 0 (some (.int z), M1) ∧ q52_M M1 ∧ q62_ev 207 0 (lv_args 0 [.ref 99]) [] M1 0 0 (some (.int z'), M2) ∧ ql_I M2 ∧ qf_S M M1 ∧ qf_S M M2 := by
  obtain ⟨hM, hJ, hI⟩ := h
  obtain ⟨f1, r1, e1, a1, b1, c1⟩ := qf_y88 hM hJ
  obtain ⟨f2, r2, e2, a2, b2, c2⟩ := qf_y207 a1 b1
  have p1 := mb_88_3 (N := f1 + f2 + 5000) (by omega) (qa_of hM) rfl e1
  have p2 := mb_207_99 (N := f1 + f2 + 5000) (by omega) (qa_of a1) p1.2.2 e2
  have I1 : qb_I False False (qa_s r1.2) := by rw [p1.2.2]; exact qb_scI (mf_88_3 (N := f1 + f2 + 5000) qb_hw (qb_hm (by omega)) qb_Fr) hI
  have I2 : qb_I False False (qa_s r2.2) := by rw [p2.2.2, ← p1.2.2]; exact qb_scI (mf_207_99 (N := f1 + f2 + 5000) qb_hw (qb_hm (by omega)) qb_Fr) I1
  exact ⟨r1.2, r2.2, _, _, ⟨f1, e1.trans (congrArg some (Prod.ext p1.1 rfl))⟩, a1, ⟨f2, e2.trans (congrArg some (Prod.ext p2.1 rfl))⟩, ⟨a2, b2, I2⟩, c1, qf_St c1 c2⟩
theorem qp_89 {M : q4_M} (h : ql_I M) (x1 : Int32) (x2 : Int32) : ∃ (M1 M2 : q4_M) (z z' : Int32), q62_ev 89 0 (lv_args 0 [.ref 3, .int x1, .int x2]) [] M 0 0 (some (.int z), M1) ∧ q52_M M1 ∧ q62_ev 209 0 (lv_args 0 [.ref 99, .int x1, .int x2]) [] M1 0 0 (some (.int z'), M2) ∧ ql_I M2 ∧ qf_S M M1 ∧ qf_S M M2 := by
  obtain ⟨hM, hJ, hI⟩ := h
  obtain ⟨f1, r1, e1, a1, b1, c1⟩ := qf_y89 x1 x2 hM hJ
  obtain ⟨f2, r2, e2, a2, b2, c2⟩ := qf_y209 x1 x2 a1 b1
  have p1 := mb_89_3 (N := f1 + f2 + 5000) (by omega) (qa_of hM) rfl e1
  have p2 := mb_209_99 (N := f1 + f2 + 5000) (by omega) (qa_of a1) p1.2.2 e2
  have I1 : qb_I False False (qa_s r1.2) := by rw [p1.2.2]; exact qb_scI (mf_89_3 (N := f1 + f2 + 5000) qb_hw (qb_hm (by omega)) qb_Fr) hI
  have I2 : qb_I False False (qa_s r2.2) := by rw [p2.2.2, ← p1.2.2]; exact qb_scI (mf_209_99 (N := f1 + f2 + 5000) qb_hw (qb_hm (by omega)) qb_Fr) I1
  exact ⟨r1.2, r2.2, _, _, ⟨f1, e1.trans (congrArg some (Prod.ext p1.1 rfl))⟩, a1, ⟨f2, e2.trans (congrArg some (Prod.ext p2.1 rfl))⟩, ⟨a2, b2, I2⟩, c1, qf_St c1 c2⟩
theorem qp_90 {M : q4_M} (h : ql_I M) : ∃ (M1 M2 : q4_M) (z z' : Int32), q62_ev 90 0 (lv_args 0 [.ref 3]) [] M 0 0 (some (.int z), M1) ∧ q52_M M1 ∧ q62_ev 210 0 (lv_args 0 [.ref 99]) [] M1 0 0 (some (.int z'), M2) ∧ ql_I M2 ∧ qf_S M M1 ∧ qf_S M M2 := by
  obtain ⟨hM, hJ, hI⟩ := h
  obtain ⟨f1, r1, e1, a1, b1, c1⟩ := qf_y90 hM hJ
  obtain ⟨f2, r2, e2, a2, b2, c2⟩ := qf_y210 a1 b1
  have p1 := mb_90_3 (N := f1 + f2 + 5000) (by omega) (qa_of hM) rfl e1
  have p2 := mb_210_99 (N := f1 + f2 + 5000) (by omega) (qa_of a1) p1.2.2 e2
  have I1 : qb_I False False (qa_s r1.2) := by rw [p1.2.2]; exact qb_scI (mf_90_3 (N := f1 + f2 + 5000) qb_hw (qb_hm (by omega)) qb_Fr) hI
  have I2 : qb_I False False (qa_s r2.2) := by rw [p2.2.2, ← p1.2.2]; exact qb_scI (mf_210_99 (N := f1 + f2 + 5000) qb_hw (qb_hm (by omega)) qb_Fr) I1
  exact ⟨r1.2, r2.2, _, _, ⟨f1, e1.trans (congrArg some (Prod.ext p1.1 rfl))⟩, a1, ⟨f2, e2.trans (congrArg some (Prod.ext p2.1 rfl))⟩, ⟨a2, b2, I2⟩, c1, qf_St c1 c2⟩
theorem qp_91 {M : q4_M} (h : ql_I M) (x1 : Int32) (x2 : Int32) : ∃ (M1 M2 : q4_M) (z z' : Int32), q62_ev 91 0 (lv_args 0 [.ref 3, .int x1, .int x2]) [] M 0 0 (some (.int z), M1) ∧ q52_M M1 ∧ q62_ev 212 0 (lv_args 0 [.ref 99, .int x1, .int x2]) [] M1 0 0 (some (.int z'), M2) ∧ ql_I M2 ∧ qf_S M M1 ∧ qf_S M M2 := by
  obtain ⟨hM, hJ, hI⟩ := h
  obtain ⟨f1, r1, e1, a1, b1, c1⟩ := qf_y91 x1 x2 hM hJ
  obtain ⟨f2, r2, e2, a2, b2, c2⟩ := qf_y212 x1 x2 a1 b1
  have p1 := mb_91_3 (N := f1 + f2 + 5000) (by omega) (qa_of hM) rfl e1
  have p2 := mb_212_99 (N := f1 + f2 + 5000) (by omega) (qa_of a1) p1.2.2 e2
  have I1 : qb_I False False (qa_s r1.2) := by rw [p1.2.2]; exact qb_scI (mf_91_3 (N := f1 + f2 + 5000) qb_hw (qb_hm (by omega)) qb_Fr) hI
  have I2 : qb_I False False (qa_s r2.2) := by rw [p2.2.2, ← p1.2.2]; exact qb_scI (mf_212_99 (N := f1 + f2 + 5000) qb_hw (qb_hm (by omega)) qb_Fr) I1
  exact ⟨r1.2, r2.2, _, _, ⟨f1, e1.trans (congrArg some (Prod.ext p1.1 rfl))⟩, a1, ⟨f2, e2.trans (congrArg some (Prod.ext p2.1 rfl))⟩, ⟨a2, b2, I2⟩, c1, qf_St c1 c2⟩
theorem qp_98 {M : q4_M} (h : ql_I M) (x1 : Int32) : ∃ (M1 M2 : q4_M) (z z' : Int32), q62_ev 98 0 (lv_args 0 [.ref 3, .int x1]) [] M 0 0 (some (.int z), M1) ∧ q52_M M1 ∧ q62_ev 217 0 (lv_args 0 [.ref 99, .int x1]) [] M1 0 0 (some (.int z'), M2) ∧ ql_I M2 ∧ qf_S M M1 ∧ qf_S M M2 := by
  obtain ⟨hM, hJ, hI⟩ := h
  obtain ⟨f1, r1, e1, a1, b1, c1⟩ := qf_y98 x1 hM hJ
  obtain ⟨f2, r2, e2, a2, b2, c2⟩ := qf_y217 x1 a1 b1
  have p1 := mb_98_3 (N := f1 + f2 + 5000) (by omega) (qa_of hM) rfl e1
  have p2 := mb_217_99 (N := f1 + f2 + 5000) (by omega) (qa_of a1) p1.2.2 e2
  have I1 : qb_I False False (qa_s r1.2) := by rw [p1.2.2]; exact qb_scI (mf_98_3 (N := f1 + f2 + 5000) qb_hw (qb_hm (by omega)) qb_Fr) hI
  have I2 : qb_I False False (qa_s r2.2) := by rw [p2.2.2, ← p1.2.2]; exact qb_scI (mf_217_99 (N := f1 + f2 + 5000) qb_hw (qb_hm (by omega)) qb_Fr) I1
  exact ⟨r1.2, r2.2, _, _, ⟨f1, e1.trans (congrArg some (Prod.ext p1.1 rfl))⟩, a1, ⟨f2, e2.trans (congrArg some (Prod.ext p2.1 rfl))⟩, ⟨a2, b2, I2⟩, c1, qf_St c1 c2⟩
theorem qp_100 {M : q4_M} (h : ql_I M) : ∃ (M1 M2 : q4_M) (z z' : Int32), q62_ev 100 0 (lv_args 0 [.ref 3]) [] M 0 0 (some (.int z), M1) ∧ q52_M M1 ∧ q62_ev 219 0 (lv_args 0 [.ref 99]) [] M1 0 0 (some (.int z'), M2) ∧ ql_I M2 ∧ qf_S M M1 ∧ qf_S M M2 := by
  obtain ⟨hM, hJ, hI⟩ := h
  obtain ⟨f1, r1, e1, a1, b1, c1⟩ := qf_y100 hM hJ
  obtain ⟨f2, r2, e2, a2, b2, c2⟩ := qf_y219 a1 b1
  have p1 := mb_100_3 (N := f1 + f2 + 5000) (by omega) (qa_of hM) rfl e1
  have p2 := mb_219_99 (N := f1 + f2 + 5000) (by omega) (qa_of a1) p1.2.2 e2
  have I1 : qb_I False False (qa_s r1.2) := by rw [p1.2.2]; exact qe_100 (by omega) hI
  have I2 : qb_I False False (qa_s r2.2) := by rw [p2.2.2, ← p1.2.2]; exact qb_scI (qe_219 (by omega)) I1
  exact ⟨r1.2, r2.2, _, _, ⟨f1, e1.trans (congrArg some (Prod.ext p1.1 rfl))⟩, a1, ⟨f2, e2.trans (congrArg some (Prod.ext p2.1 rfl))⟩, ⟨a2, b2, I2⟩, c1, qf_St c1 c2⟩
theorem qp_102 {M : q4_M} (h : ql_I M) (x1 : Int32) (x2 : Int32) (x3 : Int32) (x4 : Int32) : ∃ (M1 M2 : q4_M) (z z' : Int32), q62_ev 102 0 (lv_args 0 [.ref 3, .int x1, .int x2, .int x3, .int x4]) [] M 0 0 (some (.int z), M1) ∧ q52_M M1 ∧ q62_ev 220 0 (lv_args 0 [.ref 99, .int x1, .int x2, .int x3, .int x4]) [] M1 0 0 (some (.int z'), M2) ∧ ql_I M2 ∧ qf_S M M1 ∧ qf_S M M2 := by
  obtain ⟨hM, hJ, hI⟩ := h
  obtain ⟨f1, r1, e1, a1, b1, c1⟩ := qf_y102 x1 x2 x3 x4 hM hJ
  obtain ⟨f2, r2, e2, a2, b2, c2⟩ := qf_y220 x1 x2 x3 x4 a1 b1
  have p1 := mb_102_3 (N := f1 + f2 + 5000) (by omega) (qa_of hM) rfl e1
  have p2 := mb_220_99 (N := f1 + f2 + 5000) (by omega) (qa_of a1) p1.2.2 e2
  have I1 : qb_I False False (qa_s r1.2) := by rw [p1.2.2]; exact qb_scI (mf_102_3 (N := f1 + f2 + 5000) qb_hw (qb_hm (by omega)) qb_Fr) hI
  have I2 : qb_I False False (qa_s r2.2) := by rw [p2.2.2, ← p1.2.2]; exact qb_scI (mf_220_99 (N := f1 + f2 + 5000) qb_hw (qb_hm (by omega)) qb_Fr) I1
  exact ⟨r1.2, r2.2, _, _, ⟨f1, e1.trans (congrArg some (Prod.ext p1.1 rfl))⟩, a1, ⟨f2, e2.trans (congrArg some (Prod.ext p2.1 rfl))⟩, ⟨a2, b2, I2⟩, c1, qf_St c1 c2⟩
theorem qp_103 {M : q4_M} (h : ql_I M) (x1 : Int32) (x2 : Int32) : ∃ (M1 M2 : q4_M) (z z' : Int64), q62_ev 103 0 (lv_args 0 [.ref 3, .int x1, .int x2]) [] M 0 0 (some (.long z), M1) ∧ q52_M M1 ∧ q62_ev 221 0 (lv_args 0 [.ref 99, .int x1, .int x2]) [] M1 0 0 (some (.long z'), M2) ∧ ql_I M2 ∧ qf_S M M1 ∧ qf_S M M2 := by
  obtain ⟨hM, hJ, hI⟩ := h
  obtain ⟨f1, r1, e1, a1, b1, c1⟩ := qf_y103 x1 x2 hM hJ
  obtain ⟨f2, r2, e2, a2, b2, c2⟩ := qf_y221 x1 x2 a1 b1
  have p1 := mb_103_3 (N := f1 + f2 + 5000) (by omega) (qa_of hM) rfl e1
  have p2 := mb_221_99 (N := f1 + f2 + 5000) (by omega) (qa_of a1) p1.2.2 e2
  have I1 : qb_I False False (qa_s r1.2) := by rw [p1.2.2]; exact qb_scI (mf_103_3 (N := f1 + f2 + 5000) qb_hw (qb_hm (by omega)) qb_Fr) hI
  have I2 : qb_I False False (qa_s r2.2) := by rw [p2.2.2, ← p1.2.2]; exact qb_scI (mf_221_99 (N := f1 + f2 + 5000) qb_hw (qb_hm (by omega)) qb_Fr) I1
  exact ⟨r1.2, r2.2, _, _, ⟨f1, e1.trans (congrArg some (Prod.ext p1.1 rfl))⟩, a1, ⟨f2, e2.trans (congrArg some (Prod.ext p2.1 rfl))⟩, ⟨a2, b2, I2⟩, c1, qf_St c1 c2⟩
theorem qp_106 {M : q4_M} (h : ql_I M) (x1 : Int32) (x2 : Int32) : ∃ (M1 M2 : q4_M) (z z' : Int64), q62_ev 106 0 (lv_args 0 [.ref 3, .int x1, .int x2]) [] M 0 0 (some (.long z), M1) ∧ q52_M M1 ∧ q62_ev 223 0 (lv_args 0 [.ref 99, .int x1, .int x2]) [] M1 0 0 (some (.long z'), M2) ∧ ql_I M2 ∧ qf_S M M1 ∧ qf_S M M2 := by
  obtain ⟨hM, hJ, hI⟩ := h
  obtain ⟨f1, r1, e1, a1, b1, c1⟩ := qf_y106 x1 x2 hM hJ
  obtain ⟨f2, r2, e2, a2, b2, c2⟩ := qf_y223 x1 x2 a1 b1
  have p1 := mb_106_3 (N := f1 + f2 + 5000) (by omega) (qa_of hM) rfl e1
  have p2 := mb_223_99 (N := f1 + f2 + 5000) (by omega) (qa_of a1) p1.2.2 e2
  have I1 : qb_I False False (qa_s r1.2) := by rw [p1.2.2]; exact qb_scI (mf_106_3 (N := f1 + f2 + 5000) qb_hw (qb_hm (by omega)) qb_Fr) hI
  have I2 : qb_I False False (qa_s r2.2) := by rw [p2.2.2, ← p1.2.2]; exact qb_scI (mf_223_99 (N := f1 + f2 + 5000) qb_hw (qb_hm (by omega)) qb_Fr) I1
  exact ⟨r1.2, r2.2, _, _, ⟨f1, e1.trans (congrArg some (Prod.ext p1.1 rfl))⟩, a1, ⟨f2, e2.trans (congrArg some (Prod.ext p2.1 rfl))⟩, ⟨a2, b2, I2⟩, c1, qf_St c1 c2⟩
theorem qp_108 {M : q4_M} (h : ql_I M) (x1 : Int32) : ∃ (M1 M2 : q4_M) (z z' : Int32), q62_ev 108 0 (lv_args 0 [.ref 3, .int x1]) [] M 0 0 (some (.int z), M1) ∧ q52_M M1 ∧ q62_ev 224 0 (lv_args 0 [.ref 99, .int x1]) [] M1 0 0 (some (.int z'), M2) ∧ ql_I M2 ∧ qf_S M M1 ∧ qf_S M M2 := by
  obtain ⟨hM, hJ, hI⟩ := h
  obtain ⟨f1, r1, e1, a1, b1, c1⟩ := qf_y108 x1 hM hJ
  obtain ⟨f2, r2, e2, a2, b2, c2⟩ := qf_y224 x1 a1 b1
  have p1 := mb_108_3 (N := f1 + f2 + 5000) (by omega) (qa_of hM) rfl e1
  have p2 := mb_224_99 (N := f1 + f2 + 5000) (by omega) (qa_of a1) p1.2.2 e2
  have I1 : qb_I False False (qa_s r1.2) := by rw [p1.2.2]; exact qb_scI (mf_108_3 (N := f1 + f2 + 5000) qb_hw (qb_hm (by omega)) qb_Fr) hI
  have I2 : qb_I False False (qa_s r2.2) := by rw [p2.2.2, ← p1.2.2]; exact qb_scI (mf_224_99 (N := f1 + f2 + 5000) qb_hw (qb_hm (by omega)) qb_Fr) I1
  exact ⟨r1.2, r2.2, _, _, ⟨f1, e1.trans (congrArg some (Prod.ext p1.1 rfl))⟩, a1, ⟨f2, e2.trans (congrArg some (Prod.ext p2.1 rfl))⟩, ⟨a2, b2, I2⟩, c1, qf_St c1 c2⟩
theorem qp_110 {M : q4_M} (h : ql_I M) (x1 : Int32) (x2 : Int32) : ∃ (M1 M2 : q4_M) (z z' : Int32), q62_ev 110 0 (lv_args 0 [.ref 3, .int x1, .int x2]) [] M 0 0 (some (.int z), M1) ∧ q52_M M1 ∧ q62_ev 225 0 (lv_args 0 [.ref 99, .int x1, .int x2]) [] M1 0 0 (some (.int z'), M2) ∧ ql_I M2 ∧ qf_S M M1 ∧ qf_S M M2 := by
  obtain ⟨hM, hJ, hI⟩ := h
  obtain ⟨f1, r1, e1, a1, b1, c1⟩ := qf_y110 x1 x2 hM hJ
  obtain ⟨f2, r2, e2, a2, b2, c2⟩ := qf_y225 x1 x2 a1 b1
  have p1 := mb_110_3 (N := f1 + f2 + 5000) (by omega) (qa_of hM) rfl e1
  have p2 := mb_225_99 (N := f1 + f2 + 5000) (by omega) (qa_of a1) p1.2.2 e2
  have I1 : qb_I False False (qa_s r1.2) := by rw [p1.2.2]; exact qb_scI (mf_110_3 (N := f1 + f2 + 5000) qb_hw (qb_hm (by omega)) qb_Fr) hI
  have I2 : qb_I False False (qa_s r2.2) := by rw [p2.2.2, ← p1.2.2]; exact qb_scI (mf_225_99 (N := f1 + f2 + 5000) qb_hw (qb_hm (by omega)) qb_Fr) I1
  exact ⟨r1.2, r2.2, _, _, ⟨f1, e1.trans (congrArg some (Prod.ext p1.1 rfl))⟩, a1, ⟨f2, e2.trans (congrArg some (Prod.ext p2.1 rfl))⟩, ⟨a2, b2, I2⟩, c1, qf_St c1 c2⟩
theorem qp_111 {M : q4_M} (h : ql_I M) : ∃ (M1 M2 : q4_M) (z z' : Int32), q62_ev 111 0 (lv_args 0 [.ref 3]) [] M 0 0 (some (.int z), M1) ∧ q52_M M1 ∧ q62_ev 226 0 (lv_args 0 [.ref 99]) [] M1 0 0 (some (.int z'), M2) ∧ ql_I M2 ∧ qf_S M M1 ∧ qf_S M M2 := by
  obtain ⟨hM, hJ, hI⟩ := h
  obtain ⟨f1, r1, e1, a1, b1, c1⟩ := qf_y111 hM hJ
  obtain ⟨f2, r2, e2, a2, b2, c2⟩ := qf_y226 a1 b1
  have p1 := mb_111_3 (N := f1 + f2 + 5000) (by omega) (qa_of hM) rfl e1
  have p2 := mb_226_99 (N := f1 + f2 + 5000) (by omega) (qa_of a1) p1.2.2 e2
  have I1 : qb_I False False (qa_s r1.2) := by rw [p1.2.2]; exact hI
  have I2 : qb_I False False (qa_s r2.2) := by rw [p2.2.2, ← p1.2.2]; exact qb_scI (mf_226_99 (N := f1 + f2 + 5000) qb_hw (qb_hm (by omega)) qb_Fr) I1
  exact ⟨r1.2, r2.2, _, _, ⟨f1, e1.trans (congrArg some (Prod.ext p1.1 rfl))⟩, a1, ⟨f2, e2.trans (congrArg some (Prod.ext p2.1 rfl))⟩, ⟨a2, b2, I2⟩, c1, qf_St c1 c2⟩
theorem qp_114 {M : q4_M} (h : ql_I M) : ∃ (M1 M2 : q4_M) (z z' : Int32), q62_ev 114 0 (lv_args 0 [.ref 3]) [] M 0 0 (some (.int z), M1) ∧ q52_M M1 ∧ q62_ev 228 0 (lv_args 0 [.ref 99]) [] M1 0 0 (some (.int z'), M2) ∧ ql_I M2 ∧ qf_S M M1 ∧ qf_S M M2 := by
  obtain ⟨hM, hJ, hI⟩ := h
  obtain ⟨f1, r1, e1, a1, b1, c1⟩ := qf_y114 hM hJ
  obtain ⟨f2, r2, e2, a2, b2, c2⟩ := qf_y228 a1 b1
  have p1 := mb_114_3 (N := f1 + f2 + 5000) (by omega) (qa_of hM) rfl e1
  have p2 := mb_228_99 (N := f1 + f2 + 5000) (by omega) (qa_of a1) p1.2.2 e2
  have I1 : qb_I False False (qa_s r1.2) := by rw [p1.2.2]; exact hI
  have I2 : qb_I False False (qa_s r2.2) := by rw [p2.2.2, ← p1.2.2]; exact qb_scI (mf_228_99 (N := f1 + f2 + 5000) qb_hw (qb_hm (by omega)) qb_Fr) I1
  exact ⟨r1.2, r2.2, _, _, ⟨f1, e1.trans (congrArg some (Prod.ext p1.1 rfl))⟩, a1, ⟨f2, e2.trans (congrArg some (Prod.ext p2.1 rfl))⟩, ⟨a2, b2, I2⟩, c1, qf_St c1 c2⟩
theorem qp_115 {M : q4_M} (h : ql_I M) : ∃ (M1 M2 : q4_M) (z z' : Int32), q62_ev 115 0 (lv_args 0 [.ref 3]) [] M 0 0 (some (.int z), M1) ∧ q52_M M1 ∧ q62_ev 229 0 (lv_args 0 [.ref 99]) [] M1 0 0 (some (.int z'), M2) ∧ ql_I M2 ∧ qf_S M M1 ∧ qf_S M M2 := by
  obtain ⟨hM, hJ, hI⟩ := h
  obtain ⟨f1, r1, e1, a1, b1, c1⟩ := qf_y115 hM hJ
  obtain ⟨f2, r2, e2, a2, b2, c2⟩ := qf_y229 a1 b1
  have p1 := mb_115_3 (N := f1 + f2 + 5000) (by omega) (qa_of hM) rfl e1
  have p2 := mb_229_99 (N := f1 + f2 + 5000) (by omega) (qa_of a1) p1.2.2 e2
  have I1 : qb_I False False (qa_s r1.2) := by rw [p1.2.2]; exact qb_scI (qe_115 (by omega)) hI
  have I2 : qb_I False False (qa_s r2.2) := by rw [p2.2.2, ← p1.2.2]; exact qb_scI (qe_229 (by omega)) I1
  exact ⟨r1.2, r2.2, _, _, ⟨f1, e1.trans (congrArg some (Prod.ext p1.1 rfl))⟩, a1, ⟨f2, e2.trans (congrArg some (Prod.ext p2.1 rfl))⟩, ⟨a2, b2, I2⟩, c1, qf_St c1 c2⟩
theorem qp_116 {M : q4_M} (h : ql_I M) : ∃ (M1 M2 : q4_M) (z z' : Int32), q62_ev 116 0 (lv_args 0 [.ref 3]) [] M 0 0 (some (.int z), M1) ∧ q52_M M1 ∧ q62_ev 230 0 (lv_args 0 [.ref 99]) [] M1 0 0 (some (.int z'), M2) ∧ ql_I M2 ∧ qf_S M M1 ∧ qf_S M M2 := by
  obtain ⟨hM, hJ, hI⟩ := h
  obtain ⟨f1, r1, e1, a1, b1, c1⟩ := qf_y116 hM hJ
  obtain ⟨f2, r2, e2, a2, b2, c2⟩ := qf_y230 a1 b1
  have p1 := mb_116_3 (N := f1 + f2 + 5000) (by omega) (qa_of hM) rfl e1
  have p2 := mb_230_99 (N := f1 + f2 + 5000) (by omega) (qa_of a1) p1.2.2 e2
  have I1 : qb_I False False (qa_s r1.2) := by rw [p1.2.2]; exact qb_scI (qe_116 (by omega)) hI
  have I2 : qb_I False False (qa_s r2.2) := by rw [p2.2.2, ← p1.2.2]; exact qb_scI (qe_230 (by omega)) I1
  exact ⟨r1.2, r2.2, _, _, ⟨f1, e1.trans (congrArg some (Prod.ext p1.1 rfl))⟩, a1, ⟨f2, e2.trans (congrArg some (Prod.ext p2.1 rfl))⟩, ⟨a2, b2, I2⟩, c1, qf_St c1 c2⟩
theorem qp_118 {M : q4_M} (h : ql_I M) (x1 : Int32) : ∃ (M1 M2 : q4_M) (z z' : Int32), q62_ev 118 0 (lv_args 0 [.ref 3, .int x1]) [] M 0 0 (some (.int z), M1) ∧ q52_M M1 ∧ q62_ev 231 0 (lv_args 0 [.ref 99, .int x1]) [] M1 0 0 (some (.int z'), M2) ∧ ql_I M2 ∧ qf_S M M1 ∧ qf_S M M2 := by
  obtain ⟨hM, hJ, hI⟩ := h
  obtain ⟨f1, r1, e1, a1, b1, c1⟩ := qf_y118 x1 hM hJ
  obtain ⟨f2, r2, e2, a2, b2, c2⟩ := qf_y231 x1 a1 b1
  have p1 := mb_118_3 (N := f1 + f2 + 5000) (by omega) (qa_of hM) rfl e1
  have p2 := mb_231_99 (N := f1 + f2 + 5000) (by omega) (qa_of a1) p1.2.2 e2
  have I1 : qb_I False False (qa_s r1.2) := by rw [p1.2.2]; exact qb_scI (mf_118_3 (N := f1 + f2 + 5000) qb_hw (qb_hm (by omega)) qb_Fr) hI
  have I2 : qb_I False False (qa_s r2.2) := by rw [p2.2.2, ← p1.2.2]; exact qb_scI (mf_231_99 (N := f1 + f2 + 5000) qb_hw (qb_hm (by omega)) qb_Fr) I1
  exact ⟨r1.2, r2.2, _, _, ⟨f1, e1.trans (congrArg some (Prod.ext p1.1 rfl))⟩, a1, ⟨f2, e2.trans (congrArg some (Prod.ext p2.1 rfl))⟩, ⟨a2, b2, I2⟩, c1, qf_St c1 c2⟩
theorem qp_119 {M : q4_M} (h : ql_I M) (x1 : Int32) (x2 : Int32) : ∃ (M1 M2 : q4_M) (z z' : Int32), q62_ev 119 0 (lv_args 0 [.ref 3, .int x1, .int x2]) [] M 0 0 (some (.int z), M1) ∧ q52_M M1 ∧ q62_ev 232 0 (lv_args 0 [.ref 99, .int x1, .int x2]) [] M1 0 0 (some (.int z'), M2) ∧ ql_I M2 ∧ qf_S M M1 ∧ qf_S M M2 := by
  obtain ⟨hM, hJ, hI⟩ := h
  obtain ⟨f1, r1, e1, a1, b1, c1⟩ := qf_y119 x1 x2 hM hJ
  obtain ⟨f2, r2, e2, a2, b2, c2⟩ := qf_y232 x1 x2 a1 b1
  have p1 := mb_119_3 (N := f1 + f2 + 5000) (by omega) (qa_of hM) rfl e1
  have p2 := mb_232_99 (N := f1 + f2 + 5000) (by omega) (qa_of a1) p1.2.2 e2
  have I1 : qb_I False False (qa_s r1.2) := by rw [p1.2.2]; exact qb_scI (mf_119_3 (N := f1 + f2 + 5000) qb_hw (qb_hm (by omega)) qb_Fr) hI
  have I2 : qb_I False False (qa_s r2.2) := by rw [p2.2.2, ← p1.2.2]; exact qb_scI (mf_232_99 (N := f1 + f2 + 5000) qb_hw (qb_hm (by omega)) qb_Fr) I1
  exact ⟨r1.2, r2.2, _, _, ⟨f1, e1.trans (congrArg some (Prod.ext p1.1 rfl))⟩, a1, ⟨f2, e2.trans (congrArg some (Prod.ext p2.1 rfl))⟩, ⟨a2, b2, I2⟩, c1, qf_St c1 c2⟩
theorem qp_121 {M : q4_M} (h : ql_I M) : ∃ (M1 M2 : q4_M) (z z' : Int32), q62_ev 121 0 (lv_args 0 [.ref 3]) [] M 0 0 (some (.int z), M1) ∧ q52_M M1 ∧ q62_ev 233 0 (lv_args 0 [.ref 99]) [] M1 0 0 (some (.int z'), M2) ∧ ql_I M2 ∧ qf_S M M1 ∧ qf_S M M2 := by
  obtain ⟨hM, hJ, hI⟩ := h
  obtain ⟨f1, r1, e1, a1, b1, c1⟩ := qf_y121 hM hJ
  obtain ⟨f2, r2, e2, a2, b2, c2⟩ := qf_y233 a1 b1
  have p1 := mb_121_3 (N := f1 + f2 + 5000) (by omega) (qa_of hM) rfl e1
  have p2 := mb_233_99 (N := f1 + f2 + 5000) (by omega) (qa_of a1) p1.2.2 e2
  have I1 : qb_I False False (qa_s r1.2) := by rw [p1.2.2]; exact qb_scI (mf_121_3 (N := f1 + f2 + 5000) qb_hw (qb_hm (by omega)) qb_Fr) hI
  have I2 : qb_I False False (qa_s r2.2) := by rw [p2.2.2, ← p1.2.2]; exact qb_scI (mf_233_99 (N := f1 + f2 + 5000) qb_hw (qb_hm (by omega)) qb_Fr) I1
  exact ⟨r1.2, r2.2, _, _, ⟨f1, e1.trans (congrArg some (Prod.ext p1.1 rfl))⟩, a1, ⟨f2, e2.trans (congrArg some (Prod.ext p2.1 rfl))⟩, ⟨a2, b2, I2⟩, c1, qf_St c1 c2⟩
theorem qp_122 {M : q4_M} (h : ql_I M) (x1 : Int32) : ∃ (M1 M2 : q4_M) (z z' : Int32), q62_ev 122 0 (lv_args 0 [.ref 3, .int x1]) [] M 0 0 (some (.int z), M1) ∧ q52_M M1 ∧ q62_ev 234 0 (lv_args 0 [.ref 99, .int x1]) [] M1 0 0 (some (.int z'), M2) ∧ ql_I M2 ∧ qf_S M M1 ∧ qf_S M M2 := by
  obtain ⟨hM, hJ, hI⟩ := h
  obtain ⟨f1, r1, e1, a1, b1, c1⟩ := qf_y122 x1 hM hJ
  obtain ⟨f2, r2, e2, a2, b2, c2⟩ := qf_y234 x1 a1 b1
  have p1 := mb_122_3 (N := f1 + f2 + 5000) (by omega) (qa_of hM) rfl e1
  have p2 := mb_234_99 (N := f1 + f2 + 5000) (by omega) (qa_of a1) p1.2.2 e2
  have I1 : qb_I False False (qa_s r1.2) := by rw [p1.2.2]; exact qb_scI (mf_122_3 (N := f1 + f2 + 5000) qb_hw (qb_hm (by omega)) qb_Fr) hI
  have I2 : qb_I False False (qa_s r2.2) := by rw [p2.2.2, ← p1.2.2]; exact qb_scI (mf_234_99 (N := f1 + f2 + 5000) qb_hw (qb_hm (by omega)) qb_Fr) I1
  exact ⟨r1.2, r2.2, _, _, ⟨f1, e1.trans (congrArg some (Prod.ext p1.1 rfl))⟩, a1, ⟨f2, e2.trans (congrArg some (Prod.ext p2.1 rfl))⟩, ⟨a2, b2, I2⟩, c1, qf_St c1 c2⟩
theorem qp_123 {M : q4_M} (h : ql_I M) (x1 : Int32) : ∃ (M1 M2 : q4_M) (z z' : Int32), q62_ev 123 0 (lv_args 0 [.ref 3, .int x1]) [] M 0 0 (some (.int z), M1) ∧ q52_M M1 ∧ q62_ev 235 0 (lv_args 0 [.ref 99, .int x1]) [] M1 0 0 (some (.int z'), M2) ∧ ql_I M2 ∧ qf_S M M1 ∧ qf_S M M2 := by
  obtain ⟨hM, hJ, hI⟩ := h
  obtain ⟨f1, r1, e1, a1, b1, c1⟩ := qf_y123 x1 hM hJ
  obtain ⟨f2, r2, e2, a2, b2, c2⟩ := qf_y235 x1 a1 b1
  have p1 := mb_123_3 (N := f1 + f2 + 5000) (by omega) (qa_of hM) rfl e1
  have p2 := mb_235_99 (N := f1 + f2 + 5000) (by omega) (qa_of a1) p1.2.2 e2
  have I1 : qb_I False False (qa_s r1.2) := by rw [p1.2.2]; exact qb_scI (qe_123 (by omega)) hI
  have I2 : qb_I False False (qa_s r2.2) := by rw [p2.2.2, ← p1.2.2]; exact qb_scI (mf_235_99 (N := f1 + f2 + 5000) qb_hw (qb_hm (by omega)) qb_Fr) I1
  exact ⟨r1.2, r2.2, _, _, ⟨f1, e1.trans (congrArg some (Prod.ext p1.1 rfl))⟩, a1, ⟨f2, e2.trans (congrArg some (Prod.ext p2.1 rfl))⟩, ⟨a2, b2, I2⟩, c1, qf_St c1 c2⟩
theorem qp_124 {M : q4_M} (h : ql_I M) (x1 : Int32) : ∃ (M1 M2 : q4_M) (z z' : Int32), q62_ev 124 0 (lv_args 0 [.ref 3, .int x1]) [] M 0 0 (some (.int z), M1) ∧ q52_M M1 ∧ q62_ev 236 0 (lv_args 0 [.ref 99, .int x1]) [] M1 0 0 (some (.int z'), M2) ∧ ql_I M2 ∧ qf_S M M1 ∧ qf_S M M2 := by
  obtain ⟨hM, hJ, hI⟩ := h
  obtain ⟨f1, r1, e1, a1, b1, c1⟩ := qf_y124 x1 hM hJ
  obtain ⟨f2, r2, e2, a2, b2, c2⟩ := qf_y236 x1 a1 b1
  have p1 := mb_124_3 (N := f1 + f2 + 5000) (by omega) (qa_of hM) rfl e1
  have p2 := mb_236_99 (N := f1 + f2 + 5000) (by omega) (qa_of a1) p1.2.2 e2
  have I1 : qb_I False False (qa_s r1.2) := by rw [p1.2.2]; exact qb_scI (mf_124_3 (N := f1 + f2 + 5000) qb_hw (qb_hm (by omega)) qb_Fr) hI
  have I2 : qb_I False False (qa_s r2.2) := by rw [p2.2.2, ← p1.2.2]; exact qb_scI (mf_236_99 (N := f1 + f2 + 5000) qb_hw (qb_hm (by omega)) qb_Fr) I1
  exact ⟨r1.2, r2.2, _, _, ⟨f1, e1.trans (congrArg some (Prod.ext p1.1 rfl))⟩, a1, ⟨f2, e2.trans (congrArg some (Prod.ext p2.1 rfl))⟩, ⟨a2, b2, I2⟩, c1, qf_St c1 c2⟩
theorem qp_125 {M : q4_M} (h : ql_I M) (x1 : Int32) : ∃ (M1 M2 : q4_M) (z z' : Int32), q62_ev 125 0 (lv_args 0 [.ref 3, .int x1]) [] M 0 0 (some (.int z), M1) ∧ q52_M M1 ∧ q62_ev 237 0 (lv_args 0 [.ref 99, .int x1]) [] M1 0 0 (some (.int z'), M2) ∧ ql_I M2 ∧ qf_S M M1 ∧ qf_S M M2 := by
  obtain ⟨hM, hJ, hI⟩ := h
  obtain ⟨f1, r1, e1, a1, b1, c1⟩ := qf_y125 x1 hM hJ
  obtain ⟨f2, r2, e2, a2, b2, c2⟩ := qf_y237 x1 a1 b1
  have p1 := mb_125_3 (N := f1 + f2 + 5000) (by omega) (qa_of hM) rfl e1
  have p2 := mb_237_99 (N := f1 + f2 + 5000) (by omega) (qa_of a1) p1.2.2 e2
  have I1 : qb_I False False (qa_s r1.2) := by rw [p1.2.2]; exact qb_scI (mf_125_3 (N := f1 + f2 + 5000) qb_hw (qb_hm (by omega)) qb_Fr) hI
  have I2 : qb_I False False (qa_s r2.2) := by rw [p2.2.2, ← p1.2.2]; exact qb_scI (mf_237_99 (N := f1 + f2 + 5000) qb_hw (qb_hm (by omega)) qb_Fr) I1
  exact ⟨r1.2, r2.2, _, _, ⟨f1, e1.trans (congrArg some (Prod.ext p1.1 rfl))⟩, a1, ⟨f2, e2.trans (congrArg some (Prod.ext p2.1 rfl))⟩, ⟨a2, b2, I2⟩, c1, qf_St c1 c2⟩
theorem qp_128 {M : q4_M} (h : ql_I M) (x1 : Int32) : ∃ (M1 M2 : q4_M) (z z' : Int32), q62_ev 128 0 (lv_args 0 [.ref 3, .int x1]) [] M 0 0 (some (.int z), M1) ∧ q52_M M1 ∧ q62_ev 238 0 (lv_args 0 [.ref 99, .int x1]) [] M1 0 0 (some (.int z'), M2) ∧ ql_I M2 ∧ qf_S M M1 ∧ qf_S M M2 := by
  obtain ⟨hM, hJ, hI⟩ := h
  obtain ⟨f1, r1, e1, a1, b1, c1⟩ := qf_y128 x1 hM hJ
  obtain ⟨f2, r2, e2, a2, b2, c2⟩ := qf_y238 x1 a1 b1
  have p1 := mb_128_3 (N := f1 + f2 + 5000) (by omega) (qa_of hM) rfl e1
  have p2 := mb_238_99 (N := f1 + f2 + 5000) (by omega) (qa_of a1) p1.2.2 e2
  have I1 : qb_I False False (qa_s r1.2) := by rw [p1.2.2]; exact qb_scI (qe_128 (by omega)) hI
  have I2 : qb_I False False (qa_s r2.2) := by rw [p2.2.2, ← p1.2.2]; exact qb_scI (mf_238_99 (N := f1 + f2 + 5000) qb_hw (qb_hm (by omega)) qb_Fr) I1
  exact ⟨r1.2, r2.2, _, _, ⟨f1, e1.trans (congrArg some (Prod.ext p1.1 rfl))⟩, a1, ⟨f2, e2.trans (congrArg some (Prod.ext p2.1 rfl))⟩, ⟨a2, b2, I2⟩, c1, qf_St c1 c2⟩
theorem qp_129 {M : q4_M} (h : ql_I M) (x1 : Int32) : ∃ (M1 M2 : q4_M) (z z' : Int32), q62_ev 129 0 (lv_args 0 [.ref 3, .int x1]) [] M 0 0 (some (.int z), M1) ∧ q52_M M1 ∧ q62_ev 239 0 (lv_args 0 [.ref 99, .int x1]) [] M1 0 0 (some (.int z'), M2) ∧ ql_I M2 ∧ qf_S M M1 ∧ qf_S M M2 := by
  obtain ⟨hM, hJ, hI⟩ := h
  obtain ⟨f1, r1, e1, a1, b1, c1⟩ := qf_y129 x1 hM hJ
  obtain ⟨f2, r2, e2, a2, b2, c2⟩ := qf_y239 x1 a1 b1
  have p1 := mb_129_3 (N := f1 + f2 + 5000) (by omega) (qa_of hM) rfl e1
  have p2 := mb_239_99 (N := f1 + f2 + 5000) (by omega) (qa_of a1) p1.2.2 e2
  have I1 : qb_I False False (qa_s r1.2) := by rw [p1.2.2]; exact qb_scI (mf_129_3 (N := f1 + f2 + 5000) qb_hw (qb_hm (by omega)) qb_Fr) hI
  have I2 : qb_I False False (qa_s r2.2) := by rw [p2.2.2, ← p1.2.2]; exact qb_scI (mf_239_99 (N := f1 + f2 + 5000) qb_hw (qb_hm (by omega)) qb_Fr) I1
  exact ⟨r1.2, r2.2, _, _, ⟨f1, e1.trans (congrArg some (Prod.ext p1.1 rfl))⟩, a1, ⟨f2, e2.trans (congrArg some (Prod.ext p2.1 rfl))⟩, ⟨a2, b2, I2⟩, c1, qf_St c1 c2⟩
theorem qp_130 {M : q4_M} (h : ql_I M) (x1 : Int32) (x2 : Int32) (x3 : Int32) : ∃ (M1 M2 : q4_M) (z z' : Int32), q62_ev 130 0 (lv_args 0 [.ref 3, .int x1, .int x2, .int x3]) [] M 0 0 (some (.int z), M1) ∧ q52_M M1 ∧ q62_ev 240 0 (lv_args 0 [.ref 99, .int x1, .int x2, .int x3]) [] M1 0 0 (some (.int z'), M2) ∧ ql_I M2 ∧ qf_S M M1 ∧ qf_S M M2 := by
  obtain ⟨hM, hJ, hI⟩ := h
  obtain ⟨f1, r1, e1, a1, b1, c1⟩ := qf_y130 x1 x2 x3 hM hJ
  obtain ⟨f2, r2, e2, a2, b2, c2⟩ := qf_y240 x1 x2 x3 a1 b1
  have p1 := mb_130_3 (N := f1 + f2 + 5000) (by omega) (qa_of hM) rfl e1
  have p2 := mb_240_99 (N := f1 + f2 + 5000) (by omega) (qa_of a1) p1.2.2 e2
  have I1 : qb_I False False (qa_s r1.2) := by rw [p1.2.2]; exact qb_scI (mf_130_3 (N := f1 + f2 + 5000) qb_hw (qb_hm (by omega)) qb_Fr) hI
  have I2 : qb_I False False (qa_s r2.2) := by rw [p2.2.2, ← p1.2.2]; exact qb_scI (qe_240 (by omega)) I1
  exact ⟨r1.2, r2.2, _, _, ⟨f1, e1.trans (congrArg some (Prod.ext p1.1 rfl))⟩, a1, ⟨f2, e2.trans (congrArg some (Prod.ext p2.1 rfl))⟩, ⟨a2, b2, I2⟩, c1, qf_St c1 c2⟩
theorem qp_131 {M : q4_M} (h : ql_I M) (x1 : Int32) : ∃ (M1 M2 : q4_M) (z z' : Int32), q62_ev 131 0 (lv_args 0 [.ref 3, .int x1]) [] M 0 0 (some (.int z), M1) ∧ q52_M M1 ∧ q62_ev 241 0 (lv_args 0 [.ref 99, .int x1]) [] M1 0 0 (some (.int z'), M2) ∧ ql_I M2 ∧ qf_S M M1 ∧ qf_S M M2 := by
  obtain ⟨hM, hJ, hI⟩ := h
  obtain ⟨f1, r1, e1, a1, b1, c1⟩ := qf_y131 x1 hM hJ
  obtain ⟨f2, r2, e2, a2, b2, c2⟩ := qf_y241 x1 a1 b1
  have p1 := mb_131_3 (N := f1 + f2 + 5000) (by omega) (qa_of hM) rfl e1
  have p2 := mb_241_99 (N := f1 + f2 + 5000) (by omega) (qa_of a1) p1.2.2 e2
  have I1 : qb_I False False (qa_s r1.2) := by rw [p1.2.2]; exact qb_scI (mf_131_3 (N := f1 + f2 + 5000) qb_hw (qb_hm (by omega)) qb_Fr) hI
  have I2 : qb_I False False (qa_s r2.2) := by rw [p2.2.2, ← p1.2.2]; exact qb_scI (mf_241_99 (N := f1 + f2 + 5000) qb_hw (qb_hm (by omega)) qb_Fr) I1
  exact ⟨r1.2, r2.2, _, _, ⟨f1, e1.trans (congrArg some (Prod.ext p1.1 rfl))⟩, a1, ⟨f2, e2.trans (congrArg some (Prod.ext p2.1 rfl))⟩, ⟨a2, b2, I2⟩, c1, qf_St c1 c2⟩
theorem qp_133 {M : q4_M} (h : ql_I M) (x1 : Int32) : ∃ (M1 M2 : q4_M) (z z' : Int32), q62_ev 133 0 (lv_args 0 [.ref 3, .int x1]) [] M 0 0 (some (.int z), M1) ∧ q52_M M1 ∧ q62_ev 242 0 (lv_args 0 [.ref 99, .int x1]) [] M1 0 0 (some (.int z'), M2) ∧ ql_I M2 ∧ qf_S M M1 ∧ qf_S M M2 := by
  obtain ⟨hM, hJ, hI⟩ := h
  obtain ⟨f1, r1, e1, a1, b1, c1⟩ := qf_y133 x1 hM hJ
  obtain ⟨f2, r2, e2, a2, b2, c2⟩ := qf_y242 x1 a1 b1
  have p1 := mb_133_3 (N := f1 + f2 + 5000) (by omega) (qa_of hM) rfl e1
  have p2 := mb_242_99 (N := f1 + f2 + 5000) (by omega) (qa_of a1) p1.2.2 e2
  have I1 : qb_I False False (qa_s r1.2) := by rw [p1.2.2]; exact qb_scI (mf_133_3 (N := f1 + f2 + 5000) qb_hw (qb_hm (by omega)) qb_Fr) hI
  have I2 : qb_I False False (qa_s r2.2) := by rw [p2.2.2, ← p1.2.2]; exact qb_scI (mf_242_99 (N := f1 + f2 + 5000) qb_hw (qb_hm (by omega)) qb_Fr) I1
  exact ⟨r1.2, r2.2, _, _, ⟨f1, e1.trans (congrArg some (Prod.ext p1.1 rfl))⟩, a1, ⟨f2, e2.trans (congrArg some (Prod.ext p2.1 rfl))⟩, ⟨a2, b2, I2⟩, c1, qf_St c1 c2⟩
theorem qp_135 {M : q4_M} (h : ql_I M) : ∃ (M1 M2 : q4_M) (z z' : Int32), q62_ev 135 0 (lv_args 0 [.ref 3]) [] M 0 0 (some (.int z), M1) ∧ q52_M M1 ∧ q62_ev 243 0 (lv_args 0 [.ref 99]) [] M1 0 0 (some (.int z'), M2) ∧ ql_I M2 ∧ qf_S M M1 ∧ qf_S M M2 := by
  obtain ⟨hM, hJ, hI⟩ := h
  obtain ⟨f1, r1, e1, a1, b1, c1⟩ := qf_y135 hM hJ
  obtain ⟨f2, r2, e2, a2, b2, c2⟩ := qf_y243 a1 b1
  have p1 := mb_135_3 (N := f1 + f2 + 5000) (by omega) (qa_of hM) rfl e1
  have p2 := mb_243_99 (N := f1 + f2 + 5000) (by omega) (qa_of a1) p1.2.2 e2
  have I1 : qb_I False False (qa_s r1.2) := by rw [p1.2.2]; exact qb_scI (mf_135_3 (N := f1 + f2 + 5000) qb_hw (qb_hm (by omega)) qb_Fr) hI
  have I2 : qb_I False False (qa_s r2.2) := by rw [p2.2.2, ← p1.2.2]; exact qb_scI (mf_243_99 (N := f1 + f2 + 5000) qb_hw (qb_hm (by omega)) qb_Fr) I1
  exact ⟨r1.2, r2.2, _, _, ⟨f1, e1.trans (congrArg some (Prod.ext p1.1 rfl))⟩, a1, ⟨f2, e2.trans (congrArg some (Prod.ext p2.1 rfl))⟩, ⟨a2, b2, I2⟩, c1, qf_St c1 c2⟩
theorem qp_136 {M : q4_M} (h : ql_I M) (x1 : Int32) (x2 : Int32) : ∃ (M1 M2 : q4_M) (z z' : Int32), q62_ev 136 0 (lv_args 0 [.ref 3, .int x1, .int x2]) [] M 0 0 (some (.int z), M1) ∧ q52_M M1 ∧ q62_ev 244 0 (lv_args 0 [.ref 99, .int x1, .int x2]) [] M1 0 0 (some (.int z'), M2) ∧ ql_I M2 ∧ qf_S M M1 ∧ qf_S M M2 := by
  obtain ⟨hM, hJ, hI⟩ := h
  obtain ⟨f1, r1, e1, a1, b1, c1⟩ := qf_y136 x1 x2 hM hJ
  obtain ⟨f2, r2, e2, a2, b2, c2⟩ := qf_y244 x1 x2 a1 b1
  have p1 := mb_136_3 (N := f1 + f2 + 5000) (by omega) (qa_of hM) rfl e1
  have p2 := mb_244_99 (N := f1 + f2 + 5000) (by omega) (qa_of a1) p1.2.2 e2
  have I1 : qb_I False False (qa_s r1.2) := by rw [p1.2.2]; exact qb_scI (mf_136_3 (N := f1 + f2 + 5000) qb_hw (qb_hm (by omega)) qb_Fr) hI
  have I2 : qb_I False False (qa_s r2.2) := by rw [p2.2.2, ← p1.2.2]; exact qb_scI (mf_244_99 (N := f1 + f2 + 5000) qb_hw (qb_hm (by omega)) qb_Fr) I1
  exact ⟨r1.2, r2.2, _, _, ⟨f1, e1.trans (congrArg some (Prod.ext p1.1 rfl))⟩, a1, ⟨f2, e2.trans (congrArg some (Prod.ext p2.1 rfl))⟩, ⟨a2, b2, I2⟩, c1, qf_St c1 c2⟩
theorem qp_137 {M : q4_M} (h : ql_I M) (x1 : Int32) : ∃ (M1 M2 : q4_M) (z z' : Int32), q62_ev 137 0 (lv_args 0 [.ref 3, .int x1]) [] M 0 0 (some (.int z), M1) ∧ q52_M M1 ∧ q62_ev 245 0 (lv_args 0 [.ref 99, .int x1]) [] M1 0 0 (some (.int z'), M2) ∧ ql_I M2 ∧ qf_S M M1 ∧ qf_S M M2 := by
  obtain ⟨hM, hJ, hI⟩ := h
  obtain ⟨f1, r1, e1, a1, b1, c1⟩ := qf_y137 x1 hM hJ
  obtain ⟨f2, r2, e2, a2, b2, c2⟩ := qf_y245 x1 a1 b1
  have p1 := mb_137_3 (N := f1 + f2 + 5000) (by omega) (qa_of hM) rfl e1
  have p2 := mb_245_99 (N := f1 + f2 + 5000) (by omega) (qa_of a1) p1.2.2 e2
  have I1 : qb_I False False (qa_s r1.2) := by rw [p1.2.2]; exact qb_scI (mf_137_3 (N := f1 + f2 + 5000) qb_hw (qb_hm (by omega)) qb_Fr) hI
  have I2 : qb_I False False (qa_s r2.2) := by rw [p2.2.2, ← p1.2.2]; exact qb_scI (mf_245_99 (N := f1 + f2 + 5000) qb_hw (qb_hm (by omega)) qb_Fr) I1
  exact ⟨r1.2, r2.2, _, _, ⟨f1, e1.trans (congrArg some (Prod.ext p1.1 rfl))⟩, a1, ⟨f2, e2.trans (congrArg some (Prod.ext p2.1 rfl))⟩, ⟨a2, b2, I2⟩, c1, qf_St c1 c2⟩
theorem qp_139 {M : q4_M} (h : ql_I M) (x1 : Int32) : ∃ (M1 M2 : q4_M) (z z' : Int32), q62_ev 139 0 (lv_args 0 [.ref 3, .int x1]) [] M 0 0 (some (.int z), M1) ∧ q52_M M1 ∧ q62_ev 246 0 (lv_args 0 [.ref 99, .int x1]) [] M1 0 0 (some (.int z'), M2) ∧ ql_I M2 ∧ qf_S M M1 ∧ qf_S M M2 := by
  obtain ⟨hM, hJ, hI⟩ := h
  obtain ⟨f1, r1, e1, a1, b1, c1⟩ := qf_y139 x1 hM hJ
  obtain ⟨f2, r2, e2, a2, b2, c2⟩ := qf_y246 x1 a1 b1
  have p1 := mb_139_3 (N := f1 + f2 + 5000) (by omega) (qa_of hM) rfl e1
  have p2 := mb_246_99 (N := f1 + f2 + 5000) (by omega) (qa_of a1) p1.2.2 e2
  have I1 : qb_I False False (qa_s r1.2) := by rw [p1.2.2]; exact qb_scI (mf_139_3 (N := f1 + f2 + 5000) qb_hw (qb_hm (by omega)) qb_Fr) hI
  have I2 : qb_I False False (qa_s r2.2) := by rw [p2.2.2, ← p1.2.2]; exact qb_scI (mf_246_99 (N := f1 + f2 + 5000) qb_hw (qb_hm (by omega)) qb_Fr) I1
  exact ⟨r1.2, r2.2, _, _, ⟨f1, e1.trans (congrArg some (Prod.ext p1.1 rfl))⟩, a1, ⟨f2, e2.trans (congrArg some (Prod.ext p2.1 rfl))⟩, ⟨a2, b2, I2⟩, c1, qf_St c1 c2⟩
theorem qp_140 {M : q4_M} (h : ql_I M) (x1 : Int32) : ∃ (M1 M2 : q4_M) (z z' : Int32), q62_ev 140 0 (lv_args 0 [.ref 3, .int x1]) [] M 0 0 (some (.int z), M1) ∧ q52_M M1 ∧ q62_ev 247 0 (lv_args 0 [.ref 99, .int x1]) [] M1 0 0 (some (.int z'), M2) ∧ ql_I M2 ∧ qf_S M M1 ∧ qf_S M M2 ∧ z = z' := by
  obtain ⟨hM, hJ, hI⟩ := h
  obtain ⟨f1, r1, e1, a1, b1, c1⟩ := qf_y140 x1 hM hJ
  obtain ⟨f2, r2, e2, a2, b2, c2⟩ := qf_y247 x1 a1 b1
  have p1 := mb_140_3 (qa_of hM) rfl e1
  have p2 := mb_247_99 (qa_of a1) p1.2.2 e2
  have q := qc_140 hI x1
  have I2 : qb_I False False (qa_s r2.2) := by rw [p2.2.2]; exact q.2
  exact ⟨r1.2, r2.2, _, _, ⟨f1, e1.trans (congrArg some (Prod.ext p1.1 rfl))⟩, a1, ⟨f2, e2.trans (congrArg some (Prod.ext p2.1 rfl))⟩, ⟨a2, b2, I2⟩, c1, qf_St c1 c2, q.1⟩
theorem qp_141 {M : q4_M} (h : ql_I M) (x1 : Int32) : ∃ (M1 M2 : q4_M) (z z' : Int32), q62_ev 141 0 (lv_args 0 [.ref 3, .int x1]) [] M 0 0 (some (.int z), M1) ∧ q52_M M1 ∧ q62_ev 248 0 (lv_args 0 [.ref 99, .int x1]) [] M1 0 0 (some (.int z'), M2) ∧ ql_I M2 ∧ qf_S M M1 ∧ qf_S M M2 ∧ z = z' := by
  obtain ⟨hM, hJ, hI⟩ := h
  obtain ⟨f1, r1, e1, a1, b1, c1⟩ := qf_y141 x1 hM hJ
  obtain ⟨f2, r2, e2, a2, b2, c2⟩ := qf_y248 x1 a1 b1
  have p1 := mb_141_3 (N := f1 + f2 + 5000) (by omega) (qa_of hM) rfl e1
  have p2 := mb_248_99 (N := f1 + f2 + 5000) (by omega) (qa_of a1) p1.2.2 e2
  have I2 : qb_I False False (qa_s r2.2) := by rw [p2.2.2]; exact qe_141 (N := f1 + f2 + 5000) (by omega) hI x1
  have q := qc_141 (N := f1 + f2 + 5000) (by omega) hI (ql_r hM) x1
  exact ⟨r1.2, r2.2, _, _, ⟨f1, e1.trans (congrArg some (Prod.ext p1.1 rfl))⟩, a1, ⟨f2, e2.trans (congrArg some (Prod.ext p2.1 rfl))⟩, ⟨a2, b2, I2⟩, c1, qf_St c1 c2, q⟩
theorem qp_142 {M : q4_M} (h : ql_I M) : ∃ (M1 M2 : q4_M) (z z' : Int32), q62_ev 142 0 (lv_args 0 [.ref 3]) [] M 0 0 (some (.int z), M1) ∧ q52_M M1 ∧ q62_ev 249 0 (lv_args 0 [.ref 99]) [] M1 0 0 (some (.int z'), M2) ∧ ql_I M2 ∧ qf_S M M1 ∧ qf_S M M2 ∧ z = z' := by
  obtain ⟨hM, hJ, hI⟩ := h
  obtain ⟨f1, r1, e1, a1, b1, c1⟩ := qf_y142 hM hJ
  obtain ⟨f2, r2, e2, a2, b2, c2⟩ := qf_y249 a1 b1
  have p1 := mb_142_3 (qa_of hM) rfl e1
  have p2 := mb_249_99 (qa_of a1) p1.2.2 e2
  have q := qc_142 hI
  have I2 : qb_I False False (qa_s r2.2) := by rw [p2.2.2]; exact q.2
  exact ⟨r1.2, r2.2, _, _, ⟨f1, e1.trans (congrArg some (Prod.ext p1.1 rfl))⟩, a1, ⟨f2, e2.trans (congrArg some (Prod.ext p2.1 rfl))⟩, ⟨a2, b2, I2⟩, c1, qf_St c1 c2, q.1⟩
theorem qp_143 {M : q4_M} (h : ql_I M) (x1 : Int32) (x2 : Int32) (x3 : Int32) : ∃ (M1 M2 : q4_M) (z z' : Int32), q62_ev 143 0 (lv_args 0 [.ref 3, .int x1, .int x2, .int x3]) [] M 0 0 (some (.int z), M1) ∧ q52_M M1 ∧ q62_ev 250 0 (lv_args 0 [.ref 99, .int x1, .int x2, .int x3]) [] M1 0 0 (some (.int z'), M2) ∧ ql_I M2 ∧ qf_S M M1 ∧ qf_S M M2 := by
  obtain ⟨hM, hJ, hI⟩ := h
  obtain ⟨f1, r1, e1, a1, b1, c1⟩ := qf_y143 x1 x2 x3 hM hJ
  obtain ⟨f2, r2, e2, a2, b2, c2⟩ := qf_y250 x1 x2 x3 a1 b1
  have p1 := mb_143_3 (N := f1 + f2 + 5000) (by omega) (qa_of hM) rfl e1
  have p2 := mb_250_99 (N := f1 + f2 + 5000) (by omega) (qa_of a1) p1.2.2 e2
  have I1 : qb_I False False (qa_s r1.2) := by rw [p1.2.2]; exact qb_scI (mf_143_3 (N := f1 + f2 + 5000) qb_hw (qb_hm (by omega)) qb_Fr) hI
  have I2 : qb_I False False (qa_s r2.2) := by rw [p2.2.2, ← p1.2.2]; exact qe_250 (by omega) I1
  exact ⟨r1.2, r2.2, _, _, ⟨f1, e1.trans (congrArg some (Prod.ext p1.1 rfl))⟩, a1, ⟨f2, e2.trans (congrArg some (Prod.ext p2.1 rfl))⟩, ⟨a2, b2, I2⟩, c1, qf_St c1 c2⟩
theorem qp_145 {M : q4_M} (h : ql_I M) : ∃ (M1 M2 : q4_M) (z z' : Int32), q62_ev 145 0 (lv_args 0 [.ref 3]) [] M 0 0 (some (.int z), M1) ∧ q52_M M1 ∧ q62_ev 166 0 (lv_args 0 [.ref 99]) [] M1 0 0 (some (.int z'), M2) ∧ ql_I M2 ∧ qf_S M M1 ∧ qf_S M M2 ∧ z = z' := by
  obtain ⟨hM, hJ, hI⟩ := h
  obtain ⟨f1, r1, e1, a1, b1, c1⟩ := qf_y145 hM hJ
  obtain ⟨f2, r2, e2, a2, b2, c2⟩ := qf_y166 a1 b1
  have p1 := mb_145_3 (N := f1 + f2 + 5000) (by omega) (qa_of hM) rfl e1
  have p2 := mb_166_99 (N := f1 + f2 + 5000) (by omega) (qa_of a1) p1.2.2 e2
  have q := qc_145 (N := f1 + f2 + 5000) (by omega) hI
  have I2 : qb_I False False (qa_s r2.2) := by rw [p2.2.2]; exact q.2
  exact ⟨r1.2, r2.2, _, _, ⟨f1, e1.trans (congrArg some (Prod.ext p1.1 rfl))⟩, a1, ⟨f2, e2.trans (congrArg some (Prod.ext p2.1 rfl))⟩, ⟨a2, b2, I2⟩, c1, qf_St c1 c2, q.1⟩
theorem qp_146 {M : q4_M} (h : ql_I M) : ∃ (M1 M2 : q4_M) (z z' : Int32), q62_ev 146 0 (lv_args 0 [.ref 3]) [] M 0 0 (some (.int z), M1) ∧ q52_M M1 ∧ q62_ev 167 0 (lv_args 0 [.ref 99]) [] M1 0 0 (some (.int z'), M2) ∧ ql_I M2 ∧ qf_S M M1 ∧ qf_S M M2 ∧ z = z' := by
  obtain ⟨hM, hJ, hI⟩ := h
  obtain ⟨f1, r1, e1, a1, b1, c1⟩ := qf_y146 hM hJ
  obtain ⟨f2, r2, e2, a2, b2, c2⟩ := qf_y167 a1 b1
  have p1 := mb_146_3 (N := f1 + f2 + 5000) (by omega) (qa_of hM) rfl e1
  have p2 := mb_167_99 (N := f1 + f2 + 5000) (by omega) (qa_of a1) p1.2.2 e2
  have q := qc_146 (N := f1 + f2 + 5000) (by omega) hI
  have I2 : qb_I False False (qa_s r2.2) := by rw [p2.2.2]; exact q.2
  exact ⟨r1.2, r2.2, _, _, ⟨f1, e1.trans (congrArg some (Prod.ext p1.1 rfl))⟩, a1, ⟨f2, e2.trans (congrArg some (Prod.ext p2.1 rfl))⟩, ⟨a2, b2, I2⟩, c1, qf_St c1 c2, q.1⟩
theorem qp_147 {M : q4_M} (h : ql_I M) (x1 : Int32) : ∃ (M1 M2 : q4_M) (z z' : Int32), q62_ev 147 0 (lv_args 0 [.ref 3, .int x1]) [] M 0 0 (some (.int z), M1) ∧ q52_M M1 ∧ q62_ev 251 0 (lv_args 0 [.ref 99, .int x1]) [] M1 0 0 (some (.int z'), M2) ∧ ql_I M2 ∧ qf_S M M1 ∧ qf_S M M2 := by
  obtain ⟨hM, hJ, hI⟩ := h
  obtain ⟨f1, r1, e1, a1, b1, c1⟩ := qf_y147 x1 hM hJ
  obtain ⟨f2, r2, e2, a2, b2, c2⟩ := qf_y251 x1 a1 b1
  have p1 := mb_147_3 (N := f1 + f2 + 5000) (by omega) (qa_of hM) rfl e1
  have p2 := mb_251_99 (N := f1 + f2 + 5000) (by omega) (qa_of a1) p1.2.2 e2
  have I1 : qb_I False False (qa_s r1.2) := by rw [p1.2.2]; exact hI
  have I2 : qb_I False False (qa_s r2.2) := by rw [p2.2.2, ← p1.2.2]; exact qb_scI (mf_251_99 (N := f1 + f2 + 5000) qb_hw (qb_hm (by omega)) qb_Fr) I1
  exact ⟨r1.2, r2.2, _, _, ⟨f1, e1.trans (congrArg some (Prod.ext p1.1 rfl))⟩, a1, ⟨f2, e2.trans (congrArg some (Prod.ext p2.1 rfl))⟩, ⟨a2, b2, I2⟩, c1, qf_St c1 c2⟩
