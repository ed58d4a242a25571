/-! each public call ends, from all that the walk knows -/
def qf_S (M M' : q4_M) : Prop := (M'.2 0).2.1 = (M.2 0).2.1 ∧ ∀ j, (M'.2 0).2.2 j = (M.2 0).2.2 j
theorem qf_Sf {W : q50_W} {M M' : q4_M} (hF : q52_F W M M') (hW : W.all (fun w => !(Nat.beq w.1 0)) = true) : qf_S M M' := by
  refine ⟨(hF.1 0).2, fun j => hF.2 0 j ?_⟩
  cases hb : q50_iw W 0 j with
  | false => rfl
  | true =>
    exfalso
    unfold q50_iw at hb
    obtain ⟨w, hw, hwb⟩ := List.any_eq_true.mp hb
    have h1 := List.all_eq_true.mp hW w hw
    simp only [Bool.and_eq_true] at hwb
    rw [hwb.1.1] at h1
    cases h1
theorem qf_St {A B C : q4_M} (h : qf_S A B) (h' : qf_S B C) : qf_S A C := ⟨h'.1.trans h.1, fun j => (h'.2 j).trans (h.2 j)⟩
def qf_R (y : Nat) (as : List Value) (M : q4_M) : Prop := ∃ f r, q4_run f y 0 (lv_args 0 as) [] M 0 0 = some r ∧ q52_M r.2 ∧ q60_J r.2 ∧ qf_S M r.2
theorem qf_V {c : q50_C} (hV : q60_V c) {y : Nat} {as : List Value} {M : q4_M} {zs : List Int} (hM : q52_M M) (hJ : q60_J M) (hy : c.1 = y) (hW : c.2.2.1.all (fun w => !(Nat.beq w.1 0)) = true) (hin : q60_in zs M c.2.1 (lv_args 0 as)) : qf_R y as M := by
  obtain ⟨f, v, M', h1, h2, h3, h4, -⟩ := hV zs M (lv_args 0 as) hM hJ hin
  rw [hy] at h1
  exact ⟨f, (v, M'), h1, h2, h3, qf_Sf h4 hW⟩
section F67
variable {M : q4_M} {a : Nat} {x1 x2 x3 x4 : Int32} {P : q50_P}
theorem qf_0 (h1 : P.1 = (0, q50_mk ([] : List (Int × Int)), [], [])) (h2 : P.2.2 = [(0, (6, (a : Int), (a : Int)))]) : q60_in [] M P (lv_args 0 [.ref a]) := by
  unfold q60_in
  rw [h1, h2]
  exact ⟨q74_E (l := ([] : List (Int × Int))) trivial (by decide) (fun f hf => by cases hf), fun r hr => (by cases hr), (q74_Lc (n := 0) (x := .ref a) rfl (q74_gr (a := a)) q74_L0)⟩
theorem qf_1 (h1 : P.1 = (1, q50_mk [((-2147483648 : Int), (2147483647 : Int))], [], [])) (h2 : P.2.2 = [(0, (6, (a : Int), (a : Int))), (1, (1, 0, 0))]) : q60_in [x1.toInt] M P (lv_args 0 [.ref a, .int x1]) := by
  unfold q60_in
  rw [h1, h2]
  exact ⟨q74_E (l := [((-2147483648 : Int), (2147483647 : Int))]) ⟨q53_r32 x1, trivial⟩ (by decide) (fun f hf => by cases hf), fun r hr => (by cases hr), (q74_Lc (n := 0) (x := .ref a) rfl (q74_gr (a := a)) (q74_Lc (n := 1) (x := .int x1) rfl (q74_gi (i := 0) rfl rfl) q74_L0))⟩
theorem qf_2 (h1 : P.1 = (2, q50_mk [((-2147483648 : Int), (2147483647 : Int)), ((-2147483648 : Int), (2147483647 : Int))], [], [])) (h2 : P.2.2 = [(0, (6, (a : Int), (a : Int))), (1, (1, 0, 0)), (2, (1, 1, 0))]) : q60_in [x1.toInt, x2.toInt] M P (lv_args 0 [.ref a, .int x1, .int x2]) := by
  unfold q60_in
  rw [h1, h2]
  exact ⟨q74_E (l := [((-2147483648 : Int), (2147483647 : Int)), ((-2147483648 : Int), (2147483647 : Int))]) ⟨q53_r32 x1, ⟨q53_r32 x2, trivial⟩⟩ (by decide) (fun f hf => by cases hf), fun r hr => (by cases hr), (q74_Lc (n := 0) (x := .ref a) rfl (q74_gr (a := a)) (q74_Lc (n := 1) (x := .int x1) rfl (q74_gi (i := 0) rfl rfl) (q74_Lc (n := 2) (x := .int x2) rfl (q74_gi (i := 1) rfl rfl) q74_L0)))⟩
theorem qf_3 (h1 : P.1 = (3, q50_mk [((-2147483648 : Int), (2147483647 : Int)), ((-2147483648 : Int), (2147483647 : Int)), ((-2147483648 : Int), (2147483647 : Int))], [], [])) (h2 : P.2.2 = [(0, (6, (a : Int), (a : Int))), (1, (1, 0, 0)), (2, (1, 1, 0)), (3, (1, 2, 0))]) : q60_in [x1.toInt, x2.toInt, x3.toInt] M P (lv_args 0 [.ref a, .int x1, .int x2, .int x3]) := by
  unfold q60_in
  rw [h1, h2]
  exact ⟨q74_E (l := [((-2147483648 : Int), (2147483647 : Int)), ((-2147483648 : Int), (2147483647 : Int)), ((-2147483648 : Int), (2147483647 : Int))]) ⟨q53_r32 x1, ⟨q53_r32 x2, ⟨q53_r32 x3, trivial⟩⟩⟩ (by decide) (fun f hf => by cases hf), fun r hr => (by cases hr), (q74_Lc (n := 0) (x := .ref a) rfl (q74_gr (a := a)) (q74_Lc (n := 1) (x := .int x1) rfl (q74_gi (i := 0) rfl rfl) (q74_Lc (n := 2) (x := .int x2) rfl (q74_gi (i := 1) rfl rfl) (q74_Lc (n := 3) (x := .int x3) rfl (q74_gi (i := 2) rfl rfl) q74_L0))))⟩
theorem qf_4 (h1 : P.1 = (4, q50_mk [((-2147483648 : Int), (2147483647 : Int)), ((-2147483648 : Int), (2147483647 : Int)), ((-2147483648 : Int), (2147483647 : Int)), ((-2147483648 : Int), (2147483647 : Int))], [], [])) (h2 : P.2.2 = [(0, (6, (a : Int), (a : Int))), (1, (1, 0, 0)), (2, (1, 1, 0)), (3, (1, 2, 0)), (4, (1, 3, 0))]) : q60_in [x1.toInt, x2.toInt, x3.toInt, x4.toInt] M P (lv_args 0 [.ref a, .int x1, .int x2, .int x3, .int x4]) := by
  unfold q60_in
  rw [h1, h2]
  exact ⟨q74_E (l := [((-2147483648 : Int), (2147483647 : Int)), ((-2147483648 : Int), (2147483647 : Int)), ((-2147483648 : Int), (2147483647 : Int)), ((-2147483648 : Int), (2147483647 : Int))]) ⟨q53_r32 x1, ⟨q53_r32 x2, ⟨q53_r32 x3, ⟨q53_r32 x4, trivial⟩⟩⟩⟩ (by decide) (fun f hf => by cases hf), fun r hr => (by cases hr), (q74_Lc (n := 0) (x := .ref a) rfl (q74_gr (a := a)) (q74_Lc (n := 1) (x := .int x1) rfl (q74_gi (i := 0) rfl rfl) (q74_Lc (n := 2) (x := .int x2) rfl (q74_gi (i := 1) rfl rfl) (q74_Lc (n := 3) (x := .int x3) rfl (q74_gi (i := 2) rfl rfl) (q74_Lc (n := 4) (x := .int x4) rfl (q74_gi (i := 3) rfl rfl) q74_L0)))))⟩
theorem qf_1r {lo hi : Int} (hx : lo ≤ x1.toInt ∧ x1.toInt ≤ hi) (h1 : P.1 = (1, q50_mk [(lo, hi)], [], [])) (h2 : P.2.2 = [(0, (6, (a : Int), (a : Int))), (1, (1, 0, 0))]) : q60_in [x1.toInt] M P (lv_args 0 [.ref a, .int x1]) := by
  unfold q60_in
  rw [h1, h2]
  exact ⟨q74_E (l := [(lo, hi)]) ⟨hx, trivial⟩ (Nat.le_of_ble_eq_true rfl) (fun f hf => by cases hf), fun r hr => (by cases hr), (q74_Lc (n := 0) (x := .ref a) rfl (q74_gr (a := a)) (q74_Lc (n := 1) (x := .int x1) rfl (q74_gi (i := 0) rfl rfl) q74_L0))⟩
end F67
noncomputable def qf_c8 : q70_R := (8, ([((-2147483648), 2147483647)], [], [], [(0, 1, 0)], [(0, (6, 3, 3)), (1, (1, 0, 0))]), [(83, 0, 0), (84, 0, 95), (93, 0, 6)], [], [([((-2147483648), 2147483647)], [], [], [(2, 0, 0)], [(0, (0, (-2147483648), 2147483647))])])
theorem qf_k8 : (q61_rb (q70_c qf_c8) && q50_chkx q70_G [] 30000 q70_n (q70_c qf_c8)) = true := by decide +kernel
theorem qf_v8 : q60_V (q70_c qf_c8) := by
  have h := qf_k8
  rw [Bool.and_eq_true] at h
  exact q61_con (fun y c hc _ => q77_V hc) h.1 h.2
noncomputable def qf_c140 : q70_R := (140, ([((-2147483648), 2147483647)], [], [], [(0, 1, 0)], [(0, (6, 3, 3)), (1, (1, 0, 0))]), [(3, 16, 16), (92, 0, 11), (93, 0, 6)], [], [([((-2147483648), 2147483647)], [], [], [(2, 0, 0)], [(0, (0, (-2147483648), 2147483647))])])
theorem qf_k140 : (q61_rb (q70_c qf_c140) && q50_chkx q70_G [] 30000 q70_n (q70_c qf_c140)) = true := by decide +kernel
theorem qf_v140 : q60_V (q70_c qf_c140) := by
  have h := qf_k140
  rw [Bool.and_eq_true] at h
  exact q61_con (fun y c hc _ => q77_V hc) h.1 h.2
noncomputable def qf_c142 : q70_R := (142, ([], [], [], [], [(0, (6, 3, 3))]), [(3, 16, 16)], [], [([], [], [], [], [(0, (0, (-2147483648), 2147483647))])])
theorem qf_k142 : (q61_rb (q70_c qf_c142) && q50_chkx q70_G [] 30000 q70_n (q70_c qf_c142)) = true := by decide +kernel
theorem qf_v142 : q60_V (q70_c qf_c142) := by
  have h := qf_k142
  rw [Bool.and_eq_true] at h
  exact q61_con (fun y c hc _ => q77_V hc) h.1 h.2
noncomputable def qf_c151 : q70_R := (151, ([((-2147483648), 2147483647)], [], [], [(0, 1, 0)], [(0, (6, 99, 99)), (1, (1, 0, 0))]), [(99, 9, 9), (99, 17, 17), (107, 0, 6), (113, 0, 95)], [], [([((-2147483648), 2147483647)], [], [], [(2, 0, 0)], [(0, (0, (-2147483648), 2147483647))])])
theorem qf_k151 : (q61_rb (q70_c qf_c151) && q50_chkx q70_G [] 30000 q70_n (q70_c qf_c151)) = true := by decide +kernel
theorem qf_v151 : q60_V (q70_c qf_c151) := by
  have h := qf_k151
  rw [Bool.and_eq_true] at h
  exact q61_con (fun y c hc _ => q77_V hc) h.1 h.2
noncomputable def qf_c247 : q70_R := (247, ([((-2147483648), 2147483647)], [], [], [(0, 1, 0)], [(0, (6, 99, 99)), (1, (1, 0, 0))]), [(99, 9, 9), (99, 35, 35), (107, 0, 6), (122, 0, 11)], [], [([((-2147483648), 2147483647)], [], [], [(2, 0, 0)], [(0, (0, (-2147483648), 2147483647))])])
theorem qf_k247 : (q61_rb (q70_c qf_c247) && q50_chkx q70_G [] 30000 q70_n (q70_c qf_c247)) = true := by decide +kernel
theorem qf_v247 : q60_V (q70_c qf_c247) := by
  have h := qf_k247
  rw [Bool.and_eq_true] at h
  exact q61_con (fun y c hc _ => q77_V hc) h.1 h.2
noncomputable def qf_c249 : q70_R := (249, ([], [], [], [], [(0, (6, 99, 99))]), [(99, 9, 9), (99, 35, 35)], [], [([], [], [], [], [(0, (0, (-2147483648), 2147483647))])])
theorem qf_k249 : (q61_rb (q70_c qf_c249) && q50_chkx q70_G [] 30000 q70_n (q70_c qf_c249)) = true := by decide +kernel
theorem qf_v249 : q60_V (q70_c qf_c249) := by
  have h := qf_k249
  rw [Bool.and_eq_true] at h
  exact q61_con (fun y c hc _ => q77_V hc) h.1 h.2
theorem qf_y8 {M : q4_M} (x1 : Int32) (hM : q52_M M) (hJ : q60_J M) : qf_R 8 [.ref 3, .int x1] M := qf_V qf_v8 hM hJ rfl (by decide) (qf_1 (a := 3) rfl rfl)
theorem qf_y11 {M : q4_M} (hM : q52_M M) (hJ : q60_J M) : qf_R 11 [.ref 3] M := qf_V (q77_all q77_ok 36 35 (by decide) (by decide)) hM hJ rfl (by decide) (qf_0 (a := 3) rfl rfl)
theorem qf_y31 {M : q4_M} (x1 : Int32) (x2 : Int32) (hM : q52_M M) (hJ : q60_J M) : qf_R 31 [.ref 3, .int x1, .int x2] M := qf_V (q77_all q77_ok 224 223 (by decide) (by decide)) hM hJ rfl (by decide) (qf_2 (a := 3) rfl rfl)
theorem qf_y32 {M : q4_M} (x1 : Int32) (x2 : Int32) (hM : q52_M M) (hJ : q60_J M) : qf_R 32 [.ref 3, .int x1, .int x2] M := qf_V (q77_all q77_ok 225 224 (by decide) (by decide)) hM hJ rfl (by decide) (qf_2 (a := 3) rfl rfl)
theorem qf_y34 {M : q4_M} (x1 : Int32) (x2 : Int32) (x3 : Int32) (hM : q52_M M) (hJ : q60_J M) : qf_R 34 [.ref 3, .int x1, .int x2, .int x3] M := qf_V (q77_all q77_ok 226 225 (by decide) (by decide)) hM hJ rfl (by decide) (qf_3 (a := 3) rfl rfl)
theorem qf_y35 {M : q4_M} (x1 : Int32) (x2 : Int32) (x3 : Int32) (hM : q52_M M) (hJ : q60_J M) : qf_R 35 [.ref 3, .int x1, .int x2, .int x3] M := qf_V (q77_all q77_ok 227 226 (by decide) (by decide)) hM hJ rfl (by decide) (qf_3 (a := 3) rfl rfl)
theorem qf_y36 {M : q4_M} (x1 : Int32) (x2 : Int32) (hM : q52_M M) (hJ : q60_J M) : qf_R 36 [.ref 3, .int x1, .int x2] M := qf_V (q77_all q77_ok 229 228 (by decide) (by decide)) hM hJ rfl (by decide) (qf_2 (a := 3) rfl rfl)
theorem qf_y39 {M : q4_M} (x1 : Int32) (x2 : Int32) (x3 : Int32) (hM : q52_M M) (hJ : q60_J M) : qf_R 39 [.ref 3, .int x1, .int x2, .int x3] M := qf_V (q77_all q77_ok 232 231 (by decide) (by decide)) hM hJ rfl (by decide) (qf_3 (a := 3) rfl rfl)
theorem qf_y40 {M : q4_M} (x1 : Int32) (x2 : Int32) (x3 : Int32) (hM : q52_M M) (hJ : q60_J M) : qf_R 40 [.ref 3, .int x1, .int x2, .int x3] M := qf_V (q77_all q77_ok 233 232 (by decide) (by decide)) hM hJ rfl (by decide) (qf_3 (a := 3) rfl rfl)
theorem qf_y41 {M : q4_M} (hM : q52_M M) (hJ : q60_J M) : qf_R 41 [.ref 3] M := qf_V (q77_all q77_ok 234 233 (by decide) (by decide)) hM hJ rfl (by decide) (qf_0 (a := 3) rfl rfl)
theorem qf_y43 {M : q4_M} (x1 : Int32) (x2 : Int32) (hM : q52_M M) (hJ : q60_J M) : qf_R 43 [.ref 3, .int x1, .int x2] M := qf_V (q77_all q77_ok 235 234 (by decide) (by decide)) hM hJ rfl (by decide) (qf_2 (a := 3) rfl rfl)
theorem qf_y49 {M : q4_M} (x1 : Int32) (x2 : Int32) (x3 : Int32) (hM : q52_M M) (hJ : q60_J M) : qf_R 49 [.ref 3, .int x1, .int x2, .int x3] M := qf_V (q77_all q77_ok 236 235 (by decide) (by decide)) hM hJ rfl (by decide) (qf_3 (a := 3) rfl rfl)
theorem qf_y51 {M : q4_M} (x1 : Int32) (x2 : Int32) (x3 : Int32) (hM : q52_M M) (hJ : q60_J M) : qf_R 51 [.ref 3, .int x1, .int x2, .int x3] M := qf_V (q77_all q77_ok 237 236 (by decide) (by decide)) hM hJ rfl (by decide) (qf_3 (a := 3) rfl rfl)
theorem qf_y56 {M : q4_M} (x1 : Int32) (hM : q52_M M) (hJ : q60_J M) : qf_R 56 [.ref 3, .int x1] M := qf_V (q77_all q77_ok 256 255 (by decide) (by decide)) hM hJ rfl (by decide) (qf_1 (a := 3) rfl rfl)
theorem qf_y64 {M : q4_M} (x1 : Int32) (hM : q52_M M) (hJ : q60_J M) : qf_R 64 [.ref 3, .int x1] M := qf_V (q77_all q77_ok 258 257 (by decide) (by decide)) hM hJ rfl (by decide) (qf_1 (a := 3) rfl rfl)
theorem qf_y80 {M : q4_M} (x1 : Int32) (x2 : Int32) (hM : q52_M M) (hJ : q60_J M) : qf_R 80 [.ref 3, .int x1, .int x2] M := qf_V (q77_all q77_ok 259 258 (by decide) (by decide)) hM hJ rfl (by decide) (qf_2 (a := 3) rfl rfl)
theorem qf_y85 {M : q4_M} (x1 : Int32) (hM : q52_M M) (hJ : q60_J M) : qf_R 85 [.ref 3, .int x1] M := qf_V (q77_all q77_ok 260 259 (by decide) (by decide)) hM hJ rfl (by decide) (qf_1 (a := 3) rfl rfl)
theorem qf_y86 {M : q4_M} (x1 : Int32) (hM : q52_M M) (hJ : q60_J M) : qf_R 86 [.ref 3, .int x1] M := qf_V (q77_all q77_ok 261 260 (by decide) (by decide)) hM hJ rfl (by decide) (qf_1 (a := 3) rfl rfl)
theorem qf_y88 {M : q4_M} (hM : q52_M M) (hJ : q60_J M) : qf_R 88 [.ref 3] M := qf_V (q77_all q77_ok 262 261 (by decide) (by decide)) hM hJ rfl (by decide) (qf_0 (a := 3) rfl rfl)
theorem qf_y89 {M : q4_M} (x1 : Int32) (x2 : Int32) (hM : q52_M M) (hJ : q60_J M) : qf_R 89 [.ref 3, .int x1, .int x2] M := qf_V (q77_all q77_ok 263 262 (by decide) (by decide)) hM hJ rfl (by decide) (qf_2 (a := 3) rfl rfl)
theorem qf_y90 {M : q4_M} (hM : q52_M M) (hJ : q60_J M) : qf_R 90 [.ref 3] M := qf_V (q77_all q77_ok 264 263 (by decide) (by decide)) hM hJ rfl (by decide) (qf_0 (a := 3) rfl rfl)
theorem qf_y91 {M : q4_M} (x1 : Int32) (x2 : Int32) (hM : q52_M M) (hJ : q60_J M) : qf_R 91 [.ref 3, .int x1, .int x2] M := qf_V (q77_all q77_ok 269 268 (by decide) (by decide)) hM hJ rfl (by decide) (qf_2 (a := 3) rfl rfl)
theorem qf_y98 {M : q4_M} (x1 : Int32) (hM : q52_M M) (hJ : q60_J M) : qf_R 98 [.ref 3, .int x1] M := qf_V (q77_all q77_ok 270 269 (by decide) (by decide)) hM hJ rfl (by decide) (qf_1 (a := 3) rfl rfl)
theorem qf_y100 {M : q4_M} (hM : q52_M M) (hJ : q60_J M) : qf_R 100 [.ref 3] M := qf_V (q77_all q77_ok 9 8 (by decide) (by decide)) hM hJ rfl (by decide) (qf_0 (a := 3) rfl rfl)
theorem qf_y102 {M : q4_M} (x1 : Int32) (x2 : Int32) (x3 : Int32) (x4 : Int32) (hM : q52_M M) (hJ : q60_J M) : qf_R 102 [.ref 3, .int x1, .int x2, .int x3, .int x4] M := qf_V (q77_all q77_ok 19 18 (by decide) (by decide)) hM hJ rfl (by decide) (qf_4 (a := 3) rfl rfl)
theorem qf_y103 {M : q4_M} (x1 : Int32) (x2 : Int32) (hM : q52_M M) (hJ : q60_J M) : qf_R 103 [.ref 3, .int x1, .int x2] M := qf_V (q77_all q77_ok 21 20 (by decide) (by decide)) hM hJ rfl (by decide) (qf_2 (a := 3) rfl rfl)
theorem qf_y106 {M : q4_M} (x1 : Int32) (x2 : Int32) (hM : q52_M M) (hJ : q60_J M) : qf_R 106 [.ref 3, .int x1, .int x2] M := qf_V (q77_all q77_ok 26 25 (by decide) (by decide)) hM hJ rfl (by decide) (qf_2 (a := 3) rfl rfl)
theorem qf_y108 {M : q4_M} (x1 : Int32) (hM : q52_M M) (hJ : q60_J M) : qf_R 108 [.ref 3, .int x1] M := qf_V (q77_all q77_ok 29 28 (by decide) (by decide)) hM hJ rfl (by decide) (qf_1 (a := 3) rfl rfl)
theorem qf_y110 {M : q4_M} (x1 : Int32) (x2 : Int32) (hM : q52_M M) (hJ : q60_J M) : qf_R 110 [.ref 3, .int x1, .int x2] M := qf_V (q77_all q77_ok 37 36 (by decide) (by decide)) hM hJ rfl (by decide) (qf_2 (a := 3) rfl rfl)
theorem qf_y111 {M : q4_M} (hM : q52_M M) (hJ : q60_J M) : qf_R 111 [.ref 3] M := qf_V (q77_all q77_ok 39 38 (by decide) (by decide)) hM hJ rfl (by decide) (qf_0 (a := 3) rfl rfl)
theorem qf_y114 {M : q4_M} (hM : q52_M M) (hJ : q60_J M) : qf_R 114 [.ref 3] M := qf_V (q77_all q77_ok 41 40 (by decide) (by decide)) hM hJ rfl (by decide) (qf_0 (a := 3) rfl rfl)
theorem qf_y115 {M : q4_M} (hM : q52_M M) (hJ : q60_J M) : qf_R 115 [.ref 3] M := qf_V (q77_all q77_ok 42 41 (by decide) (by decide)) hM hJ rfl (by decide) (qf_0 (a := 3) rfl rfl)
theorem qf_y116 {M : q4_M} (hM : q52_M M) (hJ : q60_J M) : qf_R 116 [.ref 3] M := qf_V (q77_all q77_ok 44 43 (by decide) (by decide)) hM hJ rfl (by decide) (qf_0 (a := 3) rfl rfl)
theorem qf_y118 {M : q4_M} (x1 : Int32) (hM : q52_M M) (hJ : q60_J M) : qf_R 118 [.ref 3, .int x1] M := qf_V (q77_all q77_ok 45 44 (by decide) (by decide)) hM hJ rfl (by decide) (qf_1 (a := 3) rfl rfl)
theorem qf_y119 {M : q4_M} (x1 : Int32) (x2 : Int32) (hM : q52_M M) (hJ : q60_J M) : qf_R 119 [.ref 3, .int x1, .int x2] M := qf_V (q77_all q77_ok 47 46 (by decide) (by decide)) hM hJ rfl (by decide) (qf_2 (a := 3) rfl rfl)
theorem qf_y121 {M : q4_M} (hM : q52_M M) (hJ : q60_J M) : qf_R 121 [.ref 3] M := qf_V (q77_all q77_ok 52 51 (by decide) (by decide)) hM hJ rfl (by decide) (qf_0 (a := 3) rfl rfl)
theorem qf_y122 {M : q4_M} (x1 : Int32) (hM : q52_M M) (hJ : q60_J M) : qf_R 122 [.ref 3, .int x1] M := qf_V (q77_all q77_ok 53 52 (by decide) (by decide)) hM hJ rfl (by decide) (qf_1 (a := 3) rfl rfl)
theorem qf_y123 {M : q4_M} (x1 : Int32) (hM : q52_M M) (hJ : q60_J M) : qf_R 123 [.ref 3, .int x1] M := qf_V (q77_all q77_ok 54 53 (by decide) (by decide)) hM hJ rfl (by decide) (qf_1 (a := 3) rfl rfl)
theorem qf_y124 {M : q4_M} (x1 : Int32) (hM : q52_M M) (hJ : q60_J M) : qf_R 124 [.ref 3, .int x1] M := qf_V (q77_all q77_ok 55 54 (by decide) (by decide)) hM hJ rfl (by decide) (qf_1 (a := 3) rfl rfl)
theorem qf_y125 {M : q4_M} (x1 : Int32) (hM : q52_M M) (hJ : q60_J M) : qf_R 125 [.ref 3, .int x1] M := qf_V (q77_all q77_ok 59 58 (by decide) (by decide)) hM hJ rfl (by decide) (qf_1 (a := 3) rfl rfl)
theorem qf_y128 {M : q4_M} (x1 : Int32) (hM : q52_M M) (hJ : q60_J M) : qf_R 128 [.ref 3, .int x1] M := qf_V (q77_all q77_ok 60 59 (by decide) (by decide)) hM hJ rfl (by decide) (qf_1 (a := 3) rfl rfl)
theorem qf_y129 {M : q4_M} (x1 : Int32) (hM : q52_M M) (hJ : q60_J M) : qf_R 129 [.ref 3, .int x1] M := qf_V (q77_all q77_ok 61 60 (by decide) (by decide)) hM hJ rfl (by decide) (qf_1 (a := 3) rfl rfl)
theorem qf_y130 {M : q4_M} (x1 : Int32) (x2 : Int32) (x3 : Int32) (hM : q52_M M) (hJ : q60_J M) : qf_R 130 [.ref 3, .int x1, .int x2, .int x3] M := qf_V (q77_all q77_ok 63 62 (by decide) (by decide)) hM hJ rfl (by decide) (qf_3 (a := 3) rfl rfl)
theorem qf_y131 {M : q4_M} (x1 : Int32) (hM : q52_M M) (hJ : q60_J M) : qf_R 131 [.ref 3, .int x1] M := qf_V (q77_all q77_ok 65 64 (by decide) (by decide)) hM hJ rfl (by decide) (qf_1 (a := 3) rfl rfl)
theorem qf_y133 {M : q4_M} (x1 : Int32) (hM : q52_M M) (hJ : q60_J M) : qf_R 133 [.ref 3, .int x1] M := qf_V (q77_all q77_ok 67 66 (by decide) (by decide)) hM hJ rfl (by decide) (qf_1 (a := 3) rfl rfl)
theorem qf_y135 {M : q4_M} (hM : q52_M M) (hJ : q60_J M) : qf_R 135 [.ref 3] M := qf_V (q77_all q77_ok 68 67 (by decide) (by decide)) hM hJ rfl (by decide) (qf_0 (a := 3) rfl rfl)
theorem qf_y136 {M : q4_M} (x1 : Int32) (x2 : Int32) (hM : q52_M M) (hJ : q60_J M) : qf_R 136 [.ref 3, .int x1, .int x2] M := qf_V (q77_all q77_ok 70 69 (by decide) (by decide)) hM hJ rfl (by decide) (qf_2 (a := 3) rfl rfl)
theorem qf_y137 {M : q4_M} (x1 : Int32) (hM : q52_M M) (hJ : q60_J M) : qf_R 137 [.ref 3, .int x1] M := qf_V (q77_all q77_ok 73 72 (by decide) (by decide)) hM hJ rfl (by decide) (qf_1 (a := 3) rfl rfl)
theorem qf_y139 {M : q4_M} (x1 : Int32) (hM : q52_M M) (hJ : q60_J M) : qf_R 139 [.ref 3, .int x1] M := qf_V (q77_all q77_ok 74 73 (by decide) (by decide)) hM hJ rfl (by decide) (qf_1 (a := 3) rfl rfl)
theorem qf_y140 {M : q4_M} (x1 : Int32) (hM : q52_M M) (hJ : q60_J M) : qf_R 140 [.ref 3, .int x1] M := qf_V qf_v140 hM hJ rfl (by decide) (qf_1 (a := 3) rfl rfl)
theorem qf_y141 {M : q4_M} (x1 : Int32) (hM : q52_M M) (hJ : q60_J M) : qf_R 141 [.ref 3, .int x1] M := by
  by_cases h1 : x1.toInt ≤ -1
  · exact qf_V (q77_all q77_ok 75 74 (by decide) (by decide)) hM hJ rfl (by decide) (qf_1r (a := 3) (lo := -2147483648) (hi := -1) ⟨(q53_r32 x1).1, h1⟩ rfl rfl)
  by_cases h2 : x1.toInt ≤ 3
  · exact qf_V (q77_all q77_ok 76 75 (by decide) (by decide)) hM hJ rfl (by decide) (qf_1r (a := 3) (lo := 0) (hi := 3) ⟨by omega, h2⟩ rfl rfl)
  · exact qf_V (q77_all q77_ok 77 76 (by decide) (by decide)) hM hJ rfl (by decide) (qf_1r (a := 3) (lo := 4) (hi := 2147483647) ⟨by omega, (q53_r32 x1).2⟩ rfl rfl)
theorem qf_y142 {M : q4_M} (hM : q52_M M) (hJ : q60_J M) : qf_R 142 [.ref 3] M := qf_V qf_v142 hM hJ rfl (by decide) (qf_0 (a := 3) rfl rfl)
theorem qf_y143 {M : q4_M} (x1 : Int32) (x2 : Int32) (x3 : Int32) (hM : q52_M M) (hJ : q60_J M) : qf_R 143 [.ref 3, .int x1, .int x2, .int x3] M := qf_V (q77_all q77_ok 79 78 (by decide) (by decide)) hM hJ rfl (by decide) (qf_3 (a := 3) rfl rfl)
theorem qf_y145 {M : q4_M} (hM : q52_M M) (hJ : q60_J M) : qf_R 145 [.ref 3] M := qf_V (q77_all q77_ok 80 79 (by decide) (by decide)) hM hJ rfl (by decide) (qf_0 (a := 3) rfl rfl)
theorem qf_y146 {M : q4_M} (hM : q52_M M) (hJ : q60_J M) : qf_R 146 [.ref 3] M := qf_V (q77_all q77_ok 81 80 (by decide) (by decide)) hM hJ rfl (by decide) (qf_0 (a := 3) rfl rfl)
theorem qf_y147 {M : q4_M} (x1 : Int32) (hM : q52_M M) (hJ : q60_J M) : qf_R 147 [.ref 3, .int x1] M := qf_V (q77_all q77_ok 84 83 (by decide) (by decide)) hM hJ rfl (by decide) (qf_1 (a := 3) rfl rfl)
theorem qf_y151 {M : q4_M} (x1 : Int32) (hM : q52_M M) (hJ : q60_J M) : qf_R 151 [.ref 99, .int x1] M := qf_V qf_v151 hM hJ rfl (by decide) (qf_1 (a := 99) rfl rfl)
theorem qf_y153 {M : q4_M} (hM : q52_M M) (hJ : q60_J M) : qf_R 153 [.ref 99] M := qf_V (q77_all q77_ok 116 115 (by decide) (by decide)) hM hJ rfl (by decide) (qf_0 (a := 99) rfl rfl)
theorem qf_y166 {M : q4_M} (hM : q52_M M) (hJ : q60_J M) : qf_R 166 [.ref 99] M := qf_V (q77_all q77_ok 121 120 (by decide) (by decide)) hM hJ rfl (by decide) (qf_0 (a := 99) rfl rfl)
theorem qf_y167 {M : q4_M} (hM : q52_M M) (hJ : q60_J M) : qf_R 167 [.ref 99] M := qf_V (q77_all q77_ok 122 121 (by decide) (by decide)) hM hJ rfl (by decide) (qf_0 (a := 99) rfl rfl)
theorem qf_y168 {M : q4_M} (hM : q52_M M) (hJ : q60_J M) : qf_R 168 [.ref 99] M := qf_V (q77_all q77_ok 123 122 (by decide) (by decide)) hM hJ rfl (by decide) (qf_0 (a := 99) rfl rfl)
theorem qf_y169 {M : q4_M} (x1 : Int32) (x2 : Int32) (hM : q52_M M) (hJ : q60_J M) : qf_R 169 [.ref 99, .int x1, .int x2] M := qf_V (q77_all q77_ok 124 123 (by decide) (by decide)) hM hJ rfl (by decide) (qf_2 (a := 99) rfl rfl)
theorem qf_y170 {M : q4_M} (x1 : Int32) (x2 : Int32) (hM : q52_M M) (hJ : q60_J M) : qf_R 170 [.ref 99, .int x1, .int x2] M := qf_V (q77_all q77_ok 125 124 (by decide) (by decide)) hM hJ rfl (by decide) (qf_2 (a := 99) rfl rfl)
theorem qf_y172 {M : q4_M} (x1 : Int32) (x2 : Int32) (x3 : Int32) (hM : q52_M M) (hJ : q60_J M) : qf_R 172 [.ref 99, .int x1, .int x2, .int x3] M := qf_V (q77_all q77_ok 126 125 (by decide) (by decide)) hM hJ rfl (by decide) (qf_3 (a := 99) rfl rfl)
theorem qf_y173 {M : q4_M} (x1 : Int32) (x2 : Int32) (x3 : Int32) (hM : q52_M M) (hJ : q60_J M) : qf_R 173 [.ref 99, .int x1, .int x2, .int x3] M := qf_V (q77_all q77_ok 127 126 (by decide) (by decide)) hM hJ rfl (by decide) (qf_3 (a := 99) rfl rfl)
theorem qf_y174 {M : q4_M} (x1 : Int32) (x2 : Int32) (hM : q52_M M) (hJ : q60_J M) : qf_R 174 [.ref 99, .int x1, .int x2] M := qf_V (q77_all q77_ok 129 128 (by decide) (by decide)) hM hJ rfl (by decide) (qf_2 (a := 99) rfl rfl)
theorem qf_y177 {M : q4_M} (x1 : Int32) (x2 : Int32) (x3 : Int32) (hM : q52_M M) (hJ : q60_J M) : qf_R 177 [.ref 99, .int x1, .int x2, .int x3] M := qf_V (q77_all q77_ok 130 129 (by decide) (by decide)) hM hJ rfl (by decide) (qf_3 (a := 99) rfl rfl)
theorem qf_y178 {M : q4_M} (x1 : Int32) (x2 : Int32) (x3 : Int32) (hM : q52_M M) (hJ : q60_J M) : qf_R 178 [.ref 99, .int x1, .int x2, .int x3] M := qf_V (q77_all q77_ok 131 130 (by decide) (by decide)) hM hJ rfl (by decide) (qf_3 (a := 99) rfl rfl)
theorem qf_y179 {M : q4_M} (x1 : Int32) (x2 : Int32) (hM : q52_M M) (hJ : q60_J M) : qf_R 179 [.ref 99, .int x1, .int x2] M := qf_V (q77_all q77_ok 135 134 (by decide) (by decide)) hM hJ rfl (by decide) (qf_2 (a := 99) rfl rfl)
theorem qf_y184 {M : q4_M} (x1 : Int32) (x2 : Int32) (x3 : Int32) (hM : q52_M M) (hJ : q60_J M) : qf_R 184 [.ref 99, .int x1, .int x2, .int x3] M := qf_V (q77_all q77_ok 136 135 (by decide) (by decide)) hM hJ rfl (by decide) (qf_3 (a := 99) rfl rfl)
theorem qf_y187 {M : q4_M} (x1 : Int32) (x2 : Int32) (x3 : Int32) (hM : q52_M M) (hJ : q60_J M) : qf_R 187 [.ref 99, .int x1, .int x2, .int x3] M := qf_V (q77_all q77_ok 138 137 (by decide) (by decide)) hM hJ rfl (by decide) (qf_3 (a := 99) rfl rfl)
theorem qf_y189 {M : q4_M} (x1 : Int32) (hM : q52_M M) (hJ : q60_J M) : qf_R 189 [.ref 99, .int x1] M := qf_V (q77_all q77_ok 140 139 (by decide) (by decide)) hM hJ rfl (by decide) (qf_1 (a := 99) rfl rfl)
theorem qf_y192 {M : q4_M} (x1 : Int32) (hM : q52_M M) (hJ : q60_J M) : qf_R 192 [.ref 99, .int x1] M := qf_V (q77_all q77_ok 158 157 (by decide) (by decide)) hM hJ rfl (by decide) (qf_1 (a := 99) rfl rfl)
theorem qf_y200 {M : q4_M} (x1 : Int32) (x2 : Int32) (hM : q52_M M) (hJ : q60_J M) : qf_R 200 [.ref 99, .int x1, .int x2] M := qf_V (q77_all q77_ok 168 167 (by decide) (by decide)) hM hJ rfl (by decide) (qf_2 (a := 99) rfl rfl)
theorem qf_y205 {M : q4_M} (x1 : Int32) (hM : q52_M M) (hJ : q60_J M) : qf_R 205 [.ref 99, .int x1] M := qf_V (q77_all q77_ok 169 168 (by decide) (by decide)) hM hJ rfl (by decide) (qf_1 (a := 99) rfl rfl)
theorem qf_y206 {M : q4_M} (x1 : Int32) (hM : q52_M M) (hJ : q60_J M) : qf_R 206 [.ref 99, .int x1] M := qf_V (q77_all q77_ok 170 169 (by decide) (by decide)) hM hJ rfl (by decide) (qf_1 (a := 99) rfl rfl)
theorem qf_y207 {M : q4_M} (hM : q52_M M) (hJ : q60_J M) : qf_R 207 [.ref 99] M := qf_V (q77_all q77_ok 172 171 (by decide) (by decide)) hM hJ rfl (by decide) (qf_0 (a := 99) rfl rfl)
theorem qf_y209 {M : q4_M} (x1 : Int32) (x2 : Int32) (hM : q52_M M) (hJ : q60_J M) : qf_R 209 [.ref 99, .int x1, .int x2] M := qf_V (q77_all q77_ok 173 172 (by decide) (by decide)) hM hJ rfl (by decide) (qf_2 (a := 99) rfl rfl)
theorem qf_y210 {M : q4_M} (hM : q52_M M) (hJ : q60_J M) : qf_R 210 [.ref 99] M := qf_V (q77_all q77_ok 175 174 (by decide) (by decide)) hM hJ rfl (by decide) (qf_0 (a := 99) rfl rfl)
theorem qf_y212 {M : q4_M} (x1 : Int32) (x2 : Int32) (hM : q52_M M) (hJ : q60_J M) : qf_R 212 [.ref 99, .int x1, .int x2] M := qf_V (q77_all q77_ok 190 189 (by decide) (by decide)) hM hJ rfl (by decide) (qf_2 (a := 99) rfl rfl)
theorem qf_y217 {M : q4_M} (x1 : Int32) (hM : q52_M M) (hJ : q60_J M) : qf_R 217 [.ref 99, .int x1] M := qf_V (q77_all q77_ok 191 190 (by decide) (by decide)) hM hJ rfl (by decide) (qf_1 (a := 99) rfl rfl)
theorem qf_y219 {M : q4_M} (hM : q52_M M) (hJ : q60_J M) : qf_R 219 [.ref 99] M := qf_V (q77_all q77_ok 192 191 (by decide) (by decide)) hM hJ rfl (by decide) (qf_0 (a := 99) rfl rfl)
theorem qf_y220 {M : q4_M} (x1 : Int32) (x2 : Int32) (x3 : Int32) (x4 : Int32) (hM : q52_M M) (hJ : q60_J M) : qf_R 220 [.ref 99, .int x1, .int x2, .int x3, .int x4] M := qf_V (q77_all q77_ok 193 192 (by decide) (by decide)) hM hJ rfl (by decide) (qf_4 (a := 99) rfl rfl)
theorem qf_y221 {M : q4_M} (x1 : Int32) (x2 : Int32) (hM : q52_M M) (hJ : q60_J M) : qf_R 221 [.ref 99, .int x1, .int x2] M := qf_V (q77_all q77_ok 195 194 (by decide) (by decide)) hM hJ rfl (by decide) (qf_2 (a := 99) rfl rfl)
theorem qf_y223 {M : q4_M} (x1 : Int32) (x2 : Int32) (hM : q52_M M) (hJ : q60_J M) : qf_R 223 [.ref 99, .int x1, .int x2] M := qf_V (q77_all q77_ok 196 195 (by decide) (by decide)) hM hJ rfl (by decide) (qf_2 (a := 99) rfl rfl)
theorem qf_y224 {M : q4_M} (x1 : Int32) (hM : q52_M M) (hJ : q60_J M) : qf_R 224 [.ref 99, .int x1] M := qf_V (q77_all q77_ok 197 196 (by decide) (by decide)) hM hJ rfl (by decide) (qf_1 (a := 99) rfl rfl)
theorem qf_y225 {M : q4_M} (x1 : Int32) (x2 : Int32) (hM : q52_M M) (hJ : q60_J M) : qf_R 225 [.ref 99, .int x1, .int x2] M := qf_V (q77_all q77_ok 198 197 (by decide) (by decide)) hM hJ rfl (by decide) (qf_2 (a := 99) rfl rfl)
theorem qf_y226 {M : q4_M} (hM : q52_M M) (hJ : q60_J M) : qf_R 226 [.ref 99] M := qf_V (q77_all q77_ok 199 198 (by decide) (by decide)) hM hJ rfl (by decide) (qf_0 (a := 99) rfl rfl)
theorem qf_y228 {M : q4_M} (hM : q52_M M) (hJ : q60_J M) : qf_R 228 [.ref 99] M := qf_V (q77_all q77_ok 200 199 (by decide) (by decide)) hM hJ rfl (by decide) (qf_0 (a := 99) rfl rfl)
theorem qf_y229 {M : q4_M} (hM : q52_M M) (hJ : q60_J M) : qf_R 229 [.ref 99] M := qf_V (q77_all q77_ok 201 200 (by decide) (by decide)) hM hJ rfl (by decide) (qf_0 (a := 99) rfl rfl)
theorem qf_y230 {M : q4_M} (hM : q52_M M) (hJ : q60_J M) : qf_R 230 [.ref 99] M := qf_V (q77_all q77_ok 202 201 (by decide) (by decide)) hM hJ rfl (by decide) (qf_0 (a := 99) rfl rfl)
theorem qf_y231 {M : q4_M} (x1 : Int32) (hM : q52_M M) (hJ : q60_J M) : qf_R 231 [.ref 99, .int x1] M := qf_V (q77_all q77_ok 203 202 (by decide) (by decide)) hM hJ rfl (by decide) (qf_1 (a := 99) rfl rfl)
theorem qf_y232 {M : q4_M} (x1 : Int32) (x2 : Int32) (hM : q52_M M) (hJ : q60_J M) : qf_R 232 [.ref 99, .int x1, .int x2] M := qf_V (q77_all q77_ok 204 203 (by decide) (by decide)) hM hJ rfl (by decide) (qf_2 (a := 99) rfl rfl)
theorem qf_y233 {M : q4_M} (hM : q52_M M) (hJ : q60_J M) : qf_R 233 [.ref 99] M := qf_V (q77_all q77_ok 205 204 (by decide) (by decide)) hM hJ rfl (by decide) (qf_0 (a := 99) rfl rfl)
theorem qf_y234 {M : q4_M} (x1 : Int32) (hM : q52_M M) (hJ : q60_J M) : qf_R 234 [.ref 99, .int x1] M := qf_V (q77_all q77_ok 206 205 (by decide) (by decide)) hM hJ rfl (by decide) (qf_1 (a := 99) rfl rfl)
theorem qf_y235 {M : q4_M} (x1 : Int32) (hM : q52_M M) (hJ : q60_J M) : qf_R 235 [.ref 99, .int x1] M := qf_V (q77_all q77_ok 207 206 (by decide) (by decide)) hM hJ rfl (by decide) (qf_1 (a := 99) rfl rfl)
theorem qf_y236 {M : q4_M} (x1 : Int32) (hM : q52_M M) (hJ : q60_J M) : qf_R 236 [.ref 99, .int x1] M := qf_V (q77_all q77_ok 208 207 (by decide) (by decide)) hM hJ rfl (by decide) (qf_1 (a := 99) rfl rfl)
theorem qf_y237 {M : q4_M} (x1 : Int32) (hM : q52_M M) (hJ : q60_J M) : qf_R 237 [.ref 99, .int x1] M := qf_V (q77_all q77_ok 209 208 (by decide) (by decide)) hM hJ rfl (by decide) (qf_1 (a := 99) rfl rfl)
theorem qf_y238 {M : q4_M} (x1 : Int32) (hM : q52_M M) (hJ : q60_J M) : qf_R 238 [.ref 99, .int x1] M := qf_V (q77_all q77_ok 210 209 (by decide) (by decide)) hM hJ rfl (by decide) (qf_1 (a := 99) rfl rfl)
theorem qf_y239 {M : q4_M} (x1 : Int32) (hM : q52_M M) (hJ : q60_J M) : qf_R 239 [.ref 99, .int x1] M := qf_V (q77_all q77_ok 211 210 (by decide) (by decide)) hM hJ rfl (by decide) (qf_1 (a := 99) rfl rfl)
theorem qf_y240 {M : q4_M} (x1 : Int32) (x2 : Int32) (x3 : Int32) (hM : q52_M M) (hJ : q60_J M) : qf_R 240 [.ref 99, .int x1, .int x2, .int x3] M := qf_V (q77_all q77_ok 212 211 (by decide) (by decide)) hM hJ rfl (by decide) (qf_3 (a := 99) rfl rfl)
theorem qf_y241 {M : q4_M} (x1 : Int32) (hM : q52_M M) (hJ : q60_J M) : qf_R 241 [.ref 99, .int x1] M := qf_V (q77_all q77_ok 213 212 (by decide) (by decide)) hM hJ rfl (by decide) (qf_1 (a := 99) rfl rfl)
theorem qf_y242 {M : q4_M} (x1 : Int32) (hM : q52_M M) (hJ : q60_J M) : qf_R 242 [.ref 99, .int x1] M := qf_V (q77_all q77_ok 214 213 (by decide) (by decide)) hM hJ rfl (by decide) (qf_1 (a := 99) rfl rfl)
theorem qf_y243 {M : q4_M} (hM : q52_M M) (hJ : q60_J M) : qf_R 243 [.ref 99] M := qf_V (q77_all q77_ok 215 214 (by decide) (by decide)) hM hJ rfl (by decide) (qf_0 (a := 99) rfl rfl)
theorem qf_y244 {M : q4_M} (x1 : Int32) (x2 : Int32) (hM : q52_M M) (hJ : q60_J M) : qf_R 244 [.ref 99, .int x1, .int x2] M := qf_V (q77_all q77_ok 216 215 (by decide) (by decide)) hM hJ rfl (by decide) (qf_2 (a := 99) rfl rfl)
theorem qf_y245 {M : q4_M} (x1 : Int32) (hM : q52_M M) (hJ : q60_J M) : qf_R 245 [.ref 99, .int x1] M := qf_V (q77_all q77_ok 217 216 (by decide) (by decide)) hM hJ rfl (by decide) (qf_1 (a := 99) rfl rfl)
theorem qf_y246 {M : q4_M} (x1 : Int32) (hM : q52_M M) (hJ : q60_J M) : qf_R 246 [.ref 99, .int x1] M := qf_V (q77_all q77_ok 218 217 (by decide) (by decide)) hM hJ rfl (by decide) (qf_1 (a := 99) rfl rfl)
theorem qf_y247 {M : q4_M} (x1 : Int32) (hM : q52_M M) (hJ : q60_J M) : qf_R 247 [.ref 99, .int x1] M := qf_V qf_v247 hM hJ rfl (by decide) (qf_1 (a := 99) rfl rfl)
theorem qf_y248 {M : q4_M} (x1 : Int32) (hM : q52_M M) (hJ : q60_J M) : qf_R 248 [.ref 99, .int x1] M := by
  by_cases h1 : x1.toInt ≤ -1
  · exact qf_V (q77_all q77_ok 219 218 (by decide) (by decide)) hM hJ rfl (by decide) (qf_1r (a := 99) (lo := -2147483648) (hi := -1) ⟨(q53_r32 x1).1, h1⟩ rfl rfl)
  by_cases h2 : x1.toInt ≤ 3
  · exact qf_V (q77_all q77_ok 220 219 (by decide) (by decide)) hM hJ rfl (by decide) (qf_1r (a := 99) (lo := 0) (hi := 3) ⟨by omega, h2⟩ rfl rfl)
  · exact qf_V (q77_all q77_ok 221 220 (by decide) (by decide)) hM hJ rfl (by decide) (qf_1r (a := 99) (lo := 4) (hi := 2147483647) ⟨by omega, (q53_r32 x1).2⟩ rfl rfl)
theorem qf_y249 {M : q4_M} (hM : q52_M M) (hJ : q60_J M) : qf_R 249 [.ref 99] M := qf_V qf_v249 hM hJ rfl (by decide) (qf_0 (a := 99) rfl rfl)
theorem qf_y250 {M : q4_M} (x1 : Int32) (x2 : Int32) (x3 : Int32) (hM : q52_M M) (hJ : q60_J M) : qf_R 250 [.ref 99, .int x1, .int x2, .int x3] M := qf_V (q77_all q77_ok 222 221 (by decide) (by decide)) hM hJ rfl (by decide) (qf_3 (a := 99) rfl rfl)
theorem qf_y251 {M : q4_M} (x1 : Int32) (hM : q52_M M) (hJ : q60_J M) : qf_R 251 [.ref 99, .int x1] M := qf_V (q77_all q77_ok 223 222 (by decide) (by decide)) hM hJ rfl (by decide) (qf_1 (a := 99) rfl rfl)
