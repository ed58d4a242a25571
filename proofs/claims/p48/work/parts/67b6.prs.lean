/-! PAIRS OF CASKS; nearest, exact, rank, loner -/
/-- all two of n, the first's first -/
def qs_pf {A : Type} (n : Nat) (F : Nat → Nat → A → A) (a : A) : A := qw_f (fun i x => qw_f (fun j y => F i (i + 1 + j) y) (n - (i + 1)) x) n a
def qs_pi (n k : Nat) : Nat × Nat := (((List.range n).flatMap (fun i => (List.range (n - (i + 1))).map (fun j => (i, i + 1 + j))))[k]?).getD (0, 0)
theorem qs_pfk {A : Type} (F : Nat → Nat → A → A) (a : A) : ∀ n, n ≤ 7 → qs_pf n F a = qw_f (fun k x => F (qs_pi n k).1 (qs_pi n k).2 x) (n * (n - 1) / 2) a
  | 0, _ => rfl
  | 1, _ => rfl
  | 2, _ => rfl
  | 3, _ => rfl
  | 4, _ => rfl
  | 5, _ => rfl
  | 6, _ => rfl
  | 7, _ => rfl
  | n + 8, h => by omega
theorem qs_pil : ∀ n, n ≤ 7 → ∀ k, k < n * (n - 1) / 2 → (qs_pi n k).1 < (qs_pi n k).2 ∧ (qs_pi n k).2 < n := by
  have h : ∀ n, n < 8 → ∀ k, k < 21 → k < n * (n - 1) / 2 → (qs_pi n k).1 < (qs_pi n k).2 ∧ (qs_pi n k).2 < n := by decide +kernel
  intro n hn k hk
  have e : ∀ n, n < 8 → n * (n - 1) / 2 ≤ 21 := by decide
  exact h n (by omega) k (by have := e n (by omega); omega) hk
/-- a loop over all two -/
theorem qw_pr {A R : Type} {enc : A → R} {so : Int32 × R → (Int32 × R) ⊕ (Int32 × R)} {si : Nat → Int32 × R → (Int32 × R) ⊕ (Int32 × R)} {e1 e2 : Int32 × R → Int32 × R} (F : Nat → Nat → A → A) (n : Nat) {N : Nat} (hn : n ≤ 7) (hN : 10 ≤ N) (ho : ∀ i x, i < n → so (nI i, x) = .inl (nI (i + 1), (qa_wh e2 (si i) N (nI i + 1, x)).2)) (hoe : ∀ x, so (nI n, x) = .inr (nI n, x)) (hi : ∀ i j a, i < j → j < n → si i (nI j, enc a) = .inl (nI (j + 1), enc (F i j a))) (hie : ∀ i x, si i (nI n, x) = .inr (nI n, x)) (a : A) : qa_wh e1 so N (0, enc a) = (nI n, enc (qs_pf n F a)) := by
  refine qw_lp (fun k a => (nI k, enc a)) (fun a => (nI n, enc a)) (fun i x => qw_f (fun j y => F i (i + 1 + j) y) (n - (i + 1)) x) n a (by omega) (fun i x hi1 => ?_) (fun x => hoe _)
  rw [ho i _ hi1, qb_s]
  have h := qw_lp (e := e2) (step := si i) (N := N) (fun j y => (nI (i + 1 + j), enc y)) (fun y => (nI n, enc y)) (fun j y => F i (i + 1 + j) y) (n - (i + 1)) x (by omega) (fun j y hj => by rw [hi i (i + 1 + j) y (by omega) (by omega)]; rfl) (fun y => by rw [show i + 1 + (n - (i + 1)) = n by omega]; exact hie i _)
  rw [h]
section Q6
variable {n t : Nat} {s : Nat → Nat} {T : Nat → Nat → Nat} {o b : Nat → Nat} {σ τ : qa_S} {N : Nat}
theorem qw_tn {a c : Nat} : (10 : Int32) * nI a + nI c = nI (10 * a + c) := by rw [show (10 : Int32) * nI a = nI (10 * a) from qw_mul (a := 10), qw_add]
/-! exact -/
/-! rank -/
end Q6
