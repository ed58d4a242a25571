/-! BITS OVER ALL TWO -/
/-- some of them -/
def qs_any (f : Nat → Bool) (t : Nat) : Bool := qw_f (fun i a => a || f i) t false
theorem qs_anyx {f g : Nat → Bool} {t : Nat} (h : ∀ i, i < t → f i = g i) : qs_any f t = qs_any g t := qw_fx (fun k x hk => by rw [h k hk])
section QG
variable {n t : Nat} {x s : Nat → Nat} {T : Nat → Nat → Nat} {o b : Nat → Nat} {σ τ : qa_S} {N : Nat}
end QG
