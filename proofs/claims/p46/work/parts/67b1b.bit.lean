/-! BITS -/
def qs_ct (p : Nat → Bool) (n : Nat) : Nat := qw_f (fun k a => if p k then a + 1 else a) n 0