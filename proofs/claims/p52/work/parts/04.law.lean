/-! the printed code, by pieces (one after another: memory) -/
def q3_ckr (k a n : Nat) : Bool := (List.range n).all fun j => q3_ck k (a + j)
theorem q3_l0 : q3_ckr 0 0 112 = true := by decide +kernel
theorem q3_l1 : q3_ckr 0 112 112 = true := by decide +kernel
theorem q3_l2 : q3_ckr 0 224 112 = true := by decide +kernel
theorem q3_l3 : q3_ckr 0 336 112 = true := by decide +kernel
theorem q3_l4 : q3_ckr 0 448 112 = true := by decide +kernel
theorem q3_l5 : q3_ckr 0 560 112 = true := by decide +kernel
theorem q3_l6 : q3_ckr 0 672 112 = true := by decide +kernel
theorem q3_l7 : q3_ckr 0 784 112 = true := by decide +kernel
theorem q3_l8 : q3_ckr 0 896 112 = true := by decide +kernel
theorem q3_l9 : q3_ckr 0 1008 112 = true := by decide +kernel
theorem q3_l10 : q3_ckr 0 1120 112 = true := by decide +kernel
theorem q3_l11 : q3_ckr 0 1232 112 = true := by decide +kernel
theorem q3_l12 : q3_ckr 0 1344 112 = true := by decide +kernel
theorem q3_l13 : q3_ckr 0 1456 112 = true := by decide +kernel
theorem q3_l14 : q3_ckr 0 1568 112 = true := by decide +kernel
theorem q3_l15 : q3_ckr 0 1680 112 = true := by decide +kernel
