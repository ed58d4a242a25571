/-! the contracts are checked -/
theorem q70_t0 : (List.range 28).all (fun j => q70_ok (j + 0)) = true := by decide +kernel
theorem q70_t1 : (List.range 21).all (fun j => q70_ok (j + 28)) = true := by decide +kernel
theorem q70_t2 : (List.range 38).all (fun j => q70_ok (j + 49)) = true := by decide +kernel
