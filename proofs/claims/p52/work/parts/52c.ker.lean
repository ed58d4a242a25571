/-! the contracts are checked -/
theorem q70_t7 : (List.range 4).all (fun j => q70_ok (j + 104)) = true := by decide +kernel
theorem q70_t8 : (List.range 4).all (fun j => q70_ok (j + 108)) = true := by decide +kernel
theorem q70_t9 : (List.range 2).all (fun j => q70_ok (j + 112)) = true := by decide +kernel
theorem q70_t10 : (List.range 2).all (fun j => q70_ok (j + 114)) = true := by decide +kernel
