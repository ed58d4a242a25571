/-! the contracts are checked -/
theorem q70_t16 : (List.range 42).all (fun j => q70_ok (j + 128)) = true := by decide +kernel
theorem q70_t17 : (List.range 1).all (fun j => q70_ok (j + 170)) = true := by decide +kernel
theorem q70_t18 : (List.range 13).all (fun j => q70_ok (j + 171)) = true := by decide +kernel
theorem q70_t19 : (List.range 1).all (fun j => q70_ok (j + 184)) = true := by decide +kernel
