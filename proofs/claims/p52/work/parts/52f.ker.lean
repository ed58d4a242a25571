/-! the contracts are checked -/
theorem q70_t15 : (List.range 1).all (fun j => q70_ok (j + 127)) = true := by decide +kernel
