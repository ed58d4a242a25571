theorem q3_k4 : (List.range 16).all (fun k => bif Nat.beq (k + 64) 0 then true else q3_ckr (k + 64) 0 320) = true := by decide +kernel
theorem q3_k5 : (List.range 16).all (fun k => bif Nat.beq (k + 80) 0 then true else q3_ckr (k + 80) 0 320) = true := by decide +kernel
theorem q3_k6 : (List.range 16).all (fun k => bif Nat.beq (k + 96) 0 then true else q3_ckr (k + 96) 0 320) = true := by decide +kernel
theorem q3_k7 : (List.range 16).all (fun k => bif Nat.beq (k + 112) 0 then true else q3_ckr (k + 112) 0 320) = true := by decide +kernel
