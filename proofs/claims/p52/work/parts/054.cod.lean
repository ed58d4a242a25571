theorem q3_k12 : (List.range 16).all (fun k => bif Nat.beq (k + 192) 0 then true else q3_ckr (k + 192) 0 320) = true := by decide +kernel
theorem q3_k13 : (List.range 16).all (fun k => bif Nat.beq (k + 208) 0 then true else q3_ckr (k + 208) 0 320) = true := by decide +kernel
theorem q3_k14 : (List.range 16).all (fun k => bif Nat.beq (k + 224) 0 then true else q3_ckr (k + 224) 0 320) = true := by decide +kernel
theorem q3_k15 : (List.range 12).all (fun k => bif Nat.beq (k + 240) 0 then true else q3_ckr (k + 240) 0 320) = true := by decide +kernel
