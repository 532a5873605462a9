-- steps: next
theorem bits_try : (List.range 256).all (fun n => loopN f11_sizeOf_l4 18 (0, nI n) == fJ6_bitCount_0f7a4 (nI n)) = true := by decide +kernel
