set_option maxRecDepth 100000 in
theorem fin_x1_2 : ∀ b, b < 997 → (FP.dadd 0 (FP.dmul 4618441417868443648 (FP.ddiv (FP.i2d (nI (1 + b))) 4651998512748167168))).toNat ≤ (4618441417868443648 : UInt64).toNat := by decide +kernel
set_option maxRecDepth 100000 in
theorem fin_x1_3 : ∀ b, b < 997 → (FP.dadd 0 (FP.dmul 4620130267728707584 (FP.ddiv (FP.i2d (nI (1 + b))) 4651998512748167168))).toNat ≤ (4620130267728707584 : UInt64).toNat := by decide +kernel
