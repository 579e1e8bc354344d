set_option maxRecDepth 100000 in
theorem fin_x2_2 : ∀ b, b < 1001 → (FP.dadd 0 (FP.dmul 4618441417868443648 (FP.ddiv (FP.i2d (nI (b))) 4652016104934211584))).toNat ≤ (4618441417868443648 : UInt64).toNat := by decide +kernel
set_option maxRecDepth 100000 in
theorem fin_x2_3 : ∀ b, b < 1001 → (FP.dadd 0 (FP.dmul 4620130267728707584 (FP.ddiv (FP.i2d (nI (b))) 4652016104934211584))).toNat ≤ (4620130267728707584 : UInt64).toNat := by decide +kernel
