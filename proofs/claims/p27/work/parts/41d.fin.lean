set_option maxRecDepth 100000 in
theorem fin_x2_0 : ∀ b, b < 1001 → (FP.dadd 0 (FP.dmul 4613937818241073152 (FP.ddiv (FP.i2d (nI (b))) 4652016104934211584))).toNat ≤ (4613937818241073152 : UInt64).toNat := by decide +kernel
set_option maxRecDepth 100000 in
theorem fin_x2_1 : ∀ b, b < 1001 → (FP.dadd 0 (FP.dmul 4616752568008179712 (FP.ddiv (FP.i2d (nI (b))) 4652016104934211584))).toNat ≤ (4616752568008179712 : UInt64).toNat := by decide +kernel
