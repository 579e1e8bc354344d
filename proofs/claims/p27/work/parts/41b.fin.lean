set_option maxRecDepth 100000 in
theorem fin_x1_0 : ∀ b, b < 997 → (FP.dadd 0 (FP.dmul 4613937818241073152 (FP.ddiv (FP.i2d (nI (1 + b))) 4651998512748167168))).toNat ≤ (4613937818241073152 : UInt64).toNat := by decide +kernel
set_option maxRecDepth 100000 in
theorem fin_x1_1 : ∀ b, b < 997 → (FP.dadd 0 (FP.dmul 4616752568008179712 (FP.ddiv (FP.i2d (nI (1 + b))) 4651998512748167168))).toNat ≤ (4616752568008179712 : UInt64).toNat := by decide +kernel
