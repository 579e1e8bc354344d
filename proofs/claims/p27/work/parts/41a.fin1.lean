set_option maxRecDepth 100000 in
theorem fin_y : ∀ q, q < 41 → sp_ge (FP.i2d (nI q - 20)) 13920209183539462144 ∧ sp_le (FP.i2d (nI q - 20)) 4696837146684686336 := by decide +kernel

set_option maxRecDepth 100000 in
theorem fin_w : ∀ q, q < 5 → sp_ge (FP.i2d (nI (1 + q))) 4562254508917369340 ∧ sp_le (FP.i2d (nI (1 + q))) 4652007308841189376 := by decide +kernel

set_option maxRecDepth 100000 in
theorem fin_p : ∀ k, k < 6 → (sp_ge (s_gx k) 13920209183539462144 ∧ sp_le (s_gx k) 4696837146684686336) ∧ ∀ j, j < k → sp_lt (s_gx j) (s_gx k) ∧ ¬ sp_lt (s_mg (FP.dsub (s_gx j) (s_gx k))) 4562254508917369340 := by decide +kernel

set_option maxRecDepth 100000 in
theorem fin_g : s_gx 0 = 0 ∧ ∀ i, i < 4 → (s_gx (i + 2)).toNat < 1026 * 2 ^ 52 := by decide +kernel

set_option maxRecDepth 100000 in
theorem fin_t : ∀ b, b < 500 → s_st (FP.ddiv (FP.i2d (nI b)) 4621256167635550208) = FP.ddiv (FP.i2d (nI b)) 4621256167635550208 ∧ (FP.ddiv (FP.i2d (nI b)) 4621256167635550208).toNat ≤ 4696837146684686336 := by decide +kernel

set_option maxRecDepth 100000 in
theorem fin_f : ∀ b, b < 101 → (FP.ddiv (FP.i2d (nI b)) 4636737291354636288).toNat < 1024 * 2 ^ 52 := by decide +kernel

