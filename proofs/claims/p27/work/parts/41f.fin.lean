set_option maxRecDepth 100000 in
theorem fin_d : ∀ b, b < 1001 → (FP.ddiv (FP.i2d (nI (1 + b))) 4651998512748167168).toNat < 1025 * 2 ^ 52 ∧ (FP.ddiv (FP.i2d (nI b)) 4652016104934211584).toNat < 1025 * 2 ^ 52 := by decide +kernel

set_option maxRecDepth 100000 in
theorem fin_c : (s_gx 2 = 4613937818241073152 ∧ FP.dsub 4613937818241073152 0 = 4613937818241073152) ∧ (s_gx 3 = 4616752568008179712 ∧ FP.dsub 4616752568008179712 0 = 4616752568008179712) ∧ (s_gx 4 = 4618441417868443648 ∧ FP.dsub 4618441417868443648 0 = 4618441417868443648) ∧ (s_gx 5 = 4620130267728707584 ∧ FP.dsub 4620130267728707584 0 = 4620130267728707584) := by decide +kernel
theorem fin_x1 : ∀ i, i < 4 → ∀ b, b < 997 → (FP.dadd 0 (FP.dmul (FP.dsub (s_gx (i + 2)) 0) (FP.ddiv (FP.i2d (nI (1 + b))) 4651998512748167168))).toNat ≤ (s_gx (i + 2)).toNat := by
  intro i hi b hb
  obtain ⟨⟨c0, d0⟩, ⟨c1, d1⟩, ⟨c2, d2⟩, c3, d3⟩ := fin_c
  have h : i = 0 ∨ i = 1 ∨ i = 2 ∨ i = 3 := by omega
  rcases h with rfl | rfl | rfl | rfl
  · rw [show 0 + 2 = 2 from rfl, c0, d0]; exact fin_x1_0 b hb
  · rw [show 1 + 2 = 3 from rfl, c1, d1]; exact fin_x1_1 b hb
  · rw [show 2 + 2 = 4 from rfl, c2, d2]; exact fin_x1_2 b hb
  · rw [show 3 + 2 = 5 from rfl, c3, d3]; exact fin_x1_3 b hb
theorem fin_x2 : ∀ i, i < 4 → ∀ b, b < 1001 → (FP.dadd 0 (FP.dmul (FP.dsub (s_gx (i + 2)) 0) (FP.ddiv (FP.i2d (nI (b))) 4652016104934211584))).toNat ≤ (s_gx (i + 2)).toNat := by
  intro i hi b hb
  obtain ⟨⟨c0, d0⟩, ⟨c1, d1⟩, ⟨c2, d2⟩, c3, d3⟩ := fin_c
  have h : i = 0 ∨ i = 1 ∨ i = 2 ∨ i = 3 := by omega
  rcases h with rfl | rfl | rfl | rfl
  · rw [show 0 + 2 = 2 from rfl, c0, d0]; exact fin_x2_0 b hb
  · rw [show 1 + 2 = 3 from rfl, c1, d1]; exact fin_x2_1 b hb
  · rw [show 2 + 2 = 4 from rfl, c2, d2]; exact fin_x2_2 b hb
  · rw [show 3 + 2 = 5 from rfl, c3, d3]; exact fin_x2_3 b hb
