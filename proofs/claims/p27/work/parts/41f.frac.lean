/-! products with a fraction, fractions, as magnitudes -/
theorem fx_u1 : FP.Core.unitsOf FP.Core.b64 4607182418800017408 = 2 ^ 1074 := by decide +kernel
theorem fx_mul_le {a b : UInt64} (ha : fx_B 2047 a) (hr : b.toNat % 2 ^ 63 ≤ 4607182418800017408) : (FP.dmul a b).toNat % 2 ^ 63 ≤ a.toNat % 2 ^ 63 := by
  have hb : fx_B 2047 b := Nat.lt_of_le_of_lt hr (by decide)
  obtain ⟨s, c, q, h1, h2⟩ := fx_fin (fx_B_fin ha (Nat.le_refl _))
  obtain ⟨t, d, r, h3, h4⟩ := fx_fin (fx_B_fin hb (Nat.le_refl _))
  have hq : FP.Core.b64.qmin = -1074 := FP.Core.qmin_b64
  have za : FP.Core.zmag FP.Core.b64 (.fin s c q) = FP.Core.unitsOf FP.Core.b64 (a.toNat % 2 ^ 63) := by
    rw [← h1]; exact FP.Core.zmag_bits (fx_B_n ha (Nat.le_refl _))
  have zb : FP.Core.zmag FP.Core.b64 (.fin t d r) = FP.Core.unitsOf FP.Core.b64 (b.toNat % 2 ^ 63) := by
    rw [← h3]; exact FP.Core.zmag_bits (fx_B_n hb (Nat.le_refl _))
  have lb : FP.Core.zmag FP.Core.b64 (.fin t d r) ≤ 2 ^ 1074 := by
    rw [zb, ← fx_u1]; exact FP.Core.unitsOf_le_iff.mpr hr
  obtain ⟨p1, p2, p3⟩ := FP.Core.product_units h2 h4
  have hdv : FP.Core.decode FP.Core.b64 (FP.dmul a b).toNat = FP.Core.roundRatio FP.Core.b64 (s != t) (c * d) 1 (q + r) := by
    show FP.Core.val64 (FP.dmul a b) = _
    rw [show FP.Core.val64 (FP.dmul a b) = _ from FP.Core.val64_dmul a b, h1, h3, p1]
    rfl
  have := FP.Core.mag_le FP.Core.good_b64 hdv (by decide) (e0 := 2 * FP.Core.b64.qmin) (m := a.toNat % 2 ^ 63) (by rw [hq]; omega) p2 (by
    rw [p3, za, Nat.mul_one, hq, show (-1074 - 2 * -1074 : Int).toNat = 1074 by decide]
    exact Nat.mul_le_mul_left _ lb)
  rw [FP.Core.mag_toNat64] at this
  exact this
theorem fx_div_le {a b : UInt64} (ha : fx_B 2047 a) (hb : fx_B 2047 b) (hb2 : ¬ FP.Core.DZero b) (h : a.toNat % 2 ^ 63 ≤ b.toNat % 2 ^ 63) : (FP.ddiv a b).toNat % 2 ^ 63 ≤ 4607182418800017408 := by
  obtain ⟨s, c, q, h1, h2⟩ := fx_fin (fx_B_fin ha (Nat.le_refl _))
  obtain ⟨t, d, r, h3, h4⟩ := fx_fin (fx_B_fin hb (Nat.le_refl _))
  have hq : FP.Core.b64.qmin = -1074 := FP.Core.qmin_b64
  have za : FP.Core.zmag FP.Core.b64 (.fin s c q) = FP.Core.unitsOf FP.Core.b64 (a.toNat % 2 ^ 63) := by
    rw [← h1]; exact FP.Core.zmag_bits (fx_B_n ha (Nat.le_refl _))
  have zb : FP.Core.zmag FP.Core.b64 (.fin t d r) = FP.Core.unitsOf FP.Core.b64 (b.toNat % 2 ^ 63) := by
    rw [← h3]; exact FP.Core.zmag_bits (fx_B_n hb (Nat.le_refl _))
  have lab : FP.Core.zmag FP.Core.b64 (.fin s c q) ≤ FP.Core.zmag FP.Core.b64 (.fin t d r) := by
    rw [za, zb]; exact FP.Core.unitsOf_le_iff.mpr h
  have hd0 : d ≠ 0 := fun hd => hb2 ⟨t, r, hd ▸ h3⟩
  have hdv : FP.Core.decode FP.Core.b64 (FP.ddiv a b).toNat = FP.Core.roundRatio FP.Core.b64 (s != t) c d (q - r) := by
    show FP.Core.val64 (FP.ddiv a b) = _
    rw [show FP.Core.val64 (FP.ddiv a b) = _ from FP.Core.val64_ddiv a b, h1, h3]
    simp only [FP.Core.quotient, if_neg hd0]
  have q1 := h2.2.1
  have q2 := h4.2.1
  rw [hq] at q1 q2
  have e1 : FP.Core.inUnits c (q - r) (2 * FP.Core.b64.qmin - r) = FP.Core.zmag FP.Core.b64 (.fin s c q) * 2 ^ 1074 := by
    show c * _ = c * _ * _
    rw [Nat.mul_assoc, ← Nat.pow_add, hq]; congr 2; omega
  have e2 : 2 ^ (FP.Core.b64.qmin - (2 * FP.Core.b64.qmin - r)).toNat * d = FP.Core.zmag FP.Core.b64 (.fin t d r) := by
    show _ = d * _
    rw [Nat.mul_comm, hq]; congr 2; omega
  have := FP.Core.mag_le FP.Core.good_b64 hdv (by omega) (e0 := 2 * FP.Core.b64.qmin - r) (m := 4607182418800017408) (by rw [hq]; omega) (by rw [hq]; omega) (by
    rw [e1, Nat.mul_assoc, e2, fx_u1, Nat.mul_comm]
    exact Nat.mul_le_mul_left _ lab)
  rw [FP.Core.mag_toNat64] at this
  exact this
/-- a whole number over a greater one -/
theorem fx_frac {k N : Nat} {d : UInt64} (hd : fx_G 1074 (N : Int) d) (h0 : 0 < N) (hk : k ≤ N) (hN : N ≤ 2000) : (FP.ddiv (FP.i2d (nI k)) d).toNat % 2 ^ 63 ≤ 4607182418800017408 ∧ fx_p (FP.ddiv (FP.i2d (nI k)) d) := by
  have hi := fx_i2d (nI k)
  rw [nI_toInt (by omega)] at hi
  have iB : fx_B 1035 (FP.i2d (nI k)) := fx_G_B hi (m := 11) (by omega) (by omega) (by omega)
  have dB : fx_B 1035 d := fx_G_B hd (m := 11) (by omega) (by omega) (by omega)
  have hle := fx_div_le (fx_B_mono iB (by omega)) (fx_B_mono dB (by omega)) (fx_nz_k ((fx_G_k hd).1.mpr (by omega))) (by
    refine (FP.Core.unitsOf_le_iff (f := FP.Core.b64)).mp ?_
    rw [fx_G_mag hi, fx_G_mag hd]
    exact Nat.mul_le_mul_right _ (by omega))
  have hB : fx_B 1024 (FP.ddiv (FP.i2d (nI k)) d) := Nat.lt_of_le_of_lt hle (by decide)
  exact ⟨hle, fx_p_div (fx_G_p hi (by omega)) (fx_G_p hd (by omega)) (fx_G_n hi) (fx_G_n hd) (fx_B_n hB (by omega))⟩
theorem fx_c999 : fx_G 1074 (999 : Nat) 4651998512748167168 ∧ fx_G 1074 (1001 : Nat) 4652016104934211584 := ⟨⟨999 * 2 ^ 43, -43, by decide +kernel, by decide +kernel⟩, ⟨1001 * 2 ^ 43, -43, by decide +kernel, by decide +kernel⟩⟩
theorem fx_fr1 {b : Nat} (hb : b < 997) : (FP.ddiv (FP.i2d (nI (1 + b))) 4651998512748167168).toNat % 2 ^ 63 ≤ 4607182418800017408 ∧ fx_p (FP.ddiv (FP.i2d (nI (1 + b))) 4651998512748167168) := fx_frac fx_c999.1 (by decide) (by omega) (by decide)
theorem fx_fr2 {b : Nat} (hb : b < 1001) : (FP.ddiv (FP.i2d (nI b)) 4652016104934211584).toNat % 2 ^ 63 ≤ 4607182418800017408 ∧ fx_p (FP.ddiv (FP.i2d (nI b)) 4652016104934211584) := fx_frac fx_c999.2 (by decide) (by omega) (by decide)
theorem fin_d1 {b : Nat} (hb : b < 997) : (FP.ddiv (FP.i2d (nI (1 + b))) 4651998512748167168).toNat < 1025 * 2 ^ 52 := by
  obtain ⟨h1, h2⟩ := fx_fr1 hb
  unfold fx_p at h2
  omega
theorem fin_d2 {b : Nat} (hb : b < 1001) : (FP.ddiv (FP.i2d (nI b)) 4652016104934211584).toNat < 1025 * 2 ^ 52 := by
  obtain ⟨h1, h2⟩ := fx_fr2 hb
  unfold fx_p at h2
  omega
set_option maxRecDepth 100000 in
theorem fin_c : ∀ i, i < 4 → FP.dsub (s_gx (i + 2)) 0 = s_gx (i + 2) := by decide +kernel
/-- a fraction of a place, from 0 on -/
theorem x_le {C r : UInt64} (hC : fx_B 1026 C) (pC : fx_p C) (hr : r.toNat % 2 ^ 63 ≤ 4607182418800017408) (pr : fx_p r) : fx_p (FP.dadd 0 (FP.dmul C r)) ∧ fx_k (FP.dadd 0 (FP.dmul C r)) ≤ fx_k C := by
  have rB : fx_B 1024 r := Nat.lt_of_le_of_lt hr (by decide)
  have hm := fx_mul_le (fx_B_mono hC (by omega)) hr
  have mB : fx_B 1026 (FP.dmul C r) := Nat.lt_of_le_of_lt hm hC
  have nC := fx_B_n hC (by omega)
  have nm := fx_B_n mB (by omega)
  have pm := fx_p_mul pC pr nC (fx_B_n rB (by omega)) nm
  have p0 : fx_p 0 := by unfold fx_p; decide
  have b0 : fx_B 1 0 := by unfold fx_B; decide
  have nx := fx_n_add p0 pm fx_n0 nm
  have hz := fx_zadd_le (fx_B_fin b0 (by omega)) (fx_B_fin mB (by omega)) nm (by rw [show fx_z 0 = 0 by decide +kernel]; omega)
  have hk := (fx_zkle nx nm).mp hz
  refine ⟨fx_p_add p0 pm fx_n0 nm, Int.le_trans hk ?_⟩
  rw [fx_k_pos pm, fx_k_pos pC]
  unfold fx_p at pm pC
  rw [Nat.mod_eq_of_lt pm, Nat.mod_eq_of_lt pC] at hm
  exact Int.ofNat_le.mpr hm

