/-! the bits of a number, taken by scaling -/
def mS (j : Nat) : Int32 := Int32.ofInt (-(j : Int))
theorem mS_toInt {j : Nat} (h : j < 2 ^ 31) : (mS j).toInt = -(j : Int) := Int32.toInt_ofInt_of_le (by omega) (by omega)
theorem mS_0 : mS 0 = 0 := by decide +kernel
theorem mS_sub {j : Nat} (k : Nat) (h : j < 2000) (hk : k < 2000) : mS j - nI k = mS (j + k) := by
  refine Int32.toInt_inj.mp ?_
  rw [Int32.toInt_sub, mS_toInt (by omega), mS_toInt (by omega), nI_toInt (by omega), Int.bmod_eq_of_le] <;> omega
theorem mS_add {j k : Nat} (h : j ≤ k) (hk : k < 2000) : mS j + nI k = nI (k - j) := by
  refine Int32.toInt_inj.mp ?_
  rw [Int32.toInt_add, mS_toInt (by omega), nI_toInt (by omega), nI_toInt (by omega), Int.bmod_eq_of_le] <;> omega
theorem mS_lt {j k : Nat} (hj : j < 2000) (hk : k < 2000) : mS j < mS k ↔ k < j := by
  rw [Int32.lt_iff_toInt_lt, mS_toInt (by omega), mS_toInt (by omega)]; omega
theorem mS_le {j k : Nat} (hj : j < 2000) (hk : k < 2000) : mS j ≤ mS k ↔ k ≤ j := by
  rw [Int32.le_iff_toInt_le, mS_toInt (by omega), mS_toInt (by omega)]; omega
theorem mS_1058 : (-1058 : Int32) = mS 1058 := by decide +kernel
theorem mS_1074 : (-1074 : Int32) = mS 1074 := by decide +kernel
theorem fx_zlt {a b : UInt64} (ha : fx_n a) (hb : fx_n b) : sp_lt a b ↔ fx_z a < fx_z b := by rw [fx_zk ha hb]; exact fx_lt ha hb
theorem bz_lt {E K c : Nat} {d k : UInt64} (hd : fx_G E (c : Int) d) (hk : fx_G (K + 1074) 1 k) : sp_lt d k ↔ c * 2 ^ E < 2 ^ (K + 1074) := by
  rw [fx_zlt (fx_G_n hd) (fx_G_n hk), fx_G_z hd, fx_G_z hk, ← Int.natCast_mul]
  omega
theorem bz_36 : fx_G (36 + 1074) 1 4769312005385355264 := ⟨2 ^ 52, -16, by decide +kernel, by decide +kernel⟩
theorem bz_52 : fx_G (52 + 1074) 1 4841369599423283200 := ⟨2 ^ 52, 0, by decide +kernel, by decide +kernel⟩
theorem bz_16 : fx_G (16 + 1074) 1 4679240012837945344 := ⟨2 ^ 52, -36, by decide +kernel, by decide +kernel⟩
theorem bz_1 : fx_G (1 + 1074) 1 4611686018427387904 := ⟨2 ^ 52, -51, by decide +kernel, by decide +kernel⟩
theorem bz_mul {E k c : Nat} {d f : UInt64} (hd : fx_G E (c : Int) d) (hf : fx_G (k + 1074) 1 f) (hc : c < 2 ^ 53) (hE : E + k ≤ 1900) : fx_G (E + k) (c : Int) (FP.dmul d f) := by
  have := fx_G_mul (E := E + k) hd hf (by omega) hE (by rw [Int.mul_one]; omega) ⟨by omega, by omega⟩
  rw [Int.mul_one] at this; exact this
/-- the number's magnitude on a grid of its own -/
theorem bz_0 {x : UInt64} (hB : fx_B 1075 x) (hz : ¬ fx_k x = 0) : ∃ e c : Nat, fx_G e (c : Int) (s_mg x) ∧ 0 < c ∧ c < 2 ^ 53 ∧ c * 2 ^ e = FP.Core.unitsOf FP.Core.b64 (x.toNat % 2 ^ 63) ∧ c * 2 ^ e < 2 ^ 1126 := by
  have hn := fx_B_n hB (by omega)
  have hk := s_mg_k hn
  have hmod : (s_mg x).toNat % 2 ^ 63 = x.toNat % 2 ^ 63 := by
    have a1 := fx_k_abs x
    have a2 := fx_k_abs (s_mg x)
    rw [hk] at a2
    split at a2 <;> omega
  have hB2 : fx_B 1075 (s_mg x) := by unfold fx_B at hB ⊢; rw [hmod]; exact hB
  have hpos : 0 < fx_k (s_mg x) := by rw [hk]; split <;> omega
  have hp : fx_p (s_mg x) := by
    by_cases h : fx_p (s_mg x)
    · exact h
    · have := (s_mg x).toNat_lt
      rw [fx_k_neg h] at hpos; unfold fx_p at h; omega
  obtain ⟨s, c, q, h1, h2⟩ := fx_fin (fx_B_fin hB2 (by omega))
  have hs : s = false := by
    have := (fx_sg (fx_B_n hB2 (by omega))).mpr hp
    rw [h1] at this; exact this
  have hq : FP.Core.b64.qmin = -1074 := FP.Core.qmin_b64
  have hG : fx_G (q + 1074).toNat (c : Int) (s_mg x) := ⟨c, q, by rw [h1, hs, decide_eq_false (by omega)], by
    unfold FP.Core.inUnits; rw [hq, Int.natAbs_natCast]; rfl⟩
  have hu := fx_G_mag hG
  rw [hmod, Int.natAbs_natCast] at hu
  have hlt := (FP.Core.units_lt_start (f := FP.Core.b64) (m := x.toNat % 2 ^ 63) (K := 1075) (by rw [FP.Core.tails_b64]; exact hB)).2
  rw [FP.Core.tails_b64] at hlt
  refine ⟨(q + 1074).toNat, c, hG, ?_, h2.1, hu.symm, ?_⟩
  · by_cases hc : c = 0
    · subst hc
      have h3 := fx_G_z hG
      have h4 : fx_z (s_mg x) = 0 := by rw [h3]; simp
      have h5 := fx_zkeq (fx_B_n hB2 (by omega)) fx_n0
      rw [h4, show fx_z 0 = 0 by decide +kernel, fx_k0] at h5
      have := h5.mp rfl
      omega
    · omega
  · rw [← hu]
    calc _ < 2 ^ 52 * 2 ^ (1075 - 1) := hlt
      _ = 2 ^ 1126 := by rw [← Nat.pow_add]
theorem bz_d2l {E c : Nat} {d : UInt64} (hd : fx_G E (c : Int) d) (h : c * 2 ^ E < 2 ^ 1127) : (FP.d2l d).toInt = ((c * 2 ^ E / 2 ^ 1074 : Nat) : Int) := by
  have h1 := FP.Core.d2l_val (fx_G_n hd)
  have hs : FP.Core.sgn (FP.Core.val64 d) = false := by rw [fx_G_sgn hd, decide_eq_false (by omega)]
  have hm : FP.Core.zmag FP.Core.b64 (FP.Core.val64 d) = c * 2 ^ E := by
    rw [FP.Core.zmag_bits (fx_G_n hd), fx_G_mag hd, Int.natAbs_natCast]
  rw [hs, hm] at h1
  have h2 : c * 2 ^ E / FP.Core.one64 < 2 ^ 53 := by
    unfold FP.Core.one64
    rw [Nat.div_lt_iff_lt_mul (Nat.two_pow_pos _), ← Nat.pow_add]
    exact h
  have h3 : FP.Core.one64 = 2 ^ 1074 := rfl
  rw [h3] at h1 h2
  generalize c * 2 ^ E / 2 ^ 1074 = N at h1 h2 ⊢
  show (FP.Core.d2l d).toInt = _
  rw [h1]
  show max (-2 ^ 63) (min (2 ^ 63 - 1) (N : Int)) = _
  omega
theorem bz_units {m : Nat} : FP.Core.unitsOf FP.Core.b64 m = if m / 2 ^ 52 = 0 then m % 2 ^ 52 else (2 ^ 52 + m % 2 ^ 52) * 2 ^ (m / 2 ^ 52 - 1) := by
  unfold FP.Core.unitsOf
  rw [FP.Core.tails_b64]
  by_cases h : m < 2 ^ 52
  · rw [if_pos h, if_pos (by omega)]; omega
  · rw [if_neg h, if_neg (by omega)]
theorem bz_small {m c e j : Nat} (hu : c * 2 ^ e = FP.Core.unitsOf FP.Core.b64 m) (hj : j ≤ 1074) (he : 2 ^ 1126 ≤ c * 2 ^ (e + j) ∨ j = 1074) (hlt : c * 2 ^ (e + j) / 2 ^ 1074 < 2 ^ 52) : c * 2 ^ (e + j) / 2 ^ 1074 = m := by
  have h1 : c * 2 ^ (e + j) < 2 ^ 1126 := by
    rw [Nat.div_lt_iff_lt_mul (Nat.two_pow_pos _), ← Nat.pow_add] at hlt
    exact hlt
  have hj : j = 1074 := he.resolve_left (Nat.not_le.mpr h1)
  subst hj
  rw [Nat.pow_add, ← Nat.mul_assoc, Nat.mul_div_cancel _ (Nat.two_pow_pos _)] at hlt ⊢
  rw [hu] at hlt ⊢
  rw [bz_units] at hlt ⊢
  split at hlt
  · rename_i h2
    rw [if_pos h2]; omega
  · exfalso
    have := Nat.two_pow_pos (m / 2 ^ 52 - 1)
    have h3 : (2 ^ 52 + m % 2 ^ 52) * 1 ≤ (2 ^ 52 + m % 2 ^ 52) * 2 ^ (m / 2 ^ 52 - 1) := Nat.mul_le_mul_left _ this
    omega
theorem bz_big {m c e j : Nat} (hu : c * 2 ^ e = FP.Core.unitsOf FP.Core.b64 m) (hj : j ≤ 1074) (hup : c * 2 ^ (e + j) < 2 ^ 1127) (hge : 2 ^ 52 ≤ c * 2 ^ (e + j) / 2 ^ 1074) : c * 2 ^ (e + j) / 2 ^ 1074 + (1074 - j) * 2 ^ 52 = m := by
  have h1 : 2 ^ 1126 ≤ c * 2 ^ (e + j) := by
    rw [Nat.le_div_iff_mul_le (Nat.two_pow_pos _), ← Nat.pow_add] at hge
    exact hge
  rw [Nat.pow_add, ← Nat.mul_assoc, hu, bz_units] at h1 hup ⊢
  by_cases h2 : m / 2 ^ 52 = 0
  · exfalso
    rw [if_pos h2] at h1
    have h3 : m % 2 ^ 52 * 2 ^ j ≤ m % 2 ^ 52 * 2 ^ 1074 := Nat.mul_le_mul_left _ (Nat.pow_le_pow_right (by decide) hj)
    have h4 : m % 2 ^ 52 * 2 ^ 1074 < 2 ^ 52 * 2 ^ 1074 := Nat.mul_lt_mul_of_pos_right (Nat.mod_lt _ (by decide)) (Nat.two_pow_pos _)
    have h5 : (2 : Nat) ^ 52 * 2 ^ 1074 = 2 ^ 1126 := by rw [← Nat.pow_add]
    omega
  · rw [if_neg h2, Nat.mul_assoc, ← Nat.pow_add] at h1 hup ⊢
    generalize hK : m / 2 ^ 52 = K at *
    generalize hf : m % 2 ^ 52 = f at *
    have hf2 : f < 2 ^ 52 := by omega
    have h3 : K - 1 + j = 1074 := by
      rcases Nat.lt_trichotomy (K - 1 + j) 1074 with h | h | h
      · exfalso
        have a1 : (2 ^ 52 + f) * 2 ^ (K - 1 + j) ≤ (2 ^ 52 + f) * 2 ^ 1073 := Nat.mul_le_mul_left _ (Nat.pow_le_pow_right (by decide) (by omega))
        have a2 : (2 ^ 52 + f) * 2 ^ 1073 < 2 ^ 53 * 2 ^ 1073 := Nat.mul_lt_mul_of_pos_right (by omega) (Nat.two_pow_pos _)
        have a3 : (2 : Nat) ^ 53 * 2 ^ 1073 = 2 ^ 1126 := by rw [← Nat.pow_add]
        omega
      · exact h
      · exfalso
        have a1 : (2 ^ 52 + f) * 2 ^ 1075 ≤ (2 ^ 52 + f) * 2 ^ (K - 1 + j) := Nat.mul_le_mul_left _ (Nat.pow_le_pow_right (by decide) (by omega))
        have a2 : 2 ^ 52 * 2 ^ 1075 ≤ (2 ^ 52 + f) * 2 ^ 1075 := Nat.mul_le_mul_right _ (by omega)
        have a3 : (2 : Nat) ^ 52 * 2 ^ 1075 = 2 ^ 1127 := by rw [← Nat.pow_add]
        omega
    rw [h3, Nat.mul_div_cancel _ (Nat.two_pow_pos _)]
    omega
/-! words -/
theorem bz_word {x : UInt64} {b : Int64} (h : b.toInt = (x.toNat : Int)) (hx : x.toNat < 2 ^ 63) : b = x.toInt64 := by
  refine Int64.toBitVec_inj.mp (BitVec.eq_of_toNat_eq ?_)
  have h1 : b.toBitVec.toInt = (x.toNat : Int) := h
  rw [BitVec.toInt_eq_toNat_cond] at h1
  have h2 := b.toBitVec.isLt
  show b.toBitVec.toNat = x.toNat
  split at h1 <;> omega
theorem bz_wordn {x : UInt64} {b : Int64} (h : b.toInt = ((x.toNat - 2 ^ 63 : Nat) : Int)) (hx : 2 ^ 63 ≤ x.toNat) : b ||| (-9223372036854775808) = x.toInt64 := by
  refine Int64.toBitVec_inj.mp (BitVec.eq_of_toNat_eq ?_)
  have h1 : b.toBitVec.toInt = ((x.toNat - 2 ^ 63 : Nat) : Int) := h
  rw [BitVec.toInt_eq_toNat_cond] at h1
  have h2 := b.toBitVec.isLt
  have h3 := x.toNat_lt
  have h4 : b.toBitVec.toNat = x.toNat - 2 ^ 63 := by split at h1 <;> omega
  show (b.toBitVec ||| (-9223372036854775808 : Int64).toBitVec).toNat = x.toNat
  rw [BitVec.toNat_or, h4, show (-9223372036854775808 : Int64).toBitVec.toNat = 2 ^ 63 by decide, Nat.or_comm]
  have h5 := Nat.two_pow_add_eq_or_of_lt (i := 63) (b := x.toNat - 2 ^ 63) (by omega) 1
  rw [Nat.mul_one] at h5
  omega
theorem bz_shl {a : Nat} (h : a < 2000) : ((nI a).toInt64 <<< ((52 : Int32).toInt64 &&& 63)).toInt = ((a * 2 ^ 52 : Nat) : Int) := by
  rw [nI_l (by omega), show ((52 : Int32).toInt64 &&& 63) = 52 by decide]
  have h1 : (lN a <<< (52 : Int64)) = lN (a * 2 ^ 52) := by
    refine Int64.toBitVec_inj.mp (BitVec.eq_of_toNat_eq ?_)
    show (BitVec.ofNat 64 a <<< (((52 : Int64).toBitVec).smod 64)).toNat = (BitVec.ofNat 64 (a * 2 ^ 52)).toNat
    rw [show ((52 : Int64).toBitVec).smod 64 = 52#64 by decide]
    simp only [BitVec.shiftLeft_eq', BitVec.toNat_shiftLeft, BitVec.toNat_ofNat, Nat.shiftLeft_eq]
    rw [show 52 % 2 ^ 64 = 52 by decide]
    omega
  rw [h1]
  show (Int64.ofNat (a * 2 ^ 52)).toInt = _
  exact Int64.toInt_ofNat_of_lt (by omega)
theorem bz_addI {x y : Int64} {a b : Nat} (hx : x.toInt = (a : Int)) (hy : y.toInt = (b : Int)) (h : a + b < 2 ^ 63) : (x + y).toInt = ((a + b : Nat) : Int) := by
  rw [Int64.toInt_add, hx, hy]
  rw [Int.bmod_eq_of_le] <;> omega
