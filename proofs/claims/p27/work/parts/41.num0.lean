/-! the law's numbers: points, fractions, bounds -/
theorem fx_i2d (c : Int32) : fx_G 1074 c.toInt (FP.i2d c) := by
  have h1 := c.toInt_lt
  have h2 := c.le_toInt
  refine fx_G_of (s := decide (c.toInt < 0)) (n := c.toInt.natAbs) (e1 := 0) (FP.Core.val64_i2d c) (by rw [FP.Core.qmin_b64]; decide) (by omega) (by omega) ?_ (fun h => by rw [h]; rfl)
  unfold FP.Core.signed FP.Core.inUnits
  rw [FP.Core.qmin_b64, show (0 - -1074 : Int).toNat = 1074 by decide, Int.natCast_mul]
  by_cases h : c.toInt < 0
  · rw [decide_eq_true h, if_pos rfl, ← Int.neg_mul]; congr 1; omega
  · rw [decide_eq_false h, if_neg (by decide)]; congr 1; omega
theorem fx_G_k {e : Nat} {i : Int} {a : UInt64} (h : fx_G e i a) : (0 < fx_k a ↔ 0 < i) ∧ (fx_k a = 0 ↔ i = 0) := by
  have hz := fx_G_z h
  have h1 := fx_zk fx_n0 (fx_G_n h)
  have h2 := fx_zkeq (fx_G_n h) fx_n0
  rw [fx_k0, show fx_z 0 = 0 by decide +kernel, hz] at h1 h2
  have hp : (0 : Int) < ((2 ^ e : Nat) : Int) := by have := Nat.two_pow_pos e; omega
  constructor
  · rw [← h1]
    constructor
    · intro h3; exact Int.pos_of_mul_pos_left h3 hp
    · intro h3; exact Int.mul_pos h3 hp
  · rw [← h2]
    constructor
    · intro h3; rcases Int.mul_eq_zero.mp h3 with h4 | h4 <;> omega
    · intro h3; rw [h3, Int.zero_mul]
theorem fx_G_0 {e : Nat} {a : UInt64} (h : fx_G e 0 a) : a = 0 := by
  have h1 := (fx_G_k h).2.mpr rfl
  exact fx_inj (by rw [h1, fx_k0]) (fx_G_m h) (by unfold fx_m; decide)
theorem fx_G_ge {e : Nat} {i : Int} {a : UInt64} (h : fx_G e i a) (hi : i ≠ 0) {K : Nat} (hK : K + 51 = e) (h1 : 1 ≤ K) : fx_L K a := fx_G_L h (m := 0) (by omega) (by omega) h1
theorem fx_G_dn {e d E : Nat} {i j : Int} {a : UInt64} (h : fx_G E i a) (he : E = e + d) (hj : j = i * ((2 ^ d : Nat) : Int)) : fx_G e j a := by
  subst he hj
  obtain ⟨c, q, h1, h2⟩ := h
  have hp := Nat.two_pow_pos d
  refine ⟨c, q, ?_, ?_⟩
  · rw [h1]
    congr 1
    rw [decide_eq_decide]
    constructor
    · intro h; exact Int.mul_neg_of_neg_of_pos h (by omega)
    · intro h
      refine Int.lt_of_not_ge fun hge => ?_
      have := Int.mul_nonneg hge (show (0 : Int) ≤ ((2 ^ d : Nat) : Int) by omega)
      omega
  · rw [h2, Int.natAbs_mul, Int.natAbs_natCast, Nat.pow_add, Nat.mul_assoc, Nat.mul_comm (2 ^ d)]
theorem s_st_G {i : Int} {x : UInt64} (h : fx_G 1071 i x) : s_st x = x := by
  by_cases hi : i = 0
  · subst hi
    rw [fx_G_0 h]; decide +kernel
  · unfold s_st
    refine if_neg (fun h9 => ?_)
    have hn := fx_G_n h
    obtain ⟨a1, a2, a3, a4⟩ := fx_tiny
    have h2 := (fx_gt hn a3).mp h9.1
    have h3 := (fx_lt hn a1).mp h9.2
    have h4 := fx_G_ge h hi (K := 1020) (by omega) (by omega)
    have h5 := fx_k_abs x
    unfold fx_L at h4
    rw [a2] at h3; rw [a4] at h2; omega
/-- a place, a height, a weight -/
def s_gx (k : Nat) : UInt64 := FP.dmul 4609434218613702656 (FP.i2d (nI k))
def s_gy (xs : Nat → Int32) (L k : Nat) : UInt64 := FP.i2d (nI (s_bel (s_cell xs L (1 + k)) 41) - 20)
def s_gw (xs : Nat → Int32) (L k : Nat) : UInt64 := FP.i2d (nI (1 + s_bel (s_cell xs L (1 + k) >>> (6 &&& 31)) 5))
theorem fx_c15 : fx_G 1073 3 4609434218613702656 := ⟨3 * 2 ^ 51, -52, by decide +kernel, by decide +kernel⟩
theorem s_gx_G {k : Nat} (hk : k < 40) : fx_G 1071 (12 * (k : Int)) (s_gx k) := by
  have h1 := fx_i2d (nI k)
  rw [nI_toInt (by omega)] at h1
  have h2 := fx_G_mul (E := 1073) fx_c15 h1 (by omega) (by omega) (by omega) ⟨by omega, by omega⟩
  exact fx_G_dn (d := 2) h2 rfl (by rw [show ((2 ^ 2 : Nat) : Int) = 4 by decide]; omega)
theorem s_gy_G (xs : Nat → Int32) (L k : Nat) : fx_G 1071 (8 * ((s_bel (s_cell xs L (1 + k)) 41 : Int) - 20)) (s_gy xs L k) := by
  have h0 := s_bel_lt (v := s_cell xs L (1 + k)) (n := 41) (by decide)
  have h1 := fx_i2d (nI (s_bel (s_cell xs L (1 + k)) 41) - nI 20)
  rw [pk_sub_toInt (by omega) (by omega)] at h1
  exact fx_G_dn (d := 3) h1 rfl (by rw [show ((2 ^ 3 : Nat) : Int) = 8 by decide]; omega)
theorem s_gw_G (xs : Nat → Int32) (L k : Nat) : fx_G 1071 (8 * (1 + (s_bel (s_cell xs L (1 + k) >>> (6 &&& 31)) 5 : Int))) (s_gw xs L k) := by
  have h0 := s_bel_lt (v := s_cell xs L (1 + k) >>> (6 &&& 31)) (n := 5) (by decide)
  have h1 := fx_i2d (nI (1 + s_bel (s_cell xs L (1 + k) >>> (6 &&& 31)) 5))
  rw [nI_toInt (by omega)] at h1
  exact fx_G_dn (d := 3) h1 rfl (by rw [show ((2 ^ 3 : Nat) : Int) = 8 by decide]; omega)
theorem s_gy_P (xs : Nat → Int32) (L k : Nat) : PY (s_gy xs L k) := by
  have h0 := s_bel_lt (v := s_cell xs L (1 + k)) (n := 41) (by decide)
  exact ⟨_, s_gy_G xs L k, by omega⟩
theorem s_gw_P (xs : Nat → Int32) (L k : Nat) : PW (s_gw xs L k) := by
  have h0 := s_bel_lt (v := s_cell xs L (1 + k) >>> (6 &&& 31)) (n := 5) (by decide)
  exact ⟨_, s_gw_G xs L k, by omega, by omega⟩

