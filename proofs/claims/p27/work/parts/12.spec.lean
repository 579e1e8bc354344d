/-! more of quotients and sums -/
theorem fx_L_div {L K M : Nat} {a b : UInt64} (ha : fx_L L a) (ha2 : fx_B 2047 a) (hb : fx_B K b) (hb2 : ¬ FP.Core.DZero b) (hK : K ≤ 2047) (hL : 1 ≤ L) (hM : 1 ≤ M) (h : M + K ≤ L + 1023) (hM2 : M ≤ 2047) : fx_L M (FP.ddiv a b) := by
  obtain ⟨s, c, q, h1, h2⟩ := fx_fin (fx_B_fin ha2 (Nat.le_refl _))
  obtain ⟨t, d, r, h3, h4⟩ := fx_fin (fx_B_fin hb hK)
  have hq : FP.Core.b64.qmin = -1074 := FP.Core.qmin_b64
  have za : FP.Core.zmag FP.Core.b64 (.fin s c q) = FP.Core.unitsOf FP.Core.b64 (a.toNat % 2 ^ 63) := by
    rw [← h1]; exact FP.Core.zmag_bits (fx_B_n ha2 (Nat.le_refl _))
  have zb : FP.Core.zmag FP.Core.b64 (.fin t d r) = FP.Core.unitsOf FP.Core.b64 (b.toNat % 2 ^ 63) := by
    rw [← h3]; exact FP.Core.zmag_bits (fx_B_n hb hK)
  have la : 2 ^ 52 * 2 ^ (L - 1) ≤ FP.Core.zmag FP.Core.b64 (.fin s c q) := by
    rw [za, ← FP.Core.tails_b64, ← FP.Core.unitsOf_start hL]
    exact FP.Core.unitsOf_le_iff.mpr (by rw [FP.Core.tails_b64]; exact ha)
  have lb : FP.Core.zmag FP.Core.b64 (.fin t d r) ≤ 2 ^ 52 * 2 ^ (K - 1) := by
    rw [zb]
    have := (FP.Core.units_lt_start (f := FP.Core.b64) (m := b.toNat % 2 ^ 63) (K := K) (by rw [FP.Core.tails_b64]; exact hb)).2
    rw [FP.Core.tails_b64] at this
    exact Nat.le_of_lt this
  have hd0 : d ≠ 0 := fun hd => hb2 ⟨t, r, hd ▸ h3⟩
  have hdv : FP.Core.decode FP.Core.b64 (FP.ddiv a b).toNat = FP.Core.roundRatio FP.Core.b64 (s != t) c d (q - r) := by
    show FP.Core.val64 (FP.ddiv a b) = _
    rw [show FP.Core.val64 (FP.ddiv a b) = _ from FP.Core.val64_ddiv a b, h1, h3]
    simp only [FP.Core.quotient, if_neg hd0]
  have q1 := h2.2.1
  have q2 := h4.2.1
  rw [hq] at q1 q2
  have e1 : FP.Core.inUnits c (q - r) (2 * FP.Core.b64.qmin - r) = FP.Core.zmag FP.Core.b64 (.fin s c q) * 2 ^ 1074 := by
    show c * _ = c * _ * _
    rw [Nat.mul_assoc, ← Nat.pow_add, hq]; congr 2; omega
  have e2 : 2 ^ (FP.Core.b64.qmin - (2 * FP.Core.b64.qmin - r)).toNat * d = FP.Core.zmag FP.Core.b64 (.fin t d r) := by
    show _ = d * _
    rw [Nat.mul_comm, hq]; congr 2; omega
  have := FP.Core.mag_ge FP.Core.good_b64 hdv (by omega) (e0 := 2 * FP.Core.b64.qmin - r) (m := M * FP.Core.b64.tails) (by rw [hq]; omega) (by rw [hq]; omega) (by
    rw [FP.Core.infBits_b64, FP.Core.tails_b64]; omega) (by
    rw [e1, Nat.mul_assoc, e2, FP.Core.unitsOf_start hM, FP.Core.tails_b64]
    calc 2 ^ 52 * 2 ^ (M - 1) * FP.Core.zmag FP.Core.b64 (.fin t d r) ≤ 2 ^ 52 * 2 ^ (M - 1) * (2 ^ 52 * 2 ^ (K - 1)) := Nat.mul_le_mul_left _ lb
      _ = 2 ^ (52 + (M - 1) + (52 + (K - 1))) := by rw [← Nat.pow_add, ← Nat.pow_add, ← Nat.pow_add]
      _ ≤ 2 ^ (52 + (L - 1) + 1074) := Nat.pow_le_pow_right (by decide) (by
          have : 1 ≤ K := (FP.Core.units_lt_start (f := FP.Core.b64) (m := b.toNat % 2 ^ 63) (K := K) (by rw [FP.Core.tails_b64]; exact hb)).1
          omega)
      _ = 2 ^ 52 * 2 ^ (L - 1) * 2 ^ 1074 := by rw [Nat.pow_add, Nat.pow_add]
      _ ≤ FP.Core.zmag FP.Core.b64 (.fin s c q) * 2 ^ 1074 := Nat.mul_le_mul_right _ la)
  rw [FP.Core.mag_toNat64, FP.Core.tails_b64] at this
  exact this
theorem fx_inf_of {a : UInt64} (hn : fx_n a) (hf : ¬ FP.Core.DFin a) : ∃ s, FP.Core.val64 a = .inf s := by
  cases h : FP.Core.val64 a with
  | nan => exact absurd h hn
  | inf s => exact ⟨s, rfl⟩
  | fin s c q => exact absurd ⟨s, c, q, h⟩ hf
theorem fx_k_inf {a : UInt64} (h : FP.Core.val64 a = .inf false) : fx_k a = 9218868437227405312 := by
  have : a = 9218868437227405312 := FP.Core.val64_inj (by rw [h]; exact FP.Core.Datum.noConfusion) (by rw [h]; decide +kernel)
  rw [this]; decide +kernel
theorem fx_k_max {a : UInt64} (hn : fx_n a) : fx_k a ≤ 9218868437227405312 := by
  have h := fx_nb.mp hn
  have := fx_k_abs a
  omega
/-- a sum of two numbers without sign is not less than the first -/
theorem fx_add_ge {a b : UInt64} (ha : fx_p a) (hb : fx_p b) (na : fx_n a) (nb : fx_n b) : fx_k a ≤ fx_k (FP.dadd a b) := by
  have hn := fx_n_add ha hb na nb
  by_cases fa : FP.Core.DFin a
  · by_cases fb : FP.Core.DFin b
    · obtain ⟨sg, n, e, h1, h2, h3, -⟩ := fx_sum fa fb
      rw [← fx_zkle na hn]
      have hzb : 0 ≤ fx_z b := FP.Core.zval_nonneg nb hb
      have h4 := FP.Core.zval_round_ge FP.Core.good_b64 (s := sg) (c := n) (q := e) (e0 := FP.Core.b64.qmin) (V := FP.Core.val64 a) (FP.Core.val64_fits a) na (by omega) h2 (by
        rw [h3, Int.sub_self, Int.toNat_zero, Nat.pow_zero]
        show fx_z a * _ ≤ _
        omega)
      rw [← h1] at h4
      exact h4
    · obtain ⟨s, h⟩ := fx_inf_of nb fb
      have hs : s = false := by have := (fx_sg nb).mpr hb; rw [h] at this; exact this
      subst hs
      obtain ⟨s1, c1, q1, h9⟩ := fa
      rw [fx_k_inf (a := FP.dadd a b) (by rw [show FP.Core.val64 (FP.dadd a b) = _ from FP.Core.val64_dadd a b, h, h9]; rfl)]
      exact fx_k_max na
  · obtain ⟨s, h⟩ := fx_inf_of na fa
    have hs : s = false := by have := (fx_sg na).mpr ha; rw [h] at this; exact this
    subst hs
    have hv : FP.Core.val64 (FP.dadd a b) = .inf false := by
      rw [show FP.Core.val64 (FP.dadd a b) = _ from FP.Core.val64_dadd a b, h]
      have sb := (fx_sg nb).mpr hb
      cases hvb : FP.Core.val64 b with
      | nan => exact absurd hvb nb
      | inf t => rw [hvb] at sb; have : t = false := sb; subst this; rfl
      | fin t d r => rfl
    rw [fx_k_inf h, fx_k_inf hv]; exact Int.le_refl _
theorem fx_nz_k {a : UInt64} (h : 0 < fx_k a) : ¬ FP.Core.DZero a := by
  rw [FP.Core.zero_bits2, ← fx_k_abs]; omega
theorem fx_L_pos {L : Nat} {a : UInt64} (h : fx_L L a) (hp : fx_p a) (hL : 1 ≤ L) : 0 < fx_k a := by
  rw [fx_k_pos hp]; unfold fx_L at h; omega
theorem fx_nd {a b : UInt64} (ha : fx_n a) (hb : FP.Core.DFin b) (hz : ¬ FP.Core.DZero b) : fx_n (FP.ddiv a b) := by
  rw [fx_n, ← FP.Core.notNaN_iff]
  exact FP.Core.ddiv_out ((FP.Core.notNaN_iff a).mpr ha) hb hz
theorem fx_nd2 {a b : UInt64} (ha : FP.Core.DFin a) (hz : ¬ FP.Core.DZero a) (hb : fx_n b) : fx_n (FP.ddiv a b) := by
  rw [fx_n, ← FP.Core.notNaN_iff]
  exact FP.Core.ddiv_out' ha hz ((FP.Core.notNaN_iff b).mpr hb)
theorem fx_eq0 {a : UInt64} (hn : fx_n a) : sp_eq a 0 ↔ fx_k a = 0 := by
  have h := fx_eq hn fx_n0
  rw [fx_k0] at h; exact h
theorem fx_lt0 {a : UInt64} (hn : fx_n a) : sp_lt a 0 ↔ fx_k a < 0 := by
  have h := fx_lt hn fx_n0
  rw [fx_k0] at h; exact h
theorem fx_ge {a b : UInt64} (ha : fx_n a) (hb : fx_n b) : sp_ge a b ↔ fx_k b ≤ fx_k a := by
  have h1 := fx_gt ha hb
  have h2 := fx_eq ha hb
  constructor
  · rintro (h | h)
    · have := h1.mp h; omega
    · have := h2.mp h; omega
  · intro h
    by_cases h3 : fx_k a = fx_k b
    · exact Or.inr (h2.mpr h3)
    · exact Or.inl (h1.mpr (by omega))
theorem fx_le {a b : UInt64} (ha : fx_n a) (hb : fx_n b) : sp_le a b ↔ fx_k a ≤ fx_k b := by
  have h1 := fx_lt ha hb
  have h2 := fx_eq ha hb
  constructor
  · rintro (h | h)
    · have := h1.mp h; omega
    · have := h2.mp h; omega
  · intro h
    by_cases h3 : fx_k a = fx_k b
    · exact Or.inr (h2.mpr h3)
    · exact Or.inl (h1.mpr (by omega))
theorem fx_c2 : fx_B 1025 4611686018427387904 ∧ fx_p 4611686018427387904 ∧ fx_n 4611686018427387904 ∧ fx_L 1024 4611686018427387904 := by unfold fx_B fx_p fx_n fx_L; decide +kernel
theorem fx_c3 : fx_B 1025 4613937818241073152 ∧ fx_p 4613937818241073152 ∧ fx_n 4613937818241073152 ∧ fx_L 1024 4613937818241073152 := by unfold fx_B fx_p fx_n fx_L; decide +kernel
theorem fx_c4 : fx_B 1026 4616189618054758400 ∧ fx_p 4616189618054758400 ∧ fx_n 4616189618054758400 ∧ fx_L 1025 4616189618054758400 := by unfold fx_B fx_p fx_n fx_L; decide +kernel
theorem fx_g2 : fx_G 1074 2 4611686018427387904 := ⟨2 ^ 52, -51, by decide +kernel, by decide +kernel⟩
/-! the formulas -/
def s_w (P : Nat → UInt64) (k : Nat) : UInt64 := FP.dsub (P (k + 1)) (P k)
def s_dv (V : Nat → UInt64) (k : Nat) : UInt64 := FP.dsub (V (k + 1)) (V k)
def s_r (P V : Nat → UInt64) (k : Nat) : UInt64 := FP.ddiv (s_dv V k) (s_w P k)
def s_v (P : Nat → UInt64) (k : Nat) : UInt64 := FP.dadd (FP.dmul 4611686018427387904 (s_w P k)) (s_w P (k - 1))
def s_u (P : Nat → UInt64) (k : Nat) : UInt64 := FP.dadd (s_w P k) (FP.dmul 4611686018427387904 (s_w P (k - 1)))
def s_fd (P : Nat → UInt64) (k : Nat) (a b : UInt64) : UInt64 := FP.dadd (FP.ddiv (s_v P k) a) (FP.ddiv (s_u P k) b)
def s_f (P : Nat → UInt64) (k : Nat) (a b : UInt64) : UInt64 := FP.ddiv (FP.dadd (s_v P k) (s_u P k)) (s_fd P k a b)
def s_a (P V : Nat → UInt64) (k : Nat) : UInt64 := s_r P V (k - 1)
def s_bi (kn k : Nat) : Nat := if k < kn - 1 then k else kn - 2
def s_b (P V : Nat → UInt64) (kn k : Nat) : UInt64 := s_r P V (s_bi kn k)
def s_min (a b : UInt64) : UInt64 := if sp_lt a b then a else b
def s_most (P V : Nat → UInt64) (kn k : Nat) : UInt64 := FP.dmul 4613937818241073152 (s_min (s_a P V k) (s_b P V kn k))
def s_un (P : Nat → UInt64) (kn k : Nat) (a b : UInt64) : UInt64 := if k = 0 ∨ kn - 1 ≤ k then a else if sp_eq a 0 ∨ sp_eq b 0 then 0 else s_f P k a b
def s_own (P V F : Nat → UInt64) (kn k : Nat) : UInt64 := if F k = 13830554455654793216 then s_un P kn k (s_a P V k) (s_b P V kn k) else F k
def s_s (P V F : Nat → UInt64) (kn k : Nat) : UInt64 := if sp_gt (s_own P V F kn k) (s_most P V kn k) then s_most P V kn k else s_own P V F kn k
def s_p (d m n h : UInt64) : UInt64 := FP.ddiv (FP.dsub (FP.dsub (FP.dmul 4613937818241073152 d) (FP.dmul 4611686018427387904 m)) n) h
def s_q (d m n h : UInt64) : UInt64 := FP.ddiv (FP.dsub (FP.dadd m n) (FP.dmul 4611686018427387904 d)) (FP.dmul h h)
def s_pk (P V F : Nat → UInt64) (kn k : Nat) : UInt64 := s_p (s_r P V k) (s_s P V F kn k) (s_s P V F kn (k + 1)) (s_w P k)
def s_qk (P V F : Nat → UInt64) (kn k : Nat) : UInt64 := s_q (s_r P V k) (s_s P V F kn k) (s_s P V F kn (k + 1)) (s_w P k)
def s_h (y m p q t : UInt64) : UInt64 := FP.dadd y (FP.dmul t (FP.dadd m (FP.dmul t (FP.dadd p (FP.dmul t q)))))
def s_t (m p q t : UInt64) : UInt64 := FP.dadd m (FP.dmul t (FP.dadd (FP.dmul 4611686018427387904 p) (FP.dmul t (FP.dmul 4613937818241073152 q))))
def s_pt (y m p q t : UInt64) : UInt64 := FP.dmul t (FP.dadd y (FP.dmul t (FP.dadd (FP.ddiv m 4611686018427387904) (FP.dmul t (FP.dadd (FP.ddiv p 4613937818241073152) (FP.dmul t (FP.ddiv q 4616189618054758400)))))))
/-! sums and differences held against a double that bounds the exact number -/
theorem fx_zadd_ge {a b v : UInt64} (fa : FP.Core.DFin a) (fb : FP.Core.DFin b) (nv : fx_n v) (h : fx_z v ≤ fx_z a + fx_z b) : fx_z v ≤ fx_z (FP.dadd a b) := by
  obtain ⟨sg, n, e, h1, h2, h3, -⟩ := fx_sum fa fb
  have h4 := FP.Core.zval_round_ge FP.Core.good_b64 (s := sg) (c := n) (q := e) (e0 := FP.Core.b64.qmin) (V := FP.Core.val64 v) (FP.Core.val64_fits v) nv (by omega) h2 (by
    rw [h3, Int.sub_self, Int.toNat_zero, Nat.pow_zero]
    show fx_z v * _ ≤ _
    omega)
  rw [← h1] at h4
  exact h4
theorem fx_zadd_le {a b v : UInt64} (fa : FP.Core.DFin a) (fb : FP.Core.DFin b) (nv : fx_n v) (h : fx_z a + fx_z b ≤ fx_z v) : fx_z (FP.dadd a b) ≤ fx_z v := by
  obtain ⟨sg, n, e, h1, h2, h3, -⟩ := fx_sum fa fb
  have h4 := FP.Core.zval_round_le FP.Core.good_b64 (s := sg) (c := n) (q := e) (e0 := FP.Core.b64.qmin) (V := FP.Core.val64 v) (FP.Core.val64_fits v) nv (by omega) h2 (by
    rw [h3, Int.sub_self, Int.toNat_zero, Nat.pow_zero]
    show _ ≤ fx_z v * _
    omega)
  rw [← h1] at h4
  exact h4
theorem fx_zsub_ge {a b v : UInt64} (fa : FP.Core.DFin a) (fb : FP.Core.DFin b) (nv : fx_n v) (h : fx_z v ≤ fx_z b - fx_z a) : fx_z v ≤ fx_z (FP.dsub b a) := by
  rw [fx_sub_add b fa.ne_nan]
  exact fx_zadd_ge fb (fx_neg_fin fa) nv (by rw [fx_z_neg]; omega)
theorem fx_zsub_le {a b v : UInt64} (fa : FP.Core.DFin a) (fb : FP.Core.DFin b) (nv : fx_n v) (h : fx_z b - fx_z a ≤ fx_z v) : fx_z (FP.dsub b a) ≤ fx_z v := by
  rw [fx_sub_add b fa.ne_nan]
  exact fx_zadd_le fb (fx_neg_fin fa) nv (by rw [fx_z_neg]; omega)
theorem fx_kp {a : UInt64} (h : 0 < fx_k a) : fx_p a := by
  refine Classical.byContradiction (fun h1 => ?_)
  rw [fx_k_neg h1] at h
  unfold fx_p at h1
  omega
theorem fx_c14 : fx_n 4544132024016830464 ∧ fx_k 4544132024016830464 = ((1009 * 2 ^ 52 : Nat) : Int) ∧ fx_z 4544132024016830464 = ((2 ^ 1060 : Nat) : Int) := by unfold fx_n; decide +kernel
theorem fx_L_mono {K : Nat} {a b : UInt64} (ha : fx_L K a) (pa : fx_p a) (na : fx_n a) (nb : fx_n b) (h : fx_z a ≤ fx_z b) : fx_L K b := by
  have h1 := (fx_zkle na nb).mp h
  rw [fx_k_pos pa] at h1
  refine fx_L_k ?_
  have h2 : fx_L K a := ha
  unfold fx_L at h2; unfold fx_p at pa
  rw [Nat.mod_eq_of_lt pa] at h2
  omega
theorem fx_dbl {a : UInt64} (ha : fx_B 1047 a) (pa : fx_p a) : fx_B 1050 (FP.dmul 4611686018427387904 a) ∧ fx_p (FP.dmul 4611686018427387904 a) ∧ fx_n (FP.dmul 4611686018427387904 a) := by
  have hB : fx_B 1050 (FP.dmul 4611686018427387904 a) := fx_Bm fx_c2.1 ha (by omega) (by omega) (by omega)
  have hn := fx_B_n hB (by omega)
  exact ⟨hB, fx_p_mul fx_c2.2.1 pa fx_c2.2.2.1 (fx_B_n ha (by omega)) hn, hn⟩
theorem fx_L_mul {L K M : Nat} {a b : UInt64} (ha : fx_L L a) (ha2 : fx_B 2047 a) (hb : fx_L K b) (hb2 : fx_B 2047 b) (hL : 1 ≤ L) (hK : 1 ≤ K) (hM : 1 ≤ M) (h : M + 1023 ≤ L + K) (hM2 : M ≤ 2047) : fx_L M (FP.dmul a b) := by
  obtain ⟨s, c, q, h1, h2⟩ := fx_fin (fx_B_fin ha2 (Nat.le_refl _))
  obtain ⟨t, d, r, h3, h4⟩ := fx_fin (fx_B_fin hb2 (Nat.le_refl _))
  have hq : FP.Core.b64.qmin = -1074 := FP.Core.qmin_b64
  have za : FP.Core.zmag FP.Core.b64 (.fin s c q) = FP.Core.unitsOf FP.Core.b64 (a.toNat % 2 ^ 63) := by
    rw [← h1]; exact FP.Core.zmag_bits (fx_B_n ha2 (Nat.le_refl _))
  have zb : FP.Core.zmag FP.Core.b64 (.fin t d r) = FP.Core.unitsOf FP.Core.b64 (b.toNat % 2 ^ 63) := by
    rw [← h3]; exact FP.Core.zmag_bits (fx_B_n hb2 (Nat.le_refl _))
  have la : 2 ^ 52 * 2 ^ (L - 1) ≤ FP.Core.zmag FP.Core.b64 (.fin s c q) := by
    rw [za, ← FP.Core.tails_b64, ← FP.Core.unitsOf_start hL]
    exact FP.Core.unitsOf_le_iff.mpr (by rw [FP.Core.tails_b64]; exact ha)
  have lb : 2 ^ 52 * 2 ^ (K - 1) ≤ FP.Core.zmag FP.Core.b64 (.fin t d r) := by
    rw [zb, ← FP.Core.tails_b64, ← FP.Core.unitsOf_start hK]
    exact FP.Core.unitsOf_le_iff.mpr (by rw [FP.Core.tails_b64]; exact hb)
  obtain ⟨p1, p2, p3⟩ := FP.Core.product_units h2 h4
  have hdv : FP.Core.decode FP.Core.b64 (FP.dmul a b).toNat = FP.Core.roundRatio FP.Core.b64 (s != t) (c * d) 1 (q + r) := by
    show FP.Core.val64 (FP.dmul a b) = _
    rw [show FP.Core.val64 (FP.dmul a b) = _ from FP.Core.val64_dmul a b, h1, h3, p1]
    rfl
  have := FP.Core.mag_ge FP.Core.good_b64 hdv (by decide) (e0 := 2 * FP.Core.b64.qmin) (m := M * FP.Core.b64.tails) (by rw [hq]; omega) p2 (by
    rw [FP.Core.infBits_b64, FP.Core.tails_b64]; omega) (by
    rw [p3, FP.Core.unitsOf_start hM, FP.Core.tails_b64, Nat.mul_one, hq, show (-1074 - 2 * -1074 : Int).toNat = 1074 by decide]
    calc 2 ^ 52 * 2 ^ (M - 1) * 2 ^ 1074 = 2 ^ (52 + (M - 1) + 1074) := by rw [← Nat.pow_add, ← Nat.pow_add]
      _ ≤ 2 ^ (52 + (L - 1) + (52 + (K - 1))) := Nat.pow_le_pow_right (by decide) (by omega)
      _ = 2 ^ 52 * 2 ^ (L - 1) * (2 ^ 52 * 2 ^ (K - 1)) := by rw [← Nat.pow_add, ← Nat.pow_add, ← Nat.pow_add]
      _ ≤ _ := Nat.mul_le_mul la lb)
  rw [FP.Core.mag_toNat64, FP.Core.tails_b64] at this
  exact this
theorem fx_sq {w : UInt64} (h1 : fx_B 1047 w) (h2 : fx_L 1009 w) (h3 : fx_p w) (h4 : fx_n w) : fx_L 995 (FP.dmul w w) ∧ fx_B 1075 (FP.dmul w w) ∧ fx_p (FP.dmul w w) ∧ fx_n (FP.dmul w w) := by
  have hB : fx_B 1075 (FP.dmul w w) := fx_Bm h1 h1 (by omega) (by omega) (by omega)
  have hn := fx_B_n hB (by omega)
  exact ⟨fx_L_mul h2 (fx_B_mono h1 (by omega)) h2 (fx_B_mono h1 (by omega)) (by omega) (by omega) (by omega) (by omega) (by omega), hB, fx_p_mul h3 h3 h4 h4 hn, hn⟩
/-- the places: bounded, each at least 2^-14 behind the one before, as exact numbers -/
def PG (kn : Nat) (P : Nat → UInt64) : Prop := (∀ k, k < kn → fx_B 1045 (P k)) ∧ ∀ k, k + 1 < kn → fx_z (P k) + ((2 ^ 1060 : Nat) : Int) ≤ fx_z (P (k + 1))
theorem PG_w {kn k : Nat} {P : Nat → UInt64} (h : PG kn P) (hk : k + 1 < kn) : fx_B 1047 (s_w P k) ∧ fx_L 1009 (s_w P k) ∧ fx_p (s_w P k) ∧ fx_n (s_w P k) := by
  have a := h.1 k (by omega)
  have b := h.1 (k + 1) hk
  have c := h.2 k hk
  obtain ⟨c1, c2, c3⟩ := fx_c14
  have hB : fx_B 1047 (s_w P k) := fx_B_sub b a (by omega)
  have hn := fx_B_n hB (by omega)
  have h1 : fx_z 4544132024016830464 ≤ fx_z (s_w P k) := fx_zsub_ge (fx_B_fin a (by omega)) (fx_B_fin b (by omega)) c1 (by rw [c3]; omega)
  have h2 := (fx_zkle c1 hn).mp h1
  rw [c2] at h2
  have h3 : 0 < fx_k (s_w P k) := Int.lt_of_lt_of_le (by decide) h2
  exact ⟨hB, fx_L_k h2, fx_kp h3, hn⟩
/-- the knots: places bounded and apart; values that never decrease; no slope or one without sign -/
def KJ (kn : Nat) (P V : Nat → UInt64) : Prop :=
  2 ≤ kn ∧ kn ≤ 60 ∧ PG kn P ∧ (∀ k, k < kn → fx_B 1063 (V k) ∧ fx_m (V k)) ∧ ∀ k, k + 1 < kn → fx_k (V k) ≤ fx_k (V (k + 1))
def KI (kn : Nat) (P V F : Nat → UInt64) : Prop := KJ kn P V ∧ ∀ k, k < kn → F k = 13830554455654793216 ∨ (fx_n (F k) ∧ fx_p (F k))
theorem kJ_P {kn k : Nat} {P V : Nat → UInt64} (h : KJ kn P V) (hk : k < kn) : fx_B 1045 (P k) := h.2.2.1.1 k hk
theorem kJ_w1 {kn k : Nat} {P V : Nat → UInt64} (h : KJ kn P V) (hk : k + 1 < kn) : fx_B 1047 (s_w P k) ∧ fx_L 1009 (s_w P k) ∧ fx_p (s_w P k) ∧ fx_n (s_w P k) := PG_w h.2.2.1 hk
theorem kJ_wz {kn k : Nat} {P V : Nat → UInt64} (h : KJ kn P V) (hk : k + 1 < kn) : ¬ sp_eq (s_w P k) 0 := by
  obtain ⟨h1, h2, h3, h4⟩ := kJ_w1 h hk
  have := fx_L_pos h2 h3 (by omega)
  rw [fx_eq0 h4]; omega
theorem kJ_dv {kn k : Nat} {P V : Nat → UInt64} (h : KJ kn P V) (hk : k + 1 < kn) : fx_B 1065 (s_dv V k) ∧ fx_p (s_dv V k) ∧ fx_n (s_dv V k) := by
  obtain ⟨h1, h2, h3, h4, h5⟩ := h
  have a := h4 k (by omega)
  have b := h4 (k + 1) hk
  have hB : fx_B 1065 (s_dv V k) := fx_B_sub b.1 a.1 (by omega)
  have hn := fx_B_n hB (by omega)
  exact ⟨hB, fx_sub_p (fx_B_fin a.1 (by omega)) (fx_B_fin b.1 (by omega)) b.2 (h5 k hk) hn, hn⟩
theorem kJ_r {kn k : Nat} {P V : Nat → UInt64} (h : KJ kn P V) (hk : k + 1 < kn) : fx_B 1080 (s_r P V k) ∧ fx_p (s_r P V k) ∧ fx_n (s_r P V k) := by
  obtain ⟨a1, a2, a3⟩ := kJ_dv h hk
  obtain ⟨b1, b2, b3, b4⟩ := kJ_w1 h hk
  have hB : fx_B 1080 (s_r P V k) := fx_Bd a1 b2 (fx_B_mono b1 (by omega)) (by omega) (by omega) (by omega)
  have hn := fx_B_n hB (by omega)
  exact ⟨hB, fx_p_div a2 b3 a3 b4 hn, hn⟩
theorem s_bi_lt {kn k : Nat} (h : 2 ≤ kn) : s_bi kn k + 1 < kn := by unfold s_bi; split <;> omega
theorem kJ_a {kn k : Nat} {P V : Nat → UInt64} (h : KJ kn P V) (hk : k < kn) : fx_B 1080 (s_a P V k) ∧ fx_p (s_a P V k) ∧ fx_n (s_a P V k) := kJ_r h (by have := h.1; omega)
theorem kJ_b {kn k : Nat} {P V : Nat → UInt64} (h : KJ kn P V) : fx_B 1080 (s_b P V kn k) ∧ fx_p (s_b P V kn k) ∧ fx_n (s_b P V kn k) := kJ_r h (s_bi_lt h.1)
theorem kJ_min {kn k : Nat} {P V : Nat → UInt64} (h : KJ kn P V) (hk : k < kn) : fx_B 1080 (s_min (s_a P V k) (s_b P V kn k)) ∧ fx_p (s_min (s_a P V k) (s_b P V kn k)) ∧ fx_n (s_min (s_a P V k) (s_b P V kn k)) := by
  unfold s_min
  split
  · exact kJ_a h hk
  · exact kJ_b h
theorem kJ_most {kn k : Nat} {P V : Nat → UInt64} (h : KJ kn P V) (hk : k < kn) : fx_B 1083 (s_most P V kn k) ∧ fx_p (s_most P V kn k) ∧ fx_n (s_most P V kn k) := by
  obtain ⟨a1, a2, a3⟩ := kJ_min h hk
  have hB : fx_B 1083 (s_most P V kn k) := fx_Bm fx_c3.1 a1 (by omega) (by omega) (by omega)
  have hn := fx_B_n hB (by omega)
  exact ⟨hB, fx_p_mul fx_c3.2.1 a2 fx_c3.2.2.1 a3 hn, hn⟩
theorem kJ_vu {kn k : Nat} {P V : Nat → UInt64} (h : KJ kn P V) (hk0 : 0 < k) (hk : k + 1 < kn) : (fx_B 1056 (s_v P k) ∧ fx_L 1009 (s_v P k) ∧ fx_p (s_v P k) ∧ fx_n (s_v P k)) ∧ fx_B 1056 (s_u P k) ∧ fx_L 1009 (s_u P k) ∧ fx_p (s_u P k) ∧ fx_n (s_u P k) := by
  obtain ⟨a1, a2, a3, a4⟩ := kJ_w1 h hk
  obtain ⟨b1, b2, b3, b4⟩ := kJ_w1 h (k := k - 1) (by omega)
  obtain ⟨c1, c2, c3⟩ := fx_dbl a1 a3
  obtain ⟨d1, d2, d3⟩ := fx_dbl b1 b3
  refine ⟨?_, ?_⟩
  · have hB : fx_B 1056 (s_v P k) := fx_Ba c1 b1 (by omega) (by omega) (by omega)
    have hn := fx_B_n hB (by omega)
    refine ⟨hB, fx_L_mono b2 b3 b4 hn (fx_zadd_ge (fx_B_fin c1 (by omega)) (fx_B_fin b1 (by omega)) b4 ?_), fx_p_add c2 b3 c3 b4, hn⟩
    have : 0 ≤ fx_z (FP.dmul 4611686018427387904 (s_w P k)) := FP.Core.zval_nonneg c3 c2
    omega
  · have hB : fx_B 1056 (s_u P k) := fx_Ba a1 d1 (by omega) (by omega) (by omega)
    have hn := fx_B_n hB (by omega)
    refine ⟨hB, fx_L_mono a2 a3 a4 hn (fx_zadd_ge (fx_B_fin a1 (by omega)) (fx_B_fin d1 (by omega)) a4 ?_), fx_p_add a3 d2 a4 d3, hn⟩
    have : 0 ≤ fx_z (FP.dmul 4611686018427387904 (s_w P (k - 1))) := FP.Core.zval_nonneg d3 d2
    omega
theorem kJ_v {kn k : Nat} {P V : Nat → UInt64} (h : KJ kn P V) (hk0 : 0 < k) (hk : k + 1 < kn) : fx_n (FP.dmul 4611686018427387904 (s_w P k)) ∧ fx_n (FP.dmul 4611686018427387904 (s_w P (k - 1))) ∧ fx_n (s_v P k) ∧ fx_n (s_u P k) ∧ fx_n (FP.dadd (s_v P k) (s_u P k)) := by
  obtain ⟨⟨c1, c2, c3, c4⟩, d1, d2, d3, d4⟩ := kJ_vu h hk0 hk
  obtain ⟨a1, a2, a3, a4⟩ := kJ_w1 h hk
  obtain ⟨b1, b2, b3, b4⟩ := kJ_w1 h (k := k - 1) (by omega)
  exact ⟨(fx_dbl a1 a3).2.2, (fx_dbl b1 b3).2.2, c4, d4, fx_n_add c3 d3 c4 d4⟩
theorem kJ_f {kn k : Nat} {P V : Nat → UInt64} (h : KJ kn P V) (hk0 : 0 < k) (hk : k + 1 < kn) {a b : UInt64} (ha : fx_B 1080 a ∧ fx_p a ∧ fx_n a) (hb : fx_B 1080 b ∧ fx_p b ∧ fx_n b) (za : ¬ sp_eq a 0) (zb : ¬ sp_eq b 0) : fx_n (FP.ddiv (s_v P k) a) ∧ fx_n (FP.ddiv (s_u P k) b) ∧ fx_n (s_fd P k a b) ∧ ¬ sp_eq (s_fd P k a b) 0 ∧ fx_n (s_f P k a b) ∧ fx_p (s_f P k a b) := by
  obtain ⟨⟨v1, v2, v3, v4⟩, u1, u2, u3, u4⟩ := kJ_vu h hk0 hk
  rw [fx_eq0 ha.2.2] at za
  rw [fx_eq0 hb.2.2] at zb
  have pa := fx_p_k ha.2.1
  have pb := fx_p_k hb.2.1
  have da : ¬ FP.Core.DZero a := fx_nz_k (by omega)
  have db : ¬ FP.Core.DZero b := fx_nz_k (by omega)
  have n1 : fx_n (FP.ddiv (s_v P k) a) := fx_nd v4 (fx_B_fin ha.1 (by omega)) da
  have n2 : fx_n (FP.ddiv (s_u P k) b) := fx_nd u4 (fx_B_fin hb.1 (by omega)) db
  have p1 := fx_p_div v3 ha.2.1 v4 ha.2.2 n1
  have p2 := fx_p_div u3 hb.2.1 u4 hb.2.2 n2
  have n3 : fx_n (s_fd P k a b) := fx_n_add p1 p2 n1 n2
  have p3 : fx_p (s_fd P k a b) := fx_p_add p1 p2 n1 n2
  have l1 : fx_L 890 (FP.ddiv (s_v P k) a) := fx_L_div v2 (fx_B_mono v1 (by omega)) ha.1 da (by omega) (by omega) (by omega) (by omega) (by omega)
  have l2 := fx_L_pos l1 p1 (by omega)
  have l3 := fx_add_ge p1 p2 n1 n2
  have k3 : 0 < fx_k (s_fd P k a b) := Int.lt_of_lt_of_le l2 l3
  have n5 := fx_n_add v3 u3 v4 u4
  have p5 := fx_p_add v3 u3 v4 u4
  have g5 : fx_B 1060 (FP.dadd (s_v P k) (s_u P k)) := fx_Ba v1 u1 (by omega) (by omega) (by omega)
  have l5 := fx_add_ge v3 u3 v4 u4
  have l6 := fx_L_pos v2 v3 (by omega)
  have n4 : fx_n (s_f P k a b) := fx_nd2 (fx_B_fin g5 (by omega)) (fx_nz_k (by omega)) n3
  exact ⟨n1, n2, n3, by rw [fx_eq0 n3]; omega, n4, fx_p_div p5 p3 n5 n3 n4⟩
theorem kJ_un {kn k : Nat} {P V : Nat → UInt64} (h : KJ kn P V) (hk : k < kn) : fx_n (s_un P kn k (s_a P V k) (s_b P V kn k)) ∧ fx_p (s_un P kn k (s_a P V k) (s_b P V kn k)) := by
  unfold s_un
  split
  · exact ⟨(kJ_a h hk).2.2, (kJ_a h hk).2.1⟩
  · rename_i h1
    split
    · exact ⟨fx_n0, by unfold fx_p; decide⟩
    · rename_i h2
      have hk0 : 0 < k := by omega
      have hk1 : k + 1 < kn := by omega
      obtain ⟨-, -, -, -, n, p⟩ := kJ_f h hk0 hk1 (kJ_a h hk) (kJ_b h (k := k)) (fun h3 => h2 (Or.inl h3)) (fun h3 => h2 (Or.inr h3))
      exact ⟨n, p⟩
theorem kI_own {kn k : Nat} {P V F : Nat → UInt64} (h : KI kn P V F) (hk : k < kn) : fx_n (s_own P V F kn k) ∧ fx_p (s_own P V F kn k) := by
  unfold s_own
  split
  · exact kJ_un h.1 hk
  · rename_i h1
    exact (h.2 k hk).resolve_left h1
theorem kI_s {kn k : Nat} {P V F : Nat → UInt64} (h : KI kn P V F) (hk : k < kn) : fx_B 1083 (s_s P V F kn k) ∧ fx_p (s_s P V F kn k) ∧ fx_n (s_s P V F kn k) := by
  obtain ⟨a1, a2, a3⟩ := kJ_most h.1 hk
  obtain ⟨b1, b2⟩ := kI_own h hk
  unfold s_s
  split
  · exact ⟨a1, a2, a3⟩
  · rename_i h1
    have h2 : ¬ fx_k (s_most P V kn k) < fx_k (s_own P V F kn k) := fun h3 => h1 ((fx_gt b1 a3).mpr h3)
    refine ⟨?_, b2, b1⟩
    rw [fx_B_k] at a1 ⊢
    have := fx_p_k b2
    omega

/-! small numbers that are taken as 0, and the like -/
def s_mg (x : UInt64) : UInt64 := if sp_lt x 0 then FP.dneg x else x
def s_st (x : UInt64) : UInt64 := if sp_gt x 13740701229962882445 ∧ sp_lt x 4517329193108106637 then 0 else x
def s_within (lo hi x : UInt64) : UInt64 := if sp_lt x lo then lo else if sp_gt x hi then hi else x
theorem s_mg_n {x : UInt64} (hn : fx_n x) : fx_n (s_mg x) := by
  unfold s_mg; split
  · exact fx_neg_n hn
  · exact hn
theorem s_mg_k {x : UInt64} (hn : fx_n x) : fx_k (s_mg x) = if fx_k x < 0 then -fx_k x else fx_k x := by
  have h := fx_lt0 hn
  unfold s_mg
  by_cases h1 : sp_lt x 0
  · rw [if_pos h1, if_pos (h.mp h1), fx_neg_k]
  · rw [if_neg h1, if_neg (fun h2 => h1 (h.mpr h2))]
theorem fx_tiny : fx_n 4517329193108106637 ∧ fx_k 4517329193108106637 = 4517329193108106637 ∧ fx_n 13740701229962882445 ∧ fx_k 13740701229962882445 = -4517329193108106637 := by unfold fx_n; decide +kernel
theorem s_st_mg {x : UInt64} (hn : fx_n x) : sp_lt (s_mg x) 4517329193108106637 ↔ (sp_gt x 13740701229962882445 ∧ sp_lt x 4517329193108106637) := by
  obtain ⟨a1, a2, a3, a4⟩ := fx_tiny
  have h1 := fx_lt (s_mg_n hn) a1
  have h2 := fx_gt hn a3
  have h3 := fx_lt hn a1
  have h4 := s_mg_k hn
  unfold sp_lt sp_gt
  rw [h1, h2, h3, h4, a2, a4]
  split <;> omega
theorem s_st_n {x : UInt64} (hn : fx_n x) : fx_n (s_st x) := by
  unfold s_st; split
  · exact fx_n0
  · exact hn
/-! the first place where a test fails -/
def s_find (c : Nat → Bool) : Nat → Nat → Nat
  | 0, k => k
  | f + 1, k => if c k = true then s_find c f (k + 1) else k
theorem s_find_stop {c : Nat → Bool} {f k : Nat} (h : c k = false) : s_find c f k = k := by
  cases f with
  | zero => rfl
  | succ f => rw [s_find, h, if_neg Bool.false_ne_true]
theorem s_find_step {c : Nat → Bool} {f k : Nat} (h : c k = true) : s_find c (f + 1) k = s_find c f (k + 1) := by
  rw [s_find, if_pos h]
theorem s_find_le {c : Nat → Bool} {f k : Nat} : k ≤ s_find c f k ∧ s_find c f k ≤ k + f := by
  induction f generalizing k with
  | zero => exact ⟨Nat.le_refl _, Nat.le_refl _⟩
  | succ f ih =>
    rw [s_find]
    split
    · have := ih (k := k + 1); omega
    · omega
theorem s_find_before {c : Nat → Bool} {f k j : Nat} (h1 : k ≤ j) (h2 : j < s_find c f k) : c j = true := by
  induction f generalizing k with
  | zero => exact absurd h2 (by rw [s_find]; omega)
  | succ f ih =>
    rw [s_find] at h2
    split at h2
    · rename_i hc
      by_cases hj : j = k
      · subst hj; exact hc
      · exact ih (k := k + 1) (by omega) h2
    · omega
theorem s_find_at {c : Nat → Bool} {f k : Nat} (h : s_find c f k < k + f) : c (s_find c f k) = false := by
  induction f generalizing k with
  | zero => rw [s_find] at h; omega
  | succ f ih =>
    rw [s_find] at h ⊢
    split
    · rename_i hc
      rw [if_pos hc] at h
      exact ih (k := k + 1) (by omega)
    · rename_i hc
      exact Bool.eq_false_iff.mpr hc
/-- the piece of a place -/
def s_pc (P : Nat → UInt64) (kn : Nat) (x : UInt64) : Nat := s_find (fun j => decide (sp_le (P (j + 1)) x)) (kn - 2) 0
/-- the first piece whose end isn't less -/
def s_rp (V : Nat → UInt64) (kn : Nat) (y : UInt64) : Nat := s_find (fun j => decide (sp_lt (V (j + 1)) y)) (kn - 2) 0
theorem s_pc_lt {P : Nat → UInt64} {kn : Nat} {x : UInt64} (h : 2 ≤ kn) : s_pc P kn x + 1 < kn := by
  have := s_find_le (c := fun j => decide (sp_le (P (j + 1)) x)) (f := kn - 2) (k := 0)
  unfold s_pc; omega
theorem s_rp_lt {V : Nat → UInt64} {kn : Nat} {y : UInt64} (h : 2 ≤ kn) : s_rp V kn y + 1 < kn := by
  have := s_find_le (c := fun j => decide (sp_lt (V (j + 1)) y)) (f := kn - 2) (k := 0)
  unfold s_rp; omega
/-! rows: room made, room closed -/
def s_sh {α : Type} (f : Nat → α) (i u : Nat) : Nat → α := fun j => if i < j ∧ j ≤ u then f (j - 1) else f j
def s_ins {α : Type} (f : Nat → α) (i u : Nat) (x : α) : Nat → α := fun j => if j = i then x else if i < j ∧ j ≤ u then f (j - 1) else f j
def s_rem {α : Type} (f : Nat → α) (i u : Nat) : Nat → α := fun j => if i ≤ j ∧ j < u - 1 then f (j + 1) else f j
/-- a part of the closing done: the places from i to m -/
def s_rm {α : Type} (f : Nat → α) (i m : Nat) : Nat → α := fun j => if i ≤ j ∧ j < m then f (j + 1) else f j
theorem s_sh_0 {α : Type} (f : Nat → α) (u : Nat) : s_sh f u u = f := by
  funext j; unfold s_sh; rw [if_neg (by omega)]
theorem s_sh_d {f : Nat → UInt64} {i u : Nat} (h0 : 0 < i) (h : i ≤ u) : vf_upd (s_sh f i u) i (s_sh f i u (i - 1)) = s_sh f (i - 1) u := by
  funext j; unfold vf_upd s_sh
  by_cases hj : j = i
  · subst hj; rw [if_pos rfl, if_neg (by omega), if_pos (by omega)]
  · rw [if_neg hj]
    by_cases h1 : i < j ∧ j ≤ u
    · rw [if_pos h1, if_pos (by omega)]
    · rw [if_neg h1, if_neg (by omega)]
theorem s_sh_i {f : Nat → Int32} {i u : Nat} (h0 : 0 < i) (h : i ≤ u) : upd (s_sh f i u) i (s_sh f i u (i - 1)) = s_sh f (i - 1) u := by
  funext j; unfold upd s_sh
  by_cases hj : j = i
  · subst hj; rw [if_pos rfl, if_neg (by omega), if_pos (by omega)]
  · rw [if_neg hj]
    by_cases h1 : i < j ∧ j ≤ u
    · rw [if_pos h1, if_pos (by omega)]
    · rw [if_neg h1, if_neg (by omega)]
theorem s_ins_d {f : Nat → UInt64} {i u : Nat} {x : UInt64} : vf_upd (s_sh f i u) i x = s_ins f i u x := by
  funext j; unfold vf_upd s_sh s_ins; rfl
theorem s_ins_i {f : Nat → Int32} {i u : Nat} {x : Int32} : upd (s_sh f i u) i x = s_ins f i u x := by
  funext j; unfold upd s_sh s_ins; rfl
theorem s_rm_0 {α : Type} (f : Nat → α) (i : Nat) : s_rm f i i = f := by
  funext j; unfold s_rm; rw [if_neg (by omega)]
theorem s_rm_d {f : Nat → UInt64} {i m : Nat} (h : i ≤ m) : vf_upd (s_rm f i m) m (s_rm f i m (m + 1)) = s_rm f i (m + 1) := by
  funext j; unfold vf_upd s_rm
  by_cases hj : j = m
  · subst hj; rw [if_pos rfl, if_neg (by omega), if_pos (by omega)]
  · rw [if_neg hj]
    by_cases h1 : i ≤ j ∧ j < m
    · rw [if_pos h1, if_pos (by omega)]
    · rw [if_neg h1, if_neg (by omega)]
theorem s_rm_i {f : Nat → Int32} {i m : Nat} (h : i ≤ m) : upd (s_rm f i m) m (s_rm f i m (m + 1)) = s_rm f i (m + 1) := by
  funext j; unfold upd s_rm
  by_cases hj : j = m
  · subst hj; rw [if_pos rfl, if_neg (by omega), if_pos (by omega)]
  · rw [if_neg hj]
    by_cases h1 : i ≤ j ∧ j < m
    · rw [if_pos h1, if_pos (by omega)]
    · rw [if_neg h1, if_neg (by omega)]
theorem s_rm_end {α : Type} (f : Nat → α) (i u : Nat) : s_rm f i (u - 1) = s_rem f i u := rfl
/-- is a place too near to a point -/
def s_cri (X : Nat → UInt64) (n : Nat) (x : UInt64) : Nat := s_find (fun j => !decide (sp_lt (s_mg (FP.dsub (X j) x)) 4562254508917369340)) n 0
/-- the index of a new point -/
def s_at (X : Nat → UInt64) (n : Nat) (x : UInt64) : Nat := s_find (fun j => decide (sp_lt (X j) x)) n 0
theorem s_at_le {X : Nat → UInt64} {n : Nat} {x : UInt64} : s_at X n x ≤ n := by
  have := s_find_le (c := fun j => decide (sp_lt (X j) x)) (f := n) (k := 0)
  unfold s_at; omega
theorem s_free : fx_n 13830554455654793216 ∧ ¬ sp_ge 13830554455654793216 0 := by unfold fx_n; decide +kernel
theorem s_fix_t {x : UInt64} (h : x = 13830554455654793216 ∨ (fx_n x ∧ fx_p x)) (h1 : x = 13830554455654793216) : ¬ sp_ge x 0 := by rw [h1]; exact s_free.2
theorem s_fix_f {x : UInt64} (h : x = 13830554455654793216 ∨ (fx_n x ∧ fx_p x)) (h1 : ¬ x = 13830554455654793216) : sp_ge x 0 := by
  obtain ⟨h2, h3⟩ := h.resolve_left h1
  rw [fx_ge h2 fx_n0, fx_k0]; exact fx_p_k h3
