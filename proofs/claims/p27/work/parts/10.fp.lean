/-! doubles: order by their bits as whole numbers, bounds by powers of two, grids on which sums are exact -/
def fx_z (a : UInt64) : Int := FP.Core.zval FP.Core.b64 (FP.Core.val64 a)
def fx_k (a : UInt64) : Int := FP.Core.dkey a
def fx_n (a : UInt64) : Prop := FP.Core.val64 a ≠ .nan
def fx_B (K : Nat) (a : UInt64) : Prop := a.toNat % 2 ^ 63 < K * 2 ^ 52
def fx_L (K : Nat) (a : UInt64) : Prop := K * 2 ^ 52 ≤ a.toNat % 2 ^ 63
def fx_p (a : UInt64) : Prop := a.toNat < 2 ^ 63
/-- no negative zero -/
def fx_m (a : UInt64) : Prop := a.toNat ≠ 2 ^ 63
theorem fx_nb {a : UInt64} : fx_n a ↔ a.toNat % 2 ^ 63 ≤ 9218868437227405312 := FP.Core.ne_nan a
theorem fx_n64 {r : UInt64} (h : fx_n r) : vf_n64 r := by
  unfold vf_n64
  rw [UInt64.le_iff_toNat_le, FP.Core.mask_toNat]
  exact fx_nb.mp h
theorem fx_B_n {K : Nat} {a : UInt64} (h : fx_B K a) (hK : K ≤ 2047) : fx_n a := by
  rw [fx_nb]; unfold fx_B at h; omega
theorem fx_B_fin {K : Nat} {a : UInt64} (h : fx_B K a) (hK : K ≤ 2047) : FP.Core.DFin a := FP.Core.fin_of_lt h hK
theorem fx_B_mono {K L : Nat} {a : UInt64} (h : fx_B K a) (hKL : K ≤ L) : fx_B L a := by
  exact Nat.lt_of_lt_of_le h (Nat.mul_le_mul_right _ hKL)
theorem fx_B_add {K : Nat} {a b : UInt64} (ha : fx_B K a) (hb : fx_B K b) (hK : K ≤ 2047) : fx_B (K + 2) (FP.dadd a b) := FP.Core.dadd_mag ha hb hK
theorem fx_B_sub {K : Nat} {a b : UInt64} (ha : fx_B K a) (hb : fx_B K b) (hK : K ≤ 2047) : fx_B (K + 2) (FP.dsub a b) := FP.Core.dsub_mag ha hb hK
theorem fx_B_mul {K L : Nat} {a b : UInt64} (ha : fx_B K a) (hb : fx_B L b) (hK : K ≤ 2047) (hL : L ≤ 2047) : fx_B (K + L - 1025 + 3) (FP.dmul a b) := FP.Core.dmul_mag ha hb hK hL
theorem fx_B_div {K L : Nat} {a b : UInt64} (ha : fx_B K a) (hb : fx_L L b) (hb2 : fx_B 2047 b) (hK : K ≤ 2047) (hL : 1 ≤ L) : fx_B (K + 1021 - L + 3) (FP.ddiv a b) := FP.Core.ddiv_mag ha hb hb2 hK hL
/-- sums, differences, products, quotients, with room to spare -/
theorem fx_Ba {K L M : Nat} {a b : UInt64} (ha : fx_B K a) (hb : fx_B L b) (h1 : K + 2 ≤ M) (h2 : L + 2 ≤ M) (hM : M ≤ 2049) : fx_B M (FP.dadd a b) :=
  fx_B_mono (fx_B_add (K := M - 2) (fx_B_mono ha (by omega)) (fx_B_mono hb (by omega)) (by omega)) (by omega)
theorem fx_Bs {K L M : Nat} {a b : UInt64} (ha : fx_B K a) (hb : fx_B L b) (h1 : K + 2 ≤ M) (h2 : L + 2 ≤ M) (hM : M ≤ 2049) : fx_B M (FP.dsub a b) :=
  fx_B_mono (fx_B_sub (K := M - 2) (fx_B_mono ha (by omega)) (fx_B_mono hb (by omega)) (by omega)) (by omega)
theorem fx_Bm {K L M : Nat} {a b : UInt64} (ha : fx_B K a) (hb : fx_B L b) (hK : K ≤ 2047) (hL : L ≤ 2047) (hM : K + L - 1025 + 3 ≤ M) : fx_B M (FP.dmul a b) := fx_B_mono (fx_B_mul ha hb hK hL) hM
theorem fx_Bd {K L M : Nat} {a b : UInt64} (ha : fx_B K a) (hb : fx_L L b) (hb2 : fx_B 2047 b) (hK : K ≤ 2047) (hL : 1 ≤ L) (hM : K + 1021 - L + 3 ≤ M) : fx_B M (FP.ddiv a b) := fx_B_mono (fx_B_div ha hb hb2 hK hL) hM
/-! order -/
theorem fx_cmp {a b : UInt64} (ha : fx_n a) (hb : fx_n b) : FP.dcmp a b = some (compare (fx_k a) (fx_k b)) := FP.Core.dcmp_key ha hb
theorem fx_lt {a b : UInt64} (ha : fx_n a) (hb : fx_n b) : FP.dcmp a b = some .lt ↔ fx_k a < fx_k b := FP.Core.dcmp_lt_key ha hb
theorem fx_gt {a b : UInt64} (ha : fx_n a) (hb : fx_n b) : FP.dcmp a b = some .gt ↔ fx_k b < fx_k a := FP.Core.dcmp_gt_key ha hb
theorem fx_eq {a b : UInt64} (ha : fx_n a) (hb : fx_n b) : FP.dcmp a b = some .eq ↔ fx_k a = fx_k b := FP.Core.dcmp_eq_key ha hb
theorem fx_zk {a b : UInt64} (ha : fx_n a) (hb : fx_n b) : fx_z a < fx_z b ↔ fx_k a < fx_k b := by
  rw [← fx_lt ha hb]
  constructor
  · intro h; exact FP.Core.dcmp_lt.mpr ⟨ha, hb, h⟩
  · intro h; exact (FP.Core.dcmp_lt.mp h).2.2
theorem fx_zkle {a b : UInt64} (ha : fx_n a) (hb : fx_n b) : fx_z a ≤ fx_z b ↔ fx_k a ≤ fx_k b := by
  have := fx_zk hb ha; omega
theorem fx_zkeq {a b : UInt64} (ha : fx_n a) (hb : fx_n b) : fx_z a = fx_z b ↔ fx_k a = fx_k b := by
  have := fx_zkle hb ha; have := fx_zkle ha hb; omega
theorem fx_k_pos {a : UInt64} (h : fx_p a) : fx_k a = (a.toNat : Int) := by
  unfold fx_p at h; unfold fx_k FP.Core.dkey; rw [if_neg (by omega)]
theorem fx_k_neg {a : UInt64} (h : ¬ fx_p a) : fx_k a = ((2 ^ 63 : Nat) : Int) - (a.toNat : Int) := by
  unfold fx_p at h; unfold fx_k FP.Core.dkey; rw [if_pos (by omega)]
theorem fx_k_abs (a : UInt64) : (fx_k a).natAbs = a.toNat % 2 ^ 63 := by
  have := a.toNat_lt
  by_cases h : fx_p a
  · rw [fx_k_pos h]; unfold fx_p at h; omega
  · rw [fx_k_neg h]; unfold fx_p at h; omega
/-- the bits are the order's number, but for the two zeros -/
theorem fx_inj {a b : UInt64} (h : fx_k a = fx_k b) (ha : fx_m a) (hb : fx_m b) : a = b := by
  have h1 := a.toNat_lt
  have h2 := b.toNat_lt
  unfold fx_m at ha hb
  refine UInt64.toNat.inj ?_
  by_cases pa : fx_p a <;> by_cases pb : fx_p b
  · rw [fx_k_pos pa, fx_k_pos pb] at h; omega
  · rw [fx_k_pos pa, fx_k_neg pb] at h; unfold fx_p at pa pb; omega
  · rw [fx_k_neg pa, fx_k_pos pb] at h; unfold fx_p at pa pb; omega
  · rw [fx_k_neg pa, fx_k_neg pb] at h; unfold fx_p at pa pb; omega
theorem fx_p_m {a : UInt64} (h : fx_p a) : fx_m a := by unfold fx_p at h; unfold fx_m; omega
theorem fx_p_k {a : UInt64} (h : fx_p a) : 0 ≤ fx_k a := by rw [fx_k_pos h]; omega
theorem fx_k_p {a : UInt64} (h : 0 ≤ fx_k a) (hm : fx_m a) : fx_p a := by
  by_cases pa : fx_p a
  · exact pa
  · have h1 := a.toNat_lt
    rw [fx_k_neg pa] at h; unfold fx_p at pa; unfold fx_m at hm; omega
theorem fx_k0 : fx_k 0 = 0 := by decide +kernel
theorem fx_n0 : fx_n 0 := by unfold fx_n; decide +kernel
theorem fx_B_k {K : Nat} {a : UInt64} : fx_B K a ↔ -((K * 2 ^ 52 : Nat) : Int) < fx_k a ∧ fx_k a < ((K * 2 ^ 52 : Nat) : Int) := by
  have := fx_k_abs a
  unfold fx_B; omega
theorem fx_L_k {K : Nat} {a : UInt64} (h : ((K * 2 ^ 52 : Nat) : Int) ≤ fx_k a) : fx_L K a := by
  have := fx_k_abs a
  unfold fx_L; omega
theorem fx_L_nz {K : Nat} {a : UInt64} (h : fx_L K a) (hK : 1 ≤ K) : ¬ FP.Core.DZero a := by
  rw [FP.Core.zero_bits2]; unfold fx_L at h; omega
/-! the sign changed -/
theorem fx_xor {a : Nat} (h : a < 18446744073709551616) : a ^^^ 2 ^ 63 = (a + 9223372036854775808) % 18446744073709551616 := by
  have h1 : (a ^^^ 2 ^ 63) % 2 ^ 63 = a % 2 ^ 63 := by rw [Nat.xor_mod_two_pow, Nat.mod_self, Nat.xor_zero]
  have h2 : (a ^^^ 2 ^ 63) / 2 ^ 63 = (a / 2 ^ 63) ^^^ 1 := by rw [Nat.xor_div_two_pow, Nat.div_self (Nat.two_pow_pos 63)]
  have h3 : a / 2 ^ 63 = 0 ∨ a / 2 ^ 63 = 1 := by omega
  generalize a ^^^ 2 ^ 63 = t at h1 h2
  rcases h3 with h3 | h3
  · rw [h3] at h2
    have h2 : t / 2 ^ 63 = 1 := h2
    omega
  · rw [h3] at h2
    have h2 : t / 2 ^ 63 = 0 := h2
    omega
theorem fx_neg_nat (a : UInt64) : (FP.dneg a).toNat = if a.toNat < 2 ^ 63 then a.toNat + 2 ^ 63 else a.toNat - 2 ^ 63 := by
  have h := a.toNat_lt
  have e : (FP.dneg a).toNat = a.toNat ^^^ 2 ^ 63 := by
    show (a ^^^ 0x8000000000000000).toNat = _
    rw [UInt64.toNat_xor]; rfl
  rw [e, fx_xor h]
  split <;> omega
theorem fx_neg_k (a : UInt64) : fx_k (FP.dneg a) = -fx_k a := by
  have h := a.toNat_lt
  have e := fx_neg_nat a
  by_cases pa : fx_p a
  · have pb : ¬ fx_p (FP.dneg a) := by unfold fx_p at pa ⊢; rw [e, if_pos pa]; omega
    rw [fx_k_pos pa, fx_k_neg pb, e]; unfold fx_p at pa; rw [if_pos pa]; omega
  · have pb : fx_p (FP.dneg a) := by unfold fx_p at pa ⊢; rw [e, if_neg pa]; omega
    rw [fx_k_neg pa, fx_k_pos pb, e]; unfold fx_p at pa; rw [if_neg pa]; omega
theorem fx_neg_B {K : Nat} {a : UInt64} (h : fx_B K a) : fx_B K (FP.dneg a) := by
  rw [fx_B_k] at h ⊢; rw [fx_neg_k]; omega
theorem fx_neg_n {a : UInt64} (h : fx_n a) : fx_n (FP.dneg a) := by
  rw [fx_nb, ← fx_k_abs] at h ⊢; rw [fx_neg_k]; omega
/-! signs of results -/
theorem fx_sg {a : UInt64} (h : fx_n a) : FP.Core.sgn (FP.Core.val64 a) = false ↔ fx_p a := by
  rw [FP.Core.sgn_bits h]; unfold fx_p; simp
theorem fx_rs {d : FP.Core.Datum} : FP.Core.sgn (FP.Core.round FP.Core.b64 d) = FP.Core.sgn d := by
  cases d with
  | nan => rfl
  | inf s => rfl
  | fin s c q => exact FP.Core.sgn_roundRatio FP.Core.b64 s c 1 q
theorem fx_of_sgn {r : UInt64} {d : FP.Core.Datum} (hn : fx_n r) (h : FP.Core.val64 r = d) (hs : FP.Core.sgn d = false) : fx_p r := by
  rw [← fx_sg hn, h, hs]
theorem fx_n_add {a b : UInt64} (ha : fx_p a) (hb : fx_p b) (na : fx_n a) (nb : fx_n b) : fx_n (FP.dadd a b) := by
  intro h
  have h1 := (FP.Core.dadd_nan_iff a b).mp ((FP.Core.dIsNaN_iff _).mpr h)
  have sa := (fx_sg na).mpr ha
  have sb := (fx_sg nb).mpr hb
  rcases h1 with h1 | h1 | ⟨s, h1, h2⟩
  · exact na h1
  · exact nb h1
  · rw [h1] at sa; rw [h2] at sb; cases s <;> simp [FP.Core.sgn] at sa sb
theorem fx_p_add {a b : UInt64} (ha : fx_p a) (hb : fx_p b) (na : fx_n a) (nb : fx_n b) : fx_p (FP.dadd a b) := by
  have sa := (fx_sg na).mpr ha
  have sb := (fx_sg nb).mpr hb
  refine fx_of_sgn (fx_n_add ha hb na nb) (FP.Core.val64_dadd a b) ?_
  rw [fx_rs]
  generalize FP.Core.val64 a = x at sa
  generalize FP.Core.val64 b = y at sb
  cases x with
  | nan => rfl
  | inf s => cases y with
    | nan => rfl
    | inf t => simp only [FP.Core.sgn] at sa sb; subst sa; subst sb; rfl
    | fin t d r => exact sa
  | fin s c q => cases y with
    | nan => rfl
    | inf t => exact sb
    | fin t d r =>
      simp only [FP.Core.sgn] at sa sb; subst sa; subst sb
      show FP.Core.sumSign false false (FP.Core.sumUnits false c q false d r (min q r)) = false
      unfold FP.Core.sumSign FP.Core.sumUnits
      simp only [FP.Core.signed, Bool.false_eq_true, if_false]
      split
      · rfl
      · simp; omega
theorem fx_p_mul {a b : UInt64} (ha : fx_p a) (hb : fx_p b) (na : fx_n a) (nb : fx_n b) (hn : fx_n (FP.dmul a b)) : fx_p (FP.dmul a b) := by
  have sa := (fx_sg na).mpr ha
  have sb := (fx_sg nb).mpr hb
  refine fx_of_sgn hn (FP.Core.val64_dmul a b) ?_
  rw [fx_rs]
  generalize FP.Core.val64 a = x at sa
  generalize FP.Core.val64 b = y at sb
  cases x with
  | nan => rfl
  | inf s => cases y with
    | nan => rfl
    | inf t => simp only [FP.Core.sgn] at sa sb; subst sa; subst sb; rfl
    | fin t d r =>
      simp only [FP.Core.sgn] at sa sb; subst sa; subst sb
      show FP.Core.sgn (if d = 0 then FP.Core.Datum.nan else FP.Core.Datum.inf (false != false)) = false
      split <;> rfl
  | fin s c q => cases y with
    | nan => rfl
    | inf t =>
      simp only [FP.Core.sgn] at sa sb; subst sa; subst sb
      show FP.Core.sgn (if c = 0 then FP.Core.Datum.nan else FP.Core.Datum.inf (false != false)) = false
      split <;> rfl
    | fin t d r => simp only [FP.Core.sgn] at sa sb; subst sa; subst sb; rfl
theorem fx_p_div {a b : UInt64} (ha : fx_p a) (hb : fx_p b) (na : fx_n a) (nb : fx_n b) (hn : fx_n (FP.ddiv a b)) : fx_p (FP.ddiv a b) := by
  have sa := (fx_sg na).mpr ha
  have sb := (fx_sg nb).mpr hb
  refine fx_of_sgn hn (FP.Core.val64_ddiv a b) ?_
  generalize FP.Core.val64 a = x at sa
  generalize FP.Core.val64 b = y at sb
  cases x with
  | nan => rfl
  | inf s => cases y with
    | nan => rfl
    | inf t => rfl
    | fin t d r => simp only [FP.Core.sgn] at sa sb; subst sa; subst sb; rfl
  | fin s c q => cases y with
    | nan => rfl
    | inf t => simp only [FP.Core.sgn] at sa sb; subst sa; subst sb; rfl
    | fin t d r =>
      simp only [FP.Core.sgn] at sa sb; subst sa; subst sb
      show FP.Core.sgn (if d = 0 then (if c = 0 then FP.Core.Datum.nan else FP.Core.Datum.inf (false != false)) else FP.Core.roundRatio FP.Core.b64 (false != false) c d (q - r)) = false
      split
      · split <;> rfl
      · exact FP.Core.sgn_roundRatio _ _ _ _ _
/-! exact values in units of the least number -/
theorem fx_z_neg (a : UInt64) : fx_z (FP.dneg a) = -fx_z a := by
  unfold fx_z
  rw [show FP.Core.val64 (FP.dneg a) = FP.Core.negate (FP.Core.val64 a) from FP.Core.val64_neg_bits (a := a) (b := FP.dneg a) (by
    have h := a.toNat_lt
    rw [fx_neg_nat]; split <;> omega)]
  exact FP.Core.zval_negate _ _
theorem fx_fin {a : UInt64} (h : FP.Core.DFin a) : ∃ s c q, FP.Core.val64 a = .fin s c q ∧ FP.Core.fits FP.Core.b64 (.fin s c q) := by
  obtain ⟨s, c, q, h⟩ := h
  exact ⟨s, c, q, h, h ▸ FP.Core.val64_fits a⟩
/-- a sum before rounding -/
theorem fx_sum {a b : UInt64} (ha : FP.Core.DFin a) (hb : FP.Core.DFin b) : ∃ sg n e, FP.Core.val64 (FP.dadd a b) = FP.Core.round FP.Core.b64 (.fin sg n e) ∧ FP.Core.b64.qmin ≤ e ∧ FP.Core.signed sg (FP.Core.inUnits n e FP.Core.b64.qmin) = fx_z a + fx_z b ∧ (fx_z a + fx_z b = 0 → sg = (FP.Core.sgn (FP.Core.val64 a) && FP.Core.sgn (FP.Core.val64 b))) := by
  obtain ⟨s, c, q, h1, h2⟩ := fx_fin ha
  obtain ⟨t, d, r, h3, h4⟩ := fx_fin hb
  obtain ⟨sg, n, e, h5, h6, h7⟩ := FP.Core.sum_units h2 h4
  refine ⟨sg, n, e, ?_, h6, ?_, ?_⟩
  · rw [show FP.Core.val64 (FP.dadd a b) = _ from FP.Core.val64_dadd a b, h1, h3, h5]
  · unfold fx_z; rw [h1, h3]; exact h7
  · intro h0
    have h8 : FP.Core.signed sg (FP.Core.inUnits n e FP.Core.b64.qmin) = 0 := by
      rw [h7]; unfold fx_z at h0; rw [h1, h3] at h0; exact h0
    have h9 : n = 0 := by
      have := (FP.Core.signed_eq_zero _ _).mp h8
      unfold FP.Core.inUnits at this
      rcases Nat.mul_eq_zero.mp this with h | h
      · exact h
      · have := Nat.two_pow_pos (e - FP.Core.b64.qmin).toNat; omega
    simp only [FP.Core.exactSum, FP.Core.Datum.fin.injEq] at h5
    obtain ⟨e1, e2, e3⟩ := h5
    have e4 : FP.Core.sumUnits s c q t d r (min q r) = 0 := by omega
    rw [h1, h3, ← e1]
    unfold FP.Core.sumSign
    rw [if_pos e4]; rfl
theorem fx_neg_core {b : UInt64} (hb : fx_n b) : FP.Core.dneg b = FP.dneg b := by
  refine FP.Core.val64_inj ?_ ?_
  · rw [FP.Core.val64_dneg]; exact FP.Core.negate_ne_nan hb
  · rw [FP.Core.val64_dneg]
    exact (FP.Core.val64_neg_bits (a := b) (b := FP.dneg b) (by
      have h := b.toNat_lt
      rw [fx_neg_nat]; split <;> omega)).symm
theorem fx_sub_add (a : UInt64) {b : UInt64} (hb : fx_n b) : FP.dsub a b = FP.dadd a (FP.dneg b) := by
  rw [← fx_neg_core hb]
  exact FP.Core.dsub_eq a b
theorem fx_neg_fin {a : UInt64} (h : FP.Core.DFin a) : FP.Core.DFin (FP.dneg a) := by
  rw [FP.Core.fin_bits, ← fx_k_abs] at h ⊢; rw [fx_neg_k]; omega
theorem fx_neg_sgn {a : UInt64} (h : FP.Core.DFin a) : FP.Core.sgn (FP.Core.val64 (FP.dneg a)) = !FP.Core.sgn (FP.Core.val64 a) := by
  have h1 := a.toNat_lt
  have e := fx_neg_nat a
  rw [FP.Core.sgn_bits h.ne_nan, FP.Core.sgn_bits (fx_neg_fin h).ne_nan]
  by_cases hp : a.toNat < 2 ^ 63
  · rw [if_pos hp] at e
    rw [decide_eq_true (by omega), decide_eq_false (by omega)]; rfl
  · rw [if_neg hp] at e
    rw [decide_eq_false (by omega), decide_eq_true (by omega)]; rfl
/-- rounding is exact where the value is a short multiple of a power of two -/
theorem fx_round {s : Bool} {n k E : Nat} {e : Int} (he : FP.Core.b64.qmin ≤ e) (hE : E ≤ 1900) (hk : k < 2 ^ 53) (h : FP.Core.inUnits n e FP.Core.b64.qmin = k * 2 ^ E) : ∃ c q, FP.Core.round FP.Core.b64 (.fin s n e) = .fin s c q ∧ FP.Core.inUnits c q FP.Core.b64.qmin = k * 2 ^ E := by
  have hq : FP.Core.b64.qmin = -1074 := FP.Core.qmin_b64
  have hqm : FP.Core.b64.qmax = 971 := by decide
  have hp : FP.Core.b64.p = 53 := rfl
  obtain ⟨c, q, h1, h2⟩ := FP.Core.round_exact FP.Core.good_b64 s (c := k) (q := (E : Int) - 1074) (by rw [hp]; exact hk) (by rw [hq]; omega) (by rw [hqm]; omega)
  refine ⟨c, q, ?_, ?_⟩
  · rw [← h1]
    show FP.Core.roundRatio _ s n 1 e = FP.Core.roundRatio _ s k 1 ((E : Int) - 1074)
    refine FP.Core.roundRatio_congr (by decide) (by decide) ?_
    unfold FP.Core.inUnits at h
    rw [hq] at h he
    rw [Nat.mul_one, Nat.mul_one]
    by_cases hc : e ≤ (E : Int) - 1074
    · rw [show (e - ((E : Int) - 1074)).toNat = 0 by omega, Nat.pow_zero, Nat.mul_one]
      have h3 : E = (e - -1074).toNat + ((E : Int) - 1074 - e).toNat := by omega
      rw [h3, Nat.pow_add, ← Nat.mul_assoc, Nat.mul_right_comm] at h
      exact Nat.eq_of_mul_eq_mul_right (Nat.two_pow_pos _) h
    · rw [show (((E : Int) - 1074) - e).toNat = 0 by omega, Nat.pow_zero, Nat.mul_one]
      have h3 : (e - -1074).toNat = (e - ((E : Int) - 1074)).toNat + E := by omega
      rw [h3, Nat.pow_add, ← Nat.mul_assoc] at h
      exact Nat.eq_of_mul_eq_mul_right (Nat.two_pow_pos _) h
  · rw [h2]
    unfold FP.Core.inUnits
    rw [hq, show ((E : Int) - 1074 - -1074).toNat = E by omega]
/-- the number i in units of 2 to the (e - 1074), zero without a sign -/
def fx_G (e : Nat) (i : Int) (a : UInt64) : Prop := ∃ c q, FP.Core.val64 a = .fin (decide (i < 0)) c q ∧ FP.Core.inUnits c q FP.Core.b64.qmin = i.natAbs * 2 ^ e
theorem fx_G_fin {e : Nat} {i : Int} {a : UInt64} (h : fx_G e i a) : FP.Core.DFin a := by
  obtain ⟨c, q, h, -⟩ := h; exact ⟨_, c, q, h⟩
theorem fx_G_n {e : Nat} {i : Int} {a : UInt64} (h : fx_G e i a) : fx_n a := (fx_G_fin h).ne_nan
theorem fx_G_z {e : Nat} {i : Int} {a : UInt64} (h : fx_G e i a) : fx_z a = i * ((2 ^ e : Nat) : Int) := by
  obtain ⟨c, q, h, h1⟩ := h
  unfold fx_z; rw [h]
  show FP.Core.signed (decide (i < 0)) (FP.Core.inUnits c q FP.Core.b64.qmin) = _
  rw [h1, FP.Core.signed_mul]
  congr 1
  unfold FP.Core.signed
  by_cases hi : i < 0 <;> simp [hi] <;> omega
theorem fx_G_sgn {e : Nat} {i : Int} {a : UInt64} (h : fx_G e i a) : FP.Core.sgn (FP.Core.val64 a) = decide (i < 0) := by
  obtain ⟨c, q, h, h1⟩ := h
  rw [h]; rfl
theorem fx_G_p {e : Nat} {i : Int} {a : UInt64} (h : fx_G e i a) (hi : 0 ≤ i) : fx_p a := by
  rw [← fx_sg (fx_G_n h), fx_G_sgn h]; simp; omega
theorem fx_G_m {e : Nat} {i : Int} {a : UInt64} (h : fx_G e i a) : fx_m a := by
  intro h1
  have h2 := FP.Core.sgn_bits (fx_G_n h)
  rw [fx_G_sgn h, h1] at h2
  have hi : i < 0 := by simpa using h2
  have h3 : fx_z a = 0 := (FP.Core.zval_eq_zero (fx_G_n h)).mpr (by rw [h1])
  rw [fx_G_z h] at h3
  have := Nat.two_pow_pos e
  rcases Int.mul_eq_zero.mp h3 with h4 | h4 <;> omega
theorem fx_G_of {e : Nat} {i : Int} {a : UInt64} {s : Bool} {n : Nat} {e1 : Int} (hv : FP.Core.val64 a = FP.Core.round FP.Core.b64 (.fin s n e1)) (he : FP.Core.b64.qmin ≤ e1) (hE : e ≤ 1900) (hk : i.natAbs < 2 ^ 53) (h : FP.Core.signed s (FP.Core.inUnits n e1 FP.Core.b64.qmin) = i * ((2 ^ e : Nat) : Int)) (h0 : i = 0 → s = false) : fx_G e i a := by
  have h1 : FP.Core.inUnits n e1 FP.Core.b64.qmin = i.natAbs * 2 ^ e := by
    have := congrArg Int.natAbs h
    rw [FP.Core.natAbs_signed, Int.natAbs_mul, Int.natAbs_natCast] at this
    exact this
  have hs : s = decide (i < 0) := by
    by_cases hi : i = 0
    · rw [h0 hi, hi]; rfl
    · have hpos : 0 < i.natAbs * 2 ^ e := Nat.mul_pos (by omega) (Nat.two_pow_pos _)
      have h2 := FP.Core.signed_lt_zero s hpos
      rw [← h1, h] at h2
      rw [← h2, decide_eq_decide]
      have hp2 : (0 : Int) < ((2 ^ e : Nat) : Int) := by have := Nat.two_pow_pos e; omega
      constructor
      · intro hlt
        refine Int.lt_of_not_ge fun hge => ?_
        have := Int.mul_nonneg hge (Int.le_of_lt hp2)
        omega
      · intro hlt
        exact Int.mul_neg_of_neg_of_pos hlt hp2
  obtain ⟨c, q, h2, h3⟩ := fx_round (s := s) he hE hk h1
  exact ⟨c, q, by rw [hv, h2, hs], h3⟩
theorem fx_G_add {e : Nat} {i j : Int} {a b : UInt64} (ha : fx_G e i a) (hb : fx_G e j b) (he : e ≤ 1900) (h : (i + j).natAbs < 2 ^ 53) : fx_G e (i + j) (FP.dadd a b) := by
  obtain ⟨sg, n, e1, h1, h2, h3, h4⟩ := fx_sum (fx_G_fin ha) (fx_G_fin hb)
  have h5 : fx_z a + fx_z b = (i + j) * ((2 ^ e : Nat) : Int) := by rw [fx_G_z ha, fx_G_z hb, Int.add_mul]
  refine fx_G_of h1 h2 he h (by rw [h3, h5]) (fun h0 => ?_)
  rw [h4 (by rw [h5, h0, Int.zero_mul]), fx_G_sgn ha, fx_G_sgn hb]
  by_cases hi : i < 0
  · have : ¬ j < 0 := by omega
    simp [this]
  · simp [hi]
theorem fx_G_neg {e : Nat} {i : Int} {a : UInt64} (ha : fx_G e i a) (hi : i ≠ 0) : fx_G e (-i) (FP.dneg a) := by
  obtain ⟨c, q, h, h1⟩ := ha
  refine ⟨c, q, ?_, by rw [Int.natAbs_neg]; exact h1⟩
  rw [show FP.Core.val64 (FP.dneg a) = FP.Core.negate (FP.Core.val64 a) from FP.Core.val64_neg_bits (a := a) (b := FP.dneg a) (by
    have h := a.toNat_lt
    rw [fx_neg_nat]; split <;> omega), h]
  show FP.Core.Datum.fin (!decide (i < 0)) c q = _
  by_cases hi2 : i < 0
  · rw [decide_eq_true hi2, decide_eq_false (by omega)]; rfl
  · rw [decide_eq_false hi2, decide_eq_true (by omega)]; rfl
theorem fx_G_sub {e : Nat} {i j : Int} {a b : UInt64} (ha : fx_G e i a) (hb : fx_G e j b) (he : e ≤ 1900) (h : (i - j).natAbs < 2 ^ 53) : fx_G e (i - j) (FP.dsub a b) := by
  rw [fx_sub_add a (fx_G_n hb)]
  obtain ⟨sg, n, e1, h1, h2, h3, h4⟩ := fx_sum (fx_G_fin ha) (fx_neg_fin (fx_G_fin hb))
  have h5 : fx_z a + fx_z (FP.dneg b) = (i - j) * ((2 ^ e : Nat) : Int) := by rw [fx_z_neg, fx_G_z ha, fx_G_z hb, Int.sub_mul]; omega
  refine fx_G_of h1 h2 he h (by rw [h3, h5]) (fun h0 => ?_)
  rw [h4 (by rw [h5, h0, Int.zero_mul]), fx_neg_sgn (fx_G_fin hb), fx_G_sgn ha, fx_G_sgn hb]
  by_cases hi : i < 0
  · have : j < 0 := by omega
    simp [this]
  · simp [hi]
theorem fx_G_mul {e f E : Nat} {i j : Int} {a b : UInt64} (ha : fx_G e i a) (hb : fx_G f j b) (hE : E + 1074 = e + f) (he : E ≤ 1900) (h : (i * j).natAbs < 2 ^ 53) (h0 : (i = 0 → 0 ≤ j) ∧ (j = 0 → 0 ≤ i)) : fx_G E (i * j) (FP.dmul a b) := by
  have sa := fx_G_sgn ha
  have sb := fx_G_sgn hb
  have za := fx_G_z ha
  have zb := fx_G_z hb
  obtain ⟨s, c, q, h1, h2⟩ := fx_fin (fx_G_fin ha)
  obtain ⟨t, d, r, h3, h4⟩ := fx_fin (fx_G_fin hb)
  obtain ⟨p1, p2, p3⟩ := FP.Core.product_units h2 h4
  have hq : FP.Core.b64.qmin = -1074 := FP.Core.qmin_b64
  have hv : FP.Core.val64 (FP.dmul a b) = FP.Core.round FP.Core.b64 (.fin (s != t) (c * d) (q + r)) := by
    rw [show FP.Core.val64 (FP.dmul a b) = _ from FP.Core.val64_dmul a b, h1, h3, p1]
  rw [h1] at sa; rw [h3] at sb
  simp only [FP.Core.sgn] at sa sb
  unfold fx_z at za zb; rw [h1] at za; rw [h3] at zb
  -- the magnitudes
  have ma : FP.Core.zmag FP.Core.b64 (.fin s c q) = i.natAbs * 2 ^ e := by
    have := congrArg Int.natAbs za
    unfold FP.Core.zval at this
    rw [FP.Core.natAbs_signed, Int.natAbs_mul, Int.natAbs_natCast] at this
    exact this
  have mb : FP.Core.zmag FP.Core.b64 (.fin t d r) = j.natAbs * 2 ^ f := by
    have := congrArg Int.natAbs zb
    unfold FP.Core.zval at this
    rw [FP.Core.natAbs_signed, Int.natAbs_mul, Int.natAbs_natCast] at this
    exact this
  rw [ma, mb] at p3
  have hij : (i * j).natAbs = i.natAbs * j.natAbs := Int.natAbs_mul i j
  have p4 : FP.Core.inUnits (c * d) (q + r) (2 * FP.Core.b64.qmin) = (i * j).natAbs * 2 ^ (E + 1074) := by
    rw [p3, hE, hij, Nat.pow_add]; ac_rfl
  have hsg : (s != t) = decide (i * j < 0) := by
    rw [sa, sb]
    by_cases hi : i < 0 <;> by_cases hj : j < 0
    · have := Int.mul_pos_of_neg_of_neg hi hj; simp [hi, hj]; omega
    · by_cases hj0 : j = 0
      · have := h0.2 hj0; omega
      · have := Int.mul_neg_of_neg_of_pos hi (show 0 < j by omega); simp [hi, hj, this]
    · by_cases hi0 : i = 0
      · have := h0.1 hi0; omega
      · have := Int.mul_neg_of_pos_of_neg (show 0 < i by omega) hj; simp [hi, hj, this]
    · have := Int.mul_nonneg (show 0 ≤ i by omega) (show 0 ≤ j by omega); simp [hi, hj]; omega
  obtain ⟨c1, q1, h5, h6⟩ := FP.Core.round_exact FP.Core.good_b64 (s != t) (c := (i * j).natAbs) (q := (E : Int) - 1074) (by rw [show FP.Core.b64.p = 53 from rfl]; exact h) (by rw [hq]; omega) (by rw [show FP.Core.b64.qmax = 971 by decide]; omega)
  refine ⟨c1, q1, ?_, ?_⟩
  · rw [hv, ← hsg, ← h5]
    show FP.Core.roundRatio _ (s != t) (c * d) 1 (q + r) = FP.Core.roundRatio _ (s != t) (i * j).natAbs 1 ((E : Int) - 1074)
    refine FP.Core.roundRatio_congr (by decide) (by decide) ?_
    unfold FP.Core.inUnits at p4
    rw [hq] at p2 p4
    generalize (i * j).natAbs = k at p4
    generalize c * d = n at p4
    generalize q + r = e1 at p2 p4
    rw [Nat.mul_one, Nat.mul_one]
    by_cases hc : e1 ≤ (E : Int) - 1074
    · rw [show (e1 - ((E : Int) - 1074)).toNat = 0 by omega, Nat.pow_zero, Nat.mul_one]
      have h7 : E + 1074 = (e1 - 2 * -1074).toNat + ((E : Int) - 1074 - e1).toNat := by omega
      rw [h7, Nat.pow_add, ← Nat.mul_assoc, Nat.mul_right_comm] at p4
      exact Nat.eq_of_mul_eq_mul_right (Nat.two_pow_pos _) p4
    · rw [show (((E : Int) - 1074) - e1).toNat = 0 by omega, Nat.pow_zero, Nat.mul_one]
      have h7 : (e1 - 2 * -1074).toNat = (e1 - ((E : Int) - 1074)).toNat + (E + 1074) := by omega
      rw [h7, Nat.pow_add, ← Nat.mul_assoc] at p4
      exact Nat.eq_of_mul_eq_mul_right (Nat.two_pow_pos _) p4
  · rw [h6]
    unfold FP.Core.inUnits
    rw [hq, show ((E : Int) - 1074 - -1074).toNat = E by omega]
/-- bounds of a grid's number -/
theorem fx_G_mag {e : Nat} {i : Int} {a : UInt64} (h : fx_G e i a) : FP.Core.unitsOf FP.Core.b64 (a.toNat % 2 ^ 63) = i.natAbs * 2 ^ e := by
  have h1 := FP.Core.zmag_bits (fx_G_n h)
  obtain ⟨c, q, h2, h3⟩ := h
  rw [← h1, h2]; exact h3
theorem fx_G_B {e m K : Nat} {i : Int} {a : UInt64} (h : fx_G e i a) (hi : i.natAbs ≤ 2 ^ m) (hK : K + 50 = m + e) (h2 : 2 ≤ K) : fx_B K a := by
  unfold fx_B
  have h1 := fx_G_mag h
  have h3 : FP.Core.unitsOf FP.Core.b64 (a.toNat % 2 ^ 63) ≤ FP.Core.unitsOf FP.Core.b64 ((K - 1) * FP.Core.b64.tails) := by
    rw [h1, FP.Core.unitsOf_start (by omega), FP.Core.tails_b64]
    calc i.natAbs * 2 ^ e ≤ 2 ^ m * 2 ^ e := Nat.mul_le_mul_right _ hi
      _ = 2 ^ (m + e) := (Nat.pow_add ..).symm
      _ = 2 ^ (52 + (K - 1 - 1)) := by congr 1; omega
      _ = 2 ^ 52 * 2 ^ (K - 1 - 1) := Nat.pow_add ..
  have h4 := FP.Core.unitsOf_le_iff.mp h3
  rw [FP.Core.tails_b64] at h4
  omega
theorem fx_G_L {e m K : Nat} {i : Int} {a : UInt64} (h : fx_G e i a) (hi : 2 ^ m ≤ i.natAbs) (hK : K + 51 = m + e) (h1 : 1 ≤ K) : fx_L K a := by
  unfold fx_L
  have h2 := fx_G_mag h
  have h3 : FP.Core.unitsOf FP.Core.b64 (K * FP.Core.b64.tails) ≤ FP.Core.unitsOf FP.Core.b64 (a.toNat % 2 ^ 63) := by
    rw [h2, FP.Core.unitsOf_start h1, FP.Core.tails_b64]
    calc 2 ^ 52 * 2 ^ (K - 1) = 2 ^ (52 + (K - 1)) := (Nat.pow_add ..).symm
      _ = 2 ^ (m + e) := by congr 1; omega
      _ = 2 ^ m * 2 ^ e := Nat.pow_add ..
      _ ≤ i.natAbs * 2 ^ e := Nat.mul_le_mul_right _ hi
  have h4 := FP.Core.unitsOf_le_iff.mp h3
  rw [FP.Core.tails_b64] at h4
  exact h4
theorem fx_G_lt {e : Nat} {i j : Int} {a b : UInt64} (ha : fx_G e i a) (hb : fx_G e j b) : fx_k a < fx_k b ↔ i < j := by
  rw [← fx_zk (fx_G_n ha) (fx_G_n hb), fx_G_z ha, fx_G_z hb]
  have hp2 : (0 : Int) < ((2 ^ e : Nat) : Int) := by have := Nat.two_pow_pos e; omega
  constructor
  · intro h
    refine Int.lt_of_not_ge fun hge => ?_
    have := Int.mul_le_mul_of_nonneg_right hge (Int.le_of_lt hp2)
    omega
  · intro h; exact Int.mul_lt_mul_of_pos_right h hp2
theorem fx_G_inj {e : Nat} {i j : Int} {a : UInt64} (ha : fx_G e i a) (hb : fx_G e j a) : i = j := by
  have h1 := fx_G_lt ha hb
  have h2 := fx_G_lt hb ha
  omega
theorem fx_G_bits {e : Nat} {i : Int} {a b : UInt64} (ha : fx_G e i a) (hb : fx_G e i b) : a = b := by
  have h1 := fx_G_lt ha hb
  have h2 := fx_G_lt hb ha
  exact fx_inj (by omega) (fx_G_m ha) (fx_G_m hb)
/-- a sum whose first number is no negative zero is none -/
theorem fx_add_m {a b : UInt64} (ha : FP.Core.DFin a) (hb : FP.Core.DFin b) (hm : fx_m a) : fx_m (FP.dadd a b) := by
  obtain ⟨sg, n, e, h1, h2, h3, h4⟩ := fx_sum ha hb
  intro hz
  have hn : fx_n (FP.dadd a b) := by rw [fx_nb, hz]; decide
  have hq : FP.Core.b64.qmin = -1074 := FP.Core.qmin_b64
  have hs : FP.Core.sgn (FP.Core.val64 (FP.dadd a b)) = true := by
    rw [FP.Core.sgn_bits hn, hz]; decide
  rw [h1, fx_rs] at hs
  have hs : sg = true := hs
  by_cases h0 : fx_z a + fx_z b = 0
  · have h5 := h4 h0
    rw [hs] at h5
    have h6 : FP.Core.sgn (FP.Core.val64 a) = true ∧ FP.Core.sgn (FP.Core.val64 b) = true := by
      rw [eq_comm, Bool.and_eq_true] at h5; exact h5
    have pa : ¬ fx_p a := by rw [← fx_sg ha.ne_nan, h6.1]; simp
    have pb : ¬ fx_p b := by rw [← fx_sg hb.ne_nan, h6.2]; simp
    have za : fx_z a ≤ 0 := FP.Core.zval_nonpos ha.ne_nan (by unfold fx_p at pa; omega)
    have zb : fx_z b ≤ 0 := FP.Core.zval_nonpos hb.ne_nan (by unfold fx_p at pb; omega)
    have z0 : fx_z a = 0 := by omega
    have := (FP.Core.zval_eq_zero ha.ne_nan).mp z0
    have := a.toNat_lt
    unfold fx_p at pa; unfold fx_m at hm; omega
  · -- the sum is at least one unit, so its rounding is none of the zeros
    have hz0 : fx_z (FP.dadd a b) = 0 := (FP.Core.zval_eq_zero hn).mpr (by rw [hz])
    have hV : FP.Core.fits FP.Core.b64 (.fin true 1 FP.Core.b64.qmin) := ⟨by decide, by decide, by decide, Or.inl rfl⟩
    have h7 := FP.Core.zval_round_le FP.Core.good_b64 (s := sg) (c := n) (q := e) (e0 := FP.Core.b64.qmin) hV (by exact FP.Core.Datum.noConfusion) (by omega) h2 (by
      rw [h3, show FP.Core.zval FP.Core.b64 (.fin true 1 FP.Core.b64.qmin) = -1 by decide, show (FP.Core.b64.qmin - FP.Core.b64.qmin).toNat = 0 by decide]
      have : FP.Core.signed sg (FP.Core.inUnits n e FP.Core.b64.qmin) ≤ 0 := by rw [hs]; simp [FP.Core.signed]
      simp only [Nat.pow_zero]; omega)
    unfold fx_z at hz0
    rw [h1] at hz0
    rw [hz0, show FP.Core.zval FP.Core.b64 (.fin true 1 FP.Core.b64.qmin) = -1 by decide] at h7
    omega
/-- a difference of two ordered numbers has no sign -/
theorem fx_sub_p {a b : UInt64} (ha : FP.Core.DFin a) (hb : FP.Core.DFin b) (hm : fx_m b) (h : fx_k a ≤ fx_k b) (hn : fx_n (FP.dsub b a)) : fx_p (FP.dsub b a) := by
  rw [fx_sub_add b ha.ne_nan] at hn ⊢
  obtain ⟨sg, n, e, h1, h2, h3, h4⟩ := fx_sum hb (fx_neg_fin ha)
  have hz := (fx_zkle ha.ne_nan hb.ne_nan).mpr h
  refine fx_of_sgn hn h1 ?_
  rw [fx_rs]
  show sg = false
  rw [fx_z_neg] at h3 h4
  by_cases h0 : fx_z b + -fx_z a = 0
  · rw [h4 h0, fx_neg_sgn ha]
    by_cases pb : fx_p b
    · rw [(fx_sg hb.ne_nan).mpr pb]; rfl
    · have pa : ¬ fx_p a := by
        intro pa
        have z1 : fx_z b ≤ 0 := FP.Core.zval_nonpos hb.ne_nan (by unfold fx_p at pb; omega)
        have z2 : 0 ≤ fx_z a := FP.Core.zval_nonneg ha.ne_nan pa
        have z0 : fx_z b = 0 := by omega
        have := (FP.Core.zval_eq_zero hb.ne_nan).mp z0
        have := b.toNat_lt
        unfold fx_p at pb; unfold fx_m at hm; omega
      have : FP.Core.sgn (FP.Core.val64 a) = true := by
        cases hs : FP.Core.sgn (FP.Core.val64 a) with
        | true => rfl
        | false => exact absurd ((fx_sg ha.ne_nan).mp hs) pa
      rw [this]; simp
  · cases sg with
    | false => rfl
    | true =>
      have : FP.Core.signed true (FP.Core.inUnits n e FP.Core.b64.qmin) ≤ 0 := by simp [FP.Core.signed]
      omega
