/-! the law's state between two steps -/
def vb (j : Nat) : Int := ((1024 + 5 * j : Nat) : Int) * ((2 ^ 1074 : Nat) : Int)
theorem vb_le (j : Nat) : vb j ≤ vb (j + 1) := Int.mul_le_mul_of_nonneg_right (by omega) (Int.natCast_nonneg _)
theorem vb_z {j : Nat} (hj : j ≤ 20) : fx_z (FP.i2d (nI (1024 + 5 * j))) = vb j := by
  have h := fx_i2d (nI (1024 + 5 * j))
  rw [nI_toInt (by omega)] at h
  exact fx_G_z h
theorem vb_n (j : Nat) : fx_n (FP.i2d (nI (1024 + 5 * j))) := fx_G_n (fx_i2d _)
theorem vb_5 : fx_B 1026 4617315517961601024 ∧ fx_z 4617315517961601024 = 5 * ((2 ^ 1074 : Nat) : Int) := by unfold fx_B; decide +kernel
theorem vb_s (j : Nat) : vb (j + 1) = vb j + 5 * ((2 ^ 1074 : Nat) : Int) := by
  unfold vb
  rw [show ((1024 + 5 * (j + 1) : Nat) : Int) = ((1024 + 5 * j : Nat) : Int) + 5 by omega, Int.add_mul]
theorem fx_z0 : fx_z 0 = 0 := by decide +kernel
theorem vb_mil {j : Nat} (hj : j ≤ 20) : vb j ≤ fx_z 4696837146684686336 := by
  have h : fx_z 4696837146684686336 = 1000000 * ((2 ^ 1074 : Nat) : Int) := by decide +kernel
  rw [h]
  exact Int.mul_le_mul_of_nonneg_right (by omega) (Int.natCast_nonneg _)
theorem fx_milN : fx_n 4696837146684686336 ∧ fx_n 13920209183539462144 ∧ fx_z 13920209183539462144 = -fx_z 4696837146684686336 ∧ fx_k 4696837146684686336 = 4696837146684686336 ∧ fx_k 13920209183539462144 = -4696837146684686336 := by unfold fx_n; decide +kernel
theorem fx_gapN : fx_n 4547007122018943789 ∧ fx_k 4547007122018943789 = 4547007122018943789 := by unfold fx_n; decide +kernel
def LJ (j n : Nat) (P V F : Nat → UInt64) : Prop :=
  KI n P V F ∧ n ≤ 6 + j ∧ P 0 = 0 ∧ (∃ i, i < 4 ∧ P (n - 1) = s_gx (i + 2)) ∧ ∀ k, k < n → -vb j ≤ fx_z (V k) ∧ fx_z (V k) ≤ vb j
theorem LJ_up {j n : Nat} {P V F : Nat → UInt64} (h : LJ j n P V F) : LJ (j + 1) n P V F := by
  obtain ⟨h1, h2, h3, h4, h5⟩ := h
  have h6 := vb_le j
  exact ⟨h1, by omega, h3, h4, fun k hk => by have := h5 k hk; omega⟩
theorem LJ_start {n : Nat} {P V F : Nat → UInt64} (h : KI n P V F) (hn : n ≤ 6) (hV : ∀ k, k < n → fx_B 1033 (V k)) (h0 : P 0 = 0) (h1 : ∃ i, i < 4 ∧ P (n - 1) = s_gx (i + 2)) : LJ 0 n P V F := by
  refine ⟨h, by omega, h0, h1, fun k hk => ?_⟩
  have h2 := fx_B_k.mp (hV k hk)
  have hn1 := fx_B_n (hV k hk) (by omega)
  have c1 : fx_n 4652218415073722368 ∧ fx_k 4652218415073722368 = ((1033 * 2 ^ 52 : Nat) : Int) ∧ fx_z 4652218415073722368 = vb 0 := by unfold fx_n; decide +kernel
  have c2 : fx_n 13875590451928498176 ∧ fx_k 13875590451928498176 = -((1033 * 2 ^ 52 : Nat) : Int) ∧ fx_z 13875590451928498176 = -vb 0 := by unfold fx_n; decide +kernel
  have h3 := (fx_zkle c2.1 hn1).mpr (by rw [c2.2.1]; omega)
  have h4 := (fx_zkle hn1 c1.1).mpr (by rw [c1.2.1]; omega)
  rw [c2.2.2] at h3; rw [c1.2.2] at h4
  exact ⟨h3, h4⟩
/-! a place between two knots -/
theorem gap_of {a b : UInt64} (fa : FP.Core.DFin a) (fb : FP.Core.DFin b) (nd : fx_n (FP.dsub b a)) (h : ¬ sp_lt (FP.dsub b a) 4547007122018943789) : fx_z a + ((2 ^ 1060 : Nat) : Int) ≤ fx_z b := by
  obtain ⟨c1, c2, c3⟩ := fx_c14
  obtain ⟨g1, g2⟩ := fx_gapN
  refine Int.not_lt.mp (fun h1 => ?_)
  have h2 := fx_zsub_le fa fb c1 (by rw [c3]; omega)
  have h3 := (fx_zkle nd c1).mp h2
  rw [c2] at h3
  exact h ((fx_lt nd g1).mpr (by rw [g2]; omega))
theorem ins_x {n : Nat} {P V F : Nat → UInt64} {x : UInt64} (h : KI n P V F) (h0 : P 0 = 0) (hxp : fx_p x) (hxB : fx_B 1026 x) (h2 : ¬ sp_lt (FP.dsub x (P (s_pc P n x))) 4547007122018943789) (h3 : ¬ sp_lt (FP.dsub (P (s_pc P n x + 1)) x) 4547007122018943789) :
    s_st x = x ∧ (0 < n ∧ sp_gt x (P 0) ∧ sp_lt x (P (n - 1))) ∧ fx_z (P (s_pc P n x)) + ((2 ^ 1060 : Nat) : Int) ≤ fx_z x ∧ fx_z x + ((2 ^ 1060 : Nat) : Int) ≤ fx_z (P (s_pc P n x + 1)) := by
  have hlt := s_pc_lt (P := P) (x := x) h.1.1
  generalize s_pc P n x = k at *
  have hG := h.1.2.2.1
  have b1 := hG.1 k (by omega)
  have b2 := hG.1 (k + 1) hlt
  have nx := fx_B_n hxB (by omega)
  have fx := fx_B_fin hxB (by omega)
  have g1 := gap_of (fx_B_fin b1 (by omega)) fx (fx_B_n (fx_Bs (M := 1100) hxB b1 (by omega) (by omega) (by omega)) (by omega)) h2
  have g2 := gap_of fx (fx_B_fin b2 (by omega)) (fx_B_n (fx_Bs (M := 1100) b2 hxB (by omega) (by omega) (by omega)) (by omega)) h3
  have u1 := PG_up hG (i := 0) (j := k) (by omega) (by omega)
  have u2 := PG_up hG (i := k + 1) (j := n - 1) (by omega) (by omega)
  have p2 : (0 : Int) < ((2 ^ 1060 : Nat) : Int) := by have := Nat.two_pow_pos 1060; omega
  have hz0 := fx_z0
  obtain ⟨c1, c2, c3⟩ := fx_c14
  obtain ⟨a1, a2, a3, a4⟩ := fx_tiny
  rw [h0, hz0] at u1
  have k1 : fx_k 4544132024016830464 ≤ fx_k x := (fx_zkle c1 nx).mp (by rw [c3]; omega)
  refine ⟨?_, ⟨by omega, ?_, ?_⟩, g1, g2⟩
  · unfold s_st
    refine if_neg (fun h9 => ?_)
    have h4 := (fx_lt nx a1).mp h9.2
    rw [a2] at h4; rw [c2] at k1; omega
  · rw [h0]
    exact (fx_gt nx fx_n0).mpr ((fx_zk fx_n0 nx).mp (by rw [hz0]; omega))
  · exact (fx_lt nx (fx_B_n (hG.1 (n - 1) (by omega)) (by omega))).mpr ((fx_zk nx (fx_B_n (hG.1 (n - 1) (by omega)) (by omega))).mp (by omega))
theorem ins_m {n k : Nat} {P V F : Nat → UInt64} {x : UInt64} (h : KI n P V F) (hlt : k + 1 < n) (hxB : fx_B 1168 x) : (fx_n (s_hk P V F n k x) ∧ fx_m (s_hk P V F n k x)) ∧ fx_n (s_tk P V F n k x) ∧ fx_m (s_tk P V F n k x) := by
  have hE := PE_of h hlt
  have ht := PE_x h hlt hxB
  have hh := (PE_h hE ht).2.2.2.2.2
  have htt := (PE_t hE ht).2.2.2.2.2
  have hs := kI_s h (k := k) (by omega)
  obtain ⟨⟨j1, j2, jG, j3, j4⟩, hF⟩ := h
  have v0 := j3 k (by omega)
  refine ⟨⟨fx_B_n hh (by omega), ?_⟩, fx_B_n htt (by omega), ?_⟩
  · exact fx_add_m (fx_B_fin v0.1 (by omega)) (fx_B_fin (by
      have := fx_Bm (M := 1580) ht (fx_Ba (M := 1432) hE.2.1 (fx_Bm (M := 1430) ht (fx_Ba (M := 1282) hE.2.2.1 (fx_Bm (M := 1280) ht hE.2.2.2 (by omega) (by omega) (by omega)) (by omega) (by omega) (by omega)) (by omega) (by omega) (by omega)) (by omega) (by omega) (by omega)) (by omega) (by omega) (by omega)
      exact this) (by omega)) v0.2
  · exact fx_add_m (fx_B_fin hs.1 (by omega)) (fx_B_fin (by
      have := fx_Bm (M := 1430) ht (fx_Ba (M := 1282) (fx_Bm (M := 1129) fx_c2.1 hE.2.2.1 (by omega) (by omega) (by omega)) (fx_Bm (M := 1280) ht (fx_Bm (M := 1129) fx_c3.1 hE.2.2.2 (by omega) (by omega) (by omega)) (by omega) (by omega) (by omega)) (by omega) (by omega) (by omega)) (by omega) (by omega) (by omega)
      exact this) (by omega)) (fx_p_m hs.2.1)
theorem s_max_or (a b : UInt64) : s_max a b = a ∨ s_max a b = b := by unfold s_max; split; exact Or.inl rfl; exact Or.inr rfl
theorem kept_eq {lo hi y : UInt64} (ny : fx_n y) (nl : fx_n lo) (nh : fx_n hi) (my : fx_m y) (ml : fx_m lo) (mh : fx_m hi) (h : fx_k lo ≤ fx_k hi) : s_min (s_max y lo) hi = s_within lo hi y := by
  have e1 := fx_lt ny nl
  have e2 := fx_gt ny nl
  have e3 := fx_gt ny nh
  have e4 := fx_lt ny nh
  have e5 := fx_lt nl nh
  unfold s_within s_max
  by_cases c1 : sp_lt y lo
  · have d1 := e1.mp c1
    rw [if_pos c1, if_neg (fun h9 => by have := e2.mp h9; omega)]
    unfold s_min
    by_cases c2 : sp_lt lo hi
    · rw [if_pos c2]
    · rw [if_neg c2]
      have d2 : ¬ fx_k lo < fx_k hi := fun h9 => c2 (e5.mpr h9)
      exact fx_inj (by omega) mh ml
  · rw [if_neg c1]
    have d1 : ¬ fx_k y < fx_k lo := fun h9 => c1 (e1.mpr h9)
    have hmx : (if sp_gt y lo then y else lo) = y := by
      by_cases c2 : sp_gt y lo
      · rw [if_pos c2]
      · rw [if_neg c2]
        have d2 : ¬ fx_k lo < fx_k y := fun h9 => c2 (e2.mpr h9)
        exact fx_inj (by omega) ml my
    rw [hmx]
    unfold s_min
    by_cases c3 : sp_gt y hi
    · have d3 := e3.mp c3
      rw [if_pos c3, if_neg (fun h9 => by have := e4.mp h9; omega)]
    · rw [if_neg c3]
      have d3 : ¬ fx_k hi < fx_k y := fun h9 => c3 (e3.mpr h9)
      by_cases c4 : sp_lt y hi
      · rw [if_pos c4]
      · rw [if_neg c4]
        have d4 : ¬ fx_k y < fx_k hi := fun h9 => c4 (e4.mpr h9)
        exact fx_inj (by omega) mh my
theorem slp_eq {t : UInt64} (nt : fx_n t) (mt : fx_m t) : s_max t 0 = if sp_lt t 0 then 0 else t := by
  have e1 := fx_lt0 nt
  have e2 := fx_gt nt fx_n0
  rw [fx_k0] at e2
  unfold s_max
  by_cases c1 : sp_lt t 0
  · have d1 := e1.mp c1
    rw [if_pos c1, if_neg (fun h9 => by have := e2.mp h9; omega)]
  · rw [if_neg c1]
    have d1 : ¬ fx_k t < 0 := fun h9 => c1 (e1.mpr h9)
    by_cases c2 : sp_gt t 0
    · rw [if_pos c2]
    · rw [if_neg c2]
      have d2 : ¬ 0 < fx_k t := fun h9 => c2 (e2.mpr h9)
      exact fx_inj (by rw [fx_k0]; omega) (by unfold fx_m; decide) mt
theorem LJ_ins {j n : Nat} {P V F : Nat → UInt64} {x : UInt64} (h : LJ j n P V F) (hxp : fx_p x) (hxB : fx_B 1026 x) (h2 : ¬ sp_lt (FP.dsub x (P (s_pc P n x))) 4547007122018943789) (h3 : ¬ sp_lt (FP.dsub (P (s_pc P n x + 1)) x) 4547007122018943789) (hj : j < 9) :
    LJ (j + 1) (n + 1) (s_ins P (s_pc P n x + 1) n x) (s_ins V (s_pc P n x + 1) n (s_within (V (s_pc P n x)) (V (s_pc P n x + 1)) (s_hk P V F n (s_pc P n x) x))) (s_ins F (s_pc P n x + 1) n (if sp_lt (s_tk P V F n (s_pc P n x) x) 0 then 0 else s_tk P V F n (s_pc P n x) x)) := by
  have h9 := vb_le j
  obtain ⟨hK, hn6, h0, hE9, hV⟩ := h
  obtain ⟨-, -, g1, g2⟩ := ins_x hK h0 hxp hxB h2 h3
  have hlt := s_pc_lt (P := P) (x := x) hK.1.1
  generalize s_pc P n x = k at *
  obtain ⟨⟨hhn, hhm⟩, htn, htm⟩ := ins_m (x := x) hK hlt (fx_B_mono hxB (by omega))
  obtain ⟨⟨j1, j2, jG, j3, j4⟩, hF⟩ := hK
  have v0 := j3 k (by omega)
  have v1 := j3 (k + 1) hlt
  have n0 := fx_B_n v0.1 (by omega)
  have n1 := fx_B_n v1.1 (by omega)
  have hkept : fx_n (s_within (V k) (V (k + 1)) (s_hk P V F n k x)) ∧ fx_m (s_within (V k) (V (k + 1)) (s_hk P V F n k x)) ∧ fx_k (V k) ≤ fx_k (s_within (V k) (V (k + 1)) (s_hk P V F n k x)) ∧ fx_k (s_within (V k) (V (k + 1)) (s_hk P V F n k x)) ≤ fx_k (V (k + 1)) := by
    have hmn := j4 k hlt
    unfold s_within
    by_cases c1 : sp_lt (s_hk P V F n k x) (V k)
    · rw [if_pos c1]; exact ⟨n0, v0.2, Int.le_refl _, hmn⟩
    · rw [if_neg c1]
      have c1' : ¬ fx_k (s_hk P V F n k x) < fx_k (V k) := fun h9 => c1 ((fx_lt hhn n0).mpr h9)
      by_cases c2 : sp_gt (s_hk P V F n k x) (V (k + 1))
      · rw [if_pos c2]; exact ⟨n1, v1.2, hmn, Int.le_refl _⟩
      · rw [if_neg c2]
        have c2' : ¬ fx_k (V (k + 1)) < fx_k (s_hk P V F n k x) := fun h9 => c2 ((fx_gt hhn n1).mpr h9)
        exact ⟨hhn, hhm, by omega, by omega⟩
  have hkB : fx_B 1063 (s_within (V k) (V (k + 1)) (s_hk P V F n k x)) := by
    have a1 := fx_B_k.mp v0.1
    have a2 := fx_B_k.mp v1.1
    rw [fx_B_k]; omega
  have hslp : fx_n (if sp_lt (s_tk P V F n k x) 0 then 0 else s_tk P V F n k x) ∧ fx_p (if sp_lt (s_tk P V F n k x) 0 then 0 else s_tk P V F n k x) := by
    by_cases c1 : sp_lt (s_tk P V F n k x) 0
    · rw [if_pos c1]; exact ⟨fx_n0, by unfold fx_p; decide⟩
    · rw [if_neg c1]
      exact ⟨htn, fx_k_p (Int.not_lt.mp (fun h9 => c1 ((fx_lt0 htn).mpr h9))) htm⟩
  have hkz := (fx_zkle n0 hkept.1).mpr hkept.2.2.1
  have hkz2 := (fx_zkle hkept.1 n1).mpr hkept.2.2.2
  have b0 := hV k (by omega)
  have b1 := hV (k + 1) hlt
  refine ⟨⟨⟨by omega, by omega, ⟨?_, ?_⟩, ?_, ?_⟩, ?_⟩, by omega, ?_, ?_, ?_⟩
  · exact ins_all (Q := fun a => fx_B 1045 a) jG.1 (fx_B_mono hxB (by omega)) (by omega)
  · exact ins_mono (R := fun a b => fx_z a + ((2 ^ 1060 : Nat) : Int) ≤ fx_z b) jG.2 (by omega) (fun _ => g1) (fun _ => g2)
  · exact ins_all (Q := fun a => fx_B 1063 a ∧ fx_m a) j3 ⟨hkB, hkept.2.1⟩ (by omega)
  · exact ins_mono (R := fun a b => fx_k a ≤ fx_k b) j4 (by omega) (fun _ => hkept.2.2.1) (fun _ => hkept.2.2.2)
  · exact ins_all (Q := fun a => a = 13830554455654793216 ∨ (fx_n a ∧ fx_p a)) hF (Or.inr hslp) (by omega)
  · unfold s_ins; rw [if_neg (by omega), if_neg (by omega)]; exact h0
  · obtain ⟨i, hi, he⟩ := hE9
    refine ⟨i, hi, ?_⟩
    unfold s_ins
    rw [if_neg (by omega), if_pos (by omega), show n + 1 - 1 - 1 = n - 1 by omega]
    exact he
  · exact ins_all (Q := fun a => -vb (j + 1) ≤ fx_z a ∧ fx_z a ≤ vb (j + 1)) (fun i hi => by have := hV i hi; omega) (by omega) (by omega)
theorem LJ_rem {j n k : Nat} {P V F : Nat → UInt64} (h : LJ j n P V F) (h0 : 0 < k) (hk : k + 1 < n) : LJ (j + 1) (n - 1) (s_rem P k n) (s_rem V k n) (s_rem F k n) := by
  have h9 := vb_le j
  obtain ⟨⟨⟨j1, j2, jG, j3, j4⟩, hF⟩, hn6, hP0, ⟨i, hi, he⟩, hV⟩ := h
  refine ⟨⟨⟨by omega, by omega, ⟨?_, ?_⟩, ?_, ?_⟩, ?_⟩, by omega, ?_, ⟨i, hi, ?_⟩, ?_⟩
  · exact rem_all (Q := fun a => fx_B 1045 a) jG.1
  · exact rem_mono (R := fun a b => fx_z a + ((2 ^ 1060 : Nat) : Int) ≤ fx_z b) (fun a b c h1 h2 => by have := Int.natCast_nonneg (2 ^ 1060); omega) jG.2
  · exact rem_all (Q := fun a => fx_B 1063 a ∧ fx_m a) j3
  · exact rem_mono (R := fun a b => fx_k a ≤ fx_k b) (fun _ _ _ => Int.le_trans) j4
  · exact rem_all (Q := fun a => a = 13830554455654793216 ∨ (fx_n a ∧ fx_p a)) hF
  · unfold s_rem; rw [if_neg (by omega)]; exact hP0
  · unfold s_rem; rw [if_pos (by omega), show n - 1 - 1 + 1 = n - 1 by omega]; exact he
  · exact rem_all (Q := fun a => -vb (j + 1) ≤ fx_z a ∧ fx_z a ≤ vb (j + 1)) (fun i hi => by have := hV i hi; omega)
theorem LJ_fix {j n k : Nat} {P V F : Nat → UInt64} {t : UInt64} (h : LJ j n P V F) (ht : t = 13830554455654793216 ∨ (fx_n t ∧ fx_p t)) : LJ (j + 1) n P V (vf_upd F k t) := by
  obtain ⟨h1, h2, h3, h4, h5⟩ := LJ_up h
  refine ⟨⟨h1.1, fun j hj => ?_⟩, h2, h3, h4, h5⟩
  unfold vf_upd
  split
  · exact ht
  · exact h1.2 j hj
theorem KI_fix {kn k : Nat} {P V F : Nat → UInt64} {t : UInt64} (h : KI kn P V F) (ht : t = 13830554455654793216 ∨ (fx_n t ∧ fx_p t)) : KI kn P V (vf_upd F k t) := by
  refine ⟨h.1, fun j hj => ?_⟩
  unfold vf_upd
  split
  · exact ht
  · exact h.2 j hj
/-! a slope chosen, a value chosen -/
def s_ft (b : Nat) : UInt64 := FP.ddiv (FP.i2d (nI b)) 4621256167635550208
theorem ft_ok {b : Nat} (hb : b < 500) : s_st (s_ft b) = s_ft b ∧ fx_n (s_ft b) ∧ fx_p (s_ft b) ∧ sp_ge (s_ft b) 0 ∧ sp_le (s_ft b) 4696837146684686336 := by
  obtain ⟨h1, h2⟩ := fin_t b hb
  have hp : fx_p (s_ft b) := Nat.lt_of_le_of_lt h2 (by decide)
  have hn : fx_n (s_ft b) := fx_nb.mpr (by unfold fx_p at hp; rw [Nat.mod_eq_of_lt hp]; exact Nat.le_trans h2 (by decide))
  obtain ⟨m1, m2, m3, m4, m5⟩ := fx_milN
  refine ⟨h1, hn, hp, (fx_ge hn fx_n0).mpr (by rw [fx_k0]; exact fx_p_k hp), (fx_le hn m1).mpr ?_⟩
  rw [m4, fx_k_pos hp]
  exact Int.ofNat_le.mpr h2
def s_lo (V : Nat → UInt64) (k : Nat) : UInt64 := if k = 0 then FP.dsub (V 0) 4617315517961601024 else V (k - 1)
def s_hi (V : Nat → UInt64) (n k : Nat) : UInt64 := if k = n - 1 then FP.dadd (V (n - 1)) 4617315517961601024 else V (k + 1)
theorem lh_B {n k : Nat} {P V F : Nat → UInt64} (h : KI n P V F) (hk : k < n) : fx_B 1066 (s_lo V k) ∧ fx_B 1066 (s_hi V n k) := by
  have j3 := h.1.2.2.2.1
  have j1 := h.1.1
  constructor
  · unfold s_lo
    split
    · exact fx_Bs (j3 0 (by omega)).1 vb_5.1 (by omega) (by omega) (by omega)
    · exact fx_B_mono (j3 (k - 1) (by omega)).1 (by omega)
  · unfold s_hi
    split
    · exact fx_Ba (j3 (n - 1) (by omega)).1 vb_5.1 (by omega) (by omega) (by omega)
    · exact fx_B_mono (j3 (k + 1) (by omega)).1 (by omega)
theorem lh_z {j n k : Nat} {P V F : Nat → UInt64} (h : LJ j n P V F) (hk : k < n) (hj : j < 9) : -vb (j + 1) ≤ fx_z (s_lo V k) ∧ fx_z (s_hi V n k) ≤ vb (j + 1) := by
  obtain ⟨hK, h2, h3, h4, h5⟩ := h
  have j3 := hK.1.2.2.2.1
  have j1 := hK.1.1
  have h9 := vb_le j
  have e1 := vb_s j
  obtain ⟨b5, z5⟩ := vb_5
  have f5 := fx_B_fin b5 (by omega)
  have vz := vb_z (j := j + 1) (by omega)
  have vn := vb_n (j + 1)
  constructor
  · unfold s_lo
    split
    · have a1 := h5 0 (by omega)
      have := fx_zsub_ge (v := FP.dneg (FP.i2d (nI (1024 + 5 * (j + 1))))) f5 (fx_B_fin (j3 0 (by omega)).1 (by omega)) (fx_neg_n vn) (by rw [fx_z_neg, vz, z5]; omega)
      rw [fx_z_neg, vz] at this; exact this
    · have a1 := h5 (k - 1) (by omega)
      omega
  · unfold s_hi
    split
    · have a1 := h5 (n - 1) (by omega)
      have := fx_zadd_le (v := FP.i2d (nI (1024 + 5 * (j + 1)))) (fx_B_fin (j3 (n - 1) (by omega)).1 (by omega)) f5 vn (by rw [vz, z5]; omega)
      rw [vz] at this; exact this
    · have a1 := h5 (k + 1) (by omega)
      omega
def s_yv (V : Nat → UInt64) (n k b : Nat) : UInt64 := FP.dadd (s_lo V k) (FP.dmul (FP.dsub (s_hi V n k) (s_lo V k)) (FP.ddiv (FP.i2d (nI b)) 4636737291354636288))
theorem yv_B {n k b : Nat} {P V F : Nat → UInt64} (h : KI n P V F) (hk : k < n) (hb : b < 101) : fx_n (FP.dsub (s_hi V n k) (s_lo V k)) ∧ fx_n (FP.ddiv (FP.i2d (nI b)) 4636737291354636288) ∧ fx_n (FP.dmul (FP.dsub (s_hi V n k) (s_lo V k)) (FP.ddiv (FP.i2d (nI b)) 4636737291354636288)) ∧ fx_n (s_yv V n k b) := by
  obtain ⟨b1, b2⟩ := lh_B h hk
  have b3 : fx_B 1070 (FP.dsub (s_hi V n k) (s_lo V k)) := fx_Bs b2 b1 (by omega) (by omega) (by omega)
  have b4 : fx_B 1024 (FP.ddiv (FP.i2d (nI b)) 4636737291354636288) := Nat.lt_of_le_of_lt (Nat.mod_le _ _) (fin_f b hb)
  have b5 : fx_B 1080 (FP.dmul (FP.dsub (s_hi V n k) (s_lo V k)) (FP.ddiv (FP.i2d (nI b)) 4636737291354636288)) := fx_Bm b3 b4 (by omega) (by omega) (by omega)
  have b6 : fx_B 1090 (s_yv V n k b) := fx_Ba b1 b5 (by omega) (by omega) (by omega)
  exact ⟨fx_B_n b3 (by omega), fx_B_n b4 (by omega), fx_B_n b5 (by omega), fx_B_n b6 (by omega)⟩
theorem yv_ok {j n k b : Nat} {P V F : Nat → UInt64} (h : LJ j n P V F) (hk : k < n) (hb : b < 101) (hj : j < 9) (h1 : ¬ sp_lt (s_yv V n k b) (s_lo V k)) (h2 : ¬ sp_gt (s_yv V n k b) (s_hi V n k)) (h3 : ¬ sp_lt (s_ab (s_yv V n k b)) 4517329193108106637) :
    s_st (s_yv V n k b) = s_yv V n k b ∧ (sp_ge (s_yv V n k b) 13920209183539462144 ∧ sp_le (s_yv V n k b) 4696837146684686336) ∧ (0 < k → ¬ sp_lt (s_yv V n k b) (V (k - 1))) ∧ (k + 1 < n → ¬ sp_gt (s_yv V n k b) (V (k + 1))) ∧ LJ (j + 1) n P (vf_upd V k (s_yv V n k b)) F := by
  obtain ⟨b1, b2⟩ := lh_B h.1 hk
  obtain ⟨z1, z2⟩ := lh_z h hk hj
  have ny := (yv_B h.1 hk hb).2.2.2
  generalize hy : s_yv V n k b = y at *
  have nl := fx_B_n b1 (by omega)
  have nh := fx_B_n b2 (by omega)
  have k1 : fx_k (s_lo V k) ≤ fx_k y := Int.not_lt.mp (fun h9 => h1 ((fx_lt ny nl).mpr h9))
  have k2 : fx_k y ≤ fx_k (s_hi V n k) := Int.not_lt.mp (fun h9 => h2 ((fx_gt ny nh).mpr h9))
  have y1 := (fx_zkle nl ny).mpr k1
  have y2 := (fx_zkle ny nh).mpr k2
  obtain ⟨m1, m2, m3, m4, m5⟩ := fx_milN
  obtain ⟨t1, t2, t3, t4⟩ := fx_tiny
  have vm := vb_mil (j := j + 1) (by omega)
  have q1 := (fx_zkle m2 ny).mp (by rw [m3]; omega)
  have q2 := (fx_zkle ny m1).mp (by omega)
  have hst : ¬ (sp_gt y 13740701229962882445 ∧ sp_lt y 4517329193108106637) := fun h9 => h3 ((s_ab_mg ny t1).mpr ((s_st_mg ny).mpr h9))
  have hm : fx_m y := by
    intro h9
    have h10 := fx_k_abs y
    rw [h9] at h10
    refine hst ⟨(fx_gt ny t3).mpr (by rw [t4]; omega), (fx_lt ny t1).mpr (by rw [t2]; omega)⟩
  have hB : fx_B 1063 y := fx_B_k.mpr (by rw [m5] at q1; rw [m4] at q2; omega)
  have c2 : 0 < k → ¬ sp_lt y (V (k - 1)) := by
    intro h0
    unfold s_lo at h1
    rw [if_neg (by omega)] at h1
    exact h1
  have c3 : k + 1 < n → ¬ sp_gt y (V (k + 1)) := by
    intro h0
    unfold s_hi at h2
    rw [if_neg (by omega)] at h2
    exact h2
  refine ⟨if_neg hst, ⟨(fx_ge ny m2).mpr q1, (fx_le ny m1).mpr q2⟩, c2, c3, ?_⟩
  have h9 := vb_le j
  obtain ⟨⟨⟨j1, j2, jg, j3, j4⟩, hF⟩, h6, h7, h8, hV⟩ := h
  refine ⟨⟨⟨j1, j2, jg, fun i hi => ?_, fun i hi => ?_⟩, hF⟩, by omega, h7, h8, fun i hi => ?_⟩
  · unfold vf_upd
    split
    · exact ⟨hB, hm⟩
    · exact j3 i hi
  · unfold vf_upd
    by_cases e1 : i = k
    · rw [if_pos e1, if_neg (by omega), e1]
      exact Int.not_lt.mp (fun h9 => c3 (by omega) ((fx_gt ny (fx_B_n (j3 (k + 1) (by omega)).1 (by omega))).mpr h9))
    · rw [if_neg e1]
      by_cases e2 : i + 1 = k
      · rw [if_pos e2]
        have := c2 (by omega)
        rw [show k - 1 = i by omega] at this
        exact Int.not_lt.mp (fun h9 => this ((fx_lt ny (fx_B_n (j3 i (by omega)).1 (by omega))).mpr h9))
      · rw [if_neg e2]; exact j4 i hi
  · unfold vf_upd
    split
    · omega
    · have := hV i hi; omega
/-! a place chosen -/
def s_x1 (P : Nat → UInt64) (n b : Nat) : UInt64 := FP.dadd (P 0) (FP.dmul (FP.dsub (P (n - 1)) (P 0)) (FP.ddiv (FP.i2d (nI (1 + b))) 4651998512748167168))
def s_x2 (P : Nat → UInt64) (n b : Nat) : UInt64 := FP.dadd (P 0) (FP.dmul (FP.dsub (P (n - 1)) (P 0)) (FP.ddiv (FP.i2d (nI b)) 4652016104934211584))
theorem x_n {n : Nat} {P V F : Nat → UInt64} (h : KI n P V F) {r : UInt64} (hr : r.toNat < 1025 * 2 ^ 52) : fx_n (FP.dsub (P (n - 1)) (P 0)) ∧ fx_n r ∧ fx_n (FP.dmul (FP.dsub (P (n - 1)) (P 0)) r) ∧ fx_n (FP.dadd (P 0) (FP.dmul (FP.dsub (P (n - 1)) (P 0)) r)) := by
  have j1 := h.1.1
  have hG := h.1.2.2.1
  have b4 : fx_B 1025 r := Nat.lt_of_le_of_lt (Nat.mod_le _ _) hr
  have b3 : fx_B 1047 (FP.dsub (P (n - 1)) (P 0)) := fx_Bs (hG.1 (n - 1) (by omega)) (hG.1 0 (by omega)) (by omega) (by omega) (by omega)
  have b5 : fx_B 1060 (FP.dmul (FP.dsub (P (n - 1)) (P 0)) r) := fx_Bm b3 b4 (by omega) (by omega) (by omega)
  have b6 : fx_B 1070 (FP.dadd (P 0) (FP.dmul (FP.dsub (P (n - 1)) (P 0)) r)) := fx_Ba (hG.1 0 (by omega)) b5 (by omega) (by omega) (by omega)
  exact ⟨fx_B_n b3 (by omega), fx_B_n b4 (by omega), fx_B_n b5 (by omega), fx_B_n b6 (by omega)⟩
theorem x_of {j n : Nat} {P V F : Nat → UInt64} (h : LJ j n P V F) {x : UInt64} (hx : ∀ i, i < 4 → P (n - 1) = s_gx (i + 2) → fx_p x ∧ fx_k x ≤ fx_k (s_gx (i + 2))) : fx_p x ∧ fx_B 1026 x ∧ 0 < n ∧ sp_ge x (P 0) ∧ sp_le x (P (n - 1)) := by
  obtain ⟨hK, h2, h3, ⟨i, hi, he⟩, h5⟩ := h
  have j1 := hK.1.1
  obtain ⟨hp, h6⟩ := hx i hi he
  have h7 := fin_g.2 i hi
  have hB2 : fx_B 1026 (s_gx (i + 2)) := Nat.lt_of_le_of_lt (Nat.mod_le _ _) h7
  have h8 := fx_B_k.mp hB2
  have h9 := fx_p_k hp
  have hB : fx_B 1026 x := fx_B_k.mpr (by omega)
  have nx := fx_B_n hB (by omega)
  refine ⟨hp, hB, by omega, ?_, ?_⟩
  · rw [h3]; exact (fx_ge nx fx_n0).mpr (by rw [fx_k0]; exact h9)
  · rw [he]
    exact (fx_le nx (fx_B_n hB2 (by omega))).mpr h6
theorem gx_p {i : Nat} (hi : i < 4) : fx_B 1026 (s_gx (i + 2)) ∧ fx_p (s_gx (i + 2)) := ⟨Nat.lt_of_le_of_lt (Nat.mod_le _ _) (fin_g.2 i hi), Nat.lt_trans (fin_g.2 i hi) (by decide)⟩
theorem x1_of {j n b : Nat} {P V F : Nat → UInt64} (h : LJ j n P V F) (hb : b < 997) : fx_p (s_x1 P n b) ∧ fx_B 1026 (s_x1 P n b) ∧ 0 < n ∧ sp_ge (s_x1 P n b) (P 0) ∧ sp_le (s_x1 P n b) (P (n - 1)) :=
  x_of h (fun i hi he => by unfold s_x1; rw [h.2.2.1, he, fin_c i hi]; exact x_le (gx_p hi).1 (gx_p hi).2 (fx_fr1 hb).1 (fx_fr1 hb).2)
theorem x2_of {j n b : Nat} {P V F : Nat → UInt64} (h : LJ j n P V F) (hb : b < 1001) : fx_p (s_x2 P n b) ∧ fx_B 1026 (s_x2 P n b) ∧ 0 < n ∧ sp_ge (s_x2 P n b) (P 0) ∧ sp_le (s_x2 P n b) (P (n - 1)) :=
  x_of h (fun i hi he => by unfold s_x2; rw [h.2.2.1, he, fin_c i hi]; exact x_le (gx_p hi).1 (gx_p hi).2 (fx_fr2 hb).1 (fx_fr2 hb).2)
theorem x0_of {j n : Nat} {P V F : Nat → UInt64} (h : LJ j n P V F) : 0 < n ∧ sp_ge (P 0) (P 0) ∧ sp_le (P 0) (P (n - 1)) := by
  obtain ⟨h1, h2, h3⟩ := (x_of h (x := P 0) (fun i hi _ => by rw [h.2.2.1]; exact ⟨by unfold fx_p; decide, by rw [fx_k0]; exact fx_p_k (gx_p hi).2⟩)).2.2
  exact ⟨h1, h2, h3⟩

