/-- the rows of the points laid so far -/
theorem gx_at {k : Nat} (hk : k < 6) : s_at (s_lay (fun _ => 0) s_gx 0 k) k (s_gx k) = k := by
  have h1 := s_at_le (X := s_lay (fun _ => 0) s_gx 0 k) (n := k) (x := s_gx k)
  rcases Nat.lt_or_ge (s_at (s_lay (fun _ => 0) s_gx 0 k) k (s_gx k)) k with h2 | h2
  · exfalso
    have h3 := s_find_at (c := fun j => decide (sp_lt (s_lay (fun _ => 0) s_gx 0 k j) (s_gx k))) (f := k) (k := 0) (by unfold s_at at h2; omega)
    have h4 := of_decide_eq_false h3
    have h5 := ((fin_p k hk).2 _ h2).1
    unfold s_at at h2 h5
    refine h4 ?_
    unfold s_lay
    rw [if_pos ⟨Nat.zero_le _, h2⟩]
    exact h5
  · omega
theorem gx_cri {k : Nat} (hk : k < 6) : ¬ s_cri (s_lay (fun _ => 0) s_gx 0 k) k (s_gx k) < k := by
  intro h2
  have h3 := s_find_at (c := fun j => !decide (sp_lt (s_mg (FP.dsub (s_lay (fun _ => 0) s_gx 0 k j) (s_gx k))) 4562254508917369340)) (f := k) (k := 0) (by unfold s_cri at h2; omega)
  have h5 := ((fin_p k hk).2 _ h2).2
  unfold s_cri at h2 h5
  refine h5 ?_
  have h6 : decide (sp_lt (s_mg (FP.dsub (s_lay (fun _ => 0) s_gx 0 k (s_find (fun j => !decide (sp_lt (s_mg (FP.dsub (s_lay (fun _ => 0) s_gx 0 k j) (s_gx k))) 4562254508917369340)) k 0)) (s_gx k))) 4562254508917369340) = true := by
    cases h7 : decide (sp_lt (s_mg (FP.dsub (s_lay (fun _ => 0) s_gx 0 k (s_find (fun j => !decide (sp_lt (s_mg (FP.dsub (s_lay (fun _ => 0) s_gx 0 k j) (s_gx k))) 4562254508917369340)) k 0)) (s_gx k))) 4562254508917369340) with
    | true => rfl
    | false => exfalso; rw [h7] at h3; cases h3
  have h8 := of_decide_eq_true h6
  generalize hj : s_find (fun j => !decide (sp_lt (s_mg (FP.dsub (s_lay (fun _ => 0) s_gx 0 k j) (s_gx k))) 4562254508917369340)) k 0 = j at *
  unfold s_lay at h8
  rw [if_pos ⟨Nat.zero_le _, h2⟩] at h8
  exact h8
theorem gx_sub {k : Nat} (hk : k < 40) : ∀ j : Nat, j < k → fx_n (FP.dsub (s_lay (fun _ => 0) s_gx 0 k j) (s_gx k)) := by
  intro j hj
  unfold s_lay
  rw [if_pos ⟨Nat.zero_le _, hj⟩]
  exact fx_G_n (fx_G_sub (s_gx_G (k := j) (by omega)) (s_gx_G hk) (by omega) (by omega))
theorem gx_XJ (xs : Nat → Int32) (L : Nat) {n : Nat} (hn : n ≤ 6) : XJ n (s_lay (fun _ => 0) s_gx 0 n) (s_lay (fun _ => 0) (s_gy xs L) 0 n) (s_lay (fun _ => 0) (s_gw xs L) 0 n) := by
  refine ⟨by omega, ⟨fun k => 12 * (k : Int), fun k hk => ?_, fun k hk => by dsimp only; omega⟩, fun k hk => ?_, fun k hk => ?_⟩
  · unfold s_lay; rw [if_pos ⟨Nat.zero_le _, hk⟩]; exact ⟨s_gx_G (by omega), by dsimp only; omega⟩
  · unfold s_lay; rw [if_pos ⟨Nat.zero_le _, hk⟩]; exact s_gy_P xs L k
  · unfold s_lay; rw [if_pos ⟨Nat.zero_le _, hk⟩]; exact s_gw_P xs L k
/-- a block's level is small -/
theorem BE_v {z : Nat} {w s : UInt64} {q : Int32} (h : BE z w s q) (hz : z ≤ 40) : fx_B 1033 (FP.ddiv s w) := by
  obtain ⟨-, h1, ⟨a, ha, a1, a2⟩, b, hb, b1⟩ := h
  have hm : ∃ m, m ≤ 5 ∧ 2 ^ m ≤ z ∧ z ≤ 2 ^ (m + 1) := by
    by_cases z1 : z < 2
    · exact ⟨0, by omega, by omega, by omega⟩
    by_cases z2 : z < 4
    · exact ⟨1, by omega, by omega, by omega⟩
    by_cases z3 : z < 8
    · exact ⟨2, by omega, by omega, by omega⟩
    by_cases z4 : z < 16
    · exact ⟨3, by omega, by omega, by omega⟩
    by_cases z5 : z < 32
    · exact ⟨4, by omega, by omega, by omega⟩
    · exact ⟨5, by omega, by omega, by omega⟩
  obtain ⟨m, m1, m2, m3⟩ := hm
  have wL : fx_L (1023 + m) w := fx_G_L ha (m := m + 3) (by rw [Nat.pow_succ, Nat.pow_succ, Nat.pow_succ]; omega) (by omega) (by omega)
  have wB : fx_B 1040 w := fx_G_B ha (m := 19) (by omega) (by omega) (by omega)
  have sB : fx_B (1032 + m) s := fx_G_B hb (m := 14 + m) (by
    have : 2 ^ (14 + m) = 2 ^ 13 * 2 ^ (m + 1) := by rw [← Nat.pow_add]; congr 1; omega
    rw [this]
    calc b.natAbs ≤ 6400 * z := b1
      _ ≤ 2 ^ 13 * 2 ^ (m + 1) := Nat.mul_le_mul (by decide) m3) (by omega) (by omega)
  exact fx_Bd sB wL (fx_B_mono wB (by omega)) (by omega) (by omega) (by omega)
theorem BJ_v {i bc j : Nat} {W S : Nat → UInt64} {Z : Nat → Int32} (h : BJ i bc W S Z) (hj : j < bc) : fx_B 1033 (s_lev W S j) := by
  obtain ⟨h1, z, h2, h3, h4⟩ := h
  have := s_sum_le (z := z) (n := bc) (k := j) hj
  exact BE_v (h3 j hj) (by omega)
/-! rows -/
theorem ins_all {α : Type} {Q : α → Prop} {f : Nat → α} {n i : Nat} {x : α} (h : ∀ j, j < n → Q (f j)) (hx : Q x) (hi : i ≤ n) : ∀ j, j < n + 1 → Q (s_ins f i n x j) := by
  intro j hj
  unfold s_ins
  split
  · exact hx
  · split
    · exact h _ (by omega)
    · exact h _ (by omega)
theorem ins_mono {α : Type} {R : α → α → Prop} {f : Nat → α} {n i : Nat} {x : α} (h : ∀ j, j + 1 < n → R (f j) (f (j + 1))) (hi : i ≤ n) (hl : 0 < i → R (f (i - 1)) x) (hr : i < n → R x (f i)) : ∀ j, j + 1 < n + 1 → R (s_ins f i n x j) (s_ins f i n x (j + 1)) := by
  intro j hj
  unfold s_ins
  rcases Nat.lt_trichotomy j i with h1 | h1 | h1
  · rw [if_neg (by omega), if_neg (by omega)]
    by_cases h2 : j + 1 = i
    · rw [if_pos h2]
      have := hl (by omega)
      rw [show i - 1 = j by omega] at this; exact this
    · rw [if_neg h2, if_neg (by omega)]; exact h j (by omega)
  · subst h1
    rw [if_pos rfl, if_neg (by omega), if_pos (by omega)]
    exact hr (by omega)
  · rw [if_neg (by omega), if_pos (by omega), if_neg (by omega), if_pos (by omega)]
    have := h (j - 1) (by omega)
    rw [show j - 1 + 1 = j by omega] at this; exact this
theorem rem_all {α : Type} {Q : α → Prop} {f : Nat → α} {n i : Nat} (h : ∀ j, j < n → Q (f j)) : ∀ j, j < n - 1 → Q (s_rem f i n j) := by
  intro j hj
  unfold s_rem
  split
  · exact h _ (by omega)
  · exact h _ (by omega)
theorem rem_mono {α : Type} {R : α → α → Prop} (tr : ∀ a b c, R a b → R b c → R a c) {f : Nat → α} {n i : Nat} (h : ∀ j, j + 1 < n → R (f j) (f (j + 1))) : ∀ j, j + 1 < n - 1 → R (s_rem f i n j) (s_rem f i n (j + 1)) := by
  intro j hj
  unfold s_rem
  by_cases h1 : i ≤ j
  · rw [if_pos (by omega), if_pos (by omega)]; exact h (j + 1) (by omega)
  · rw [if_neg (by omega)]
    by_cases h2 : i ≤ j + 1
    · rw [if_pos (by omega)]; exact tr _ _ _ (h j (by omega)) (h (j + 1) (by omega))
    · rw [if_neg (by omega)]; exact h j (by omega)
theorem s_lay_at {α : Type} {f g : Nat → α} {n j : Nat} (h : j < n) : s_lay f g 0 n j = g j := by unfold s_lay; rw [if_pos (by omega)]
theorem s_lay_out {α : Type} {f g : Nat → α} {n j : Nat} (h : n ≤ j) : s_lay f g 0 n j = f j := by unfold s_lay; rw [if_neg (by omega)]
theorem s_lv_at {V W S : Nat → UInt64} {Z : Nat → Int32} : ∀ (b j : Nat), j < s_sum (s_z Z) b → ∃ b', b' < b ∧ s_sum (s_z Z) b' ≤ j ∧ j < s_sum (s_z Z) (b' + 1) ∧ s_lv V W S Z b j = s_lev W S b' := by
  intro b
  induction b with
  | zero => intro j hj; exact absurd hj (Nat.not_lt_zero _)
  | succ b ih =>
    intro j hj
    rw [s_lv]
    unfold s_lay
    by_cases h : s_sum (s_z Z) b ≤ j ∧ j < s_sum (s_z Z) (b + 1)
    · rw [if_pos h]; exact ⟨b, by omega, h.1, h.2, rfl⟩
    · rw [if_neg h]
      obtain ⟨b', h1, h2, h3, h4⟩ := ih j (by omega)
      exact ⟨b', by omega, h2, h3, h4⟩
theorem s_lv_out {V W S : Nat → UInt64} {Z : Nat → Int32} : ∀ (b j : Nat), s_sum (s_z Z) b ≤ j → s_lv V W S Z b j = V j := by
  intro b
  induction b with
  | zero => intro j hj; rfl
  | succ b ih =>
    intro j hj
    have h1 : s_sum (s_z Z) b ≤ s_sum (s_z Z) (b + 1) := s_sum_mono (by omega)
    rw [s_lv]
    unfold s_lay
    rw [if_neg (by omega)]
    exact ih j (by omega)
theorem lev_mono {bc : Nat} {f : Nat → Int} (h : ∀ j, j + 1 < bc → f j ≤ f (j + 1)) : ∀ d a, a + d < bc → f a ≤ f (a + d) := by
  intro d
  induction d with
  | zero => intro a _; exact Int.le_refl _
  | succ d ih => intro a ha; exact Int.le_trans (ih a (by omega)) (h (a + d) (by omega))
theorem KI_fit {n bc : Nat} {X Y Wt P V F W S : Nat → UInt64} {Z : Nat → Int32} (hX : XJ n X Y Wt) (h2 : 2 ≤ n) (hJ : BJ n bc W S Z) : KI n (s_lay P X 0 n) (s_lv V W S Z bc) (s_lay F (fun _ => 13830554455654793216) 0 n) ∧ ∀ k, k < n → fx_B 1033 (s_lv V W S Z bc k) := by
  obtain ⟨z1, z2⟩ := BJ_z hJ
  have hv : ∀ j, j < n → ∃ b', b' < bc ∧ s_sum (s_z Z) b' ≤ j ∧ j < s_sum (s_z Z) (b' + 1) ∧ s_lv V W S Z bc j = s_lev W S b' := fun j hj => s_lv_at bc j (by omega)
  have hf := fun b (hb : b < bc) => BJ_f hJ hb
  have hf2 := fun b (hb : b < bc) => BJ_v hJ hb
  obtain ⟨h1, ⟨g, hg, hm⟩, -, -⟩ := hX
  refine ⟨⟨⟨h2, by omega, ⟨fun k hk => ?_, fun k hk => ?_⟩, fun k hk => ?_, fun k hk => ?_⟩, fun k hk => Or.inl (by rw [s_lay_at hk])⟩, fun k hk => ?_⟩
  · rw [s_lay_at hk]
    have := hg k hk
    exact fx_G_B this.1 (m := 24) (by omega) (by omega) (by omega)
  · rw [s_lay_at hk, s_lay_at (by omega), fx_G_z (hg k (by omega)).1, fx_G_z (hg (k + 1) hk).1]
    have h5 := hm k hk
    have h6 : ((2 ^ 1060 : Nat) : Int) ≤ ((2 ^ 1071 : Nat) : Int) := Int.ofNat_le.mpr (Nat.pow_le_pow_right (by decide) (by decide))
    have h7 : (g k + 1) * ((2 ^ 1071 : Nat) : Int) ≤ g (k + 1) * ((2 ^ 1071 : Nat) : Int) := Int.mul_le_mul_of_nonneg_right (by omega) (Int.natCast_nonneg _)
    rw [Int.add_mul, Int.one_mul] at h7
    generalize ((2 ^ 1071 : Nat) : Int) = A at *
    generalize ((2 ^ 1060 : Nat) : Int) = B at *
    generalize g k * A = C at *
    generalize g (k + 1) * A = E at *
    omega
  · obtain ⟨b, b1, -, -, b4⟩ := hv k hk
    rw [b4]; exact ⟨(hf b b1).2.2.1, (hf b b1).2.2.2⟩
  · obtain ⟨b, b1, b2, b3, b4⟩ := hv k (by omega)
    obtain ⟨b', c1, c2, c3, c4⟩ := hv (k + 1) hk
    rw [b4, c4]
    have hle : b ≤ b' := by
      refine Nat.not_lt.mp (fun h9 => ?_)
      have := s_sum_mono (z := s_z Z) (a := b' + 1) (b := b) (by omega)
      omega
    obtain ⟨-, z, -, -, hmono⟩ := hJ
    have := lev_mono (bc := bc) (f := fun j => fx_k (s_lev W S j)) hmono (b' - b) b (by omega)
    rw [show b + (b' - b) = b' by omega] at this
    exact this
  · obtain ⟨b, b1, -, -, b4⟩ := hv k hk
    rw [b4]; exact hf2 b b1

