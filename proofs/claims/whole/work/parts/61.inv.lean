/-! what the calls keep: numbers -/
theorem fx_i2d (c : Int32) : fx_G 1074 c.toInt (FP.i2d c) := by
  have h1 := c.toInt_lt
  have h2 := c.le_toInt
  refine fx_G_of (s := decide (c.toInt < 0)) (n := c.toInt.natAbs) (e1 := 0) (FP.Core.val64_i2d c) (by rw [FP.Core.qmin_b64]; decide) (by omega) (by omega) ?_ (fun h => by rw [h]; rfl)
  unfold FP.Core.signed FP.Core.inUnits
  rw [FP.Core.qmin_b64, show (0 - -1074 : Int).toNat = 1074 by decide, Int.natCast_mul]
  by_cases h : c.toInt < 0
  · rw [decide_eq_true h, if_pos rfl, ← Int.neg_mul]; congr 1; omega
  · rw [decide_eq_false h, if_neg (by decide)]; congr 1; omega
theorem fx_c8 : fx_G 1071 1 4593671619917905920 := ⟨2 ^ 52, -55, by decide +kernel, by decide +kernel⟩
/-- an eighth of a cell -/
def s_e (c : Int32) : UInt64 := FP.dmul (FP.i2d c) 4593671619917905920
theorem s_e_G (c : Int32) : fx_G 1071 c.toInt (s_e c) := by
  have h1 := c.toInt_lt
  have h2 := c.le_toInt
  have := fx_G_mul (E := 1071) (fx_i2d c) fx_c8 (by omega) (by omega) (by rw [Int.mul_one]; omega) ⟨by omega, by omega⟩
  rw [Int.mul_one] at this; exact this
theorem s_e_n (c : Int32) : fx_n (s_e c) := fx_G_n (s_e_G c)
theorem s_e_B (c : Int32) : fx_B 1060 (s_e c) := by
  have h1 := c.toInt_lt
  have h2 := c.le_toInt
  exact fx_B_mono (fx_G_B (s_e_G c) (m := 31) (K := 1052) (by omega) (by omega) (by omega)) (by omega)
theorem fx_G_0 {e : Nat} {a : UInt64} (h : fx_G e 0 a) : a = 0 := by
  have h1 := (fx_G_k h).2.mpr rfl
  exact fx_inj (by rw [h1, fx_k0]) (fx_G_m h) (by unfold fx_m; decide)
theorem fx_G_ge {e : Nat} {i : Int} {a : UInt64} (h : fx_G e i a) (hi : i ≠ 0) {K : Nat} (hK : K + 51 = e) (h1 : 1 ≤ K) : fx_L K a := fx_G_L h (m := 0) (by omega) (by omega) h1
theorem s_st_G {i : Int} {x : UInt64} (h : fx_G 1071 i x) : s_st x = x := by
  by_cases hi : i = 0
  · subst hi
    rw [fx_G_0 h]; decide +kernel
  · unfold s_st
    refine if_neg (fun h9 => ?_)
    have hn := fx_G_n h
    obtain ⟨a1, a2, a3, a4⟩ := fx_tiny
    have h2 := (fx_gt hn a3).mp h9.1
    have h3 := (fx_lt hn a1).mp h9.2
    have h4 := fx_G_ge h hi (K := 1020) (by omega) (by omega)
    have h5 := fx_k_abs x
    unfold fx_L at h4
    rw [a2] at h3; rw [a4] at h2; omega
theorem s_st_e (c : Int32) : s_st (s_e c) = s_e c := s_st_G (s_e_G c)
theorem fx_mil : fx_G 1071 8000000 4696837146684686336 ∧ fx_G 1071 (-8000000) 13920209183539462144 := ⟨⟨8000000 * 2 ^ 30, -33, by decide +kernel, by decide +kernel⟩, ⟨8000000 * 2 ^ 30, -33, by decide +kernel, by decide +kernel⟩⟩
theorem fx_thou : fx_G 1071 8000 4652007308841189376 := ⟨8000 * 2 ^ 40, -43, by decide +kernel, by decide +kernel⟩
theorem fx_G_le {e : Nat} {i j : Int} {a b : UInt64} (ha : fx_G e i a) (hb : fx_G e j b) : fx_k a ≤ fx_k b ↔ i ≤ j := by
  have := fx_G_lt hb ha; omega
theorem in_mil {i : Int} {x : UInt64} (h : fx_G 1071 i x) (hi : sp_ge x 13920209183539462144 ∧ sp_le x 4696837146684686336) : i.natAbs ≤ 8000000 := by
  obtain ⟨m1, m2⟩ := fx_mil
  have h1 := (fx_ge (fx_G_n h) (fx_G_n m2)).mp hi.1
  have h2 := (fx_le (fx_G_n h) (fx_G_n m1)).mp hi.2
  rw [fx_G_le m2 h] at h1
  rw [fx_G_le h m1] at h2
  omega
theorem in_w {i : Int} {x : UInt64} (h : fx_G 1071 i x) (hi : sp_ge x 4562254508917369340 ∧ sp_le x 4652007308841189376) : 1 ≤ i ∧ i ≤ 8000 := by
  have h1 := (fx_ge (fx_G_n h) fx_c001).mp hi.1
  have h2 := (fx_le (fx_G_n h) (fx_G_n fx_thou)).mp hi.2
  rw [fx_G_le h fx_thou] at h2
  have h3 : 0 < fx_k 4562254508917369340 := by decide +kernel
  have h4 := (fx_G_k h).1.mp (by omega)
  omega
/-! rows -/
theorem ins_all {α : Type} {Q : α → Prop} {f : Nat → α} {n i : Nat} {x : α} (h : ∀ j, j < n → Q (f j)) (hx : Q x) : ∀ j, j < n + 1 → i ≤ n → Q (s_ins f i n x j) := by
  intro j hj hi
  unfold s_ins
  split
  · exact hx
  · split
    · exact h _ (by omega)
    · exact h _ (by omega)
theorem ins_all2 {α β : Type} {Q : α → β → Prop} {f : Nat → α} {g : Nat → β} {n i : Nat} {x : α} {y : β} (h : ∀ j, j < n → Q (f j) (g j)) (hx : Q x y) (hi : i ≤ n) : ∀ j, j < n + 1 → Q (s_ins f i n x j) (s_ins g i n y j) := by
  intro j hj
  unfold s_ins
  by_cases h1 : j = i
  · rw [if_pos h1, if_pos h1]; exact hx
  · rw [if_neg h1, if_neg h1]
    by_cases h2 : i < j ∧ j ≤ n
    · rw [if_pos h2, if_pos h2]; exact h _ (by omega)
    · rw [if_neg h2, if_neg h2]; exact h _ (by omega)
theorem ins_mono {α : Type} {R : α → α → Prop} {f : Nat → α} {n i : Nat} {x : α} (h : ∀ j, j + 1 < n → R (f j) (f (j + 1))) (hi : i ≤ n) (hl : 0 < i → R (f (i - 1)) x) (hr : i < n → R x (f i)) : ∀ j, j + 1 < n + 1 → R (s_ins f i n x j) (s_ins f i n x (j + 1)) := by
  intro j hj
  unfold s_ins
  rcases Nat.lt_trichotomy j i with h1 | h1 | h1
  · rw [if_neg (by omega), if_neg (by omega)]
    by_cases h2 : j + 1 = i
    · rw [if_pos h2]
      have := hl (by omega)
      rw [show i - 1 = j by omega] at this; exact this
    · rw [if_neg h2, if_neg (by omega)]; exact h j (by omega)
  · subst h1
    rw [if_pos rfl, if_neg (by omega), if_pos (by omega)]
    exact hr (by omega)
  · rw [if_neg (by omega), if_pos (by omega), if_neg (by omega), if_pos (by omega)]
    have := h (j - 1) (by omega)
    rw [show j - 1 + 1 = j by omega] at this; exact this
theorem rem_all {α : Type} {Q : α → Prop} {f : Nat → α} {n i : Nat} (h : ∀ j, j < n → Q (f j)) : ∀ j, j < n - 1 → Q (s_rem f i n j) := by
  intro j hj
  unfold s_rem
  split
  · exact h _ (by omega)
  · exact h _ (by omega)
theorem rem_all2 {α β : Type} {Q : α → β → Prop} {f : Nat → α} {g : Nat → β} {n i : Nat} (h : ∀ j, j < n → Q (f j) (g j)) : ∀ j, j < n - 1 → Q (s_rem f i n j) (s_rem g i n j) := by
  intro j hj
  unfold s_rem
  by_cases h2 : i ≤ j ∧ j < n - 1
  · rw [if_pos h2, if_pos h2]; exact h _ (by omega)
  · rw [if_neg h2, if_neg h2]; exact h _ (by omega)
theorem rem_mono {α : Type} {R : α → α → Prop} (tr : ∀ a b c, R a b → R b c → R a c) {f : Nat → α} {n i : Nat} (h : ∀ j, j + 1 < n → R (f j) (f (j + 1))) : ∀ j, j + 1 < n - 1 → R (s_rem f i n j) (s_rem f i n (j + 1)) := by
  intro j hj
  unfold s_rem
  by_cases h1 : i ≤ j
  · rw [if_pos (by omega), if_pos (by omega)]; exact h (j + 1) (by omega)
  · rw [if_neg (by omega)]
    by_cases h2 : i ≤ j + 1
    · rw [if_pos (by omega)]; exact tr _ _ _ (h j (by omega)) (h (j + 1) (by omega))
    · rw [if_neg (by omega)]; exact h j (by omega)
/-! points -/
theorem XJ_add {n : Nat} {X Y Wt : Nat → UInt64} {i : Int} {x y w : UInt64} (h : XJ n X Y Wt) (hn : n < 40) (hx : fx_G 1071 i x) (hxi : i.natAbs ≤ 8000000) (hy : PY y) (hw : PW w) (hc : ¬ s_cri X n x < n) : XJ (n + 1) (s_ins X (s_at X n x) n x) (s_ins Y (s_at X n x) n y) (s_ins Wt (s_at X n x) n w) := by
  have hat := s_at_le (X := X) (n := n) (x := x)
  have hnx := fx_G_n hx
  have h9 := h
  obtain ⟨h1, ⟨g, hg, hm⟩, h2, h3⟩ := h
  refine ⟨by omega, ⟨s_ins g (s_at X n x) n i, ins_all2 (Q := fun (a : Int) (b : UInt64) => fx_G 1071 a b ∧ a.natAbs ≤ 8000000) hg ⟨hx, hxi⟩ hat, ins_mono (R := fun (a b : Int) => a < b) hm hat (fun h0 => ?_) (fun h0 => ?_)⟩, fun k hk => ins_all (Q := PY) h2 hy k hk hat, fun k hk => ins_all (Q := PW) h3 hw k hk hat⟩
  · have h5 := (s_at_iff h9 hnx (k := s_at X n x - 1) (by omega)).mpr (by omega)
    exact (fx_G_lt (hg _ (by omega)).1 hx).mp ((fx_lt (fx_G_n (hg _ (by omega)).1) hnx).mp h5)
  · have h5 : ¬ sp_lt (X (s_at X n x)) x := fun h6 => absurd ((s_at_iff h9 hnx h0).mp h6) (Nat.lt_irrefl _)
    have hk := (hg _ h0).1
    have h6 : i ≤ g (s_at X n x) := by
      refine Int.not_lt.mp (fun h7 => h5 ((fx_lt (fx_G_n hk) hnx).mpr ((fx_G_lt hk hx).mpr h7)))
    refine Int.lt_iff_le_and_ne.mpr ⟨h6, fun h7 => ?_⟩
    have h8 := s_cri_no (X := X) (n := n) (x := x) (k := s_at X n x) (by omega)
    have hd := fx_G_sub hk hx (by omega) (by omega)
    rw [show g (s_at X n x) - i = 0 by omega] at hd
    rw [fx_G_0 hd] at h8
    exact h8 (by decide +kernel)
theorem XJ_rem {n k : Nat} {X Y Wt : Nat → UInt64} (h : XJ n X Y Wt) (hk : k < n) : XJ (n - 1) (s_rem X k n) (s_rem Y k n) (s_rem Wt k n) := by
  obtain ⟨h1, ⟨g, hg, hm⟩, h2, h3⟩ := h
  exact ⟨by omega, ⟨s_rem g k n, rem_all2 (Q := fun (a : Int) (b : UInt64) => fx_G 1071 a b ∧ a.natAbs ≤ 8000000) hg, rem_mono (R := fun (a b : Int) => a < b) (fun _ _ _ => Int.lt_trans) hm⟩, rem_all (Q := PY) h2, rem_all (Q := PW) h3⟩
theorem XJ_sub {n : Nat} {X Y Wt : Nat → UInt64} {i : Int} {x : UInt64} (h : XJ n X Y Wt) (hx : fx_G 1071 i x) (hxi : i.natAbs ≤ 2 ^ 31) : ∀ j : Nat, j < n → fx_n (FP.dsub (X j) x) := by
  obtain ⟨h1, ⟨g, hg, hm⟩, h2, h3⟩ := h
  intro j hj
  have := hg j hj
  exact fx_G_n (fx_G_sub this.1 hx (by omega) (by omega))
/-! the fit -/
theorem s_lay_at {α : Type} {f g : Nat → α} {n j : Nat} (h : j < n) : s_lay f g 0 n j = g j := by unfold s_lay; rw [if_pos (by omega)]
theorem s_lv_at {V W S : Nat → UInt64} {Z : Nat → Int32} : ∀ (b j : Nat), j < s_sum (s_z Z) b → ∃ b', b' < b ∧ s_sum (s_z Z) b' ≤ j ∧ j < s_sum (s_z Z) (b' + 1) ∧ s_lv V W S Z b j = s_lev W S b' := by
  intro b
  induction b with
  | zero => intro j hj; exact absurd hj (Nat.not_lt_zero _)
  | succ b ih =>
    intro j hj
    rw [s_lv]
    unfold s_lay
    by_cases h : s_sum (s_z Z) b ≤ j ∧ j < s_sum (s_z Z) (b + 1)
    · rw [if_pos h]; exact ⟨b, by omega, h.1, h.2, rfl⟩
    · rw [if_neg h]
      obtain ⟨b', h1, h2, h3, h4⟩ := ih j (by omega)
      exact ⟨b', by omega, h2, h3, h4⟩
theorem lev_mono {bc : Nat} {f : Nat → Int} (h : ∀ j, j + 1 < bc → f j ≤ f (j + 1)) : ∀ d a, a + d < bc → f a ≤ f (a + d) := by
  intro d
  induction d with
  | zero => intro a _; exact Int.le_refl _
  | succ d ih => intro a ha; exact Int.le_trans (ih a (by omega)) (h (a + d) (by omega))
theorem KI_fit {n bc : Nat} {X Y Wt P V F W S : Nat → UInt64} {Z : Nat → Int32} (hX : XJ n X Y Wt) (h2 : 2 ≤ n) (hJ : BJ n bc W S Z) : KI n (s_lay P X 0 n) (s_lv V W S Z bc) (s_lay F (fun _ => 13830554455654793216) 0 n) := by
  obtain ⟨z1, z2⟩ := BJ_z hJ
  have hv : ∀ j, j < n → ∃ b', b' < bc ∧ s_sum (s_z Z) b' ≤ j ∧ j < s_sum (s_z Z) (b' + 1) ∧ s_lv V W S Z bc j = s_lev W S b' := fun j hj => s_lv_at bc j (by omega)
  have hf := fun b (hb : b < bc) => BJ_f hJ hb
  obtain ⟨h1, ⟨g, hg, hm⟩, -, -⟩ := hX
  refine ⟨⟨h2, by omega, ⟨g, fun k hk => by rw [s_lay_at hk]; exact hg k hk, hm⟩, fun k hk => ?_, fun k hk => ?_⟩, fun k hk => Or.inl (by rw [s_lay_at hk])⟩
  · obtain ⟨b, b1, -, -, b4⟩ := hv k hk
    rw [b4]; exact ⟨(hf b b1).2.2.1, (hf b b1).2.2.2⟩
  · obtain ⟨b, b1, b2, b3, b4⟩ := hv k (by omega)
    obtain ⟨b', c1, c2, c3, c4⟩ := hv (k + 1) hk
    rw [b4, c4]
    have hle : b ≤ b' := by
      refine Nat.not_lt.mp (fun h9 => ?_)
      have := s_sum_mono (z := s_z Z) (a := b' + 1) (b := b) (by omega)
      omega
    obtain ⟨-, z, -, -, hmono⟩ := hJ
    have := lev_mono (bc := bc) (f := fun j => fx_k (s_lev W S j)) hmono (b' - b) b (by omega)
    rw [show b + (b' - b) = b' by omega] at this
    exact this
theorem MR_fit {n : Nat} {F FX : Nat → UInt64} {AF : Nat → Int32} (h : ∀ k, AF k = 0 ∨ AF k = 1) : MR n (s_lay F (fun _ => 13830554455654793216) 0 n) (s_lay AF (fun _ => 0) 0 n) (s_lay FX (fun _ => 0) 0 n) :=
  ⟨fun k => by unfold s_lay; split; exact Or.inl rfl; exact h k, fun k hk => Or.inl ⟨s_lay_at hk, s_lay_at hk⟩⟩
/-! knots -/
theorem KI_ins {kn : Nat} {P V F : Nat → UInt64} {i : Int} {x : UInt64} (h : KI kn P V F) (hk6 : kn < 60) (hx : fx_G 1071 i x) (hxi : i.natAbs ≤ 2 ^ 31)
    (h2 : ¬ sp_lt (FP.dsub x (P (s_pc P kn x))) 4547007122018943789) (h3 : ¬ sp_lt (FP.dsub (P (s_pc P kn x + 1)) x) 4547007122018943789) :
    KI (kn + 1) (s_ins P (s_pc P kn x + 1) kn x) (s_ins V (s_pc P kn x + 1) kn (s_within (V (s_pc P kn x)) (V (s_pc P kn x + 1)) (s_hk P V F kn (s_pc P kn x) x))) (s_ins F (s_pc P kn x + 1) kn (if sp_lt (s_tk P V F kn (s_pc P kn x) x) 0 then 0 else s_tk P V F kn (s_pc P kn x) x)) ∧ fx_p (if sp_lt (s_tk P V F kn (s_pc P kn x) x) 0 then 0 else s_tk P V F kn (s_pc P kn x) x) := by
  have hlt := s_pc_lt (P := P) (x := x) h.1.1
  generalize s_pc P kn x = k at *
  have hxB : fx_B 1168 x := fx_B_mono (fx_G_B hx (m := 31) (K := 1052) (by omega) (by omega) (by omega)) (by omega)
  have hE := PE_of h hlt
  have ht := PE_x h hlt hxB
  have hgap : fx_n 4547007122018943789 ∧ 0 < fx_k 4547007122018943789 := by unfold fx_n; decide +kernel
  have hh := (PE_h hE ht).2.2.2.2.2
  have hh4 := (PE_h hE ht).2.2.2.2.1
  have htt := (PE_t hE ht).2.2.2.2.2
  have htt4 := (PE_t hE ht).2.2.2.2.1
  have hs := kI_s h (k := k) (by omega)
  obtain ⟨⟨j1, j2, ⟨g, hg, hm⟩, j3, j4⟩, hF⟩ := h
  have gk := hg k (by omega)
  have gk1 := hg (k + 1) hlt
  have d1 := fx_G_sub hx gk.1 (by omega) (by omega)
  have d2 := fx_G_sub gk1.1 hx (by omega) (by omega)
  have l1 : g k < i := by
    have a1 : ¬ fx_k (FP.dsub x (P k)) < fx_k 4547007122018943789 := fun h9 => h2 ((fx_lt (fx_G_n d1) hgap.1).mpr h9)
    have := (fx_G_k d1).1.mp (by omega)
    omega
  have l2 : i < g (k + 1) := by
    have a1 : ¬ fx_k (FP.dsub (P (k + 1)) x) < fx_k 4547007122018943789 := fun h9 => h3 ((fx_lt (fx_G_n d2) hgap.1).mpr h9)
    have := (fx_G_k d2).1.mp (by omega)
    omega
  have v0 := j3 k (by omega)
  have v1 := j3 (k + 1) hlt
  have n0 := fx_B_n v0.1 (by omega)
  have n1 := fx_B_n v1.1 (by omega)
  have hhn : fx_n (s_hk P V F kn k x) := fx_B_n hh (by omega)
  have hhm : fx_m (s_hk P V F kn k x) := fx_add_m (fx_B_fin v0.1 (by omega)) (fx_B_fin (by
    have := fx_Bm (M := 1531) ht (fx_Ba (M := 1383) hE.2.1 (fx_Bm (M := 1381) ht (fx_Ba (M := 1233) hE.2.2.1 (fx_Bm (M := 1231) ht hE.2.2.2 (by omega) (by omega) (by omega)) (by omega) (by omega) (by omega)) (by omega) (by omega) (by omega)) (by omega) (by omega) (by omega)) (by omega) (by omega) (by omega)
    exact this) (by omega)) v0.2
  have hkept : fx_n (s_within (V k) (V (k + 1)) (s_hk P V F kn k x)) ∧ fx_m (s_within (V k) (V (k + 1)) (s_hk P V F kn k x)) ∧ fx_k (V k) ≤ fx_k (s_within (V k) (V (k + 1)) (s_hk P V F kn k x)) ∧ fx_k (s_within (V k) (V (k + 1)) (s_hk P V F kn k x)) ≤ fx_k (V (k + 1)) := by
    have hmn := j4 k hlt
    unfold s_within
    by_cases c1 : sp_lt (s_hk P V F kn k x) (V k)
    · rw [if_pos c1]; exact ⟨n0, v0.2, Int.le_refl _, hmn⟩
    · rw [if_neg c1]
      have c1' : ¬ fx_k (s_hk P V F kn k x) < fx_k (V k) := fun h9 => c1 ((fx_lt hhn n0).mpr h9)
      by_cases c2 : sp_gt (s_hk P V F kn k x) (V (k + 1))
      · rw [if_pos c2]; exact ⟨n1, v1.2, hmn, Int.le_refl _⟩
      · rw [if_neg c2]
        have c2' : ¬ fx_k (V (k + 1)) < fx_k (s_hk P V F kn k x) := fun h9 => c2 ((fx_gt hhn n1).mpr h9)
        exact ⟨hhn, hhm, by omega, by omega⟩
  have hkB : fx_B 1063 (s_within (V k) (V (k + 1)) (s_hk P V F kn k x)) := by
    have a1 := fx_B_k.mp v0.1
    have a2 := fx_B_k.mp v1.1
    rw [fx_B_k]; omega
  have htn : fx_n (s_tk P V F kn k x) := fx_B_n htt (by omega)
  have htm : fx_m (s_tk P V F kn k x) := fx_add_m (fx_B_fin hs.1 (by omega)) (fx_B_fin (by
    have := fx_Bm (M := 1384) ht (fx_Ba (M := 1236) (fx_Bm (M := 1086) fx_c2.1 hE.2.2.1 (by omega) (by omega) (by omega)) (fx_Bm (M := 1234) ht (fx_Bm (M := 1086) fx_c3.1 hE.2.2.2 (by omega) (by omega) (by omega)) (by omega) (by omega) (by omega)) (by omega) (by omega) (by omega)) (by omega) (by omega) (by omega)
    exact this) (by omega)) (fx_p_m hs.2.1)
  have hslp : fx_n (if sp_lt (s_tk P V F kn k x) 0 then 0 else s_tk P V F kn k x) ∧ fx_p (if sp_lt (s_tk P V F kn k x) 0 then 0 else s_tk P V F kn k x) := by
    by_cases c1 : sp_lt (s_tk P V F kn k x) 0
    · rw [if_pos c1]; exact ⟨fx_n0, by unfold fx_p; decide⟩
    · rw [if_neg c1]
      exact ⟨htn, fx_k_p (Int.not_lt.mp (fun h9 => c1 ((fx_lt0 htn).mpr h9))) htm⟩
  refine ⟨⟨⟨by omega, by omega, ⟨s_ins g (k + 1) kn i, ins_all2 (Q := fun (a : Int) (b : UInt64) => fx_G 1071 a b ∧ a.natAbs ≤ 8000000) hg ⟨hx, by omega⟩ (by omega), ins_mono (R := fun (a b : Int) => a < b) hm (by omega) (fun _ => l1) (fun _ => l2)⟩, fun j hj => ins_all (Q := fun a => fx_B 1063 a ∧ fx_m a) j3 ⟨hkB, hkept.2.1⟩ j hj (by omega), ins_mono (R := fun a b => fx_k a ≤ fx_k b) j4 (by omega) (fun _ => hkept.2.2.1) (fun _ => hkept.2.2.2)⟩, fun j hj => ins_all (Q := fun a => a = 13830554455654793216 ∨ (fx_n a ∧ fx_p a)) hF (Or.inr hslp) j hj (by omega)⟩, hslp.2⟩
theorem KI_rem {kn k : Nat} {P V F : Nat → UInt64} (h : KI kn P V F) (h0 : 0 < k) (hk : k + 1 < kn) : KI (kn - 1) (s_rem P k kn) (s_rem V k kn) (s_rem F k kn) := by
  obtain ⟨⟨j1, j2, ⟨g, hg, hm⟩, j3, j4⟩, hF⟩ := h
  exact ⟨⟨by omega, by omega, ⟨s_rem g k kn, rem_all2 (Q := fun (a : Int) (b : UInt64) => fx_G 1071 a b ∧ a.natAbs ≤ 8000000) hg, rem_mono (R := fun (a b : Int) => a < b) (fun _ _ _ => Int.lt_trans) hm⟩, rem_all (Q := fun a => fx_B 1063 a ∧ fx_m a) j3, rem_mono (R := fun a b => fx_k a ≤ fx_k b) (fun _ _ _ => Int.le_trans) j4⟩, rem_all (Q := fun a => a = 13830554455654793216 ∨ (fx_n a ∧ fx_p a)) hF⟩
theorem KI_set {kn k : Nat} {P V F : Nat → UInt64} {y : UInt64} (h : KI kn P V F) (hy : PY y) (h2 : 0 < k → ¬ sp_lt y (V (k - 1))) (h3 : k + 1 < kn → ¬ sp_gt y (V (k + 1))) : KI kn P (vf_upd V k y) F := by
  obtain ⟨⟨j1, j2, jg, j3, j4⟩, hF⟩ := h
  have yB := PY_B hy
  have yn := fx_B_n yB (by omega)
  refine ⟨⟨j1, j2, jg, fun j hj => ?_, fun j hj => ?_⟩, hF⟩
  · unfold vf_upd
    split
    · exact ⟨fx_B_mono yB (by omega), (let ⟨_, a, _⟩ := hy; fx_G_m a)⟩
    · exact j3 j hj
  · unfold vf_upd
    by_cases c1 : j = k
    · rw [if_pos c1, if_neg (by omega), c1]
      exact Int.not_lt.mp (fun h9 => h3 (by omega) ((fx_gt yn (fx_B_n (j3 (k + 1) (by omega)).1 (by omega))).mpr h9))
    · rw [if_neg c1]
      by_cases c2 : j + 1 = k
      · rw [if_pos c2]
        have := h2 (by omega)
        rw [show k - 1 = j by omega] at this
        exact Int.not_lt.mp (fun h9 => this ((fx_lt yn (fx_B_n (j3 j (by omega)).1 (by omega))).mpr h9))
      · rw [if_neg c2]; exact j4 j hj
theorem KI_fix {kn k : Nat} {P V F : Nat → UInt64} {t : UInt64} (h : KI kn P V F) (ht : t = 13830554455654793216 ∨ (fx_n t ∧ fx_p t)) : KI kn P V (vf_upd F k t) := by
  refine ⟨h.1, fun j hj => ?_⟩
  unfold vf_upd
  split
  · exact ht
  · exact h.2 j hj
theorem st_fix {i : Int} {t : UInt64} (h : fx_G 1071 i t) (h1 : sp_ge t 0 ∧ sp_le t 4696837146684686336) : fx_n t ∧ fx_p t := by
  have hn := fx_G_n h
  have h2 := (fx_ge hn fx_n0).mp h1.1
  rw [fx_k0] at h2
  exact ⟨hn, fx_k_p h2 (fx_G_m h)⟩
theorem p_free {t : UInt64} (h : fx_p t) : ¬ t = 13830554455654793216 := fun h1 => by rw [h1] at h; exact absurd h (by unfold fx_p; decide)
theorem MR_ins {kn i : Nat} {F FX : Nat → UInt64} {AF : Nat → Int32} {t : UInt64} (h : MR kn F AF FX) (hi : i ≤ kn) (ht : fx_p t) : MR (kn + 1) (s_ins F i kn t) (s_ins AF i kn 1) (s_ins FX i kn t) := by
  refine ⟨fun k => ?_, fun k hk => ?_⟩
  · unfold s_ins
    split
    · exact Or.inr rfl
    · split <;> exact h.1 _
  · unfold s_ins
    by_cases h1 : k = i
    · rw [if_pos h1, if_pos h1, if_pos h1]; exact Or.inr ⟨p_free ht, rfl, rfl⟩
    · rw [if_neg h1, if_neg h1, if_neg h1]
      by_cases h2 : i < k ∧ k ≤ kn
      · rw [if_pos h2, if_pos h2, if_pos h2]; exact h.2 _ (by omega)
      · rw [if_neg h2, if_neg h2, if_neg h2]; exact h.2 _ (by omega)
theorem MR_rem {kn i : Nat} {F FX : Nat → UInt64} {AF : Nat → Int32} (h : MR kn F AF FX) : MR (kn - 1) (s_rem F i kn) (s_rem AF i kn) (s_rem FX i kn) := by
  refine ⟨fun k => ?_, fun k hk => ?_⟩
  · unfold s_rem; split <;> exact h.1 _
  · unfold s_rem
    by_cases h2 : i ≤ k ∧ k < kn - 1
    · rw [if_pos h2, if_pos h2, if_pos h2]; exact h.2 _ (by omega)
    · rw [if_neg h2, if_neg h2, if_neg h2]; exact h.2 _ (by omega)
theorem MR_fix {kn i : Nat} {F FX : Nat → UInt64} {AF : Nat → Int32} {t : UInt64} (h : MR kn F AF FX) (ht : fx_p t) : MR kn (vf_upd F i t) (upd AF i 1) (vf_upd FX i t) := by
  refine ⟨fun k => ?_, fun k hk => ?_⟩
  · unfold upd; split
    · exact Or.inr rfl
    · exact h.1 _
  · unfold upd vf_upd
    by_cases h1 : k = i
    · rw [if_pos h1, if_pos h1, if_pos h1]; exact Or.inr ⟨p_free ht, rfl, rfl⟩
    · rw [if_neg h1, if_neg h1, if_neg h1]; exact h.2 _ hk
theorem MR_free {kn i : Nat} {F FX : Nat → UInt64} {AF : Nat → Int32} (h : MR kn F AF FX) : MR kn (vf_upd F i 13830554455654793216) (upd AF i 0) FX := by
  refine ⟨fun k => ?_, fun k hk => ?_⟩
  · unfold upd; split
    · exact Or.inl rfl
    · exact h.1 _
  · unfold upd vf_upd
    by_cases h1 : k = i
    · rw [if_pos h1, if_pos h1]; exact Or.inl ⟨rfl, rfl⟩
    · rw [if_neg h1, if_neg h1]; exact h.2 _ hk
/-- a tail -/
def TI (k : Nat) (a : UInt64) : Prop := k ≤ 6 ∧ PY a ∧ (4 ≤ k → ¬ sp_eq a 0)
/-- what stands between two steps -/
def LI (n kn k1 k2 : Nat) (X Y Wt P V F : Nat → UInt64) (a1 a2 : UInt64) (AF : Nat → Int32) (FX : Nat → UInt64) (TK : Nat → Int32) (FA : Nat → UInt64) : Prop :=
  XJ n X Y Wt ∧ (kn = 0 ∨ KI kn P V F) ∧ MR kn F AF FX ∧ TI k1 a1 ∧ TI k2 a2 ∧ TK 0 = nI k1 ∧ TK 1 = nI k2 ∧ FA 0 = a1 ∧ FA 1 = a2
theorem LI_60 {n kn k1 k2 : Nat} {X Y Wt P V F : Nat → UInt64} {a1 a2 : UInt64} {AF : Nat → Int32} {FX : Nat → UInt64} {TK : Nat → Int32} {FA : Nat → UInt64} (h : LI n kn k1 k2 X Y Wt P V F a1 a2 AF FX TK FA) : n ≤ 40 ∧ kn ≤ 60 := by
  refine ⟨h.1.1, ?_⟩
  rcases h.2.1 with h0 | h0
  · omega
  · exact h0.1.2.1
theorem LI_start : LI 0 0 0 0 (fun _ => 0) (fun _ => 0) (fun _ => 0) (fun _ => 0) (fun _ => 0) (fun _ => 0) 0 0 (fun _ => 0) (fun _ => 0) (fun _ => 0) (fun _ => 0) := by
  have hp : PY 0 := ⟨0, ⟨0, -1074, by decide +kernel, by decide +kernel⟩, by decide⟩
  exact ⟨⟨by omega, ⟨fun _ => 0, fun k hk => absurd hk (Nat.not_lt_zero _), fun k hk => absurd hk (Nat.not_lt_zero _)⟩, fun k hk => absurd hk (Nat.not_lt_zero _), fun k hk => absurd hk (Nat.not_lt_zero _)⟩, Or.inl rfl, ⟨fun _ => Or.inl rfl, fun k hk => absurd hk (Nat.not_lt_zero _)⟩, ⟨by omega, hp, by omega⟩, ⟨by omega, hp, by omega⟩, by decide, by decide, rfl, rfl⟩
