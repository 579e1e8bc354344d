/-! what a fit lays -/
def s_lay {α : Type} (f g : Nat → α) (a b : Nat) : Nat → α := fun j => if a ≤ j ∧ j < b then g j else f j
theorem s_lay_0 {α : Type} {f g : Nat → α} {a : Nat} : s_lay f g a a = f := by
  funext j; unfold s_lay; rw [if_neg (by omega)]
theorem s_lay_ins {α : Type} {f g : Nat → α} {a b : Nat} (h : a ≤ b) : s_ins (s_lay f g a b) b b (g b) = s_lay f g a (b + 1) := by
  funext j; unfold s_ins s_lay
  by_cases hj : j = b
  · subst hj; rw [if_pos rfl, if_pos (by omega)]
  · rw [if_neg hj, if_neg (by omega)]
    by_cases h1 : a ≤ j ∧ j < b
    · rw [if_pos h1, if_pos (by omega)]
    · rw [if_neg h1, if_neg (by omega)]
theorem s_lay_upd {f g : Nat → UInt64} {a b : Nat} (h : a ≤ b) : vf_upd (s_lay f g a b) b (g b) = s_lay f g a (b + 1) := by
  rw [← s_lay_ins h]; funext j; unfold vf_upd s_ins
  by_cases hj : j = b
  · rw [if_pos hj, if_pos hj]
  · rw [if_neg hj, if_neg hj, if_neg (by omega)]
theorem s_lay_updi {f g : Nat → Int32} {a b : Nat} (h : a ≤ b) : upd (s_lay f g a b) b (g b) = s_lay f g a (b + 1) := by
  rw [← s_lay_ins h]; funext j; unfold upd s_ins
  by_cases hj : j = b
  · rw [if_pos hj, if_pos hj]
  · rw [if_neg hj, if_neg hj, if_neg (by omega)]
theorem s_lay_lay {α : Type} {f g : Nat → α} {a b c : Nat} (h : a ≤ b) (h2 : b ≤ c) : s_lay (s_lay f g a b) g b c = s_lay f g a c := by
  funext j; unfold s_lay
  by_cases h1 : b ≤ j ∧ j < c
  · rw [if_pos h1, if_pos (by omega)]
  · rw [if_neg h1]
    by_cases h3 : a ≤ j ∧ j < b
    · rw [if_pos h3, if_pos (by omega)]
    · rw [if_neg h3, if_neg (by omega)]
def s_z (Z : Nat → Int32) (k : Nat) : Nat := (Z k).toInt.toNat
theorem s_z_of {Z : Nat → Int32} {k n : Nat} (h : Z k = nI n) (hn : n < 2 ^ 31) : s_z Z k = n := by
  unfold s_z; rw [h, nI_toInt hn]; rfl
theorem BJ_z {i bc : Nat} {W S : Nat → UInt64} {Z : Nat → Int32} (h : BJ i bc W S Z) : s_sum (s_z Z) bc = i ∧ ∀ j, j < bc → Z j = nI (s_z Z j) ∧ 1 ≤ s_z Z j := by
  obtain ⟨h1, z, h2, h3, h4⟩ := h
  have hz : ∀ j, j < bc → s_z Z j = z j := fun j hj => by
    have := s_sum_le (z := z) (n := bc) (k := j) hj
    exact s_z_of (h3 j hj).1 (by omega)
  refine ⟨by rw [s_sum_congr hz, h2], fun j hj => ?_⟩
  rw [hz j hj]
  exact ⟨(h3 j hj).1, (h3 j hj).2.1⟩
theorem s_sum_mono {z : Nat → Nat} {a b : Nat} (h : a ≤ b) : s_sum z a ≤ s_sum z b := by
  induction b with
  | zero => rw [show a = 0 by omega]; exact Nat.le_refl _
  | succ b ih =>
    by_cases hb : a = b + 1
    · subst hb; exact Nat.le_refl _
    · rw [s_sum]; have := ih (by omega); omega
def s_lv (V W S : Nat → UInt64) (Z : Nat → Int32) : Nat → Nat → UInt64
  | 0 => V
  | b + 1 => s_lay (s_lv V W S Z b) (fun _ => s_lev W S b) (s_sum (s_z Z) b) (s_sum (s_z Z) (b + 1))
/-! bisection -/
def s_bs (P V F : Nat → UInt64) (kn k : Nat) (y : UInt64) : Nat → UInt64 → UInt64 → UInt64
  | 0, _, hi => hi
  | n + 1, lo, hi => if sp_lt (s_hk P V F kn k (FP.ddiv (FP.dadd lo hi) 4611686018427387904)) y then s_bs P V F kn k y n (FP.ddiv (FP.dadd lo hi) 4611686018427387904) hi else s_bs P V F kn k y n lo (FP.ddiv (FP.dadd lo hi) 4611686018427387904)
theorem s_bs_t {P V F : Nat → UInt64} {kn k i : Nat} {y lo hi : UInt64} (hi6 : i < 60) (h : sp_lt (s_hk P V F kn k (FP.ddiv (FP.dadd lo hi) 4611686018427387904)) y) : s_bs P V F kn k y (60 - i) lo hi = s_bs P V F kn k y (60 - (i + 1)) (FP.ddiv (FP.dadd lo hi) 4611686018427387904) hi := by
  rw [show 60 - i = (60 - (i + 1)) + 1 by omega, s_bs, if_pos h]
theorem s_bs_f {P V F : Nat → UInt64} {kn k i : Nat} {y lo hi : UInt64} (hi6 : i < 60) (h : ¬ sp_lt (s_hk P V F kn k (FP.ddiv (FP.dadd lo hi) 4611686018427387904)) y) : s_bs P V F kn k y (60 - i) lo hi = s_bs P V F kn k y (60 - (i + 1)) lo (FP.ddiv (FP.dadd lo hi) 4611686018427387904) := by
  rw [show 60 - i = (60 - (i + 1)) + 1 by omega, s_bs, if_neg h]
theorem s_mid {K : Nat} {a b : UInt64} (ha : fx_B K a) (hb : fx_B K b) (hK : K ≤ 2000) (hK1 : 1 ≤ K) : fx_B (K + 2) (FP.dadd a b) ∧ fx_B (K + 2) (FP.ddiv (FP.dadd a b) 4611686018427387904) := by
  have h1 := fx_B_add ha hb (by omega)
  exact ⟨h1, fx_Bd (L := 1024) h1 fx_c2.2.2.2 (fx_B_mono fx_c2.1 (by omega)) (by omega) (by omega) (by omega)⟩
/-! rises -/
def s_bst (P V : Nat → UInt64) : Nat → Nat
  | 0 => 0
  | m + 1 => if sp_gt (s_r P V (m + 1)) (s_r P V (s_bst P V m)) then m + 1 else s_bst P V m
theorem s_bst_le {P V : Nat → UInt64} {m : Nat} : s_bst P V m ≤ m := by
  induction m with
  | zero => exact Nat.le_refl _
  | succ m ih => rw [s_bst]; split <;> omega
theorem s_bst_t {P V : Nat → UInt64} {k b : Nat} (h0 : 0 < k) (hb : b = s_bst P V (k - 1)) (h : sp_gt (s_r P V k) (s_r P V b)) : k = s_bst P V k := by
  cases k with
  | zero => omega
  | succ k => rw [hb] at h; exact (if_pos h).symm
theorem s_bst_f {P V : Nat → UInt64} {k b : Nat} (h0 : 0 < k) (hb : b = s_bst P V (k - 1)) (h : ¬ sp_gt (s_r P V k) (s_r P V b)) : b = s_bst P V k := by
  cases k with
  | zero => omega
  | succ k => rw [hb] at h; rw [hb]; exact (if_neg h).symm
def s_flat (P V : Nat → UInt64) : Nat → Nat
  | 0 => 0
  | m + 1 => if sp_eq (s_r P V m) 0 then s_flat P V m + 1 else s_flat P V m
theorem s_flat_le {P V : Nat → UInt64} {m : Nat} : s_flat P V m ≤ m := by
  induction m with
  | zero => exact Nat.le_refl _
  | succ m ih => rw [s_flat]; split <;> omega
/-! tails -/
def s_mir (lf : Nat) (x : UInt64) : UInt64 := if lf = 0 then x else FP.dneg x
def s_lim (lf kd : Nat) (a y : UInt64) : UInt64 :=
  if kd = 1 then FP.dadd y (FP.dmul a (s_mir lf 4609753056924675352)) else if kd = 2 then FP.dadd y (FP.dmul a (s_mir lf 4607182418800017408)) else if kd = 3 then FP.dadd y (FP.dmul a 13830554455654793216)
  else if kd = 4 ∨ kd = 5 then (if (sp_gt a 0 ∧ lf = 0) ∨ (¬ sp_gt a 0 ∧ ¬ lf = 0) then 9218868437227405312 else 18442240474082181120)
  else if kd = 6 then (if sp_gt a 0 then 9218868437227405312 else 18442240474082181120) else y
theorem PY_B {a : UInt64} (h : PY a) : fx_B 1045 a := by
  obtain ⟨i, h1, h2⟩ := h
  exact fx_G_B h1 (m := 24) (by omega) (by omega) (by omega)
theorem s_lim_n {lf : Nat} {a y c : UInt64} (ha : PY a) (hy : fx_B 1063 y) (hc : c = 4609753056924675352 ∨ c = 4607182418800017408 ∨ c = 13830554455654793216) : (fx_n (FP.dmul a (s_mir lf c)) ∧ fx_n (FP.dadd y (FP.dmul a (s_mir lf c)))) ∧ fx_n (FP.dmul a c) ∧ fx_n (FP.dadd y (FP.dmul a c)) := by
  have hB : fx_B 1024 c := by rcases hc with rfl | rfl | rfl <;> (unfold fx_B; decide)
  have hM : fx_B 1024 (s_mir lf c) := by unfold s_mir; split; exact hB; exact fx_neg_B hB
  have g : ∀ d, fx_B 1024 d → fx_n (FP.dmul a d) ∧ fx_n (FP.dadd y (FP.dmul a d)) := fun d hd => by
    have h1 : fx_B 1070 (FP.dmul a d) := fx_Bm (PY_B ha) hd (by omega) (by omega) (by omega)
    have h2 : fx_B 1080 (FP.dadd y (FP.dmul a d)) := fx_Ba hy h1 (by omega) (by omega) (by omega)
    exact ⟨fx_B_n h1 (by omega), fx_B_n h2 (by omega)⟩
  exact ⟨g _ hM, g _ hB⟩
theorem lg_cmp_lt' {x y : Int64} : lg_cmp x y < 0 ↔ x < y := by
  unfold lg_cmp
  by_cases h1 : x > y
  · rw [if_pos h1]
    constructor
    · intro h; exact absurd h (by decide)
    · intro h
      have h1 : y < x := h1
      rw [Int64.lt_iff_toInt_lt] at h h1; omega
  · rw [if_neg h1]
    by_cases h2 : x = y
    · rw [if_pos h2]
      constructor
      · intro h; exact absurd h (by decide)
      · intro h
        subst h2
        rw [Int64.lt_iff_toInt_lt] at h; omega
    · rw [if_neg h2]
      refine ⟨fun _ => ?_, fun _ => by decide⟩
      have h3 : ¬ x.toInt = y.toInt := fun h => h2 (Int64.toInt_inj.mp h)
      have h1 : ¬ y < x := h1
      rw [Int64.lt_iff_toInt_lt] at h1 ⊢; omega
theorem lg_cmp_eq' {x y : Int64} : lg_cmp x y = 0 ↔ x = y := by
  unfold lg_cmp
  by_cases h1 : x > y
  · rw [if_pos h1]
    constructor
    · intro h; exact absurd h (by decide)
    · intro h
      have h1 : y < x := h1
      subst h
      rw [Int64.lt_iff_toInt_lt] at h1; omega
  · rw [if_neg h1]
    by_cases h2 : x = y
    · rw [if_pos h2]; exact ⟨fun _ => h2, fun _ => rfl⟩
    · rw [if_neg h2]
      exact ⟨fun h => absurd h (by decide), fun h => absurd h h2⟩
theorem cv_lc_lt_t {x y : Int64} (h : lg_cmp x y < 0) : x < y := lg_cmp_lt'.mp h
theorem cv_lc_lt_f {x y : Int64} (h : ¬ lg_cmp x y < 0) : ¬ x < y := fun h9 => h (lg_cmp_lt'.mpr h9)
theorem cv_lc_ge_t {x y : Int64} (h : 0 ≤ lg_cmp x y) : ¬ x < y := cv_lc_lt_f (Int32.not_lt.mpr h)
theorem cv_lc_eq_t {x y : Int64} (h : lg_cmp x y = 0) : x = y := lg_cmp_eq'.mp h
theorem cv_lc_eq_f {x y : Int64} (h : ¬ lg_cmp x y = 0) : ¬ x = y := fun h9 => h (lg_cmp_eq'.mpr h9)
