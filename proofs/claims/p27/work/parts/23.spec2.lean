/-! blocks -/
def s_lev (W S : Nat → UInt64) (k : Nat) : UInt64 := FP.ddiv (S k) (W k)
def s_jd (W : Nat → UInt64) (k : Nat) : Nat → UInt64 := vf_upd W (k - 1) (FP.dadd (W (k - 1)) (W k))
def s_jz (Z : Nat → Int32) (k : Nat) : Nat → Int32 := upd Z (k - 1) (Z (k - 1) + Z k)
abbrev s_B : Type := Nat × (Nat → UInt64) × (Nat → UInt64) × (Nat → Int32)
def s_jn : Nat → (Nat → UInt64) → (Nat → UInt64) → (Nat → Int32) → s_B
  | 0, W, S, Z => (1, W, S, Z)
  | k + 1, W, S, Z => if sp_lt (s_lev W S (k + 1)) (s_lev W S k) then s_jn k (s_jd W (k + 1)) (s_jd S (k + 1)) (s_jz Z (k + 1)) else (k + 2, W, S, Z)
theorem s_jn_step {k : Nat} {W S : Nat → UInt64} {Z : Nat → Int32} (h0 : 0 < k) (h : sp_lt (s_lev W S k) (s_lev W S (k - 1))) : s_jn k W S Z = s_jn (k - 1) (s_jd W k) (s_jd S k) (s_jz Z k) := by
  cases k with
  | zero => omega
  | succ k => exact if_pos h
theorem s_jn_stop {k : Nat} {W S : Nat → UInt64} {Z : Nat → Int32} (h0 : 0 < k) (h : ¬ sp_lt (s_lev W S k) (s_lev W S (k - 1))) : s_jn k W S Z = (k + 1, W, S, Z) := by
  cases k with
  | zero => omega
  | succ k => exact if_neg h
/-- a block of one more point -/
def s_ba (bc : Nat) (W S : Nat → UInt64) (Z : Nat → Int32) (y w : UInt64) : s_B := s_jn bc (vf_upd W bc w) (vf_upd S bc (FP.dmul w y)) (upd Z bc 1)
def s_sum (z : Nat → Nat) : Nat → Nat
  | 0 => 0
  | n + 1 => s_sum z n + z n
theorem s_sum_congr {z z' : Nat → Nat} {n : Nat} (h : ∀ j, j < n → z j = z' j) : s_sum z n = s_sum z' n := by
  induction n with
  | zero => rfl
  | succ n ih => rw [s_sum, s_sum, ih (fun j hj => h j (by omega)), h n (by omega)]
theorem s_sum_le {z : Nat → Nat} {n k : Nat} (h : k < n) : z k + s_sum z k ≤ s_sum z n := by
  induction n with
  | zero => omega
  | succ n ih =>
    rw [s_sum]
    by_cases hk : k = n
    · subst hk; omega
    · have := ih (by omega); omega
theorem s_sum_ge {z : Nat → Nat} {n : Nat} (h : ∀ j, j < n → 1 ≤ z j) : n ≤ s_sum z n := by
  induction n with
  | zero => omega
  | succ n ih => rw [s_sum]; have := ih (fun j hj => h j (by omega)); have := h n (by omega); omega
/-- one block: so many points, the weights' sum and the products' sum on their grids -/
def BE (z : Nat) (w s : UInt64) (q : Int32) : Prop := q = nI z ∧ 1 ≤ z ∧ (∃ a : Int, fx_G 1071 a w ∧ 8 * (z : Int) ≤ a ∧ a ≤ 40 * (z : Int)) ∧ ∃ b : Int, fx_G 1068 b s ∧ b.natAbs ≤ 6400 * z
theorem BE_f {z : Nat} {w s : UInt64} {q : Int32} (h : BE z w s q) (hz : z ≤ 40) : fx_n (FP.ddiv s w) ∧ ¬ sp_eq w 0 ∧ fx_B 1063 (FP.ddiv s w) ∧ fx_m (FP.ddiv s w) := by
  obtain ⟨-, h1, ⟨a, ha, a1, a2⟩, b, hb, b1⟩ := h
  have hm : ∃ m, m ≤ 5 ∧ 2 ^ m ≤ z ∧ z ≤ 2 ^ (m + 1) := by
    by_cases z1 : z < 2
    · exact ⟨0, by omega, by omega, by omega⟩
    by_cases z2 : z < 4
    · exact ⟨1, by omega, by omega, by omega⟩
    by_cases z3 : z < 8
    · exact ⟨2, by omega, by omega, by omega⟩
    by_cases z4 : z < 16
    · exact ⟨3, by omega, by omega, by omega⟩
    by_cases z5 : z < 32
    · exact ⟨4, by omega, by omega, by omega⟩
    · exact ⟨5, by omega, by omega, by omega⟩
  obtain ⟨m, m1, m2, m3⟩ := hm
  have wp : fx_p w := fx_G_p ha (by omega)
  have wn := fx_G_n ha
  have wL : fx_L (1020 + m) w := fx_G_L ha (m := m) (by omega) (by omega) (by omega)
  have wB : fx_B 1040 w := fx_G_B ha (m := 19) (by omega) (by omega) (by omega)
  have wk : 0 < fx_k w := fx_L_pos wL wp (by omega)
  have wz : ¬ FP.Core.DZero w := fx_nz_k wk
  have sB : fx_B (1055 + m) s := fx_G_B hb (m := 37 + m) (by
    have : 2 ^ (37 + m) = 2 ^ 36 * 2 ^ (m + 1) := by rw [← Nat.pow_add]; congr 1; omega
    rw [this]
    calc b.natAbs ≤ 64000000000 * z := by omega
      _ ≤ 2 ^ 36 * 2 ^ (m + 1) := Nat.mul_le_mul (by decide) m3) (by omega) (by omega)
  have lB : fx_B 1063 (FP.ddiv s w) := fx_Bd sB wL (fx_B_mono wB (by omega)) (by omega) (by omega) (by omega)
  have ln := fx_B_n lB (by omega)
  refine ⟨ln, by rw [fx_eq0 wn]; omega, lB, ?_⟩
  by_cases b0 : 0 ≤ b
  · exact fx_p_m (fx_p_div (fx_G_p hb b0) wp (fx_G_n hb) wn ln)
  · have sL : fx_L 1017 s := fx_G_L hb (m := 0) (by omega) (by omega) (by omega)
    have lL : fx_L 1000 (FP.ddiv s w) := fx_L_div sL (fx_B_mono sB (by omega)) wB wz (by omega) (by omega) (by omega) (by omega) (by omega)
    unfold fx_L at lL; unfold fx_m; omega
theorem BE_join {z z' : Nat} {w s w' s' : UInt64} {q q' : Int32} (h : BE z w s q) (h' : BE z' w' s' q') (hz : z + z' ≤ 40) : BE (z + z') (FP.dadd w w') (FP.dadd s s') (q + q') := by
  obtain ⟨h0, h1, ⟨a, ha, a1, a2⟩, b, hb, b1⟩ := h
  obtain ⟨h0', h1', ⟨a', ha', a1', a2'⟩, b', hb', b1'⟩ := h'
  exact ⟨by rw [h0, h0']; exact nI_add z z', by omega, ⟨a + a', fx_G_add ha ha' (by omega) (by omega), by omega, by omega⟩, b + b', fx_G_add hb hb' (by omega) (by omega), by omega⟩
/-- the blocks of so many points, the last one perhaps to be joined with its left -/
def BM (i k : Nat) (W S : Nat → UInt64) (Z : Nat → Int32) : Prop :=
  i ≤ 40 ∧ ∃ z : Nat → Nat, s_sum z (k + 1) = i ∧ (∀ j, j ≤ k → BE (z j) (W j) (S j) (Z j)) ∧ ∀ j, j + 1 < k → fx_k (s_lev W S j) ≤ fx_k (s_lev W S (j + 1))
def BJ (i bc : Nat) (W S : Nat → UInt64) (Z : Nat → Int32) : Prop :=
  i ≤ 40 ∧ ∃ z : Nat → Nat, s_sum z bc = i ∧ (∀ j, j < bc → BE (z j) (W j) (S j) (Z j)) ∧ ∀ j, j + 1 < bc → fx_k (s_lev W S j) ≤ fx_k (s_lev W S (j + 1))
theorem BM_f {i k j : Nat} {W S : Nat → UInt64} {Z : Nat → Int32} (h : BM i k W S Z) (hj : j ≤ k) : fx_n (s_lev W S j) ∧ ¬ sp_eq (W j) 0 ∧ fx_B 1063 (s_lev W S j) ∧ fx_m (s_lev W S j) := by
  obtain ⟨h1, z, h2, h3, h4⟩ := h
  have := s_sum_le (z := z) (n := k + 1) (k := j) (by omega)
  exact BE_f (h3 j hj) (by omega)
theorem BJ_f {i bc j : Nat} {W S : Nat → UInt64} {Z : Nat → Int32} (h : BJ i bc W S Z) (hj : j < bc) : fx_n (s_lev W S j) ∧ ¬ sp_eq (W j) 0 ∧ fx_B 1063 (s_lev W S j) ∧ fx_m (s_lev W S j) := by
  obtain ⟨h1, z, h2, h3, h4⟩ := h
  have := s_sum_le (z := z) (n := bc) (k := j) hj
  exact BE_f (h3 j hj) (by omega)
theorem BM_k {i k : Nat} {W S : Nat → UInt64} {Z : Nat → Int32} (h : BM i k W S Z) : k < i := by
  obtain ⟨h1, z, h2, h3, h4⟩ := h
  have := s_sum_ge (z := z) (n := k + 1) (fun j hj => (h3 j (by omega)).2.1)
  omega
theorem BJ_k {i bc : Nat} {W S : Nat → UInt64} {Z : Nat → Int32} (h : BJ i bc W S Z) : bc ≤ i := by
  obtain ⟨h1, z, h2, h3, h4⟩ := h
  have := s_sum_ge (z := z) (n := bc) (fun j hj => (h3 j hj).2.1)
  omega
theorem BM_add {i k : Nat} {W S : Nat → UInt64} {Z : Nat → Int32} (h : BM i k W S Z) (h0 : 0 < k) : fx_n (FP.dadd (W (k - 1)) (W k)) ∧ fx_n (FP.dadd (S (k - 1)) (S k)) := by
  obtain ⟨h1, z, h2, h3, h4⟩ := h
  have e1 := s_sum_le (z := z) (n := k + 1) (k := k - 1) (by omega)
  have e2 : s_sum z (k + 1) = s_sum z k + z k := rfl
  have e3 : s_sum z k = s_sum z (k - 1) + z (k - 1) := by
    cases k with
    | zero => omega
    | succ k => rfl
  have := BE_join (h3 (k - 1) (by omega)) (h3 k (by omega)) (by omega)
  obtain ⟨-, -, ⟨a, ha, -⟩, b, hb, -⟩ := this
  exact ⟨fx_G_n ha, fx_G_n hb⟩
theorem BM_step {i k : Nat} {W S : Nat → UInt64} {Z : Nat → Int32} (h : BM i k W S Z) (h0 : 0 < k) : BM i (k - 1) (s_jd W k) (s_jd S k) (s_jz Z k) := by
  obtain ⟨h1, z, h2, h3, h4⟩ := h
  have e2 : s_sum z (k + 1) = s_sum z k + z k := rfl
  have e3 : s_sum z k = s_sum z (k - 1) + z (k - 1) := by
    cases k with
    | zero => omega
    | succ k => rfl
  have hold : ∀ j, j < k - 1 → s_jd W k j = W j ∧ s_jd S k j = S j ∧ s_jz Z k j = Z j := fun j hj => by
    unfold s_jd s_jz vf_upd upd
    rw [if_neg (by omega), if_neg (by omega), if_neg (by omega)]
    exact ⟨rfl, rfl, rfl⟩
  refine ⟨h1, fun j => if j = k - 1 then z (k - 1) + z k else z j, ?_, fun j hj => ?_, fun j hj => ?_⟩
  · rw [show k - 1 + 1 = (k - 1) + 1 from rfl, s_sum]
    rw [s_sum_congr (z' := z) (fun j hj => if_neg (by omega)), if_pos rfl]
    omega
  · by_cases hk : j = k - 1
    · subst hk
      dsimp only
      unfold s_jd s_jz vf_upd upd
      rw [if_pos rfl, if_pos rfl, if_pos rfl, if_pos rfl]
      exact BE_join (h3 (k - 1) (by omega)) (h3 k (by omega)) (by omega)
    · obtain ⟨a1, a2, a3⟩ := hold j (by omega)
      dsimp only
      rw [if_neg hk, a1, a2, a3]
      exact h3 j (by omega)
  · obtain ⟨a1, a2, a3⟩ := hold j (by omega)
    obtain ⟨b1, b2, b3⟩ := hold (j + 1) (by omega)
    unfold s_lev
    rw [a1, a2, b1, b2]
    exact h4 j (by omega)
theorem BM_J {i k : Nat} {W S : Nat → UInt64} {Z : Nat → Int32} (h : BM i k W S Z) : BJ i (s_jn k W S Z).1 (s_jn k W S Z).2.1 (s_jn k W S Z).2.2.1 (s_jn k W S Z).2.2.2 ∧ 0 < (s_jn k W S Z).1 := by
  induction k generalizing W S Z with
  | zero =>
    obtain ⟨h1, z, h2, h3, h4⟩ := h
    exact ⟨⟨h1, z, h2, fun j hj => h3 j (by have : j < 1 := hj; omega), fun j hj => by have : j + 1 < 1 := hj; omega⟩, Nat.one_pos⟩
  | succ k ih =>
    by_cases hc : sp_lt (s_lev W S (k + 1)) (s_lev W S k)
    · rw [s_jn_step (Nat.succ_pos k) hc]
      exact ih (BM_step h (Nat.succ_pos k))
    · rw [s_jn_stop (Nat.succ_pos k) hc]
      have e1 := (BM_f h (j := k) (by omega)).1
      have e2 := (BM_f h (j := k + 1) (by omega)).1
      obtain ⟨h1, z, h2, h3, h4⟩ := h
      refine ⟨⟨h1, z, h2, fun j hj => h3 j (by have : j < k + 1 + 1 := hj; omega), fun j hj => ?_⟩, by omega⟩
      have hj : j + 1 < k + 1 + 1 := hj
      by_cases hk : j = k
      · subst hk
        show fx_k (s_lev W S j) ≤ fx_k (s_lev W S (j + 1))
        have := fx_lt e2 e1
        exact Int.not_lt.mp (fun h9 => hc (this.mpr h9))
      · exact h4 j (by omega)
/-- a point's height and weight on their grids -/
def PY (y : UInt64) : Prop := ∃ i : Int, fx_G 1071 i y ∧ i.natAbs ≤ 160
def PW (w : UInt64) : Prop := ∃ i : Int, fx_G 1071 i w ∧ 8 ≤ i ∧ i ≤ 40
theorem PW_PY {y w : UInt64} (hy : PY y) (hw : PW w) : BE 1 w (FP.dmul w y) 1 := by
  obtain ⟨i, h1, h2⟩ := hy
  obtain ⟨j, h3, h4, h5⟩ := hw
  have h6 : (j * i).natAbs ≤ 40 * 160 := by
    rw [Int.natAbs_mul]; exact Nat.mul_le_mul (by omega) h2
  exact ⟨by decide, Nat.le_refl _, ⟨j, h3, by omega, by omega⟩, j * i, fx_G_mul h3 h1 (by omega) (by omega) (by omega) ⟨by omega, by omega⟩, by omega⟩
theorem BJ_new {i bc : Nat} {W S : Nat → UInt64} {Z : Nat → Int32} {y w : UInt64} (h : BJ i bc W S Z) (hi : i < 40) (hy : PY y) (hw : PW w) : BM (i + 1) bc (vf_upd W bc w) (vf_upd S bc (FP.dmul w y)) (upd Z bc 1) := by
  obtain ⟨h1, z, h2, h3, h4⟩ := h
  have hold : ∀ j, j < bc → vf_upd W bc w j = W j ∧ vf_upd S bc (FP.dmul w y) j = S j ∧ upd Z bc 1 j = Z j := fun j hj => by
    unfold vf_upd upd
    rw [if_neg (by omega), if_neg (by omega), if_neg (by omega)]
    exact ⟨rfl, rfl, rfl⟩
  refine ⟨by omega, fun j => if j = bc then 1 else z j, ?_, fun j hj => ?_, fun j hj => ?_⟩
  · rw [s_sum, s_sum_congr (z' := z) (fun j hj => if_neg (by omega)), if_pos rfl]
    omega
  · by_cases hk : j = bc
    · subst hk
      dsimp only
      unfold vf_upd upd
      rw [if_pos rfl, if_pos rfl, if_pos rfl, if_pos rfl]
      exact PW_PY hy hw
    · obtain ⟨a1, a2, a3⟩ := hold j (by omega)
      dsimp only
      rw [if_neg hk, a1, a2, a3]
      exact h3 j (by omega)
  · obtain ⟨a1, a2, a3⟩ := hold j (by omega)
    obtain ⟨b1, b2, b3⟩ := hold (j + 1) (by omega)
    unfold s_lev
    rw [a1, a2, b1, b2]
    exact h4 j (by omega)
theorem BJ_ba {i bc : Nat} {W S : Nat → UInt64} {Z : Nat → Int32} {y w : UInt64} (h : BJ i bc W S Z) (hi : i < 40) (hy : PY y) (hw : PW w) : BJ (i + 1) (s_ba bc W S Z y w).1 (s_ba bc W S Z y w).2.1 (s_ba bc W S Z y w).2.2.1 (s_ba bc W S Z y w).2.2.2 ∧ 0 < (s_ba bc W S Z y w).1 := BM_J (BJ_new h hi hy hw)
theorem BJ_0 {W S : Nat → UInt64} {Z : Nat → Int32} : BJ 0 0 W S Z := ⟨by omega, fun _ => 0, rfl, fun j hj => absurd hj (Nat.not_lt_zero _), fun j hj => absurd hj (Nat.not_lt_zero _)⟩
/-- all the points' blocks -/
def s_bl (Y Wt : Nat → UInt64) (W S : Nat → UInt64) (Z : Nat → Int32) : Nat → s_B
  | 0 => (0, W, S, Z)
  | i + 1 => s_ba (s_bl Y Wt W S Z i).1 (s_bl Y Wt W S Z i).2.1 (s_bl Y Wt W S Z i).2.2.1 (s_bl Y Wt W S Z i).2.2.2 (Y i) (Wt i)
theorem BJ_bl {Y Wt W S : Nat → UInt64} {Z : Nat → Int32} {n : Nat} (hn : n ≤ 40) (hy : ∀ k, k < n → PY (Y k)) (hw : ∀ k, k < n → PW (Wt k)) : ∀ i, i ≤ n → BJ i (s_bl Y Wt W S Z i).1 (s_bl Y Wt W S Z i).2.1 (s_bl Y Wt W S Z i).2.2.1 (s_bl Y Wt W S Z i).2.2.2 := by
  intro i
  induction i with
  | zero => intro _; exact BJ_0
  | succ i ih => intro hi; exact (BJ_ba (ih (by omega)) (by omega) (hy i (by omega)) (hw i (by omega))).1
/-! a piece -/
def PE (y m p q : UInt64) : Prop := fx_B 1063 y ∧ fx_B 1083 m ∧ fx_B 1108 p ∧ fx_B 1126 q
theorem PE_of {kn k : Nat} {P V F : Nat → UInt64} (h : KI kn P V F) (hk : k + 1 < kn) : PE (V k) (s_s P V F kn k) (s_pk P V F kn k) (s_qk P V F kn k) := by
  obtain ⟨w1, w2, w3, w4⟩ := kJ_w1 h.1 hk
  obtain ⟨r1, r2, r3⟩ := kJ_r h.1 hk
  have m := (kI_s h (k := k) (by omega)).1
  have n := (kI_s h (k := k + 1) hk).1
  obtain ⟨hL, hB, hp, hn⟩ := fx_sq w1 w2 w3 w4
  have e1 : fx_B 1083 (FP.dmul 4613937818241073152 (s_r P V k)) := fx_Bm fx_c3.1 r1 (by omega) (by omega) (by omega)
  have e2 : fx_B 1086 (FP.dmul 4611686018427387904 (s_s P V F kn k)) := fx_Bm fx_c2.1 m (by omega) (by omega) (by omega)
  have e3 : fx_B 1088 (FP.dsub (FP.dmul 4613937818241073152 (s_r P V k)) (FP.dmul 4611686018427387904 (s_s P V F kn k))) := fx_Bs e1 e2 (by omega) (by omega) (by omega)
  have e4 : fx_B 1090 (FP.dsub (FP.dsub (FP.dmul 4613937818241073152 (s_r P V k)) (FP.dmul 4611686018427387904 (s_s P V F kn k))) (s_s P V F kn (k + 1))) := fx_Bs e3 n (by omega) (by omega) (by omega)
  have f1 : fx_B 1085 (FP.dadd (s_s P V F kn k) (s_s P V F kn (k + 1))) := fx_Ba m n (by omega) (by omega) (by omega)
  have f2 : fx_B 1083 (FP.dmul 4611686018427387904 (s_r P V k)) := fx_Bm fx_c2.1 r1 (by omega) (by omega) (by omega)
  have f3 : fx_B 1087 (FP.dsub (FP.dadd (s_s P V F kn k) (s_s P V F kn (k + 1))) (FP.dmul 4611686018427387904 (s_r P V k))) := fx_Bs f1 f2 (by omega) (by omega) (by omega)
  exact ⟨((h.1.2.2.2.1) k (by omega)).1, m, fx_Bd e4 w2 (fx_B_mono w1 (by omega)) (by omega) (by omega) (by omega), fx_Bd f3 hL (fx_B_mono hB (by omega)) (by omega) (by omega) (by omega)⟩
/-- what bends a piece, number by number -/
theorem PB_n {kn k : Nat} {P V F : Nat → UInt64} (h : KI kn P V F) (hk : k + 1 < kn) :
    fx_n (FP.dmul 4613937818241073152 (s_r P V k)) ∧ fx_n (FP.dmul 4611686018427387904 (s_s P V F kn k)) ∧ fx_n (FP.dsub (FP.dmul 4613937818241073152 (s_r P V k)) (FP.dmul 4611686018427387904 (s_s P V F kn k))) ∧
    fx_n (FP.dsub (FP.dsub (FP.dmul 4613937818241073152 (s_r P V k)) (FP.dmul 4611686018427387904 (s_s P V F kn k))) (s_s P V F kn (k + 1))) ∧ fx_n (FP.dadd (s_s P V F kn k) (s_s P V F kn (k + 1))) ∧
    fx_n (FP.dmul 4611686018427387904 (s_r P V k)) ∧ fx_n (FP.dsub (FP.dadd (s_s P V F kn k) (s_s P V F kn (k + 1))) (FP.dmul 4611686018427387904 (s_r P V k))) ∧ fx_n (FP.dmul (s_w P k) (s_w P k)) ∧ ¬ sp_eq (FP.dmul (s_w P k) (s_w P k)) 0 := by
  obtain ⟨w1, w2, w3, w4⟩ := kJ_w1 h.1 hk
  obtain ⟨r1, r2, r3⟩ := kJ_r h.1 hk
  have m := (kI_s h (k := k) (by omega)).1
  have n := (kI_s h (k := k + 1) hk).1
  obtain ⟨hL, hB, hp, hn⟩ := fx_sq w1 w2 w3 w4
  have e1 : fx_B 1083 (FP.dmul 4613937818241073152 (s_r P V k)) := fx_Bm fx_c3.1 r1 (by omega) (by omega) (by omega)
  have e2 : fx_B 1086 (FP.dmul 4611686018427387904 (s_s P V F kn k)) := fx_Bm fx_c2.1 m (by omega) (by omega) (by omega)
  have e3 : fx_B 1088 (FP.dsub (FP.dmul 4613937818241073152 (s_r P V k)) (FP.dmul 4611686018427387904 (s_s P V F kn k))) := fx_Bs e1 e2 (by omega) (by omega) (by omega)
  have e4 : fx_B 1090 (FP.dsub (FP.dsub (FP.dmul 4613937818241073152 (s_r P V k)) (FP.dmul 4611686018427387904 (s_s P V F kn k))) (s_s P V F kn (k + 1))) := fx_Bs e3 n (by omega) (by omega) (by omega)
  have f1 : fx_B 1085 (FP.dadd (s_s P V F kn k) (s_s P V F kn (k + 1))) := fx_Ba m n (by omega) (by omega) (by omega)
  have f2 : fx_B 1083 (FP.dmul 4611686018427387904 (s_r P V k)) := fx_Bm fx_c2.1 r1 (by omega) (by omega) (by omega)
  have f3 : fx_B 1087 (FP.dsub (FP.dadd (s_s P V F kn k) (s_s P V F kn (k + 1))) (FP.dmul 4611686018427387904 (s_r P V k))) := fx_Bs f1 f2 (by omega) (by omega) (by omega)
  have hp2 := fx_L_pos hL hp (by omega)
  exact ⟨fx_B_n e1 (by omega), fx_B_n e2 (by omega), fx_B_n e3 (by omega), fx_B_n e4 (by omega), fx_B_n f1 (by omega), fx_B_n f2 (by omega), fx_B_n f3 (by omega), hn, by rw [fx_eq0 hn]; omega⟩
/-- a height on a piece, number by number -/
theorem PE_h {y m p q t : UInt64} (h : PE y m p q) (ht : fx_B 1170 t) : fx_n (FP.dmul t q) ∧ fx_n (FP.dadd p (FP.dmul t q)) ∧ fx_n (FP.dmul t (FP.dadd p (FP.dmul t q))) ∧ fx_n (FP.dadd m (FP.dmul t (FP.dadd p (FP.dmul t q)))) ∧ fx_n (FP.dmul t (FP.dadd m (FP.dmul t (FP.dadd p (FP.dmul t q))))) ∧ fx_B 1640 (s_h y m p q t) := by
  obtain ⟨h1, h2, h3, h4⟩ := h
  have a1 : fx_B 1280 (FP.dmul t q) := fx_Bm ht h4 (by omega) (by omega) (by omega)
  have a2 : fx_B 1282 (FP.dadd p (FP.dmul t q)) := fx_Ba h3 a1 (by omega) (by omega) (by omega)
  have a3 : fx_B 1430 (FP.dmul t (FP.dadd p (FP.dmul t q))) := fx_Bm ht a2 (by omega) (by omega) (by omega)
  have a4 : fx_B 1432 (FP.dadd m (FP.dmul t (FP.dadd p (FP.dmul t q)))) := fx_Ba h2 a3 (by omega) (by omega) (by omega)
  have a5 : fx_B 1580 (FP.dmul t (FP.dadd m (FP.dmul t (FP.dadd p (FP.dmul t q))))) := fx_Bm ht a4 (by omega) (by omega) (by omega)
  exact ⟨fx_B_n a1 (by omega), fx_B_n a2 (by omega), fx_B_n a3 (by omega), fx_B_n a4 (by omega), fx_B_n a5 (by omega), fx_Ba h1 a5 (by omega) (by omega) (by omega)⟩
theorem PE_t {y m p q t : UInt64} (h : PE y m p q) (ht : fx_B 1170 t) : fx_n (FP.dmul 4611686018427387904 p) ∧ fx_n (FP.dmul 4613937818241073152 q) ∧ fx_n (FP.dmul t (FP.dmul 4613937818241073152 q)) ∧ fx_n (FP.dadd (FP.dmul 4611686018427387904 p) (FP.dmul t (FP.dmul 4613937818241073152 q))) ∧ fx_n (FP.dmul t (FP.dadd (FP.dmul 4611686018427387904 p) (FP.dmul t (FP.dmul 4613937818241073152 q)))) ∧ fx_B 1640 (s_t m p q t) := by
  obtain ⟨h1, h2, h3, h4⟩ := h
  have a0 : fx_B 1129 (FP.dmul 4611686018427387904 p) := fx_Bm fx_c2.1 h3 (by omega) (by omega) (by omega)
  have a1 : fx_B 1129 (FP.dmul 4613937818241073152 q) := fx_Bm fx_c3.1 h4 (by omega) (by omega) (by omega)
  have a2 : fx_B 1280 (FP.dmul t (FP.dmul 4613937818241073152 q)) := fx_Bm ht a1 (by omega) (by omega) (by omega)
  have a3 : fx_B 1282 (FP.dadd (FP.dmul 4611686018427387904 p) (FP.dmul t (FP.dmul 4613937818241073152 q))) := fx_Ba a0 a2 (by omega) (by omega) (by omega)
  have a4 : fx_B 1430 (FP.dmul t (FP.dadd (FP.dmul 4611686018427387904 p) (FP.dmul t (FP.dmul 4613937818241073152 q)))) := fx_Bm ht a3 (by omega) (by omega) (by omega)
  exact ⟨fx_B_n a0 (by omega), fx_B_n a1 (by omega), fx_B_n a2 (by omega), fx_B_n a3 (by omega), fx_B_n a4 (by omega), fx_Ba h2 a4 (by omega) (by omega) (by omega)⟩
theorem PE_p {y m p q t : UInt64} (h : PE y m p q) (ht : fx_B 1170 t) : fx_n (FP.ddiv m 4611686018427387904) ∧ fx_n (FP.ddiv p 4613937818241073152) ∧ fx_n (FP.ddiv q 4616189618054758400) ∧ fx_n (FP.dmul t (FP.ddiv q 4616189618054758400)) ∧ fx_n (FP.dadd (FP.ddiv p 4613937818241073152) (FP.dmul t (FP.ddiv q 4616189618054758400))) ∧
    fx_n (FP.dmul t (FP.dadd (FP.ddiv p 4613937818241073152) (FP.dmul t (FP.ddiv q 4616189618054758400)))) ∧ fx_n (FP.dadd (FP.ddiv m 4611686018427387904) (FP.dmul t (FP.dadd (FP.ddiv p 4613937818241073152) (FP.dmul t (FP.ddiv q 4616189618054758400))))) ∧
    fx_n (FP.dmul t (FP.dadd (FP.ddiv m 4611686018427387904) (FP.dmul t (FP.dadd (FP.ddiv p 4613937818241073152) (FP.dmul t (FP.ddiv q 4616189618054758400)))))) ∧ fx_n (FP.dadd y (FP.dmul t (FP.dadd (FP.ddiv m 4611686018427387904) (FP.dmul t (FP.dadd (FP.ddiv p 4613937818241073152) (FP.dmul t (FP.ddiv q 4616189618054758400))))))) ∧ fx_B 1760 (s_pt y m p q t) := by
  obtain ⟨h1, h2, h3, h4⟩ := h
  have a0 : fx_B 1087 (FP.ddiv m 4611686018427387904) := fx_Bd h2 fx_c2.2.2.2 (fx_B_mono fx_c2.1 (by omega)) (by omega) (by omega) (by omega)
  have a1 : fx_B 1129 (FP.ddiv p 4613937818241073152) := fx_Bd h3 fx_c3.2.2.2 (fx_B_mono fx_c3.1 (by omega)) (by omega) (by omega) (by omega)
  have a2 : fx_B 1129 (FP.ddiv q 4616189618054758400) := fx_Bd h4 fx_c4.2.2.2 (fx_B_mono fx_c4.1 (by omega)) (by omega) (by omega) (by omega)
  have a3 : fx_B 1280 (FP.dmul t (FP.ddiv q 4616189618054758400)) := fx_Bm ht a2 (by omega) (by omega) (by omega)
  have a4 : fx_B 1282 (FP.dadd (FP.ddiv p 4613937818241073152) (FP.dmul t (FP.ddiv q 4616189618054758400))) := fx_Ba a1 a3 (by omega) (by omega) (by omega)
  have a5 : fx_B 1430 (FP.dmul t (FP.dadd (FP.ddiv p 4613937818241073152) (FP.dmul t (FP.ddiv q 4616189618054758400)))) := fx_Bm ht a4 (by omega) (by omega) (by omega)
  have a6 : fx_B 1432 (FP.dadd (FP.ddiv m 4611686018427387904) (FP.dmul t (FP.dadd (FP.ddiv p 4613937818241073152) (FP.dmul t (FP.ddiv q 4616189618054758400))))) := fx_Ba a0 a5 (by omega) (by omega) (by omega)
  have a7 : fx_B 1580 (FP.dmul t (FP.dadd (FP.ddiv m 4611686018427387904) (FP.dmul t (FP.dadd (FP.ddiv p 4613937818241073152) (FP.dmul t (FP.ddiv q 4616189618054758400)))))) := fx_Bm ht a6 (by omega) (by omega) (by omega)
  have a8 : fx_B 1582 (FP.dadd y (FP.dmul t (FP.dadd (FP.ddiv m 4611686018427387904) (FP.dmul t (FP.dadd (FP.ddiv p 4613937818241073152) (FP.dmul t (FP.ddiv q 4616189618054758400))))))) := fx_Ba h1 a7 (by omega) (by omega) (by omega)
  exact ⟨fx_B_n a0 (by omega), fx_B_n a1 (by omega), fx_B_n a2 (by omega), fx_B_n a3 (by omega), fx_B_n a4 (by omega), fx_B_n a5 (by omega), fx_B_n a6 (by omega), fx_B_n a7 (by omega), fx_B_n a8 (by omega), fx_Bm ht a8 (by omega) (by omega) (by omega)⟩
/-- the area up to the beginning of a piece, and up to a place of it -/
def s_as (P V F : Nat → UInt64) (kn : Nat) : Nat → UInt64
  | 0 => 0
  | k + 1 => FP.dadd (s_as P V F kn k) (s_pt (V k) (s_s P V F kn k) (s_pk P V F kn k) (s_qk P V F kn k) (FP.dsub (P (k + 1)) (P k)))
def s_hk (P V F : Nat → UInt64) (kn k : Nat) (x : UInt64) : UInt64 := s_h (V k) (s_s P V F kn k) (s_pk P V F kn k) (s_qk P V F kn k) (FP.dsub x (P k))
def s_tk (P V F : Nat → UInt64) (kn k : Nat) (x : UInt64) : UInt64 := s_t (s_s P V F kn k) (s_pk P V F kn k) (s_qk P V F kn k) (FP.dsub x (P k))
def s_ptk (P V F : Nat → UInt64) (kn k : Nat) (x : UInt64) : UInt64 := s_pt (V k) (s_s P V F kn k) (s_pk P V F kn k) (s_qk P V F kn k) (FP.dsub x (P k))
def s_at2 (P V F : Nat → UInt64) (kn : Nat) (x : UInt64) : UInt64 := FP.dadd (s_as P V F kn (s_pc P kn x)) (s_ptk P V F kn (s_pc P kn x) x)
theorem PE_x {kn k : Nat} {P V F : Nat → UInt64} (h : KI kn P V F) (hk : k + 1 < kn) {x : UInt64} (hx : fx_B 1168 x) : fx_B 1170 (FP.dsub x (P k)) := fx_Bs hx (kJ_P h.1 (k := k) (by omega)) (by omega) (by omega) (by omega)
theorem s_as_B {kn : Nat} {P V F : Nat → UInt64} (h : KI kn P V F) : ∀ k, k < kn → fx_B (1760 + 2 * k) (s_as P V F kn k) := by
  intro k
  induction k with
  | zero => intro _; unfold s_as fx_B; decide
  | succ k ih =>
    intro hk
    have hk60 := h.1.2.1
    rw [s_as]
    exact fx_Ba (ih (by omega)) (PE_p (PE_of h hk) (PE_x h hk (fx_B_mono (kJ_P h.1 hk) (by omega)))).2.2.2.2.2.2.2.2.2 (by omega) (by omega) (by omega)
