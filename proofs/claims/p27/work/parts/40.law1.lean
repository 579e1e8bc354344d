/-! the law's numbers: a cell of the script taken modulo, a cell behind the script's end, the piece found from above -/
def s_bel (v : Int32) (n : Nat) : Nat := (v.toBitVec.toNat % 2 ^ 31) % n
theorem s_bel_rem (v : Int32) {n : Nat} (h0 : 0 < n) (hn : n < 2 ^ 31) : ((v &&& 2147483647) - (v &&& 2147483647) / nI n * nI n : Int32) = nI (s_bel v n) := by
  rw [pk_and v 31 (by decide)]
  exact pk_rem (Nat.mod_lt _ (by decide)) h0 hn
def s_cell (xs : Nat → Int32) (L k : Nat) : Int32 := if k < L then xs k else 790386105 * nI (k + 3)
theorem s_min_same (a : UInt64) : s_min a a = a := by unfold s_min; split <;> rfl
theorem s_le0 {X Y : Nat → UInt64} {n k : Nat} (h2 : 2 ≤ n) (h : k = 0) : s_r X Y 0 = s_a X Y k ∧ s_r X Y 0 = s_min (s_a X Y k) (s_b X Y n k) := by
  subst h
  have h1 : s_b X Y n 0 = s_r X Y 0 := by unfold s_b s_bi; rw [if_pos (by omega)]
  exact ⟨rfl, by rw [h1]; exact (s_min_same _).symm⟩
theorem s_leN {X Y : Nat → UInt64} {n k : Nat} (h2 : 2 ≤ n) (h : k = n - 1) : s_r X Y (n - 2) = s_a X Y k ∧ s_r X Y (n - 2) = s_min (s_a X Y k) (s_b X Y n k) := by
  subst h
  have h0 : s_a X Y (n - 1) = s_r X Y (n - 2) := by unfold s_a; rw [show n - 1 - 1 = n - 2 by omega]
  have h1 : s_b X Y n (n - 1) = s_r X Y (n - 2) := by unfold s_b s_bi; rw [if_neg (by omega)]
  exact ⟨h0.symm, by rw [h0, h1]; exact (s_min_same _).symm⟩
theorem s_bin {X Y : Nat → UInt64} {n k : Nat} (h : k + 1 < n) : s_r X Y k = s_b X Y n k := by unfold s_b s_bi; rw [if_pos (by omega)]
theorem s_wm {X : Nat → UInt64} {k : Nat} (h : 0 < k) : FP.dsub (X k) (X (k - 1)) = s_w X (k - 1) := by unfold s_w; rw [show k - 1 + 1 = k by omega]
theorem s_min_gt {a b : UInt64} (na : fx_n a) (pa : fx_p a) (nb : fx_n b) (pb : fx_p b) : s_min a b = if sp_gt a b then b else a := by
  unfold s_min
  by_cases h1 : sp_lt a b
  · have e1 : FP.dcmp a b = some .lt := h1
    rw [if_pos h1, if_neg (fun h2 => by have e2 : FP.dcmp a b = some .gt := h2; rw [e1] at e2; cases e2)]
  · rw [if_neg h1]
    by_cases h2 : sp_gt a b
    · rw [if_pos h2]
    · rw [if_neg h2]
      have h3 : ¬ fx_k a < fx_k b := fun h => h1 ((fx_lt na nb).mpr h)
      have h4 : ¬ fx_k b < fx_k a := fun h => h2 ((fx_gt na nb).mpr h)
      exact fx_inj (by omega) (fx_p_m pb) (fx_p_m pa)
theorem s_sl1 {X Y F : Nat → UInt64} {n k : Nat} (hI : KI n X Y F) (hk : k < n) (h : ¬ sp_ge (F k) 0) : s_min (s_un X n k (s_a X Y k) (s_b X Y n k)) (s_most X Y n k) = s_s X Y F n k := by
  have h1 : F k = 13830554455654793216 := Decidable.byContradiction (fun h9 => h (s_fix_f (hI.2 k hk) h9))
  have h2 := kI_own hI hk
  have h3 := kJ_most hI.1 hk
  have h4 : s_own X Y F n k = s_un X n k (s_a X Y k) (s_b X Y n k) := by unfold s_own; rw [if_pos h1]
  rw [← h4, s_min_gt h2.1 h2.2 h3.2.2 h3.2.1]; rfl
theorem s_sl2 {X Y F : Nat → UInt64} {n k : Nat} (hI : KI n X Y F) (hk : k < n) (h : sp_ge (F k) 0) : s_min (F k) (s_most X Y n k) = s_s X Y F n k := by
  have h1 : ¬ F k = 13830554455654793216 := fun h9 => s_fix_t (hI.2 k hk) h9 h
  have h2 := kI_own hI hk
  have h3 := kJ_most hI.1 hk
  have h4 : s_own X Y F n k = F k := by unfold s_own; rw [if_neg h1]
  rw [← h4, s_min_gt h2.1 h2.2 h3.2.2 h3.2.1]; rfl
theorem s_flo {F : Nat → UInt64} {k : Nat} (h : F k = 13830554455654793216 ∨ (fx_n (F k) ∧ fx_p (F k))) (hg : sp_ge (F k) 0) : fx_n (F k) ∧ fx_p (F k) := h.resolve_left (fun h9 => s_fix_t h h9 hg)
/-- the piece found from above is the piece found from below -/
theorem PG_up {n : Nat} {X : Nat → UInt64} (h : PG n X) : ∀ {i j : Nat}, i ≤ j → j < n → fx_z (X i) ≤ fx_z (X j) := by
  intro i j hij
  induction j with
  | zero => intro _; rw [show i = 0 by omega]; exact Int.le_refl _
  | succ j ih =>
    intro hj
    by_cases h1 : i = j + 1
    · rw [h1]; exact Int.le_refl _
    · have h2 := ih (by omega) (by omega)
      have h3 := h.2 j hj
      omega
theorem s_pc_down {n k : Nat} {X : Nat → UInt64} {x : UInt64} (h : PG n X) (h2 : 2 ≤ n) (hx : fx_n x) (hk : k ≤ n - 2) (h0 : k = 0 ∨ ¬ sp_gt (X k) x) (hu : ∀ j, k < j → j ≤ n - 2 → sp_gt (X j) x) : s_pc X n x = k := by
  have hn : ∀ j, j < n → fx_n (X j) := fun j hj => fx_B_n (h.1 j hj) (by omega)
  have hle := s_find_le (c := fun j => decide (sp_le (X (j + 1)) x)) (f := n - 2) (k := 0)
  have hlt : s_pc X n x ≤ n - 2 := by unfold s_pc; omega
  rcases Nat.lt_trichotomy (s_pc X n x) k with h3 | h3 | h3
  · exfalso
    have h4 := s_find_at (c := fun j => decide (sp_le (X (j + 1)) x)) (f := n - 2) (k := 0) (by unfold s_pc at h3; omega)
    have h5 : ¬ sp_le (X (s_pc X n x + 1)) x := of_decide_eq_false h4
    have h6 : ¬ sp_gt (X k) x := h0.resolve_left (by omega)
    have n1 := hn (s_pc X n x + 1) (by omega)
    have n2 := hn k (by omega)
    have h7 := PG_up h (i := s_pc X n x + 1) (j := k) (by omega) (by omega)
    have h8 := (fx_zkle n1 n2).mp h7
    have h9 : ¬ fx_k x < fx_k (X k) := fun q => h6 ((fx_gt n2 hx).mpr q)
    exact h5 ((fx_le n1 hx).mpr (by omega))
  · exact h3
  · exfalso
    have h4 := s_find_before (c := fun j => decide (sp_le (X (j + 1)) x)) (f := n - 2) (k := 0) (j := k) (Nat.zero_le _) h3
    have h5 : sp_le (X (k + 1)) x := of_decide_eq_true h4
    have h6 := hu (k + 1) (by omega) (by omega)
    have n1 := hn (k + 1) (by omega)
    have h7 := (fx_le n1 hx).mp h5
    have h8 := (fx_gt n1 hx).mp h6
    omega
theorem s_bel_ne {n : Nat} (h0 : 0 < n) (hn : n < 2 ^ 31) : ¬ nI n = 0 := by
  intro h
  have := (nI_eq (a := n) (b := 0) hn (by omega)).mp h
  omega
theorem s_bel_lt {v : Int32} {n : Nat} (h0 : 0 < n) : s_bel v n < n := Nat.mod_lt _ h0
theorem s_unE {X Y : Nat → UInt64} {n k : Nat} (h2 : 2 ≤ n) (h : k = 0 ∨ k = n - 1) : s_min (s_a X Y k) (s_b X Y n k) = s_un X n k (s_a X Y k) (s_b X Y n k) := by
  have e : s_un X n k (s_a X Y k) (s_b X Y n k) = s_a X Y k := by unfold s_un; exact if_pos (by omega)
  rw [e]
  rcases h with h | h
  · have := s_le0 (X := X) (Y := Y) h2 h
    rw [← this.2, this.1]
  · have := s_leN (X := X) (Y := Y) h2 h
    rw [← this.2, this.1]

set_option maxHeartbeats 4000000 in
set_option maxRecDepth 100000 in
theorem kk_L_below (l : Launch) (D : va_G) (kd ki kz kl : ClassId) (z : Nat) (v : Int32) (n : Nat) (h0 : 0 < n) (hn : n < 2 ^ 31) : my_RO l D kd ki kz kl z yL_below wsL_below ({ frames := 0, cells := 0, slots := 0, locals := 0 }) [.int v, .int (nI n)] [] (some (.int (nI (s_bel v n)))) := by
  refine my_RO_of (cc := cL_below) (maxL := 2) (ret := (some .int)) (by decide) rfl (Nat.le_of_ble_eq_true rfl) ?_
  intro p e s m below meth c S hr hlocks hC hP ls hl
  have S : CallFix p m c cL_below 2 s ([.int v, .int (nI n)] : List Value).toArray wsL_below RL := S
  obtain ⟨hx, hb, hml, hown, hts⟩ := id S
  have hl : lv_has ls 2 [(0, .int v), (1, .int (nI n))] := hl
  refine lv_iload_n hx hb dL_below_0 rfl (lv_at hl 0 rfl) ?_
  refine lv_ldc hx hb hown (hts (.constant RL 7 (2147483647)) (List.mem_of_getElem? (l := wsL_below) (i := 1) rfl)) dL_below_1 ?_
  refine lv_iand hx hb dL_below_3 ?_
  refine lv_iload_n hx hb dL_below_4 rfl (lv_at hl 1 rfl) ?_
  refine lv_irem hx hb dL_below_5 (s_bel_ne h0 hn) ?_
  refine my_topi (w := nI (s_bel v n)) (s_bel_rem v h0 hn) ?_
  exact my_iretR hx hb hr hlocks (rfl) dL_below_6

set_option maxHeartbeats 4000000 in
set_option maxRecDepth 100000 in
theorem kk_L_cell (l : Launch) (D : va_G) (kd ki kz kl : ClassId) (z : Nat) (b : Nat) (L : Nat) (xs : Nat → Int32) (k : Nat) (hL : L < 2 ^ 31) (hk : k < 2 ^ 31) : my_RX l D kd ki kz kl z yL_cell wsL_cell ({ frames := 0, cells := 0, slots := 0, locals := 0 }) [.ref b, .int (nI k)] b L xs (some (.int (s_cell xs L k))) := by
  refine my_RX_of (cc := cL_cell) (maxL := 2) (ret := (some .int)) (by decide) rfl (Nat.le_of_ble_eq_true rfl) ?_
  intro p e s m below meth c S hr hlocks hC hXs hbl ls hl
  have S : CallFix p m c cL_cell 2 s ([.ref b, .int (nI k)] : List Value).toArray wsL_cell RL := S
  obtain ⟨hx, hb, hml, hown, hts⟩ := id S
  have hl : lv_has ls 2 [(0, .ref b), (1, .int (nI k))] := hl
  refine lv_iload_n hx hb dL_cell_0 rfl (lv_at hl 1 rfl) ?_
  refine lv_aload_n hx hb dL_cell_1 rfl (lv_at hl 0 rfl) ?_
  refine va_slen (A := fun _ => False) hx hb hXs hbl (fun h => h) va_S.rf dL_cell_2 ?_
  refine my_topi (w := nI L) rfl ?_
  refine lv_icmp_ge (tgt := 12) hx hb dL_cell_3 (by decide) (fun c_3 => ?_) (fun c_3 => ?_)
  · have c_3 : L ≤ k := (nI_leI (a := L) (b := k) (by omega) (by omega)).mp c_3
    refine lv_ldc hx hb hown (hts (.constant RL 8 (790386105)) (List.mem_of_getElem? (l := wsL_cell) (i := 1) rfl)) dL_cell_12 ?_
    refine lv_iload_n hx hb dL_cell_14 rfl (lv_at hl 1 rfl) ?_
    refine lv_iconst (v := 3) hx hb dL_cell_15 (by decide) ?_
    refine my_iadd (w := nI (k + 3)) hx hb dL_cell_16 (nI_add k 3) ?_
    refine lv_imul hx hb dL_cell_17 ?_
    exact my_iretR hx hb hr hlocks ((if_neg (by omega)).symm) dL_cell_18
  · have c_3 : ¬ L ≤ k := fun h9 => c_3 ((nI_leI (a := L) (b := k) (by omega) (by omega)).mpr h9)
    refine lv_aload_n hx hb dL_cell_6 rfl (lv_at hl 0 rfl) ?_
    refine lv_iload_n hx hb dL_cell_7 rfl (lv_at hl 1 rfl) ?_
    refine my_sld (A := fun _ => False) (k := k) hx hb hXs hbl (fun h => h) va_S.rf (by omega) (by omega) dL_cell_8 ?_
    refine lv_goto (tgt := 18) hx hb dL_cell_9 (by decide) ?_
    exact my_iretR hx hb hr hlocks ((if_pos (by omega)).symm) dL_cell_18

set_option maxHeartbeats 4000000 in
set_option maxRecDepth 100000 in
theorem kk_L_rise (l : Launch) (D : va_G) (kd ki kz kl : ClassId) (z : Nat) (xa : Nat) (ya : Nat) (X : Nat → UInt64) (Y : Nat → UInt64) (n : Nat) (k : Nat) (hJ : KJ n X Y) (hk : k + 1 < n) (h20 : n ≤ 20) : my_RO l D kd ki kz kl z yL_rise wsL_rise ({ frames := 0, cells := 0, slots := 0, locals := 0 }) [.ref xa, .ref ya, .int (nI k)] [(xa, .inl (kd, 20, .inr (.inr (.inr (.inl X))))), (ya, .inl (kd, 20, .inr (.inr (.inr (.inl Y)))))] (some (.double (s_r X Y k))) := by
  refine my_RO_of (cc := cL_rise) (maxL := 3) (ret := (some .double)) (by decide) rfl (Nat.le_of_ble_eq_true rfl) ?_
  intro p e s m below meth c S hr hlocks hC hP ls hl
  have S : CallFix p m c cL_rise 3 s ([.ref xa, .ref ya, .int (nI k)] : List Value).toArray wsL_rise RL := S
  obtain ⟨hx, hb, hml, hown, hts⟩ := id S
  have hl : lv_has ls 3 [(0, .ref xa), (1, .ref ya), (2, .int (nI k))] := hl
  refine lv_aload_n hx hb dL_rise_0 rfl (lv_at hl 1 rfl) ?_
  refine lv_iload_n hx hb dL_rise_1 rfl (lv_at hl 2 rfl) ?_
  refine lv_iconst (v := 1) hx hb dL_rise_2 (by decide) ?_
  refine my_iadd (w := nI (k + 1)) hx hb dL_rise_3 (nI_add k 1) ?_
  refine my_dald (k := k + 1) (n := 20) (f := Y) hx hb hC hP 1 rfl (by omega) (by omega) dL_rise_4 ?_
  refine lv_aload_n hx hb dL_rise_5 rfl (lv_at hl 1 rfl) ?_
  refine lv_iload_n hx hb dL_rise_6 rfl (lv_at hl 2 rfl) ?_
  refine my_dald (k := k) (n := 20) (f := Y) hx hb hC hP 1 rfl (by omega) (by omega) dL_rise_7 ?_
  refine lv_dsub hx hb dL_rise_8 (fx_n64 ((kJ_dv hJ hk).2.2)) ?_
  refine lv_aload_n hx hb dL_rise_9 rfl (lv_at hl 0 rfl) ?_
  refine lv_iload_n hx hb dL_rise_10 rfl (lv_at hl 2 rfl) ?_
  refine lv_iconst (v := 1) hx hb dL_rise_11 (by decide) ?_
  refine my_iadd (w := nI (k + 1)) hx hb dL_rise_12 (nI_add k 1) ?_
  refine my_dald (k := k + 1) (n := 20) (f := X) hx hb hC hP 0 rfl (by omega) (by omega) dL_rise_13 ?_
  refine lv_aload_n hx hb dL_rise_14 rfl (lv_at hl 0 rfl) ?_
  refine lv_iload_n hx hb dL_rise_15 rfl (lv_at hl 2 rfl) ?_
  refine my_dald (k := k) (n := 20) (f := X) hx hb hC hP 0 rfl (by omega) (by omega) dL_rise_16 ?_
  refine lv_dsub hx hb dL_rise_17 (fx_n64 ((kJ_w1 hJ hk).2.2.2)) ?_
  refine lv_ddiv hx hb dL_rise_18 (fx_n64 ((kJ_r hJ hk).2.2)) ?_
  exact my_dretR hx hb hr hlocks (rfl) dL_rise_19

set_option maxHeartbeats 4000000 in
set_option maxRecDepth 100000 in
theorem kk_L_slope (l : Launch) (D : va_G) (kd ki kz kl : ClassId) (z : Nat) (xa : Nat) (ya : Nat) (fa : Nat) (X : Nat → UInt64) (Y : Nat → UInt64) (F : Nat → UInt64) (n : Nat) (k : Nat) (hI : KI n X Y F) (hk : k < n) (h20 : n ≤ 20) : my_RO l D kd ki kz kl z yL_slope wsL_slope ({ frames := 1, cells := 0, slots := 0, locals := 23 }) [.ref xa, .ref ya, .ref fa, .int (nI n), .int (nI k)] [(xa, .inl (kd, 20, .inr (.inr (.inr (.inl X))))), (ya, .inl (kd, 20, .inr (.inr (.inr (.inl Y))))), (fa, .inl (kd, 20, .inr (.inr (.inr (.inl F)))))] (some (.double (s_s X Y F n k))) := by
  refine my_RO_of (cc := cL_slope) (maxL := 21) (ret := (some .double)) (by decide) rfl (Nat.le_of_ble_eq_true rfl) ?_
  intro p e s m below meth c S hr hlocks hC hP ls hl
  have S : CallFix p m c cL_slope 21 s ([.ref xa, .ref ya, .ref fa, .int (nI n), .int (nI k)] : List Value).toArray wsL_slope RL := S
  obtain ⟨hx, hb, hml, hown, hts⟩ := id S
  have hl : lv_has ls 21 [(0, .ref xa), (1, .ref ya), (2, .ref fa), (3, .int (nI n)), (4, .int (nI k))] := hl
  have hJ := hI.1
  have hkn2 := hJ.1
  have j_153 : ∀ (ls : Array Slot) (hl : lv_has ls 21 [(5, .double (s_un X n k (s_a X Y k) (s_b X Y n k))), (7, .double (s_min (s_a X Y k) (s_b X Y n k))), (0, .ref xa), (1, .ref ya), (2, .ref fa), (3, .int (nI n)), (4, .int (nI k))]), W p l e ({ frames := 1, cells := 0, slots := 0, locals := 23 }) s m ([.ref xa, .ref ya, .ref fa, .int (nI n), .int (nI k)] : List Value).toArray below meth c s.heap [] 0 0 (my_RQ below ([.ref xa, .ref ya, .ref fa, .int (nI n), .int (nI k)] : List Value).toArray s (some (.double (s_s X Y F n k)))) (F0 m 153 ls []) := by
    intro  ls hl
    refine lv_aload_n hx hb dL_slope_153 rfl (lv_at hl 4 rfl) ?_
    refine lv_iload hx hb dL_slope_154 (lv_at hl 6 rfl) ?_
    refine my_dald (k := k) (n := 20) (f := F) hx hb hC hP 2 rfl (by omega) (by omega) dL_slope_156 ?_
    refine lv_dconst0 hx hb dL_slope_157 ?_
    refine my_topd (w := 0) (by decide) ?_
    refine lv_dcmp hx hb dL_slope_158 ?_
    refine lv_if_lt (tgt := 168) hx hb dL_slope_159 (by decide) (fun c_159 => ?_) (fun c_159 => ?_)
    · have c_159 := cv_l_lt_t c_159
      refine lv_dload hx hb dL_slope_168 (lv_at hl 0 rfl) ?_
      refine lv_ldc2d hx hb hown (hts (.constantDouble RL 41 (4613937818241073152)) (List.mem_of_getElem? (l := wsL_slope) (i := 2) rfl)) dL_slope_170 ?_
      refine lv_dload hx hb dL_slope_173 (lv_at hl 1 rfl) ?_
      refine lv_dmul hx hb dL_slope_175 (fx_n64 ((kJ_most hJ hk).2.2)) ?_
      refine my_topd (w := s_most X Y n k) (rfl) ?_
      refine my_mmin hx hb (hml.trans hl.1.symm) rfl hown (hts (.methodLink RL 35 yJ9_min_eb370) (List.mem_of_getElem? (l := wsL_slope) (i := 7) rfl)) (hts (.static yJ9_min_eb370) (List.mem_of_getElem? (l := wsL_slope) (i := 8) rfl)) (hts (.initialized RJ9) (List.mem_of_getElem? (l := wsL_slope) (i := 9) rfl)) (hts (.code yJ9_min_eb370 cJ9_min_eb370 4 (some .double)) (List.mem_of_getElem? (l := wsL_slope) (i := 10) rfl)) (fx_n64 (by first | exact (s_flo (hI.2 k hk) c_159).1 | exact (kJ_un hJ hk).1)) (fx_n64 ((kJ_most hJ hk).2.2)) (by decide) (by decide) ⟨Nat.le_of_ble_eq_true rfl, Nat.le_of_ble_eq_true rfl⟩ dL_slope_176 ?_
      refine my_topd (w := s_min (s_un X n k (s_a X Y k) (s_b X Y n k)) (s_most X Y n k)) (s_min_pick (by first | exact (s_flo (hI.2 k hk) c_159).2 | exact (kJ_un hJ hk).2)) ?_
      exact my_dretR hx hb hr hlocks (by first | exact s_sl1 hI hk c_159 | exact s_sl2 hI hk c_159) dL_slope_179
    · have c_159 := cv_l_lt_f c_159
      refine lv_aload_n hx hb dL_slope_162 rfl (lv_at hl 4 rfl) ?_
      refine lv_iload hx hb dL_slope_163 (lv_at hl 6 rfl) ?_
      refine my_dald (k := k) (n := 20) (f := F) hx hb hC hP 2 rfl (by omega) (by omega) dL_slope_165 ?_
      refine lv_dstore (lv' := [(5, .double (F k)), (7, .double (s_min (s_a X Y k) (s_b X Y n k))), (0, .ref xa), (1, .ref ya), (2, .ref fa), (3, .int (nI n)), (4, .int (nI k))]) hx hb dL_slope_166 hl (by decide) rfl (fun ls hl => ?_)
      refine lv_dload hx hb dL_slope_168 (lv_at hl 0 rfl) ?_
      refine lv_ldc2d hx hb hown (hts (.constantDouble RL 41 (4613937818241073152)) (List.mem_of_getElem? (l := wsL_slope) (i := 2) rfl)) dL_slope_170 ?_
      refine lv_dload hx hb dL_slope_173 (lv_at hl 1 rfl) ?_
      refine lv_dmul hx hb dL_slope_175 (fx_n64 ((kJ_most hJ hk).2.2)) ?_
      refine my_topd (w := s_most X Y n k) (rfl) ?_
      refine my_mmin hx hb (hml.trans hl.1.symm) rfl hown (hts (.methodLink RL 35 yJ9_min_eb370) (List.mem_of_getElem? (l := wsL_slope) (i := 7) rfl)) (hts (.static yJ9_min_eb370) (List.mem_of_getElem? (l := wsL_slope) (i := 8) rfl)) (hts (.initialized RJ9) (List.mem_of_getElem? (l := wsL_slope) (i := 9) rfl)) (hts (.code yJ9_min_eb370 cJ9_min_eb370 4 (some .double)) (List.mem_of_getElem? (l := wsL_slope) (i := 10) rfl)) (fx_n64 (by first | exact (s_flo (hI.2 k hk) c_159).1 | exact (kJ_un hJ hk).1)) (fx_n64 ((kJ_most hJ hk).2.2)) (by decide) (by decide) ⟨Nat.le_of_ble_eq_true rfl, Nat.le_of_ble_eq_true rfl⟩ dL_slope_176 ?_
      refine my_topd (w := s_min (F k) (s_most X Y n k)) (s_min_pick (by first | exact (s_flo (hI.2 k hk) c_159).2 | exact (kJ_un hJ hk).2)) ?_
      exact my_dretR hx hb hr hlocks (by first | exact s_sl1 hI hk c_159 | exact s_sl2 hI hk c_159) dL_slope_179
  refine lv_iload hx hb dL_slope_0 (lv_at hl 4 rfl) ?_
  have j_30 : ∀ (hk9 : k = 0 ∨ k = n - 1) (ls : Array Slot) (hl : lv_has ls 21 [(0, .ref xa), (1, .ref ya), (2, .ref fa), (3, .int (nI n)), (4, .int (nI k))]), W p l e ({ frames := 1, cells := 0, slots := 0, locals := 23 }) s m ([.ref xa, .ref ya, .ref fa, .int (nI n), .int (nI k)] : List Value).toArray below meth c s.heap [] 0 0 (my_RQ below ([.ref xa, .ref ya, .ref fa, .int (nI n), .int (nI k)] : List Value).toArray s (some (.double (s_s X Y F n k)))) (F0 m 30 ls [.double (s_min (s_a X Y k) (s_b X Y n k))]) := by
    intro hk9 ls hl
    refine lv_dstore (lv' := [(7, .double (s_min (s_a X Y k) (s_b X Y n k))), (0, .ref xa), (1, .ref ya), (2, .ref fa), (3, .int (nI n)), (4, .int (nI k))]) hx hb dL_slope_30 hl (by decide) rfl (fun ls hl => ?_)
    refine lv_dload hx hb dL_slope_32 (lv_at hl 0 rfl) ?_
    refine my_topd (w := s_un X n k (s_a X Y k) (s_b X Y n k)) (s_unE hkn2 hk9) ?_
    refine lv_dstore (lv' := [(5, .double (s_un X n k (s_a X Y k) (s_b X Y n k))), (7, .double (s_min (s_a X Y k) (s_b X Y n k))), (0, .ref xa), (1, .ref ya), (2, .ref fa), (3, .int (nI n)), (4, .int (nI k))]) hx hb dL_slope_34 hl (by decide) rfl (fun ls hl => ?_)
    refine lv_goto (tgt := 153) hx hb dL_slope_36 (by decide) ?_
    exact j_153 _ (lv_sub hl [0, 1, 2, 3, 4, 5, 6] rfl)
  refine lv_if_eq (tgt := 13) hx hb dL_slope_2 (by decide) (fun c_2 => ?_) (fun c_2 => ?_)
  · have c_2 : k = 0 := (nI_eq (a := k) (b := 0) (by omega) (by omega)).mp c_2
    refine lv_aload_n hx hb dL_slope_13 rfl (lv_at hl 0 rfl) ?_
    refine lv_aload_n hx hb dL_slope_14 rfl (lv_at hl 1 rfl) ?_
    refine lv_iload hx hb dL_slope_15 (lv_at hl 4 rfl) ?_
    refine lv_if_ne (tgt := 24) hx hb dL_slope_17 (by decide) (fun c_17 => ?_) (fun c_17 => ?_)
    · have c_17 : ¬ k = 0 := fun h9 => c_17 ((nI_eq (a := k) (b := 0) (by omega) (by omega)).mpr h9)
      refine lv_iload_n hx hb dL_slope_24 rfl (lv_at hl 3 rfl) ?_
      refine lv_iconst (v := 2) hx hb dL_slope_25 (by decide) ?_
      refine my_isub (w := nI (n - 2)) hx hb dL_slope_26 (pk_sub (a := n) (b := 2) (by omega)) ?_
      refine my_goR (v := (some (.double (s_r X Y (n - 2))))) (my_runS (bytes := cL_rise) (maxL := 3) (ret := (some .double)) (n := 3) (As := [.ref xa, .ref ya, .int (nI (n - 2))]) (rest := []) S hl.1 (kk_L_rise l D kd ki kz kl z xa ya X Y n (n - 2) (hJ) (by omega) (h20)) rfl ⟨rfl, rfl⟩ gL_slope_L_rise (by decide +kernel) rfl ⟨Nat.le_of_ble_eq_true rfl, Nat.le_of_ble_eq_true rfl⟩ (my_preR hC (my_P_sub (wc := [(xa, .inl (kd, 20, .inr (.inr (.inr (.inl X))))), (ya, .inl (kd, 20, .inr (.inr (.inr (.inl Y)))))]) hP [0, 1] rfl)) rfl rfl dL_slope_27) ?_
      refine W.eq (g2 := F0 m 30 ls [.double (s_r X Y (n - 2))]) rfl ?_
      refine my_topd (w := s_min (s_a X Y k) (s_b X Y n k)) (absurd c_2 c_17) ?_
      exact j_30 (Or.inl c_2) _ (lv_sub hl [0, 1, 2, 3, 4] rfl)
    · have c_17 : k = 0 := (nI_eq (a := k) (b := 0) (by omega) (by omega)).mp c_17
      refine lv_iconst (v := 0) hx hb dL_slope_20 (by decide) ?_
      refine lv_goto (tgt := 27) hx hb dL_slope_21 (by decide) ?_
      refine my_goR (v := (some (.double (s_r X Y 0)))) (my_runS (bytes := cL_rise) (maxL := 3) (ret := (some .double)) (n := 3) (As := [.ref xa, .ref ya, .int 0]) (rest := []) S hl.1 (kk_L_rise l D kd ki kz kl z xa ya X Y n 0 (hJ) (by omega) (h20)) rfl ⟨rfl, rfl⟩ gL_slope_L_rise (by decide +kernel) rfl ⟨Nat.le_of_ble_eq_true rfl, Nat.le_of_ble_eq_true rfl⟩ (my_preR hC (my_P_sub (wc := [(xa, .inl (kd, 20, .inr (.inr (.inr (.inl X))))), (ya, .inl (kd, 20, .inr (.inr (.inr (.inl Y)))))]) hP [0, 1] rfl)) rfl rfl dL_slope_27) ?_
      refine W.eq (g2 := F0 m 30 ls [.double (s_r X Y 0)]) rfl ?_
      refine my_topd (w := s_min (s_a X Y k) (s_b X Y n k)) ((s_le0 hkn2 c_2).2) ?_
      exact j_30 (Or.inl c_2) _ (lv_sub hl [0, 1, 2, 3, 4] rfl)
  · have c_2 : ¬ k = 0 := fun h9 => c_2 ((nI_eq (a := k) (b := 0) (by omega) (by omega)).mpr h9)
    refine lv_iload hx hb dL_slope_5 (lv_at hl 4 rfl) ?_
    refine lv_iload_n hx hb dL_slope_7 rfl (lv_at hl 3 rfl) ?_
    refine lv_iconst (v := 1) hx hb dL_slope_8 (by decide) ?_
    refine my_isub (w := nI (n - 1)) hx hb dL_slope_9 (pk_sub (a := n) (b := 1) (by omega)) ?_
    refine lv_icmp_ne (tgt := 39) hx hb dL_slope_10 (by decide) (fun c_10 => ?_) (fun c_10 => ?_)
    · have c_10 : ¬ k = n - 1 := fun h9 => c_10 ((nI_eq (a := k) (b := n - 1) (by omega) (by omega)).mpr h9)
      have hk0 : 0 < k := by omega
      have hk1 : k + 1 < n := by omega
      have hv := kJ_v hJ hk0 hk1
      refine lv_aload_n hx hb dL_slope_39 rfl (lv_at hl 0 rfl) ?_
      refine lv_aload_n hx hb dL_slope_40 rfl (lv_at hl 1 rfl) ?_
      refine lv_iload hx hb dL_slope_41 (lv_at hl 4 rfl) ?_
      refine lv_iconst (v := 1) hx hb dL_slope_43 (by decide) ?_
      refine my_isub (w := nI (k - 1)) hx hb dL_slope_44 (pk_sub (a := k) (b := 1) (by omega)) ?_
      refine my_goR (v := (some (.double (s_r X Y (k - 1))))) (my_runS (bytes := cL_rise) (maxL := 3) (ret := (some .double)) (n := 3) (As := [.ref xa, .ref ya, .int (nI (k - 1))]) (rest := []) S hl.1 (kk_L_rise l D kd ki kz kl z xa ya X Y n (k - 1) (hJ) (by omega) (h20)) rfl ⟨rfl, rfl⟩ gL_slope_L_rise (by decide +kernel) rfl ⟨Nat.le_of_ble_eq_true rfl, Nat.le_of_ble_eq_true rfl⟩ (my_preR hC (my_P_sub (wc := [(xa, .inl (kd, 20, .inr (.inr (.inr (.inl X))))), (ya, .inl (kd, 20, .inr (.inr (.inr (.inl Y)))))]) hP [0, 1] rfl)) rfl rfl dL_slope_45) ?_
      refine W.eq (g2 := F0 m 48 ls [.double (s_r X Y (k - 1))]) rfl ?_
      refine my_topd (w := s_a X Y k) (rfl) ?_
      refine lv_dstore (lv' := [(9, .double (s_a X Y k)), (0, .ref xa), (1, .ref ya), (2, .ref fa), (3, .int (nI n)), (4, .int (nI k))]) hx hb dL_slope_48 hl (by decide) rfl (fun ls hl => ?_)
      refine lv_aload_n hx hb dL_slope_50 rfl (lv_at hl 1 rfl) ?_
      refine lv_aload_n hx hb dL_slope_51 rfl (lv_at hl 2 rfl) ?_
      refine lv_iload hx hb dL_slope_52 (lv_at hl 5 rfl) ?_
      refine my_goR (v := (some (.double (s_r X Y k)))) (my_runS (bytes := cL_rise) (maxL := 3) (ret := (some .double)) (n := 3) (As := [.ref xa, .ref ya, .int (nI k)]) (rest := []) S hl.1 (kk_L_rise l D kd ki kz kl z xa ya X Y n k (hJ) (by omega) (h20)) rfl ⟨rfl, rfl⟩ gL_slope_L_rise (by decide +kernel) rfl ⟨Nat.le_of_ble_eq_true rfl, Nat.le_of_ble_eq_true rfl⟩ (my_preR hC (my_P_sub (wc := [(xa, .inl (kd, 20, .inr (.inr (.inr (.inl X))))), (ya, .inl (kd, 20, .inr (.inr (.inr (.inl Y)))))]) hP [0, 1] rfl)) rfl rfl dL_slope_54) ?_
      refine W.eq (g2 := F0 m 57 ls [.double (s_r X Y k)]) rfl ?_
      refine my_topd (w := s_b X Y n k) (s_bin hk1) ?_
      refine lv_dstore (lv' := [(11, .double (s_b X Y n k)), (9, .double (s_a X Y k)), (0, .ref xa), (1, .ref ya), (2, .ref fa), (3, .int (nI n)), (4, .int (nI k))]) hx hb dL_slope_57 hl (by decide) rfl (fun ls hl => ?_)
      refine lv_aload_n hx hb dL_slope_59 rfl (lv_at hl 2 rfl) ?_
      refine lv_iload hx hb dL_slope_60 (lv_at hl 6 rfl) ?_
      refine lv_iconst (v := 1) hx hb dL_slope_62 (by decide) ?_
      refine my_iadd (w := nI (k + 1)) hx hb dL_slope_63 (nI_add k 1) ?_
      refine my_dald (k := k + 1) (n := 20) (f := X) hx hb hC hP 0 rfl (by omega) (by omega) dL_slope_64 ?_
      refine lv_aload_n hx hb dL_slope_65 rfl (lv_at hl 2 rfl) ?_
      refine lv_iload hx hb dL_slope_66 (lv_at hl 6 rfl) ?_
      refine my_dald (k := k) (n := 20) (f := X) hx hb hC hP 0 rfl (by omega) (by omega) dL_slope_68 ?_
      refine lv_dsub hx hb dL_slope_69 (fx_n64 ((kJ_w1 hJ hk1).2.2.2)) ?_
      refine my_topd (w := s_w X k) (rfl) ?_
      refine lv_dstore (lv' := [(13, .double (s_w X k)), (11, .double (s_b X Y n k)), (9, .double (s_a X Y k)), (0, .ref xa), (1, .ref ya), (2, .ref fa), (3, .int (nI n)), (4, .int (nI k))]) hx hb dL_slope_70 hl (by decide) rfl (fun ls hl => ?_)
      refine lv_aload_n hx hb dL_slope_72 rfl (lv_at hl 3 rfl) ?_
      refine lv_iload hx hb dL_slope_73 (lv_at hl 7 rfl) ?_
      refine my_dald (k := k) (n := 20) (f := X) hx hb hC hP 0 rfl (by omega) (by omega) dL_slope_75 ?_
      refine lv_aload_n hx hb dL_slope_76 rfl (lv_at hl 3 rfl) ?_
      refine lv_iload hx hb dL_slope_77 (lv_at hl 7 rfl) ?_
      refine lv_iconst (v := 1) hx hb dL_slope_79 (by decide) ?_
      refine my_isub (w := nI (k - 1)) hx hb dL_slope_80 (pk_sub (a := k) (b := 1) (by omega)) ?_
      refine my_dald (k := k - 1) (n := 20) (f := X) hx hb hC hP 0 rfl (by omega) (by omega) dL_slope_81 ?_
      refine lv_dsub hx hb dL_slope_82 (fx_n64 ((by rw [s_wm hk0]; exact (kJ_w1 hJ (k := k - 1) (by omega)).2.2.2))) ?_
      refine my_topd (w := s_w X (k - 1)) (s_wm hk0) ?_
      refine lv_dstore (lv' := [(15, .double (s_w X (k - 1))), (13, .double (s_w X k)), (11, .double (s_b X Y n k)), (9, .double (s_a X Y k)), (0, .ref xa), (1, .ref ya), (2, .ref fa), (3, .int (nI n)), (4, .int (nI k))]) hx hb dL_slope_83 hl (by decide) rfl (fun ls hl => ?_)
      refine lv_ldc2d hx hb hown (hts (.constantDouble RL 33 (4611686018427387904)) (List.mem_of_getElem? (l := wsL_slope) (i := 1) rfl)) dL_slope_85 ?_
      refine lv_dload hx hb dL_slope_88 (lv_at hl 1 rfl) ?_
      refine lv_dmul hx hb dL_slope_90 (fx_n64 (hv.1)) ?_
      refine lv_dload hx hb dL_slope_91 (lv_at hl 0 rfl) ?_
      refine lv_dadd hx hb dL_slope_93 (fx_n64 (hv.2.2.1)) ?_
      refine my_topd (w := s_v X k) (rfl) ?_
      refine lv_dstore (lv' := [(17, .double (s_v X k)), (15, .double (s_w X (k - 1))), (13, .double (s_w X k)), (11, .double (s_b X Y n k)), (9, .double (s_a X Y k)), (0, .ref xa), (1, .ref ya), (2, .ref fa), (3, .int (nI n)), (4, .int (nI k))]) hx hb dL_slope_94 hl (by decide) rfl (fun ls hl => ?_)
      refine lv_dload hx hb dL_slope_96 (lv_at hl 2 rfl) ?_
      refine lv_ldc2d hx hb hown (hts (.constantDouble RL 33 (4611686018427387904)) (List.mem_of_getElem? (l := wsL_slope) (i := 1) rfl)) dL_slope_98 ?_
      refine lv_dload hx hb dL_slope_101 (lv_at hl 1 rfl) ?_
      refine lv_dmul hx hb dL_slope_103 (fx_n64 (hv.2.1)) ?_
      refine lv_dadd hx hb dL_slope_104 (fx_n64 (hv.2.2.2.1)) ?_
      refine my_topd (w := s_u X k) (rfl) ?_
      refine lv_dstore (lv' := [(19, .double (s_u X k)), (17, .double (s_v X k)), (15, .double (s_w X (k - 1))), (13, .double (s_w X k)), (11, .double (s_b X Y n k)), (9, .double (s_a X Y k)), (0, .ref xa), (1, .ref ya), (2, .ref fa), (3, .int (nI n)), (4, .int (nI k))]) hx hb dL_slope_105 hl (by decide) rfl (fun ls hl => ?_)
      refine lv_dload hx hb dL_slope_107 (lv_at hl 5 rfl) ?_
      refine lv_dload hx hb dL_slope_109 (lv_at hl 4 rfl) ?_
      refine my_mmin hx hb (hml.trans hl.1.symm) rfl hown (hts (.methodLink RL 35 yJ9_min_eb370) (List.mem_of_getElem? (l := wsL_slope) (i := 7) rfl)) (hts (.static yJ9_min_eb370) (List.mem_of_getElem? (l := wsL_slope) (i := 8) rfl)) (hts (.initialized RJ9) (List.mem_of_getElem? (l := wsL_slope) (i := 9) rfl)) (hts (.code yJ9_min_eb370 cJ9_min_eb370 4 (some .double)) (List.mem_of_getElem? (l := wsL_slope) (i := 10) rfl)) (fx_n64 ((kJ_a hJ hk).2.2)) (fx_n64 ((kJ_b hJ (k := k)).2.2)) (by decide) (by decide) ⟨Nat.le_of_ble_eq_true rfl, Nat.le_of_ble_eq_true rfl⟩ dL_slope_111 ?_
      refine my_topd (w := s_min (s_a X Y k) (s_b X Y n k)) (s_min_pick ((kJ_a hJ hk).2.1)) ?_
      refine lv_dstore (lv' := [(7, .double (s_min (s_a X Y k) (s_b X Y n k))), (19, .double (s_u X k)), (17, .double (s_v X k)), (15, .double (s_w X (k - 1))), (13, .double (s_w X k)), (11, .double (s_b X Y n k)), (9, .double (s_a X Y k)), (0, .ref xa), (1, .ref ya), (2, .ref fa), (3, .int (nI n)), (4, .int (nI k))]) hx hb dL_slope_114 hl (by decide) rfl (fun ls hl => ?_)
      refine lv_dload hx hb dL_slope_116 (lv_at hl 6 rfl) ?_
      refine lv_dconst0 hx hb dL_slope_118 ?_
      refine my_topd (w := 0) (by decide) ?_
      refine lv_dcmp hx hb dL_slope_119 ?_
      refine lv_if_eq (tgt := 130) hx hb dL_slope_120 (by decide) (fun c_120 => ?_) (fun c_120 => ?_)
      · have c_120 := cv_l_eq_t c_120
        refine lv_dconst0 hx hb dL_slope_130 ?_
        refine my_topd (w := 0) (by decide) ?_
        refine lv_goto (tgt := 151) hx hb dL_slope_131 (by decide) ?_
        refine my_topd (w := s_un X n k (s_a X Y k) (s_b X Y n k)) (by unfold s_un; rw [if_neg (by omega)]; first | exact (if_pos (Or.inl c_120)).symm | exact (if_pos (Or.inr c_127)).symm | exact (if_neg (fun h9 => h9.elim c_120 c_127)).symm) ?_
        refine lv_dstore (lv' := [(5, .double (s_un X n k (s_a X Y k) (s_b X Y n k))), (7, .double (s_min (s_a X Y k) (s_b X Y n k))), (19, .double (s_u X k)), (17, .double (s_v X k)), (15, .double (s_w X (k - 1))), (13, .double (s_w X k)), (11, .double (s_b X Y n k)), (9, .double (s_a X Y k)), (0, .ref xa), (1, .ref ya), (2, .ref fa), (3, .int (nI n)), (4, .int (nI k))]) hx hb dL_slope_151 hl (by decide) rfl (fun ls hl => ?_)
        exact j_153 _ (lv_sub hl [0, 1, 8, 9, 10, 11, 12] rfl)
      · have c_120 := cv_l_eq_f c_120
        refine lv_dload hx hb dL_slope_123 (lv_at hl 5 rfl) ?_
        refine lv_dconst0 hx hb dL_slope_125 ?_
        refine my_topd (w := 0) (by decide) ?_
        refine lv_dcmp hx hb dL_slope_126 ?_
        refine lv_if_ne (tgt := 134) hx hb dL_slope_127 (by decide) (fun c_127 => ?_) (fun c_127 => ?_)
        · have c_127 := cv_l_eq_f c_127
          have hf := kJ_f hJ hk0 hk1 (kJ_a hJ hk) (kJ_b hJ (k := k)) c_120 c_127
          refine lv_dload hx hb dL_slope_134 (lv_at hl 2 rfl) ?_
          refine lv_dload hx hb dL_slope_136 (lv_at hl 1 rfl) ?_
          refine lv_dadd hx hb dL_slope_138 (fx_n64 (hv.2.2.2.2)) ?_
          refine lv_dload hx hb dL_slope_139 (lv_at hl 2 rfl) ?_
          refine lv_dload hx hb dL_slope_141 (lv_at hl 6 rfl) ?_
          refine lv_ddiv hx hb dL_slope_143 (fx_n64 (hf.1)) ?_
          refine lv_dload hx hb dL_slope_144 (lv_at hl 1 rfl) ?_
          refine lv_dload hx hb dL_slope_146 (lv_at hl 5 rfl) ?_
          refine lv_ddiv hx hb dL_slope_148 (fx_n64 (hf.2.1)) ?_
          refine lv_dadd hx hb dL_slope_149 (fx_n64 (hf.2.2.1)) ?_
          refine lv_ddiv hx hb dL_slope_150 (fx_n64 (hf.2.2.2.2.1)) ?_
          refine my_topd (w := s_un X n k (s_a X Y k) (s_b X Y n k)) (by unfold s_un; rw [if_neg (by omega)]; first | exact (if_pos (Or.inl c_120)).symm | exact (if_pos (Or.inr c_127)).symm | exact (if_neg (fun h9 => h9.elim c_120 c_127)).symm) ?_
          refine lv_dstore (lv' := [(5, .double (s_un X n k (s_a X Y k) (s_b X Y n k))), (7, .double (s_min (s_a X Y k) (s_b X Y n k))), (19, .double (s_u X k)), (17, .double (s_v X k)), (15, .double (s_w X (k - 1))), (13, .double (s_w X k)), (11, .double (s_b X Y n k)), (9, .double (s_a X Y k)), (0, .ref xa), (1, .ref ya), (2, .ref fa), (3, .int (nI n)), (4, .int (nI k))]) hx hb dL_slope_151 hl (by decide) rfl (fun ls hl => ?_)
          exact j_153 _ (lv_sub hl [0, 1, 8, 9, 10, 11, 12] rfl)
        · have c_127 := cv_l_eq_t c_127
          refine lv_dconst0 hx hb dL_slope_130 ?_
          refine my_topd (w := 0) (by decide) ?_
          refine lv_goto (tgt := 151) hx hb dL_slope_131 (by decide) ?_
          refine my_topd (w := s_un X n k (s_a X Y k) (s_b X Y n k)) (by unfold s_un; rw [if_neg (by omega)]; first | exact (if_pos (Or.inl c_120)).symm | exact (if_pos (Or.inr c_127)).symm | exact (if_neg (fun h9 => h9.elim c_120 c_127)).symm) ?_
          refine lv_dstore (lv' := [(5, .double (s_un X n k (s_a X Y k) (s_b X Y n k))), (7, .double (s_min (s_a X Y k) (s_b X Y n k))), (19, .double (s_u X k)), (17, .double (s_v X k)), (15, .double (s_w X (k - 1))), (13, .double (s_w X k)), (11, .double (s_b X Y n k)), (9, .double (s_a X Y k)), (0, .ref xa), (1, .ref ya), (2, .ref fa), (3, .int (nI n)), (4, .int (nI k))]) hx hb dL_slope_151 hl (by decide) rfl (fun ls hl => ?_)
          exact j_153 _ (lv_sub hl [0, 1, 8, 9, 10, 11, 12] rfl)
    · have c_10 : k = n - 1 := (nI_eq (a := k) (b := n - 1) (by omega) (by omega)).mp c_10
      refine lv_aload_n hx hb dL_slope_13 rfl (lv_at hl 0 rfl) ?_
      refine lv_aload_n hx hb dL_slope_14 rfl (lv_at hl 1 rfl) ?_
      refine lv_iload hx hb dL_slope_15 (lv_at hl 4 rfl) ?_
      refine lv_if_ne (tgt := 24) hx hb dL_slope_17 (by decide) (fun c_17 => ?_) (fun c_17 => ?_)
      · have c_17 : ¬ k = 0 := fun h9 => c_17 ((nI_eq (a := k) (b := 0) (by omega) (by omega)).mpr h9)
        refine lv_iload_n hx hb dL_slope_24 rfl (lv_at hl 3 rfl) ?_
        refine lv_iconst (v := 2) hx hb dL_slope_25 (by decide) ?_
        refine my_isub (w := nI (n - 2)) hx hb dL_slope_26 (pk_sub (a := n) (b := 2) (by omega)) ?_
        refine my_goR (v := (some (.double (s_r X Y (n - 2))))) (my_runS (bytes := cL_rise) (maxL := 3) (ret := (some .double)) (n := 3) (As := [.ref xa, .ref ya, .int (nI (n - 2))]) (rest := []) S hl.1 (kk_L_rise l D kd ki kz kl z xa ya X Y n (n - 2) (hJ) (by omega) (h20)) rfl ⟨rfl, rfl⟩ gL_slope_L_rise (by decide +kernel) rfl ⟨Nat.le_of_ble_eq_true rfl, Nat.le_of_ble_eq_true rfl⟩ (my_preR hC (my_P_sub (wc := [(xa, .inl (kd, 20, .inr (.inr (.inr (.inl X))))), (ya, .inl (kd, 20, .inr (.inr (.inr (.inl Y)))))]) hP [0, 1] rfl)) rfl rfl dL_slope_27) ?_
        refine W.eq (g2 := F0 m 30 ls [.double (s_r X Y (n - 2))]) rfl ?_
        refine my_topd (w := s_min (s_a X Y k) (s_b X Y n k)) ((s_leN hkn2 c_10).2) ?_
        exact j_30 (Or.inr c_10) _ (lv_sub hl [0, 1, 2, 3, 4] rfl)
      · have c_17 : k = 0 := (nI_eq (a := k) (b := 0) (by omega) (by omega)).mp c_17
        refine lv_iconst (v := 0) hx hb dL_slope_20 (by decide) ?_
        refine lv_goto (tgt := 27) hx hb dL_slope_21 (by decide) ?_
        refine my_goR (v := (some (.double (s_r X Y 0)))) (my_runS (bytes := cL_rise) (maxL := 3) (ret := (some .double)) (n := 3) (As := [.ref xa, .ref ya, .int 0]) (rest := []) S hl.1 (kk_L_rise l D kd ki kz kl z xa ya X Y n 0 (hJ) (by omega) (h20)) rfl ⟨rfl, rfl⟩ gL_slope_L_rise (by decide +kernel) rfl ⟨Nat.le_of_ble_eq_true rfl, Nat.le_of_ble_eq_true rfl⟩ (my_preR hC (my_P_sub (wc := [(xa, .inl (kd, 20, .inr (.inr (.inr (.inl X))))), (ya, .inl (kd, 20, .inr (.inr (.inr (.inl Y)))))]) hP [0, 1] rfl)) rfl rfl dL_slope_27) ?_
        refine W.eq (g2 := F0 m 30 ls [.double (s_r X Y 0)]) rfl ?_
        refine my_topd (w := s_min (s_a X Y k) (s_b X Y n k)) (absurd c_17 c_2) ?_
        exact j_30 (Or.inr c_10) _ (lv_sub hl [0, 1, 2, 3, 4] rfl)

set_option maxHeartbeats 4000000 in
set_option maxRecDepth 100000 in
theorem kk_L_at0 (l : Launch) (D : va_G) (kd ki kz kl : ClassId) (z : Nat) (xa : Nat) (ya : Nat) (fa : Nat) (X : Nat → UInt64) (Y : Nat → UInt64) (F : Nat → UInt64) (n : Nat) (k : Nat) (t : UInt64) (hI : KI n X Y F) (hk : k + 1 < n) (h20 : n ≤ 20) (ht : fx_B 1170 t) : my_RO l D kd ki kz kl z yL_at wsL_at ({ frames := 2, cells := 0, slots := 0, locals := 63 }) [.ref xa, .ref ya, .ref fa, .int (nI n), .int (nI k), .double t, .int 0] [(xa, .inl (kd, 20, .inr (.inr (.inr (.inl X))))), (ya, .inl (kd, 20, .inr (.inr (.inr (.inl Y))))), (fa, .inl (kd, 20, .inr (.inr (.inr (.inl F)))))] (some (.double (s_h (Y k) (s_s X Y F n k) (s_pk X Y F n k) (s_qk X Y F n k) t))) := by
  refine my_RO_of (cc := cL_at) (maxL := 20) (ret := (some .double)) (by decide) rfl (Nat.le_of_ble_eq_true rfl) ?_
  intro p e s m below meth c S hr hlocks hC hP ls hl
  have S : CallFix p m c cL_at 20 s ([.ref xa, .ref ya, .ref fa, .int (nI n), .int (nI k), .double t, .int 0] : List Value).toArray wsL_at RL := S
  obtain ⟨hx, hb, hml, hown, hts⟩ := id S
  have hl : lv_has ls 20 [(0, .ref xa), (1, .ref ya), (2, .ref fa), (3, .int (nI n)), (4, .int (nI k)), (5, .double t), (7, .int 0)] := hl
  have hJ := hI.1
  obtain ⟨a1, a2, a3, a4, a5, a6⟩ := PE_h (PE_of hI hk) ht
  refine lv_aload_n hx hb dL_at_0 rfl (lv_at hl 0 rfl) ?_
  refine lv_iload hx hb dL_at_1 (lv_at hl 4 rfl) ?_
  refine lv_iconst (v := 1) hx hb dL_at_3 (by decide) ?_
  refine my_iadd (w := nI (k + 1)) hx hb dL_at_4 (nI_add k 1) ?_
  refine my_dald (k := k + 1) (n := 20) (f := X) hx hb hC hP 0 rfl (by omega) (by omega) dL_at_5 ?_
  refine lv_aload_n hx hb dL_at_6 rfl (lv_at hl 0 rfl) ?_
  refine lv_iload hx hb dL_at_7 (lv_at hl 4 rfl) ?_
  refine my_dald (k := k) (n := 20) (f := X) hx hb hC hP 0 rfl (by omega) (by omega) dL_at_9 ?_
  refine lv_dsub hx hb dL_at_10 (fx_n64 ((kJ_w1 hJ hk).2.2.2)) ?_
  refine lv_dstore (lv' := [(8, .double (FP.dsub (X (k + 1)) (X k))), (0, .ref xa), (1, .ref ya), (2, .ref fa), (3, .int (nI n)), (4, .int (nI k)), (5, .double t), (7, .int 0)]) hx hb dL_at_11 hl (by decide) rfl (fun ls hl => ?_)
  refine lv_aload_n hx hb dL_at_13 rfl (lv_at hl 1 rfl) ?_
  refine lv_aload_n hx hb dL_at_14 rfl (lv_at hl 2 rfl) ?_
  refine lv_iload hx hb dL_at_15 (lv_at hl 5 rfl) ?_
  refine my_goR (v := (some (.double (s_r X Y k)))) (my_runS (bytes := cL_rise) (maxL := 3) (ret := (some .double)) (n := 3) (As := [.ref xa, .ref ya, .int (nI k)]) (rest := []) S hl.1 (kk_L_rise l D kd ki kz kl z xa ya X Y n k (hJ) (hk) (h20)) rfl ⟨rfl, rfl⟩ gL_at_L_rise (by decide +kernel) rfl ⟨Nat.le_of_ble_eq_true rfl, Nat.le_of_ble_eq_true rfl⟩ (my_preR hC (my_P_sub (wc := [(xa, .inl (kd, 20, .inr (.inr (.inr (.inl X))))), (ya, .inl (kd, 20, .inr (.inr (.inr (.inl Y)))))]) hP [0, 1] rfl)) rfl rfl dL_at_17) ?_
  refine W.eq (g2 := F0 m 20 ls [.double (s_r X Y k)]) rfl ?_
  refine lv_dstore (lv' := [(10, .double (s_r X Y k)), (8, .double (FP.dsub (X (k + 1)) (X k))), (0, .ref xa), (1, .ref ya), (2, .ref fa), (3, .int (nI n)), (4, .int (nI k)), (5, .double t), (7, .int 0)]) hx hb dL_at_20 hl (by decide) rfl (fun ls hl => ?_)
  refine lv_aload_n hx hb dL_at_22 rfl (lv_at hl 2 rfl) ?_
  refine lv_aload_n hx hb dL_at_23 rfl (lv_at hl 3 rfl) ?_
  refine lv_aload_n hx hb dL_at_24 rfl (lv_at hl 4 rfl) ?_
  refine lv_iload_n hx hb dL_at_25 rfl (lv_at hl 5 rfl) ?_
  refine lv_iload hx hb dL_at_26 (lv_at hl 6 rfl) ?_
  refine my_goR (v := (some (.double (s_s X Y F n k)))) (my_runS (bytes := cL_slope) (maxL := 21) (ret := (some .double)) (n := 5) (As := [.ref xa, .ref ya, .ref fa, .int (nI n), .int (nI k)]) (rest := []) S hl.1 (kk_L_slope l D kd ki kz kl z xa ya fa X Y F n k (hI) (by omega) (h20)) rfl ⟨rfl, rfl⟩ gL_at_L_slope (by decide +kernel) rfl ⟨Nat.le_of_ble_eq_true rfl, Nat.le_of_ble_eq_true rfl⟩ (my_preR hC (my_P_sub (wc := [(xa, .inl (kd, 20, .inr (.inr (.inr (.inl X))))), (ya, .inl (kd, 20, .inr (.inr (.inr (.inl Y))))), (fa, .inl (kd, 20, .inr (.inr (.inr (.inl F)))))]) hP [0, 1, 2] rfl)) rfl rfl dL_at_28) ?_
  refine W.eq (g2 := F0 m 31 ls [.double (s_s X Y F n k)]) rfl ?_
  refine lv_dstore (lv' := [(12, .double (s_s X Y F n k)), (10, .double (s_r X Y k)), (8, .double (FP.dsub (X (k + 1)) (X k))), (0, .ref xa), (1, .ref ya), (2, .ref fa), (3, .int (nI n)), (4, .int (nI k)), (5, .double t), (7, .int 0)]) hx hb dL_at_31 hl (by decide) rfl (fun ls hl => ?_)
  refine lv_aload_n hx hb dL_at_33 rfl (lv_at hl 3 rfl) ?_
  refine lv_aload_n hx hb dL_at_34 rfl (lv_at hl 4 rfl) ?_
  refine lv_aload_n hx hb dL_at_35 rfl (lv_at hl 5 rfl) ?_
  refine lv_iload_n hx hb dL_at_36 rfl (lv_at hl 6 rfl) ?_
  refine lv_iload hx hb dL_at_37 (lv_at hl 7 rfl) ?_
  refine lv_iconst (v := 1) hx hb dL_at_39 (by decide) ?_
  refine my_iadd (w := nI (k + 1)) hx hb dL_at_40 (nI_add k 1) ?_
  refine my_goR (v := (some (.double (s_s X Y F n (k + 1))))) (my_runS (bytes := cL_slope) (maxL := 21) (ret := (some .double)) (n := 5) (As := [.ref xa, .ref ya, .ref fa, .int (nI n), .int (nI (k + 1))]) (rest := []) S hl.1 (kk_L_slope l D kd ki kz kl z xa ya fa X Y F n (k + 1) (hI) (by omega) (h20)) rfl ⟨rfl, rfl⟩ gL_at_L_slope (by decide +kernel) rfl ⟨Nat.le_of_ble_eq_true rfl, Nat.le_of_ble_eq_true rfl⟩ (my_preR hC (my_P_sub (wc := [(xa, .inl (kd, 20, .inr (.inr (.inr (.inl X))))), (ya, .inl (kd, 20, .inr (.inr (.inr (.inl Y))))), (fa, .inl (kd, 20, .inr (.inr (.inr (.inl F)))))]) hP [0, 1, 2] rfl)) rfl rfl dL_at_41) ?_
  refine W.eq (g2 := F0 m 44 ls [.double (s_s X Y F n (k + 1))]) rfl ?_
  refine lv_dstore (lv' := [(14, .double (s_s X Y F n (k + 1))), (12, .double (s_s X Y F n k)), (10, .double (s_r X Y k)), (8, .double (FP.dsub (X (k + 1)) (X k))), (0, .ref xa), (1, .ref ya), (2, .ref fa), (3, .int (nI n)), (4, .int (nI k)), (5, .double t), (7, .int 0)]) hx hb dL_at_44 hl (by decide) rfl (fun ls hl => ?_)
  refine lv_ldc2d hx hb hown (hts (.constantDouble RL 41 (4613937818241073152)) (List.mem_of_getElem? (l := wsL_at) (i := 1) rfl)) dL_at_46 ?_
  refine lv_dload hx hb dL_at_49 (lv_at hl 2 rfl) ?_
  refine lv_dmul hx hb dL_at_51 (fx_n64 ((PB_n hI hk).1)) ?_
  refine lv_ldc2d hx hb hown (hts (.constantDouble RL 33 (4611686018427387904)) (List.mem_of_getElem? (l := wsL_at) (i := 2) rfl)) dL_at_52 ?_
  refine lv_dload hx hb dL_at_55 (lv_at hl 1 rfl) ?_
  refine lv_dmul hx hb dL_at_57 (fx_n64 ((PB_n hI hk).2.1)) ?_
  refine lv_dsub hx hb dL_at_58 (fx_n64 ((PB_n hI hk).2.2.1)) ?_
  refine lv_dload hx hb dL_at_59 (lv_at hl 0 rfl) ?_
  refine lv_dsub hx hb dL_at_61 (fx_n64 ((PB_n hI hk).2.2.2.1)) ?_
  refine lv_dload hx hb dL_at_62 (lv_at hl 3 rfl) ?_
  refine lv_ddiv hx hb dL_at_64 (fx_n64 (fx_B_n (PE_of hI hk).2.2.1 (by omega))) ?_
  refine my_topd (w := s_pk X Y F n k) (rfl) ?_
  refine lv_dstore (lv' := [(16, .double (s_pk X Y F n k)), (14, .double (s_s X Y F n (k + 1))), (12, .double (s_s X Y F n k)), (10, .double (s_r X Y k)), (8, .double (FP.dsub (X (k + 1)) (X k))), (0, .ref xa), (1, .ref ya), (2, .ref fa), (3, .int (nI n)), (4, .int (nI k)), (5, .double t), (7, .int 0)]) hx hb dL_at_65 hl (by decide) rfl (fun ls hl => ?_)
  refine lv_dload hx hb dL_at_67 (lv_at hl 2 rfl) ?_
  refine lv_dload hx hb dL_at_69 (lv_at hl 1 rfl) ?_
  refine lv_dadd hx hb dL_at_71 (fx_n64 ((PB_n hI hk).2.2.2.2.1)) ?_
  refine lv_ldc2d hx hb hown (hts (.constantDouble RL 33 (4611686018427387904)) (List.mem_of_getElem? (l := wsL_at) (i := 2) rfl)) dL_at_72 ?_
  refine lv_dload hx hb dL_at_75 (lv_at hl 3 rfl) ?_
  refine lv_dmul hx hb dL_at_77 (fx_n64 ((PB_n hI hk).2.2.2.2.2.1)) ?_
  refine lv_dsub hx hb dL_at_78 (fx_n64 ((PB_n hI hk).2.2.2.2.2.2.1)) ?_
  refine lv_dload hx hb dL_at_79 (lv_at hl 4 rfl) ?_
  refine lv_dload hx hb dL_at_81 (lv_at hl 4 rfl) ?_
  refine lv_dmul hx hb dL_at_83 (fx_n64 ((PB_n hI hk).2.2.2.2.2.2.2.1)) ?_
  refine lv_ddiv hx hb dL_at_84 (fx_n64 (fx_B_n (PE_of hI hk).2.2.2 (by omega))) ?_
  refine my_topd (w := s_qk X Y F n k) (rfl) ?_
  refine lv_dstore (lv' := [(18, .double (s_qk X Y F n k)), (16, .double (s_pk X Y F n k)), (14, .double (s_s X Y F n (k + 1))), (12, .double (s_s X Y F n k)), (10, .double (s_r X Y k)), (8, .double (FP.dsub (X (k + 1)) (X k))), (0, .ref xa), (1, .ref ya), (2, .ref fa), (3, .int (nI n)), (4, .int (nI k)), (5, .double t), (7, .int 0)]) hx hb dL_at_85 hl (by decide) rfl (fun ls hl => ?_)
  refine lv_iload hx hb dL_at_87 (lv_at hl 12 rfl) ?_
  refine lv_if_ne (tgt := 115) hx hb dL_at_89 (by decide) (fun c_89 => ?_) (fun c_89 => ?_)
  · skip
    first | exact absurd c_89 (by decide) | exact absurd (by decide) c_89
  · skip
    refine lv_aload_n hx hb dL_at_92 rfl (lv_at hl 7 rfl) ?_
    refine lv_iload hx hb dL_at_93 (lv_at hl 10 rfl) ?_
    refine my_dald (k := k) (n := 20) (f := Y) hx hb hC hP 1 rfl (by omega) (by omega) dL_at_95 ?_
    refine lv_dload hx hb dL_at_96 (lv_at hl 11 rfl) ?_
    refine lv_dload hx hb dL_at_98 (lv_at hl 3 rfl) ?_
    refine lv_dload hx hb dL_at_100 (lv_at hl 11 rfl) ?_
    refine lv_dload hx hb dL_at_102 (lv_at hl 1 rfl) ?_
    refine lv_dload hx hb dL_at_104 (lv_at hl 11 rfl) ?_
    refine lv_dload hx hb dL_at_106 (lv_at hl 0 rfl) ?_
    refine lv_dmul hx hb dL_at_108 (fx_n64 (a1)) ?_
    refine lv_dadd hx hb dL_at_109 (fx_n64 (a2)) ?_
    refine lv_dmul hx hb dL_at_110 (fx_n64 (a3)) ?_
    refine lv_dadd hx hb dL_at_111 (fx_n64 (a4)) ?_
    refine lv_dmul hx hb dL_at_112 (fx_n64 (a5)) ?_
    refine lv_dadd hx hb dL_at_113 (fx_n64 (fx_B_n a6 (by omega))) ?_
    exact my_dretR hx hb hr hlocks (rfl) dL_at_114

set_option maxHeartbeats 4000000 in
set_option maxRecDepth 100000 in
theorem kk_L_at1 (l : Launch) (D : va_G) (kd ki kz kl : ClassId) (z : Nat) (xa : Nat) (ya : Nat) (fa : Nat) (X : Nat → UInt64) (Y : Nat → UInt64) (F : Nat → UInt64) (n : Nat) (k : Nat) (t : UInt64) (hI : KI n X Y F) (hk : k + 1 < n) (h20 : n ≤ 20) (ht : fx_B 1170 t) : my_RO l D kd ki kz kl z yL_at wsL_at ({ frames := 2, cells := 0, slots := 0, locals := 63 }) [.ref xa, .ref ya, .ref fa, .int (nI n), .int (nI k), .double t, .int 1] [(xa, .inl (kd, 20, .inr (.inr (.inr (.inl X))))), (ya, .inl (kd, 20, .inr (.inr (.inr (.inl Y))))), (fa, .inl (kd, 20, .inr (.inr (.inr (.inl F)))))] (some (.double (s_t (s_s X Y F n k) (s_pk X Y F n k) (s_qk X Y F n k) t))) := by
  refine my_RO_of (cc := cL_at) (maxL := 20) (ret := (some .double)) (by decide) rfl (Nat.le_of_ble_eq_true rfl) ?_
  intro p e s m below meth c S hr hlocks hC hP ls hl
  have S : CallFix p m c cL_at 20 s ([.ref xa, .ref ya, .ref fa, .int (nI n), .int (nI k), .double t, .int 1] : List Value).toArray wsL_at RL := S
  obtain ⟨hx, hb, hml, hown, hts⟩ := id S
  have hl : lv_has ls 20 [(0, .ref xa), (1, .ref ya), (2, .ref fa), (3, .int (nI n)), (4, .int (nI k)), (5, .double t), (7, .int 1)] := hl
  have hJ := hI.1
  obtain ⟨a1, a2, a3, a4, a5, a6⟩ := PE_t (PE_of hI hk) ht
  refine lv_aload_n hx hb dL_at_0 rfl (lv_at hl 0 rfl) ?_
  refine lv_iload hx hb dL_at_1 (lv_at hl 4 rfl) ?_
  refine lv_iconst (v := 1) hx hb dL_at_3 (by decide) ?_
  refine my_iadd (w := nI (k + 1)) hx hb dL_at_4 (nI_add k 1) ?_
  refine my_dald (k := k + 1) (n := 20) (f := X) hx hb hC hP 0 rfl (by omega) (by omega) dL_at_5 ?_
  refine lv_aload_n hx hb dL_at_6 rfl (lv_at hl 0 rfl) ?_
  refine lv_iload hx hb dL_at_7 (lv_at hl 4 rfl) ?_
  refine my_dald (k := k) (n := 20) (f := X) hx hb hC hP 0 rfl (by omega) (by omega) dL_at_9 ?_
  refine lv_dsub hx hb dL_at_10 (fx_n64 ((kJ_w1 hJ hk).2.2.2)) ?_
  refine lv_dstore (lv' := [(8, .double (FP.dsub (X (k + 1)) (X k))), (0, .ref xa), (1, .ref ya), (2, .ref fa), (3, .int (nI n)), (4, .int (nI k)), (5, .double t), (7, .int 1)]) hx hb dL_at_11 hl (by decide) rfl (fun ls hl => ?_)
  refine lv_aload_n hx hb dL_at_13 rfl (lv_at hl 1 rfl) ?_
  refine lv_aload_n hx hb dL_at_14 rfl (lv_at hl 2 rfl) ?_
  refine lv_iload hx hb dL_at_15 (lv_at hl 5 rfl) ?_
  refine my_goR (v := (some (.double (s_r X Y k)))) (my_runS (bytes := cL_rise) (maxL := 3) (ret := (some .double)) (n := 3) (As := [.ref xa, .ref ya, .int (nI k)]) (rest := []) S hl.1 (kk_L_rise l D kd ki kz kl z xa ya X Y n k (hJ) (hk) (h20)) rfl ⟨rfl, rfl⟩ gL_at_L_rise (by decide +kernel) rfl ⟨Nat.le_of_ble_eq_true rfl, Nat.le_of_ble_eq_true rfl⟩ (my_preR hC (my_P_sub (wc := [(xa, .inl (kd, 20, .inr (.inr (.inr (.inl X))))), (ya, .inl (kd, 20, .inr (.inr (.inr (.inl Y)))))]) hP [0, 1] rfl)) rfl rfl dL_at_17) ?_
  refine W.eq (g2 := F0 m 20 ls [.double (s_r X Y k)]) rfl ?_
  refine lv_dstore (lv' := [(10, .double (s_r X Y k)), (8, .double (FP.dsub (X (k + 1)) (X k))), (0, .ref xa), (1, .ref ya), (2, .ref fa), (3, .int (nI n)), (4, .int (nI k)), (5, .double t), (7, .int 1)]) hx hb dL_at_20 hl (by decide) rfl (fun ls hl => ?_)
  refine lv_aload_n hx hb dL_at_22 rfl (lv_at hl 2 rfl) ?_
  refine lv_aload_n hx hb dL_at_23 rfl (lv_at hl 3 rfl) ?_
  refine lv_aload_n hx hb dL_at_24 rfl (lv_at hl 4 rfl) ?_
  refine lv_iload_n hx hb dL_at_25 rfl (lv_at hl 5 rfl) ?_
  refine lv_iload hx hb dL_at_26 (lv_at hl 6 rfl) ?_
  refine my_goR (v := (some (.double (s_s X Y F n k)))) (my_runS (bytes := cL_slope) (maxL := 21) (ret := (some .double)) (n := 5) (As := [.ref xa, .ref ya, .ref fa, .int (nI n), .int (nI k)]) (rest := []) S hl.1 (kk_L_slope l D kd ki kz kl z xa ya fa X Y F n k (hI) (by omega) (h20)) rfl ⟨rfl, rfl⟩ gL_at_L_slope (by decide +kernel) rfl ⟨Nat.le_of_ble_eq_true rfl, Nat.le_of_ble_eq_true rfl⟩ (my_preR hC (my_P_sub (wc := [(xa, .inl (kd, 20, .inr (.inr (.inr (.inl X))))), (ya, .inl (kd, 20, .inr (.inr (.inr (.inl Y))))), (fa, .inl (kd, 20, .inr (.inr (.inr (.inl F)))))]) hP [0, 1, 2] rfl)) rfl rfl dL_at_28) ?_
  refine W.eq (g2 := F0 m 31 ls [.double (s_s X Y F n k)]) rfl ?_
  refine lv_dstore (lv' := [(12, .double (s_s X Y F n k)), (10, .double (s_r X Y k)), (8, .double (FP.dsub (X (k + 1)) (X k))), (0, .ref xa), (1, .ref ya), (2, .ref fa), (3, .int (nI n)), (4, .int (nI k)), (5, .double t), (7, .int 1)]) hx hb dL_at_31 hl (by decide) rfl (fun ls hl => ?_)
  refine lv_aload_n hx hb dL_at_33 rfl (lv_at hl 3 rfl) ?_
  refine lv_aload_n hx hb dL_at_34 rfl (lv_at hl 4 rfl) ?_
  refine lv_aload_n hx hb dL_at_35 rfl (lv_at hl 5 rfl) ?_
  refine lv_iload_n hx hb dL_at_36 rfl (lv_at hl 6 rfl) ?_
  refine lv_iload hx hb dL_at_37 (lv_at hl 7 rfl) ?_
  refine lv_iconst (v := 1) hx hb dL_at_39 (by decide) ?_
  refine my_iadd (w := nI (k + 1)) hx hb dL_at_40 (nI_add k 1) ?_
  refine my_goR (v := (some (.double (s_s X Y F n (k + 1))))) (my_runS (bytes := cL_slope) (maxL := 21) (ret := (some .double)) (n := 5) (As := [.ref xa, .ref ya, .ref fa, .int (nI n), .int (nI (k + 1))]) (rest := []) S hl.1 (kk_L_slope l D kd ki kz kl z xa ya fa X Y F n (k + 1) (hI) (by omega) (h20)) rfl ⟨rfl, rfl⟩ gL_at_L_slope (by decide +kernel) rfl ⟨Nat.le_of_ble_eq_true rfl, Nat.le_of_ble_eq_true rfl⟩ (my_preR hC (my_P_sub (wc := [(xa, .inl (kd, 20, .inr (.inr (.inr (.inl X))))), (ya, .inl (kd, 20, .inr (.inr (.inr (.inl Y))))), (fa, .inl (kd, 20, .inr (.inr (.inr (.inl F)))))]) hP [0, 1, 2] rfl)) rfl rfl dL_at_41) ?_
  refine W.eq (g2 := F0 m 44 ls [.double (s_s X Y F n (k + 1))]) rfl ?_
  refine lv_dstore (lv' := [(14, .double (s_s X Y F n (k + 1))), (12, .double (s_s X Y F n k)), (10, .double (s_r X Y k)), (8, .double (FP.dsub (X (k + 1)) (X k))), (0, .ref xa), (1, .ref ya), (2, .ref fa), (3, .int (nI n)), (4, .int (nI k)), (5, .double t), (7, .int 1)]) hx hb dL_at_44 hl (by decide) rfl (fun ls hl => ?_)
  refine lv_ldc2d hx hb hown (hts (.constantDouble RL 41 (4613937818241073152)) (List.mem_of_getElem? (l := wsL_at) (i := 1) rfl)) dL_at_46 ?_
  refine lv_dload hx hb dL_at_49 (lv_at hl 2 rfl) ?_
  refine lv_dmul hx hb dL_at_51 (fx_n64 ((PB_n hI hk).1)) ?_
  refine lv_ldc2d hx hb hown (hts (.constantDouble RL 33 (4611686018427387904)) (List.mem_of_getElem? (l := wsL_at) (i := 2) rfl)) dL_at_52 ?_
  refine lv_dload hx hb dL_at_55 (lv_at hl 1 rfl) ?_
  refine lv_dmul hx hb dL_at_57 (fx_n64 ((PB_n hI hk).2.1)) ?_
  refine lv_dsub hx hb dL_at_58 (fx_n64 ((PB_n hI hk).2.2.1)) ?_
  refine lv_dload hx hb dL_at_59 (lv_at hl 0 rfl) ?_
  refine lv_dsub hx hb dL_at_61 (fx_n64 ((PB_n hI hk).2.2.2.1)) ?_
  refine lv_dload hx hb dL_at_62 (lv_at hl 3 rfl) ?_
  refine lv_ddiv hx hb dL_at_64 (fx_n64 (fx_B_n (PE_of hI hk).2.2.1 (by omega))) ?_
  refine my_topd (w := s_pk X Y F n k) (rfl) ?_
  refine lv_dstore (lv' := [(16, .double (s_pk X Y F n k)), (14, .double (s_s X Y F n (k + 1))), (12, .double (s_s X Y F n k)), (10, .double (s_r X Y k)), (8, .double (FP.dsub (X (k + 1)) (X k))), (0, .ref xa), (1, .ref ya), (2, .ref fa), (3, .int (nI n)), (4, .int (nI k)), (5, .double t), (7, .int 1)]) hx hb dL_at_65 hl (by decide) rfl (fun ls hl => ?_)
  refine lv_dload hx hb dL_at_67 (lv_at hl 2 rfl) ?_
  refine lv_dload hx hb dL_at_69 (lv_at hl 1 rfl) ?_
  refine lv_dadd hx hb dL_at_71 (fx_n64 ((PB_n hI hk).2.2.2.2.1)) ?_
  refine lv_ldc2d hx hb hown (hts (.constantDouble RL 33 (4611686018427387904)) (List.mem_of_getElem? (l := wsL_at) (i := 2) rfl)) dL_at_72 ?_
  refine lv_dload hx hb dL_at_75 (lv_at hl 3 rfl) ?_
  refine lv_dmul hx hb dL_at_77 (fx_n64 ((PB_n hI hk).2.2.2.2.2.1)) ?_
  refine lv_dsub hx hb dL_at_78 (fx_n64 ((PB_n hI hk).2.2.2.2.2.2.1)) ?_
  refine lv_dload hx hb dL_at_79 (lv_at hl 4 rfl) ?_
  refine lv_dload hx hb dL_at_81 (lv_at hl 4 rfl) ?_
  refine lv_dmul hx hb dL_at_83 (fx_n64 ((PB_n hI hk).2.2.2.2.2.2.2.1)) ?_
  refine lv_ddiv hx hb dL_at_84 (fx_n64 (fx_B_n (PE_of hI hk).2.2.2 (by omega))) ?_
  refine my_topd (w := s_qk X Y F n k) (rfl) ?_
  refine lv_dstore (lv' := [(18, .double (s_qk X Y F n k)), (16, .double (s_pk X Y F n k)), (14, .double (s_s X Y F n (k + 1))), (12, .double (s_s X Y F n k)), (10, .double (s_r X Y k)), (8, .double (FP.dsub (X (k + 1)) (X k))), (0, .ref xa), (1, .ref ya), (2, .ref fa), (3, .int (nI n)), (4, .int (nI k)), (5, .double t), (7, .int 1)]) hx hb dL_at_85 hl (by decide) rfl (fun ls hl => ?_)
  refine lv_iload hx hb dL_at_87 (lv_at hl 12 rfl) ?_
  refine lv_if_ne (tgt := 115) hx hb dL_at_89 (by decide) (fun c_89 => ?_) (fun c_89 => ?_)
  · skip
    refine lv_iload hx hb dL_at_115 (lv_at hl 12 rfl) ?_
    refine lv_iconst (v := 1) hx hb dL_at_117 (by decide) ?_
    refine lv_icmp_ne (tgt := 144) hx hb dL_at_118 (by decide) (fun c_118 => ?_) (fun c_118 => ?_)
    · skip
      first | exact absurd c_118 (by decide) | exact absurd (by decide) c_118
    · skip
      refine lv_dload hx hb dL_at_121 (lv_at hl 3 rfl) ?_
      refine lv_dload hx hb dL_at_123 (lv_at hl 11 rfl) ?_
      refine lv_ldc2d hx hb hown (hts (.constantDouble RL 33 (4611686018427387904)) (List.mem_of_getElem? (l := wsL_at) (i := 2) rfl)) dL_at_125 ?_
      refine lv_dload hx hb dL_at_128 (lv_at hl 1 rfl) ?_
      refine lv_dmul hx hb dL_at_130 (fx_n64 (a1)) ?_
      refine lv_dload hx hb dL_at_131 (lv_at hl 11 rfl) ?_
      refine lv_ldc2d hx hb hown (hts (.constantDouble RL 41 (4613937818241073152)) (List.mem_of_getElem? (l := wsL_at) (i := 1) rfl)) dL_at_133 ?_
      refine lv_dload hx hb dL_at_136 (lv_at hl 0 rfl) ?_
      refine lv_dmul hx hb dL_at_138 (fx_n64 (a2)) ?_
      refine lv_dmul hx hb dL_at_139 (fx_n64 (a3)) ?_
      refine lv_dadd hx hb dL_at_140 (fx_n64 (a4)) ?_
      refine lv_dmul hx hb dL_at_141 (fx_n64 (a5)) ?_
      refine lv_dadd hx hb dL_at_142 (fx_n64 (fx_B_n a6 (by omega))) ?_
      exact my_dretR hx hb hr hlocks (rfl) dL_at_143
  · skip
    first | exact absurd c_89 (by decide) | exact absurd (by decide) c_89

set_option maxHeartbeats 4000000 in
set_option maxRecDepth 100000 in
theorem kk_L_at2 (l : Launch) (D : va_G) (kd ki kz kl : ClassId) (z : Nat) (xa : Nat) (ya : Nat) (fa : Nat) (X : Nat → UInt64) (Y : Nat → UInt64) (F : Nat → UInt64) (n : Nat) (k : Nat) (t : UInt64) (hI : KI n X Y F) (hk : k + 1 < n) (h20 : n ≤ 20) (ht : fx_B 1170 t) : my_RO l D kd ki kz kl z yL_at wsL_at ({ frames := 2, cells := 0, slots := 0, locals := 63 }) [.ref xa, .ref ya, .ref fa, .int (nI n), .int (nI k), .double t, .int 2] [(xa, .inl (kd, 20, .inr (.inr (.inr (.inl X))))), (ya, .inl (kd, 20, .inr (.inr (.inr (.inl Y))))), (fa, .inl (kd, 20, .inr (.inr (.inr (.inl F)))))] (some (.double (s_pt (Y k) (s_s X Y F n k) (s_pk X Y F n k) (s_qk X Y F n k) t))) := by
  refine my_RO_of (cc := cL_at) (maxL := 20) (ret := (some .double)) (by decide) rfl (Nat.le_of_ble_eq_true rfl) ?_
  intro p e s m below meth c S hr hlocks hC hP ls hl
  have S : CallFix p m c cL_at 20 s ([.ref xa, .ref ya, .ref fa, .int (nI n), .int (nI k), .double t, .int 2] : List Value).toArray wsL_at RL := S
  obtain ⟨hx, hb, hml, hown, hts⟩ := id S
  have hl : lv_has ls 20 [(0, .ref xa), (1, .ref ya), (2, .ref fa), (3, .int (nI n)), (4, .int (nI k)), (5, .double t), (7, .int 2)] := hl
  have hJ := hI.1
  obtain ⟨a1, a2, a3, a4, a5, a6, a7, a8, a9, a10⟩ := PE_p (PE_of hI hk) ht
  refine lv_aload_n hx hb dL_at_0 rfl (lv_at hl 0 rfl) ?_
  refine lv_iload hx hb dL_at_1 (lv_at hl 4 rfl) ?_
  refine lv_iconst (v := 1) hx hb dL_at_3 (by decide) ?_
  refine my_iadd (w := nI (k + 1)) hx hb dL_at_4 (nI_add k 1) ?_
  refine my_dald (k := k + 1) (n := 20) (f := X) hx hb hC hP 0 rfl (by omega) (by omega) dL_at_5 ?_
  refine lv_aload_n hx hb dL_at_6 rfl (lv_at hl 0 rfl) ?_
  refine lv_iload hx hb dL_at_7 (lv_at hl 4 rfl) ?_
  refine my_dald (k := k) (n := 20) (f := X) hx hb hC hP 0 rfl (by omega) (by omega) dL_at_9 ?_
  refine lv_dsub hx hb dL_at_10 (fx_n64 ((kJ_w1 hJ hk).2.2.2)) ?_
  refine lv_dstore (lv' := [(8, .double (FP.dsub (X (k + 1)) (X k))), (0, .ref xa), (1, .ref ya), (2, .ref fa), (3, .int (nI n)), (4, .int (nI k)), (5, .double t), (7, .int 2)]) hx hb dL_at_11 hl (by decide) rfl (fun ls hl => ?_)
  refine lv_aload_n hx hb dL_at_13 rfl (lv_at hl 1 rfl) ?_
  refine lv_aload_n hx hb dL_at_14 rfl (lv_at hl 2 rfl) ?_
  refine lv_iload hx hb dL_at_15 (lv_at hl 5 rfl) ?_
  refine my_goR (v := (some (.double (s_r X Y k)))) (my_runS (bytes := cL_rise) (maxL := 3) (ret := (some .double)) (n := 3) (As := [.ref xa, .ref ya, .int (nI k)]) (rest := []) S hl.1 (kk_L_rise l D kd ki kz kl z xa ya X Y n k (hJ) (hk) (h20)) rfl ⟨rfl, rfl⟩ gL_at_L_rise (by decide +kernel) rfl ⟨Nat.le_of_ble_eq_true rfl, Nat.le_of_ble_eq_true rfl⟩ (my_preR hC (my_P_sub (wc := [(xa, .inl (kd, 20, .inr (.inr (.inr (.inl X))))), (ya, .inl (kd, 20, .inr (.inr (.inr (.inl Y)))))]) hP [0, 1] rfl)) rfl rfl dL_at_17) ?_
  refine W.eq (g2 := F0 m 20 ls [.double (s_r X Y k)]) rfl ?_
  refine lv_dstore (lv' := [(10, .double (s_r X Y k)), (8, .double (FP.dsub (X (k + 1)) (X k))), (0, .ref xa), (1, .ref ya), (2, .ref fa), (3, .int (nI n)), (4, .int (nI k)), (5, .double t), (7, .int 2)]) hx hb dL_at_20 hl (by decide) rfl (fun ls hl => ?_)
  refine lv_aload_n hx hb dL_at_22 rfl (lv_at hl 2 rfl) ?_
  refine lv_aload_n hx hb dL_at_23 rfl (lv_at hl 3 rfl) ?_
  refine lv_aload_n hx hb dL_at_24 rfl (lv_at hl 4 rfl) ?_
  refine lv_iload_n hx hb dL_at_25 rfl (lv_at hl 5 rfl) ?_
  refine lv_iload hx hb dL_at_26 (lv_at hl 6 rfl) ?_
  refine my_goR (v := (some (.double (s_s X Y F n k)))) (my_runS (bytes := cL_slope) (maxL := 21) (ret := (some .double)) (n := 5) (As := [.ref xa, .ref ya, .ref fa, .int (nI n), .int (nI k)]) (rest := []) S hl.1 (kk_L_slope l D kd ki kz kl z xa ya fa X Y F n k (hI) (by omega) (h20)) rfl ⟨rfl, rfl⟩ gL_at_L_slope (by decide +kernel) rfl ⟨Nat.le_of_ble_eq_true rfl, Nat.le_of_ble_eq_true rfl⟩ (my_preR hC (my_P_sub (wc := [(xa, .inl (kd, 20, .inr (.inr (.inr (.inl X))))), (ya, .inl (kd, 20, .inr (.inr (.inr (.inl Y))))), (fa, .inl (kd, 20, .inr (.inr (.inr (.inl F)))))]) hP [0, 1, 2] rfl)) rfl rfl dL_at_28) ?_
  refine W.eq (g2 := F0 m 31 ls [.double (s_s X Y F n k)]) rfl ?_
  refine lv_dstore (lv' := [(12, .double (s_s X Y F n k)), (10, .double (s_r X Y k)), (8, .double (FP.dsub (X (k + 1)) (X k))), (0, .ref xa), (1, .ref ya), (2, .ref fa), (3, .int (nI n)), (4, .int (nI k)), (5, .double t), (7, .int 2)]) hx hb dL_at_31 hl (by decide) rfl (fun ls hl => ?_)
  refine lv_aload_n hx hb dL_at_33 rfl (lv_at hl 3 rfl) ?_
  refine lv_aload_n hx hb dL_at_34 rfl (lv_at hl 4 rfl) ?_
  refine lv_aload_n hx hb dL_at_35 rfl (lv_at hl 5 rfl) ?_
  refine lv_iload_n hx hb dL_at_36 rfl (lv_at hl 6 rfl) ?_
  refine lv_iload hx hb dL_at_37 (lv_at hl 7 rfl) ?_
  refine lv_iconst (v := 1) hx hb dL_at_39 (by decide) ?_
  refine my_iadd (w := nI (k + 1)) hx hb dL_at_40 (nI_add k 1) ?_
  refine my_goR (v := (some (.double (s_s X Y F n (k + 1))))) (my_runS (bytes := cL_slope) (maxL := 21) (ret := (some .double)) (n := 5) (As := [.ref xa, .ref ya, .ref fa, .int (nI n), .int (nI (k + 1))]) (rest := []) S hl.1 (kk_L_slope l D kd ki kz kl z xa ya fa X Y F n (k + 1) (hI) (by omega) (h20)) rfl ⟨rfl, rfl⟩ gL_at_L_slope (by decide +kernel) rfl ⟨Nat.le_of_ble_eq_true rfl, Nat.le_of_ble_eq_true rfl⟩ (my_preR hC (my_P_sub (wc := [(xa, .inl (kd, 20, .inr (.inr (.inr (.inl X))))), (ya, .inl (kd, 20, .inr (.inr (.inr (.inl Y))))), (fa, .inl (kd, 20, .inr (.inr (.inr (.inl F)))))]) hP [0, 1, 2] rfl)) rfl rfl dL_at_41) ?_
  refine W.eq (g2 := F0 m 44 ls [.double (s_s X Y F n (k + 1))]) rfl ?_
  refine lv_dstore (lv' := [(14, .double (s_s X Y F n (k + 1))), (12, .double (s_s X Y F n k)), (10, .double (s_r X Y k)), (8, .double (FP.dsub (X (k + 1)) (X k))), (0, .ref xa), (1, .ref ya), (2, .ref fa), (3, .int (nI n)), (4, .int (nI k)), (5, .double t), (7, .int 2)]) hx hb dL_at_44 hl (by decide) rfl (fun ls hl => ?_)
  refine lv_ldc2d hx hb hown (hts (.constantDouble RL 41 (4613937818241073152)) (List.mem_of_getElem? (l := wsL_at) (i := 1) rfl)) dL_at_46 ?_
  refine lv_dload hx hb dL_at_49 (lv_at hl 2 rfl) ?_
  refine lv_dmul hx hb dL_at_51 (fx_n64 ((PB_n hI hk).1)) ?_
  refine lv_ldc2d hx hb hown (hts (.constantDouble RL 33 (4611686018427387904)) (List.mem_of_getElem? (l := wsL_at) (i := 2) rfl)) dL_at_52 ?_
  refine lv_dload hx hb dL_at_55 (lv_at hl 1 rfl) ?_
  refine lv_dmul hx hb dL_at_57 (fx_n64 ((PB_n hI hk).2.1)) ?_
  refine lv_dsub hx hb dL_at_58 (fx_n64 ((PB_n hI hk).2.2.1)) ?_
  refine lv_dload hx hb dL_at_59 (lv_at hl 0 rfl) ?_
  refine lv_dsub hx hb dL_at_61 (fx_n64 ((PB_n hI hk).2.2.2.1)) ?_
  refine lv_dload hx hb dL_at_62 (lv_at hl 3 rfl) ?_
  refine lv_ddiv hx hb dL_at_64 (fx_n64 (fx_B_n (PE_of hI hk).2.2.1 (by omega))) ?_
  refine my_topd (w := s_pk X Y F n k) (rfl) ?_
  refine lv_dstore (lv' := [(16, .double (s_pk X Y F n k)), (14, .double (s_s X Y F n (k + 1))), (12, .double (s_s X Y F n k)), (10, .double (s_r X Y k)), (8, .double (FP.dsub (X (k + 1)) (X k))), (0, .ref xa), (1, .ref ya), (2, .ref fa), (3, .int (nI n)), (4, .int (nI k)), (5, .double t), (7, .int 2)]) hx hb dL_at_65 hl (by decide) rfl (fun ls hl => ?_)
  refine lv_dload hx hb dL_at_67 (lv_at hl 2 rfl) ?_
  refine lv_dload hx hb dL_at_69 (lv_at hl 1 rfl) ?_
  refine lv_dadd hx hb dL_at_71 (fx_n64 ((PB_n hI hk).2.2.2.2.1)) ?_
  refine lv_ldc2d hx hb hown (hts (.constantDouble RL 33 (4611686018427387904)) (List.mem_of_getElem? (l := wsL_at) (i := 2) rfl)) dL_at_72 ?_
  refine lv_dload hx hb dL_at_75 (lv_at hl 3 rfl) ?_
  refine lv_dmul hx hb dL_at_77 (fx_n64 ((PB_n hI hk).2.2.2.2.2.1)) ?_
  refine lv_dsub hx hb dL_at_78 (fx_n64 ((PB_n hI hk).2.2.2.2.2.2.1)) ?_
  refine lv_dload hx hb dL_at_79 (lv_at hl 4 rfl) ?_
  refine lv_dload hx hb dL_at_81 (lv_at hl 4 rfl) ?_
  refine lv_dmul hx hb dL_at_83 (fx_n64 ((PB_n hI hk).2.2.2.2.2.2.2.1)) ?_
  refine lv_ddiv hx hb dL_at_84 (fx_n64 (fx_B_n (PE_of hI hk).2.2.2 (by omega))) ?_
  refine my_topd (w := s_qk X Y F n k) (rfl) ?_
  refine lv_dstore (lv' := [(18, .double (s_qk X Y F n k)), (16, .double (s_pk X Y F n k)), (14, .double (s_s X Y F n (k + 1))), (12, .double (s_s X Y F n k)), (10, .double (s_r X Y k)), (8, .double (FP.dsub (X (k + 1)) (X k))), (0, .ref xa), (1, .ref ya), (2, .ref fa), (3, .int (nI n)), (4, .int (nI k)), (5, .double t), (7, .int 2)]) hx hb dL_at_85 hl (by decide) rfl (fun ls hl => ?_)
  refine lv_iload hx hb dL_at_87 (lv_at hl 12 rfl) ?_
  refine lv_if_ne (tgt := 115) hx hb dL_at_89 (by decide) (fun c_89 => ?_) (fun c_89 => ?_)
  · skip
    refine lv_iload hx hb dL_at_115 (lv_at hl 12 rfl) ?_
    refine lv_iconst (v := 1) hx hb dL_at_117 (by decide) ?_
    refine lv_icmp_ne (tgt := 144) hx hb dL_at_118 (by decide) (fun c_118 => ?_) (fun c_118 => ?_)
    · skip
      refine lv_dload hx hb dL_at_144 (lv_at hl 11 rfl) ?_
      refine lv_aload_n hx hb dL_at_146 rfl (lv_at hl 7 rfl) ?_
      refine lv_iload hx hb dL_at_147 (lv_at hl 10 rfl) ?_
      refine my_dald (k := k) (n := 20) (f := Y) hx hb hC hP 1 rfl (by omega) (by omega) dL_at_149 ?_
      refine lv_dload hx hb dL_at_150 (lv_at hl 11 rfl) ?_
      refine lv_dload hx hb dL_at_152 (lv_at hl 3 rfl) ?_
      refine lv_ldc2d hx hb hown (hts (.constantDouble RL 33 (4611686018427387904)) (List.mem_of_getElem? (l := wsL_at) (i := 2) rfl)) dL_at_154 ?_
      refine lv_ddiv hx hb dL_at_157 (fx_n64 (a1)) ?_
      refine lv_dload hx hb dL_at_158 (lv_at hl 11 rfl) ?_
      refine lv_dload hx hb dL_at_160 (lv_at hl 1 rfl) ?_
      refine lv_ldc2d hx hb hown (hts (.constantDouble RL 41 (4613937818241073152)) (List.mem_of_getElem? (l := wsL_at) (i := 1) rfl)) dL_at_162 ?_
      refine lv_ddiv hx hb dL_at_165 (fx_n64 (a2)) ?_
      refine lv_dload hx hb dL_at_166 (lv_at hl 11 rfl) ?_
      refine lv_dload hx hb dL_at_168 (lv_at hl 0 rfl) ?_
      refine lv_ldc2d hx hb hown (hts (.constantDouble RL 47 (4616189618054758400)) (List.mem_of_getElem? (l := wsL_at) (i := 3) rfl)) dL_at_170 ?_
      refine lv_ddiv hx hb dL_at_173 (fx_n64 (a3)) ?_
      refine lv_dmul hx hb dL_at_174 (fx_n64 (a4)) ?_
      refine lv_dadd hx hb dL_at_175 (fx_n64 (a5)) ?_
      refine lv_dmul hx hb dL_at_176 (fx_n64 (a6)) ?_
      refine lv_dadd hx hb dL_at_177 (fx_n64 (a7)) ?_
      refine lv_dmul hx hb dL_at_178 (fx_n64 (a8)) ?_
      refine lv_dadd hx hb dL_at_179 (fx_n64 (a9)) ?_
      refine lv_dmul hx hb dL_at_180 (fx_n64 (fx_B_n a10 (by omega))) ?_
      exact my_dretR hx hb hr hlocks (rfl) dL_at_181
    · skip
      first | exact absurd c_118 (by decide) | exact absurd (by decide) c_118
  · skip
    first | exact absurd c_89 (by decide) | exact absurd (by decide) c_89

set_option maxHeartbeats 4000000 in
set_option maxRecDepth 100000 in
theorem kk_L_piece (l : Launch) (D : va_G) (kd ki kz kl : ClassId) (z : Nat) (xa : Nat) (X : Nat → UInt64) (n : Nat) (x : UInt64) (hG : PG n X) (h2 : 2 ≤ n) (h20 : n ≤ 20) (hxq : fx_n x) : my_RO l D kd ki kz kl z yL_piece wsL_piece ({ frames := 0, cells := 0, slots := 0, locals := 0 }) [.ref xa, .int (nI n), .double x] [(xa, .inl (kd, 20, .inr (.inr (.inr (.inl X)))))] (some (.int (nI (s_pc X n x)))) := by
  refine my_RO_of (cc := cL_piece) (maxL := 5) (ret := (some .int)) (by decide) rfl (Nat.le_of_ble_eq_true rfl) ?_
  intro p e s m below meth c S hr hlocks hC hP ls hl
  have S : CallFix p m c cL_piece 5 s ([.ref xa, .int (nI n), .double x] : List Value).toArray wsL_piece RL := S
  obtain ⟨hx, hb, hml, hown, hts⟩ := id S
  have hl : lv_has ls 5 [(0, .ref xa), (1, .int (nI n)), (2, .double x)] := hl
  refine lv_iload_n hx hb dL_piece_0 rfl (lv_at hl 1 rfl) ?_
  refine lv_iconst (v := 2) hx hb dL_piece_1 (by decide) ?_
  refine my_isub (w := nI (n - 2)) hx hb dL_piece_2 (pk_sub (a := n) (b := 2) (by omega)) ?_
  refine lv_istore (lv' := [(4, .int (nI (n - 2))), (0, .ref xa), (1, .int (nI n)), (2, .double x)]) hx hb dL_piece_3 hl (by decide) rfl (fun ls hl => ?_)
  have loop_5 : ∀ (n9 : Nat) (k : Nat), k < n9 → ∀ (hk : k ≤ n - 2) (hu : ∀ j, k < j → j ≤ n - 2 → sp_gt (X j) x) (ls : Array Slot) (hl : lv_has ls 5 [(4, .int (nI k)), (0, .ref xa), (1, .int (nI n)), (2, .double x)]), W p l e ({ frames := 0, cells := 0, slots := 0, locals := 0 }) s m ([.ref xa, .int (nI n), .double x] : List Value).toArray below meth c s.heap [] 0 0 (my_RQ below ([.ref xa, .int (nI n), .double x] : List Value).toArray s (some (.int (nI (s_pc X n x))))) (F0 m 5 ls []) := by
    intro n9
    induction n9 with
    | zero => intro k h9; exact absurd h9 (Nat.not_lt_zero _)
    | succ n9 ih_5 =>
      intro k h9 hk hu ls hl
      refine lv_iload hx hb dL_piece_5 (lv_at hl 0 rfl) ?_
      refine lv_if_le (tgt := 25) hx hb dL_piece_7 (by decide) (fun c_7 => ?_) (fun c_7 => ?_)
      · have c_7 : k ≤ 0 := (nI_leI (a := k) (b := 0) (by omega) (by omega)).mp c_7
        refine lv_iload hx hb dL_piece_25 (lv_at hl 0 rfl) ?_
        exact my_iretR hx hb hr hlocks (by rw [s_pc_down hG h2 hxq (by omega) (Or.inl (by omega)) hu]) dL_piece_27
      · have c_7 : ¬ k ≤ 0 := fun h9 => c_7 ((nI_leI (a := k) (b := 0) (by omega) (by omega)).mpr h9)
        refine lv_aload_n hx hb dL_piece_10 rfl (lv_at hl 1 rfl) ?_
        refine lv_iload hx hb dL_piece_11 (lv_at hl 0 rfl) ?_
        refine my_dald (k := k) (n := 20) (f := X) hx hb hC hP 0 rfl (by omega) (by omega) dL_piece_13 ?_
        refine lv_dload_n hx hb dL_piece_14 rfl (lv_at hl 3 rfl) ?_
        refine lv_dcmp hx hb dL_piece_15 ?_
        refine lv_if_le (tgt := 25) hx hb dL_piece_16 (by decide) (fun c_16 => ?_) (fun c_16 => ?_)
        · have c_16 := cv_l_le_t c_16
          refine lv_iload hx hb dL_piece_25 (lv_at hl 0 rfl) ?_
          exact my_iretR hx hb hr hlocks (by rw [s_pc_down hG h2 hxq (by omega) (Or.inr c_16) hu]) dL_piece_27
        · have c_16 := cv_l_le_f c_16
          refine lv_iinc (v := nI (k - 1)) (k := 0) (lv' := [(4, .int (nI (k - 1))), (0, .ref xa), (1, .int (nI n)), (2, .double x)]) hx hb dL_piece_19 hl rfl (my_dec (by omega)) (by decide) rfl (fun ls hl => ?_)
          refine lv_goto (tgt := 5) hx hb dL_piece_22 (by decide) ?_
          exact ih_5 (k - 1) (by omega) (by omega) (fun j h1 h2 => (by by_cases h9 : j = k; rw [h9]; exact c_16; exact hu j (by omega) h2)) _ (lv_sub hl [0, 1, 2, 3] rfl)
  exact loop_5 _ (n - 2) (Nat.lt_succ_self _) (by omega) (fun j h1 h2 => absurd h2 (by omega)) _ (lv_sub hl [0, 1, 2, 3] rfl)

set_option maxHeartbeats 4000000 in
set_option maxRecDepth 100000 in
theorem kk_L_area (l : Launch) (D : va_G) (kd ki kz kl : ClassId) (z : Nat) (xa : Nat) (ya : Nat) (fa : Nat) (X : Nat → UInt64) (Y : Nat → UInt64) (F : Nat → UInt64) (n : Nat) (x : UInt64) (hI : KI n X Y F) (h20 : n ≤ 20) (hxB : fx_B 1168 x) : my_RO l D kd ki kz kl z yL_area wsL_area ({ frames := 3, cells := 0, slots := 0, locals := 102 }) [.ref xa, .ref ya, .ref fa, .int (nI n), .double x] [(xa, .inl (kd, 20, .inr (.inr (.inr (.inl X))))), (ya, .inl (kd, 20, .inr (.inr (.inr (.inl Y))))), (fa, .inl (kd, 20, .inr (.inr (.inr (.inl F)))))] (some (.double (s_at2 X Y F n x))) := by
  refine my_RO_of (cc := cL_area) (maxL := 10) (ret := (some .double)) (by decide) rfl (Nat.le_of_ble_eq_true rfl) ?_
  intro p e s m below meth c S hr hlocks hC hP ls hl
  have S : CallFix p m c cL_area 10 s ([.ref xa, .ref ya, .ref fa, .int (nI n), .double x] : List Value).toArray wsL_area RL := S
  obtain ⟨hx, hb, hml, hown, hts⟩ := id S
  have hl : lv_has ls 10 [(0, .ref xa), (1, .ref ya), (2, .ref fa), (3, .int (nI n)), (4, .double x)] := hl
  have hJ := hI.1
  have hlt := s_pc_lt (P := X) (x := x) hJ.1
  refine lv_aload_n hx hb dL_area_0 rfl (lv_at hl 0 rfl) ?_
  refine lv_iload_n hx hb dL_area_1 rfl (lv_at hl 3 rfl) ?_
  refine lv_dload hx hb dL_area_2 (lv_at hl 4 rfl) ?_
  refine my_goR (v := (some (.int (nI (s_pc X n x))))) (my_runS (bytes := cL_piece) (maxL := 5) (ret := (some .int)) (n := 3) (As := [.ref xa, .int (nI n), .double x]) (rest := []) S hl.1 (kk_L_piece l D kd ki kz kl z xa X n x (hJ.2.2.1) (hJ.1) (h20) (fx_B_n hxB (by omega))) rfl ⟨rfl, rfl⟩ gL_area_L_piece (by decide +kernel) rfl ⟨Nat.le_of_ble_eq_true rfl, Nat.le_of_ble_eq_true rfl⟩ (my_preR hC (my_P_sub (wc := [(xa, .inl (kd, 20, .inr (.inr (.inr (.inl X)))))]) hP [0] rfl)) rfl rfl dL_area_4) ?_
  refine W.eq (g2 := F0 m 7 ls [.int (nI (s_pc X n x))]) rfl ?_
  refine lv_istore (lv' := [(6, .int (nI (s_pc X n x))), (0, .ref xa), (1, .ref ya), (2, .ref fa), (3, .int (nI n)), (4, .double x)]) hx hb dL_area_7 hl (by decide) rfl (fun ls hl => ?_)
  refine lv_dconst0 hx hb dL_area_9 ?_
  refine my_topd (w := 0) (by decide) ?_
  refine my_topd (w := s_as X Y F n 0) (rfl) ?_
  refine lv_dstore (lv' := [(7, .double (s_as X Y F n 0)), (6, .int (nI (s_pc X n x))), (0, .ref xa), (1, .ref ya), (2, .ref fa), (3, .int (nI n)), (4, .double x)]) hx hb dL_area_10 hl (by decide) rfl (fun ls hl => ?_)
  refine lv_iconst (v := 0) hx hb dL_area_12 (by decide) ?_
  refine lv_istore (lv' := [(9, .int 0), (7, .double (s_as X Y F n 0)), (6, .int (nI (s_pc X n x))), (0, .ref xa), (1, .ref ya), (2, .ref fa), (3, .int (nI n)), (4, .double x)]) hx hb dL_area_13 hl (by decide) rfl (fun ls hl => ?_)
  have loop_15 : ∀ (n9 : Nat) (k : Nat), s_pc X n x - k < n9 → ∀ (hk : k ≤ s_pc X n x) (ls : Array Slot) (hl : lv_has ls 10 [(9, .int (nI k)), (7, .double (s_as X Y F n k)), (6, .int (nI (s_pc X n x))), (0, .ref xa), (1, .ref ya), (2, .ref fa), (3, .int (nI n)), (4, .double x)]), W p l e ({ frames := 3, cells := 0, slots := 0, locals := 102 }) s m ([.ref xa, .ref ya, .ref fa, .int (nI n), .double x] : List Value).toArray below meth c s.heap [] 0 0 (my_RQ below ([.ref xa, .ref ya, .ref fa, .int (nI n), .double x] : List Value).toArray s (some (.double (s_at2 X Y F n x)))) (F0 m 15 ls []) := by
    intro n9
    induction n9 with
    | zero => intro k h9; exact absurd h9 (Nat.not_lt_zero _)
    | succ n9 ih_15 =>
      intro k h9 hk ls hl
      refine lv_iload hx hb dL_area_15 (lv_at hl 0 rfl) ?_
      refine lv_iload hx hb dL_area_17 (lv_at hl 2 rfl) ?_
      refine lv_icmp_ge (tgt := 54) hx hb dL_area_19 (by decide) (fun c_19 => ?_) (fun c_19 => ?_)
      · have c_19 : s_pc X n x ≤ k := (nI_leI (a := s_pc X n x) (b := k) (by omega) (by omega)).mp c_19
        obtain rfl : k = s_pc X n x := by omega
        refine lv_dload hx hb dL_area_54 (lv_at hl 1 rfl) ?_
        refine lv_aload_n hx hb dL_area_56 rfl (lv_at hl 3 rfl) ?_
        refine lv_aload_n hx hb dL_area_57 rfl (lv_at hl 4 rfl) ?_
        refine lv_aload_n hx hb dL_area_58 rfl (lv_at hl 5 rfl) ?_
        refine lv_iload_n hx hb dL_area_59 rfl (lv_at hl 6 rfl) ?_
        refine lv_iload hx hb dL_area_60 (lv_at hl 2 rfl) ?_
        refine lv_dload hx hb dL_area_62 (lv_at hl 7 rfl) ?_
        refine lv_aload_n hx hb dL_area_64 rfl (lv_at hl 3 rfl) ?_
        refine lv_iload hx hb dL_area_65 (lv_at hl 2 rfl) ?_
        refine my_dald (k := s_pc X n x) (n := 20) (f := X) hx hb hC hP 0 rfl (by omega) (by omega) dL_area_67 ?_
        refine lv_dsub hx hb dL_area_68 (fx_n64 (fx_B_n (PE_x hI hlt hxB) (by omega))) ?_
        refine lv_iconst (v := 2) hx hb dL_area_69 (by decide) ?_
        refine my_goR (v := (some (.double (s_pt (Y (s_pc X n x)) (s_s X Y F n (s_pc X n x)) (s_pk X Y F n (s_pc X n x)) (s_qk X Y F n (s_pc X n x)) (FP.dsub x (X (s_pc X n x))))))) (my_runS (bytes := cL_at) (maxL := 20) (ret := (some .double)) (n := 7) (As := [.ref xa, .ref ya, .ref fa, .int (nI n), .int (nI (s_pc X n x)), .double (FP.dsub x (X (s_pc X n x))), .int 2]) (rest := [.double (s_as X Y F n (s_pc X n x))]) S hl.1 (kk_L_at2 l D kd ki kz kl z xa ya fa X Y F n (s_pc X n x) (FP.dsub x (X (s_pc X n x))) (hI) (by omega) (h20) (PE_x hI hlt hxB)) rfl ⟨rfl, rfl⟩ gL_area_L_at (by decide +kernel) rfl ⟨Nat.le_of_ble_eq_true rfl, Nat.le_of_ble_eq_true rfl⟩ (my_preR hC (my_P_sub (wc := [(xa, .inl (kd, 20, .inr (.inr (.inr (.inl X))))), (ya, .inl (kd, 20, .inr (.inr (.inr (.inl Y))))), (fa, .inl (kd, 20, .inr (.inr (.inr (.inl F)))))]) hP [0, 1, 2] rfl)) rfl rfl dL_area_70) ?_
        refine W.eq (g2 := F0 m 73 ls [.double (s_pt (Y (s_pc X n x)) (s_s X Y F n (s_pc X n x)) (s_pk X Y F n (s_pc X n x)) (s_qk X Y F n (s_pc X n x)) (FP.dsub x (X (s_pc X n x)))), .double (s_as X Y F n (s_pc X n x))]) rfl ?_
        refine lv_dadd hx hb dL_area_73 (fx_n64 (fx_B_n (fx_Ba (M := 1890) (s_as_B hI _ (by omega)) (PE_p (PE_of hI hlt) (PE_x hI hlt hxB)).2.2.2.2.2.2.2.2.2 (by omega) (by omega) (by omega)) (by omega))) ?_
        exact my_dretR hx hb hr hlocks (rfl) dL_area_74
      · have c_19 : ¬ s_pc X n x ≤ k := fun h9 => c_19 ((nI_leI (a := s_pc X n x) (b := k) (by omega) (by omega)).mpr h9)
        refine lv_dload hx hb dL_area_22 (lv_at hl 1 rfl) ?_
        refine lv_aload_n hx hb dL_area_24 rfl (lv_at hl 3 rfl) ?_
        refine lv_aload_n hx hb dL_area_25 rfl (lv_at hl 4 rfl) ?_
        refine lv_aload_n hx hb dL_area_26 rfl (lv_at hl 5 rfl) ?_
        refine lv_iload_n hx hb dL_area_27 rfl (lv_at hl 6 rfl) ?_
        refine lv_iload hx hb dL_area_28 (lv_at hl 0 rfl) ?_
        refine lv_aload_n hx hb dL_area_30 rfl (lv_at hl 3 rfl) ?_
        refine lv_iload hx hb dL_area_31 (lv_at hl 0 rfl) ?_
        refine lv_iconst (v := 1) hx hb dL_area_33 (by decide) ?_
        refine my_iadd (w := nI (k + 1)) hx hb dL_area_34 (nI_add k 1) ?_
        refine my_dald (k := k + 1) (n := 20) (f := X) hx hb hC hP 0 rfl (by omega) (by omega) dL_area_35 ?_
        refine lv_aload_n hx hb dL_area_36 rfl (lv_at hl 3 rfl) ?_
        refine lv_iload hx hb dL_area_37 (lv_at hl 0 rfl) ?_
        refine my_dald (k := k) (n := 20) (f := X) hx hb hC hP 0 rfl (by omega) (by omega) dL_area_39 ?_
        refine lv_dsub hx hb dL_area_40 (fx_n64 ((kJ_w1 hJ (by omega)).2.2.2)) ?_
        refine lv_iconst (v := 2) hx hb dL_area_41 (by decide) ?_
        refine my_goR (v := (some (.double (s_pt (Y k) (s_s X Y F n k) (s_pk X Y F n k) (s_qk X Y F n k) (FP.dsub (X (k + 1)) (X k)))))) (my_runS (bytes := cL_at) (maxL := 20) (ret := (some .double)) (n := 7) (As := [.ref xa, .ref ya, .ref fa, .int (nI n), .int (nI k), .double (FP.dsub (X (k + 1)) (X k)), .int 2]) (rest := [.double (s_as X Y F n k)]) S hl.1 (kk_L_at2 l D kd ki kz kl z xa ya fa X Y F n k (FP.dsub (X (k + 1)) (X k)) (hI) (by omega) (h20) (fx_B_mono (kJ_w1 hJ (k := k) (by omega)).1 (by omega))) rfl ⟨rfl, rfl⟩ gL_area_L_at (by decide +kernel) rfl ⟨Nat.le_of_ble_eq_true rfl, Nat.le_of_ble_eq_true rfl⟩ (my_preR hC (my_P_sub (wc := [(xa, .inl (kd, 20, .inr (.inr (.inr (.inl X))))), (ya, .inl (kd, 20, .inr (.inr (.inr (.inl Y))))), (fa, .inl (kd, 20, .inr (.inr (.inr (.inl F)))))]) hP [0, 1, 2] rfl)) rfl rfl dL_area_42) ?_
        refine W.eq (g2 := F0 m 45 ls [.double (s_pt (Y k) (s_s X Y F n k) (s_pk X Y F n k) (s_qk X Y F n k) (FP.dsub (X (k + 1)) (X k))), .double (s_as X Y F n k)]) rfl ?_
        refine lv_dadd hx hb dL_area_45 (fx_n64 (fx_B_n (s_as_B hI (k + 1) (by omega)) (by omega))) ?_
        refine my_topd (w := s_as X Y F n (k + 1)) (rfl) ?_
        refine lv_dstore (lv' := [(7, .double (s_as X Y F n (k + 1))), (9, .int (nI k)), (6, .int (nI (s_pc X n x))), (0, .ref xa), (1, .ref ya), (2, .ref fa), (3, .int (nI n)), (4, .double x)]) hx hb dL_area_46 hl (by decide) rfl (fun ls hl => ?_)
        refine lv_iinc (v := nI (k + 1)) (k := 1) (lv' := [(9, .int (nI (k + 1))), (7, .double (s_as X Y F n (k + 1))), (6, .int (nI (s_pc X n x))), (0, .ref xa), (1, .ref ya), (2, .ref fa), (3, .int (nI n)), (4, .double x)]) hx hb dL_area_48 hl rfl (nI_add k 1) (by decide) rfl (fun ls hl => ?_)
        refine lv_goto (tgt := 15) hx hb dL_area_51 (by decide) ?_
        exact ih_15 (k + 1) (by omega) (by omega) _ (lv_sub hl [0, 1, 2, 3, 4, 5, 6, 7] rfl)
  exact loop_15 _ 0 (Nat.lt_succ_self _) (by omega) _ (lv_sub hl [0, 1, 2, 3, 4, 5, 6, 7] rfl)

