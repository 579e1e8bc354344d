set_option maxHeartbeats 4000000 in
set_option maxRecDepth 100000 in
theorem kk_X6_isFrom (l : Launch) (D : va_G) (kd ki kz kl : ClassId) (z : Nat) (lo : UInt64) (hi : UInt64) (x : UInt64) : my_RO l D kd ki kz kl z yX6_isFrom wsX6_isFrom ({ frames := 0, cells := 0, slots := 0, locals := 0 }) [.double lo, .double hi, .double x] [] (some (.int (if sp_ge x lo ∧ sp_le x hi then 1 else 0))) := by
  refine my_RO_of (cc := cX6_isFrom) (maxL := 6) (ret := (some .boolean)) (by decide) rfl (Nat.le_of_ble_eq_true rfl) ?_
  intro p e s m below meth c S hr hlocks hC hP ls hl
  have S : CallFix p m c cX6_isFrom 6 s ([.double lo, .double hi, .double x] : List Value).toArray wsX6_isFrom RX6 := S
  obtain ⟨hx, hb, hml, hown, hts⟩ := id S
  have hl : lv_has ls 6 [(0, .double lo), (2, .double hi), (4, .double x)] := hl
  refine lv_dload hx hb dX6_isFrom_0 (lv_at hl 2 rfl) ?_
  refine lv_dload_n hx hb dX6_isFrom_2 rfl (lv_at hl 0 rfl) ?_
  refine lv_dcmp hx hb dX6_isFrom_3 ?_
  refine lv_if_lt (tgt := 18) hx hb dX6_isFrom_4 (by decide) (fun c_4 => ?_) (fun c_4 => ?_)
  · have c_4 := cv_l_lt_t c_4
    refine lv_iconst (v := 0) hx hb dX6_isFrom_18 (by decide) ?_
    exact my_zretR hx hb hr hlocks ((if_neg (fun h9 => c_4 h9.1)).symm) (rfl) dX6_isFrom_19
  · have c_4 := cv_l_lt_f c_4
    refine lv_dload hx hb dX6_isFrom_7 (lv_at hl 2 rfl) ?_
    refine lv_dload_n hx hb dX6_isFrom_9 rfl (lv_at hl 1 rfl) ?_
    refine lv_dcmp hx hb dX6_isFrom_10 ?_
    refine lv_if_gt (tgt := 18) hx hb dX6_isFrom_11 (by decide) (fun c_11 => ?_) (fun c_11 => ?_)
    · have c_11 := cv_g_gt_t c_11
      refine lv_iconst (v := 0) hx hb dX6_isFrom_18 (by decide) ?_
      exact my_zretR hx hb hr hlocks ((if_neg (fun h9 => c_11 h9.2)).symm) (rfl) dX6_isFrom_19
    · have c_11 := cv_g_gt_f c_11
      refine lv_iconst (v := 1) hx hb dX6_isFrom_14 (by decide) ?_
      refine lv_goto (tgt := 19) hx hb dX6_isFrom_15 (by decide) ?_
      exact my_zretR hx hb hr hlocks ((if_pos ⟨c_4, c_11⟩).symm) (rfl) dX6_isFrom_19

set_option maxHeartbeats 4000000 in
set_option maxRecDepth 100000 in
theorem kk_X6_magnitude (l : Launch) (D : va_G) (kd ki kz kl : ClassId) (z : Nat) (x : UInt64) : my_RO l D kd ki kz kl z yX6_magnitude wsX6_magnitude ({ frames := 0, cells := 0, slots := 0, locals := 0 }) [.double x] [] (some (.double (s_mg x))) := by
  refine my_RO_of (cc := cX6_magnitude) (maxL := 2) (ret := (some .double)) (by decide) rfl (Nat.le_of_ble_eq_true rfl) ?_
  intro p e s m below meth c S hr hlocks hC hP ls hl
  have S : CallFix p m c cX6_magnitude 2 s ([.double x] : List Value).toArray wsX6_magnitude RX6 := S
  obtain ⟨hx, hb, hml, hown, hts⟩ := id S
  have hl : lv_has ls 2 [(0, .double x)] := hl
  refine lv_dload_n hx hb dX6_magnitude_0 rfl (lv_at hl 0 rfl) ?_
  refine lv_dconst0 hx hb dX6_magnitude_1 ?_
  refine my_topd (w := 0) (by decide) ?_
  refine lv_dcmp hx hb dX6_magnitude_2 ?_
  refine lv_if_ge (tgt := 11) hx hb dX6_magnitude_3 (by decide) (fun c_3 => ?_) (fun c_3 => ?_)
  · have c_3 := cv_g_ge_t c_3
    refine lv_dload_n hx hb dX6_magnitude_11 rfl (lv_at hl 0 rfl) ?_
    exact my_dretR hx hb hr hlocks ((if_neg c_3).symm) dX6_magnitude_12
  · have c_3 := cv_g_ge_f c_3
    refine lv_dload_n hx hb dX6_magnitude_6 rfl (lv_at hl 0 rfl) ?_
    refine lv_dneg hx hb dX6_magnitude_7 ?_
    refine lv_goto (tgt := 12) hx hb dX6_magnitude_8 (by decide) ?_
    exact my_dretR hx hb hr hlocks ((if_pos c_3).symm) dX6_magnitude_12

set_option maxHeartbeats 4000000 in
set_option maxRecDepth 100000 in
theorem kk_X6_settled (l : Launch) (D : va_G) (kd ki kz kl : ClassId) (z : Nat) (x : UInt64) (hn : fx_n x) : my_RO l D kd ki kz kl z yX6_settled wsX6_settled ({ frames := 1, cells := 0, slots := 0, locals := 21 }) [.double x] [] (some (.double (s_st x))) := by
  refine my_RO_of (cc := cX6_settled) (maxL := 2) (ret := (some .double)) (by decide) rfl (Nat.le_of_ble_eq_true rfl) ?_
  intro p e s m below meth c S hr hlocks hC hP ls hl
  have S : CallFix p m c cX6_settled 2 s ([.double x] : List Value).toArray wsX6_settled RX6 := S
  obtain ⟨hx, hb, hml, hown, hts⟩ := id S
  have hl : lv_has ls 2 [(0, .double x)] := hl
  refine lv_dload_n hx hb dX6_settled_0 rfl (lv_at hl 0 rfl) ?_
  refine my_goR (v := (some (.double (s_mg x)))) (my_runS (bytes := cX6_magnitude) (maxL := 2) (ret := (some .double)) (n := 1) (As := [.double x]) (rest := []) S hl.1 (kk_X6_magnitude l D kd ki kz kl z x) rfl ⟨rfl, rfl⟩ gX6_settled_X6_magnitude (by decide +kernel) rfl ⟨Nat.le_of_ble_eq_true rfl, Nat.le_of_ble_eq_true rfl⟩ (my_preR hC (my_P_sub (wc := []) hP [] rfl)) rfl rfl dX6_settled_1) ?_
  refine W.eq (g2 := F0 m 4 ls [.double (s_mg x)]) rfl ?_
  refine lv_ldc2d hx hb hown (hts (.constantDouble RX6 284 (4517329193108106637)) (List.mem_of_getElem? (l := wsX6_settled) (i := 1) rfl)) dX6_settled_4 ?_
  refine lv_dcmp hx hb dX6_settled_7 ?_
  refine lv_if_ge (tgt := 15) hx hb dX6_settled_8 (by decide) (fun c_8 => ?_) (fun c_8 => ?_)
  · have c_8 := cv_g_ge_t c_8
    refine lv_dload_n hx hb dX6_settled_15 rfl (lv_at hl 0 rfl) ?_
    exact my_dretR hx hb hr hlocks ((if_neg (fun h9 => c_8 ((s_st_mg hn).mpr h9))).symm) dX6_settled_16
  · have c_8 := cv_g_ge_f c_8
    refine lv_dconst0 hx hb dX6_settled_11 ?_
    refine my_topd (w := 0) (by decide) ?_
    refine lv_goto (tgt := 16) hx hb dX6_settled_12 (by decide) ?_
    exact my_dretR hx hb hr hlocks ((if_pos ((s_st_mg hn).mp c_8)).symm) dX6_settled_16

set_option maxHeartbeats 4000000 in
set_option maxRecDepth 100000 in
theorem kk_X6_ratio (l : Launch) (D : va_G) (kd ki kz kl : ClassId) (z : Nat) (a : UInt64) (b : UInt64) (hz : ¬ sp_eq b 0) (hn : fx_n (FP.ddiv a b)) : my_RO l D kd ki kz kl z yX6_ratio wsX6_ratio ({ frames := 0, cells := 0, slots := 0, locals := 0 }) [.double a, .double b] [] (some (.double (FP.ddiv a b))) := by
  refine my_RO_of (cc := cX6_ratio) (maxL := 4) (ret := (some .double)) (by decide) rfl (Nat.le_of_ble_eq_true rfl) ?_
  intro p e s m below meth c S hr hlocks hC hP ls hl
  have S : CallFix p m c cX6_ratio 4 s ([.double a, .double b] : List Value).toArray wsX6_ratio RX6 := S
  obtain ⟨hx, hb, hml, hown, hts⟩ := id S
  have hl : lv_has ls 4 [(0, .double a), (2, .double b)] := hl
  refine lv_dload_n hx hb dX6_ratio_0 rfl (lv_at hl 1 rfl) ?_
  refine lv_dconst0 hx hb dX6_ratio_1 ?_
  refine my_topd (w := 0) (by decide) ?_
  refine lv_dcmp hx hb dX6_ratio_2 ?_
  refine lv_if_ne (tgt := 10) hx hb dX6_ratio_3 (by decide) (fun c_3 => ?_) (fun c_3 => ?_)
  · have c_3 := cv_l_eq_f c_3
    refine lv_dload_n hx hb dX6_ratio_10 rfl (lv_at hl 0 rfl) ?_
    refine lv_dload_n hx hb dX6_ratio_11 rfl (lv_at hl 1 rfl) ?_
    refine lv_ddiv hx hb dX6_ratio_12 (fx_n64 (hn)) ?_
    exact my_dretR hx hb hr hlocks (rfl) dX6_ratio_13
  · have c_3 := cv_l_eq_t c_3
    exact absurd c_3 hz

set_option maxHeartbeats 4000000 in
set_option maxRecDepth 100000 in
theorem kk_X6_within (l : Launch) (D : va_G) (kd ki kz kl : ClassId) (z : Nat) (lo : UInt64) (hi : UInt64) (x : UInt64) : my_RO l D kd ki kz kl z yX6_within wsX6_within ({ frames := 0, cells := 0, slots := 0, locals := 0 }) [.double lo, .double hi, .double x] [] (some (.double (s_within lo hi x))) := by
  refine my_RO_of (cc := cX6_within) (maxL := 6) (ret := (some .double)) (by decide) rfl (Nat.le_of_ble_eq_true rfl) ?_
  intro p e s m below meth c S hr hlocks hC hP ls hl
  have S : CallFix p m c cX6_within 6 s ([.double lo, .double hi, .double x] : List Value).toArray wsX6_within RX6 := S
  obtain ⟨hx, hb, hml, hown, hts⟩ := id S
  have hl : lv_has ls 6 [(0, .double lo), (2, .double hi), (4, .double x)] := hl
  refine lv_dload hx hb dX6_within_0 (lv_at hl 2 rfl) ?_
  refine lv_dload_n hx hb dX6_within_2 rfl (lv_at hl 0 rfl) ?_
  refine lv_dcmp hx hb dX6_within_3 ?_
  refine lv_if_ge (tgt := 9) hx hb dX6_within_4 (by decide) (fun c_4 => ?_) (fun c_4 => ?_)
  · have c_4 := cv_g_ge_t c_4
    refine lv_dload hx hb dX6_within_9 (lv_at hl 2 rfl) ?_
    refine lv_dload_n hx hb dX6_within_11 rfl (lv_at hl 1 rfl) ?_
    refine lv_dcmp hx hb dX6_within_12 ?_
    refine lv_if_le (tgt := 20) hx hb dX6_within_13 (by decide) (fun c_13 => ?_) (fun c_13 => ?_)
    · have c_13 := cv_l_le_t c_13
      refine lv_dload hx hb dX6_within_20 (lv_at hl 2 rfl) ?_
      exact my_dretR hx hb hr hlocks (((if_neg c_4).trans (if_neg c_13)).symm) dX6_within_22
    · have c_13 := cv_l_le_f c_13
      refine lv_dload_n hx hb dX6_within_16 rfl (lv_at hl 1 rfl) ?_
      refine lv_goto (tgt := 22) hx hb dX6_within_17 (by decide) ?_
      exact my_dretR hx hb hr hlocks (((if_neg c_4).trans (if_pos c_13)).symm) dX6_within_22
  · have c_4 := cv_g_ge_f c_4
    refine lv_dload_n hx hb dX6_within_7 rfl (lv_at hl 0 rfl) ?_
    exact my_dretR hx hb hr hlocks ((if_pos c_4).symm) dX6_within_8

theorem iw_X4_get_X4 : ∀ w ∈ wsX40, w ∈ wsX4_get := fun w h => List.mem_cons_of_mem _ (List.mem_append_right _ (h))
set_option maxHeartbeats 4000000 in
set_option maxRecDepth 100000 in
theorem kk_X4_get (l : Launch) (D : va_G) (kd ki kz kl : ClassId) (z : Nat) (r : Nat) (a : Nat) (N : Nat) (f : Nat → UInt64) (k : Nat) (hk : k < N) (hN : N < 2 ^ 31) : my_RO l D kd ki kz kl z yX4_get wsX4_get ({ frames := 0, cells := 0, slots := 0, locals := 0 }) [.ref r, .int (nI k)] [(r, .inr (4, [.ref a])), (a, .inl (kd, N, .inr (.inr (.inr (.inl f)))))] (some (.double (f k))) := by
  refine my_RO_of (cc := cX4_get) (maxL := 2) (ret := (some .double)) (by decide) rfl (Nat.le_of_ble_eq_true rfl) ?_
  intro p e s m below meth c S hr hlocks hC hP ls hl
  have S : CallFix p m c cX4_get 2 s ([.ref r, .int (nI k)] : List Value).toArray wsX4_get RX4 := S
  obtain ⟨hx, hb, hml, hown, hts⟩ := id S
  have hl : lv_has ls 2 [(0, .ref r), (1, .int (nI k))] := hl
  refine lv_iload_n hx hb dX4_get_0 rfl (lv_at hl 1 rfl) ?_
  refine lv_if_lt (tgt := 22) hx hb dX4_get_1 (by decide) (fun c_1 => ?_) (fun c_1 => ?_)
  · have c_1 : k < 0 := (nI_ltI (a := k) (b := 0) (by omega) (by omega)).mp c_1
    exact absurd c_1 (Nat.not_lt_zero _)
  · have c_1 : ¬ k < 0 := fun h9 => c_1 ((nI_ltI (a := k) (b := 0) (by omega) (by omega)).mpr h9)
    refine lv_iload_n hx hb dX4_get_4 rfl (lv_at hl 1 rfl) ?_
    refine lv_aload_n hx hb dX4_get_5 rfl (lv_at hl 0 rfl) ?_
    refine va_get (D := D) (ci := 4) (v := .ref a) (C := RX4) (T := TX4) (N := 1) hx hb hts iw_X4_get_X4 hown hC.1 hP 0 rfl rfl 0 (by decide) (hts (.fieldLink RX4 7 "MonotoneSpline$Row" "cells" "[D") (List.mem_of_getElem? (l := wsX4_get) (i := 1) rfl)) (fun _ h9 => h9) rfl dX4_get_6 ?_
    refine va_alen (v := nI N) hx hb hC.1 hP 1 0 rfl rfl rfl dX4_get_9 ?_
    refine lv_icmp_ge (tgt := 22) hx hb dX4_get_10 (by decide) (fun c_10 => ?_) (fun c_10 => ?_)
    · have c_10 : N ≤ k := (nI_leI (a := N) (b := k) (by omega) (by omega)).mp c_10
      exact absurd hk (by omega)
    · have c_10 : ¬ N ≤ k := fun h9 => c_10 ((nI_leI (a := N) (b := k) (by omega) (by omega)).mpr h9)
      refine lv_aload_n hx hb dX4_get_13 rfl (lv_at hl 0 rfl) ?_
      refine va_get (D := D) (ci := 4) (v := .ref a) (C := RX4) (T := TX4) (N := 1) hx hb hts iw_X4_get_X4 hown hC.1 hP 0 rfl rfl 0 (by decide) (hts (.fieldLink RX4 7 "MonotoneSpline$Row" "cells" "[D") (List.mem_of_getElem? (l := wsX4_get) (i := 1) rfl)) (fun _ h9 => h9) rfl dX4_get_14 ?_
      refine lv_iload_n hx hb dX4_get_17 rfl (lv_at hl 1 rfl) ?_
      refine my_dald (k := k) (n := N) (f := f) hx hb hC hP 1 rfl (by omega) (by omega) dX4_get_18 ?_
      refine lv_goto (tgt := 23) hx hb dX4_get_19 (by decide) ?_
      exact my_dretR hx hb hr hlocks (rfl) dX4_get_23

theorem iw_X4_set_X4 : ∀ w ∈ wsX40, w ∈ wsX4_set := fun w h => List.mem_cons_of_mem _ (List.mem_append_right _ (h))
set_option maxHeartbeats 4000000 in
set_option maxRecDepth 100000 in
theorem kk_X4_set (l : Launch) (D : va_G) (kd ki kz kl : ClassId) (z : Nat) (r : Nat) (a : Nat) (N : Nat) (f : Nat → UInt64) (k : Nat) (x : UInt64) (hk : k < N) (hN : N < 2 ^ 31) : my_WR l D kd ki kz kl z yX4_set wsX4_set ({ frames := 0, cells := 0, slots := 0, locals := 0 }) [.ref r, .int (nI k), .double x] [(r, .inr (4, [.ref a])), (a, .inl (kd, N, .inr (.inr (.inr (.inl f)))))] [(r, .inr (4, [.ref a])), (a, .inl (kd, N, .inr (.inr (.inr (.inl (vf_upd f k x))))))] none := by
  refine my_WR_of (cc := cX4_set) (maxL := 4) (ret := none) (by decide) rfl (Nat.le_of_ble_eq_true rfl) ?_
  intro p e s m below meth c S hr hlocks hC hP hD hz hS ls hl
  have S : CallFix p m c cX4_set 4 s ([.ref r, .int (nI k), .double x] : List Value).toArray wsX4_set RX4 := S
  obtain ⟨hx, hb, hml, hown, hts⟩ := id S
  have hl : lv_has ls 4 [(0, .ref r), (1, .int (nI k)), (2, .double x)] := hl
  suffices K0 : ∀ (H : Heap) (locs : List Loc), va_P D vwCl [(r, .inr (4, [.ref a])), (a, .inl (kd, N, .inr (.inr (.inr (.inl f)))))] H → va_D (my_A [(r, .inr (4, [.ref a])), (a, .inl (kd, N, .inr (.inr (.inr (.inl f)))))]) [(r, .inr (4, [.ref a])), (a, .inl (kd, N, .inr (.inr (.inr (.inl f)))))] → va_S (my_A [(r, .inr (4, [.ref a])), (a, .inl (kd, N, .inr (.inr (.inr (.inl f)))))]) s.heap H locs → W p l e ({ frames := 0, cells := 0, slots := 0, locals := 0 }) s m ([.ref r, .int (nI k), .double x] : List Value).toArray below meth c H locs 0 0 (my_WQ below D ([.ref r, .int (nI k), .double x] : List Value).toArray s [(r, .inr (4, [.ref a])), (a, .inl (kd, N, .inr (.inr (.inr (.inl f)))))] [(r, .inr (4, [.ref a])), (a, .inl (kd, N, .inr (.inr (.inr (.inl (vf_upd f k x))))))] none) (F0 m 0 ls []) from K0 _ _ hP hD hS
  intro H locs hP hD hS
  refine lv_iload_n hx hb dX4_set_0 rfl (lv_at hl 1 rfl) ?_
  refine lv_if_lt (tgt := 20) hx hb dX4_set_1 (by decide) (fun c_1 => ?_) (fun c_1 => ?_)
  · have c_1 : k < 0 := (nI_ltI (a := k) (b := 0) (by omega) (by omega)).mp c_1
    exact absurd c_1 (Nat.not_lt_zero _)
  · have c_1 : ¬ k < 0 := fun h9 => c_1 ((nI_ltI (a := k) (b := 0) (by omega) (by omega)).mpr h9)
    refine lv_iload_n hx hb dX4_set_4 rfl (lv_at hl 1 rfl) ?_
    refine lv_aload_n hx hb dX4_set_5 rfl (lv_at hl 0 rfl) ?_
    refine va_get (D := D) (ci := 4) (v := .ref a) (C := RX4) (T := TX4) (N := 1) hx hb hts iw_X4_set_X4 hown hC.1 hP 0 rfl rfl 0 (by decide) (hts (.fieldLink RX4 7 "MonotoneSpline$Row" "cells" "[D") (List.mem_of_getElem? (l := wsX4_set) (i := 1) rfl)) (fun _ h9 => h9) rfl dX4_set_6 ?_
    refine va_alen (v := nI N) hx hb hC.1 hP 1 0 rfl rfl rfl dX4_set_9 ?_
    refine lv_icmp_ge (tgt := 20) hx hb dX4_set_10 (by decide) (fun c_10 => ?_) (fun c_10 => ?_)
    · have c_10 : N ≤ k := (nI_leI (a := N) (b := k) (by omega) (by omega)).mp c_10
      exact absurd hk (by omega)
    · have c_10 : ¬ N ≤ k := fun h9 => c_10 ((nI_leI (a := N) (b := k) (by omega) (by omega)).mpr h9)
      refine lv_aload_n hx hb dX4_set_13 rfl (lv_at hl 0 rfl) ?_
      refine va_get (D := D) (ci := 4) (v := .ref a) (C := RX4) (T := TX4) (N := 1) hx hb hts iw_X4_set_X4 hown hC.1 hP 0 rfl rfl 0 (by decide) (hts (.fieldLink RX4 7 "MonotoneSpline$Row" "cells" "[D") (List.mem_of_getElem? (l := wsX4_set) (i := 1) rfl)) (fun _ h9 => h9) rfl dX4_set_14 ?_
      refine lv_iload_n hx hb dX4_set_17 rfl (lv_at hl 1 rfl) ?_
      refine lv_dload_n hx hb dX4_set_18 rfl (lv_at hl 2 rfl) ?_
      refine my_dast (k := k) (n := N) (f := f) (wx' := [(r, .inr (4, [.ref a])), (a, .inl (kd, N, .inr (.inr (.inr (.inl (vf_upd f k x))))))]) hx hb hC hP hD hS 1 rfl (by omega) (by omega) rfl dX4_set_19 (fun H locs hP hD hS => ?_)
      exact my_vretW hx hb hr hlocks hP (rfl) hS dX4_set_20

theorem iw_X1_widthOf_X1 : ∀ w ∈ wsX10, w ∈ wsX1_widthOf := fun w h => List.mem_cons_of_mem _ (List.mem_append_left _ (List.mem_append_right _ (h)))
set_option maxHeartbeats 4000000 in
set_option maxRecDepth 100000 in
theorem kk_X1_widthOf (l : Launch) (D : va_G) (kd ki kz kl : ClassId) (z : Nat) (ad : Nat → Nat) (kn : Nat) (P : Nat → UInt64) (k : Nat) (hk : k + 1 < 60) (h1 : fx_n (s_w P k)) : my_RO l D kd ki kz kl z yX1_widthOf wsX1_widthOf ({ frames := 1, cells := 0, slots := 0, locals := 21 }) [.ref (ad 14), .int (nI k)] [(ad 14, .inr (1, [.ref (ad 15), .ref (ad 17), .ref (ad 19), .int (nI kn)])), (ad 15, .inr (4, [.ref (ad 16)])), (ad 16, .inl (kd, 60, .inr (.inr (.inr (.inl P)))))] (some (.double (s_w P k))) := by
  refine my_RO_of (cc := cX1_widthOf) (maxL := 2) (ret := (some .double)) (by decide) rfl (Nat.le_of_ble_eq_true rfl) ?_
  intro p e s m below meth c S hr hlocks hC hP ls hl
  have S : CallFix p m c cX1_widthOf 2 s ([.ref (ad 14), .int (nI k)] : List Value).toArray wsX1_widthOf RX1 := S
  obtain ⟨hx, hb, hml, hown, hts⟩ := id S
  have hl : lv_has ls 2 [(0, .ref (ad 14)), (1, .int (nI k))] := hl
  refine lv_aload_n hx hb dX1_widthOf_0 rfl (lv_at hl 0 rfl) ?_
  refine va_get (D := D) (ci := 1) (v := .ref (ad 15)) (C := RX1) (T := TX1) (N := 4) hx hb hts iw_X1_widthOf_X1 hown hC.1 hP 0 rfl rfl 0 (by decide) (hts (.fieldLink RX1 14 "MonotoneSpline$Knots" "places" "LMonotoneSpline$Row;") (List.mem_of_getElem? (l := wsX1_widthOf) (i := 1) rfl)) (fun _ h9 => h9) rfl dX1_widthOf_1 ?_
  refine lv_iload_n hx hb dX1_widthOf_4 rfl (lv_at hl 1 rfl) ?_
  refine lv_iconst (v := 1) hx hb dX1_widthOf_5 (by decide) ?_
  refine my_iadd (w := nI (k + 1)) hx hb dX1_widthOf_6 (nI_add k 1) ?_
  refine my_goR (v := (some (.double (P (k + 1))))) (my_runV (bytes := cX4_get) (maxL := 2) (ret := (some .double)) (n := 1) (As := [.int (nI (k + 1))]) (rest := []) S hl.1 (kk_X4_get l D kd ki kz kl z (ad 15) (ad 16) 60 P (k + 1) (by omega) (by omega)) rfl ⟨rfl, rfl⟩ gX1_widthOf_X4_get (by decide +kernel) rfl ⟨Nat.le_of_ble_eq_true rfl, Nat.le_of_ble_eq_true rfl⟩ (my_preR hC (my_P_sub (wc := [(ad 15, .inr (4, [.ref (ad 16)])), (ad 16, .inl (kd, 60, .inr (.inr (.inr (.inl P)))))]) hP [1, 2] rfl)) (va_recv hC.1 hP (ci := 4) (q0 := 1) rfl rfl) rfl rfl dX1_widthOf_7) ?_
  refine W.eq (g2 := F0 m 10 ls [.double (P (k + 1))]) rfl ?_
  refine lv_aload_n hx hb dX1_widthOf_10 rfl (lv_at hl 0 rfl) ?_
  refine va_get (D := D) (ci := 1) (v := .ref (ad 15)) (C := RX1) (T := TX1) (N := 4) hx hb hts iw_X1_widthOf_X1 hown hC.1 hP 0 rfl rfl 0 (by decide) (hts (.fieldLink RX1 14 "MonotoneSpline$Knots" "places" "LMonotoneSpline$Row;") (List.mem_of_getElem? (l := wsX1_widthOf) (i := 1) rfl)) (fun _ h9 => h9) rfl dX1_widthOf_11 ?_
  refine lv_iload_n hx hb dX1_widthOf_14 rfl (lv_at hl 1 rfl) ?_
  refine my_goR (v := (some (.double (P k)))) (my_runV (bytes := cX4_get) (maxL := 2) (ret := (some .double)) (n := 1) (As := [.int (nI k)]) (rest := [.double (P (k + 1))]) S hl.1 (kk_X4_get l D kd ki kz kl z (ad 15) (ad 16) 60 P k (by omega) (by omega)) rfl ⟨rfl, rfl⟩ gX1_widthOf_X4_get (by decide +kernel) rfl ⟨Nat.le_of_ble_eq_true rfl, Nat.le_of_ble_eq_true rfl⟩ (my_preR hC (my_P_sub (wc := [(ad 15, .inr (4, [.ref (ad 16)])), (ad 16, .inl (kd, 60, .inr (.inr (.inr (.inl P)))))]) hP [1, 2] rfl)) (va_recv hC.1 hP (ci := 4) (q0 := 1) rfl rfl) rfl rfl dX1_widthOf_15) ?_
  refine W.eq (g2 := F0 m 18 ls [.double (P k), .double (P (k + 1))]) rfl ?_
  refine lv_dsub hx hb dX1_widthOf_18 (fx_n64 (h1)) ?_
  exact my_dretR hx hb hr hlocks (rfl) dX1_widthOf_19

theorem iw_X1_riseOf_X1 : ∀ w ∈ wsX10, w ∈ wsX1_riseOf := fun w h => List.mem_cons_of_mem _ (List.mem_append_left _ (List.mem_append_right _ (h)))
set_option maxHeartbeats 4000000 in
set_option maxRecDepth 100000 in
theorem kk_X1_riseOf (l : Launch) (D : va_G) (kd ki kz kl : ClassId) (z : Nat) (ad : Nat → Nat) (kn : Nat) (P : Nat → UInt64) (V : Nat → UInt64) (k : Nat) (hk : k + 1 < kn) (hJ : KJ kn P V) : my_RO l D kd ki kz kl z yX1_riseOf wsX1_riseOf ({ frames := 2, cells := 0, slots := 0, locals := 42 }) [.ref (ad 14), .int (nI k)] [(ad 14, .inr (1, [.ref (ad 15), .ref (ad 17), .ref (ad 19), .int (nI kn)])), (ad 15, .inr (4, [.ref (ad 16)])), (ad 16, .inl (kd, 60, .inr (.inr (.inr (.inl P))))), (ad 17, .inr (4, [.ref (ad 18)])), (ad 18, .inl (kd, 60, .inr (.inr (.inr (.inl V)))))] (some (.double (s_r P V k))) := by
  refine my_RO_of (cc := cX1_riseOf) (maxL := 2) (ret := (some .double)) (by decide) rfl (Nat.le_of_ble_eq_true rfl) ?_
  intro p e s m below meth c S hr hlocks hC hP ls hl
  have S : CallFix p m c cX1_riseOf 2 s ([.ref (ad 14), .int (nI k)] : List Value).toArray wsX1_riseOf RX1 := S
  obtain ⟨hx, hb, hml, hown, hts⟩ := id S
  have hl : lv_has ls 2 [(0, .ref (ad 14)), (1, .int (nI k))] := hl
  have hkn := hJ.2.1
  refine lv_aload_n hx hb dX1_riseOf_0 rfl (lv_at hl 0 rfl) ?_
  refine va_get (D := D) (ci := 1) (v := .ref (ad 17)) (C := RX1) (T := TX1) (N := 4) hx hb hts iw_X1_riseOf_X1 hown hC.1 hP 0 rfl rfl 1 (by decide) (hts (.fieldLink RX1 20 "MonotoneSpline$Knots" "heights" "LMonotoneSpline$Row;") (List.mem_of_getElem? (l := wsX1_riseOf) (i := 1) rfl)) (fun _ h9 => h9) rfl dX1_riseOf_1 ?_
  refine lv_iload_n hx hb dX1_riseOf_4 rfl (lv_at hl 1 rfl) ?_
  refine lv_iconst (v := 1) hx hb dX1_riseOf_5 (by decide) ?_
  refine my_iadd (w := nI (k + 1)) hx hb dX1_riseOf_6 (nI_add k 1) ?_
  refine my_goR (v := (some (.double (V (k + 1))))) (my_runV (bytes := cX4_get) (maxL := 2) (ret := (some .double)) (n := 1) (As := [.int (nI (k + 1))]) (rest := []) S hl.1 (kk_X4_get l D kd ki kz kl z (ad 17) (ad 18) 60 V (k + 1) (by omega) (by omega)) rfl ⟨rfl, rfl⟩ gX1_riseOf_X4_get (by decide +kernel) rfl ⟨Nat.le_of_ble_eq_true rfl, Nat.le_of_ble_eq_true rfl⟩ (my_preR hC (my_P_sub (wc := [(ad 17, .inr (4, [.ref (ad 18)])), (ad 18, .inl (kd, 60, .inr (.inr (.inr (.inl V)))))]) hP [3, 4] rfl)) (va_recv hC.1 hP (ci := 4) (q0 := 3) rfl rfl) rfl rfl dX1_riseOf_7) ?_
  refine W.eq (g2 := F0 m 10 ls [.double (V (k + 1))]) rfl ?_
  refine lv_aload_n hx hb dX1_riseOf_10 rfl (lv_at hl 0 rfl) ?_
  refine va_get (D := D) (ci := 1) (v := .ref (ad 17)) (C := RX1) (T := TX1) (N := 4) hx hb hts iw_X1_riseOf_X1 hown hC.1 hP 0 rfl rfl 1 (by decide) (hts (.fieldLink RX1 20 "MonotoneSpline$Knots" "heights" "LMonotoneSpline$Row;") (List.mem_of_getElem? (l := wsX1_riseOf) (i := 1) rfl)) (fun _ h9 => h9) rfl dX1_riseOf_11 ?_
  refine lv_iload_n hx hb dX1_riseOf_14 rfl (lv_at hl 1 rfl) ?_
  refine my_goR (v := (some (.double (V k)))) (my_runV (bytes := cX4_get) (maxL := 2) (ret := (some .double)) (n := 1) (As := [.int (nI k)]) (rest := [.double (V (k + 1))]) S hl.1 (kk_X4_get l D kd ki kz kl z (ad 17) (ad 18) 60 V k (by omega) (by omega)) rfl ⟨rfl, rfl⟩ gX1_riseOf_X4_get (by decide +kernel) rfl ⟨Nat.le_of_ble_eq_true rfl, Nat.le_of_ble_eq_true rfl⟩ (my_preR hC (my_P_sub (wc := [(ad 17, .inr (4, [.ref (ad 18)])), (ad 18, .inl (kd, 60, .inr (.inr (.inr (.inl V)))))]) hP [3, 4] rfl)) (va_recv hC.1 hP (ci := 4) (q0 := 3) rfl rfl) rfl rfl dX1_riseOf_15) ?_
  refine W.eq (g2 := F0 m 18 ls [.double (V k), .double (V (k + 1))]) rfl ?_
  refine lv_dsub hx hb dX1_riseOf_18 (fx_n64 ((kJ_dv hJ hk).2.2)) ?_
  refine lv_aload_n hx hb dX1_riseOf_19 rfl (lv_at hl 0 rfl) ?_
  refine lv_iload_n hx hb dX1_riseOf_20 rfl (lv_at hl 1 rfl) ?_
  refine my_goR (v := (some (.double (s_w P k)))) (my_runV (bytes := cX1_widthOf) (maxL := 2) (ret := (some .double)) (n := 1) (As := [.int (nI k)]) (rest := [.double (FP.dsub (V (k + 1)) (V k))]) S hl.1 (kk_X1_widthOf l D kd ki kz kl z ad kn P k (by omega) ((kJ_w1 hJ hk).2.2.2)) rfl ⟨rfl, rfl⟩ gX1_riseOf_X1_widthOf (by decide +kernel) rfl ⟨Nat.le_of_ble_eq_true rfl, Nat.le_of_ble_eq_true rfl⟩ (my_preR hC (my_P_sub (wc := [(ad 14, .inr (1, [.ref (ad 15), .ref (ad 17), .ref (ad 19), .int (nI kn)])), (ad 15, .inr (4, [.ref (ad 16)])), (ad 16, .inl (kd, 60, .inr (.inr (.inr (.inl P)))))]) hP [0, 1, 2] rfl)) (va_recv hC.1 hP (ci := 1) (q0 := 0) rfl rfl) rfl rfl dX1_riseOf_21) ?_
  refine W.eq (g2 := F0 m 24 ls [.double (s_w P k), .double (FP.dsub (V (k + 1)) (V k))]) rfl ?_
  refine my_goR (v := (some (.double (FP.ddiv (FP.dsub (V (k + 1)) (V k)) (s_w P k))))) (my_runSN (bytes := cX6_ratio) (maxL := 4) (ret := (some .double)) (n := 2) (As := [.double (FP.dsub (V (k + 1)) (V k)), .double (s_w P k)]) (rest := []) S hl.1 (kk_X6_ratio l D kd ki kz kl z (FP.dsub (V (k + 1)) (V k)) (s_w P k) (kJ_wz hJ hk) ((kJ_r hJ hk).2.2)) rfl ⟨rfl, rfl⟩ gX1_riseOf_X6_ratio_n49 (hC.2.1 _ (List.mem_of_getElem? (l := my_nest) (i := 14) rfl)) (List.mem_of_getElem? (l := wsX1_riseOf) (i := 15) rfl) (List.mem_of_getElem? (l := wsX1_riseOf) (i := 14) rfl) (by decide +kernel) rfl ⟨Nat.le_of_ble_eq_true rfl, Nat.le_of_ble_eq_true rfl⟩ (my_preR hC (my_P_sub (wc := []) hP [] rfl)) rfl rfl dX1_riseOf_24) ?_
  refine W.eq (g2 := F0 m 27 ls [.double (FP.ddiv (FP.dsub (V (k + 1)) (V k)) (s_w P k))]) rfl ?_
  exact my_dretR hx hb hr hlocks (rfl) dX1_riseOf_27

