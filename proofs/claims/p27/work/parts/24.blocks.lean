theorem iw_X0_clear_X0 : ∀ w ∈ wsX00, w ∈ wsX0_clear := fun w h => List.mem_cons_of_mem _ (List.mem_append_right _ (h))
set_option maxHeartbeats 4000000 in
set_option maxRecDepth 100000 in
theorem kk_X0_clear (l : Launch) (D : va_G) (kd ki kz kl : ClassId) (z : Nat) (ad : Nat → Nat) (bc : Nat) : my_WR l D kd ki kz kl z yX0_clear wsX0_clear ({ frames := 0, cells := 0, slots := 0, locals := 0 }) [.ref (ad 8)] [(ad 8, .inr (0, [.ref (ad 9), .ref (ad 11), .ref (ad 13), .int (nI bc)]))] [(ad 8, .inr (0, [.ref (ad 9), .ref (ad 11), .ref (ad 13), .int (nI 0)]))] none := by
  refine my_WR_of (cc := cX0_clear) (maxL := 1) (ret := none) (by decide) rfl (Nat.le_of_ble_eq_true rfl) ?_
  intro p e s m below meth c S hr hlocks hC hP hD hz hS ls hl
  have S : CallFix p m c cX0_clear 1 s ([.ref (ad 8)] : List Value).toArray wsX0_clear RX0 := S
  obtain ⟨hx, hb, hml, hown, hts⟩ := id S
  have hl : lv_has ls 1 [(0, .ref (ad 8))] := hl
  suffices K0 : ∀ (H : Heap) (locs : List Loc), va_P D vwCl [(ad 8, .inr (0, [.ref (ad 9), .ref (ad 11), .ref (ad 13), .int (nI bc)]))] H → va_D (my_A [(ad 8, .inr (0, [.ref (ad 9), .ref (ad 11), .ref (ad 13), .int (nI bc)]))]) [(ad 8, .inr (0, [.ref (ad 9), .ref (ad 11), .ref (ad 13), .int (nI bc)]))] → va_S (my_A [(ad 8, .inr (0, [.ref (ad 9), .ref (ad 11), .ref (ad 13), .int (nI bc)]))]) s.heap H locs → W p l e ({ frames := 0, cells := 0, slots := 0, locals := 0 }) s m ([.ref (ad 8)] : List Value).toArray below meth c H locs 0 0 (my_WQ below D ([.ref (ad 8)] : List Value).toArray s [(ad 8, .inr (0, [.ref (ad 9), .ref (ad 11), .ref (ad 13), .int (nI bc)]))] [(ad 8, .inr (0, [.ref (ad 9), .ref (ad 11), .ref (ad 13), .int (nI 0)]))] none) (F0 m 0 ls []) from K0 _ _ hP hD hS
  intro H locs hP hD hS
  refine lv_aload_n hx hb dX0_clear_0 rfl (lv_at hl 0 rfl) ?_
  refine lv_iconst (v := 0) hx hb dX0_clear_1 (by decide) ?_
  refine va_put (D := D) (ci := 0) (v := .int 0) (ty := .int) (C := RX0) (T := TX0) (N := 4) hx hb hts iw_X0_clear_X0 tyX0 tyX0_ok nmX0 hown hC.1 hP hD hS 0 rfl rfl 3 (by decide) (hts (.fieldLink RX0 27 "MonotoneSpline$Blocks" "count" "I") (List.mem_of_getElem? (l := wsX0_clear) (i := 1) rfl)) (fun _ h9 => h9) rfl (by decide +kernel) rfl rfl (Nat.le_of_ble_eq_true rfl) dX0_clear_2 (fun H locs hP hD hS => ?_)
  have hP : va_P D vwCl [(ad 8, .inr (0, [.ref (ad 9), .ref (ad 11), .ref (ad 13), .int 0]))] H := hP
  have hD : va_D (my_A [(ad 8, .inr (0, [.ref (ad 9), .ref (ad 11), .ref (ad 13), .int (nI bc)]))]) [(ad 8, .inr (0, [.ref (ad 9), .ref (ad 11), .ref (ad 13), .int 0]))] := hD
  exact my_vretW hx hb hr hlocks hP (rfl) hS dX0_clear_5

theorem iw_X0_levelOf_X0 : ∀ w ∈ wsX00, w ∈ wsX0_levelOf := fun w h => List.mem_cons_of_mem _ (List.mem_append_left _ (List.mem_append_right _ (h)))
set_option maxHeartbeats 4000000 in
set_option maxRecDepth 100000 in
theorem kk_X0_levelOf (l : Launch) (D : va_G) (kd ki kz kl : ClassId) (z : Nat) (ad : Nat → Nat) (bc : Nat) (BW : Nat → UInt64) (BS : Nat → UInt64) (k : Nat) (hk : k < 40) (hzw : ¬ sp_eq (BW k) 0) (hn : fx_n (s_lev BW BS k)) : my_RO l D kd ki kz kl z yX0_levelOf wsX0_levelOf ({ frames := 1, cells := 0, slots := 0, locals := 23 }) [.ref (ad 8), .int (nI k)] [(ad 8, .inr (0, [.ref (ad 9), .ref (ad 11), .ref (ad 13), .int (nI bc)])), (ad 9, .inr (4, [.ref (ad 10)])), (ad 10, .inl (kd, 40, .inr (.inr (.inr (.inl BW))))), (ad 11, .inr (4, [.ref (ad 12)])), (ad 12, .inl (kd, 40, .inr (.inr (.inr (.inl BS)))))] (some (.double (s_lev BW BS k))) := by
  refine my_RO_of (cc := cX0_levelOf) (maxL := 2) (ret := (some .double)) (by decide) rfl (Nat.le_of_ble_eq_true rfl) ?_
  intro p e s m below meth c S hr hlocks hC hP ls hl
  have S : CallFix p m c cX0_levelOf 2 s ([.ref (ad 8), .int (nI k)] : List Value).toArray wsX0_levelOf RX0 := S
  obtain ⟨hx, hb, hml, hown, hts⟩ := id S
  have hl : lv_has ls 2 [(0, .ref (ad 8)), (1, .int (nI k))] := hl
  refine lv_aload_n hx hb dX0_levelOf_0 rfl (lv_at hl 0 rfl) ?_
  refine va_get (D := D) (ci := 0) (v := .ref (ad 11)) (C := RX0) (T := TX0) (N := 4) hx hb hts iw_X0_levelOf_X0 hown hC.1 hP 0 rfl rfl 1 (by decide) (hts (.fieldLink RX0 20 "MonotoneSpline$Blocks" "products" "LMonotoneSpline$Row;") (List.mem_of_getElem? (l := wsX0_levelOf) (i := 1) rfl)) (fun _ h9 => h9) rfl dX0_levelOf_1 ?_
  refine lv_iload_n hx hb dX0_levelOf_4 rfl (lv_at hl 1 rfl) ?_
  refine my_goR (v := (some (.double (BS k)))) (my_runV (bytes := cX4_get) (maxL := 2) (ret := (some .double)) (n := 1) (As := [.int (nI k)]) (rest := []) S hl.1 (kk_X4_get l D kd ki kz kl z (ad 11) (ad 12) 40 BS k (by omega) (by omega)) rfl ⟨rfl, rfl⟩ gX0_levelOf_X4_get (by decide +kernel) rfl ⟨Nat.le_of_ble_eq_true rfl, Nat.le_of_ble_eq_true rfl⟩ (my_preR hC (my_P_sub (wc := [(ad 11, .inr (4, [.ref (ad 12)])), (ad 12, .inl (kd, 40, .inr (.inr (.inr (.inl BS)))))]) hP [3, 4] rfl)) (va_recv hC.1 hP (ci := 4) (q0 := 3) rfl rfl) rfl rfl dX0_levelOf_5) ?_
  refine W.eq (g2 := F0 m 8 ls [.double (BS k)]) rfl ?_
  refine lv_aload_n hx hb dX0_levelOf_8 rfl (lv_at hl 0 rfl) ?_
  refine va_get (D := D) (ci := 0) (v := .ref (ad 9)) (C := RX0) (T := TX0) (N := 4) hx hb hts iw_X0_levelOf_X0 hown hC.1 hP 0 rfl rfl 0 (by decide) (hts (.fieldLink RX0 14 "MonotoneSpline$Blocks" "weights" "LMonotoneSpline$Row;") (List.mem_of_getElem? (l := wsX0_levelOf) (i := 2) rfl)) (fun _ h9 => h9) rfl dX0_levelOf_9 ?_
  refine lv_iload_n hx hb dX0_levelOf_12 rfl (lv_at hl 1 rfl) ?_
  refine my_goR (v := (some (.double (BW k)))) (my_runV (bytes := cX4_get) (maxL := 2) (ret := (some .double)) (n := 1) (As := [.int (nI k)]) (rest := [.double (BS k)]) S hl.1 (kk_X4_get l D kd ki kz kl z (ad 9) (ad 10) 40 BW k (by omega) (by omega)) rfl ⟨rfl, rfl⟩ gX0_levelOf_X4_get (by decide +kernel) rfl ⟨Nat.le_of_ble_eq_true rfl, Nat.le_of_ble_eq_true rfl⟩ (my_preR hC (my_P_sub (wc := [(ad 9, .inr (4, [.ref (ad 10)])), (ad 10, .inl (kd, 40, .inr (.inr (.inr (.inl BW)))))]) hP [1, 2] rfl)) (va_recv hC.1 hP (ci := 4) (q0 := 1) rfl rfl) rfl rfl dX0_levelOf_13) ?_
  refine W.eq (g2 := F0 m 16 ls [.double (BW k), .double (BS k)]) rfl ?_
  refine my_goR (v := (some (.double (FP.ddiv (BS k) (BW k))))) (my_runSN (bytes := cX6_ratio) (maxL := 4) (ret := (some .double)) (n := 2) (As := [.double (BS k), .double (BW k)]) (rest := []) S hl.1 (kk_X6_ratio l D kd ki kz kl z (BS k) (BW k) (hzw) (hn)) rfl ⟨rfl, rfl⟩ gX0_levelOf_X6_ratio_n45 (hC.2.1 _ (List.mem_of_getElem? (l := my_nest) (i := 13) rfl)) (List.mem_of_getElem? (l := wsX0_levelOf) (i := 10) rfl) (List.mem_of_getElem? (l := wsX0_levelOf) (i := 9) rfl) (by decide +kernel) rfl ⟨Nat.le_of_ble_eq_true rfl, Nat.le_of_ble_eq_true rfl⟩ (my_preR hC (my_P_sub (wc := []) hP [] rfl)) rfl rfl dX0_levelOf_16) ?_
  refine W.eq (g2 := F0 m 19 ls [.double (FP.ddiv (BS k) (BW k))]) rfl ?_
  exact my_dretR hx hb hr hlocks (rfl) dX0_levelOf_19

theorem iw_X0_sizeOf_X0 : ∀ w ∈ wsX00, w ∈ wsX0_sizeOf := fun w h => List.mem_cons_of_mem _ (List.mem_append_right _ (h))
set_option maxHeartbeats 4000000 in
set_option maxRecDepth 100000 in
theorem kk_X0_sizeOf (l : Launch) (D : va_G) (kd ki kz kl : ClassId) (z : Nat) (ad : Nat → Nat) (bc : Nat) (BZ : Nat → Int32) (k : Nat) (hk : k < 40) : my_RO l D kd ki kz kl z yX0_sizeOf wsX0_sizeOf ({ frames := 0, cells := 0, slots := 0, locals := 0 }) [.ref (ad 8), .int (nI k)] [(ad 8, .inr (0, [.ref (ad 9), .ref (ad 11), .ref (ad 13), .int (nI bc)])), (ad 13, .inl (ki, 40, .inl BZ))] (some (.int (BZ k))) := by
  refine my_RO_of (cc := cX0_sizeOf) (maxL := 2) (ret := (some .int)) (by decide) rfl (Nat.le_of_ble_eq_true rfl) ?_
  intro p e s m below meth c S hr hlocks hC hP ls hl
  have S : CallFix p m c cX0_sizeOf 2 s ([.ref (ad 8), .int (nI k)] : List Value).toArray wsX0_sizeOf RX0 := S
  obtain ⟨hx, hb, hml, hown, hts⟩ := id S
  have hl : lv_has ls 2 [(0, .ref (ad 8)), (1, .int (nI k))] := hl
  refine lv_iload_n hx hb dX0_sizeOf_0 rfl (lv_at hl 1 rfl) ?_
  refine lv_if_lt (tgt := 22) hx hb dX0_sizeOf_1 (by decide) (fun c_1 => ?_) (fun c_1 => ?_)
  · have c_1 : k < 0 := (nI_ltI (a := k) (b := 0) (by omega) (by omega)).mp c_1
    exact absurd c_1 (Nat.not_lt_zero _)
  · have c_1 : ¬ k < 0 := fun h9 => c_1 ((nI_ltI (a := k) (b := 0) (by omega) (by omega)).mpr h9)
    refine lv_iload_n hx hb dX0_sizeOf_4 rfl (lv_at hl 1 rfl) ?_
    refine lv_aload_n hx hb dX0_sizeOf_5 rfl (lv_at hl 0 rfl) ?_
    refine va_get (D := D) (ci := 0) (v := .ref (ad 13)) (C := RX0) (T := TX0) (N := 4) hx hb hts iw_X0_sizeOf_X0 hown hC.1 hP 0 rfl rfl 2 (by decide) (hts (.fieldLink RX0 23 "MonotoneSpline$Blocks" "sizes" "[I") (List.mem_of_getElem? (l := wsX0_sizeOf) (i := 1) rfl)) (fun _ h9 => h9) rfl dX0_sizeOf_6 ?_
    refine va_alen (v := 40) hx hb hC.1 hP 1 1 rfl rfl rfl dX0_sizeOf_9 ?_
    refine lv_icmp_ge (tgt := 22) hx hb dX0_sizeOf_10 (by decide) (fun c_10 => ?_) (fun c_10 => ?_)
    · have c_10 : 40 ≤ k := (nI_leI (a := 40) (b := k) (by omega) (by omega)).mp c_10
      exact absurd hk (by omega)
    · have c_10 : ¬ 40 ≤ k := fun h9 => c_10 ((nI_leI (a := 40) (b := k) (by omega) (by omega)).mpr h9)
      refine lv_aload_n hx hb dX0_sizeOf_13 rfl (lv_at hl 0 rfl) ?_
      refine va_get (D := D) (ci := 0) (v := .ref (ad 13)) (C := RX0) (T := TX0) (N := 4) hx hb hts iw_X0_sizeOf_X0 hown hC.1 hP 0 rfl rfl 2 (by decide) (hts (.fieldLink RX0 23 "MonotoneSpline$Blocks" "sizes" "[I") (List.mem_of_getElem? (l := wsX0_sizeOf) (i := 1) rfl)) (fun _ h9 => h9) rfl dX0_sizeOf_14 ?_
      refine lv_iload_n hx hb dX0_sizeOf_17 rfl (lv_at hl 1 rfl) ?_
      refine my_iald (k := k) (n := 40) (f := BZ) hx hb hC hP 1 rfl (by omega) (by omega) dX0_sizeOf_18 ?_
      refine lv_goto (tgt := 23) hx hb dX0_sizeOf_19 (by decide) ?_
      exact my_iretR hx hb hr hlocks (rfl) dX0_sizeOf_23

theorem iw_X0_joinWithLeft_X0 : ∀ w ∈ wsX00, w ∈ wsX0_joinWithLeft := fun w h => List.mem_cons_of_mem _ (List.mem_append_left _ (List.mem_append_right _ (h)))
set_option maxHeartbeats 4000000 in
set_option maxRecDepth 100000 in
theorem kk_X0_joinWithLeft (l : Launch) (D : va_G) (kd ki kz kl : ClassId) (z : Nat) (ad : Nat → Nat) (bc : Nat) (BW : Nat → UInt64) (BS : Nat → UInt64) (BZ : Nat → Int32) (k : Nat) (h0 : 0 < k) (hk : k < 40) (h1 : fx_n (FP.dadd (BW (k - 1)) (BW k))) (h2 : fx_n (FP.dadd (BS (k - 1)) (BS k))) : my_WR l D kd ki kz kl z yX0_joinWithLeft wsX0_joinWithLeft ({ frames := 1, cells := 0, slots := 0, locals := 23 }) [.ref (ad 8), .int (nI k)] [(ad 8, .inr (0, [.ref (ad 9), .ref (ad 11), .ref (ad 13), .int (nI bc)])), (ad 9, .inr (4, [.ref (ad 10)])), (ad 10, .inl (kd, 40, .inr (.inr (.inr (.inl BW))))), (ad 11, .inr (4, [.ref (ad 12)])), (ad 12, .inl (kd, 40, .inr (.inr (.inr (.inl BS))))), (ad 13, .inl (ki, 40, .inl BZ))] [(ad 8, .inr (0, [.ref (ad 9), .ref (ad 11), .ref (ad 13), .int (nI k)])), (ad 9, .inr (4, [.ref (ad 10)])), (ad 10, .inl (kd, 40, .inr (.inr (.inr (.inl (s_jd BW k)))))), (ad 11, .inr (4, [.ref (ad 12)])), (ad 12, .inl (kd, 40, .inr (.inr (.inr (.inl (s_jd BS k)))))), (ad 13, .inl (ki, 40, .inl (s_jz BZ k)))] none := by
  refine my_WR_of (cc := cX0_joinWithLeft) (maxL := 3) (ret := none) (by decide) rfl (Nat.le_of_ble_eq_true rfl) ?_
  intro p e s m below meth c S hr hlocks hC hP hD hz hS ls hl
  have S : CallFix p m c cX0_joinWithLeft 3 s ([.ref (ad 8), .int (nI k)] : List Value).toArray wsX0_joinWithLeft RX0 := S
  obtain ⟨hx, hb, hml, hown, hts⟩ := id S
  have hl : lv_has ls 3 [(0, .ref (ad 8)), (1, .int (nI k))] := hl
  suffices K0 : ∀ (H : Heap) (locs : List Loc), va_P D vwCl [(ad 8, .inr (0, [.ref (ad 9), .ref (ad 11), .ref (ad 13), .int (nI bc)])), (ad 9, .inr (4, [.ref (ad 10)])), (ad 10, .inl (kd, 40, .inr (.inr (.inr (.inl BW))))), (ad 11, .inr (4, [.ref (ad 12)])), (ad 12, .inl (kd, 40, .inr (.inr (.inr (.inl BS))))), (ad 13, .inl (ki, 40, .inl BZ))] H → va_D (my_A [(ad 8, .inr (0, [.ref (ad 9), .ref (ad 11), .ref (ad 13), .int (nI bc)])), (ad 9, .inr (4, [.ref (ad 10)])), (ad 10, .inl (kd, 40, .inr (.inr (.inr (.inl BW))))), (ad 11, .inr (4, [.ref (ad 12)])), (ad 12, .inl (kd, 40, .inr (.inr (.inr (.inl BS))))), (ad 13, .inl (ki, 40, .inl BZ))]) [(ad 8, .inr (0, [.ref (ad 9), .ref (ad 11), .ref (ad 13), .int (nI bc)])), (ad 9, .inr (4, [.ref (ad 10)])), (ad 10, .inl (kd, 40, .inr (.inr (.inr (.inl BW))))), (ad 11, .inr (4, [.ref (ad 12)])), (ad 12, .inl (kd, 40, .inr (.inr (.inr (.inl BS))))), (ad 13, .inl (ki, 40, .inl BZ))] → va_S (my_A [(ad 8, .inr (0, [.ref (ad 9), .ref (ad 11), .ref (ad 13), .int (nI bc)])), (ad 9, .inr (4, [.ref (ad 10)])), (ad 10, .inl (kd, 40, .inr (.inr (.inr (.inl BW))))), (ad 11, .inr (4, [.ref (ad 12)])), (ad 12, .inl (kd, 40, .inr (.inr (.inr (.inl BS))))), (ad 13, .inl (ki, 40, .inl BZ))]) s.heap H locs → W p l e ({ frames := 1, cells := 0, slots := 0, locals := 23 }) s m ([.ref (ad 8), .int (nI k)] : List Value).toArray below meth c H locs 0 0 (my_WQ below D ([.ref (ad 8), .int (nI k)] : List Value).toArray s [(ad 8, .inr (0, [.ref (ad 9), .ref (ad 11), .ref (ad 13), .int (nI bc)])), (ad 9, .inr (4, [.ref (ad 10)])), (ad 10, .inl (kd, 40, .inr (.inr (.inr (.inl BW))))), (ad 11, .inr (4, [.ref (ad 12)])), (ad 12, .inl (kd, 40, .inr (.inr (.inr (.inl BS))))), (ad 13, .inl (ki, 40, .inl BZ))] [(ad 8, .inr (0, [.ref (ad 9), .ref (ad 11), .ref (ad 13), .int (nI k)])), (ad 9, .inr (4, [.ref (ad 10)])), (ad 10, .inl (kd, 40, .inr (.inr (.inr (.inl (s_jd BW k)))))), (ad 11, .inr (4, [.ref (ad 12)])), (ad 12, .inl (kd, 40, .inr (.inr (.inr (.inl (s_jd BS k)))))), (ad 13, .inl (ki, 40, .inl (s_jz BZ k)))] none) (F0 m 0 ls []) from K0 _ _ hP hD hS
  intro H locs hP hD hS
  refine lv_iload_n hx hb dX0_joinWithLeft_0 rfl (lv_at hl 1 rfl) ?_
  refine lv_iconst (v := 1) hx hb dX0_joinWithLeft_1 (by decide) ?_
  refine my_isub (w := nI (k - 1)) hx hb dX0_joinWithLeft_2 (pk_sub (a := k) (b := 1) (by omega)) ?_
  refine lv_istore_n (lv' := [(2, .int (nI (k - 1))), (0, .ref (ad 8)), (1, .int (nI k))]) hx hb dX0_joinWithLeft_3 rfl hl (by decide) rfl (fun ls hl => ?_)
  refine lv_iload_n hx hb dX0_joinWithLeft_4 rfl (lv_at hl 0 rfl) ?_
  refine lv_if_lt (tgt := 17) hx hb dX0_joinWithLeft_5 (by decide) (fun c_5 => ?_) (fun c_5 => ?_)
  · have c_5 : k - 1 < 0 := (nI_ltI (a := k - 1) (b := 0) (by omega) (by omega)).mp c_5
    exact absurd c_5 (Nat.not_lt_zero _)
  · have c_5 : ¬ k - 1 < 0 := fun h9 => c_5 ((nI_ltI (a := k - 1) (b := 0) (by omega) (by omega)).mpr h9)
    refine lv_iload_n hx hb dX0_joinWithLeft_8 rfl (lv_at hl 2 rfl) ?_
    refine lv_aload_n hx hb dX0_joinWithLeft_9 rfl (lv_at hl 1 rfl) ?_
    refine va_get (D := D) (ci := 0) (v := .ref (ad 13)) (C := RX0) (T := TX0) (N := 4) hx hb hts iw_X0_joinWithLeft_X0 hown hC.1 hP 0 rfl rfl 2 (by decide) (hts (.fieldLink RX0 23 "MonotoneSpline$Blocks" "sizes" "[I") (List.mem_of_getElem? (l := wsX0_joinWithLeft) (i := 1) rfl)) (fun _ h9 => h9) rfl dX0_joinWithLeft_10 ?_
    refine va_alen (v := 40) hx hb hC.1 hP 5 1 rfl rfl rfl dX0_joinWithLeft_13 ?_
    refine lv_icmp_lt (tgt := 18) hx hb dX0_joinWithLeft_14 (by decide) (fun c_14 => ?_) (fun c_14 => ?_)
    · have c_14 : k < 40 := (nI_ltI (a := k) (b := 40) (by omega) (by omega)).mp c_14
      refine lv_aload_n hx hb dX0_joinWithLeft_18 rfl (lv_at hl 1 rfl) ?_
      refine va_get (D := D) (ci := 0) (v := .ref (ad 9)) (C := RX0) (T := TX0) (N := 4) hx hb hts iw_X0_joinWithLeft_X0 hown hC.1 hP 0 rfl rfl 0 (by decide) (hts (.fieldLink RX0 14 "MonotoneSpline$Blocks" "weights" "LMonotoneSpline$Row;") (List.mem_of_getElem? (l := wsX0_joinWithLeft) (i := 2) rfl)) (fun _ h9 => h9) rfl dX0_joinWithLeft_19 ?_
      refine lv_iload_n hx hb dX0_joinWithLeft_22 rfl (lv_at hl 0 rfl) ?_
      refine lv_aload_n hx hb dX0_joinWithLeft_23 rfl (lv_at hl 1 rfl) ?_
      refine va_get (D := D) (ci := 0) (v := .ref (ad 9)) (C := RX0) (T := TX0) (N := 4) hx hb hts iw_X0_joinWithLeft_X0 hown hC.1 hP 0 rfl rfl 0 (by decide) (hts (.fieldLink RX0 14 "MonotoneSpline$Blocks" "weights" "LMonotoneSpline$Row;") (List.mem_of_getElem? (l := wsX0_joinWithLeft) (i := 2) rfl)) (fun _ h9 => h9) rfl dX0_joinWithLeft_24 ?_
      refine lv_iload_n hx hb dX0_joinWithLeft_27 rfl (lv_at hl 0 rfl) ?_
      refine my_goR (v := (some (.double (BW (k - 1))))) (my_runV (bytes := cX4_get) (maxL := 2) (ret := (some .double)) (n := 1) (As := [.int (nI (k - 1))]) (rest := [.int (nI (k - 1)), .ref (ad 9)]) S hl.1 (kk_X4_get l D kd ki kz kl z (ad 9) (ad 10) 40 BW (k - 1) (by omega) (by omega)) rfl ⟨rfl, rfl⟩ gX0_joinWithLeft_X4_get (by decide +kernel) rfl ⟨Nat.le_of_ble_eq_true rfl, Nat.le_of_ble_eq_true rfl⟩ (my_preR (my_C_S hC hS hz) (my_P_sub (wc := [(ad 9, .inr (4, [.ref (ad 10)])), (ad 10, .inl (kd, 40, .inr (.inr (.inr (.inl BW)))))]) hP [1, 2] rfl)) (va_recv hC.1 hP (ci := 4) (q0 := 1) rfl rfl) rfl rfl dX0_joinWithLeft_28) ?_
      refine W.eq (g2 := F0 m 31 ls [.double (BW (k - 1)), .int (nI (k - 1)), .ref (ad 9)]) rfl ?_
      refine lv_aload_n hx hb dX0_joinWithLeft_31 rfl (lv_at hl 1 rfl) ?_
      refine va_get (D := D) (ci := 0) (v := .ref (ad 9)) (C := RX0) (T := TX0) (N := 4) hx hb hts iw_X0_joinWithLeft_X0 hown hC.1 hP 0 rfl rfl 0 (by decide) (hts (.fieldLink RX0 14 "MonotoneSpline$Blocks" "weights" "LMonotoneSpline$Row;") (List.mem_of_getElem? (l := wsX0_joinWithLeft) (i := 2) rfl)) (fun _ h9 => h9) rfl dX0_joinWithLeft_32 ?_
      refine lv_iload_n hx hb dX0_joinWithLeft_35 rfl (lv_at hl 2 rfl) ?_
      refine my_goR (v := (some (.double (BW k)))) (my_runV (bytes := cX4_get) (maxL := 2) (ret := (some .double)) (n := 1) (As := [.int (nI k)]) (rest := [.double (BW (k - 1)), .int (nI (k - 1)), .ref (ad 9)]) S hl.1 (kk_X4_get l D kd ki kz kl z (ad 9) (ad 10) 40 BW k (by omega) (by omega)) rfl ⟨rfl, rfl⟩ gX0_joinWithLeft_X4_get (by decide +kernel) rfl ⟨Nat.le_of_ble_eq_true rfl, Nat.le_of_ble_eq_true rfl⟩ (my_preR (my_C_S hC hS hz) (my_P_sub (wc := [(ad 9, .inr (4, [.ref (ad 10)])), (ad 10, .inl (kd, 40, .inr (.inr (.inr (.inl BW)))))]) hP [1, 2] rfl)) (va_recv hC.1 hP (ci := 4) (q0 := 1) rfl rfl) rfl rfl dX0_joinWithLeft_36) ?_
      refine W.eq (g2 := F0 m 39 ls [.double (BW k), .double (BW (k - 1)), .int (nI (k - 1)), .ref (ad 9)]) rfl ?_
      refine lv_dadd hx hb dX0_joinWithLeft_39 (fx_n64 (h1)) ?_
      refine my_goW (v := none) (w1 := [(ad 9, .inr (4, [.ref (ad 10)])), (ad 10, .inl (kd, 40, .inr (.inr (.inr (.inl (vf_upd BW (k - 1) (FP.dadd (BW (k - 1)) (BW k))))))))]) (wx' := [(ad 8, .inr (0, [.ref (ad 9), .ref (ad 11), .ref (ad 13), .int (nI bc)])), (ad 9, .inr (4, [.ref (ad 10)])), (ad 10, .inl (kd, 40, .inr (.inr (.inr (.inl (vf_upd BW (k - 1) (FP.dadd (BW (k - 1)) (BW k)))))))), (ad 11, .inr (4, [.ref (ad 12)])), (ad 12, .inl (kd, 40, .inr (.inr (.inr (.inl BS))))), (ad 13, .inl (ki, 40, .inl BZ))]) (my_runV (bytes := cX4_set) (maxL := 4) (ret := none) (n := 2) (As := [.int (nI (k - 1)), .double (FP.dadd (BW (k - 1)) (BW k))]) (rest := []) S hl.1 (kk_X4_set l D kd ki kz kl z (ad 9) (ad 10) 40 BW (k - 1) (FP.dadd (BW (k - 1)) (BW k)) (by omega) (by omega)) rfl ⟨rfl, rfl⟩ gX0_joinWithLeft_X4_set (by decide +kernel) rfl ⟨Nat.le_of_ble_eq_true rfl, Nat.le_of_ble_eq_true rfl⟩ (my_preW (my_C_S hC hS hz) (my_P_sub (wc := [(ad 9, .inr (4, [.ref (ad 10)])), (ad 10, .inl (kd, 40, .inr (.inr (.inr (.inl BW)))))]) hP [1, 2] rfl) (my_D_sub hD hz [1, 2] (by decide) rfl)) (va_recv hC.1 hP (ci := 4) (q0 := 1) rfl rfl) rfl rfl dX0_joinWithLeft_40) hP hD hS [1, 2] rfl rfl rfl (fun H locs hP hD hS => ?_)
      refine W.eq (g2 := F0 m 43 ls []) rfl ?_
      refine lv_aload_n hx hb dX0_joinWithLeft_43 rfl (lv_at hl 1 rfl) ?_
      refine va_get (D := D) (ci := 0) (v := .ref (ad 11)) (C := RX0) (T := TX0) (N := 4) hx hb hts iw_X0_joinWithLeft_X0 hown hC.1 hP 0 rfl rfl 1 (by decide) (hts (.fieldLink RX0 20 "MonotoneSpline$Blocks" "products" "LMonotoneSpline$Row;") (List.mem_of_getElem? (l := wsX0_joinWithLeft) (i := 3) rfl)) (fun _ h9 => h9) rfl dX0_joinWithLeft_44 ?_
      refine lv_iload_n hx hb dX0_joinWithLeft_47 rfl (lv_at hl 0 rfl) ?_
      refine lv_aload_n hx hb dX0_joinWithLeft_48 rfl (lv_at hl 1 rfl) ?_
      refine va_get (D := D) (ci := 0) (v := .ref (ad 11)) (C := RX0) (T := TX0) (N := 4) hx hb hts iw_X0_joinWithLeft_X0 hown hC.1 hP 0 rfl rfl 1 (by decide) (hts (.fieldLink RX0 20 "MonotoneSpline$Blocks" "products" "LMonotoneSpline$Row;") (List.mem_of_getElem? (l := wsX0_joinWithLeft) (i := 3) rfl)) (fun _ h9 => h9) rfl dX0_joinWithLeft_49 ?_
      refine lv_iload_n hx hb dX0_joinWithLeft_52 rfl (lv_at hl 0 rfl) ?_
      refine my_goR (v := (some (.double (BS (k - 1))))) (my_runV (bytes := cX4_get) (maxL := 2) (ret := (some .double)) (n := 1) (As := [.int (nI (k - 1))]) (rest := [.int (nI (k - 1)), .ref (ad 11)]) S hl.1 (kk_X4_get l D kd ki kz kl z (ad 11) (ad 12) 40 BS (k - 1) (by omega) (by omega)) rfl ⟨rfl, rfl⟩ gX0_joinWithLeft_X4_get (by decide +kernel) rfl ⟨Nat.le_of_ble_eq_true rfl, Nat.le_of_ble_eq_true rfl⟩ (my_preR (my_C_S hC hS hz) (my_P_sub (wc := [(ad 11, .inr (4, [.ref (ad 12)])), (ad 12, .inl (kd, 40, .inr (.inr (.inr (.inl BS)))))]) hP [3, 4] rfl)) (va_recv hC.1 hP (ci := 4) (q0 := 3) rfl rfl) rfl rfl dX0_joinWithLeft_53) ?_
      refine W.eq (g2 := F0 m 56 ls [.double (BS (k - 1)), .int (nI (k - 1)), .ref (ad 11)]) rfl ?_
      refine lv_aload_n hx hb dX0_joinWithLeft_56 rfl (lv_at hl 1 rfl) ?_
      refine va_get (D := D) (ci := 0) (v := .ref (ad 11)) (C := RX0) (T := TX0) (N := 4) hx hb hts iw_X0_joinWithLeft_X0 hown hC.1 hP 0 rfl rfl 1 (by decide) (hts (.fieldLink RX0 20 "MonotoneSpline$Blocks" "products" "LMonotoneSpline$Row;") (List.mem_of_getElem? (l := wsX0_joinWithLeft) (i := 3) rfl)) (fun _ h9 => h9) rfl dX0_joinWithLeft_57 ?_
      refine lv_iload_n hx hb dX0_joinWithLeft_60 rfl (lv_at hl 2 rfl) ?_
      refine my_goR (v := (some (.double (BS k)))) (my_runV (bytes := cX4_get) (maxL := 2) (ret := (some .double)) (n := 1) (As := [.int (nI k)]) (rest := [.double (BS (k - 1)), .int (nI (k - 1)), .ref (ad 11)]) S hl.1 (kk_X4_get l D kd ki kz kl z (ad 11) (ad 12) 40 BS k (by omega) (by omega)) rfl ⟨rfl, rfl⟩ gX0_joinWithLeft_X4_get (by decide +kernel) rfl ⟨Nat.le_of_ble_eq_true rfl, Nat.le_of_ble_eq_true rfl⟩ (my_preR (my_C_S hC hS hz) (my_P_sub (wc := [(ad 11, .inr (4, [.ref (ad 12)])), (ad 12, .inl (kd, 40, .inr (.inr (.inr (.inl BS)))))]) hP [3, 4] rfl)) (va_recv hC.1 hP (ci := 4) (q0 := 3) rfl rfl) rfl rfl dX0_joinWithLeft_61) ?_
      refine W.eq (g2 := F0 m 64 ls [.double (BS k), .double (BS (k - 1)), .int (nI (k - 1)), .ref (ad 11)]) rfl ?_
      refine lv_dadd hx hb dX0_joinWithLeft_64 (fx_n64 (h2)) ?_
      refine my_goW (v := none) (w1 := [(ad 11, .inr (4, [.ref (ad 12)])), (ad 12, .inl (kd, 40, .inr (.inr (.inr (.inl (vf_upd BS (k - 1) (FP.dadd (BS (k - 1)) (BS k))))))))]) (wx' := [(ad 8, .inr (0, [.ref (ad 9), .ref (ad 11), .ref (ad 13), .int (nI bc)])), (ad 9, .inr (4, [.ref (ad 10)])), (ad 10, .inl (kd, 40, .inr (.inr (.inr (.inl (vf_upd BW (k - 1) (FP.dadd (BW (k - 1)) (BW k)))))))), (ad 11, .inr (4, [.ref (ad 12)])), (ad 12, .inl (kd, 40, .inr (.inr (.inr (.inl (vf_upd BS (k - 1) (FP.dadd (BS (k - 1)) (BS k)))))))), (ad 13, .inl (ki, 40, .inl BZ))]) (my_runV (bytes := cX4_set) (maxL := 4) (ret := none) (n := 2) (As := [.int (nI (k - 1)), .double (FP.dadd (BS (k - 1)) (BS k))]) (rest := []) S hl.1 (kk_X4_set l D kd ki kz kl z (ad 11) (ad 12) 40 BS (k - 1) (FP.dadd (BS (k - 1)) (BS k)) (by omega) (by omega)) rfl ⟨rfl, rfl⟩ gX0_joinWithLeft_X4_set (by decide +kernel) rfl ⟨Nat.le_of_ble_eq_true rfl, Nat.le_of_ble_eq_true rfl⟩ (my_preW (my_C_S hC hS hz) (my_P_sub (wc := [(ad 11, .inr (4, [.ref (ad 12)])), (ad 12, .inl (kd, 40, .inr (.inr (.inr (.inl BS)))))]) hP [3, 4] rfl) (my_D_sub hD hz [3, 4] (by decide) rfl)) (va_recv hC.1 hP (ci := 4) (q0 := 3) rfl rfl) rfl rfl dX0_joinWithLeft_65) hP hD hS [3, 4] rfl rfl rfl (fun H locs hP hD hS => ?_)
      refine W.eq (g2 := F0 m 68 ls []) rfl ?_
      refine lv_aload_n hx hb dX0_joinWithLeft_68 rfl (lv_at hl 1 rfl) ?_
      refine va_get (D := D) (ci := 0) (v := .ref (ad 13)) (C := RX0) (T := TX0) (N := 4) hx hb hts iw_X0_joinWithLeft_X0 hown hC.1 hP 0 rfl rfl 2 (by decide) (hts (.fieldLink RX0 23 "MonotoneSpline$Blocks" "sizes" "[I") (List.mem_of_getElem? (l := wsX0_joinWithLeft) (i := 1) rfl)) (fun _ h9 => h9) rfl dX0_joinWithLeft_69 ?_
      refine lv_iload_n hx hb dX0_joinWithLeft_72 rfl (lv_at hl 0 rfl) ?_
      refine lv_aload_n hx hb dX0_joinWithLeft_73 rfl (lv_at hl 1 rfl) ?_
      refine va_get (D := D) (ci := 0) (v := .ref (ad 13)) (C := RX0) (T := TX0) (N := 4) hx hb hts iw_X0_joinWithLeft_X0 hown hC.1 hP 0 rfl rfl 2 (by decide) (hts (.fieldLink RX0 23 "MonotoneSpline$Blocks" "sizes" "[I") (List.mem_of_getElem? (l := wsX0_joinWithLeft) (i := 1) rfl)) (fun _ h9 => h9) rfl dX0_joinWithLeft_74 ?_
      refine lv_iload_n hx hb dX0_joinWithLeft_77 rfl (lv_at hl 0 rfl) ?_
      refine my_iald (k := k - 1) (n := 40) (f := BZ) hx hb hC hP 5 rfl (by omega) (by omega) dX0_joinWithLeft_78 ?_
      refine lv_aload_n hx hb dX0_joinWithLeft_79 rfl (lv_at hl 1 rfl) ?_
      refine va_get (D := D) (ci := 0) (v := .ref (ad 13)) (C := RX0) (T := TX0) (N := 4) hx hb hts iw_X0_joinWithLeft_X0 hown hC.1 hP 0 rfl rfl 2 (by decide) (hts (.fieldLink RX0 23 "MonotoneSpline$Blocks" "sizes" "[I") (List.mem_of_getElem? (l := wsX0_joinWithLeft) (i := 1) rfl)) (fun _ h9 => h9) rfl dX0_joinWithLeft_80 ?_
      refine lv_iload_n hx hb dX0_joinWithLeft_83 rfl (lv_at hl 2 rfl) ?_
      refine my_iald (k := k) (n := 40) (f := BZ) hx hb hC hP 5 rfl (by omega) (by omega) dX0_joinWithLeft_84 ?_
      refine my_iadd (w := (BZ (k - 1) + BZ k : Int32)) hx hb dX0_joinWithLeft_85 (rfl) ?_
      refine my_iast (k := k - 1) (n := 40) (f := BZ) (wx' := [(ad 8, .inr (0, [.ref (ad 9), .ref (ad 11), .ref (ad 13), .int (nI bc)])), (ad 9, .inr (4, [.ref (ad 10)])), (ad 10, .inl (kd, 40, .inr (.inr (.inr (.inl (vf_upd BW (k - 1) (FP.dadd (BW (k - 1)) (BW k)))))))), (ad 11, .inr (4, [.ref (ad 12)])), (ad 12, .inl (kd, 40, .inr (.inr (.inr (.inl (vf_upd BS (k - 1) (FP.dadd (BS (k - 1)) (BS k)))))))), (ad 13, .inl (ki, 40, .inl (upd BZ (k - 1) (BZ (k - 1) + BZ k : Int32))))]) hx hb hC hP hD hS 5 rfl (by omega) (by omega) rfl dX0_joinWithLeft_86 (fun H locs hP hD hS => ?_)
      refine lv_aload_n hx hb dX0_joinWithLeft_87 rfl (lv_at hl 1 rfl) ?_
      refine lv_iload_n hx hb dX0_joinWithLeft_88 rfl (lv_at hl 2 rfl) ?_
      refine va_put (D := D) (ci := 0) (v := .int (nI k)) (ty := .int) (C := RX0) (T := TX0) (N := 4) hx hb hts iw_X0_joinWithLeft_X0 tyX0 tyX0_ok nmX0 hown hC.1 hP hD hS 0 rfl rfl 3 (by decide) (hts (.fieldLink RX0 27 "MonotoneSpline$Blocks" "count" "I") (List.mem_of_getElem? (l := wsX0_joinWithLeft) (i := 4) rfl)) (fun _ h9 => h9) rfl (by decide +kernel) rfl rfl (Nat.le_of_ble_eq_true rfl) dX0_joinWithLeft_89 (fun H locs hP hD hS => ?_)
      have hP : va_P D vwCl [(ad 8, .inr (0, [.ref (ad 9), .ref (ad 11), .ref (ad 13), .int (nI k)])), (ad 9, .inr (4, [.ref (ad 10)])), (ad 10, .inl (kd, 40, .inr (.inr (.inr (.inl (vf_upd BW (k - 1) (FP.dadd (BW (k - 1)) (BW k)))))))), (ad 11, .inr (4, [.ref (ad 12)])), (ad 12, .inl (kd, 40, .inr (.inr (.inr (.inl (vf_upd BS (k - 1) (FP.dadd (BS (k - 1)) (BS k)))))))), (ad 13, .inl (ki, 40, .inl (upd BZ (k - 1) (BZ (k - 1) + BZ k : Int32))))] H := hP
      have hD : va_D (my_A [(ad 8, .inr (0, [.ref (ad 9), .ref (ad 11), .ref (ad 13), .int (nI bc)])), (ad 9, .inr (4, [.ref (ad 10)])), (ad 10, .inl (kd, 40, .inr (.inr (.inr (.inl BW))))), (ad 11, .inr (4, [.ref (ad 12)])), (ad 12, .inl (kd, 40, .inr (.inr (.inr (.inl BS))))), (ad 13, .inl (ki, 40, .inl BZ))]) [(ad 8, .inr (0, [.ref (ad 9), .ref (ad 11), .ref (ad 13), .int (nI k)])), (ad 9, .inr (4, [.ref (ad 10)])), (ad 10, .inl (kd, 40, .inr (.inr (.inr (.inl (vf_upd BW (k - 1) (FP.dadd (BW (k - 1)) (BW k)))))))), (ad 11, .inr (4, [.ref (ad 12)])), (ad 12, .inl (kd, 40, .inr (.inr (.inr (.inl (vf_upd BS (k - 1) (FP.dadd (BS (k - 1)) (BS k)))))))), (ad 13, .inl (ki, 40, .inl (upd BZ (k - 1) (BZ (k - 1) + BZ k : Int32))))] := hD
      exact my_vretW hx hb hr hlocks hP (rfl) hS dX0_joinWithLeft_92
    · have c_14 : ¬ k < 40 := fun h9 => c_14 ((nI_ltI (a := k) (b := 40) (by omega) (by omega)).mpr h9)
      exact absurd hk (by omega)

theorem iw_X0_add_X0 : ∀ w ∈ wsX00, w ∈ wsX0_add := fun w h => List.mem_cons_of_mem _ (List.mem_append_left _ (List.mem_append_right _ (h)))
set_option maxHeartbeats 4000000 in
set_option maxRecDepth 100000 in
theorem kk_X0_add (l : Launch) (D : va_G) (kd ki kz kl : ClassId) (z : Nat) (ad : Nat → Nat) (bc : Nat) (BW : Nat → UInt64) (BS : Nat → UInt64) (BZ : Nat → Int32) (y : UInt64) (wt : UInt64) (i : Nat) (hJ : BJ i bc BW BS BZ) (hi : i < 40) (hy : PY y) (hw : PW wt) : my_WR l D kd ki kz kl z yX0_add wsX0_add ({ frames := 2, cells := 0, slots := 0, locals := 45 }) [.ref (ad 8), .double y, .double wt] [(ad 8, .inr (0, [.ref (ad 9), .ref (ad 11), .ref (ad 13), .int (nI bc)])), (ad 9, .inr (4, [.ref (ad 10)])), (ad 10, .inl (kd, 40, .inr (.inr (.inr (.inl BW))))), (ad 11, .inr (4, [.ref (ad 12)])), (ad 12, .inl (kd, 40, .inr (.inr (.inr (.inl BS))))), (ad 13, .inl (ki, 40, .inl BZ))] [(ad 8, .inr (0, [.ref (ad 9), .ref (ad 11), .ref (ad 13), .int (nI ((s_ba bc BW BS BZ y wt).1))])), (ad 9, .inr (4, [.ref (ad 10)])), (ad 10, .inl (kd, 40, .inr (.inr (.inr (.inl ((s_ba bc BW BS BZ y wt).2.1)))))), (ad 11, .inr (4, [.ref (ad 12)])), (ad 12, .inl (kd, 40, .inr (.inr (.inr (.inl ((s_ba bc BW BS BZ y wt).2.2.1)))))), (ad 13, .inl (ki, 40, .inl ((s_ba bc BW BS BZ y wt).2.2.2)))] none := by
  refine my_WR_of (cc := cX0_add) (maxL := 6) (ret := none) (by decide) rfl (Nat.le_of_ble_eq_true rfl) ?_
  intro p e s m below meth c S hr hlocks hC hP hD hz hS ls hl
  have S : CallFix p m c cX0_add 6 s ([.ref (ad 8), .double y, .double wt] : List Value).toArray wsX0_add RX0 := S
  obtain ⟨hx, hb, hml, hown, hts⟩ := id S
  have hl : lv_has ls 6 [(0, .ref (ad 8)), (1, .double y), (3, .double wt)] := hl
  suffices K0 : ∀ (H : Heap) (locs : List Loc), va_P D vwCl [(ad 8, .inr (0, [.ref (ad 9), .ref (ad 11), .ref (ad 13), .int (nI bc)])), (ad 9, .inr (4, [.ref (ad 10)])), (ad 10, .inl (kd, 40, .inr (.inr (.inr (.inl BW))))), (ad 11, .inr (4, [.ref (ad 12)])), (ad 12, .inl (kd, 40, .inr (.inr (.inr (.inl BS))))), (ad 13, .inl (ki, 40, .inl BZ))] H → va_D (my_A [(ad 8, .inr (0, [.ref (ad 9), .ref (ad 11), .ref (ad 13), .int (nI bc)])), (ad 9, .inr (4, [.ref (ad 10)])), (ad 10, .inl (kd, 40, .inr (.inr (.inr (.inl BW))))), (ad 11, .inr (4, [.ref (ad 12)])), (ad 12, .inl (kd, 40, .inr (.inr (.inr (.inl BS))))), (ad 13, .inl (ki, 40, .inl BZ))]) [(ad 8, .inr (0, [.ref (ad 9), .ref (ad 11), .ref (ad 13), .int (nI bc)])), (ad 9, .inr (4, [.ref (ad 10)])), (ad 10, .inl (kd, 40, .inr (.inr (.inr (.inl BW))))), (ad 11, .inr (4, [.ref (ad 12)])), (ad 12, .inl (kd, 40, .inr (.inr (.inr (.inl BS))))), (ad 13, .inl (ki, 40, .inl BZ))] → va_S (my_A [(ad 8, .inr (0, [.ref (ad 9), .ref (ad 11), .ref (ad 13), .int (nI bc)])), (ad 9, .inr (4, [.ref (ad 10)])), (ad 10, .inl (kd, 40, .inr (.inr (.inr (.inl BW))))), (ad 11, .inr (4, [.ref (ad 12)])), (ad 12, .inl (kd, 40, .inr (.inr (.inr (.inl BS))))), (ad 13, .inl (ki, 40, .inl BZ))]) s.heap H locs → W p l e ({ frames := 2, cells := 0, slots := 0, locals := 45 }) s m ([.ref (ad 8), .double y, .double wt] : List Value).toArray below meth c H locs 0 0 (my_WQ below D ([.ref (ad 8), .double y, .double wt] : List Value).toArray s [(ad 8, .inr (0, [.ref (ad 9), .ref (ad 11), .ref (ad 13), .int (nI bc)])), (ad 9, .inr (4, [.ref (ad 10)])), (ad 10, .inl (kd, 40, .inr (.inr (.inr (.inl BW))))), (ad 11, .inr (4, [.ref (ad 12)])), (ad 12, .inl (kd, 40, .inr (.inr (.inr (.inl BS))))), (ad 13, .inl (ki, 40, .inl BZ))] [(ad 8, .inr (0, [.ref (ad 9), .ref (ad 11), .ref (ad 13), .int (nI ((s_ba bc BW BS BZ y wt).1))])), (ad 9, .inr (4, [.ref (ad 10)])), (ad 10, .inl (kd, 40, .inr (.inr (.inr (.inl ((s_ba bc BW BS BZ y wt).2.1)))))), (ad 11, .inr (4, [.ref (ad 12)])), (ad 12, .inl (kd, 40, .inr (.inr (.inr (.inl ((s_ba bc BW BS BZ y wt).2.2.1)))))), (ad 13, .inl (ki, 40, .inl ((s_ba bc BW BS BZ y wt).2.2.2)))] none) (F0 m 0 ls []) from K0 _ _ hP hD hS
  intro H locs hP hD hS
  have hbc := BJ_k hJ
  have hM := BJ_new hJ hi hy hw
  refine lv_aload_n hx hb dX0_add_0 rfl (lv_at hl 0 rfl) ?_
  refine va_get (D := D) (ci := 0) (v := .int (nI bc)) (C := RX0) (T := TX0) (N := 4) hx hb hts iw_X0_add_X0 hown hC.1 hP 0 rfl rfl 3 (by decide) (hts (.fieldLink RX0 27 "MonotoneSpline$Blocks" "count" "I") (List.mem_of_getElem? (l := wsX0_add) (i := 1) rfl)) (fun _ h9 => h9) rfl dX0_add_1 ?_
  refine lv_if_lt (tgt := 19) hx hb dX0_add_4 (by decide) (fun c_4 => ?_) (fun c_4 => ?_)
  · have c_4 : bc < 0 := (nI_ltI (a := bc) (b := 0) (by omega) (by omega)).mp c_4
    exact absurd c_4 (Nat.not_lt_zero _)
  · have c_4 : ¬ bc < 0 := fun h9 => c_4 ((nI_ltI (a := bc) (b := 0) (by omega) (by omega)).mpr h9)
    refine lv_aload_n hx hb dX0_add_7 rfl (lv_at hl 0 rfl) ?_
    refine va_get (D := D) (ci := 0) (v := .int (nI bc)) (C := RX0) (T := TX0) (N := 4) hx hb hts iw_X0_add_X0 hown hC.1 hP 0 rfl rfl 3 (by decide) (hts (.fieldLink RX0 27 "MonotoneSpline$Blocks" "count" "I") (List.mem_of_getElem? (l := wsX0_add) (i := 1) rfl)) (fun _ h9 => h9) rfl dX0_add_8 ?_
    refine lv_aload_n hx hb dX0_add_11 rfl (lv_at hl 0 rfl) ?_
    refine va_get (D := D) (ci := 0) (v := .ref (ad 13)) (C := RX0) (T := TX0) (N := 4) hx hb hts iw_X0_add_X0 hown hC.1 hP 0 rfl rfl 2 (by decide) (hts (.fieldLink RX0 23 "MonotoneSpline$Blocks" "sizes" "[I") (List.mem_of_getElem? (l := wsX0_add) (i := 2) rfl)) (fun _ h9 => h9) rfl dX0_add_12 ?_
    refine va_alen (v := 40) hx hb hC.1 hP 5 1 rfl rfl rfl dX0_add_15 ?_
    refine lv_icmp_lt (tgt := 20) hx hb dX0_add_16 (by decide) (fun c_16 => ?_) (fun c_16 => ?_)
    · have c_16 : bc < 40 := (nI_ltI (a := bc) (b := 40) (by omega) (by omega)).mp c_16
      refine lv_aload_n hx hb dX0_add_20 rfl (lv_at hl 0 rfl) ?_
      refine va_get (D := D) (ci := 0) (v := .ref (ad 9)) (C := RX0) (T := TX0) (N := 4) hx hb hts iw_X0_add_X0 hown hC.1 hP 0 rfl rfl 0 (by decide) (hts (.fieldLink RX0 14 "MonotoneSpline$Blocks" "weights" "LMonotoneSpline$Row;") (List.mem_of_getElem? (l := wsX0_add) (i := 3) rfl)) (fun _ h9 => h9) rfl dX0_add_21 ?_
      refine lv_aload_n hx hb dX0_add_24 rfl (lv_at hl 0 rfl) ?_
      refine va_get (D := D) (ci := 0) (v := .int (nI bc)) (C := RX0) (T := TX0) (N := 4) hx hb hts iw_X0_add_X0 hown hC.1 hP 0 rfl rfl 3 (by decide) (hts (.fieldLink RX0 27 "MonotoneSpline$Blocks" "count" "I") (List.mem_of_getElem? (l := wsX0_add) (i := 1) rfl)) (fun _ h9 => h9) rfl dX0_add_25 ?_
      refine lv_dload_n hx hb dX0_add_28 rfl (lv_at hl 2 rfl) ?_
      refine my_goW (v := none) (w1 := [(ad 9, .inr (4, [.ref (ad 10)])), (ad 10, .inl (kd, 40, .inr (.inr (.inr (.inl (vf_upd BW bc wt))))))]) (wx' := [(ad 8, .inr (0, [.ref (ad 9), .ref (ad 11), .ref (ad 13), .int (nI bc)])), (ad 9, .inr (4, [.ref (ad 10)])), (ad 10, .inl (kd, 40, .inr (.inr (.inr (.inl (vf_upd BW bc wt)))))), (ad 11, .inr (4, [.ref (ad 12)])), (ad 12, .inl (kd, 40, .inr (.inr (.inr (.inl BS))))), (ad 13, .inl (ki, 40, .inl BZ))]) (my_runV (bytes := cX4_set) (maxL := 4) (ret := none) (n := 2) (As := [.int (nI bc), .double wt]) (rest := []) S hl.1 (kk_X4_set l D kd ki kz kl z (ad 9) (ad 10) 40 BW bc wt (by omega) (by omega)) rfl ⟨rfl, rfl⟩ gX0_add_X4_set (by decide +kernel) rfl ⟨Nat.le_of_ble_eq_true rfl, Nat.le_of_ble_eq_true rfl⟩ (my_preW (my_C_S hC hS hz) (my_P_sub (wc := [(ad 9, .inr (4, [.ref (ad 10)])), (ad 10, .inl (kd, 40, .inr (.inr (.inr (.inl BW)))))]) hP [1, 2] rfl) (my_D_sub hD hz [1, 2] (by decide) rfl)) (va_recv hC.1 hP (ci := 4) (q0 := 1) rfl rfl) rfl rfl dX0_add_29) hP hD hS [1, 2] rfl rfl rfl (fun H locs hP hD hS => ?_)
      refine W.eq (g2 := F0 m 32 ls []) rfl ?_
      refine lv_aload_n hx hb dX0_add_32 rfl (lv_at hl 0 rfl) ?_
      refine va_get (D := D) (ci := 0) (v := .ref (ad 11)) (C := RX0) (T := TX0) (N := 4) hx hb hts iw_X0_add_X0 hown hC.1 hP 0 rfl rfl 1 (by decide) (hts (.fieldLink RX0 20 "MonotoneSpline$Blocks" "products" "LMonotoneSpline$Row;") (List.mem_of_getElem? (l := wsX0_add) (i := 4) rfl)) (fun _ h9 => h9) rfl dX0_add_33 ?_
      refine lv_aload_n hx hb dX0_add_36 rfl (lv_at hl 0 rfl) ?_
      refine va_get (D := D) (ci := 0) (v := .int (nI bc)) (C := RX0) (T := TX0) (N := 4) hx hb hts iw_X0_add_X0 hown hC.1 hP 0 rfl rfl 3 (by decide) (hts (.fieldLink RX0 27 "MonotoneSpline$Blocks" "count" "I") (List.mem_of_getElem? (l := wsX0_add) (i := 1) rfl)) (fun _ h9 => h9) rfl dX0_add_37 ?_
      refine lv_dload_n hx hb dX0_add_40 rfl (lv_at hl 2 rfl) ?_
      refine lv_dload_n hx hb dX0_add_41 rfl (lv_at hl 1 rfl) ?_
      refine lv_dmul hx hb dX0_add_42 (fx_n64 ((let ⟨_, _, _, b, hb, _⟩ := PW_PY hy hw; fx_G_n hb))) ?_
      refine my_goW (v := none) (w1 := [(ad 11, .inr (4, [.ref (ad 12)])), (ad 12, .inl (kd, 40, .inr (.inr (.inr (.inl (vf_upd BS bc (FP.dmul wt y)))))))]) (wx' := [(ad 8, .inr (0, [.ref (ad 9), .ref (ad 11), .ref (ad 13), .int (nI bc)])), (ad 9, .inr (4, [.ref (ad 10)])), (ad 10, .inl (kd, 40, .inr (.inr (.inr (.inl (vf_upd BW bc wt)))))), (ad 11, .inr (4, [.ref (ad 12)])), (ad 12, .inl (kd, 40, .inr (.inr (.inr (.inl (vf_upd BS bc (FP.dmul wt y))))))), (ad 13, .inl (ki, 40, .inl BZ))]) (my_runV (bytes := cX4_set) (maxL := 4) (ret := none) (n := 2) (As := [.int (nI bc), .double (FP.dmul wt y)]) (rest := []) S hl.1 (kk_X4_set l D kd ki kz kl z (ad 11) (ad 12) 40 BS bc (FP.dmul wt y) (by omega) (by omega)) rfl ⟨rfl, rfl⟩ gX0_add_X4_set (by decide +kernel) rfl ⟨Nat.le_of_ble_eq_true rfl, Nat.le_of_ble_eq_true rfl⟩ (my_preW (my_C_S hC hS hz) (my_P_sub (wc := [(ad 11, .inr (4, [.ref (ad 12)])), (ad 12, .inl (kd, 40, .inr (.inr (.inr (.inl BS)))))]) hP [3, 4] rfl) (my_D_sub hD hz [3, 4] (by decide) rfl)) (va_recv hC.1 hP (ci := 4) (q0 := 3) rfl rfl) rfl rfl dX0_add_43) hP hD hS [3, 4] rfl rfl rfl (fun H locs hP hD hS => ?_)
      refine W.eq (g2 := F0 m 46 ls []) rfl ?_
      refine lv_aload_n hx hb dX0_add_46 rfl (lv_at hl 0 rfl) ?_
      refine va_get (D := D) (ci := 0) (v := .ref (ad 13)) (C := RX0) (T := TX0) (N := 4) hx hb hts iw_X0_add_X0 hown hC.1 hP 0 rfl rfl 2 (by decide) (hts (.fieldLink RX0 23 "MonotoneSpline$Blocks" "sizes" "[I") (List.mem_of_getElem? (l := wsX0_add) (i := 2) rfl)) (fun _ h9 => h9) rfl dX0_add_47 ?_
      refine lv_aload_n hx hb dX0_add_50 rfl (lv_at hl 0 rfl) ?_
      refine va_get (D := D) (ci := 0) (v := .int (nI bc)) (C := RX0) (T := TX0) (N := 4) hx hb hts iw_X0_add_X0 hown hC.1 hP 0 rfl rfl 3 (by decide) (hts (.fieldLink RX0 27 "MonotoneSpline$Blocks" "count" "I") (List.mem_of_getElem? (l := wsX0_add) (i := 1) rfl)) (fun _ h9 => h9) rfl dX0_add_51 ?_
      refine lv_iconst (v := 1) hx hb dX0_add_54 (by decide) ?_
      refine my_iast (k := bc) (n := 40) (f := BZ) (wx' := [(ad 8, .inr (0, [.ref (ad 9), .ref (ad 11), .ref (ad 13), .int (nI bc)])), (ad 9, .inr (4, [.ref (ad 10)])), (ad 10, .inl (kd, 40, .inr (.inr (.inr (.inl (vf_upd BW bc wt)))))), (ad 11, .inr (4, [.ref (ad 12)])), (ad 12, .inl (kd, 40, .inr (.inr (.inr (.inl (vf_upd BS bc (FP.dmul wt y))))))), (ad 13, .inl (ki, 40, .inl (upd BZ bc 1)))]) hx hb hC hP hD hS 5 rfl (by omega) (by omega) rfl dX0_add_55 (fun H locs hP hD hS => ?_)
      refine lv_aload_n hx hb dX0_add_56 rfl (lv_at hl 0 rfl) ?_
      refine lv_dup hx hb dX0_add_57 rfl ?_
      refine va_get (D := D) (ci := 0) (v := .int (nI bc)) (C := RX0) (T := TX0) (N := 4) hx hb hts iw_X0_add_X0 hown hC.1 hP 0 rfl rfl 3 (by decide) (hts (.fieldLink RX0 27 "MonotoneSpline$Blocks" "count" "I") (List.mem_of_getElem? (l := wsX0_add) (i := 1) rfl)) (fun _ h9 => h9) rfl dX0_add_58 ?_
      refine lv_iconst (v := 1) hx hb dX0_add_61 (by decide) ?_
      refine my_iadd (w := nI (bc + 1)) hx hb dX0_add_62 (nI_add bc 1) ?_
      refine va_put (D := D) (ci := 0) (v := .int (nI (bc + 1))) (ty := .int) (C := RX0) (T := TX0) (N := 4) hx hb hts iw_X0_add_X0 tyX0 tyX0_ok nmX0 hown hC.1 hP hD hS 0 rfl rfl 3 (by decide) (hts (.fieldLink RX0 27 "MonotoneSpline$Blocks" "count" "I") (List.mem_of_getElem? (l := wsX0_add) (i := 1) rfl)) (fun _ h9 => h9) rfl (by decide +kernel) rfl rfl (Nat.le_of_ble_eq_true rfl) dX0_add_63 (fun H locs hP hD hS => ?_)
      have hP : va_P D vwCl [(ad 8, .inr (0, [.ref (ad 9), .ref (ad 11), .ref (ad 13), .int (nI (bc + 1))])), (ad 9, .inr (4, [.ref (ad 10)])), (ad 10, .inl (kd, 40, .inr (.inr (.inr (.inl (vf_upd BW bc wt)))))), (ad 11, .inr (4, [.ref (ad 12)])), (ad 12, .inl (kd, 40, .inr (.inr (.inr (.inl (vf_upd BS bc (FP.dmul wt y))))))), (ad 13, .inl (ki, 40, .inl (upd BZ bc 1)))] H := hP
      have hD : va_D (my_A [(ad 8, .inr (0, [.ref (ad 9), .ref (ad 11), .ref (ad 13), .int (nI bc)])), (ad 9, .inr (4, [.ref (ad 10)])), (ad 10, .inl (kd, 40, .inr (.inr (.inr (.inl BW))))), (ad 11, .inr (4, [.ref (ad 12)])), (ad 12, .inl (kd, 40, .inr (.inr (.inr (.inl BS))))), (ad 13, .inl (ki, 40, .inl BZ))]) [(ad 8, .inr (0, [.ref (ad 9), .ref (ad 11), .ref (ad 13), .int (nI (bc + 1))])), (ad 9, .inr (4, [.ref (ad 10)])), (ad 10, .inl (kd, 40, .inr (.inr (.inr (.inl (vf_upd BW bc wt)))))), (ad 11, .inr (4, [.ref (ad 12)])), (ad 12, .inl (kd, 40, .inr (.inr (.inr (.inl (vf_upd BS bc (FP.dmul wt y))))))), (ad 13, .inl (ki, 40, .inl (upd BZ bc 1)))] := hD
      refine lv_aload_n hx hb dX0_add_66 rfl (lv_at hl 0 rfl) ?_
      refine va_get (D := D) (ci := 0) (v := .int (nI (bc + 1))) (C := RX0) (T := TX0) (N := 4) hx hb hts iw_X0_add_X0 hown hC.1 hP 0 rfl rfl 3 (by decide) (hts (.fieldLink RX0 27 "MonotoneSpline$Blocks" "count" "I") (List.mem_of_getElem? (l := wsX0_add) (i := 1) rfl)) (fun _ h9 => h9) rfl dX0_add_67 ?_
      refine lv_iconst (v := 1) hx hb dX0_add_70 (by decide) ?_
      refine my_isub (w := nI bc) hx hb dX0_add_71 (pk_sub (a := bc + 1) (b := 1) (by omega)) ?_
      refine lv_istore (lv' := [(5, .int (nI bc)), (0, .ref (ad 8)), (1, .double y), (3, .double wt)]) hx hb dX0_add_72 hl (by decide) rfl (fun ls hl => ?_)
      have loop_74 : ∀ (n9 : Nat) (k : Nat) (c9 : Nat) (W9 : Nat → UInt64) (S9 : Nat → UInt64) (Z9 : Nat → Int32), k < n9 → ∀ (hc : c9 = k + 1) (hB : BM (i + 1) k W9 S9 Z9) (hs : s_jn k W9 S9 Z9 = s_ba bc BW BS BZ y wt) (H : Heap) (locs : List Loc) (hP : va_P D vwCl [(ad 8, .inr (0, [.ref (ad 9), .ref (ad 11), .ref (ad 13), .int (nI c9)])), (ad 9, .inr (4, [.ref (ad 10)])), (ad 10, .inl (kd, 40, .inr (.inr (.inr (.inl W9))))), (ad 11, .inr (4, [.ref (ad 12)])), (ad 12, .inl (kd, 40, .inr (.inr (.inr (.inl S9))))), (ad 13, .inl (ki, 40, .inl Z9))] H) (hD : va_D (my_A [(ad 8, .inr (0, [.ref (ad 9), .ref (ad 11), .ref (ad 13), .int (nI bc)])), (ad 9, .inr (4, [.ref (ad 10)])), (ad 10, .inl (kd, 40, .inr (.inr (.inr (.inl BW))))), (ad 11, .inr (4, [.ref (ad 12)])), (ad 12, .inl (kd, 40, .inr (.inr (.inr (.inl BS))))), (ad 13, .inl (ki, 40, .inl BZ))]) [(ad 8, .inr (0, [.ref (ad 9), .ref (ad 11), .ref (ad 13), .int (nI c9)])), (ad 9, .inr (4, [.ref (ad 10)])), (ad 10, .inl (kd, 40, .inr (.inr (.inr (.inl W9))))), (ad 11, .inr (4, [.ref (ad 12)])), (ad 12, .inl (kd, 40, .inr (.inr (.inr (.inl S9))))), (ad 13, .inl (ki, 40, .inl Z9))]) (hS : va_S (my_A [(ad 8, .inr (0, [.ref (ad 9), .ref (ad 11), .ref (ad 13), .int (nI bc)])), (ad 9, .inr (4, [.ref (ad 10)])), (ad 10, .inl (kd, 40, .inr (.inr (.inr (.inl BW))))), (ad 11, .inr (4, [.ref (ad 12)])), (ad 12, .inl (kd, 40, .inr (.inr (.inr (.inl BS))))), (ad 13, .inl (ki, 40, .inl BZ))]) s.heap H locs) (ls : Array Slot) (hl : lv_has ls 6 [(5, .int (nI k)), (0, .ref (ad 8))]), W p l e ({ frames := 2, cells := 0, slots := 0, locals := 45 }) s m ([.ref (ad 8), .double y, .double wt] : List Value).toArray below meth c H locs 0 0 (my_WQ below D ([.ref (ad 8), .double y, .double wt] : List Value).toArray s [(ad 8, .inr (0, [.ref (ad 9), .ref (ad 11), .ref (ad 13), .int (nI bc)])), (ad 9, .inr (4, [.ref (ad 10)])), (ad 10, .inl (kd, 40, .inr (.inr (.inr (.inl BW))))), (ad 11, .inr (4, [.ref (ad 12)])), (ad 12, .inl (kd, 40, .inr (.inr (.inr (.inl BS))))), (ad 13, .inl (ki, 40, .inl BZ))] [(ad 8, .inr (0, [.ref (ad 9), .ref (ad 11), .ref (ad 13), .int (nI ((s_ba bc BW BS BZ y wt).1))])), (ad 9, .inr (4, [.ref (ad 10)])), (ad 10, .inl (kd, 40, .inr (.inr (.inr (.inl ((s_ba bc BW BS BZ y wt).2.1)))))), (ad 11, .inr (4, [.ref (ad 12)])), (ad 12, .inl (kd, 40, .inr (.inr (.inr (.inl ((s_ba bc BW BS BZ y wt).2.2.1)))))), (ad 13, .inl (ki, 40, .inl ((s_ba bc BW BS BZ y wt).2.2.2)))] none) (F0 m 74 ls []) := by
        intro n9
        induction n9 with
        | zero => intro k c9 W9 S9 Z9 h9; exact absurd h9 (Nat.not_lt_zero _)
        | succ n9 ih_74 =>
          intro k c9 W9 S9 Z9 h9 hc hB hs H locs hP hD hS ls hl
          have hk9 := BM_k hB
          refine lv_iload hx hb dX0_add_74 (lv_at hl 0 rfl) ?_
          refine lv_if_le (tgt := 109) hx hb dX0_add_76 (by decide) (fun c_76 => ?_) (fun c_76 => ?_)
          · have c_76 : k ≤ 0 := (nI_leI (a := k) (b := 0) (by omega) (by omega)).mp c_76
            exact my_vretW hx hb hr hlocks hP (by obtain rfl : k = 0 := (by omega); subst hc; rw [show s_ba bc BW BS BZ y wt = (1, W9, S9, Z9) from hs.symm]) hS dX0_add_109
          · have c_76 : ¬ k ≤ 0 := fun h9 => c_76 ((nI_leI (a := k) (b := 0) (by omega) (by omega)).mpr h9)
            refine lv_aload_n hx hb dX0_add_79 rfl (lv_at hl 1 rfl) ?_
            refine lv_iload hx hb dX0_add_80 (lv_at hl 0 rfl) ?_
            refine my_goR (v := (some (.double (s_lev W9 S9 k)))) (my_runV (bytes := cX0_levelOf) (maxL := 2) (ret := (some .double)) (n := 1) (As := [.int (nI k)]) (rest := []) S hl.1 (kk_X0_levelOf l D kd ki kz kl z ad c9 W9 S9 k (by omega) ((BM_f hB (j := k) (by omega)).2.1) ((BM_f hB (j := k) (by omega)).1)) rfl ⟨rfl, rfl⟩ gX0_add_X0_levelOf (by decide +kernel) rfl ⟨Nat.le_of_ble_eq_true rfl, Nat.le_of_ble_eq_true rfl⟩ (my_preR (my_C_S hC hS hz) (my_P_sub (wc := [(ad 8, .inr (0, [.ref (ad 9), .ref (ad 11), .ref (ad 13), .int (nI c9)])), (ad 9, .inr (4, [.ref (ad 10)])), (ad 10, .inl (kd, 40, .inr (.inr (.inr (.inl W9))))), (ad 11, .inr (4, [.ref (ad 12)])), (ad 12, .inl (kd, 40, .inr (.inr (.inr (.inl S9)))))]) hP [0, 1, 2, 3, 4] rfl)) (va_recv hC.1 hP (ci := 0) (q0 := 0) rfl rfl) rfl rfl dX0_add_82) ?_
            refine W.eq (g2 := F0 m 85 ls [.double (s_lev W9 S9 k)]) rfl ?_
            refine lv_aload_n hx hb dX0_add_85 rfl (lv_at hl 1 rfl) ?_
            refine lv_iload hx hb dX0_add_86 (lv_at hl 0 rfl) ?_
            refine lv_iconst (v := 1) hx hb dX0_add_88 (by decide) ?_
            refine my_isub (w := nI (k - 1)) hx hb dX0_add_89 (pk_sub (a := k) (b := 1) (by omega)) ?_
            refine my_goR (v := (some (.double (s_lev W9 S9 (k - 1))))) (my_runV (bytes := cX0_levelOf) (maxL := 2) (ret := (some .double)) (n := 1) (As := [.int (nI (k - 1))]) (rest := [.double (s_lev W9 S9 k)]) S hl.1 (kk_X0_levelOf l D kd ki kz kl z ad c9 W9 S9 (k - 1) (by omega) ((BM_f hB (j := k - 1) (by omega)).2.1) ((BM_f hB (j := k - 1) (by omega)).1)) rfl ⟨rfl, rfl⟩ gX0_add_X0_levelOf (by decide +kernel) rfl ⟨Nat.le_of_ble_eq_true rfl, Nat.le_of_ble_eq_true rfl⟩ (my_preR (my_C_S hC hS hz) (my_P_sub (wc := [(ad 8, .inr (0, [.ref (ad 9), .ref (ad 11), .ref (ad 13), .int (nI c9)])), (ad 9, .inr (4, [.ref (ad 10)])), (ad 10, .inl (kd, 40, .inr (.inr (.inr (.inl W9))))), (ad 11, .inr (4, [.ref (ad 12)])), (ad 12, .inl (kd, 40, .inr (.inr (.inr (.inl S9)))))]) hP [0, 1, 2, 3, 4] rfl)) (va_recv hC.1 hP (ci := 0) (q0 := 0) rfl rfl) rfl rfl dX0_add_90) ?_
            refine W.eq (g2 := F0 m 93 ls [.double (s_lev W9 S9 (k - 1)), .double (s_lev W9 S9 k)]) rfl ?_
            refine lv_dcmp hx hb dX0_add_93 ?_
            refine lv_if_ge (tgt := 109) hx hb dX0_add_94 (by decide) (fun c_94 => ?_) (fun c_94 => ?_)
            · have c_94 := cv_g_ge_t c_94
              exact my_vretW hx hb hr hlocks hP (by subst hc; rw [show s_ba bc BW BS BZ y wt = (k + 1, W9, S9, Z9) from hs.symm.trans (s_jn_stop (by omega) c_94)]) hS dX0_add_109
            · have c_94 := cv_g_ge_f c_94
              refine lv_aload_n hx hb dX0_add_97 rfl (lv_at hl 1 rfl) ?_
              refine lv_iload hx hb dX0_add_98 (lv_at hl 0 rfl) ?_
              refine my_goW (v := none) (w1 := [(ad 8, .inr (0, [.ref (ad 9), .ref (ad 11), .ref (ad 13), .int (nI k)])), (ad 9, .inr (4, [.ref (ad 10)])), (ad 10, .inl (kd, 40, .inr (.inr (.inr (.inl (s_jd W9 k)))))), (ad 11, .inr (4, [.ref (ad 12)])), (ad 12, .inl (kd, 40, .inr (.inr (.inr (.inl (s_jd S9 k)))))), (ad 13, .inl (ki, 40, .inl (s_jz Z9 k)))]) (wx' := [(ad 8, .inr (0, [.ref (ad 9), .ref (ad 11), .ref (ad 13), .int (nI k)])), (ad 9, .inr (4, [.ref (ad 10)])), (ad 10, .inl (kd, 40, .inr (.inr (.inr (.inl (s_jd W9 k)))))), (ad 11, .inr (4, [.ref (ad 12)])), (ad 12, .inl (kd, 40, .inr (.inr (.inr (.inl (s_jd S9 k)))))), (ad 13, .inl (ki, 40, .inl (s_jz Z9 k)))]) (my_runV (bytes := cX0_joinWithLeft) (maxL := 3) (ret := none) (n := 1) (As := [.int (nI k)]) (rest := []) S hl.1 (kk_X0_joinWithLeft l D kd ki kz kl z ad c9 W9 S9 Z9 k (by omega) (by omega) ((BM_add hB (by omega)).1) ((BM_add hB (by omega)).2)) rfl ⟨rfl, rfl⟩ gX0_add_X0_joinWithLeft (by decide +kernel) rfl ⟨Nat.le_of_ble_eq_true rfl, Nat.le_of_ble_eq_true rfl⟩ (my_preW (my_C_S hC hS hz) (my_P_sub (wc := [(ad 8, .inr (0, [.ref (ad 9), .ref (ad 11), .ref (ad 13), .int (nI c9)])), (ad 9, .inr (4, [.ref (ad 10)])), (ad 10, .inl (kd, 40, .inr (.inr (.inr (.inl W9))))), (ad 11, .inr (4, [.ref (ad 12)])), (ad 12, .inl (kd, 40, .inr (.inr (.inr (.inl S9))))), (ad 13, .inl (ki, 40, .inl Z9))]) hP [0, 1, 2, 3, 4, 5] rfl) (my_D_sub hD hz [0, 1, 2, 3, 4, 5] (by decide) rfl)) (va_recv hC.1 hP (ci := 0) (q0 := 0) rfl rfl) rfl rfl dX0_add_100) hP hD hS [0, 1, 2, 3, 4, 5] rfl rfl rfl (fun H locs hP hD hS => ?_)
              refine W.eq (g2 := F0 m 103 ls []) rfl ?_
              refine lv_iinc (v := nI (k - 1)) (k := 0) (lv' := [(5, .int (nI (k - 1))), (0, .ref (ad 8))]) hx hb dX0_add_103 hl rfl (my_dec (by omega)) (by decide) rfl (fun ls hl => ?_)
              refine lv_goto (tgt := 74) hx hb dX0_add_106 (by decide) ?_
              exact ih_74 (k - 1) k (s_jd W9 k) (s_jd S9 k) (s_jz Z9 k) (by omega) (by omega) (BM_step hB (by omega)) ((s_jn_step (by omega) c_94).symm.trans hs) _ _ hP hD hS _ (lv_sub hl [0, 1] rfl)
      exact loop_74 _ bc (bc + 1) (vf_upd BW bc wt) (vf_upd BS bc (FP.dmul wt y)) (upd BZ bc 1) (Nat.lt_succ_self _) (rfl) (hM) (rfl) _ _ hP hD hS _ (lv_sub hl [0, 1] rfl)
    · have c_16 : ¬ bc < 40 := fun h9 => c_16 ((nI_ltI (a := bc) (b := 40) (by omega) (by omega)).mpr h9)
      exact absurd c_16 (by omega)

theorem iw_X2_startAt_X2 : ∀ w ∈ wsX20, w ∈ wsX2_startAt := fun w h => List.mem_cons_of_mem _ (List.mem_append_right _ (h))
set_option maxHeartbeats 4000000 in
set_option maxRecDepth 100000 in
theorem kk_X2_startAt (l : Launch) (D : va_G) (kd ki kz kl : ClassId) (z : Nat) (ad : Nat → Nat) (e0 : UInt64) (e1 : UInt64) (e2 : UInt64) (e3 : UInt64) (e4 : UInt64) (x : UInt64) (y : UInt64) : my_WR l D kd ki kz kl z yX2_startAt wsX2_startAt ({ frames := 0, cells := 0, slots := 0, locals := 0 }) [.ref (ad 21), .double x, .double y] [(ad 21, .inr (2, [.double e0, .double e1, .double e2, .double e3, .double e4]))] [(ad 21, .inr (2, [.double x, .double y, .double e2, .double e3, .double e4]))] none := by
  refine my_WR_of (cc := cX2_startAt) (maxL := 5) (ret := none) (by decide) rfl (Nat.le_of_ble_eq_true rfl) ?_
  intro p e s m below meth c S hr hlocks hC hP hD hz hS ls hl
  have S : CallFix p m c cX2_startAt 5 s ([.ref (ad 21), .double x, .double y] : List Value).toArray wsX2_startAt RX2 := S
  obtain ⟨hx, hb, hml, hown, hts⟩ := id S
  have hl : lv_has ls 5 [(0, .ref (ad 21)), (1, .double x), (3, .double y)] := hl
  suffices K0 : ∀ (H : Heap) (locs : List Loc), va_P D vwCl [(ad 21, .inr (2, [.double e0, .double e1, .double e2, .double e3, .double e4]))] H → va_D (my_A [(ad 21, .inr (2, [.double e0, .double e1, .double e2, .double e3, .double e4]))]) [(ad 21, .inr (2, [.double e0, .double e1, .double e2, .double e3, .double e4]))] → va_S (my_A [(ad 21, .inr (2, [.double e0, .double e1, .double e2, .double e3, .double e4]))]) s.heap H locs → W p l e ({ frames := 0, cells := 0, slots := 0, locals := 0 }) s m ([.ref (ad 21), .double x, .double y] : List Value).toArray below meth c H locs 0 0 (my_WQ below D ([.ref (ad 21), .double x, .double y] : List Value).toArray s [(ad 21, .inr (2, [.double e0, .double e1, .double e2, .double e3, .double e4]))] [(ad 21, .inr (2, [.double x, .double y, .double e2, .double e3, .double e4]))] none) (F0 m 0 ls []) from K0 _ _ hP hD hS
  intro H locs hP hD hS
  refine lv_aload_n hx hb dX2_startAt_0 rfl (lv_at hl 0 rfl) ?_
  refine lv_dload_n hx hb dX2_startAt_1 rfl (lv_at hl 1 rfl) ?_
  refine va_put (D := D) (ci := 2) (v := .double x) (ty := .double) (C := RX2) (T := TX2) (N := 5) hx hb hts iw_X2_startAt_X2 tyX2 tyX2_ok nmX2 hown hC.1 hP hD hS 0 rfl rfl 0 (by decide) (hts (.fieldLink RX2 7 "MonotoneSpline$Piece" "start" "D") (List.mem_of_getElem? (l := wsX2_startAt) (i := 1) rfl)) (fun _ h9 => h9) rfl (by decide +kernel) rfl rfl (Nat.le_of_ble_eq_true rfl) dX2_startAt_2 (fun H locs hP hD hS => ?_)
  have hP : va_P D vwCl [(ad 21, .inr (2, [.double x, .double e1, .double e2, .double e3, .double e4]))] H := hP
  have hD : va_D (my_A [(ad 21, .inr (2, [.double e0, .double e1, .double e2, .double e3, .double e4]))]) [(ad 21, .inr (2, [.double x, .double e1, .double e2, .double e3, .double e4]))] := hD
  refine lv_aload_n hx hb dX2_startAt_5 rfl (lv_at hl 0 rfl) ?_
  refine lv_dload_n hx hb dX2_startAt_6 rfl (lv_at hl 2 rfl) ?_
  refine va_put (D := D) (ci := 2) (v := .double y) (ty := .double) (C := RX2) (T := TX2) (N := 5) hx hb hts iw_X2_startAt_X2 tyX2 tyX2_ok nmX2 hown hC.1 hP hD hS 0 rfl rfl 1 (by decide) (hts (.fieldLink RX2 13 "MonotoneSpline$Piece" "height" "D") (List.mem_of_getElem? (l := wsX2_startAt) (i := 2) rfl)) (fun _ h9 => h9) rfl (by decide +kernel) rfl rfl (Nat.le_of_ble_eq_true rfl) dX2_startAt_7 (fun H locs hP hD hS => ?_)
  have hP : va_P D vwCl [(ad 21, .inr (2, [.double x, .double y, .double e2, .double e3, .double e4]))] H := hP
  have hD : va_D (my_A [(ad 21, .inr (2, [.double e0, .double e1, .double e2, .double e3, .double e4]))]) [(ad 21, .inr (2, [.double x, .double y, .double e2, .double e3, .double e4]))] := hD
  exact my_vretW hx hb hr hlocks hP (rfl) hS dX2_startAt_10

theorem iw_X2_bend_X2 : ∀ w ∈ wsX20, w ∈ wsX2_bend := fun w h => List.mem_cons_of_mem _ (List.mem_append_right _ (h))
set_option maxHeartbeats 4000000 in
set_option maxRecDepth 100000 in
theorem kk_X2_bend (l : Launch) (D : va_G) (kd ki kz kl : ClassId) (z : Nat) (ad : Nat → Nat) (e0 : UInt64) (e1 : UInt64) (e2 : UInt64) (e3 : UInt64) (e4 : UInt64) (h9 : UInt64) (d : UInt64) (m9 : UInt64) (n9 : UInt64) (h1 : fx_n (FP.dmul 4613937818241073152 d)) (h2 : fx_n (FP.dmul 4611686018427387904 m9)) (h3 : fx_n (FP.dsub (FP.dmul 4613937818241073152 d) (FP.dmul 4611686018427387904 m9))) (h4 : fx_n (FP.dsub (FP.dsub (FP.dmul 4613937818241073152 d) (FP.dmul 4611686018427387904 m9)) n9)) (h5 : fx_n (FP.dadd m9 n9)) (h6 : fx_n (FP.dmul 4611686018427387904 d)) (h7 : fx_n (FP.dsub (FP.dadd m9 n9) (FP.dmul 4611686018427387904 d))) (h8 : fx_n (FP.dmul h9 h9)) (hzw : ¬ sp_eq h9 0) (hzz : ¬ sp_eq (FP.dmul h9 h9) 0) (hp : fx_n (s_p d m9 n9 h9)) (hq : fx_n (s_q d m9 n9 h9)) : my_WR l D kd ki kz kl z yX2_bend wsX2_bend ({ frames := 1, cells := 0, slots := 0, locals := 23 }) [.ref (ad 21), .double h9, .double d, .double m9, .double n9] [(ad 21, .inr (2, [.double e0, .double e1, .double e2, .double e3, .double e4]))] [(ad 21, .inr (2, [.double e0, .double e1, .double m9, .double (s_p d m9 n9 h9), .double (s_q d m9 n9 h9)]))] none := by
  refine my_WR_of (cc := cX2_bend) (maxL := 11) (ret := none) (by decide) rfl (Nat.le_of_ble_eq_true rfl) ?_
  intro p e s m below meth c S hr hlocks hC hP hD hz hS ls hl
  have S : CallFix p m c cX2_bend 11 s ([.ref (ad 21), .double h9, .double d, .double m9, .double n9] : List Value).toArray wsX2_bend RX2 := S
  obtain ⟨hx, hb, hml, hown, hts⟩ := id S
  have hl : lv_has ls 11 [(0, .ref (ad 21)), (1, .double h9), (3, .double d), (5, .double m9), (7, .double n9)] := hl
  suffices K0 : ∀ (H : Heap) (locs : List Loc), va_P D vwCl [(ad 21, .inr (2, [.double e0, .double e1, .double e2, .double e3, .double e4]))] H → va_D (my_A [(ad 21, .inr (2, [.double e0, .double e1, .double e2, .double e3, .double e4]))]) [(ad 21, .inr (2, [.double e0, .double e1, .double e2, .double e3, .double e4]))] → va_S (my_A [(ad 21, .inr (2, [.double e0, .double e1, .double e2, .double e3, .double e4]))]) s.heap H locs → W p l e ({ frames := 1, cells := 0, slots := 0, locals := 23 }) s m ([.ref (ad 21), .double h9, .double d, .double m9, .double n9] : List Value).toArray below meth c H locs 0 0 (my_WQ below D ([.ref (ad 21), .double h9, .double d, .double m9, .double n9] : List Value).toArray s [(ad 21, .inr (2, [.double e0, .double e1, .double e2, .double e3, .double e4]))] [(ad 21, .inr (2, [.double e0, .double e1, .double m9, .double (s_p d m9 n9 h9), .double (s_q d m9 n9 h9)]))] none) (F0 m 0 ls []) from K0 _ _ hP hD hS
  intro H locs hP hD hS
  refine lv_aload_n hx hb dX2_bend_0 rfl (lv_at hl 0 rfl) ?_
  refine lv_dload hx hb dX2_bend_1 (lv_at hl 3 rfl) ?_
  refine va_put (D := D) (ci := 2) (v := .double m9) (ty := .double) (C := RX2) (T := TX2) (N := 5) hx hb hts iw_X2_bend_X2 tyX2 tyX2_ok nmX2 hown hC.1 hP hD hS 0 rfl rfl 2 (by decide) (hts (.fieldLink RX2 16 "MonotoneSpline$Piece" "m" "D") (List.mem_of_getElem? (l := wsX2_bend) (i := 1) rfl)) (fun _ h9 => h9) rfl (by decide +kernel) rfl rfl (Nat.le_of_ble_eq_true rfl) dX2_bend_3 (fun H locs hP hD hS => ?_)
  have hP : va_P D vwCl [(ad 21, .inr (2, [.double e0, .double e1, .double m9, .double e3, .double e4]))] H := hP
  have hD : va_D (my_A [(ad 21, .inr (2, [.double e0, .double e1, .double e2, .double e3, .double e4]))]) [(ad 21, .inr (2, [.double e0, .double e1, .double m9, .double e3, .double e4]))] := hD
  refine lv_dload hx hb dX2_bend_6 (lv_at hl 4 rfl) ?_
  refine lv_dstore (lv' := [(9, .double n9), (0, .ref (ad 21)), (1, .double h9), (3, .double d), (5, .double m9), (7, .double n9)]) hx hb dX2_bend_8 hl (by decide) rfl (fun ls hl => ?_)
  refine lv_aload_n hx hb dX2_bend_10 rfl (lv_at hl 1 rfl) ?_
  refine lv_ldc2d hx hb hown (hts (.constantDouble RX2 19 (4613937818241073152)) (List.mem_of_getElem? (l := wsX2_bend) (i := 2) rfl)) dX2_bend_11 ?_
  refine lv_dload_n hx hb dX2_bend_14 rfl (lv_at hl 3 rfl) ?_
  refine lv_dmul hx hb dX2_bend_15 (fx_n64 (h1)) ?_
  refine lv_ldc2d hx hb hown (hts (.constantDouble RX2 21 (4611686018427387904)) (List.mem_of_getElem? (l := wsX2_bend) (i := 3) rfl)) dX2_bend_16 ?_
  refine lv_aload_n hx hb dX2_bend_19 rfl (lv_at hl 1 rfl) ?_
  refine va_get (D := D) (ci := 2) (v := .double m9) (C := RX2) (T := TX2) (N := 5) hx hb hts iw_X2_bend_X2 hown hC.1 hP 0 rfl rfl 2 (by decide) (hts (.fieldLink RX2 16 "MonotoneSpline$Piece" "m" "D") (List.mem_of_getElem? (l := wsX2_bend) (i := 1) rfl)) (fun _ h9 => h9) rfl dX2_bend_20 ?_
  refine lv_dmul hx hb dX2_bend_23 (fx_n64 (h2)) ?_
  refine lv_dsub hx hb dX2_bend_24 (fx_n64 (h3)) ?_
  refine lv_dload hx hb dX2_bend_25 (lv_at hl 0 rfl) ?_
  refine lv_dsub hx hb dX2_bend_27 (fx_n64 (h4)) ?_
  refine lv_dload_n hx hb dX2_bend_28 rfl (lv_at hl 2 rfl) ?_
  refine my_goR (v := (some (.double (FP.ddiv (FP.dsub (FP.dsub (FP.dmul 4613937818241073152 d) (FP.dmul 4611686018427387904 m9)) n9) h9)))) (my_runSN (bytes := cX6_ratio) (maxL := 4) (ret := (some .double)) (n := 2) (As := [.double (FP.dsub (FP.dsub (FP.dmul 4613937818241073152 d) (FP.dmul 4611686018427387904 m9)) n9), .double h9]) (rest := [.ref (ad 21)]) S hl.1 (kk_X6_ratio l D kd ki kz kl z (FP.dsub (FP.dsub (FP.dmul 4613937818241073152 d) (FP.dmul 4611686018427387904 m9)) n9) h9 (hzw) (hp)) rfl ⟨rfl, rfl⟩ gX2_bend_X6_ratio_n23 (hC.2.1 _ (List.mem_of_getElem? (l := my_nest) (i := 15) rfl)) (List.mem_of_getElem? (l := wsX2_bend) (i := 7) rfl) (List.mem_of_getElem? (l := wsX2_bend) (i := 6) rfl) (by decide +kernel) rfl ⟨Nat.le_of_ble_eq_true rfl, Nat.le_of_ble_eq_true rfl⟩ (my_preR (my_C_S hC hS hz) (my_P_sub (wc := []) hP [] rfl)) rfl rfl dX2_bend_29) ?_
  refine W.eq (g2 := F0 m 32 ls [.double (FP.ddiv (FP.dsub (FP.dsub (FP.dmul 4613937818241073152 d) (FP.dmul 4611686018427387904 m9)) n9) h9), .ref (ad 21)]) rfl ?_
  refine va_put (D := D) (ci := 2) (v := .double (FP.ddiv (FP.dsub (FP.dsub (FP.dmul 4613937818241073152 d) (FP.dmul 4611686018427387904 m9)) n9) h9)) (ty := .double) (C := RX2) (T := TX2) (N := 5) hx hb hts iw_X2_bend_X2 tyX2 tyX2_ok nmX2 hown hC.1 hP hD hS 0 rfl rfl 3 (by decide) (hts (.fieldLink RX2 29 "MonotoneSpline$Piece" "p" "D") (List.mem_of_getElem? (l := wsX2_bend) (i := 4) rfl)) (fun _ h9 => h9) rfl (by decide +kernel) rfl rfl (Nat.le_of_ble_eq_true rfl) dX2_bend_32 (fun H locs hP hD hS => ?_)
  have hP : va_P D vwCl [(ad 21, .inr (2, [.double e0, .double e1, .double m9, .double (FP.ddiv (FP.dsub (FP.dsub (FP.dmul 4613937818241073152 d) (FP.dmul 4611686018427387904 m9)) n9) h9), .double e4]))] H := hP
  have hD : va_D (my_A [(ad 21, .inr (2, [.double e0, .double e1, .double e2, .double e3, .double e4]))]) [(ad 21, .inr (2, [.double e0, .double e1, .double m9, .double (FP.ddiv (FP.dsub (FP.dsub (FP.dmul 4613937818241073152 d) (FP.dmul 4611686018427387904 m9)) n9) h9), .double e4]))] := hD
  refine lv_aload_n hx hb dX2_bend_35 rfl (lv_at hl 1 rfl) ?_
  refine lv_aload_n hx hb dX2_bend_36 rfl (lv_at hl 1 rfl) ?_
  refine va_get (D := D) (ci := 2) (v := .double m9) (C := RX2) (T := TX2) (N := 5) hx hb hts iw_X2_bend_X2 hown hC.1 hP 0 rfl rfl 2 (by decide) (hts (.fieldLink RX2 16 "MonotoneSpline$Piece" "m" "D") (List.mem_of_getElem? (l := wsX2_bend) (i := 1) rfl)) (fun _ h9 => h9) rfl dX2_bend_37 ?_
  refine lv_dload hx hb dX2_bend_40 (lv_at hl 0 rfl) ?_
  refine lv_dadd hx hb dX2_bend_42 (fx_n64 (h5)) ?_
  refine lv_ldc2d hx hb hown (hts (.constantDouble RX2 21 (4611686018427387904)) (List.mem_of_getElem? (l := wsX2_bend) (i := 3) rfl)) dX2_bend_43 ?_
  refine lv_dload_n hx hb dX2_bend_46 rfl (lv_at hl 3 rfl) ?_
  refine lv_dmul hx hb dX2_bend_47 (fx_n64 (h6)) ?_
  refine lv_dsub hx hb dX2_bend_48 (fx_n64 (h7)) ?_
  refine lv_dload_n hx hb dX2_bend_49 rfl (lv_at hl 2 rfl) ?_
  refine lv_dload_n hx hb dX2_bend_50 rfl (lv_at hl 2 rfl) ?_
  refine lv_dmul hx hb dX2_bend_51 (fx_n64 (h8)) ?_
  refine my_goR (v := (some (.double (FP.ddiv (FP.dsub (FP.dadd m9 n9) (FP.dmul 4611686018427387904 d)) (FP.dmul h9 h9))))) (my_runSN (bytes := cX6_ratio) (maxL := 4) (ret := (some .double)) (n := 2) (As := [.double (FP.dsub (FP.dadd m9 n9) (FP.dmul 4611686018427387904 d)), .double (FP.dmul h9 h9)]) (rest := [.ref (ad 21)]) S hl.1 (kk_X6_ratio l D kd ki kz kl z (FP.dsub (FP.dadd m9 n9) (FP.dmul 4611686018427387904 d)) (FP.dmul h9 h9) (hzz) (hq)) rfl ⟨rfl, rfl⟩ gX2_bend_X6_ratio_n23 (hC.2.1 _ (List.mem_of_getElem? (l := my_nest) (i := 15) rfl)) (List.mem_of_getElem? (l := wsX2_bend) (i := 7) rfl) (List.mem_of_getElem? (l := wsX2_bend) (i := 6) rfl) (by decide +kernel) rfl ⟨Nat.le_of_ble_eq_true rfl, Nat.le_of_ble_eq_true rfl⟩ (my_preR (my_C_S hC hS hz) (my_P_sub (wc := []) hP [] rfl)) rfl rfl dX2_bend_52) ?_
  refine W.eq (g2 := F0 m 55 ls [.double (FP.ddiv (FP.dsub (FP.dadd m9 n9) (FP.dmul 4611686018427387904 d)) (FP.dmul h9 h9)), .ref (ad 21)]) rfl ?_
  refine va_put (D := D) (ci := 2) (v := .double (FP.ddiv (FP.dsub (FP.dadd m9 n9) (FP.dmul 4611686018427387904 d)) (FP.dmul h9 h9))) (ty := .double) (C := RX2) (T := TX2) (N := 5) hx hb hts iw_X2_bend_X2 tyX2 tyX2_ok nmX2 hown hC.1 hP hD hS 0 rfl rfl 4 (by decide) (hts (.fieldLink RX2 32 "MonotoneSpline$Piece" "q" "D") (List.mem_of_getElem? (l := wsX2_bend) (i := 5) rfl)) (fun _ h9 => h9) rfl (by decide +kernel) rfl rfl (Nat.le_of_ble_eq_true rfl) dX2_bend_55 (fun H locs hP hD hS => ?_)
  have hP : va_P D vwCl [(ad 21, .inr (2, [.double e0, .double e1, .double m9, .double (FP.ddiv (FP.dsub (FP.dsub (FP.dmul 4613937818241073152 d) (FP.dmul 4611686018427387904 m9)) n9) h9), .double (FP.ddiv (FP.dsub (FP.dadd m9 n9) (FP.dmul 4611686018427387904 d)) (FP.dmul h9 h9))]))] H := hP
  have hD : va_D (my_A [(ad 21, .inr (2, [.double e0, .double e1, .double e2, .double e3, .double e4]))]) [(ad 21, .inr (2, [.double e0, .double e1, .double m9, .double (FP.ddiv (FP.dsub (FP.dsub (FP.dmul 4613937818241073152 d) (FP.dmul 4611686018427387904 m9)) n9) h9), .double (FP.ddiv (FP.dsub (FP.dadd m9 n9) (FP.dmul 4611686018427387904 d)) (FP.dmul h9 h9))]))] := hD
  exact my_vretW hx hb hr hlocks hP (rfl) hS dX2_bend_58

theorem iw_X2_heightAt_X2 : ∀ w ∈ wsX20, w ∈ wsX2_heightAt := fun w h => List.mem_cons_of_mem _ (List.mem_append_right _ (h))
set_option maxHeartbeats 4000000 in
set_option maxRecDepth 100000 in
theorem kk_X2_heightAt (l : Launch) (D : va_G) (kd ki kz kl : ClassId) (z : Nat) (ad : Nat → Nat) (e0 : UInt64) (e1 : UInt64) (e2 : UInt64) (e3 : UInt64) (e4 : UInt64) (x : UInt64) (hE : PE e1 e2 e3 e4) (ht : fx_B 1170 (FP.dsub x e0)) : my_RO l D kd ki kz kl z yX2_heightAt wsX2_heightAt ({ frames := 0, cells := 0, slots := 0, locals := 0 }) [.ref (ad 21), .double x] [(ad 21, .inr (2, [.double e0, .double e1, .double e2, .double e3, .double e4]))] (some (.double (s_h e1 e2 e3 e4 (FP.dsub x e0)))) := by
  refine my_RO_of (cc := cX2_heightAt) (maxL := 5) (ret := (some .double)) (by decide) rfl (Nat.le_of_ble_eq_true rfl) ?_
  intro p e s m below meth c S hr hlocks hC hP ls hl
  have S : CallFix p m c cX2_heightAt 5 s ([.ref (ad 21), .double x] : List Value).toArray wsX2_heightAt RX2 := S
  obtain ⟨hx, hb, hml, hown, hts⟩ := id S
  have hl : lv_has ls 5 [(0, .ref (ad 21)), (1, .double x)] := hl
  obtain ⟨a1, a2, a3, a4, a5, a6⟩ := PE_h hE ht
  refine lv_dload_n hx hb dX2_heightAt_0 rfl (lv_at hl 1 rfl) ?_
  refine lv_aload_n hx hb dX2_heightAt_1 rfl (lv_at hl 0 rfl) ?_
  refine va_get (D := D) (ci := 2) (v := .double e0) (C := RX2) (T := TX2) (N := 5) hx hb hts iw_X2_heightAt_X2 hown hC.1 hP 0 rfl rfl 0 (by decide) (hts (.fieldLink RX2 7 "MonotoneSpline$Piece" "start" "D") (List.mem_of_getElem? (l := wsX2_heightAt) (i := 1) rfl)) (fun _ h9 => h9) rfl dX2_heightAt_2 ?_
  refine lv_dsub hx hb dX2_heightAt_5 (fx_n64 (fx_B_n ht (by omega))) ?_
  refine lv_dstore_n (lv' := [(3, .double (FP.dsub x e0)), (0, .ref (ad 21)), (1, .double x)]) hx hb dX2_heightAt_6 rfl hl (by decide) rfl (fun ls hl => ?_)
  refine lv_aload_n hx hb dX2_heightAt_7 rfl (lv_at hl 1 rfl) ?_
  refine va_get (D := D) (ci := 2) (v := .double e1) (C := RX2) (T := TX2) (N := 5) hx hb hts iw_X2_heightAt_X2 hown hC.1 hP 0 rfl rfl 1 (by decide) (hts (.fieldLink RX2 13 "MonotoneSpline$Piece" "height" "D") (List.mem_of_getElem? (l := wsX2_heightAt) (i := 2) rfl)) (fun _ h9 => h9) rfl dX2_heightAt_8 ?_
  refine lv_dload_n hx hb dX2_heightAt_11 rfl (lv_at hl 0 rfl) ?_
  refine lv_aload_n hx hb dX2_heightAt_12 rfl (lv_at hl 1 rfl) ?_
  refine va_get (D := D) (ci := 2) (v := .double e2) (C := RX2) (T := TX2) (N := 5) hx hb hts iw_X2_heightAt_X2 hown hC.1 hP 0 rfl rfl 2 (by decide) (hts (.fieldLink RX2 16 "MonotoneSpline$Piece" "m" "D") (List.mem_of_getElem? (l := wsX2_heightAt) (i := 3) rfl)) (fun _ h9 => h9) rfl dX2_heightAt_13 ?_
  refine lv_dload_n hx hb dX2_heightAt_16 rfl (lv_at hl 0 rfl) ?_
  refine lv_aload_n hx hb dX2_heightAt_17 rfl (lv_at hl 1 rfl) ?_
  refine va_get (D := D) (ci := 2) (v := .double e3) (C := RX2) (T := TX2) (N := 5) hx hb hts iw_X2_heightAt_X2 hown hC.1 hP 0 rfl rfl 3 (by decide) (hts (.fieldLink RX2 29 "MonotoneSpline$Piece" "p" "D") (List.mem_of_getElem? (l := wsX2_heightAt) (i := 4) rfl)) (fun _ h9 => h9) rfl dX2_heightAt_18 ?_
  refine lv_dload_n hx hb dX2_heightAt_21 rfl (lv_at hl 0 rfl) ?_
  refine lv_aload_n hx hb dX2_heightAt_22 rfl (lv_at hl 1 rfl) ?_
  refine va_get (D := D) (ci := 2) (v := .double e4) (C := RX2) (T := TX2) (N := 5) hx hb hts iw_X2_heightAt_X2 hown hC.1 hP 0 rfl rfl 4 (by decide) (hts (.fieldLink RX2 32 "MonotoneSpline$Piece" "q" "D") (List.mem_of_getElem? (l := wsX2_heightAt) (i := 5) rfl)) (fun _ h9 => h9) rfl dX2_heightAt_23 ?_
  refine lv_dmul hx hb dX2_heightAt_26 (fx_n64 (a1)) ?_
  refine lv_dadd hx hb dX2_heightAt_27 (fx_n64 (a2)) ?_
  refine lv_dmul hx hb dX2_heightAt_28 (fx_n64 (a3)) ?_
  refine lv_dadd hx hb dX2_heightAt_29 (fx_n64 (a4)) ?_
  refine lv_dmul hx hb dX2_heightAt_30 (fx_n64 (a5)) ?_
  refine lv_dadd hx hb dX2_heightAt_31 (fx_n64 (fx_B_n a6 (by omega))) ?_
  exact my_dretR hx hb hr hlocks (rfl) dX2_heightAt_32

theorem iw_X2_steepnessAt_X2 : ∀ w ∈ wsX20, w ∈ wsX2_steepnessAt := fun w h => List.mem_cons_of_mem _ (List.mem_append_right _ (h))
set_option maxHeartbeats 4000000 in
set_option maxRecDepth 100000 in
theorem kk_X2_steepnessAt (l : Launch) (D : va_G) (kd ki kz kl : ClassId) (z : Nat) (ad : Nat → Nat) (e0 : UInt64) (e1 : UInt64) (e2 : UInt64) (e3 : UInt64) (e4 : UInt64) (x : UInt64) (hE : PE e1 e2 e3 e4) (ht : fx_B 1170 (FP.dsub x e0)) : my_RO l D kd ki kz kl z yX2_steepnessAt wsX2_steepnessAt ({ frames := 0, cells := 0, slots := 0, locals := 0 }) [.ref (ad 21), .double x] [(ad 21, .inr (2, [.double e0, .double e1, .double e2, .double e3, .double e4]))] (some (.double (s_t e2 e3 e4 (FP.dsub x e0)))) := by
  refine my_RO_of (cc := cX2_steepnessAt) (maxL := 5) (ret := (some .double)) (by decide) rfl (Nat.le_of_ble_eq_true rfl) ?_
  intro p e s m below meth c S hr hlocks hC hP ls hl
  have S : CallFix p m c cX2_steepnessAt 5 s ([.ref (ad 21), .double x] : List Value).toArray wsX2_steepnessAt RX2 := S
  obtain ⟨hx, hb, hml, hown, hts⟩ := id S
  have hl : lv_has ls 5 [(0, .ref (ad 21)), (1, .double x)] := hl
  obtain ⟨a1, a2, a3, a4, a5, a6⟩ := PE_t hE ht
  refine lv_dload_n hx hb dX2_steepnessAt_0 rfl (lv_at hl 1 rfl) ?_
  refine lv_aload_n hx hb dX2_steepnessAt_1 rfl (lv_at hl 0 rfl) ?_
  refine va_get (D := D) (ci := 2) (v := .double e0) (C := RX2) (T := TX2) (N := 5) hx hb hts iw_X2_steepnessAt_X2 hown hC.1 hP 0 rfl rfl 0 (by decide) (hts (.fieldLink RX2 7 "MonotoneSpline$Piece" "start" "D") (List.mem_of_getElem? (l := wsX2_steepnessAt) (i := 1) rfl)) (fun _ h9 => h9) rfl dX2_steepnessAt_2 ?_
  refine lv_dsub hx hb dX2_steepnessAt_5 (fx_n64 (fx_B_n ht (by omega))) ?_
  refine lv_dstore_n (lv' := [(3, .double (FP.dsub x e0)), (0, .ref (ad 21)), (1, .double x)]) hx hb dX2_steepnessAt_6 rfl hl (by decide) rfl (fun ls hl => ?_)
  refine lv_aload_n hx hb dX2_steepnessAt_7 rfl (lv_at hl 1 rfl) ?_
  refine va_get (D := D) (ci := 2) (v := .double e2) (C := RX2) (T := TX2) (N := 5) hx hb hts iw_X2_steepnessAt_X2 hown hC.1 hP 0 rfl rfl 2 (by decide) (hts (.fieldLink RX2 16 "MonotoneSpline$Piece" "m" "D") (List.mem_of_getElem? (l := wsX2_steepnessAt) (i := 2) rfl)) (fun _ h9 => h9) rfl dX2_steepnessAt_8 ?_
  refine lv_dload_n hx hb dX2_steepnessAt_11 rfl (lv_at hl 0 rfl) ?_
  refine lv_ldc2d hx hb hown (hts (.constantDouble RX2 21 (4611686018427387904)) (List.mem_of_getElem? (l := wsX2_steepnessAt) (i := 3) rfl)) dX2_steepnessAt_12 ?_
  refine lv_aload_n hx hb dX2_steepnessAt_15 rfl (lv_at hl 1 rfl) ?_
  refine va_get (D := D) (ci := 2) (v := .double e3) (C := RX2) (T := TX2) (N := 5) hx hb hts iw_X2_steepnessAt_X2 hown hC.1 hP 0 rfl rfl 3 (by decide) (hts (.fieldLink RX2 29 "MonotoneSpline$Piece" "p" "D") (List.mem_of_getElem? (l := wsX2_steepnessAt) (i := 4) rfl)) (fun _ h9 => h9) rfl dX2_steepnessAt_16 ?_
  refine lv_dmul hx hb dX2_steepnessAt_19 (fx_n64 (a1)) ?_
  refine lv_dload_n hx hb dX2_steepnessAt_20 rfl (lv_at hl 0 rfl) ?_
  refine lv_ldc2d hx hb hown (hts (.constantDouble RX2 19 (4613937818241073152)) (List.mem_of_getElem? (l := wsX2_steepnessAt) (i := 5) rfl)) dX2_steepnessAt_21 ?_
  refine lv_aload_n hx hb dX2_steepnessAt_24 rfl (lv_at hl 1 rfl) ?_
  refine va_get (D := D) (ci := 2) (v := .double e4) (C := RX2) (T := TX2) (N := 5) hx hb hts iw_X2_steepnessAt_X2 hown hC.1 hP 0 rfl rfl 4 (by decide) (hts (.fieldLink RX2 32 "MonotoneSpline$Piece" "q" "D") (List.mem_of_getElem? (l := wsX2_steepnessAt) (i := 6) rfl)) (fun _ h9 => h9) rfl dX2_steepnessAt_25 ?_
  refine lv_dmul hx hb dX2_steepnessAt_28 (fx_n64 (a2)) ?_
  refine lv_dmul hx hb dX2_steepnessAt_29 (fx_n64 (a3)) ?_
  refine lv_dadd hx hb dX2_steepnessAt_30 (fx_n64 (a4)) ?_
  refine lv_dmul hx hb dX2_steepnessAt_31 (fx_n64 (a5)) ?_
  refine lv_dadd hx hb dX2_steepnessAt_32 (fx_n64 (fx_B_n a6 (by omega))) ?_
  exact my_dretR hx hb hr hlocks (rfl) dX2_steepnessAt_33

theorem iw_X2_partUpTo_X2 : ∀ w ∈ wsX20, w ∈ wsX2_partUpTo := fun w h => List.mem_cons_of_mem _ (List.mem_append_right _ (h))
set_option maxHeartbeats 4000000 in
set_option maxRecDepth 100000 in
theorem kk_X2_partUpTo (l : Launch) (D : va_G) (kd ki kz kl : ClassId) (z : Nat) (ad : Nat → Nat) (e0 : UInt64) (e1 : UInt64) (e2 : UInt64) (e3 : UInt64) (e4 : UInt64) (x : UInt64) (hE : PE e1 e2 e3 e4) (ht : fx_B 1170 (FP.dsub x e0)) : my_RO l D kd ki kz kl z yX2_partUpTo wsX2_partUpTo ({ frames := 0, cells := 0, slots := 0, locals := 0 }) [.ref (ad 21), .double x] [(ad 21, .inr (2, [.double e0, .double e1, .double e2, .double e3, .double e4]))] (some (.double (s_pt e1 e2 e3 e4 (FP.dsub x e0)))) := by
  refine my_RO_of (cc := cX2_partUpTo) (maxL := 5) (ret := (some .double)) (by decide) rfl (Nat.le_of_ble_eq_true rfl) ?_
  intro p e s m below meth c S hr hlocks hC hP ls hl
  have S : CallFix p m c cX2_partUpTo 5 s ([.ref (ad 21), .double x] : List Value).toArray wsX2_partUpTo RX2 := S
  obtain ⟨hx, hb, hml, hown, hts⟩ := id S
  have hl : lv_has ls 5 [(0, .ref (ad 21)), (1, .double x)] := hl
  obtain ⟨a1, a2, a3, a4, a5, a6, a7, a8, a9, a10⟩ := PE_p hE ht
  refine lv_dload_n hx hb dX2_partUpTo_0 rfl (lv_at hl 1 rfl) ?_
  refine lv_aload_n hx hb dX2_partUpTo_1 rfl (lv_at hl 0 rfl) ?_
  refine va_get (D := D) (ci := 2) (v := .double e0) (C := RX2) (T := TX2) (N := 5) hx hb hts iw_X2_partUpTo_X2 hown hC.1 hP 0 rfl rfl 0 (by decide) (hts (.fieldLink RX2 7 "MonotoneSpline$Piece" "start" "D") (List.mem_of_getElem? (l := wsX2_partUpTo) (i := 1) rfl)) (fun _ h9 => h9) rfl dX2_partUpTo_2 ?_
  refine lv_dsub hx hb dX2_partUpTo_5 (fx_n64 (fx_B_n ht (by omega))) ?_
  refine lv_dstore_n (lv' := [(3, .double (FP.dsub x e0)), (0, .ref (ad 21)), (1, .double x)]) hx hb dX2_partUpTo_6 rfl hl (by decide) rfl (fun ls hl => ?_)
  refine lv_dload_n hx hb dX2_partUpTo_7 rfl (lv_at hl 0 rfl) ?_
  refine lv_aload_n hx hb dX2_partUpTo_8 rfl (lv_at hl 1 rfl) ?_
  refine va_get (D := D) (ci := 2) (v := .double e1) (C := RX2) (T := TX2) (N := 5) hx hb hts iw_X2_partUpTo_X2 hown hC.1 hP 0 rfl rfl 1 (by decide) (hts (.fieldLink RX2 13 "MonotoneSpline$Piece" "height" "D") (List.mem_of_getElem? (l := wsX2_partUpTo) (i := 2) rfl)) (fun _ h9 => h9) rfl dX2_partUpTo_9 ?_
  refine lv_dload_n hx hb dX2_partUpTo_12 rfl (lv_at hl 0 rfl) ?_
  refine lv_aload_n hx hb dX2_partUpTo_13 rfl (lv_at hl 1 rfl) ?_
  refine va_get (D := D) (ci := 2) (v := .double e2) (C := RX2) (T := TX2) (N := 5) hx hb hts iw_X2_partUpTo_X2 hown hC.1 hP 0 rfl rfl 2 (by decide) (hts (.fieldLink RX2 16 "MonotoneSpline$Piece" "m" "D") (List.mem_of_getElem? (l := wsX2_partUpTo) (i := 3) rfl)) (fun _ h9 => h9) rfl dX2_partUpTo_14 ?_
  refine lv_ldc2d hx hb hown (hts (.constantDouble RX2 21 (4611686018427387904)) (List.mem_of_getElem? (l := wsX2_partUpTo) (i := 4) rfl)) dX2_partUpTo_17 ?_
  refine lv_ddiv hx hb dX2_partUpTo_20 (fx_n64 (a1)) ?_
  refine lv_dload_n hx hb dX2_partUpTo_21 rfl (lv_at hl 0 rfl) ?_
  refine lv_aload_n hx hb dX2_partUpTo_22 rfl (lv_at hl 1 rfl) ?_
  refine va_get (D := D) (ci := 2) (v := .double e3) (C := RX2) (T := TX2) (N := 5) hx hb hts iw_X2_partUpTo_X2 hown hC.1 hP 0 rfl rfl 3 (by decide) (hts (.fieldLink RX2 29 "MonotoneSpline$Piece" "p" "D") (List.mem_of_getElem? (l := wsX2_partUpTo) (i := 5) rfl)) (fun _ h9 => h9) rfl dX2_partUpTo_23 ?_
  refine lv_ldc2d hx hb hown (hts (.constantDouble RX2 19 (4613937818241073152)) (List.mem_of_getElem? (l := wsX2_partUpTo) (i := 6) rfl)) dX2_partUpTo_26 ?_
  refine lv_ddiv hx hb dX2_partUpTo_29 (fx_n64 (a2)) ?_
  refine lv_dload_n hx hb dX2_partUpTo_30 rfl (lv_at hl 0 rfl) ?_
  refine lv_aload_n hx hb dX2_partUpTo_31 rfl (lv_at hl 1 rfl) ?_
  refine va_get (D := D) (ci := 2) (v := .double e4) (C := RX2) (T := TX2) (N := 5) hx hb hts iw_X2_partUpTo_X2 hown hC.1 hP 0 rfl rfl 4 (by decide) (hts (.fieldLink RX2 32 "MonotoneSpline$Piece" "q" "D") (List.mem_of_getElem? (l := wsX2_partUpTo) (i := 7) rfl)) (fun _ h9 => h9) rfl dX2_partUpTo_32 ?_
  refine lv_ldc2d hx hb hown (hts (.constantDouble RX2 35 (4616189618054758400)) (List.mem_of_getElem? (l := wsX2_partUpTo) (i := 8) rfl)) dX2_partUpTo_35 ?_
  refine lv_ddiv hx hb dX2_partUpTo_38 (fx_n64 (a3)) ?_
  refine lv_dmul hx hb dX2_partUpTo_39 (fx_n64 (a4)) ?_
  refine lv_dadd hx hb dX2_partUpTo_40 (fx_n64 (a5)) ?_
  refine lv_dmul hx hb dX2_partUpTo_41 (fx_n64 (a6)) ?_
  refine lv_dadd hx hb dX2_partUpTo_42 (fx_n64 (a7)) ?_
  refine lv_dmul hx hb dX2_partUpTo_43 (fx_n64 (a8)) ?_
  refine lv_dadd hx hb dX2_partUpTo_44 (fx_n64 (a9)) ?_
  refine lv_dmul hx hb dX2_partUpTo_45 (fx_n64 (fx_B_n a10 (by omega))) ?_
  exact my_dretR hx hb hr hlocks (rfl) dX2_partUpTo_46

