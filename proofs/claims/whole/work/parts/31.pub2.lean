theorem iw_X6_insertKnot_X6 : ∀ w ∈ wsX60, w ∈ wsX6_insertKnot := fun w h => List.mem_cons_of_mem _ (List.mem_append_left _ (List.mem_append_left _ (List.mem_append_left _ (List.mem_append_left _ (List.mem_append_left _ (List.mem_append_right _ (h)))))))
theorem iw_X6_insertKnot_X1 : ∀ w ∈ wsX10, w ∈ wsX6_insertKnot := fun w h => List.mem_cons_of_mem _ (List.mem_append_left _ (List.mem_append_left _ (List.mem_append_left _ (List.mem_append_left _ (List.mem_append_right _ (h))))))
set_option maxHeartbeats 4000000 in
set_option maxRecDepth 100000 in
theorem kk_X6_insertKnot (l : Launch) (D : va_G) (kd ki kz kl : ClassId) (z : Nat) (ad : Nat → Nat) (kn : Nat) (P : Nat → UInt64) (V : Nat → UInt64) (F : Nat → UInt64) (x : UInt64) (e0 : UInt64) (e1 : UInt64) (e2 : UInt64) (e3 : UInt64) (e4 : UInt64) (hI : KI kn P V F) (hnx : fx_n x) (hxB : fx_B 1168 (s_st x)) (h1 : 0 < kn ∧ sp_gt (s_st x) (P 0) ∧ sp_lt (s_st x) (P (kn - 1))) (h2 : ¬ sp_lt (FP.dsub (s_st x) (P (s_pc P kn (s_st x)))) 4547007122018943789) (h3 : ¬ sp_lt (FP.dsub (P (s_pc P kn (s_st x) + 1)) (s_st x)) 4547007122018943789) (hk6 : kn < 60) : my_WR l D kd ki kz kl z yX6_insertKnot wsX6_insertKnot ({ frames := 5, cells := 0, slots := 0, locals := 121 }) [.ref (ad 0), .double x] [(ad 0, .inr (6, [.ref (ad 1), .ref (ad 8), .ref (ad 14), .ref (ad 21), .ref (ad 22), .ref (ad 23)])), (ad 14, .inr (1, [.ref (ad 15), .ref (ad 17), .ref (ad 19), .int (nI kn)])), (ad 15, .inr (4, [.ref (ad 16)])), (ad 16, .inl (kd, 60, .inr (.inr (.inr (.inl P))))), (ad 17, .inr (4, [.ref (ad 18)])), (ad 18, .inl (kd, 60, .inr (.inr (.inr (.inl V))))), (ad 19, .inr (4, [.ref (ad 20)])), (ad 20, .inl (kd, 60, .inr (.inr (.inr (.inl F))))), (ad 21, .inr (2, [.double e0, .double e1, .double e2, .double e3, .double e4]))] [(ad 0, .inr (6, [.ref (ad 1), .ref (ad 8), .ref (ad 14), .ref (ad 21), .ref (ad 22), .ref (ad 23)])), (ad 14, .inr (1, [.ref (ad 15), .ref (ad 17), .ref (ad 19), .int (nI (kn + 1))])), (ad 15, .inr (4, [.ref (ad 16)])), (ad 16, .inl (kd, 60, .inr (.inr (.inr (.inl (s_ins P (s_pc P kn (s_st x) + 1) kn (s_st x))))))), (ad 17, .inr (4, [.ref (ad 18)])), (ad 18, .inl (kd, 60, .inr (.inr (.inr (.inl (s_ins V (s_pc P kn (s_st x) + 1) kn (s_within (V (s_pc P kn (s_st x))) (V (s_pc P kn (s_st x) + 1)) (s_hk P V F kn (s_pc P kn (s_st x)) (s_st x))))))))), (ad 19, .inr (4, [.ref (ad 20)])), (ad 20, .inl (kd, 60, .inr (.inr (.inr (.inl (s_ins F (s_pc P kn (s_st x) + 1) kn (if sp_lt (s_tk P V F kn (s_pc P kn (s_st x)) (s_st x)) 0 then 0 else s_tk P V F kn (s_pc P kn (s_st x)) (s_st x)))))))), (ad 21, .inr (2, [.double (P (s_pc P kn (s_st x))), .double (V (s_pc P kn (s_st x))), .double (s_s P V F kn (s_pc P kn (s_st x))), .double (s_pk P V F kn (s_pc P kn (s_st x))), .double (s_qk P V F kn (s_pc P kn (s_st x)))]))] (some (.int (nI (s_pc P kn (s_st x) + 1)))) := by
  refine my_WR_of (cc := cX6_insertKnot) (maxL := 13) (ret := (some .int)) (by decide) rfl (Nat.le_of_ble_eq_true rfl) ?_
  intro p e s m below meth c S hr hlocks hC hP hD hz hS ls hl
  have S : CallFix p m c cX6_insertKnot 13 s ([.ref (ad 0), .double x] : List Value).toArray wsX6_insertKnot RX6 := S
  obtain ⟨hx, hb, hml, hown, hts⟩ := id S
  have hl : lv_has ls 13 [(0, .ref (ad 0)), (1, .double x)] := hl
  suffices K0 : ∀ (H : Heap) (locs : List Loc), va_P D vwCl [(ad 0, .inr (6, [.ref (ad 1), .ref (ad 8), .ref (ad 14), .ref (ad 21), .ref (ad 22), .ref (ad 23)])), (ad 14, .inr (1, [.ref (ad 15), .ref (ad 17), .ref (ad 19), .int (nI kn)])), (ad 15, .inr (4, [.ref (ad 16)])), (ad 16, .inl (kd, 60, .inr (.inr (.inr (.inl P))))), (ad 17, .inr (4, [.ref (ad 18)])), (ad 18, .inl (kd, 60, .inr (.inr (.inr (.inl V))))), (ad 19, .inr (4, [.ref (ad 20)])), (ad 20, .inl (kd, 60, .inr (.inr (.inr (.inl F))))), (ad 21, .inr (2, [.double e0, .double e1, .double e2, .double e3, .double e4]))] H → va_D (my_A [(ad 0, .inr (6, [.ref (ad 1), .ref (ad 8), .ref (ad 14), .ref (ad 21), .ref (ad 22), .ref (ad 23)])), (ad 14, .inr (1, [.ref (ad 15), .ref (ad 17), .ref (ad 19), .int (nI kn)])), (ad 15, .inr (4, [.ref (ad 16)])), (ad 16, .inl (kd, 60, .inr (.inr (.inr (.inl P))))), (ad 17, .inr (4, [.ref (ad 18)])), (ad 18, .inl (kd, 60, .inr (.inr (.inr (.inl V))))), (ad 19, .inr (4, [.ref (ad 20)])), (ad 20, .inl (kd, 60, .inr (.inr (.inr (.inl F))))), (ad 21, .inr (2, [.double e0, .double e1, .double e2, .double e3, .double e4]))]) [(ad 0, .inr (6, [.ref (ad 1), .ref (ad 8), .ref (ad 14), .ref (ad 21), .ref (ad 22), .ref (ad 23)])), (ad 14, .inr (1, [.ref (ad 15), .ref (ad 17), .ref (ad 19), .int (nI kn)])), (ad 15, .inr (4, [.ref (ad 16)])), (ad 16, .inl (kd, 60, .inr (.inr (.inr (.inl P))))), (ad 17, .inr (4, [.ref (ad 18)])), (ad 18, .inl (kd, 60, .inr (.inr (.inr (.inl V))))), (ad 19, .inr (4, [.ref (ad 20)])), (ad 20, .inl (kd, 60, .inr (.inr (.inr (.inl F))))), (ad 21, .inr (2, [.double e0, .double e1, .double e2, .double e3, .double e4]))] → va_S (my_A [(ad 0, .inr (6, [.ref (ad 1), .ref (ad 8), .ref (ad 14), .ref (ad 21), .ref (ad 22), .ref (ad 23)])), (ad 14, .inr (1, [.ref (ad 15), .ref (ad 17), .ref (ad 19), .int (nI kn)])), (ad 15, .inr (4, [.ref (ad 16)])), (ad 16, .inl (kd, 60, .inr (.inr (.inr (.inl P))))), (ad 17, .inr (4, [.ref (ad 18)])), (ad 18, .inl (kd, 60, .inr (.inr (.inr (.inl V))))), (ad 19, .inr (4, [.ref (ad 20)])), (ad 20, .inl (kd, 60, .inr (.inr (.inr (.inl F))))), (ad 21, .inr (2, [.double e0, .double e1, .double e2, .double e3, .double e4]))]) s.heap H locs → W p l e ({ frames := 5, cells := 0, slots := 0, locals := 121 }) s m ([.ref (ad 0), .double x] : List Value).toArray below meth c H locs 0 0 (my_WQ below D ([.ref (ad 0), .double x] : List Value).toArray s [(ad 0, .inr (6, [.ref (ad 1), .ref (ad 8), .ref (ad 14), .ref (ad 21), .ref (ad 22), .ref (ad 23)])), (ad 14, .inr (1, [.ref (ad 15), .ref (ad 17), .ref (ad 19), .int (nI kn)])), (ad 15, .inr (4, [.ref (ad 16)])), (ad 16, .inl (kd, 60, .inr (.inr (.inr (.inl P))))), (ad 17, .inr (4, [.ref (ad 18)])), (ad 18, .inl (kd, 60, .inr (.inr (.inr (.inl V))))), (ad 19, .inr (4, [.ref (ad 20)])), (ad 20, .inl (kd, 60, .inr (.inr (.inr (.inl F))))), (ad 21, .inr (2, [.double e0, .double e1, .double e2, .double e3, .double e4]))] [(ad 0, .inr (6, [.ref (ad 1), .ref (ad 8), .ref (ad 14), .ref (ad 21), .ref (ad 22), .ref (ad 23)])), (ad 14, .inr (1, [.ref (ad 15), .ref (ad 17), .ref (ad 19), .int (nI (kn + 1))])), (ad 15, .inr (4, [.ref (ad 16)])), (ad 16, .inl (kd, 60, .inr (.inr (.inr (.inl (s_ins P (s_pc P kn (s_st x) + 1) kn (s_st x))))))), (ad 17, .inr (4, [.ref (ad 18)])), (ad 18, .inl (kd, 60, .inr (.inr (.inr (.inl (s_ins V (s_pc P kn (s_st x) + 1) kn (s_within (V (s_pc P kn (s_st x))) (V (s_pc P kn (s_st x) + 1)) (s_hk P V F kn (s_pc P kn (s_st x)) (s_st x))))))))), (ad 19, .inr (4, [.ref (ad 20)])), (ad 20, .inl (kd, 60, .inr (.inr (.inr (.inl (s_ins F (s_pc P kn (s_st x) + 1) kn (if sp_lt (s_tk P V F kn (s_pc P kn (s_st x)) (s_st x)) 0 then 0 else s_tk P V F kn (s_pc P kn (s_st x)) (s_st x)))))))), (ad 21, .inr (2, [.double (P (s_pc P kn (s_st x))), .double (V (s_pc P kn (s_st x))), .double (s_s P V F kn (s_pc P kn (s_st x))), .double (s_pk P V F kn (s_pc P kn (s_st x))), .double (s_qk P V F kn (s_pc P kn (s_st x)))]))] (some (.int (nI (s_pc P kn (s_st x) + 1))))) (F0 m 0 ls []) from K0 _ _ hP hD hS
  intro H locs hP hD hS
  have hJ := hI.1
  have hkn := hJ.2.1
  have hkn2 := hJ.1
  have hlt := s_pc_lt (P := P) (x := s_st x) hkn2
  refine lv_dload_n hx hb dX6_insertKnot_0 rfl (lv_at hl 1 rfl) ?_
  refine my_goR (v := (some (.double (s_st x)))) (my_runS (bytes := cX6_settled) (maxL := 2) (ret := (some .double)) (n := 1) (As := [.double x]) (rest := []) S hl.1 (kk_X6_settled l D kd ki kz kl z x (hnx)) rfl ⟨rfl, rfl⟩ gX6_insertKnot_X6_settled (by decide +kernel) rfl ⟨Nat.le_of_ble_eq_true rfl, Nat.le_of_ble_eq_true rfl⟩ (my_preR (my_C_S hC hS hz) (my_P_sub (wc := []) hP [] rfl)) rfl rfl dX6_insertKnot_1) ?_
  refine W.eq (g2 := F0 m 4 ls [.double (s_st x)]) rfl ?_
  refine lv_dstore_n (lv' := [(3, .double (s_st x)), (0, .ref (ad 0)), (1, .double x)]) hx hb dX6_insertKnot_4 rfl hl (by decide) rfl (fun ls hl => ?_)
  refine lv_aload_n hx hb dX6_insertKnot_5 rfl (lv_at hl 1 rfl) ?_
  refine va_get (D := D) (ci := 6) (v := .ref (ad 14)) (C := RX6) (T := TX6) (N := 6) hx hb hts iw_X6_insertKnot_X6 hown hC.1 hP 0 rfl rfl 2 (by decide) (hts (.fieldLink RX6 26 "MonotoneSpline" "knots" "LMonotoneSpline$Knots;") (List.mem_of_getElem? (l := wsX6_insertKnot) (i := 5) rfl)) (fun _ h9 => h9) rfl dX6_insertKnot_6 ?_
  refine lv_dload_n hx hb dX6_insertKnot_9 rfl (lv_at hl 0 rfl) ?_
  refine my_goR (v := (some (.int (if 0 < kn ∧ sp_gt (s_st x) (P 0) ∧ sp_lt (s_st x) (P (kn - 1)) then 1 else 0)))) (my_runV (bytes := cX1_liesBetweenEnds) (maxL := 3) (ret := (some .boolean)) (n := 1) (As := [.double (s_st x)]) (rest := []) S hl.1 (kk_X1_liesBetweenEnds l D kd ki kz kl z ad kn P (s_st x) (by omega)) rfl ⟨rfl, rfl⟩ gX6_insertKnot_X1_liesBetweenEnds (by decide +kernel) rfl ⟨Nat.le_of_ble_eq_true rfl, Nat.le_of_ble_eq_true rfl⟩ (my_preR (my_C_S hC hS hz) (my_P_sub (wc := [(ad 14, .inr (1, [.ref (ad 15), .ref (ad 17), .ref (ad 19), .int (nI kn)])), (ad 15, .inr (4, [.ref (ad 16)])), (ad 16, .inl (kd, 60, .inr (.inr (.inr (.inl P)))))]) hP [1, 2, 3] rfl)) (va_recv hC.1 hP (ci := 1) (q0 := 1) rfl rfl) rfl rfl dX6_insertKnot_10) ?_
  refine W.eq (g2 := F0 m 13 ls [.int (if 0 < kn ∧ sp_gt (s_st x) (P 0) ∧ sp_lt (s_st x) (P (kn - 1)) then 1 else 0)]) rfl ?_
  by_cases q_h1 : 0 < kn ∧ sp_gt (s_st x) (P 0) ∧ sp_lt (s_st x) (P (kn - 1))
  · rw [if_pos q_h1]
    refine lv_if_ne (tgt := 26) hx hb dX6_insertKnot_13 (by decide) (fun c_13 => ?_) (fun c_13 => ?_)
    · skip
      refine lv_aload_n hx hb dX6_insertKnot_26 rfl (lv_at hl 1 rfl) ?_
      refine va_get (D := D) (ci := 6) (v := .ref (ad 14)) (C := RX6) (T := TX6) (N := 6) hx hb hts iw_X6_insertKnot_X6 hown hC.1 hP 0 rfl rfl 2 (by decide) (hts (.fieldLink RX6 26 "MonotoneSpline" "knots" "LMonotoneSpline$Knots;") (List.mem_of_getElem? (l := wsX6_insertKnot) (i := 5) rfl)) (fun _ h9 => h9) rfl dX6_insertKnot_27 ?_
      refine lv_dload_n hx hb dX6_insertKnot_30 rfl (lv_at hl 0 rfl) ?_
      refine my_goR (v := (some (.int (nI (s_pc P kn (s_st x)))))) (my_runV (bytes := cX1_pieceAt) (maxL := 4) (ret := (some .int)) (n := 1) (As := [.double (s_st x)]) (rest := []) S hl.1 (kk_X1_pieceAt l D kd ki kz kl z ad kn P (s_st x) (by omega) (by omega)) rfl ⟨rfl, rfl⟩ gX6_insertKnot_X1_pieceAt (by decide +kernel) rfl ⟨Nat.le_of_ble_eq_true rfl, Nat.le_of_ble_eq_true rfl⟩ (my_preR (my_C_S hC hS hz) (my_P_sub (wc := [(ad 14, .inr (1, [.ref (ad 15), .ref (ad 17), .ref (ad 19), .int (nI kn)])), (ad 15, .inr (4, [.ref (ad 16)])), (ad 16, .inl (kd, 60, .inr (.inr (.inr (.inl P)))))]) hP [1, 2, 3] rfl)) (va_recv hC.1 hP (ci := 1) (q0 := 1) rfl rfl) rfl rfl dX6_insertKnot_31) ?_
      refine W.eq (g2 := F0 m 34 ls [.int (nI (s_pc P kn (s_st x)))]) rfl ?_
      refine lv_istore (lv' := [(5, .int (nI (s_pc P kn (s_st x)))), (3, .double (s_st x)), (0, .ref (ad 0)), (1, .double x)]) hx hb dX6_insertKnot_34 hl (by decide) rfl (fun ls hl => ?_)
      refine lv_iload hx hb dX6_insertKnot_36 (lv_at hl 0 rfl) ?_
      refine lv_iconst (v := 1) hx hb dX6_insertKnot_38 (by decide) ?_
      refine my_iadd (w := nI (s_pc P kn (s_st x) + 1)) hx hb dX6_insertKnot_39 (nI_add (s_pc P kn (s_st x)) 1) ?_
      refine lv_istore (lv' := [(6, .int (nI (s_pc P kn (s_st x) + 1))), (5, .int (nI (s_pc P kn (s_st x)))), (3, .double (s_st x)), (0, .ref (ad 0)), (1, .double x)]) hx hb dX6_insertKnot_40 hl (by decide) rfl (fun ls hl => ?_)
      refine lv_dload_n hx hb dX6_insertKnot_42 rfl (lv_at hl 2 rfl) ?_
      refine lv_aload_n hx hb dX6_insertKnot_43 rfl (lv_at hl 3 rfl) ?_
      refine va_get (D := D) (ci := 6) (v := .ref (ad 14)) (C := RX6) (T := TX6) (N := 6) hx hb hts iw_X6_insertKnot_X6 hown hC.1 hP 0 rfl rfl 2 (by decide) (hts (.fieldLink RX6 26 "MonotoneSpline" "knots" "LMonotoneSpline$Knots;") (List.mem_of_getElem? (l := wsX6_insertKnot) (i := 5) rfl)) (fun _ h9 => h9) rfl dX6_insertKnot_44 ?_
      refine va_getN (D := D) (ci := 1) (v := .ref (ad 15)) (C := RX1) (T := TX1) (N := 4) hx hb hts iw_X6_insertKnot_X1 hown hC.1 hP 1 rfl rfl 0 (by decide) (va_Nw.use (w := .fieldLinkNest "MonotoneSpline" 146 "MonotoneSpline$Knots" "places" "LMonotoneSpline$Row;" "MonotoneSpline") rfl (hC.2.1 _ (List.mem_of_getElem? (l := my_nest) (i := 8) rfl))) (fun _ h9 => h9) rfl dX6_insertKnot_47 ?_
      refine lv_iload hx hb dX6_insertKnot_50 (lv_at hl 1 rfl) ?_
      refine my_goR (v := (some (.double (P (s_pc P kn (s_st x)))))) (my_runV (bytes := cX4_get) (maxL := 2) (ret := (some .double)) (n := 1) (As := [.int (nI (s_pc P kn (s_st x)))]) (rest := [.double (s_st x)]) S hl.1 (kk_X4_get l D kd ki kz kl z (ad 15) (ad 16) 60 P (s_pc P kn (s_st x)) (by omega) (by omega)) rfl ⟨rfl, rfl⟩ gX6_insertKnot_X4_get (by decide +kernel) rfl ⟨Nat.le_of_ble_eq_true rfl, Nat.le_of_ble_eq_true rfl⟩ (my_preR (my_C_S hC hS hz) (my_P_sub (wc := [(ad 15, .inr (4, [.ref (ad 16)])), (ad 16, .inl (kd, 60, .inr (.inr (.inr (.inl P)))))]) hP [2, 3] rfl)) (va_recv hC.1 hP (ci := 4) (q0 := 2) rfl rfl) rfl rfl dX6_insertKnot_52) ?_
      refine W.eq (g2 := F0 m 55 ls [.double (P (s_pc P kn (s_st x))), .double (s_st x)]) rfl ?_
      refine lv_dsub hx hb dX6_insertKnot_55 (fx_n64 (fx_B_n (PE_x hI (by omega) hxB) (by omega))) ?_
      refine lv_ldc2d hx hb hown (hts (.constantDouble RX6 164 (4547007122018943789)) (List.mem_of_getElem? (l := wsX6_insertKnot) (i := 6) rfl)) dX6_insertKnot_56 ?_
      refine lv_dcmp hx hb dX6_insertKnot_59 ?_
      refine lv_if_lt (tgt := 84) hx hb dX6_insertKnot_60 (by decide) (fun c_60 => ?_) (fun c_60 => ?_)
      · have c_60 := cv_g_lt_t c_60
        exact absurd c_60 h2
      · have c_60 := cv_g_lt_f c_60
        refine lv_aload_n hx hb dX6_insertKnot_63 rfl (lv_at hl 3 rfl) ?_
        refine va_get (D := D) (ci := 6) (v := .ref (ad 14)) (C := RX6) (T := TX6) (N := 6) hx hb hts iw_X6_insertKnot_X6 hown hC.1 hP 0 rfl rfl 2 (by decide) (hts (.fieldLink RX6 26 "MonotoneSpline" "knots" "LMonotoneSpline$Knots;") (List.mem_of_getElem? (l := wsX6_insertKnot) (i := 5) rfl)) (fun _ h9 => h9) rfl dX6_insertKnot_64 ?_
        refine va_getN (D := D) (ci := 1) (v := .ref (ad 15)) (C := RX1) (T := TX1) (N := 4) hx hb hts iw_X6_insertKnot_X1 hown hC.1 hP 1 rfl rfl 0 (by decide) (va_Nw.use (w := .fieldLinkNest "MonotoneSpline" 146 "MonotoneSpline$Knots" "places" "LMonotoneSpline$Row;" "MonotoneSpline") rfl (hC.2.1 _ (List.mem_of_getElem? (l := my_nest) (i := 8) rfl))) (fun _ h9 => h9) rfl dX6_insertKnot_67 ?_
        refine lv_iload hx hb dX6_insertKnot_70 (lv_at hl 0 rfl) ?_
        refine my_goR (v := (some (.double (P (s_pc P kn (s_st x) + 1))))) (my_runV (bytes := cX4_get) (maxL := 2) (ret := (some .double)) (n := 1) (As := [.int (nI (s_pc P kn (s_st x) + 1))]) (rest := []) S hl.1 (kk_X4_get l D kd ki kz kl z (ad 15) (ad 16) 60 P (s_pc P kn (s_st x) + 1) (by omega) (by omega)) rfl ⟨rfl, rfl⟩ gX6_insertKnot_X4_get (by decide +kernel) rfl ⟨Nat.le_of_ble_eq_true rfl, Nat.le_of_ble_eq_true rfl⟩ (my_preR (my_C_S hC hS hz) (my_P_sub (wc := [(ad 15, .inr (4, [.ref (ad 16)])), (ad 16, .inl (kd, 60, .inr (.inr (.inr (.inl P)))))]) hP [2, 3] rfl)) (va_recv hC.1 hP (ci := 4) (q0 := 2) rfl rfl) rfl rfl dX6_insertKnot_72) ?_
        refine W.eq (g2 := F0 m 75 ls [.double (P (s_pc P kn (s_st x) + 1))]) rfl ?_
        refine lv_dload_n hx hb dX6_insertKnot_75 rfl (lv_at hl 2 rfl) ?_
        refine lv_dsub hx hb dX6_insertKnot_76 (fx_n64 (fx_B_n (fx_Bs (M := 1200) (kJ_P hJ hlt) hxB (by omega) (by omega) (by omega)) (by omega))) ?_
        refine lv_ldc2d hx hb hown (hts (.constantDouble RX6 164 (4547007122018943789)) (List.mem_of_getElem? (l := wsX6_insertKnot) (i := 6) rfl)) dX6_insertKnot_77 ?_
        refine lv_dcmp hx hb dX6_insertKnot_80 ?_
        refine lv_if_ge (tgt := 94) hx hb dX6_insertKnot_81 (by decide) (fun c_81 => ?_) (fun c_81 => ?_)
        · have c_81 := cv_g_ge_t c_81
          refine lv_aload_n hx hb dX6_insertKnot_94 rfl (lv_at hl 3 rfl) ?_
          refine va_get (D := D) (ci := 6) (v := .ref (ad 14)) (C := RX6) (T := TX6) (N := 6) hx hb hts iw_X6_insertKnot_X6 hown hC.1 hP 0 rfl rfl 2 (by decide) (hts (.fieldLink RX6 26 "MonotoneSpline" "knots" "LMonotoneSpline$Knots;") (List.mem_of_getElem? (l := wsX6_insertKnot) (i := 5) rfl)) (fun _ h9 => h9) rfl dX6_insertKnot_95 ?_
          refine va_getN (D := D) (ci := 1) (v := .int (nI kn)) (C := RX1) (T := TX1) (N := 4) hx hb hts iw_X6_insertKnot_X1 hown hC.1 hP 1 rfl rfl 3 (by decide) (va_Nw.use (w := .fieldLinkNest "MonotoneSpline" 136 "MonotoneSpline$Knots" "count" "I" "MonotoneSpline") rfl (hC.2.1 _ (List.mem_of_getElem? (l := my_nest) (i := 11) rfl))) (fun _ h9 => h9) rfl dX6_insertKnot_98 ?_
          refine lv_bipush (v := 60) hx hb dX6_insertKnot_101 (by decide) ?_
          refine lv_icmp_lt (tgt := 116) hx hb dX6_insertKnot_103 (by decide) (fun c_103 => ?_) (fun c_103 => ?_)
          · have c_103 : kn < 60 := (nI_ltI (a := kn) (b := 60) (by omega) (by omega)).mp c_103
            refine lv_aload_n hx hb dX6_insertKnot_116 rfl (lv_at hl 3 rfl) ?_
            refine lv_iload hx hb dX6_insertKnot_117 (lv_at hl 1 rfl) ?_
            refine my_goW (v := none) (w1 := [(ad 0, .inr (6, [.ref (ad 1), .ref (ad 8), .ref (ad 14), .ref (ad 21), .ref (ad 22), .ref (ad 23)])), (ad 14, .inr (1, [.ref (ad 15), .ref (ad 17), .ref (ad 19), .int (nI kn)])), (ad 15, .inr (4, [.ref (ad 16)])), (ad 16, .inl (kd, 60, .inr (.inr (.inr (.inl P))))), (ad 17, .inr (4, [.ref (ad 18)])), (ad 18, .inl (kd, 60, .inr (.inr (.inr (.inl V))))), (ad 19, .inr (4, [.ref (ad 20)])), (ad 20, .inl (kd, 60, .inr (.inr (.inr (.inl F))))), (ad 21, .inr (2, [.double (P (s_pc P kn (s_st x))), .double (V (s_pc P kn (s_st x))), .double (s_s P V F kn (s_pc P kn (s_st x))), .double (s_pk P V F kn (s_pc P kn (s_st x))), .double (s_qk P V F kn (s_pc P kn (s_st x)))]))]) (wx' := [(ad 0, .inr (6, [.ref (ad 1), .ref (ad 8), .ref (ad 14), .ref (ad 21), .ref (ad 22), .ref (ad 23)])), (ad 14, .inr (1, [.ref (ad 15), .ref (ad 17), .ref (ad 19), .int (nI kn)])), (ad 15, .inr (4, [.ref (ad 16)])), (ad 16, .inl (kd, 60, .inr (.inr (.inr (.inl P))))), (ad 17, .inr (4, [.ref (ad 18)])), (ad 18, .inl (kd, 60, .inr (.inr (.inr (.inl V))))), (ad 19, .inr (4, [.ref (ad 20)])), (ad 20, .inl (kd, 60, .inr (.inr (.inr (.inl F))))), (ad 21, .inr (2, [.double (P (s_pc P kn (s_st x))), .double (V (s_pc P kn (s_st x))), .double (s_s P V F kn (s_pc P kn (s_st x))), .double (s_pk P V F kn (s_pc P kn (s_st x))), .double (s_qk P V F kn (s_pc P kn (s_st x)))]))]) (my_runV (bytes := cX6_layPiece) (maxL := 2) (ret := none) (n := 1) (As := [.int (nI (s_pc P kn (s_st x)))]) (rest := []) S hl.1 (kk_X6_layPiece l D kd ki kz kl z ad kn P V F (s_pc P kn (s_st x)) e0 e1 e2 e3 e4 (hI) (by omega)) rfl ⟨rfl, rfl⟩ gX6_insertKnot_X6_layPiece (by decide +kernel) rfl ⟨Nat.le_of_ble_eq_true rfl, Nat.le_of_ble_eq_true rfl⟩ (my_preW (my_C_S hC hS hz) (my_P_sub (wc := [(ad 0, .inr (6, [.ref (ad 1), .ref (ad 8), .ref (ad 14), .ref (ad 21), .ref (ad 22), .ref (ad 23)])), (ad 14, .inr (1, [.ref (ad 15), .ref (ad 17), .ref (ad 19), .int (nI kn)])), (ad 15, .inr (4, [.ref (ad 16)])), (ad 16, .inl (kd, 60, .inr (.inr (.inr (.inl P))))), (ad 17, .inr (4, [.ref (ad 18)])), (ad 18, .inl (kd, 60, .inr (.inr (.inr (.inl V))))), (ad 19, .inr (4, [.ref (ad 20)])), (ad 20, .inl (kd, 60, .inr (.inr (.inr (.inl F))))), (ad 21, .inr (2, [.double e0, .double e1, .double e2, .double e3, .double e4]))]) hP [0, 1, 2, 3, 4, 5, 6, 7, 8] rfl) (my_D_sub hD hz [0, 1, 2, 3, 4, 5, 6, 7, 8] (by decide) rfl)) (va_recv hC.1 hP (ci := 6) (q0 := 0) rfl rfl) rfl rfl dX6_insertKnot_119) hP hD hS [0, 1, 2, 3, 4, 5, 6, 7, 8] rfl rfl rfl (fun H locs hP hD hS => ?_)
            refine W.eq (g2 := F0 m 122 ls []) rfl ?_
            refine lv_aload_n hx hb dX6_insertKnot_122 rfl (lv_at hl 3 rfl) ?_
            refine va_get (D := D) (ci := 6) (v := .ref (ad 21)) (C := RX6) (T := TX6) (N := 6) hx hb hts iw_X6_insertKnot_X6 hown hC.1 hP 0 rfl rfl 3 (by decide) (hts (.fieldLink RX6 33 "MonotoneSpline" "piece" "LMonotoneSpline$Piece;") (List.mem_of_getElem? (l := wsX6_insertKnot) (i := 7) rfl)) (fun _ h9 => h9) rfl dX6_insertKnot_123 ?_
            refine lv_dload_n hx hb dX6_insertKnot_126 rfl (lv_at hl 2 rfl) ?_
            refine my_goR (v := (some (.double (s_h (V (s_pc P kn (s_st x))) (s_s P V F kn (s_pc P kn (s_st x))) (s_pk P V F kn (s_pc P kn (s_st x))) (s_qk P V F kn (s_pc P kn (s_st x))) (FP.dsub (s_st x) (P (s_pc P kn (s_st x)))))))) (my_runV (bytes := cX2_heightAt) (maxL := 5) (ret := (some .double)) (n := 1) (As := [.double (s_st x)]) (rest := []) S hl.1 (kk_X2_heightAt l D kd ki kz kl z ad (P (s_pc P kn (s_st x))) (V (s_pc P kn (s_st x))) (s_s P V F kn (s_pc P kn (s_st x))) (s_pk P V F kn (s_pc P kn (s_st x))) (s_qk P V F kn (s_pc P kn (s_st x))) (s_st x) (PE_of hI (by omega)) (PE_x hI (by omega) hxB)) rfl ⟨rfl, rfl⟩ gX6_insertKnot_X2_heightAt (by decide +kernel) rfl ⟨Nat.le_of_ble_eq_true rfl, Nat.le_of_ble_eq_true rfl⟩ (my_preR (my_C_S hC hS hz) (my_P_sub (wc := [(ad 21, .inr (2, [.double (P (s_pc P kn (s_st x))), .double (V (s_pc P kn (s_st x))), .double (s_s P V F kn (s_pc P kn (s_st x))), .double (s_pk P V F kn (s_pc P kn (s_st x))), .double (s_qk P V F kn (s_pc P kn (s_st x)))]))]) hP [8] rfl)) (va_recv hC.1 hP (ci := 2) (q0 := 8) rfl rfl) rfl rfl dX6_insertKnot_127) ?_
            refine W.eq (g2 := F0 m 130 ls [.double (s_h (V (s_pc P kn (s_st x))) (s_s P V F kn (s_pc P kn (s_st x))) (s_pk P V F kn (s_pc P kn (s_st x))) (s_qk P V F kn (s_pc P kn (s_st x))) (FP.dsub (s_st x) (P (s_pc P kn (s_st x)))))]) rfl ?_
            refine lv_dstore (lv' := [(7, .double (s_h (V (s_pc P kn (s_st x))) (s_s P V F kn (s_pc P kn (s_st x))) (s_pk P V F kn (s_pc P kn (s_st x))) (s_qk P V F kn (s_pc P kn (s_st x))) (FP.dsub (s_st x) (P (s_pc P kn (s_st x)))))), (6, .int (nI (s_pc P kn (s_st x) + 1))), (5, .int (nI (s_pc P kn (s_st x)))), (3, .double (s_st x)), (0, .ref (ad 0)), (1, .double x)]) hx hb dX6_insertKnot_130 hl (by decide) rfl (fun ls hl => ?_)
            refine lv_aload_n hx hb dX6_insertKnot_132 rfl (lv_at hl 4 rfl) ?_
            refine va_get (D := D) (ci := 6) (v := .ref (ad 14)) (C := RX6) (T := TX6) (N := 6) hx hb hts iw_X6_insertKnot_X6 hown hC.1 hP 0 rfl rfl 2 (by decide) (hts (.fieldLink RX6 26 "MonotoneSpline" "knots" "LMonotoneSpline$Knots;") (List.mem_of_getElem? (l := wsX6_insertKnot) (i := 5) rfl)) (fun _ h9 => h9) rfl dX6_insertKnot_133 ?_
            refine va_getN (D := D) (ci := 1) (v := .ref (ad 17)) (C := RX1) (T := TX1) (N := 4) hx hb hts iw_X6_insertKnot_X1 hown hC.1 hP 1 rfl rfl 1 (by decide) (va_Nw.use (w := .fieldLinkNest "MonotoneSpline" 147 "MonotoneSpline$Knots" "heights" "LMonotoneSpline$Row;" "MonotoneSpline") rfl (hC.2.1 _ (List.mem_of_getElem? (l := my_nest) (i := 9) rfl))) (fun _ h9 => h9) rfl dX6_insertKnot_136 ?_
            refine lv_iload hx hb dX6_insertKnot_139 (lv_at hl 2 rfl) ?_
            refine my_goR (v := (some (.double (V (s_pc P kn (s_st x)))))) (my_runV (bytes := cX4_get) (maxL := 2) (ret := (some .double)) (n := 1) (As := [.int (nI (s_pc P kn (s_st x)))]) (rest := []) S hl.1 (kk_X4_get l D kd ki kz kl z (ad 17) (ad 18) 60 V (s_pc P kn (s_st x)) (by omega) (by omega)) rfl ⟨rfl, rfl⟩ gX6_insertKnot_X4_get (by decide +kernel) rfl ⟨Nat.le_of_ble_eq_true rfl, Nat.le_of_ble_eq_true rfl⟩ (my_preR (my_C_S hC hS hz) (my_P_sub (wc := [(ad 17, .inr (4, [.ref (ad 18)])), (ad 18, .inl (kd, 60, .inr (.inr (.inr (.inl V)))))]) hP [4, 5] rfl)) (va_recv hC.1 hP (ci := 4) (q0 := 4) rfl rfl) rfl rfl dX6_insertKnot_141) ?_
            refine W.eq (g2 := F0 m 144 ls [.double (V (s_pc P kn (s_st x)))]) rfl ?_
            refine lv_aload_n hx hb dX6_insertKnot_144 rfl (lv_at hl 4 rfl) ?_
            refine va_get (D := D) (ci := 6) (v := .ref (ad 14)) (C := RX6) (T := TX6) (N := 6) hx hb hts iw_X6_insertKnot_X6 hown hC.1 hP 0 rfl rfl 2 (by decide) (hts (.fieldLink RX6 26 "MonotoneSpline" "knots" "LMonotoneSpline$Knots;") (List.mem_of_getElem? (l := wsX6_insertKnot) (i := 5) rfl)) (fun _ h9 => h9) rfl dX6_insertKnot_145 ?_
            refine va_getN (D := D) (ci := 1) (v := .ref (ad 17)) (C := RX1) (T := TX1) (N := 4) hx hb hts iw_X6_insertKnot_X1 hown hC.1 hP 1 rfl rfl 1 (by decide) (va_Nw.use (w := .fieldLinkNest "MonotoneSpline" 147 "MonotoneSpline$Knots" "heights" "LMonotoneSpline$Row;" "MonotoneSpline") rfl (hC.2.1 _ (List.mem_of_getElem? (l := my_nest) (i := 9) rfl))) (fun _ h9 => h9) rfl dX6_insertKnot_148 ?_
            refine lv_iload hx hb dX6_insertKnot_151 (lv_at hl 1 rfl) ?_
            refine my_goR (v := (some (.double (V (s_pc P kn (s_st x) + 1))))) (my_runV (bytes := cX4_get) (maxL := 2) (ret := (some .double)) (n := 1) (As := [.int (nI (s_pc P kn (s_st x) + 1))]) (rest := [.double (V (s_pc P kn (s_st x)))]) S hl.1 (kk_X4_get l D kd ki kz kl z (ad 17) (ad 18) 60 V (s_pc P kn (s_st x) + 1) (by omega) (by omega)) rfl ⟨rfl, rfl⟩ gX6_insertKnot_X4_get (by decide +kernel) rfl ⟨Nat.le_of_ble_eq_true rfl, Nat.le_of_ble_eq_true rfl⟩ (my_preR (my_C_S hC hS hz) (my_P_sub (wc := [(ad 17, .inr (4, [.ref (ad 18)])), (ad 18, .inl (kd, 60, .inr (.inr (.inr (.inl V)))))]) hP [4, 5] rfl)) (va_recv hC.1 hP (ci := 4) (q0 := 4) rfl rfl) rfl rfl dX6_insertKnot_153) ?_
            refine W.eq (g2 := F0 m 156 ls [.double (V (s_pc P kn (s_st x) + 1)), .double (V (s_pc P kn (s_st x)))]) rfl ?_
            refine lv_dload hx hb dX6_insertKnot_156 (lv_at hl 0 rfl) ?_
            refine my_goR (v := (some (.double (s_within (V (s_pc P kn (s_st x))) (V (s_pc P kn (s_st x) + 1)) (s_h (V (s_pc P kn (s_st x))) (s_s P V F kn (s_pc P kn (s_st x))) (s_pk P V F kn (s_pc P kn (s_st x))) (s_qk P V F kn (s_pc P kn (s_st x))) (FP.dsub (s_st x) (P (s_pc P kn (s_st x))))))))) (my_runS (bytes := cX6_within) (maxL := 6) (ret := (some .double)) (n := 3) (As := [.double (V (s_pc P kn (s_st x))), .double (V (s_pc P kn (s_st x) + 1)), .double (s_h (V (s_pc P kn (s_st x))) (s_s P V F kn (s_pc P kn (s_st x))) (s_pk P V F kn (s_pc P kn (s_st x))) (s_qk P V F kn (s_pc P kn (s_st x))) (FP.dsub (s_st x) (P (s_pc P kn (s_st x)))))]) (rest := []) S hl.1 (kk_X6_within l D kd ki kz kl z (V (s_pc P kn (s_st x))) (V (s_pc P kn (s_st x) + 1)) (s_h (V (s_pc P kn (s_st x))) (s_s P V F kn (s_pc P kn (s_st x))) (s_pk P V F kn (s_pc P kn (s_st x))) (s_qk P V F kn (s_pc P kn (s_st x))) (FP.dsub (s_st x) (P (s_pc P kn (s_st x)))))) rfl ⟨rfl, rfl⟩ gX6_insertKnot_X6_within (by decide +kernel) rfl ⟨Nat.le_of_ble_eq_true rfl, Nat.le_of_ble_eq_true rfl⟩ (my_preR (my_C_S hC hS hz) (my_P_sub (wc := []) hP [] rfl)) rfl rfl dX6_insertKnot_158) ?_
            refine W.eq (g2 := F0 m 161 ls [.double (s_within (V (s_pc P kn (s_st x))) (V (s_pc P kn (s_st x) + 1)) (s_h (V (s_pc P kn (s_st x))) (s_s P V F kn (s_pc P kn (s_st x))) (s_pk P V F kn (s_pc P kn (s_st x))) (s_qk P V F kn (s_pc P kn (s_st x))) (FP.dsub (s_st x) (P (s_pc P kn (s_st x))))))]) rfl ?_
            refine lv_dstore (lv' := [(9, .double (s_within (V (s_pc P kn (s_st x))) (V (s_pc P kn (s_st x) + 1)) (s_h (V (s_pc P kn (s_st x))) (s_s P V F kn (s_pc P kn (s_st x))) (s_pk P V F kn (s_pc P kn (s_st x))) (s_qk P V F kn (s_pc P kn (s_st x))) (FP.dsub (s_st x) (P (s_pc P kn (s_st x))))))), (7, .double (s_h (V (s_pc P kn (s_st x))) (s_s P V F kn (s_pc P kn (s_st x))) (s_pk P V F kn (s_pc P kn (s_st x))) (s_qk P V F kn (s_pc P kn (s_st x))) (FP.dsub (s_st x) (P (s_pc P kn (s_st x)))))), (6, .int (nI (s_pc P kn (s_st x) + 1))), (5, .int (nI (s_pc P kn (s_st x)))), (3, .double (s_st x)), (0, .ref (ad 0)), (1, .double x)]) hx hb dX6_insertKnot_161 hl (by decide) rfl (fun ls hl => ?_)
            refine lv_aload_n hx hb dX6_insertKnot_163 rfl (lv_at hl 5 rfl) ?_
            refine va_get (D := D) (ci := 6) (v := .ref (ad 21)) (C := RX6) (T := TX6) (N := 6) hx hb hts iw_X6_insertKnot_X6 hown hC.1 hP 0 rfl rfl 3 (by decide) (hts (.fieldLink RX6 33 "MonotoneSpline" "piece" "LMonotoneSpline$Piece;") (List.mem_of_getElem? (l := wsX6_insertKnot) (i := 7) rfl)) (fun _ h9 => h9) rfl dX6_insertKnot_164 ?_
            refine lv_dload_n hx hb dX6_insertKnot_167 rfl (lv_at hl 4 rfl) ?_
            refine my_goR (v := (some (.double (s_t (s_s P V F kn (s_pc P kn (s_st x))) (s_pk P V F kn (s_pc P kn (s_st x))) (s_qk P V F kn (s_pc P kn (s_st x))) (FP.dsub (s_st x) (P (s_pc P kn (s_st x)))))))) (my_runV (bytes := cX2_steepnessAt) (maxL := 5) (ret := (some .double)) (n := 1) (As := [.double (s_st x)]) (rest := []) S hl.1 (kk_X2_steepnessAt l D kd ki kz kl z ad (P (s_pc P kn (s_st x))) (V (s_pc P kn (s_st x))) (s_s P V F kn (s_pc P kn (s_st x))) (s_pk P V F kn (s_pc P kn (s_st x))) (s_qk P V F kn (s_pc P kn (s_st x))) (s_st x) (PE_of hI (by omega)) (PE_x hI (by omega) hxB)) rfl ⟨rfl, rfl⟩ gX6_insertKnot_X2_steepnessAt (by decide +kernel) rfl ⟨Nat.le_of_ble_eq_true rfl, Nat.le_of_ble_eq_true rfl⟩ (my_preR (my_C_S hC hS hz) (my_P_sub (wc := [(ad 21, .inr (2, [.double (P (s_pc P kn (s_st x))), .double (V (s_pc P kn (s_st x))), .double (s_s P V F kn (s_pc P kn (s_st x))), .double (s_pk P V F kn (s_pc P kn (s_st x))), .double (s_qk P V F kn (s_pc P kn (s_st x)))]))]) hP [8] rfl)) (va_recv hC.1 hP (ci := 2) (q0 := 8) rfl rfl) rfl rfl dX6_insertKnot_168) ?_
            refine W.eq (g2 := F0 m 171 ls [.double (s_t (s_s P V F kn (s_pc P kn (s_st x))) (s_pk P V F kn (s_pc P kn (s_st x))) (s_qk P V F kn (s_pc P kn (s_st x))) (FP.dsub (s_st x) (P (s_pc P kn (s_st x)))))]) rfl ?_
            refine lv_dstore (lv' := [(11, .double (s_t (s_s P V F kn (s_pc P kn (s_st x))) (s_pk P V F kn (s_pc P kn (s_st x))) (s_qk P V F kn (s_pc P kn (s_st x))) (FP.dsub (s_st x) (P (s_pc P kn (s_st x)))))), (9, .double (s_within (V (s_pc P kn (s_st x))) (V (s_pc P kn (s_st x) + 1)) (s_h (V (s_pc P kn (s_st x))) (s_s P V F kn (s_pc P kn (s_st x))) (s_pk P V F kn (s_pc P kn (s_st x))) (s_qk P V F kn (s_pc P kn (s_st x))) (FP.dsub (s_st x) (P (s_pc P kn (s_st x))))))), (7, .double (s_h (V (s_pc P kn (s_st x))) (s_s P V F kn (s_pc P kn (s_st x))) (s_pk P V F kn (s_pc P kn (s_st x))) (s_qk P V F kn (s_pc P kn (s_st x))) (FP.dsub (s_st x) (P (s_pc P kn (s_st x)))))), (6, .int (nI (s_pc P kn (s_st x) + 1))), (5, .int (nI (s_pc P kn (s_st x)))), (3, .double (s_st x)), (0, .ref (ad 0)), (1, .double x)]) hx hb dX6_insertKnot_171 hl (by decide) rfl (fun ls hl => ?_)
            have j_195 : ∀ (H : Heap) (locs : List Loc) (hP : va_P D vwCl [(ad 0, .inr (6, [.ref (ad 1), .ref (ad 8), .ref (ad 14), .ref (ad 21), .ref (ad 22), .ref (ad 23)])), (ad 14, .inr (1, [.ref (ad 15), .ref (ad 17), .ref (ad 19), .int (nI kn)])), (ad 15, .inr (4, [.ref (ad 16)])), (ad 16, .inl (kd, 60, .inr (.inr (.inr (.inl P))))), (ad 17, .inr (4, [.ref (ad 18)])), (ad 18, .inl (kd, 60, .inr (.inr (.inr (.inl V))))), (ad 19, .inr (4, [.ref (ad 20)])), (ad 20, .inl (kd, 60, .inr (.inr (.inr (.inl F))))), (ad 21, .inr (2, [.double (P (s_pc P kn (s_st x))), .double (V (s_pc P kn (s_st x))), .double (s_s P V F kn (s_pc P kn (s_st x))), .double (s_pk P V F kn (s_pc P kn (s_st x))), .double (s_qk P V F kn (s_pc P kn (s_st x)))]))] H) (hD : va_D (my_A [(ad 0, .inr (6, [.ref (ad 1), .ref (ad 8), .ref (ad 14), .ref (ad 21), .ref (ad 22), .ref (ad 23)])), (ad 14, .inr (1, [.ref (ad 15), .ref (ad 17), .ref (ad 19), .int (nI kn)])), (ad 15, .inr (4, [.ref (ad 16)])), (ad 16, .inl (kd, 60, .inr (.inr (.inr (.inl P))))), (ad 17, .inr (4, [.ref (ad 18)])), (ad 18, .inl (kd, 60, .inr (.inr (.inr (.inl V))))), (ad 19, .inr (4, [.ref (ad 20)])), (ad 20, .inl (kd, 60, .inr (.inr (.inr (.inl F))))), (ad 21, .inr (2, [.double e0, .double e1, .double e2, .double e3, .double e4]))]) [(ad 0, .inr (6, [.ref (ad 1), .ref (ad 8), .ref (ad 14), .ref (ad 21), .ref (ad 22), .ref (ad 23)])), (ad 14, .inr (1, [.ref (ad 15), .ref (ad 17), .ref (ad 19), .int (nI kn)])), (ad 15, .inr (4, [.ref (ad 16)])), (ad 16, .inl (kd, 60, .inr (.inr (.inr (.inl P))))), (ad 17, .inr (4, [.ref (ad 18)])), (ad 18, .inl (kd, 60, .inr (.inr (.inr (.inl V))))), (ad 19, .inr (4, [.ref (ad 20)])), (ad 20, .inl (kd, 60, .inr (.inr (.inr (.inl F))))), (ad 21, .inr (2, [.double (P (s_pc P kn (s_st x))), .double (V (s_pc P kn (s_st x))), .double (s_s P V F kn (s_pc P kn (s_st x))), .double (s_pk P V F kn (s_pc P kn (s_st x))), .double (s_qk P V F kn (s_pc P kn (s_st x)))]))]) (hS : va_S (my_A [(ad 0, .inr (6, [.ref (ad 1), .ref (ad 8), .ref (ad 14), .ref (ad 21), .ref (ad 22), .ref (ad 23)])), (ad 14, .inr (1, [.ref (ad 15), .ref (ad 17), .ref (ad 19), .int (nI kn)])), (ad 15, .inr (4, [.ref (ad 16)])), (ad 16, .inl (kd, 60, .inr (.inr (.inr (.inl P))))), (ad 17, .inr (4, [.ref (ad 18)])), (ad 18, .inl (kd, 60, .inr (.inr (.inr (.inl V))))), (ad 19, .inr (4, [.ref (ad 20)])), (ad 20, .inl (kd, 60, .inr (.inr (.inr (.inl F))))), (ad 21, .inr (2, [.double e0, .double e1, .double e2, .double e3, .double e4]))]) s.heap H locs) (ls : Array Slot) (hl : lv_has ls 13 [(11, .double (s_t (s_s P V F kn (s_pc P kn (s_st x))) (s_pk P V F kn (s_pc P kn (s_st x))) (s_qk P V F kn (s_pc P kn (s_st x))) (FP.dsub (s_st x) (P (s_pc P kn (s_st x)))))), (9, .double (s_within (V (s_pc P kn (s_st x))) (V (s_pc P kn (s_st x) + 1)) (s_h (V (s_pc P kn (s_st x))) (s_s P V F kn (s_pc P kn (s_st x))) (s_pk P V F kn (s_pc P kn (s_st x))) (s_qk P V F kn (s_pc P kn (s_st x))) (FP.dsub (s_st x) (P (s_pc P kn (s_st x))))))), (7, .double (s_h (V (s_pc P kn (s_st x))) (s_s P V F kn (s_pc P kn (s_st x))) (s_pk P V F kn (s_pc P kn (s_st x))) (s_qk P V F kn (s_pc P kn (s_st x))) (FP.dsub (s_st x) (P (s_pc P kn (s_st x)))))), (6, .int (nI (s_pc P kn (s_st x) + 1))), (5, .int (nI (s_pc P kn (s_st x)))), (3, .double (s_st x)), (0, .ref (ad 0)), (1, .double x)]), W p l e ({ frames := 5, cells := 0, slots := 0, locals := 121 }) s m ([.ref (ad 0), .double x] : List Value).toArray below meth c H locs 0 0 (my_WQ below D ([.ref (ad 0), .double x] : List Value).toArray s [(ad 0, .inr (6, [.ref (ad 1), .ref (ad 8), .ref (ad 14), .ref (ad 21), .ref (ad 22), .ref (ad 23)])), (ad 14, .inr (1, [.ref (ad 15), .ref (ad 17), .ref (ad 19), .int (nI kn)])), (ad 15, .inr (4, [.ref (ad 16)])), (ad 16, .inl (kd, 60, .inr (.inr (.inr (.inl P))))), (ad 17, .inr (4, [.ref (ad 18)])), (ad 18, .inl (kd, 60, .inr (.inr (.inr (.inl V))))), (ad 19, .inr (4, [.ref (ad 20)])), (ad 20, .inl (kd, 60, .inr (.inr (.inr (.inl F))))), (ad 21, .inr (2, [.double e0, .double e1, .double e2, .double e3, .double e4]))] [(ad 0, .inr (6, [.ref (ad 1), .ref (ad 8), .ref (ad 14), .ref (ad 21), .ref (ad 22), .ref (ad 23)])), (ad 14, .inr (1, [.ref (ad 15), .ref (ad 17), .ref (ad 19), .int (nI (kn + 1))])), (ad 15, .inr (4, [.ref (ad 16)])), (ad 16, .inl (kd, 60, .inr (.inr (.inr (.inl (s_ins P (s_pc P kn (s_st x) + 1) kn (s_st x))))))), (ad 17, .inr (4, [.ref (ad 18)])), (ad 18, .inl (kd, 60, .inr (.inr (.inr (.inl (s_ins V (s_pc P kn (s_st x) + 1) kn (s_within (V (s_pc P kn (s_st x))) (V (s_pc P kn (s_st x) + 1)) (s_hk P V F kn (s_pc P kn (s_st x)) (s_st x))))))))), (ad 19, .inr (4, [.ref (ad 20)])), (ad 20, .inl (kd, 60, .inr (.inr (.inr (.inl (s_ins F (s_pc P kn (s_st x) + 1) kn (if sp_lt (s_tk P V F kn (s_pc P kn (s_st x)) (s_st x)) 0 then 0 else s_tk P V F kn (s_pc P kn (s_st x)) (s_st x)))))))), (ad 21, .inr (2, [.double (P (s_pc P kn (s_st x))), .double (V (s_pc P kn (s_st x))), .double (s_s P V F kn (s_pc P kn (s_st x))), .double (s_pk P V F kn (s_pc P kn (s_st x))), .double (s_qk P V F kn (s_pc P kn (s_st x)))]))] (some (.int (nI (s_pc P kn (s_st x) + 1))))) (F0 m 195 ls [.double (if sp_lt (s_tk P V F kn (s_pc P kn (s_st x)) (s_st x)) 0 then 0 else s_tk P V F kn (s_pc P kn (s_st x)) (s_st x)), .double (s_within (V (s_pc P kn (s_st x))) (V (s_pc P kn (s_st x) + 1)) (s_hk P V F kn (s_pc P kn (s_st x)) (s_st x))), .double (s_st x), .int (nI (s_pc P kn (s_st x) + 1)), .ref (ad 14)]) := by
              intro  H locs hP hD hS ls hl
              refine my_goW (v := none) (w1 := [(ad 14, .inr (1, [.ref (ad 15), .ref (ad 17), .ref (ad 19), .int (nI (kn + 1))])), (ad 15, .inr (4, [.ref (ad 16)])), (ad 16, .inl (kd, 60, .inr (.inr (.inr (.inl (s_ins P (s_pc P kn (s_st x) + 1) kn (s_st x))))))), (ad 17, .inr (4, [.ref (ad 18)])), (ad 18, .inl (kd, 60, .inr (.inr (.inr (.inl (s_ins V (s_pc P kn (s_st x) + 1) kn (s_within (V (s_pc P kn (s_st x))) (V (s_pc P kn (s_st x) + 1)) (s_hk P V F kn (s_pc P kn (s_st x)) (s_st x))))))))), (ad 19, .inr (4, [.ref (ad 20)])), (ad 20, .inl (kd, 60, .inr (.inr (.inr (.inl (s_ins F (s_pc P kn (s_st x) + 1) kn (if sp_lt (s_tk P V F kn (s_pc P kn (s_st x)) (s_st x)) 0 then 0 else s_tk P V F kn (s_pc P kn (s_st x)) (s_st x))))))))]) (wx' := [(ad 0, .inr (6, [.ref (ad 1), .ref (ad 8), .ref (ad 14), .ref (ad 21), .ref (ad 22), .ref (ad 23)])), (ad 14, .inr (1, [.ref (ad 15), .ref (ad 17), .ref (ad 19), .int (nI (kn + 1))])), (ad 15, .inr (4, [.ref (ad 16)])), (ad 16, .inl (kd, 60, .inr (.inr (.inr (.inl (s_ins P (s_pc P kn (s_st x) + 1) kn (s_st x))))))), (ad 17, .inr (4, [.ref (ad 18)])), (ad 18, .inl (kd, 60, .inr (.inr (.inr (.inl (s_ins V (s_pc P kn (s_st x) + 1) kn (s_within (V (s_pc P kn (s_st x))) (V (s_pc P kn (s_st x) + 1)) (s_hk P V F kn (s_pc P kn (s_st x)) (s_st x))))))))), (ad 19, .inr (4, [.ref (ad 20)])), (ad 20, .inl (kd, 60, .inr (.inr (.inr (.inl (s_ins F (s_pc P kn (s_st x) + 1) kn (if sp_lt (s_tk P V F kn (s_pc P kn (s_st x)) (s_st x)) 0 then 0 else s_tk P V F kn (s_pc P kn (s_st x)) (s_st x)))))))), (ad 21, .inr (2, [.double (P (s_pc P kn (s_st x))), .double (V (s_pc P kn (s_st x))), .double (s_s P V F kn (s_pc P kn (s_st x))), .double (s_pk P V F kn (s_pc P kn (s_st x))), .double (s_qk P V F kn (s_pc P kn (s_st x)))]))]) (my_runV (bytes := cX1_insert) (maxL := 8) (ret := none) (n := 4) (As := [.int (nI (s_pc P kn (s_st x) + 1)), .double (s_st x), .double (s_within (V (s_pc P kn (s_st x))) (V (s_pc P kn (s_st x) + 1)) (s_hk P V F kn (s_pc P kn (s_st x)) (s_st x))), .double (if sp_lt (s_tk P V F kn (s_pc P kn (s_st x)) (s_st x)) 0 then 0 else s_tk P V F kn (s_pc P kn (s_st x)) (s_st x))]) (rest := []) S hl.1 (kk_X1_insert l D kd ki kz kl z ad kn P V F (s_pc P kn (s_st x) + 1) (s_st x) (s_within (V (s_pc P kn (s_st x))) (V (s_pc P kn (s_st x) + 1)) (s_hk P V F kn (s_pc P kn (s_st x)) (s_st x))) (if sp_lt (s_tk P V F kn (s_pc P kn (s_st x)) (s_st x)) 0 then 0 else s_tk P V F kn (s_pc P kn (s_st x)) (s_st x)) (by omega) (by omega)) rfl ⟨rfl, rfl⟩ gX6_insertKnot_X1_insert (by decide +kernel) rfl ⟨Nat.le_of_ble_eq_true rfl, Nat.le_of_ble_eq_true rfl⟩ (my_preW (my_C_S hC hS hz) (my_P_sub (wc := [(ad 14, .inr (1, [.ref (ad 15), .ref (ad 17), .ref (ad 19), .int (nI kn)])), (ad 15, .inr (4, [.ref (ad 16)])), (ad 16, .inl (kd, 60, .inr (.inr (.inr (.inl P))))), (ad 17, .inr (4, [.ref (ad 18)])), (ad 18, .inl (kd, 60, .inr (.inr (.inr (.inl V))))), (ad 19, .inr (4, [.ref (ad 20)])), (ad 20, .inl (kd, 60, .inr (.inr (.inr (.inl F)))))]) hP [1, 2, 3, 4, 5, 6, 7] rfl) (my_D_sub hD hz [1, 2, 3, 4, 5, 6, 7] (by decide) rfl)) (va_recv hC.1 hP (ci := 1) (q0 := 1) rfl rfl) rfl rfl dX6_insertKnot_195) hP hD hS [1, 2, 3, 4, 5, 6, 7] rfl rfl rfl (fun H locs hP hD hS => ?_)
              refine W.eq (g2 := F0 m 198 ls []) rfl ?_
              refine lv_iload hx hb dX6_insertKnot_198 (lv_at hl 3 rfl) ?_
              exact my_iretW hx hb hr hlocks hP (rfl) hS (rfl) dX6_insertKnot_200
            refine lv_aload_n hx hb dX6_insertKnot_173 rfl (lv_at hl 6 rfl) ?_
            refine va_get (D := D) (ci := 6) (v := .ref (ad 14)) (C := RX6) (T := TX6) (N := 6) hx hb hts iw_X6_insertKnot_X6 hown hC.1 hP 0 rfl rfl 2 (by decide) (hts (.fieldLink RX6 26 "MonotoneSpline" "knots" "LMonotoneSpline$Knots;") (List.mem_of_getElem? (l := wsX6_insertKnot) (i := 5) rfl)) (fun _ h9 => h9) rfl dX6_insertKnot_174 ?_
            refine lv_iload hx hb dX6_insertKnot_177 (lv_at hl 3 rfl) ?_
            refine lv_dload_n hx hb dX6_insertKnot_179 rfl (lv_at hl 5 rfl) ?_
            refine lv_dload hx hb dX6_insertKnot_180 (lv_at hl 1 rfl) ?_
            refine lv_dload hx hb dX6_insertKnot_182 (lv_at hl 0 rfl) ?_
            refine lv_dconst0 hx hb dX6_insertKnot_184 ?_
            refine my_topd (w := 0) (by decide) ?_
            refine lv_dcmp hx hb dX6_insertKnot_185 ?_
            refine lv_if_ge (tgt := 193) hx hb dX6_insertKnot_186 (by decide) (fun c_186 => ?_) (fun c_186 => ?_)
            · have c_186 := cv_g_ge_t c_186
              refine lv_dload hx hb dX6_insertKnot_193 (lv_at hl 0 rfl) ?_
              refine my_topd (w := if sp_lt (s_tk P V F kn (s_pc P kn (s_st x)) (s_st x)) 0 then 0 else s_tk P V F kn (s_pc P kn (s_st x)) (s_st x)) ((if_neg c_186).symm) ?_
              exact j_195 _ _ hP hD hS _ (lv_sub hl [0, 1, 2, 3, 4, 5, 6, 7] rfl)
            · have c_186 := cv_g_ge_f c_186
              refine lv_dconst0 hx hb dX6_insertKnot_189 ?_
              refine my_topd (w := 0) (by decide) ?_
              refine lv_goto (tgt := 195) hx hb dX6_insertKnot_190 (by decide) ?_
              refine my_topd (w := if sp_lt (s_tk P V F kn (s_pc P kn (s_st x)) (s_st x)) 0 then 0 else s_tk P V F kn (s_pc P kn (s_st x)) (s_st x)) ((if_pos c_186).symm) ?_
              exact j_195 _ _ hP hD hS _ (lv_sub hl [0, 1, 2, 3, 4, 5, 6, 7] rfl)
          · have c_103 : ¬ kn < 60 := fun h9 => c_103 ((nI_ltI (a := kn) (b := 60) (by omega) (by omega)).mpr h9)
            exact absurd hk6 c_103
        · have c_81 := cv_g_ge_f c_81
          exact absurd c_81 h3
    · skip
      first | exact absurd c_13 (by decide) | exact absurd (by decide) c_13
  · rw [if_neg q_h1]
    exact absurd h1 q_h1

theorem iw_X6_reach_X6 : ∀ w ∈ wsX60, w ∈ wsX6_reach := fun w h => List.mem_cons_of_mem _ (List.mem_append_left _ (List.mem_append_left _ (List.mem_append_left _ (List.mem_append_left _ (List.mem_append_right _ (h))))))
theorem iw_X6_reach_X1 : ∀ w ∈ wsX10, w ∈ wsX6_reach := fun w h => List.mem_cons_of_mem _ (List.mem_append_left _ (List.mem_append_left _ (List.mem_append_left _ (List.mem_append_right _ (h)))))
set_option maxHeartbeats 4000000 in
set_option maxRecDepth 100000 in
theorem kk_X6_reach (l : Launch) (D : va_G) (kd ki kz kl : ClassId) (z : Nat) (ad : Nat → Nat) (kn : Nat) (P : Nat → UInt64) (V : Nat → UInt64) (F : Nat → UInt64) (y : UInt64) (e0 : UInt64) (e1 : UInt64) (e2 : UInt64) (e3 : UInt64) (e4 : UInt64) (hI : KI kn P V F) (h1 : 0 < kn ∧ sp_ge y (V 0) ∧ sp_le y (V (kn - 1))) : my_WR l D kd ki kz kl z yX6_reach wsX6_reach ({ frames := 5, cells := 0, slots := 0, locals := 121 }) [.ref (ad 0), .double y] [(ad 0, .inr (6, [.ref (ad 1), .ref (ad 8), .ref (ad 14), .ref (ad 21), .ref (ad 22), .ref (ad 23)])), (ad 14, .inr (1, [.ref (ad 15), .ref (ad 17), .ref (ad 19), .int (nI kn)])), (ad 15, .inr (4, [.ref (ad 16)])), (ad 16, .inl (kd, 60, .inr (.inr (.inr (.inl P))))), (ad 17, .inr (4, [.ref (ad 18)])), (ad 18, .inl (kd, 60, .inr (.inr (.inr (.inl V))))), (ad 19, .inr (4, [.ref (ad 20)])), (ad 20, .inl (kd, 60, .inr (.inr (.inr (.inl F))))), (ad 21, .inr (2, [.double e0, .double e1, .double e2, .double e3, .double e4]))] [(ad 0, .inr (6, [.ref (ad 1), .ref (ad 8), .ref (ad 14), .ref (ad 21), .ref (ad 22), .ref (ad 23)])), (ad 14, .inr (1, [.ref (ad 15), .ref (ad 17), .ref (ad 19), .int (nI kn)])), (ad 15, .inr (4, [.ref (ad 16)])), (ad 16, .inl (kd, 60, .inr (.inr (.inr (.inl P))))), (ad 17, .inr (4, [.ref (ad 18)])), (ad 18, .inl (kd, 60, .inr (.inr (.inr (.inl V))))), (ad 19, .inr (4, [.ref (ad 20)])), (ad 20, .inl (kd, 60, .inr (.inr (.inr (.inl F))))), (ad 21, .inr (2, [.double (P (s_rp V kn y)), .double (V (s_rp V kn y)), .double (s_s P V F kn (s_rp V kn y)), .double (s_pk P V F kn (s_rp V kn y)), .double (s_qk P V F kn (s_rp V kn y))]))] (some (.double (s_bs P V F kn (s_rp V kn y) y 60 (P (s_rp V kn y)) (P (s_rp V kn y + 1))))) := by
  refine my_WR_of (cc := cX6_reach) (maxL := 11) (ret := (some .double)) (by decide) rfl (Nat.le_of_ble_eq_true rfl) ?_
  intro p e s m below meth c S hr hlocks hC hP hD hz hS ls hl
  have S : CallFix p m c cX6_reach 11 s ([.ref (ad 0), .double y] : List Value).toArray wsX6_reach RX6 := S
  obtain ⟨hx, hb, hml, hown, hts⟩ := id S
  have hl : lv_has ls 11 [(0, .ref (ad 0)), (1, .double y)] := hl
  suffices K0 : ∀ (H : Heap) (locs : List Loc), va_P D vwCl [(ad 0, .inr (6, [.ref (ad 1), .ref (ad 8), .ref (ad 14), .ref (ad 21), .ref (ad 22), .ref (ad 23)])), (ad 14, .inr (1, [.ref (ad 15), .ref (ad 17), .ref (ad 19), .int (nI kn)])), (ad 15, .inr (4, [.ref (ad 16)])), (ad 16, .inl (kd, 60, .inr (.inr (.inr (.inl P))))), (ad 17, .inr (4, [.ref (ad 18)])), (ad 18, .inl (kd, 60, .inr (.inr (.inr (.inl V))))), (ad 19, .inr (4, [.ref (ad 20)])), (ad 20, .inl (kd, 60, .inr (.inr (.inr (.inl F))))), (ad 21, .inr (2, [.double e0, .double e1, .double e2, .double e3, .double e4]))] H → va_D (my_A [(ad 0, .inr (6, [.ref (ad 1), .ref (ad 8), .ref (ad 14), .ref (ad 21), .ref (ad 22), .ref (ad 23)])), (ad 14, .inr (1, [.ref (ad 15), .ref (ad 17), .ref (ad 19), .int (nI kn)])), (ad 15, .inr (4, [.ref (ad 16)])), (ad 16, .inl (kd, 60, .inr (.inr (.inr (.inl P))))), (ad 17, .inr (4, [.ref (ad 18)])), (ad 18, .inl (kd, 60, .inr (.inr (.inr (.inl V))))), (ad 19, .inr (4, [.ref (ad 20)])), (ad 20, .inl (kd, 60, .inr (.inr (.inr (.inl F))))), (ad 21, .inr (2, [.double e0, .double e1, .double e2, .double e3, .double e4]))]) [(ad 0, .inr (6, [.ref (ad 1), .ref (ad 8), .ref (ad 14), .ref (ad 21), .ref (ad 22), .ref (ad 23)])), (ad 14, .inr (1, [.ref (ad 15), .ref (ad 17), .ref (ad 19), .int (nI kn)])), (ad 15, .inr (4, [.ref (ad 16)])), (ad 16, .inl (kd, 60, .inr (.inr (.inr (.inl P))))), (ad 17, .inr (4, [.ref (ad 18)])), (ad 18, .inl (kd, 60, .inr (.inr (.inr (.inl V))))), (ad 19, .inr (4, [.ref (ad 20)])), (ad 20, .inl (kd, 60, .inr (.inr (.inr (.inl F))))), (ad 21, .inr (2, [.double e0, .double e1, .double e2, .double e3, .double e4]))] → va_S (my_A [(ad 0, .inr (6, [.ref (ad 1), .ref (ad 8), .ref (ad 14), .ref (ad 21), .ref (ad 22), .ref (ad 23)])), (ad 14, .inr (1, [.ref (ad 15), .ref (ad 17), .ref (ad 19), .int (nI kn)])), (ad 15, .inr (4, [.ref (ad 16)])), (ad 16, .inl (kd, 60, .inr (.inr (.inr (.inl P))))), (ad 17, .inr (4, [.ref (ad 18)])), (ad 18, .inl (kd, 60, .inr (.inr (.inr (.inl V))))), (ad 19, .inr (4, [.ref (ad 20)])), (ad 20, .inl (kd, 60, .inr (.inr (.inr (.inl F))))), (ad 21, .inr (2, [.double e0, .double e1, .double e2, .double e3, .double e4]))]) s.heap H locs → W p l e ({ frames := 5, cells := 0, slots := 0, locals := 121 }) s m ([.ref (ad 0), .double y] : List Value).toArray below meth c H locs 0 0 (my_WQ below D ([.ref (ad 0), .double y] : List Value).toArray s [(ad 0, .inr (6, [.ref (ad 1), .ref (ad 8), .ref (ad 14), .ref (ad 21), .ref (ad 22), .ref (ad 23)])), (ad 14, .inr (1, [.ref (ad 15), .ref (ad 17), .ref (ad 19), .int (nI kn)])), (ad 15, .inr (4, [.ref (ad 16)])), (ad 16, .inl (kd, 60, .inr (.inr (.inr (.inl P))))), (ad 17, .inr (4, [.ref (ad 18)])), (ad 18, .inl (kd, 60, .inr (.inr (.inr (.inl V))))), (ad 19, .inr (4, [.ref (ad 20)])), (ad 20, .inl (kd, 60, .inr (.inr (.inr (.inl F))))), (ad 21, .inr (2, [.double e0, .double e1, .double e2, .double e3, .double e4]))] [(ad 0, .inr (6, [.ref (ad 1), .ref (ad 8), .ref (ad 14), .ref (ad 21), .ref (ad 22), .ref (ad 23)])), (ad 14, .inr (1, [.ref (ad 15), .ref (ad 17), .ref (ad 19), .int (nI kn)])), (ad 15, .inr (4, [.ref (ad 16)])), (ad 16, .inl (kd, 60, .inr (.inr (.inr (.inl P))))), (ad 17, .inr (4, [.ref (ad 18)])), (ad 18, .inl (kd, 60, .inr (.inr (.inr (.inl V))))), (ad 19, .inr (4, [.ref (ad 20)])), (ad 20, .inl (kd, 60, .inr (.inr (.inr (.inl F))))), (ad 21, .inr (2, [.double (P (s_rp V kn y)), .double (V (s_rp V kn y)), .double (s_s P V F kn (s_rp V kn y)), .double (s_pk P V F kn (s_rp V kn y)), .double (s_qk P V F kn (s_rp V kn y))]))] (some (.double (s_bs P V F kn (s_rp V kn y) y 60 (P (s_rp V kn y)) (P (s_rp V kn y + 1)))))) (F0 m 0 ls []) from K0 _ _ hP hD hS
  intro H locs hP hD hS
  have hJ := hI.1
  have hkn := hJ.2.1
  have hkn2 := hJ.1
  have hlt := s_rp_lt (V := V) (y := y) hkn2
  refine lv_aload_n hx hb dX6_reach_0 rfl (lv_at hl 0 rfl) ?_
  refine va_get (D := D) (ci := 6) (v := .ref (ad 14)) (C := RX6) (T := TX6) (N := 6) hx hb hts iw_X6_reach_X6 hown hC.1 hP 0 rfl rfl 2 (by decide) (hts (.fieldLink RX6 26 "MonotoneSpline" "knots" "LMonotoneSpline$Knots;") (List.mem_of_getElem? (l := wsX6_reach) (i := 3) rfl)) (fun _ h9 => h9) rfl dX6_reach_1 ?_
  refine lv_dload_n hx hb dX6_reach_4 rfl (lv_at hl 1 rfl) ?_
  refine my_goR (v := (some (.int (if 0 < kn ∧ sp_ge y (V 0) ∧ sp_le y (V (kn - 1)) then 1 else 0)))) (my_runV (bytes := cX1_spansHeight) (maxL := 3) (ret := (some .boolean)) (n := 1) (As := [.double y]) (rest := []) S hl.1 (kk_X1_spansHeight l D kd ki kz kl z ad kn V y (by omega)) rfl ⟨rfl, rfl⟩ gX6_reach_X1_spansHeight (by decide +kernel) rfl ⟨Nat.le_of_ble_eq_true rfl, Nat.le_of_ble_eq_true rfl⟩ (my_preR (my_C_S hC hS hz) (my_P_sub (wc := [(ad 14, .inr (1, [.ref (ad 15), .ref (ad 17), .ref (ad 19), .int (nI kn)])), (ad 17, .inr (4, [.ref (ad 18)])), (ad 18, .inl (kd, 60, .inr (.inr (.inr (.inl V)))))]) hP [1, 4, 5] rfl)) (va_recv hC.1 hP (ci := 1) (q0 := 1) rfl rfl) rfl rfl dX6_reach_5) ?_
  refine W.eq (g2 := F0 m 8 ls [.int (if 0 < kn ∧ sp_ge y (V 0) ∧ sp_le y (V (kn - 1)) then 1 else 0)]) rfl ?_
  by_cases q_h1 : 0 < kn ∧ sp_ge y (V 0) ∧ sp_le y (V (kn - 1))
  · rw [if_pos q_h1]
    refine lv_if_ne (tgt := 21) hx hb dX6_reach_8 (by decide) (fun c_8 => ?_) (fun c_8 => ?_)
    · skip
      refine lv_aload_n hx hb dX6_reach_21 rfl (lv_at hl 0 rfl) ?_
      refine va_get (D := D) (ci := 6) (v := .ref (ad 14)) (C := RX6) (T := TX6) (N := 6) hx hb hts iw_X6_reach_X6 hown hC.1 hP 0 rfl rfl 2 (by decide) (hts (.fieldLink RX6 26 "MonotoneSpline" "knots" "LMonotoneSpline$Knots;") (List.mem_of_getElem? (l := wsX6_reach) (i := 3) rfl)) (fun _ h9 => h9) rfl dX6_reach_22 ?_
      refine lv_dload_n hx hb dX6_reach_25 rfl (lv_at hl 1 rfl) ?_
      refine my_goR (v := (some (.int (nI (s_rp V kn y))))) (my_runV (bytes := cX1_firstPieceReaching) (maxL := 4) (ret := (some .int)) (n := 1) (As := [.double y]) (rest := []) S hl.1 (kk_X1_firstPieceReaching l D kd ki kz kl z ad kn V y (by omega) (by omega)) rfl ⟨rfl, rfl⟩ gX6_reach_X1_firstPieceReaching (by decide +kernel) rfl ⟨Nat.le_of_ble_eq_true rfl, Nat.le_of_ble_eq_true rfl⟩ (my_preR (my_C_S hC hS hz) (my_P_sub (wc := [(ad 14, .inr (1, [.ref (ad 15), .ref (ad 17), .ref (ad 19), .int (nI kn)])), (ad 17, .inr (4, [.ref (ad 18)])), (ad 18, .inl (kd, 60, .inr (.inr (.inr (.inl V)))))]) hP [1, 4, 5] rfl)) (va_recv hC.1 hP (ci := 1) (q0 := 1) rfl rfl) rfl rfl dX6_reach_26) ?_
      refine W.eq (g2 := F0 m 29 ls [.int (nI (s_rp V kn y))]) rfl ?_
      refine lv_istore_n (lv' := [(3, .int (nI (s_rp V kn y))), (0, .ref (ad 0)), (1, .double y)]) hx hb dX6_reach_29 rfl hl (by decide) rfl (fun ls hl => ?_)
      refine lv_aload_n hx hb dX6_reach_30 rfl (lv_at hl 1 rfl) ?_
      refine lv_iload_n hx hb dX6_reach_31 rfl (lv_at hl 0 rfl) ?_
      refine my_goW (v := none) (w1 := [(ad 0, .inr (6, [.ref (ad 1), .ref (ad 8), .ref (ad 14), .ref (ad 21), .ref (ad 22), .ref (ad 23)])), (ad 14, .inr (1, [.ref (ad 15), .ref (ad 17), .ref (ad 19), .int (nI kn)])), (ad 15, .inr (4, [.ref (ad 16)])), (ad 16, .inl (kd, 60, .inr (.inr (.inr (.inl P))))), (ad 17, .inr (4, [.ref (ad 18)])), (ad 18, .inl (kd, 60, .inr (.inr (.inr (.inl V))))), (ad 19, .inr (4, [.ref (ad 20)])), (ad 20, .inl (kd, 60, .inr (.inr (.inr (.inl F))))), (ad 21, .inr (2, [.double (P (s_rp V kn y)), .double (V (s_rp V kn y)), .double (s_s P V F kn (s_rp V kn y)), .double (s_pk P V F kn (s_rp V kn y)), .double (s_qk P V F kn (s_rp V kn y))]))]) (wx' := [(ad 0, .inr (6, [.ref (ad 1), .ref (ad 8), .ref (ad 14), .ref (ad 21), .ref (ad 22), .ref (ad 23)])), (ad 14, .inr (1, [.ref (ad 15), .ref (ad 17), .ref (ad 19), .int (nI kn)])), (ad 15, .inr (4, [.ref (ad 16)])), (ad 16, .inl (kd, 60, .inr (.inr (.inr (.inl P))))), (ad 17, .inr (4, [.ref (ad 18)])), (ad 18, .inl (kd, 60, .inr (.inr (.inr (.inl V))))), (ad 19, .inr (4, [.ref (ad 20)])), (ad 20, .inl (kd, 60, .inr (.inr (.inr (.inl F))))), (ad 21, .inr (2, [.double (P (s_rp V kn y)), .double (V (s_rp V kn y)), .double (s_s P V F kn (s_rp V kn y)), .double (s_pk P V F kn (s_rp V kn y)), .double (s_qk P V F kn (s_rp V kn y))]))]) (my_runV (bytes := cX6_layPiece) (maxL := 2) (ret := none) (n := 1) (As := [.int (nI (s_rp V kn y))]) (rest := []) S hl.1 (kk_X6_layPiece l D kd ki kz kl z ad kn P V F (s_rp V kn y) e0 e1 e2 e3 e4 (hI) (by omega)) rfl ⟨rfl, rfl⟩ gX6_reach_X6_layPiece (by decide +kernel) rfl ⟨Nat.le_of_ble_eq_true rfl, Nat.le_of_ble_eq_true rfl⟩ (my_preW (my_C_S hC hS hz) (my_P_sub (wc := [(ad 0, .inr (6, [.ref (ad 1), .ref (ad 8), .ref (ad 14), .ref (ad 21), .ref (ad 22), .ref (ad 23)])), (ad 14, .inr (1, [.ref (ad 15), .ref (ad 17), .ref (ad 19), .int (nI kn)])), (ad 15, .inr (4, [.ref (ad 16)])), (ad 16, .inl (kd, 60, .inr (.inr (.inr (.inl P))))), (ad 17, .inr (4, [.ref (ad 18)])), (ad 18, .inl (kd, 60, .inr (.inr (.inr (.inl V))))), (ad 19, .inr (4, [.ref (ad 20)])), (ad 20, .inl (kd, 60, .inr (.inr (.inr (.inl F))))), (ad 21, .inr (2, [.double e0, .double e1, .double e2, .double e3, .double e4]))]) hP [0, 1, 2, 3, 4, 5, 6, 7, 8] rfl) (my_D_sub hD hz [0, 1, 2, 3, 4, 5, 6, 7, 8] (by decide) rfl)) (va_recv hC.1 hP (ci := 6) (q0 := 0) rfl rfl) rfl rfl dX6_reach_32) hP hD hS [0, 1, 2, 3, 4, 5, 6, 7, 8] rfl rfl rfl (fun H locs hP hD hS => ?_)
      refine W.eq (g2 := F0 m 35 ls []) rfl ?_
      refine lv_aload_n hx hb dX6_reach_35 rfl (lv_at hl 1 rfl) ?_
      refine va_get (D := D) (ci := 6) (v := .ref (ad 14)) (C := RX6) (T := TX6) (N := 6) hx hb hts iw_X6_reach_X6 hown hC.1 hP 0 rfl rfl 2 (by decide) (hts (.fieldLink RX6 26 "MonotoneSpline" "knots" "LMonotoneSpline$Knots;") (List.mem_of_getElem? (l := wsX6_reach) (i := 3) rfl)) (fun _ h9 => h9) rfl dX6_reach_36 ?_
      refine va_getN (D := D) (ci := 1) (v := .ref (ad 15)) (C := RX1) (T := TX1) (N := 4) hx hb hts iw_X6_reach_X1 hown hC.1 hP 1 rfl rfl 0 (by decide) (va_Nw.use (w := .fieldLinkNest "MonotoneSpline" 146 "MonotoneSpline$Knots" "places" "LMonotoneSpline$Row;" "MonotoneSpline") rfl (hC.2.1 _ (List.mem_of_getElem? (l := my_nest) (i := 8) rfl))) (fun _ h9 => h9) rfl dX6_reach_39 ?_
      refine lv_iload_n hx hb dX6_reach_42 rfl (lv_at hl 0 rfl) ?_
      refine my_goR (v := (some (.double (P (s_rp V kn y))))) (my_runV (bytes := cX4_get) (maxL := 2) (ret := (some .double)) (n := 1) (As := [.int (nI (s_rp V kn y))]) (rest := []) S hl.1 (kk_X4_get l D kd ki kz kl z (ad 15) (ad 16) 60 P (s_rp V kn y) (by omega) (by omega)) rfl ⟨rfl, rfl⟩ gX6_reach_X4_get (by decide +kernel) rfl ⟨Nat.le_of_ble_eq_true rfl, Nat.le_of_ble_eq_true rfl⟩ (my_preR (my_C_S hC hS hz) (my_P_sub (wc := [(ad 15, .inr (4, [.ref (ad 16)])), (ad 16, .inl (kd, 60, .inr (.inr (.inr (.inl P)))))]) hP [2, 3] rfl)) (va_recv hC.1 hP (ci := 4) (q0 := 2) rfl rfl) rfl rfl dX6_reach_43) ?_
      refine W.eq (g2 := F0 m 46 ls [.double (P (s_rp V kn y))]) rfl ?_
      refine lv_dstore (lv' := [(4, .double (P (s_rp V kn y))), (3, .int (nI (s_rp V kn y))), (0, .ref (ad 0)), (1, .double y)]) hx hb dX6_reach_46 hl (by decide) rfl (fun ls hl => ?_)
      refine lv_aload_n hx hb dX6_reach_48 rfl (lv_at hl 2 rfl) ?_
      refine va_get (D := D) (ci := 6) (v := .ref (ad 14)) (C := RX6) (T := TX6) (N := 6) hx hb hts iw_X6_reach_X6 hown hC.1 hP 0 rfl rfl 2 (by decide) (hts (.fieldLink RX6 26 "MonotoneSpline" "knots" "LMonotoneSpline$Knots;") (List.mem_of_getElem? (l := wsX6_reach) (i := 3) rfl)) (fun _ h9 => h9) rfl dX6_reach_49 ?_
      refine va_getN (D := D) (ci := 1) (v := .ref (ad 15)) (C := RX1) (T := TX1) (N := 4) hx hb hts iw_X6_reach_X1 hown hC.1 hP 1 rfl rfl 0 (by decide) (va_Nw.use (w := .fieldLinkNest "MonotoneSpline" 146 "MonotoneSpline$Knots" "places" "LMonotoneSpline$Row;" "MonotoneSpline") rfl (hC.2.1 _ (List.mem_of_getElem? (l := my_nest) (i := 8) rfl))) (fun _ h9 => h9) rfl dX6_reach_52 ?_
      refine lv_iload_n hx hb dX6_reach_55 rfl (lv_at hl 1 rfl) ?_
      refine lv_iconst (v := 1) hx hb dX6_reach_56 (by decide) ?_
      refine my_iadd (w := nI (s_rp V kn y + 1)) hx hb dX6_reach_57 (nI_add (s_rp V kn y) 1) ?_
      refine my_goR (v := (some (.double (P (s_rp V kn y + 1))))) (my_runV (bytes := cX4_get) (maxL := 2) (ret := (some .double)) (n := 1) (As := [.int (nI (s_rp V kn y + 1))]) (rest := []) S hl.1 (kk_X4_get l D kd ki kz kl z (ad 15) (ad 16) 60 P (s_rp V kn y + 1) (by omega) (by omega)) rfl ⟨rfl, rfl⟩ gX6_reach_X4_get (by decide +kernel) rfl ⟨Nat.le_of_ble_eq_true rfl, Nat.le_of_ble_eq_true rfl⟩ (my_preR (my_C_S hC hS hz) (my_P_sub (wc := [(ad 15, .inr (4, [.ref (ad 16)])), (ad 16, .inl (kd, 60, .inr (.inr (.inr (.inl P)))))]) hP [2, 3] rfl)) (va_recv hC.1 hP (ci := 4) (q0 := 2) rfl rfl) rfl rfl dX6_reach_58) ?_
      refine W.eq (g2 := F0 m 61 ls [.double (P (s_rp V kn y + 1))]) rfl ?_
      refine lv_dstore (lv' := [(6, .double (P (s_rp V kn y + 1))), (4, .double (P (s_rp V kn y))), (3, .int (nI (s_rp V kn y))), (0, .ref (ad 0)), (1, .double y)]) hx hb dX6_reach_61 hl (by decide) rfl (fun ls hl => ?_)
      refine lv_iconst (v := 0) hx hb dX6_reach_63 (by decide) ?_
      refine lv_istore (lv' := [(8, .int 0), (6, .double (P (s_rp V kn y + 1))), (4, .double (P (s_rp V kn y))), (3, .int (nI (s_rp V kn y))), (0, .ref (ad 0)), (1, .double y)]) hx hb dX6_reach_64 hl (by decide) rfl (fun ls hl => ?_)
      have loop_66 : ∀ (n9 : Nat) (i : Nat) (lo9 : UInt64) (hi9 : UInt64), 60 - i < n9 → ∀ (hi6 : i ≤ 60) (hlo : fx_B (1047 + 2 * i) lo9) (hhi : fx_B (1047 + 2 * i) hi9) (hs : s_bs P V F kn (s_rp V kn y) y (60 - i) lo9 hi9 = s_bs P V F kn (s_rp V kn y) y 60 (P (s_rp V kn y)) (P (s_rp V kn y + 1))) (H : Heap) (locs : List Loc) (hP : va_P D vwCl [(ad 0, .inr (6, [.ref (ad 1), .ref (ad 8), .ref (ad 14), .ref (ad 21), .ref (ad 22), .ref (ad 23)])), (ad 14, .inr (1, [.ref (ad 15), .ref (ad 17), .ref (ad 19), .int (nI kn)])), (ad 15, .inr (4, [.ref (ad 16)])), (ad 16, .inl (kd, 60, .inr (.inr (.inr (.inl P))))), (ad 17, .inr (4, [.ref (ad 18)])), (ad 18, .inl (kd, 60, .inr (.inr (.inr (.inl V))))), (ad 19, .inr (4, [.ref (ad 20)])), (ad 20, .inl (kd, 60, .inr (.inr (.inr (.inl F))))), (ad 21, .inr (2, [.double (P (s_rp V kn y)), .double (V (s_rp V kn y)), .double (s_s P V F kn (s_rp V kn y)), .double (s_pk P V F kn (s_rp V kn y)), .double (s_qk P V F kn (s_rp V kn y))]))] H) (hD : va_D (my_A [(ad 0, .inr (6, [.ref (ad 1), .ref (ad 8), .ref (ad 14), .ref (ad 21), .ref (ad 22), .ref (ad 23)])), (ad 14, .inr (1, [.ref (ad 15), .ref (ad 17), .ref (ad 19), .int (nI kn)])), (ad 15, .inr (4, [.ref (ad 16)])), (ad 16, .inl (kd, 60, .inr (.inr (.inr (.inl P))))), (ad 17, .inr (4, [.ref (ad 18)])), (ad 18, .inl (kd, 60, .inr (.inr (.inr (.inl V))))), (ad 19, .inr (4, [.ref (ad 20)])), (ad 20, .inl (kd, 60, .inr (.inr (.inr (.inl F))))), (ad 21, .inr (2, [.double e0, .double e1, .double e2, .double e3, .double e4]))]) [(ad 0, .inr (6, [.ref (ad 1), .ref (ad 8), .ref (ad 14), .ref (ad 21), .ref (ad 22), .ref (ad 23)])), (ad 14, .inr (1, [.ref (ad 15), .ref (ad 17), .ref (ad 19), .int (nI kn)])), (ad 15, .inr (4, [.ref (ad 16)])), (ad 16, .inl (kd, 60, .inr (.inr (.inr (.inl P))))), (ad 17, .inr (4, [.ref (ad 18)])), (ad 18, .inl (kd, 60, .inr (.inr (.inr (.inl V))))), (ad 19, .inr (4, [.ref (ad 20)])), (ad 20, .inl (kd, 60, .inr (.inr (.inr (.inl F))))), (ad 21, .inr (2, [.double (P (s_rp V kn y)), .double (V (s_rp V kn y)), .double (s_s P V F kn (s_rp V kn y)), .double (s_pk P V F kn (s_rp V kn y)), .double (s_qk P V F kn (s_rp V kn y))]))]) (hS : va_S (my_A [(ad 0, .inr (6, [.ref (ad 1), .ref (ad 8), .ref (ad 14), .ref (ad 21), .ref (ad 22), .ref (ad 23)])), (ad 14, .inr (1, [.ref (ad 15), .ref (ad 17), .ref (ad 19), .int (nI kn)])), (ad 15, .inr (4, [.ref (ad 16)])), (ad 16, .inl (kd, 60, .inr (.inr (.inr (.inl P))))), (ad 17, .inr (4, [.ref (ad 18)])), (ad 18, .inl (kd, 60, .inr (.inr (.inr (.inl V))))), (ad 19, .inr (4, [.ref (ad 20)])), (ad 20, .inl (kd, 60, .inr (.inr (.inr (.inl F))))), (ad 21, .inr (2, [.double e0, .double e1, .double e2, .double e3, .double e4]))]) s.heap H locs) (ls : Array Slot) (hl : lv_has ls 11 [(8, .int (nI i)), (4, .double lo9), (6, .double hi9), (0, .ref (ad 0)), (1, .double y)]), W p l e ({ frames := 5, cells := 0, slots := 0, locals := 121 }) s m ([.ref (ad 0), .double y] : List Value).toArray below meth c H locs 0 0 (my_WQ below D ([.ref (ad 0), .double y] : List Value).toArray s [(ad 0, .inr (6, [.ref (ad 1), .ref (ad 8), .ref (ad 14), .ref (ad 21), .ref (ad 22), .ref (ad 23)])), (ad 14, .inr (1, [.ref (ad 15), .ref (ad 17), .ref (ad 19), .int (nI kn)])), (ad 15, .inr (4, [.ref (ad 16)])), (ad 16, .inl (kd, 60, .inr (.inr (.inr (.inl P))))), (ad 17, .inr (4, [.ref (ad 18)])), (ad 18, .inl (kd, 60, .inr (.inr (.inr (.inl V))))), (ad 19, .inr (4, [.ref (ad 20)])), (ad 20, .inl (kd, 60, .inr (.inr (.inr (.inl F))))), (ad 21, .inr (2, [.double e0, .double e1, .double e2, .double e3, .double e4]))] [(ad 0, .inr (6, [.ref (ad 1), .ref (ad 8), .ref (ad 14), .ref (ad 21), .ref (ad 22), .ref (ad 23)])), (ad 14, .inr (1, [.ref (ad 15), .ref (ad 17), .ref (ad 19), .int (nI kn)])), (ad 15, .inr (4, [.ref (ad 16)])), (ad 16, .inl (kd, 60, .inr (.inr (.inr (.inl P))))), (ad 17, .inr (4, [.ref (ad 18)])), (ad 18, .inl (kd, 60, .inr (.inr (.inr (.inl V))))), (ad 19, .inr (4, [.ref (ad 20)])), (ad 20, .inl (kd, 60, .inr (.inr (.inr (.inl F))))), (ad 21, .inr (2, [.double (P (s_rp V kn y)), .double (V (s_rp V kn y)), .double (s_s P V F kn (s_rp V kn y)), .double (s_pk P V F kn (s_rp V kn y)), .double (s_qk P V F kn (s_rp V kn y))]))] (some (.double (s_bs P V F kn (s_rp V kn y) y 60 (P (s_rp V kn y)) (P (s_rp V kn y + 1)))))) (F0 m 66 ls []) := by
        intro n9
        induction n9 with
        | zero => intro i lo9 hi9 h9; exact absurd h9 (Nat.not_lt_zero _)
        | succ n9 ih_66 =>
          intro i lo9 hi9 h9 hi6 hlo hhi hs H locs hP hD hS ls hl
          refine lv_iload hx hb dX6_reach_66 (lv_at hl 0 rfl) ?_
          refine lv_bipush (v := 60) hx hb dX6_reach_68 (by decide) ?_
          refine lv_icmp_ge (tgt := 115) hx hb dX6_reach_70 (by decide) (fun c_70 => ?_) (fun c_70 => ?_)
          · have c_70 : 60 ≤ i := (nI_leI (a := 60) (b := i) (by omega) (by omega)).mp c_70
            refine lv_dload hx hb dX6_reach_115 (lv_at hl 2 rfl) ?_
            exact my_dretW hx hb hr hlocks hP (rfl) hS (by rw [← hs, show 60 - i = 0 by omega]; rfl) dX6_reach_117
          · have c_70 : ¬ 60 ≤ i := fun h9 => c_70 ((nI_leI (a := 60) (b := i) (by omega) (by omega)).mpr h9)
            refine lv_dload hx hb dX6_reach_73 (lv_at hl 1 rfl) ?_
            refine lv_dload hx hb dX6_reach_75 (lv_at hl 2 rfl) ?_
            refine lv_dadd hx hb dX6_reach_77 (fx_n64 (fx_B_n (s_mid hlo hhi (by omega) (by omega)).1 (by omega))) ?_
            refine lv_ldc2d hx hb hown (hts (.constantDouble RX6 219 (4611686018427387904)) (List.mem_of_getElem? (l := wsX6_reach) (i := 4) rfl)) dX6_reach_78 ?_
            refine lv_ddiv hx hb dX6_reach_81 (fx_n64 (fx_B_n (s_mid hlo hhi (by omega) (by omega)).2 (by omega))) ?_
            refine lv_dstore (lv' := [(9, .double (FP.ddiv (FP.dadd lo9 hi9) 4611686018427387904)), (8, .int (nI i)), (4, .double lo9), (6, .double hi9), (0, .ref (ad 0)), (1, .double y)]) hx hb dX6_reach_82 hl (by decide) rfl (fun ls hl => ?_)
            refine lv_aload_n hx hb dX6_reach_84 rfl (lv_at hl 4 rfl) ?_
            refine va_get (D := D) (ci := 6) (v := .ref (ad 21)) (C := RX6) (T := TX6) (N := 6) hx hb hts iw_X6_reach_X6 hown hC.1 hP 0 rfl rfl 3 (by decide) (hts (.fieldLink RX6 33 "MonotoneSpline" "piece" "LMonotoneSpline$Piece;") (List.mem_of_getElem? (l := wsX6_reach) (i := 5) rfl)) (fun _ h9 => h9) rfl dX6_reach_85 ?_
            refine lv_dload hx hb dX6_reach_88 (lv_at hl 0 rfl) ?_
            refine my_goR (v := (some (.double (s_h (V (s_rp V kn y)) (s_s P V F kn (s_rp V kn y)) (s_pk P V F kn (s_rp V kn y)) (s_qk P V F kn (s_rp V kn y)) (FP.dsub (FP.ddiv (FP.dadd lo9 hi9) 4611686018427387904) (P (s_rp V kn y))))))) (my_runV (bytes := cX2_heightAt) (maxL := 5) (ret := (some .double)) (n := 1) (As := [.double (FP.ddiv (FP.dadd lo9 hi9) 4611686018427387904)]) (rest := []) S hl.1 (kk_X2_heightAt l D kd ki kz kl z ad (P (s_rp V kn y)) (V (s_rp V kn y)) (s_s P V F kn (s_rp V kn y)) (s_pk P V F kn (s_rp V kn y)) (s_qk P V F kn (s_rp V kn y)) (FP.ddiv (FP.dadd lo9 hi9) 4611686018427387904) (PE_of hI (by omega)) (PE_x hI (by omega) (fx_B_mono (s_mid hlo hhi (by omega) (by omega)).2 (by omega)))) rfl ⟨rfl, rfl⟩ gX6_reach_X2_heightAt (by decide +kernel) rfl ⟨Nat.le_of_ble_eq_true rfl, Nat.le_of_ble_eq_true rfl⟩ (my_preR (my_C_S hC hS hz) (my_P_sub (wc := [(ad 21, .inr (2, [.double (P (s_rp V kn y)), .double (V (s_rp V kn y)), .double (s_s P V F kn (s_rp V kn y)), .double (s_pk P V F kn (s_rp V kn y)), .double (s_qk P V F kn (s_rp V kn y))]))]) hP [8] rfl)) (va_recv hC.1 hP (ci := 2) (q0 := 8) rfl rfl) rfl rfl dX6_reach_90) ?_
            refine W.eq (g2 := F0 m 93 ls [.double (s_h (V (s_rp V kn y)) (s_s P V F kn (s_rp V kn y)) (s_pk P V F kn (s_rp V kn y)) (s_qk P V F kn (s_rp V kn y)) (FP.dsub (FP.ddiv (FP.dadd lo9 hi9) 4611686018427387904) (P (s_rp V kn y))))]) rfl ?_
            refine lv_dload_n hx hb dX6_reach_93 rfl (lv_at hl 5 rfl) ?_
            refine lv_dcmp hx hb dX6_reach_94 ?_
            refine lv_if_ge (tgt := 105) hx hb dX6_reach_95 (by decide) (fun c_95 => ?_) (fun c_95 => ?_)
            · have c_95 := cv_g_ge_t c_95
              refine lv_dload hx hb dX6_reach_105 (lv_at hl 0 rfl) ?_
              refine lv_dstore (lv' := [(6, .double (FP.ddiv (FP.dadd lo9 hi9) 4611686018427387904)), (9, .double (FP.ddiv (FP.dadd lo9 hi9) 4611686018427387904)), (8, .int (nI i)), (4, .double lo9), (0, .ref (ad 0)), (1, .double y)]) hx hb dX6_reach_107 hl (by decide) rfl (fun ls hl => ?_)
              refine lv_iinc (v := nI (i + 1)) (k := 2) (lv' := [(8, .int (nI (i + 1))), (6, .double (FP.ddiv (FP.dadd lo9 hi9) 4611686018427387904)), (9, .double (FP.ddiv (FP.dadd lo9 hi9) 4611686018427387904)), (4, .double lo9), (0, .ref (ad 0)), (1, .double y)]) hx hb dX6_reach_109 hl rfl (nI_add i 1) (by decide) rfl (fun ls hl => ?_)
              refine lv_goto (tgt := 66) hx hb dX6_reach_112 (by decide) ?_
              exact ih_66 (i + 1) lo9 (FP.ddiv (FP.dadd lo9 hi9) 4611686018427387904) (by omega) (by omega) (by first | exact fx_B_mono (s_mid hlo hhi (by omega) (by omega)).2 (by omega) | exact fx_B_mono hlo (by omega)) (by first | exact fx_B_mono (s_mid hlo hhi (by omega) (by omega)).2 (by omega) | exact fx_B_mono hhi (by omega)) (by first | exact (s_bs_t (by omega) c_95).symm.trans hs | exact (s_bs_f (by omega) c_95).symm.trans hs) _ _ hP hD hS _ (lv_sub hl [0, 3, 1, 4, 5] rfl)
            · have c_95 := cv_g_ge_f c_95
              refine lv_dload hx hb dX6_reach_98 (lv_at hl 0 rfl) ?_
              refine lv_dstore (lv' := [(4, .double (FP.ddiv (FP.dadd lo9 hi9) 4611686018427387904)), (9, .double (FP.ddiv (FP.dadd lo9 hi9) 4611686018427387904)), (8, .int (nI i)), (6, .double hi9), (0, .ref (ad 0)), (1, .double y)]) hx hb dX6_reach_100 hl (by decide) rfl (fun ls hl => ?_)
              refine lv_goto (tgt := 109) hx hb dX6_reach_102 (by decide) ?_
              refine lv_iinc (v := nI (i + 1)) (k := 2) (lv' := [(8, .int (nI (i + 1))), (4, .double (FP.ddiv (FP.dadd lo9 hi9) 4611686018427387904)), (9, .double (FP.ddiv (FP.dadd lo9 hi9) 4611686018427387904)), (6, .double hi9), (0, .ref (ad 0)), (1, .double y)]) hx hb dX6_reach_109 hl rfl (nI_add i 1) (by decide) rfl (fun ls hl => ?_)
              refine lv_goto (tgt := 66) hx hb dX6_reach_112 (by decide) ?_
              exact ih_66 (i + 1) (FP.ddiv (FP.dadd lo9 hi9) 4611686018427387904) hi9 (by omega) (by omega) (by first | exact fx_B_mono (s_mid hlo hhi (by omega) (by omega)).2 (by omega) | exact fx_B_mono hlo (by omega)) (by first | exact fx_B_mono (s_mid hlo hhi (by omega) (by omega)).2 (by omega) | exact fx_B_mono hhi (by omega)) (by first | exact (s_bs_t (by omega) c_95).symm.trans hs | exact (s_bs_f (by omega) c_95).symm.trans hs) _ _ hP hD hS _ (lv_sub hl [0, 1, 3, 4, 5] rfl)
      exact loop_66 _ 0 (P (s_rp V kn y)) (P (s_rp V kn y + 1)) (Nat.lt_succ_self _) (by omega) (fx_B_mono (kJ_P hJ (by omega)) (by omega)) (fx_B_mono (kJ_P hJ hlt) (by omega)) (rfl) _ _ hP hD hS _ (lv_sub hl [0, 2, 1, 4, 5] rfl)
    · skip
      first | exact absurd c_8 (by decide) | exact absurd (by decide) c_8
  · rw [if_neg q_h1]
    exact absurd h1 q_h1

theorem iw_X6_steepest_X6 : ∀ w ∈ wsX60, w ∈ wsX6_steepest := fun w h => List.mem_cons_of_mem _ (List.mem_append_left _ (List.mem_append_left _ (List.mem_append_right _ (h))))
theorem iw_X6_steepest_X1 : ∀ w ∈ wsX10, w ∈ wsX6_steepest := fun w h => List.mem_cons_of_mem _ (List.mem_append_left _ (List.mem_append_right _ (h)))
set_option maxHeartbeats 4000000 in
set_option maxRecDepth 100000 in
theorem kk_X6_steepest (l : Launch) (D : va_G) (kd ki kz kl : ClassId) (z : Nat) (ad : Nat → Nat) (kn : Nat) (P : Nat → UInt64) (V : Nat → UInt64) (hJ : KJ kn P V) : my_RO l D kd ki kz kl z yX6_steepest wsX6_steepest ({ frames := 3, cells := 0, slots := 0, locals := 63 }) [.ref (ad 0)] [(ad 0, .inr (6, [.ref (ad 1), .ref (ad 8), .ref (ad 14), .ref (ad 21), .ref (ad 22), .ref (ad 23)])), (ad 14, .inr (1, [.ref (ad 15), .ref (ad 17), .ref (ad 19), .int (nI kn)])), (ad 15, .inr (4, [.ref (ad 16)])), (ad 16, .inl (kd, 60, .inr (.inr (.inr (.inl P))))), (ad 17, .inr (4, [.ref (ad 18)])), (ad 18, .inl (kd, 60, .inr (.inr (.inr (.inl V)))))] (some (.int (nI (s_bst P V (kn - 2))))) := by
  refine my_RO_of (cc := cX6_steepest) (maxL := 3) (ret := (some .int)) (by decide) rfl (Nat.le_of_ble_eq_true rfl) ?_
  intro p e s m below meth c S hr hlocks hC hP ls hl
  have S : CallFix p m c cX6_steepest 3 s ([.ref (ad 0)] : List Value).toArray wsX6_steepest RX6 := S
  obtain ⟨hx, hb, hml, hown, hts⟩ := id S
  have hl : lv_has ls 3 [(0, .ref (ad 0))] := hl
  have hkn := hJ.2.1
  have hkn2 := hJ.1
  refine lv_aload_n hx hb dX6_steepest_0 rfl (lv_at hl 0 rfl) ?_
  refine va_get (D := D) (ci := 6) (v := .ref (ad 14)) (C := RX6) (T := TX6) (N := 6) hx hb hts iw_X6_steepest_X6 hown hC.1 hP 0 rfl rfl 2 (by decide) (hts (.fieldLink RX6 26 "MonotoneSpline" "knots" "LMonotoneSpline$Knots;") (List.mem_of_getElem? (l := wsX6_steepest) (i := 1) rfl)) (fun _ h9 => h9) rfl dX6_steepest_1 ?_
  refine va_getN (D := D) (ci := 1) (v := .int (nI kn)) (C := RX1) (T := TX1) (N := 4) hx hb hts iw_X6_steepest_X1 hown hC.1 hP 1 rfl rfl 3 (by decide) (va_Nw.use (w := .fieldLinkNest "MonotoneSpline" 136 "MonotoneSpline$Knots" "count" "I" "MonotoneSpline") rfl (hC.2.1 _ (List.mem_of_getElem? (l := my_nest) (i := 11) rfl))) (fun _ h9 => h9) rfl dX6_steepest_4 ?_
  refine lv_if_ne (tgt := 12) hx hb dX6_steepest_7 (by decide) (fun c_7 => ?_) (fun c_7 => ?_)
  · have c_7 : ¬ kn = 0 := fun h9 => c_7 ((nI_eq (a := kn) (b := 0) (by omega) (by omega)).mpr h9)
    refine lv_iconst (v := 0) hx hb dX6_steepest_12 (by decide) ?_
    refine my_topi (w := nI 0) (nI_0.symm) ?_
    refine lv_istore_n (lv' := [(1, .int (nI 0)), (0, .ref (ad 0))]) hx hb dX6_steepest_13 rfl hl (by decide) rfl (fun ls hl => ?_)
    refine lv_iconst (v := 1) hx hb dX6_steepest_14 (by decide) ?_
    refine my_topi (w := nI 1) (rfl) ?_
    refine lv_istore_n (lv' := [(2, .int (nI 1)), (1, .int (nI 0)), (0, .ref (ad 0))]) hx hb dX6_steepest_15 rfl hl (by decide) rfl (fun ls hl => ?_)
    have loop_16 : ∀ (n9 : Nat) (k : Nat) (b9 : Nat), kn - k < n9 → ∀ (hk0 : 0 < k) (hk : k ≤ kn - 1) (hb9 : b9 = s_bst P V (k - 1)) (hbl : b9 < k) (ls : Array Slot) (hl : lv_has ls 3 [(2, .int (nI k)), (1, .int (nI b9)), (0, .ref (ad 0))]), W p l e ({ frames := 3, cells := 0, slots := 0, locals := 63 }) s m ([.ref (ad 0)] : List Value).toArray below meth c s.heap [] 0 0 (my_RQ below ([.ref (ad 0)] : List Value).toArray s (some (.int (nI (s_bst P V (kn - 2)))))) (F0 m 16 ls []) := by
      intro n9
      induction n9 with
      | zero => intro k b9 h9; exact absurd h9 (Nat.not_lt_zero _)
      | succ n9 ih_16 =>
        intro k b9 h9 hk0 hk hb9 hbl ls hl
        refine lv_iload_n hx hb dX6_steepest_16 rfl (lv_at hl 0 rfl) ?_
        refine lv_aload_n hx hb dX6_steepest_17 rfl (lv_at hl 2 rfl) ?_
        refine va_get (D := D) (ci := 6) (v := .ref (ad 14)) (C := RX6) (T := TX6) (N := 6) hx hb hts iw_X6_steepest_X6 hown hC.1 hP 0 rfl rfl 2 (by decide) (hts (.fieldLink RX6 26 "MonotoneSpline" "knots" "LMonotoneSpline$Knots;") (List.mem_of_getElem? (l := wsX6_steepest) (i := 1) rfl)) (fun _ h9 => h9) rfl dX6_steepest_18 ?_
        refine va_getN (D := D) (ci := 1) (v := .int (nI kn)) (C := RX1) (T := TX1) (N := 4) hx hb hts iw_X6_steepest_X1 hown hC.1 hP 1 rfl rfl 3 (by decide) (va_Nw.use (w := .fieldLinkNest "MonotoneSpline" 136 "MonotoneSpline$Knots" "count" "I" "MonotoneSpline") rfl (hC.2.1 _ (List.mem_of_getElem? (l := my_nest) (i := 11) rfl))) (fun _ h9 => h9) rfl dX6_steepest_21 ?_
        refine lv_iconst (v := 1) hx hb dX6_steepest_24 (by decide) ?_
        refine my_isub (w := nI (kn - 1)) hx hb dX6_steepest_25 (pk_sub (a := kn) (b := 1) (by omega)) ?_
        refine lv_icmp_ge (tgt := 57) hx hb dX6_steepest_26 (by decide) (fun c_26 => ?_) (fun c_26 => ?_)
        · have c_26 : kn - 1 ≤ k := (nI_leI (a := kn - 1) (b := k) (by omega) (by omega)).mp c_26
          refine lv_iload_n hx hb dX6_steepest_57 rfl (lv_at hl 1 rfl) ?_
          exact my_iretR hx hb hr hlocks (by rw [hb9, show k - 1 = kn - 2 by omega]) dX6_steepest_58
        · have c_26 : ¬ kn - 1 ≤ k := fun h9 => c_26 ((nI_leI (a := kn - 1) (b := k) (by omega) (by omega)).mpr h9)
          refine lv_aload_n hx hb dX6_steepest_29 rfl (lv_at hl 2 rfl) ?_
          refine va_get (D := D) (ci := 6) (v := .ref (ad 14)) (C := RX6) (T := TX6) (N := 6) hx hb hts iw_X6_steepest_X6 hown hC.1 hP 0 rfl rfl 2 (by decide) (hts (.fieldLink RX6 26 "MonotoneSpline" "knots" "LMonotoneSpline$Knots;") (List.mem_of_getElem? (l := wsX6_steepest) (i := 1) rfl)) (fun _ h9 => h9) rfl dX6_steepest_30 ?_
          refine lv_iload_n hx hb dX6_steepest_33 rfl (lv_at hl 0 rfl) ?_
          refine my_goR (v := (some (.double (s_r P V k)))) (my_runV (bytes := cX1_riseOf) (maxL := 2) (ret := (some .double)) (n := 1) (As := [.int (nI k)]) (rest := []) S hl.1 (kk_X1_riseOf l D kd ki kz kl z ad kn P V k (by omega) (hJ)) rfl ⟨rfl, rfl⟩ gX6_steepest_X1_riseOf (by decide +kernel) rfl ⟨Nat.le_of_ble_eq_true rfl, Nat.le_of_ble_eq_true rfl⟩ (my_preR hC (my_P_sub (wc := [(ad 14, .inr (1, [.ref (ad 15), .ref (ad 17), .ref (ad 19), .int (nI kn)])), (ad 15, .inr (4, [.ref (ad 16)])), (ad 16, .inl (kd, 60, .inr (.inr (.inr (.inl P))))), (ad 17, .inr (4, [.ref (ad 18)])), (ad 18, .inl (kd, 60, .inr (.inr (.inr (.inl V)))))]) hP [1, 2, 3, 4, 5] rfl)) (va_recv hC.1 hP (ci := 1) (q0 := 1) rfl rfl) rfl rfl dX6_steepest_34) ?_
          refine W.eq (g2 := F0 m 37 ls [.double (s_r P V k)]) rfl ?_
          refine lv_aload_n hx hb dX6_steepest_37 rfl (lv_at hl 2 rfl) ?_
          refine va_get (D := D) (ci := 6) (v := .ref (ad 14)) (C := RX6) (T := TX6) (N := 6) hx hb hts iw_X6_steepest_X6 hown hC.1 hP 0 rfl rfl 2 (by decide) (hts (.fieldLink RX6 26 "MonotoneSpline" "knots" "LMonotoneSpline$Knots;") (List.mem_of_getElem? (l := wsX6_steepest) (i := 1) rfl)) (fun _ h9 => h9) rfl dX6_steepest_38 ?_
          refine lv_iload_n hx hb dX6_steepest_41 rfl (lv_at hl 1 rfl) ?_
          refine my_goR (v := (some (.double (s_r P V b9)))) (my_runV (bytes := cX1_riseOf) (maxL := 2) (ret := (some .double)) (n := 1) (As := [.int (nI b9)]) (rest := [.double (s_r P V k)]) S hl.1 (kk_X1_riseOf l D kd ki kz kl z ad kn P V b9 (by omega) (hJ)) rfl ⟨rfl, rfl⟩ gX6_steepest_X1_riseOf (by decide +kernel) rfl ⟨Nat.le_of_ble_eq_true rfl, Nat.le_of_ble_eq_true rfl⟩ (my_preR hC (my_P_sub (wc := [(ad 14, .inr (1, [.ref (ad 15), .ref (ad 17), .ref (ad 19), .int (nI kn)])), (ad 15, .inr (4, [.ref (ad 16)])), (ad 16, .inl (kd, 60, .inr (.inr (.inr (.inl P))))), (ad 17, .inr (4, [.ref (ad 18)])), (ad 18, .inl (kd, 60, .inr (.inr (.inr (.inl V)))))]) hP [1, 2, 3, 4, 5] rfl)) (va_recv hC.1 hP (ci := 1) (q0 := 1) rfl rfl) rfl rfl dX6_steepest_42) ?_
          refine W.eq (g2 := F0 m 45 ls [.double (s_r P V b9), .double (s_r P V k)]) rfl ?_
          refine lv_dcmp hx hb dX6_steepest_45 ?_
          refine lv_if_le (tgt := 51) hx hb dX6_steepest_46 (by decide) (fun c_46 => ?_) (fun c_46 => ?_)
          · have c_46 := cv_l_le_t c_46
            refine lv_iinc (v := nI (k + 1)) (k := 0) (lv' := [(2, .int (nI (k + 1))), (1, .int (nI b9)), (0, .ref (ad 0))]) hx hb dX6_steepest_51 hl rfl (nI_add k 1) (by decide) rfl (fun ls hl => ?_)
            refine lv_goto (tgt := 16) hx hb dX6_steepest_54 (by decide) ?_
            exact ih_16 (k + 1) b9 (by omega) (by omega) (by omega) (by first | exact s_bst_t hk0 hb9 c_46 | exact s_bst_f hk0 hb9 c_46) (by omega) _ (lv_sub hl [0, 1, 2] rfl)
          · have c_46 := cv_l_le_f c_46
            refine lv_iload_n hx hb dX6_steepest_49 rfl (lv_at hl 0 rfl) ?_
            refine lv_istore_n (lv' := [(1, .int (nI k)), (2, .int (nI k)), (0, .ref (ad 0))]) hx hb dX6_steepest_50 rfl hl (by decide) rfl (fun ls hl => ?_)
            refine lv_iinc (v := nI (k + 1)) (k := 1) (lv' := [(2, .int (nI (k + 1))), (1, .int (nI k)), (0, .ref (ad 0))]) hx hb dX6_steepest_51 hl rfl (nI_add k 1) (by decide) rfl (fun ls hl => ?_)
            refine lv_goto (tgt := 16) hx hb dX6_steepest_54 (by decide) ?_
            exact ih_16 (k + 1) k (by omega) (by omega) (by omega) (by first | exact s_bst_t hk0 hb9 c_46 | exact s_bst_f hk0 hb9 c_46) (by omega) _ (lv_sub hl [0, 1, 2] rfl)
    exact loop_16 _ 1 0 (Nat.lt_succ_self _) (by omega) (by omega) (rfl) (by omega) _ (lv_sub hl [0, 1, 2] rfl)
  · have c_7 : kn = 0 := (nI_eq (a := kn) (b := 0) (by omega) (by omega)).mp c_7
    exact absurd c_7 (by omega)

set_option maxHeartbeats 4000000 in
set_option maxRecDepth 100000 in
theorem kk_X6_steepest0 (l : Launch) (D : va_G) (kd ki kz kl : ClassId) (z : Nat) (ad : Nat → Nat) : my_RO l D kd ki kz kl z yX6_steepest wsX6_steepest ({ frames := 0, cells := 0, slots := 0, locals := 0 }) [.ref (ad 0)] [(ad 0, .inr (6, [.ref (ad 1), .ref (ad 8), .ref (ad 14), .ref (ad 21), .ref (ad 22), .ref (ad 23)])), (ad 14, .inr (1, [.ref (ad 15), .ref (ad 17), .ref (ad 19), .int (nI 0)]))] (some (.int (-1))) := by
  refine my_RO_of (cc := cX6_steepest) (maxL := 3) (ret := (some .int)) (by decide) rfl (Nat.le_of_ble_eq_true rfl) ?_
  intro p e s m below meth c S hr hlocks hC hP ls hl
  have S : CallFix p m c cX6_steepest 3 s ([.ref (ad 0)] : List Value).toArray wsX6_steepest RX6 := S
  obtain ⟨hx, hb, hml, hown, hts⟩ := id S
  have hl : lv_has ls 3 [(0, .ref (ad 0))] := hl
  refine lv_aload_n hx hb dX6_steepest_0 rfl (lv_at hl 0 rfl) ?_
  refine va_get (D := D) (ci := 6) (v := .ref (ad 14)) (C := RX6) (T := TX6) (N := 6) hx hb hts iw_X6_steepest_X6 hown hC.1 hP 0 rfl rfl 2 (by decide) (hts (.fieldLink RX6 26 "MonotoneSpline" "knots" "LMonotoneSpline$Knots;") (List.mem_of_getElem? (l := wsX6_steepest) (i := 1) rfl)) (fun _ h9 => h9) rfl dX6_steepest_1 ?_
  refine va_getN (D := D) (ci := 1) (v := .int (nI 0)) (C := RX1) (T := TX1) (N := 4) hx hb hts iw_X6_steepest_X1 hown hC.1 hP 1 rfl rfl 3 (by decide) (va_Nw.use (w := .fieldLinkNest "MonotoneSpline" 136 "MonotoneSpline$Knots" "count" "I" "MonotoneSpline") rfl (hC.2.1 _ (List.mem_of_getElem? (l := my_nest) (i := 11) rfl))) (fun _ h9 => h9) rfl dX6_steepest_4 ?_
  refine lv_if_ne (tgt := 12) hx hb dX6_steepest_7 (by decide) (fun c_7 => ?_) (fun c_7 => ?_)
  · have c_7 : ¬ 0 = 0 := fun h9 => c_7 ((nI_eq (a := 0) (b := 0) (by omega) (by omega)).mpr h9)
    exact absurd rfl c_7
  · have c_7 : 0 = 0 := (nI_eq (a := 0) (b := 0) (by omega) (by omega)).mp c_7
    refine lv_iconst (v := (-1)) hx hb dX6_steepest_10 (by decide) ?_
    exact my_iretR hx hb hr hlocks (rfl) dX6_steepest_11

theorem iw_X6_flatCount_X6 : ∀ w ∈ wsX60, w ∈ wsX6_flatCount := fun w h => List.mem_cons_of_mem _ (List.mem_append_left _ (List.mem_append_left _ (List.mem_append_right _ (h))))
theorem iw_X6_flatCount_X1 : ∀ w ∈ wsX10, w ∈ wsX6_flatCount := fun w h => List.mem_cons_of_mem _ (List.mem_append_left _ (List.mem_append_right _ (h)))
set_option maxHeartbeats 4000000 in
set_option maxRecDepth 100000 in
theorem kk_X6_flatCount (l : Launch) (D : va_G) (kd ki kz kl : ClassId) (z : Nat) (ad : Nat → Nat) (kn : Nat) (P : Nat → UInt64) (V : Nat → UInt64) (hJ : KJ kn P V) : my_RO l D kd ki kz kl z yX6_flatCount wsX6_flatCount ({ frames := 3, cells := 0, slots := 0, locals := 63 }) [.ref (ad 0)] [(ad 0, .inr (6, [.ref (ad 1), .ref (ad 8), .ref (ad 14), .ref (ad 21), .ref (ad 22), .ref (ad 23)])), (ad 14, .inr (1, [.ref (ad 15), .ref (ad 17), .ref (ad 19), .int (nI kn)])), (ad 15, .inr (4, [.ref (ad 16)])), (ad 16, .inl (kd, 60, .inr (.inr (.inr (.inl P))))), (ad 17, .inr (4, [.ref (ad 18)])), (ad 18, .inl (kd, 60, .inr (.inr (.inr (.inl V)))))] (some (.int (nI (s_flat P V (kn - 1))))) := by
  refine my_RO_of (cc := cX6_flatCount) (maxL := 3) (ret := (some .int)) (by decide) rfl (Nat.le_of_ble_eq_true rfl) ?_
  intro p e s m below meth c S hr hlocks hC hP ls hl
  have S : CallFix p m c cX6_flatCount 3 s ([.ref (ad 0)] : List Value).toArray wsX6_flatCount RX6 := S
  obtain ⟨hx, hb, hml, hown, hts⟩ := id S
  have hl : lv_has ls 3 [(0, .ref (ad 0))] := hl
  have hkn := hJ.2.1
  have hkn2 := hJ.1
  refine lv_iconst (v := 0) hx hb dX6_flatCount_0 (by decide) ?_
  refine my_topi (w := nI 0) (nI_0.symm) ?_
  refine lv_istore_n (lv' := [(1, .int (nI 0)), (0, .ref (ad 0))]) hx hb dX6_flatCount_1 rfl hl (by decide) rfl (fun ls hl => ?_)
  refine lv_iconst (v := 0) hx hb dX6_flatCount_2 (by decide) ?_
  refine my_topi (w := nI 0) (nI_0.symm) ?_
  refine lv_istore_n (lv' := [(2, .int (nI 0)), (1, .int (nI 0)), (0, .ref (ad 0))]) hx hb dX6_flatCount_3 rfl hl (by decide) rfl (fun ls hl => ?_)
  have loop_4 : ∀ (n9 : Nat) (k : Nat) (f9 : Nat), kn - k < n9 → ∀ (hk : k ≤ kn - 1) (hf9 : f9 = s_flat P V k) (ls : Array Slot) (hl : lv_has ls 3 [(2, .int (nI k)), (1, .int (nI f9)), (0, .ref (ad 0))]), W p l e ({ frames := 3, cells := 0, slots := 0, locals := 63 }) s m ([.ref (ad 0)] : List Value).toArray below meth c s.heap [] 0 0 (my_RQ below ([.ref (ad 0)] : List Value).toArray s (some (.int (nI (s_flat P V (kn - 1)))))) (F0 m 4 ls []) := by
    intro n9
    induction n9 with
    | zero => intro k f9 h9; exact absurd h9 (Nat.not_lt_zero _)
    | succ n9 ih_4 =>
      intro k f9 h9 hk hf9 ls hl
      refine lv_iload_n hx hb dX6_flatCount_4 rfl (lv_at hl 0 rfl) ?_
      refine lv_aload_n hx hb dX6_flatCount_5 rfl (lv_at hl 2 rfl) ?_
      refine va_get (D := D) (ci := 6) (v := .ref (ad 14)) (C := RX6) (T := TX6) (N := 6) hx hb hts iw_X6_flatCount_X6 hown hC.1 hP 0 rfl rfl 2 (by decide) (hts (.fieldLink RX6 26 "MonotoneSpline" "knots" "LMonotoneSpline$Knots;") (List.mem_of_getElem? (l := wsX6_flatCount) (i := 1) rfl)) (fun _ h9 => h9) rfl dX6_flatCount_6 ?_
      refine va_getN (D := D) (ci := 1) (v := .int (nI kn)) (C := RX1) (T := TX1) (N := 4) hx hb hts iw_X6_flatCount_X1 hown hC.1 hP 1 rfl rfl 3 (by decide) (va_Nw.use (w := .fieldLinkNest "MonotoneSpline" 136 "MonotoneSpline$Knots" "count" "I" "MonotoneSpline") rfl (hC.2.1 _ (List.mem_of_getElem? (l := my_nest) (i := 11) rfl))) (fun _ h9 => h9) rfl dX6_flatCount_9 ?_
      refine lv_iconst (v := 1) hx hb dX6_flatCount_12 (by decide) ?_
      refine my_isub (w := nI (kn - 1)) hx hb dX6_flatCount_13 (pk_sub (a := kn) (b := 1) (by omega)) ?_
      refine lv_icmp_ge (tgt := 39) hx hb dX6_flatCount_14 (by decide) (fun c_14 => ?_) (fun c_14 => ?_)
      · have c_14 : kn - 1 ≤ k := (nI_leI (a := kn - 1) (b := k) (by omega) (by omega)).mp c_14
        refine lv_iload_n hx hb dX6_flatCount_39 rfl (lv_at hl 1 rfl) ?_
        exact my_iretR hx hb hr hlocks (by rw [hf9, show k = kn - 1 by omega]) dX6_flatCount_40
      · have c_14 : ¬ kn - 1 ≤ k := fun h9 => c_14 ((nI_leI (a := kn - 1) (b := k) (by omega) (by omega)).mpr h9)
        refine lv_aload_n hx hb dX6_flatCount_17 rfl (lv_at hl 2 rfl) ?_
        refine va_get (D := D) (ci := 6) (v := .ref (ad 14)) (C := RX6) (T := TX6) (N := 6) hx hb hts iw_X6_flatCount_X6 hown hC.1 hP 0 rfl rfl 2 (by decide) (hts (.fieldLink RX6 26 "MonotoneSpline" "knots" "LMonotoneSpline$Knots;") (List.mem_of_getElem? (l := wsX6_flatCount) (i := 1) rfl)) (fun _ h9 => h9) rfl dX6_flatCount_18 ?_
        refine lv_iload_n hx hb dX6_flatCount_21 rfl (lv_at hl 0 rfl) ?_
        refine my_goR (v := (some (.double (s_r P V k)))) (my_runV (bytes := cX1_riseOf) (maxL := 2) (ret := (some .double)) (n := 1) (As := [.int (nI k)]) (rest := []) S hl.1 (kk_X1_riseOf l D kd ki kz kl z ad kn P V k (by omega) (hJ)) rfl ⟨rfl, rfl⟩ gX6_flatCount_X1_riseOf (by decide +kernel) rfl ⟨Nat.le_of_ble_eq_true rfl, Nat.le_of_ble_eq_true rfl⟩ (my_preR hC (my_P_sub (wc := [(ad 14, .inr (1, [.ref (ad 15), .ref (ad 17), .ref (ad 19), .int (nI kn)])), (ad 15, .inr (4, [.ref (ad 16)])), (ad 16, .inl (kd, 60, .inr (.inr (.inr (.inl P))))), (ad 17, .inr (4, [.ref (ad 18)])), (ad 18, .inl (kd, 60, .inr (.inr (.inr (.inl V)))))]) hP [1, 2, 3, 4, 5] rfl)) (va_recv hC.1 hP (ci := 1) (q0 := 1) rfl rfl) rfl rfl dX6_flatCount_22) ?_
        refine W.eq (g2 := F0 m 25 ls [.double (s_r P V k)]) rfl ?_
        refine lv_dconst0 hx hb dX6_flatCount_25 ?_
        refine my_topd (w := 0) (by decide) ?_
        refine lv_dcmp hx hb dX6_flatCount_26 ?_
        refine lv_if_ne (tgt := 33) hx hb dX6_flatCount_27 (by decide) (fun c_27 => ?_) (fun c_27 => ?_)
        · have c_27 := cv_l_eq_f c_27
          refine lv_iinc (v := nI (k + 1)) (k := 0) (lv' := [(2, .int (nI (k + 1))), (1, .int (nI f9)), (0, .ref (ad 0))]) hx hb dX6_flatCount_33 hl rfl (nI_add k 1) (by decide) rfl (fun ls hl => ?_)
          refine lv_goto (tgt := 4) hx hb dX6_flatCount_36 (by decide) ?_
          exact ih_4 (k + 1) f9 (by omega) (by omega) (by first | exact (by rw [hf9]; exact (if_pos c_27).symm) | exact (by rw [hf9]; exact (if_neg c_27).symm)) _ (lv_sub hl [0, 1, 2] rfl)
        · have c_27 := cv_l_eq_t c_27
          refine lv_iinc (v := nI (f9 + 1)) (k := 1) (lv' := [(1, .int (nI (f9 + 1))), (2, .int (nI k)), (0, .ref (ad 0))]) hx hb dX6_flatCount_30 hl rfl (nI_add f9 1) (by decide) rfl (fun ls hl => ?_)
          refine lv_iinc (v := nI (k + 1)) (k := 1) (lv' := [(2, .int (nI (k + 1))), (1, .int (nI (f9 + 1))), (0, .ref (ad 0))]) hx hb dX6_flatCount_33 hl rfl (nI_add k 1) (by decide) rfl (fun ls hl => ?_)
          refine lv_goto (tgt := 4) hx hb dX6_flatCount_36 (by decide) ?_
          exact ih_4 (k + 1) (f9 + 1) (by omega) (by omega) (by first | exact (by rw [hf9]; exact (if_pos c_27).symm) | exact (by rw [hf9]; exact (if_neg c_27).symm)) _ (lv_sub hl [0, 1, 2] rfl)
  exact loop_4 _ 0 0 (Nat.lt_succ_self _) (by omega) (rfl) _ (lv_sub hl [0, 1, 2] rfl)

set_option maxHeartbeats 4000000 in
set_option maxRecDepth 100000 in
theorem kk_X6_flatCount0 (l : Launch) (D : va_G) (kd ki kz kl : ClassId) (z : Nat) (ad : Nat → Nat) : my_RO l D kd ki kz kl z yX6_flatCount wsX6_flatCount ({ frames := 0, cells := 0, slots := 0, locals := 0 }) [.ref (ad 0)] [(ad 0, .inr (6, [.ref (ad 1), .ref (ad 8), .ref (ad 14), .ref (ad 21), .ref (ad 22), .ref (ad 23)])), (ad 14, .inr (1, [.ref (ad 15), .ref (ad 17), .ref (ad 19), .int (nI 0)]))] (some (.int 0)) := by
  refine my_RO_of (cc := cX6_flatCount) (maxL := 3) (ret := (some .int)) (by decide) rfl (Nat.le_of_ble_eq_true rfl) ?_
  intro p e s m below meth c S hr hlocks hC hP ls hl
  have S : CallFix p m c cX6_flatCount 3 s ([.ref (ad 0)] : List Value).toArray wsX6_flatCount RX6 := S
  obtain ⟨hx, hb, hml, hown, hts⟩ := id S
  have hl : lv_has ls 3 [(0, .ref (ad 0))] := hl
  refine lv_iconst (v := 0) hx hb dX6_flatCount_0 (by decide) ?_
  refine lv_istore_n (lv' := [(1, .int 0), (0, .ref (ad 0))]) hx hb dX6_flatCount_1 rfl hl (by decide) rfl (fun ls hl => ?_)
  refine lv_iconst (v := 0) hx hb dX6_flatCount_2 (by decide) ?_
  refine lv_istore_n (lv' := [(2, .int 0), (1, .int 0), (0, .ref (ad 0))]) hx hb dX6_flatCount_3 rfl hl (by decide) rfl (fun ls hl => ?_)
  refine lv_iload_n hx hb dX6_flatCount_4 rfl (lv_at hl 0 rfl) ?_
  refine lv_aload_n hx hb dX6_flatCount_5 rfl (lv_at hl 2 rfl) ?_
  refine va_get (D := D) (ci := 6) (v := .ref (ad 14)) (C := RX6) (T := TX6) (N := 6) hx hb hts iw_X6_flatCount_X6 hown hC.1 hP 0 rfl rfl 2 (by decide) (hts (.fieldLink RX6 26 "MonotoneSpline" "knots" "LMonotoneSpline$Knots;") (List.mem_of_getElem? (l := wsX6_flatCount) (i := 1) rfl)) (fun _ h9 => h9) rfl dX6_flatCount_6 ?_
  refine va_getN (D := D) (ci := 1) (v := .int (nI 0)) (C := RX1) (T := TX1) (N := 4) hx hb hts iw_X6_flatCount_X1 hown hC.1 hP 1 rfl rfl 3 (by decide) (va_Nw.use (w := .fieldLinkNest "MonotoneSpline" 136 "MonotoneSpline$Knots" "count" "I" "MonotoneSpline") rfl (hC.2.1 _ (List.mem_of_getElem? (l := my_nest) (i := 11) rfl))) (fun _ h9 => h9) rfl dX6_flatCount_9 ?_
  refine lv_iconst (v := 1) hx hb dX6_flatCount_12 (by decide) ?_
  refine my_isub (w := (-1)) hx hb dX6_flatCount_13 (by decide) ?_
  refine lv_icmp_ge (tgt := 39) hx hb dX6_flatCount_14 (by decide) (fun c_14 => ?_) (fun c_14 => ?_)
  · skip
    refine lv_iload_n hx hb dX6_flatCount_39 rfl (lv_at hl 1 rfl) ?_
    exact my_iretR hx hb hr hlocks (rfl) dX6_flatCount_40
  · skip
    first | exact absurd c_14 (by decide) | exact absurd (by decide) c_14

theorem iw_X6_setTail_X5 : ∀ w ∈ wsX50, w ∈ wsX6_setTail := fun w h => List.mem_cons_of_mem _ (List.mem_append_left _ (List.mem_append_left _ (List.mem_append_left _ (List.mem_append_right _ (h)))))
set_option maxHeartbeats 4000000 in
set_option maxRecDepth 100000 in
theorem kk_X6_setTail0 (l : Launch) (D : va_G) (kd ki kz kl : ClassId) (z : Nat) (ad : Nat → Nat) (k1 : Nat) (a1 : UInt64) (kd9 : Nat) (a : UInt64) (hna : fx_n a) (h0 : kd9 ≤ 6) (h1 : sp_ge (s_st a) 13920209183539462144 ∧ sp_le (s_st a) 4696837146684686336) (h2 : 4 ≤ kd9 → ¬ sp_eq (s_st a) 0) : my_WR l D kd ki kz kl z yX6_setTail wsX6_setTail ({ frames := 2, cells := 0, slots := 0, locals := 42 }) [.ref (ad 0), .int (nI 0), .int (nI kd9), .double a] [(ad 0, .inr (6, [.ref (ad 1), .ref (ad 8), .ref (ad 14), .ref (ad 21), .ref (ad 22), .ref (ad 23)])), (ad 22, .inr (5, [.int (nI 1), .int (nI k1), .double a1]))] [(ad 0, .inr (6, [.ref (ad 1), .ref (ad 8), .ref (ad 14), .ref (ad 21), .ref (ad 22), .ref (ad 23)])), (ad 22, .inr (5, [.int (nI 1), .int (nI kd9), .double (s_st a)]))] (some (.int (nI k1))) := by
  refine my_WR_of (cc := cX6_setTail) (maxL := 9) (ret := (some .int)) (by decide) rfl (Nat.le_of_ble_eq_true rfl) ?_
  intro p e s m below meth c S hr hlocks hC hP hD hz hS ls hl
  have S : CallFix p m c cX6_setTail 9 s ([.ref (ad 0), .int (nI 0), .int (nI kd9), .double a] : List Value).toArray wsX6_setTail RX6 := S
  obtain ⟨hx, hb, hml, hown, hts⟩ := id S
  have hl : lv_has ls 9 [(0, .ref (ad 0)), (1, .int (nI 0)), (2, .int (nI kd9)), (3, .double a)] := hl
  suffices K0 : ∀ (H : Heap) (locs : List Loc), va_P D vwCl [(ad 0, .inr (6, [.ref (ad 1), .ref (ad 8), .ref (ad 14), .ref (ad 21), .ref (ad 22), .ref (ad 23)])), (ad 22, .inr (5, [.int (nI 1), .int (nI k1), .double a1]))] H → va_D (my_A [(ad 0, .inr (6, [.ref (ad 1), .ref (ad 8), .ref (ad 14), .ref (ad 21), .ref (ad 22), .ref (ad 23)])), (ad 22, .inr (5, [.int (nI 1), .int (nI k1), .double a1]))]) [(ad 0, .inr (6, [.ref (ad 1), .ref (ad 8), .ref (ad 14), .ref (ad 21), .ref (ad 22), .ref (ad 23)])), (ad 22, .inr (5, [.int (nI 1), .int (nI k1), .double a1]))] → va_S (my_A [(ad 0, .inr (6, [.ref (ad 1), .ref (ad 8), .ref (ad 14), .ref (ad 21), .ref (ad 22), .ref (ad 23)])), (ad 22, .inr (5, [.int (nI 1), .int (nI k1), .double a1]))]) s.heap H locs → W p l e ({ frames := 2, cells := 0, slots := 0, locals := 42 }) s m ([.ref (ad 0), .int (nI 0), .int (nI kd9), .double a] : List Value).toArray below meth c H locs 0 0 (my_WQ below D ([.ref (ad 0), .int (nI 0), .int (nI kd9), .double a] : List Value).toArray s [(ad 0, .inr (6, [.ref (ad 1), .ref (ad 8), .ref (ad 14), .ref (ad 21), .ref (ad 22), .ref (ad 23)])), (ad 22, .inr (5, [.int (nI 1), .int (nI k1), .double a1]))] [(ad 0, .inr (6, [.ref (ad 1), .ref (ad 8), .ref (ad 14), .ref (ad 21), .ref (ad 22), .ref (ad 23)])), (ad 22, .inr (5, [.int (nI 1), .int (nI kd9), .double (s_st a)]))] (some (.int (nI k1)))) (F0 m 0 ls []) from K0 _ _ hP hD hS
  intro H locs hP hD hS
  refine lv_iload_n hx hb dX6_setTail_0 rfl (lv_at hl 1 rfl) ?_
  refine my_goR (v := none) (my_runS (bytes := cX6_requireEnd) (maxL := 1) (ret := none) (n := 1) (As := [.int (nI 0)]) (rest := []) S hl.1 (kk_X6_requireEnd l D kd ki kz kl z 0 (by omega)) rfl ⟨rfl, rfl⟩ gX6_setTail_X6_requireEnd (by decide +kernel) rfl ⟨Nat.le_of_ble_eq_true rfl, Nat.le_of_ble_eq_true rfl⟩ (my_preR (my_C_S hC hS hz) (my_P_sub (wc := []) hP [] rfl)) rfl rfl dX6_setTail_1) ?_
  refine W.eq (g2 := F0 m 4 ls []) rfl ?_
  refine lv_dload_n hx hb dX6_setTail_4 rfl (lv_at hl 3 rfl) ?_
  refine my_goR (v := (some (.double (s_st a)))) (my_runS (bytes := cX6_settled) (maxL := 2) (ret := (some .double)) (n := 1) (As := [.double a]) (rest := []) S hl.1 (kk_X6_settled l D kd ki kz kl z a (hna)) rfl ⟨rfl, rfl⟩ gX6_setTail_X6_settled (by decide +kernel) rfl ⟨Nat.le_of_ble_eq_true rfl, Nat.le_of_ble_eq_true rfl⟩ (my_preR (my_C_S hC hS hz) (my_P_sub (wc := []) hP [] rfl)) rfl rfl dX6_setTail_5) ?_
  refine W.eq (g2 := F0 m 8 ls [.double (s_st a)]) rfl ?_
  refine lv_dstore (lv' := [(5, .double (s_st a)), (0, .ref (ad 0)), (1, .int (nI 0)), (2, .int (nI kd9)), (3, .double a)]) hx hb dX6_setTail_8 hl (by decide) rfl (fun ls hl => ?_)
  refine lv_iload_n hx hb dX6_setTail_10 rfl (lv_at hl 3 rfl) ?_
  refine lv_if_lt (tgt := 20) hx hb dX6_setTail_11 (by decide) (fun c_11 => ?_) (fun c_11 => ?_)
  · have c_11 : kd9 < 0 := (nI_ltI (a := kd9) (b := 0) (by omega) (by omega)).mp c_11
    exact absurd c_11 (Nat.not_lt_zero _)
  · have c_11 : ¬ kd9 < 0 := fun h9 => c_11 ((nI_ltI (a := kd9) (b := 0) (by omega) (by omega)).mpr h9)
    refine lv_iload_n hx hb dX6_setTail_14 rfl (lv_at hl 3 rfl) ?_
    refine lv_bipush (v := 6) hx hb dX6_setTail_15 (by decide) ?_
    refine lv_icmp_le (tgt := 30) hx hb dX6_setTail_17 (by decide) (fun c_17 => ?_) (fun c_17 => ?_)
    · have c_17 : kd9 ≤ 6 := (nI_leI (a := kd9) (b := 6) (by omega) (by omega)).mp c_17
      refine lv_ldc2d hx hb hown (hts (.constantDouble RX6 53 (13920209183539462144)) (List.mem_of_getElem? (l := wsX6_setTail) (i := 3) rfl)) dX6_setTail_30 ?_
      refine lv_ldc2d hx hb hown (hts (.constantDouble RX6 55 (4696837146684686336)) (List.mem_of_getElem? (l := wsX6_setTail) (i := 4) rfl)) dX6_setTail_33 ?_
      refine lv_dload hx hb dX6_setTail_36 (lv_at hl 0 rfl) ?_
      refine my_goR (v := (some (.int (if sp_ge (s_st a) 13920209183539462144 ∧ sp_le (s_st a) 4696837146684686336 then 1 else 0)))) (my_runS (bytes := cX6_isFrom) (maxL := 6) (ret := (some .boolean)) (n := 3) (As := [.double 13920209183539462144, .double 4696837146684686336, .double (s_st a)]) (rest := []) S hl.1 (kk_X6_isFrom l D kd ki kz kl z 13920209183539462144 4696837146684686336 (s_st a)) rfl ⟨rfl, rfl⟩ gX6_setTail_X6_isFrom (by decide +kernel) rfl ⟨Nat.le_of_ble_eq_true rfl, Nat.le_of_ble_eq_true rfl⟩ (my_preR (my_C_S hC hS hz) (my_P_sub (wc := []) hP [] rfl)) rfl rfl dX6_setTail_38) ?_
      refine W.eq (g2 := F0 m 41 ls [.int (if sp_ge (s_st a) 13920209183539462144 ∧ sp_le (s_st a) 4696837146684686336 then 1 else 0)]) rfl ?_
      by_cases q_h1 : sp_ge (s_st a) 13920209183539462144 ∧ sp_le (s_st a) 4696837146684686336
      · rw [if_pos q_h1]
        refine lv_if_ne (tgt := 54) hx hb dX6_setTail_41 (by decide) (fun c_41 => ?_) (fun c_41 => ?_)
        · skip
          have j_76 : ∀ (H : Heap) (locs : List Loc) (hP : va_P D vwCl [(ad 0, .inr (6, [.ref (ad 1), .ref (ad 8), .ref (ad 14), .ref (ad 21), .ref (ad 22), .ref (ad 23)])), (ad 22, .inr (5, [.int (nI 1), .int (nI k1), .double a1]))] H) (hD : va_D (my_A [(ad 0, .inr (6, [.ref (ad 1), .ref (ad 8), .ref (ad 14), .ref (ad 21), .ref (ad 22), .ref (ad 23)])), (ad 22, .inr (5, [.int (nI 1), .int (nI k1), .double a1]))]) [(ad 0, .inr (6, [.ref (ad 1), .ref (ad 8), .ref (ad 14), .ref (ad 21), .ref (ad 22), .ref (ad 23)])), (ad 22, .inr (5, [.int (nI 1), .int (nI k1), .double a1]))]) (hS : va_S (my_A [(ad 0, .inr (6, [.ref (ad 1), .ref (ad 8), .ref (ad 14), .ref (ad 21), .ref (ad 22), .ref (ad 23)])), (ad 22, .inr (5, [.int (nI 1), .int (nI k1), .double a1]))]) s.heap H locs) (ls : Array Slot) (hl : lv_has ls 9 [(5, .double (s_st a)), (0, .ref (ad 0)), (1, .int (nI 0)), (2, .int (nI kd9)), (3, .double a)]), W p l e ({ frames := 2, cells := 0, slots := 0, locals := 42 }) s m ([.ref (ad 0), .int (nI 0), .int (nI kd9), .double a] : List Value).toArray below meth c H locs 0 0 (my_WQ below D ([.ref (ad 0), .int (nI 0), .int (nI kd9), .double a] : List Value).toArray s [(ad 0, .inr (6, [.ref (ad 1), .ref (ad 8), .ref (ad 14), .ref (ad 21), .ref (ad 22), .ref (ad 23)])), (ad 22, .inr (5, [.int (nI 1), .int (nI k1), .double a1]))] [(ad 0, .inr (6, [.ref (ad 1), .ref (ad 8), .ref (ad 14), .ref (ad 21), .ref (ad 22), .ref (ad 23)])), (ad 22, .inr (5, [.int (nI 1), .int (nI kd9), .double (s_st a)]))] (some (.int (nI k1)))) (F0 m 76 ls []) := by
            intro  H locs hP hD hS ls hl
            refine lv_aload_n hx hb dX6_setTail_76 rfl (lv_at hl 1 rfl) ?_
            refine lv_iload_n hx hb dX6_setTail_77 rfl (lv_at hl 2 rfl) ?_
            refine my_goR (v := (some (.ref (if 0 = 0 then ad 22 else ad 23)))) (my_runV (bytes := cX6_tailAt) (maxL := 2) (ret := (some (.object "MonotoneSpline$Tail"))) (n := 1) (As := [.int (nI 0)]) (rest := []) S hl.1 (kk_X6_tailAt l D kd ki kz kl z ad 0 (by omega)) rfl ⟨rfl, rfl⟩ gX6_setTail_X6_tailAt (by decide +kernel) rfl ⟨Nat.le_of_ble_eq_true rfl, Nat.le_of_ble_eq_true rfl⟩ (my_preR (my_C_S hC hS hz) (my_P_sub (wc := [(ad 0, .inr (6, [.ref (ad 1), .ref (ad 8), .ref (ad 14), .ref (ad 21), .ref (ad 22), .ref (ad 23)]))]) hP [0] rfl)) (va_recv hC.1 hP (ci := 6) (q0 := 0) rfl rfl) rfl rfl dX6_setTail_78) ?_
            refine W.eq (g2 := F0 m 81 ls [.ref (if 0 = 0 then ad 22 else ad 23)]) rfl ?_
            by_cases q_e : 0 = 0
            · rw [if_pos q_e]
              refine lv_astore (lv' := [(7, .ref (ad 22)), (5, .double (s_st a)), (0, .ref (ad 0)), (1, .int (nI 0)), (2, .int (nI kd9)), (3, .double a)]) hx hb dX6_setTail_81 hl (by decide) rfl (fun ls hl => ?_)
              refine lv_aload hx hb dX6_setTail_83 (lv_at hl 0 rfl) ?_
              refine va_getN (D := D) (ci := 5) (v := .int (nI k1)) (C := RX5) (T := TX5) (N := 3) hx hb hts iw_X6_setTail_X5 hown hC.1 hP 1 rfl rfl 1 (by decide) (va_Nw.use (w := .fieldLinkNest "MonotoneSpline" 237 "MonotoneSpline$Tail" "kind" "I" "MonotoneSpline") rfl (hC.2.1 _ (List.mem_of_getElem? (l := my_nest) (i := 13) rfl))) (fun _ h9 => h9) rfl dX6_setTail_85 ?_
              refine lv_istore (lv' := [(8, .int (nI k1)), (7, .ref (ad 22)), (5, .double (s_st a)), (0, .ref (ad 0)), (1, .int (nI 0)), (2, .int (nI kd9)), (3, .double a)]) hx hb dX6_setTail_88 hl (by decide) rfl (fun ls hl => ?_)
              refine lv_aload hx hb dX6_setTail_90 (lv_at hl 1 rfl) ?_
              refine lv_iload_n hx hb dX6_setTail_92 rfl (lv_at hl 5 rfl) ?_
              refine va_putN (D := D) (ci := 5) (v := .int (nI kd9)) (ty := .int) (C := RX5) (T := TX5) (N := 3) hx hb hts iw_X6_setTail_X5 tyX5 tyX5_ok nmX5 hown hC.1 hP hD hS 1 rfl rfl 1 (by decide) (va_Nw.use (w := .fieldLinkNest "MonotoneSpline" 237 "MonotoneSpline$Tail" "kind" "I" "MonotoneSpline") rfl (hC.2.1 _ (List.mem_of_getElem? (l := my_nest) (i := 13) rfl))) (fun _ h9 => h9) rfl (by decide +kernel) rfl rfl (Nat.le_of_ble_eq_true rfl) dX6_setTail_93 (fun H locs hP hD hS => ?_)
              have hP : va_P D vwCl [(ad 0, .inr (6, [.ref (ad 1), .ref (ad 8), .ref (ad 14), .ref (ad 21), .ref (ad 22), .ref (ad 23)])), (ad 22, .inr (5, [.int (nI 1), .int (nI kd9), .double a1]))] H := hP
              have hD : va_D (my_A [(ad 0, .inr (6, [.ref (ad 1), .ref (ad 8), .ref (ad 14), .ref (ad 21), .ref (ad 22), .ref (ad 23)])), (ad 22, .inr (5, [.int (nI 1), .int (nI k1), .double a1]))]) [(ad 0, .inr (6, [.ref (ad 1), .ref (ad 8), .ref (ad 14), .ref (ad 21), .ref (ad 22), .ref (ad 23)])), (ad 22, .inr (5, [.int (nI 1), .int (nI kd9), .double a1]))] := hD
              refine lv_aload hx hb dX6_setTail_96 (lv_at hl 1 rfl) ?_
              refine lv_dload hx hb dX6_setTail_98 (lv_at hl 2 rfl) ?_
              refine va_putN (D := D) (ci := 5) (v := .double (s_st a)) (ty := .double) (C := RX5) (T := TX5) (N := 3) hx hb hts iw_X6_setTail_X5 tyX5 tyX5_ok nmX5 hown hC.1 hP hD hS 1 rfl rfl 2 (by decide) (va_Nw.use (w := .fieldLinkNest "MonotoneSpline" 240 "MonotoneSpline$Tail" "factor" "D" "MonotoneSpline") rfl (hC.2.1 _ (List.mem_of_getElem? (l := my_nest) (i := 14) rfl))) (fun _ h9 => h9) rfl (by decide +kernel) rfl rfl (Nat.le_of_ble_eq_true rfl) dX6_setTail_100 (fun H locs hP hD hS => ?_)
              have hP : va_P D vwCl [(ad 0, .inr (6, [.ref (ad 1), .ref (ad 8), .ref (ad 14), .ref (ad 21), .ref (ad 22), .ref (ad 23)])), (ad 22, .inr (5, [.int (nI 1), .int (nI kd9), .double (s_st a)]))] H := hP
              have hD : va_D (my_A [(ad 0, .inr (6, [.ref (ad 1), .ref (ad 8), .ref (ad 14), .ref (ad 21), .ref (ad 22), .ref (ad 23)])), (ad 22, .inr (5, [.int (nI 1), .int (nI k1), .double a1]))]) [(ad 0, .inr (6, [.ref (ad 1), .ref (ad 8), .ref (ad 14), .ref (ad 21), .ref (ad 22), .ref (ad 23)])), (ad 22, .inr (5, [.int (nI 1), .int (nI kd9), .double (s_st a)]))] := hD
              refine lv_iload hx hb dX6_setTail_103 (lv_at hl 0 rfl) ?_
              exact my_iretW hx hb hr hlocks hP (rfl) hS (rfl) dX6_setTail_105
            · rw [if_neg q_e]
              exact absurd rfl q_e
          refine lv_iload_n hx hb dX6_setTail_54 rfl (lv_at hl 3 rfl) ?_
          refine lv_iconst (v := 4) hx hb dX6_setTail_55 (by decide) ?_
          refine lv_icmp_lt (tgt := 76) hx hb dX6_setTail_56 (by decide) (fun c_56 => ?_) (fun c_56 => ?_)
          · have c_56 : kd9 < 4 := (nI_ltI (a := kd9) (b := 4) (by omega) (by omega)).mp c_56
            exact j_76 _ _ hP hD hS _ (lv_sub hl [0, 1, 2, 3, 4] rfl)
          · have c_56 : ¬ kd9 < 4 := fun h9 => c_56 ((nI_ltI (a := kd9) (b := 4) (by omega) (by omega)).mpr h9)
            refine lv_dload hx hb dX6_setTail_59 (lv_at hl 0 rfl) ?_
            refine lv_dconst0 hx hb dX6_setTail_61 ?_
            refine my_topd (w := 0) (by decide) ?_
            refine lv_dcmp hx hb dX6_setTail_62 ?_
            refine lv_if_ne (tgt := 76) hx hb dX6_setTail_63 (by decide) (fun c_63 => ?_) (fun c_63 => ?_)
            · have c_63 := cv_l_eq_f c_63
              exact j_76 _ _ hP hD hS _ (lv_sub hl [0, 1, 2, 3, 4] rfl)
            · have c_63 := cv_l_eq_t c_63
              exact absurd c_63 (h2 (by omega))
        · skip
          first | exact absurd c_41 (by decide) | exact absurd (by decide) c_41
      · rw [if_neg q_h1]
        exact absurd h1 q_h1
    · have c_17 : ¬ kd9 ≤ 6 := fun h9 => c_17 ((nI_leI (a := kd9) (b := 6) (by omega) (by omega)).mpr h9)
      exact absurd h0 (by omega)

theorem iw_X6_limit_X6 : ∀ w ∈ wsX60, w ∈ wsX6_limit := fun w h => List.mem_cons_of_mem _ (List.mem_append_left _ (List.mem_append_left _ (List.mem_append_left _ (List.mem_append_left _ (List.mem_append_left _ (List.mem_append_right _ (h)))))))
theorem iw_X6_limit_X1 : ∀ w ∈ wsX10, w ∈ wsX6_limit := fun w h => List.mem_cons_of_mem _ (List.mem_append_left _ (List.mem_append_left _ (List.mem_append_left _ (List.mem_append_left _ (List.mem_append_right _ (h))))))
set_option maxHeartbeats 4000000 in
set_option maxRecDepth 100000 in
theorem kk_X6_limit0 (l : Launch) (D : va_G) (kd ki kz kl : ClassId) (z : Nat) (ad : Nat → Nat) (kn : Nat) (P : Nat → UInt64) (V : Nat → UInt64) (k1 : Nat) (a1 : UInt64) (hJ : KJ kn P V) (h0 : k1 ≤ 6) (h1 : PY a1) (h2 : 4 ≤ k1 → ¬ sp_eq a1 0) : my_RO l D kd ki kz kl z yX6_limit wsX6_limit ({ frames := 2, cells := 0, slots := 0, locals := 44 }) [.ref (ad 0), .int (nI 0)] [(ad 0, .inr (6, [.ref (ad 1), .ref (ad 8), .ref (ad 14), .ref (ad 21), .ref (ad 22), .ref (ad 23)])), (ad 14, .inr (1, [.ref (ad 15), .ref (ad 17), .ref (ad 19), .int (nI kn)])), (ad 17, .inr (4, [.ref (ad 18)])), (ad 18, .inl (kd, 60, .inr (.inr (.inr (.inl V))))), (ad 22, .inr (5, [.int (nI 1), .int (nI k1), .double a1]))] (some (.double (s_lim 1 k1 a1 (V (0))))) := by
  refine my_RO_of (cc := cX6_limit) (maxL := 3) (ret := (some .double)) (by decide) rfl (Nat.le_of_ble_eq_true rfl) ?_
  intro p e s m below meth c S hr hlocks hC hP ls hl
  have S : CallFix p m c cX6_limit 3 s ([.ref (ad 0), .int (nI 0)] : List Value).toArray wsX6_limit RX6 := S
  obtain ⟨hx, hb, hml, hown, hts⟩ := id S
  have hl : lv_has ls 3 [(0, .ref (ad 0)), (1, .int (nI 0))] := hl
  have hkn := hJ.2.1
  have hkn2 := hJ.1
  refine lv_iload_n hx hb dX6_limit_0 rfl (lv_at hl 1 rfl) ?_
  refine my_goR (v := none) (my_runS (bytes := cX6_requireEnd) (maxL := 1) (ret := none) (n := 1) (As := [.int (nI 0)]) (rest := []) S hl.1 (kk_X6_requireEnd l D kd ki kz kl z 0 (by omega)) rfl ⟨rfl, rfl⟩ gX6_limit_X6_requireEnd (by decide +kernel) rfl ⟨Nat.le_of_ble_eq_true rfl, Nat.le_of_ble_eq_true rfl⟩ (my_preR hC (my_P_sub (wc := []) hP [] rfl)) rfl rfl dX6_limit_1) ?_
  refine W.eq (g2 := F0 m 4 ls []) rfl ?_
  refine lv_aload_n hx hb dX6_limit_4 rfl (lv_at hl 0 rfl) ?_
  refine va_get (D := D) (ci := 6) (v := .ref (ad 14)) (C := RX6) (T := TX6) (N := 6) hx hb hts iw_X6_limit_X6 hown hC.1 hP 0 rfl rfl 2 (by decide) (hts (.fieldLink RX6 26 "MonotoneSpline" "knots" "LMonotoneSpline$Knots;") (List.mem_of_getElem? (l := wsX6_limit) (i := 3) rfl)) (fun _ h9 => h9) rfl dX6_limit_5 ?_
  refine va_getN (D := D) (ci := 1) (v := .int (nI kn)) (C := RX1) (T := TX1) (N := 4) hx hb hts iw_X6_limit_X1 hown hC.1 hP 1 rfl rfl 3 (by decide) (va_Nw.use (w := .fieldLinkNest "MonotoneSpline" 136 "MonotoneSpline$Knots" "count" "I" "MonotoneSpline") rfl (hC.2.1 _ (List.mem_of_getElem? (l := my_nest) (i := 11) rfl))) (fun _ h9 => h9) rfl dX6_limit_8 ?_
  refine lv_if_ne (tgt := 24) hx hb dX6_limit_11 (by decide) (fun c_11 => ?_) (fun c_11 => ?_)
  · have c_11 : ¬ kn = 0 := fun h9 => c_11 ((nI_eq (a := kn) (b := 0) (by omega) (by omega)).mpr h9)
    refine lv_iload_n hx hb dX6_limit_24 rfl (lv_at hl 1 rfl) ?_
    refine lv_if_ne (tgt := 32) hx hb dX6_limit_25 (by decide) (fun c_25 => ?_) (fun c_25 => ?_)
    · have c_25 : ¬ 0 = 0 := fun h9 => c_25 ((nI_eq (a := 0) (b := 0) (by omega) (by omega)).mpr h9)
      exact absurd rfl c_25
    · have c_25 : 0 = 0 := (nI_eq (a := 0) (b := 0) (by omega) (by omega)).mp c_25
      refine lv_iconst (v := 0) hx hb dX6_limit_28 (by decide) ?_
      refine lv_goto (tgt := 41) hx hb dX6_limit_29 (by decide) ?_
      refine my_topi (w := nI 0) (rfl) ?_
      refine lv_istore_n (lv' := [(2, .int (nI 0)), (0, .ref (ad 0)), (1, .int (nI 0))]) hx hb dX6_limit_41 rfl hl (by decide) rfl (fun ls hl => ?_)
      refine lv_aload_n hx hb dX6_limit_42 rfl (lv_at hl 1 rfl) ?_
      refine lv_iload_n hx hb dX6_limit_43 rfl (lv_at hl 2 rfl) ?_
      refine my_goR (v := (some (.ref (if 0 = 0 then ad 22 else ad 23)))) (my_runV (bytes := cX6_tailAt) (maxL := 2) (ret := (some (.object "MonotoneSpline$Tail"))) (n := 1) (As := [.int (nI 0)]) (rest := []) S hl.1 (kk_X6_tailAt l D kd ki kz kl z ad 0 (by omega)) rfl ⟨rfl, rfl⟩ gX6_limit_X6_tailAt (by decide +kernel) rfl ⟨Nat.le_of_ble_eq_true rfl, Nat.le_of_ble_eq_true rfl⟩ (my_preR hC (my_P_sub (wc := [(ad 0, .inr (6, [.ref (ad 1), .ref (ad 8), .ref (ad 14), .ref (ad 21), .ref (ad 22), .ref (ad 23)]))]) hP [0] rfl)) (va_recv hC.1 hP (ci := 6) (q0 := 0) rfl rfl) rfl rfl dX6_limit_44) ?_
      refine W.eq (g2 := F0 m 47 ls [.ref (if 0 = 0 then ad 22 else ad 23)]) rfl ?_
      by_cases q_e : 0 = 0
      · rw [if_pos q_e]
        refine lv_aload_n hx hb dX6_limit_47 rfl (lv_at hl 1 rfl) ?_
        refine va_get (D := D) (ci := 6) (v := .ref (ad 14)) (C := RX6) (T := TX6) (N := 6) hx hb hts iw_X6_limit_X6 hown hC.1 hP 0 rfl rfl 2 (by decide) (hts (.fieldLink RX6 26 "MonotoneSpline" "knots" "LMonotoneSpline$Knots;") (List.mem_of_getElem? (l := wsX6_limit) (i := 3) rfl)) (fun _ h9 => h9) rfl dX6_limit_48 ?_
        refine va_getN (D := D) (ci := 1) (v := .ref (ad 17)) (C := RX1) (T := TX1) (N := 4) hx hb hts iw_X6_limit_X1 hown hC.1 hP 1 rfl rfl 1 (by decide) (va_Nw.use (w := .fieldLinkNest "MonotoneSpline" 147 "MonotoneSpline$Knots" "heights" "LMonotoneSpline$Row;" "MonotoneSpline") rfl (hC.2.1 _ (List.mem_of_getElem? (l := my_nest) (i := 9) rfl))) (fun _ h9 => h9) rfl dX6_limit_51 ?_
        refine lv_iload_n hx hb dX6_limit_54 rfl (lv_at hl 0 rfl) ?_
        refine my_goR (v := (some (.double (V 0)))) (my_runV (bytes := cX4_get) (maxL := 2) (ret := (some .double)) (n := 1) (As := [.int (nI 0)]) (rest := [.ref (ad 22)]) S hl.1 (kk_X4_get l D kd ki kz kl z (ad 17) (ad 18) 60 V 0 (by omega) (by omega)) rfl ⟨rfl, rfl⟩ gX6_limit_X4_get (by decide +kernel) rfl ⟨Nat.le_of_ble_eq_true rfl, Nat.le_of_ble_eq_true rfl⟩ (my_preR hC (my_P_sub (wc := [(ad 17, .inr (4, [.ref (ad 18)])), (ad 18, .inl (kd, 60, .inr (.inr (.inr (.inl V)))))]) hP [2, 3] rfl)) (va_recv hC.1 hP (ci := 4) (q0 := 2) rfl rfl) rfl rfl dX6_limit_55) ?_
        refine W.eq (g2 := F0 m 58 ls [.double (V 0), .ref (ad 22)]) rfl ?_
        refine my_goR (v := (some (.double (s_lim 1 k1 a1 (V 0))))) (my_runV (bytes := cX5_limitFrom) (maxL := 3) (ret := (some .double)) (n := 1) (As := [.double (V 0)]) (rest := []) S hl.1 (kk_X5_limitFrom l D kd ki kz kl z (ad 22) 1 k1 a1 (V 0) (by omega) (h0) (h1) (h2) ((hJ.2.2.2.1 (0) (by omega)).1)) rfl ⟨rfl, rfl⟩ gX6_limit_X5_limitFrom (by decide +kernel) rfl ⟨Nat.le_of_ble_eq_true rfl, Nat.le_of_ble_eq_true rfl⟩ (my_preR hC (my_P_sub (wc := [(ad 22, .inr (5, [.int (nI 1), .int (nI k1), .double a1]))]) hP [4] rfl)) (va_recv hC.1 hP (ci := 5) (q0 := 4) rfl rfl) rfl rfl dX6_limit_58) ?_
        refine W.eq (g2 := F0 m 61 ls [.double (s_lim 1 k1 a1 (V 0))]) rfl ?_
        exact my_dretR hx hb hr hlocks (rfl) dX6_limit_61
      · rw [if_neg q_e]
        exact absurd rfl q_e
  · have c_11 : kn = 0 := (nI_eq (a := kn) (b := 0) (by omega) (by omega)).mp c_11
    exact absurd c_11 (by omega)

set_option maxHeartbeats 4000000 in
set_option maxRecDepth 100000 in
theorem kk_X6_setTail1 (l : Launch) (D : va_G) (kd ki kz kl : ClassId) (z : Nat) (ad : Nat → Nat) (k2 : Nat) (a2 : UInt64) (kd9 : Nat) (a : UInt64) (hna : fx_n a) (h0 : kd9 ≤ 6) (h1 : sp_ge (s_st a) 13920209183539462144 ∧ sp_le (s_st a) 4696837146684686336) (h2 : 4 ≤ kd9 → ¬ sp_eq (s_st a) 0) : my_WR l D kd ki kz kl z yX6_setTail wsX6_setTail ({ frames := 2, cells := 0, slots := 0, locals := 42 }) [.ref (ad 0), .int (nI 1), .int (nI kd9), .double a] [(ad 0, .inr (6, [.ref (ad 1), .ref (ad 8), .ref (ad 14), .ref (ad 21), .ref (ad 22), .ref (ad 23)])), (ad 23, .inr (5, [.int (nI 0), .int (nI k2), .double a2]))] [(ad 0, .inr (6, [.ref (ad 1), .ref (ad 8), .ref (ad 14), .ref (ad 21), .ref (ad 22), .ref (ad 23)])), (ad 23, .inr (5, [.int (nI 0), .int (nI kd9), .double (s_st a)]))] (some (.int (nI k2))) := by
  refine my_WR_of (cc := cX6_setTail) (maxL := 9) (ret := (some .int)) (by decide) rfl (Nat.le_of_ble_eq_true rfl) ?_
  intro p e s m below meth c S hr hlocks hC hP hD hz hS ls hl
  have S : CallFix p m c cX6_setTail 9 s ([.ref (ad 0), .int (nI 1), .int (nI kd9), .double a] : List Value).toArray wsX6_setTail RX6 := S
  obtain ⟨hx, hb, hml, hown, hts⟩ := id S
  have hl : lv_has ls 9 [(0, .ref (ad 0)), (1, .int (nI 1)), (2, .int (nI kd9)), (3, .double a)] := hl
  suffices K0 : ∀ (H : Heap) (locs : List Loc), va_P D vwCl [(ad 0, .inr (6, [.ref (ad 1), .ref (ad 8), .ref (ad 14), .ref (ad 21), .ref (ad 22), .ref (ad 23)])), (ad 23, .inr (5, [.int (nI 0), .int (nI k2), .double a2]))] H → va_D (my_A [(ad 0, .inr (6, [.ref (ad 1), .ref (ad 8), .ref (ad 14), .ref (ad 21), .ref (ad 22), .ref (ad 23)])), (ad 23, .inr (5, [.int (nI 0), .int (nI k2), .double a2]))]) [(ad 0, .inr (6, [.ref (ad 1), .ref (ad 8), .ref (ad 14), .ref (ad 21), .ref (ad 22), .ref (ad 23)])), (ad 23, .inr (5, [.int (nI 0), .int (nI k2), .double a2]))] → va_S (my_A [(ad 0, .inr (6, [.ref (ad 1), .ref (ad 8), .ref (ad 14), .ref (ad 21), .ref (ad 22), .ref (ad 23)])), (ad 23, .inr (5, [.int (nI 0), .int (nI k2), .double a2]))]) s.heap H locs → W p l e ({ frames := 2, cells := 0, slots := 0, locals := 42 }) s m ([.ref (ad 0), .int (nI 1), .int (nI kd9), .double a] : List Value).toArray below meth c H locs 0 0 (my_WQ below D ([.ref (ad 0), .int (nI 1), .int (nI kd9), .double a] : List Value).toArray s [(ad 0, .inr (6, [.ref (ad 1), .ref (ad 8), .ref (ad 14), .ref (ad 21), .ref (ad 22), .ref (ad 23)])), (ad 23, .inr (5, [.int (nI 0), .int (nI k2), .double a2]))] [(ad 0, .inr (6, [.ref (ad 1), .ref (ad 8), .ref (ad 14), .ref (ad 21), .ref (ad 22), .ref (ad 23)])), (ad 23, .inr (5, [.int (nI 0), .int (nI kd9), .double (s_st a)]))] (some (.int (nI k2)))) (F0 m 0 ls []) from K0 _ _ hP hD hS
  intro H locs hP hD hS
  refine lv_iload_n hx hb dX6_setTail_0 rfl (lv_at hl 1 rfl) ?_
  refine my_goR (v := none) (my_runS (bytes := cX6_requireEnd) (maxL := 1) (ret := none) (n := 1) (As := [.int (nI 1)]) (rest := []) S hl.1 (kk_X6_requireEnd l D kd ki kz kl z 1 (by omega)) rfl ⟨rfl, rfl⟩ gX6_setTail_X6_requireEnd (by decide +kernel) rfl ⟨Nat.le_of_ble_eq_true rfl, Nat.le_of_ble_eq_true rfl⟩ (my_preR (my_C_S hC hS hz) (my_P_sub (wc := []) hP [] rfl)) rfl rfl dX6_setTail_1) ?_
  refine W.eq (g2 := F0 m 4 ls []) rfl ?_
  refine lv_dload_n hx hb dX6_setTail_4 rfl (lv_at hl 3 rfl) ?_
  refine my_goR (v := (some (.double (s_st a)))) (my_runS (bytes := cX6_settled) (maxL := 2) (ret := (some .double)) (n := 1) (As := [.double a]) (rest := []) S hl.1 (kk_X6_settled l D kd ki kz kl z a (hna)) rfl ⟨rfl, rfl⟩ gX6_setTail_X6_settled (by decide +kernel) rfl ⟨Nat.le_of_ble_eq_true rfl, Nat.le_of_ble_eq_true rfl⟩ (my_preR (my_C_S hC hS hz) (my_P_sub (wc := []) hP [] rfl)) rfl rfl dX6_setTail_5) ?_
  refine W.eq (g2 := F0 m 8 ls [.double (s_st a)]) rfl ?_
  refine lv_dstore (lv' := [(5, .double (s_st a)), (0, .ref (ad 0)), (1, .int (nI 1)), (2, .int (nI kd9)), (3, .double a)]) hx hb dX6_setTail_8 hl (by decide) rfl (fun ls hl => ?_)
  refine lv_iload_n hx hb dX6_setTail_10 rfl (lv_at hl 3 rfl) ?_
  refine lv_if_lt (tgt := 20) hx hb dX6_setTail_11 (by decide) (fun c_11 => ?_) (fun c_11 => ?_)
  · have c_11 : kd9 < 0 := (nI_ltI (a := kd9) (b := 0) (by omega) (by omega)).mp c_11
    exact absurd c_11 (Nat.not_lt_zero _)
  · have c_11 : ¬ kd9 < 0 := fun h9 => c_11 ((nI_ltI (a := kd9) (b := 0) (by omega) (by omega)).mpr h9)
    refine lv_iload_n hx hb dX6_setTail_14 rfl (lv_at hl 3 rfl) ?_
    refine lv_bipush (v := 6) hx hb dX6_setTail_15 (by decide) ?_
    refine lv_icmp_le (tgt := 30) hx hb dX6_setTail_17 (by decide) (fun c_17 => ?_) (fun c_17 => ?_)
    · have c_17 : kd9 ≤ 6 := (nI_leI (a := kd9) (b := 6) (by omega) (by omega)).mp c_17
      refine lv_ldc2d hx hb hown (hts (.constantDouble RX6 53 (13920209183539462144)) (List.mem_of_getElem? (l := wsX6_setTail) (i := 3) rfl)) dX6_setTail_30 ?_
      refine lv_ldc2d hx hb hown (hts (.constantDouble RX6 55 (4696837146684686336)) (List.mem_of_getElem? (l := wsX6_setTail) (i := 4) rfl)) dX6_setTail_33 ?_
      refine lv_dload hx hb dX6_setTail_36 (lv_at hl 0 rfl) ?_
      refine my_goR (v := (some (.int (if sp_ge (s_st a) 13920209183539462144 ∧ sp_le (s_st a) 4696837146684686336 then 1 else 0)))) (my_runS (bytes := cX6_isFrom) (maxL := 6) (ret := (some .boolean)) (n := 3) (As := [.double 13920209183539462144, .double 4696837146684686336, .double (s_st a)]) (rest := []) S hl.1 (kk_X6_isFrom l D kd ki kz kl z 13920209183539462144 4696837146684686336 (s_st a)) rfl ⟨rfl, rfl⟩ gX6_setTail_X6_isFrom (by decide +kernel) rfl ⟨Nat.le_of_ble_eq_true rfl, Nat.le_of_ble_eq_true rfl⟩ (my_preR (my_C_S hC hS hz) (my_P_sub (wc := []) hP [] rfl)) rfl rfl dX6_setTail_38) ?_
      refine W.eq (g2 := F0 m 41 ls [.int (if sp_ge (s_st a) 13920209183539462144 ∧ sp_le (s_st a) 4696837146684686336 then 1 else 0)]) rfl ?_
      by_cases q_h1 : sp_ge (s_st a) 13920209183539462144 ∧ sp_le (s_st a) 4696837146684686336
      · rw [if_pos q_h1]
        refine lv_if_ne (tgt := 54) hx hb dX6_setTail_41 (by decide) (fun c_41 => ?_) (fun c_41 => ?_)
        · skip
          have j_76 : ∀ (H : Heap) (locs : List Loc) (hP : va_P D vwCl [(ad 0, .inr (6, [.ref (ad 1), .ref (ad 8), .ref (ad 14), .ref (ad 21), .ref (ad 22), .ref (ad 23)])), (ad 23, .inr (5, [.int (nI 0), .int (nI k2), .double a2]))] H) (hD : va_D (my_A [(ad 0, .inr (6, [.ref (ad 1), .ref (ad 8), .ref (ad 14), .ref (ad 21), .ref (ad 22), .ref (ad 23)])), (ad 23, .inr (5, [.int (nI 0), .int (nI k2), .double a2]))]) [(ad 0, .inr (6, [.ref (ad 1), .ref (ad 8), .ref (ad 14), .ref (ad 21), .ref (ad 22), .ref (ad 23)])), (ad 23, .inr (5, [.int (nI 0), .int (nI k2), .double a2]))]) (hS : va_S (my_A [(ad 0, .inr (6, [.ref (ad 1), .ref (ad 8), .ref (ad 14), .ref (ad 21), .ref (ad 22), .ref (ad 23)])), (ad 23, .inr (5, [.int (nI 0), .int (nI k2), .double a2]))]) s.heap H locs) (ls : Array Slot) (hl : lv_has ls 9 [(5, .double (s_st a)), (0, .ref (ad 0)), (1, .int (nI 1)), (2, .int (nI kd9)), (3, .double a)]), W p l e ({ frames := 2, cells := 0, slots := 0, locals := 42 }) s m ([.ref (ad 0), .int (nI 1), .int (nI kd9), .double a] : List Value).toArray below meth c H locs 0 0 (my_WQ below D ([.ref (ad 0), .int (nI 1), .int (nI kd9), .double a] : List Value).toArray s [(ad 0, .inr (6, [.ref (ad 1), .ref (ad 8), .ref (ad 14), .ref (ad 21), .ref (ad 22), .ref (ad 23)])), (ad 23, .inr (5, [.int (nI 0), .int (nI k2), .double a2]))] [(ad 0, .inr (6, [.ref (ad 1), .ref (ad 8), .ref (ad 14), .ref (ad 21), .ref (ad 22), .ref (ad 23)])), (ad 23, .inr (5, [.int (nI 0), .int (nI kd9), .double (s_st a)]))] (some (.int (nI k2)))) (F0 m 76 ls []) := by
            intro  H locs hP hD hS ls hl
            refine lv_aload_n hx hb dX6_setTail_76 rfl (lv_at hl 1 rfl) ?_
            refine lv_iload_n hx hb dX6_setTail_77 rfl (lv_at hl 2 rfl) ?_
            refine my_goR (v := (some (.ref (if 1 = 0 then ad 22 else ad 23)))) (my_runV (bytes := cX6_tailAt) (maxL := 2) (ret := (some (.object "MonotoneSpline$Tail"))) (n := 1) (As := [.int (nI 1)]) (rest := []) S hl.1 (kk_X6_tailAt l D kd ki kz kl z ad 1 (by omega)) rfl ⟨rfl, rfl⟩ gX6_setTail_X6_tailAt (by decide +kernel) rfl ⟨Nat.le_of_ble_eq_true rfl, Nat.le_of_ble_eq_true rfl⟩ (my_preR (my_C_S hC hS hz) (my_P_sub (wc := [(ad 0, .inr (6, [.ref (ad 1), .ref (ad 8), .ref (ad 14), .ref (ad 21), .ref (ad 22), .ref (ad 23)]))]) hP [0] rfl)) (va_recv hC.1 hP (ci := 6) (q0 := 0) rfl rfl) rfl rfl dX6_setTail_78) ?_
            refine W.eq (g2 := F0 m 81 ls [.ref (if 1 = 0 then ad 22 else ad 23)]) rfl ?_
            by_cases q_e : 1 = 0
            · rw [if_pos q_e]
              exact absurd q_e (by decide)
            · rw [if_neg q_e]
              refine lv_astore (lv' := [(7, .ref (ad 23)), (5, .double (s_st a)), (0, .ref (ad 0)), (1, .int (nI 1)), (2, .int (nI kd9)), (3, .double a)]) hx hb dX6_setTail_81 hl (by decide) rfl (fun ls hl => ?_)
              refine lv_aload hx hb dX6_setTail_83 (lv_at hl 0 rfl) ?_
              refine va_getN (D := D) (ci := 5) (v := .int (nI k2)) (C := RX5) (T := TX5) (N := 3) hx hb hts iw_X6_setTail_X5 hown hC.1 hP 1 rfl rfl 1 (by decide) (va_Nw.use (w := .fieldLinkNest "MonotoneSpline" 237 "MonotoneSpline$Tail" "kind" "I" "MonotoneSpline") rfl (hC.2.1 _ (List.mem_of_getElem? (l := my_nest) (i := 13) rfl))) (fun _ h9 => h9) rfl dX6_setTail_85 ?_
              refine lv_istore (lv' := [(8, .int (nI k2)), (7, .ref (ad 23)), (5, .double (s_st a)), (0, .ref (ad 0)), (1, .int (nI 1)), (2, .int (nI kd9)), (3, .double a)]) hx hb dX6_setTail_88 hl (by decide) rfl (fun ls hl => ?_)
              refine lv_aload hx hb dX6_setTail_90 (lv_at hl 1 rfl) ?_
              refine lv_iload_n hx hb dX6_setTail_92 rfl (lv_at hl 5 rfl) ?_
              refine va_putN (D := D) (ci := 5) (v := .int (nI kd9)) (ty := .int) (C := RX5) (T := TX5) (N := 3) hx hb hts iw_X6_setTail_X5 tyX5 tyX5_ok nmX5 hown hC.1 hP hD hS 1 rfl rfl 1 (by decide) (va_Nw.use (w := .fieldLinkNest "MonotoneSpline" 237 "MonotoneSpline$Tail" "kind" "I" "MonotoneSpline") rfl (hC.2.1 _ (List.mem_of_getElem? (l := my_nest) (i := 13) rfl))) (fun _ h9 => h9) rfl (by decide +kernel) rfl rfl (Nat.le_of_ble_eq_true rfl) dX6_setTail_93 (fun H locs hP hD hS => ?_)
              have hP : va_P D vwCl [(ad 0, .inr (6, [.ref (ad 1), .ref (ad 8), .ref (ad 14), .ref (ad 21), .ref (ad 22), .ref (ad 23)])), (ad 23, .inr (5, [.int (nI 0), .int (nI kd9), .double a2]))] H := hP
              have hD : va_D (my_A [(ad 0, .inr (6, [.ref (ad 1), .ref (ad 8), .ref (ad 14), .ref (ad 21), .ref (ad 22), .ref (ad 23)])), (ad 23, .inr (5, [.int (nI 0), .int (nI k2), .double a2]))]) [(ad 0, .inr (6, [.ref (ad 1), .ref (ad 8), .ref (ad 14), .ref (ad 21), .ref (ad 22), .ref (ad 23)])), (ad 23, .inr (5, [.int (nI 0), .int (nI kd9), .double a2]))] := hD
              refine lv_aload hx hb dX6_setTail_96 (lv_at hl 1 rfl) ?_
              refine lv_dload hx hb dX6_setTail_98 (lv_at hl 2 rfl) ?_
              refine va_putN (D := D) (ci := 5) (v := .double (s_st a)) (ty := .double) (C := RX5) (T := TX5) (N := 3) hx hb hts iw_X6_setTail_X5 tyX5 tyX5_ok nmX5 hown hC.1 hP hD hS 1 rfl rfl 2 (by decide) (va_Nw.use (w := .fieldLinkNest "MonotoneSpline" 240 "MonotoneSpline$Tail" "factor" "D" "MonotoneSpline") rfl (hC.2.1 _ (List.mem_of_getElem? (l := my_nest) (i := 14) rfl))) (fun _ h9 => h9) rfl (by decide +kernel) rfl rfl (Nat.le_of_ble_eq_true rfl) dX6_setTail_100 (fun H locs hP hD hS => ?_)
              have hP : va_P D vwCl [(ad 0, .inr (6, [.ref (ad 1), .ref (ad 8), .ref (ad 14), .ref (ad 21), .ref (ad 22), .ref (ad 23)])), (ad 23, .inr (5, [.int (nI 0), .int (nI kd9), .double (s_st a)]))] H := hP
              have hD : va_D (my_A [(ad 0, .inr (6, [.ref (ad 1), .ref (ad 8), .ref (ad 14), .ref (ad 21), .ref (ad 22), .ref (ad 23)])), (ad 23, .inr (5, [.int (nI 0), .int (nI k2), .double a2]))]) [(ad 0, .inr (6, [.ref (ad 1), .ref (ad 8), .ref (ad 14), .ref (ad 21), .ref (ad 22), .ref (ad 23)])), (ad 23, .inr (5, [.int (nI 0), .int (nI kd9), .double (s_st a)]))] := hD
              refine lv_iload hx hb dX6_setTail_103 (lv_at hl 0 rfl) ?_
              exact my_iretW hx hb hr hlocks hP (rfl) hS (rfl) dX6_setTail_105
          refine lv_iload_n hx hb dX6_setTail_54 rfl (lv_at hl 3 rfl) ?_
          refine lv_iconst (v := 4) hx hb dX6_setTail_55 (by decide) ?_
          refine lv_icmp_lt (tgt := 76) hx hb dX6_setTail_56 (by decide) (fun c_56 => ?_) (fun c_56 => ?_)
          · have c_56 : kd9 < 4 := (nI_ltI (a := kd9) (b := 4) (by omega) (by omega)).mp c_56
            exact j_76 _ _ hP hD hS _ (lv_sub hl [0, 1, 2, 3, 4] rfl)
          · have c_56 : ¬ kd9 < 4 := fun h9 => c_56 ((nI_ltI (a := kd9) (b := 4) (by omega) (by omega)).mpr h9)
            refine lv_dload hx hb dX6_setTail_59 (lv_at hl 0 rfl) ?_
            refine lv_dconst0 hx hb dX6_setTail_61 ?_
            refine my_topd (w := 0) (by decide) ?_
            refine lv_dcmp hx hb dX6_setTail_62 ?_
            refine lv_if_ne (tgt := 76) hx hb dX6_setTail_63 (by decide) (fun c_63 => ?_) (fun c_63 => ?_)
            · have c_63 := cv_l_eq_f c_63
              exact j_76 _ _ hP hD hS _ (lv_sub hl [0, 1, 2, 3, 4] rfl)
            · have c_63 := cv_l_eq_t c_63
              exact absurd c_63 (h2 (by omega))
        · skip
          first | exact absurd c_41 (by decide) | exact absurd (by decide) c_41
      · rw [if_neg q_h1]
        exact absurd h1 q_h1
    · have c_17 : ¬ kd9 ≤ 6 := fun h9 => c_17 ((nI_leI (a := kd9) (b := 6) (by omega) (by omega)).mpr h9)
      exact absurd h0 (by omega)

set_option maxHeartbeats 4000000 in
set_option maxRecDepth 100000 in
theorem kk_X6_limit1 (l : Launch) (D : va_G) (kd ki kz kl : ClassId) (z : Nat) (ad : Nat → Nat) (kn : Nat) (P : Nat → UInt64) (V : Nat → UInt64) (k2 : Nat) (a2 : UInt64) (hJ : KJ kn P V) (h0 : k2 ≤ 6) (h1 : PY a2) (h2 : 4 ≤ k2 → ¬ sp_eq a2 0) : my_RO l D kd ki kz kl z yX6_limit wsX6_limit ({ frames := 2, cells := 0, slots := 0, locals := 44 }) [.ref (ad 0), .int (nI 1)] [(ad 0, .inr (6, [.ref (ad 1), .ref (ad 8), .ref (ad 14), .ref (ad 21), .ref (ad 22), .ref (ad 23)])), (ad 14, .inr (1, [.ref (ad 15), .ref (ad 17), .ref (ad 19), .int (nI kn)])), (ad 17, .inr (4, [.ref (ad 18)])), (ad 18, .inl (kd, 60, .inr (.inr (.inr (.inl V))))), (ad 23, .inr (5, [.int (nI 0), .int (nI k2), .double a2]))] (some (.double (s_lim 0 k2 a2 (V (kn - 1))))) := by
  refine my_RO_of (cc := cX6_limit) (maxL := 3) (ret := (some .double)) (by decide) rfl (Nat.le_of_ble_eq_true rfl) ?_
  intro p e s m below meth c S hr hlocks hC hP ls hl
  have S : CallFix p m c cX6_limit 3 s ([.ref (ad 0), .int (nI 1)] : List Value).toArray wsX6_limit RX6 := S
  obtain ⟨hx, hb, hml, hown, hts⟩ := id S
  have hl : lv_has ls 3 [(0, .ref (ad 0)), (1, .int (nI 1))] := hl
  have hkn := hJ.2.1
  have hkn2 := hJ.1
  refine lv_iload_n hx hb dX6_limit_0 rfl (lv_at hl 1 rfl) ?_
  refine my_goR (v := none) (my_runS (bytes := cX6_requireEnd) (maxL := 1) (ret := none) (n := 1) (As := [.int (nI 1)]) (rest := []) S hl.1 (kk_X6_requireEnd l D kd ki kz kl z 1 (by omega)) rfl ⟨rfl, rfl⟩ gX6_limit_X6_requireEnd (by decide +kernel) rfl ⟨Nat.le_of_ble_eq_true rfl, Nat.le_of_ble_eq_true rfl⟩ (my_preR hC (my_P_sub (wc := []) hP [] rfl)) rfl rfl dX6_limit_1) ?_
  refine W.eq (g2 := F0 m 4 ls []) rfl ?_
  refine lv_aload_n hx hb dX6_limit_4 rfl (lv_at hl 0 rfl) ?_
  refine va_get (D := D) (ci := 6) (v := .ref (ad 14)) (C := RX6) (T := TX6) (N := 6) hx hb hts iw_X6_limit_X6 hown hC.1 hP 0 rfl rfl 2 (by decide) (hts (.fieldLink RX6 26 "MonotoneSpline" "knots" "LMonotoneSpline$Knots;") (List.mem_of_getElem? (l := wsX6_limit) (i := 3) rfl)) (fun _ h9 => h9) rfl dX6_limit_5 ?_
  refine va_getN (D := D) (ci := 1) (v := .int (nI kn)) (C := RX1) (T := TX1) (N := 4) hx hb hts iw_X6_limit_X1 hown hC.1 hP 1 rfl rfl 3 (by decide) (va_Nw.use (w := .fieldLinkNest "MonotoneSpline" 136 "MonotoneSpline$Knots" "count" "I" "MonotoneSpline") rfl (hC.2.1 _ (List.mem_of_getElem? (l := my_nest) (i := 11) rfl))) (fun _ h9 => h9) rfl dX6_limit_8 ?_
  refine lv_if_ne (tgt := 24) hx hb dX6_limit_11 (by decide) (fun c_11 => ?_) (fun c_11 => ?_)
  · have c_11 : ¬ kn = 0 := fun h9 => c_11 ((nI_eq (a := kn) (b := 0) (by omega) (by omega)).mpr h9)
    refine lv_iload_n hx hb dX6_limit_24 rfl (lv_at hl 1 rfl) ?_
    refine lv_if_ne (tgt := 32) hx hb dX6_limit_25 (by decide) (fun c_25 => ?_) (fun c_25 => ?_)
    · have c_25 : ¬ 1 = 0 := fun h9 => c_25 ((nI_eq (a := 1) (b := 0) (by omega) (by omega)).mpr h9)
      refine lv_aload_n hx hb dX6_limit_32 rfl (lv_at hl 0 rfl) ?_
      refine va_get (D := D) (ci := 6) (v := .ref (ad 14)) (C := RX6) (T := TX6) (N := 6) hx hb hts iw_X6_limit_X6 hown hC.1 hP 0 rfl rfl 2 (by decide) (hts (.fieldLink RX6 26 "MonotoneSpline" "knots" "LMonotoneSpline$Knots;") (List.mem_of_getElem? (l := wsX6_limit) (i := 3) rfl)) (fun _ h9 => h9) rfl dX6_limit_33 ?_
      refine va_getN (D := D) (ci := 1) (v := .int (nI kn)) (C := RX1) (T := TX1) (N := 4) hx hb hts iw_X6_limit_X1 hown hC.1 hP 1 rfl rfl 3 (by decide) (va_Nw.use (w := .fieldLinkNest "MonotoneSpline" 136 "MonotoneSpline$Knots" "count" "I" "MonotoneSpline") rfl (hC.2.1 _ (List.mem_of_getElem? (l := my_nest) (i := 11) rfl))) (fun _ h9 => h9) rfl dX6_limit_36 ?_
      refine lv_iconst (v := 1) hx hb dX6_limit_39 (by decide) ?_
      refine my_isub (w := nI (kn - 1)) hx hb dX6_limit_40 (pk_sub (a := kn) (b := 1) (by omega)) ?_
      refine my_topi (w := nI (kn - 1)) (rfl) ?_
      refine lv_istore_n (lv' := [(2, .int (nI (kn - 1))), (0, .ref (ad 0)), (1, .int (nI 1))]) hx hb dX6_limit_41 rfl hl (by decide) rfl (fun ls hl => ?_)
      refine lv_aload_n hx hb dX6_limit_42 rfl (lv_at hl 1 rfl) ?_
      refine lv_iload_n hx hb dX6_limit_43 rfl (lv_at hl 2 rfl) ?_
      refine my_goR (v := (some (.ref (if 1 = 0 then ad 22 else ad 23)))) (my_runV (bytes := cX6_tailAt) (maxL := 2) (ret := (some (.object "MonotoneSpline$Tail"))) (n := 1) (As := [.int (nI 1)]) (rest := []) S hl.1 (kk_X6_tailAt l D kd ki kz kl z ad 1 (by omega)) rfl ⟨rfl, rfl⟩ gX6_limit_X6_tailAt (by decide +kernel) rfl ⟨Nat.le_of_ble_eq_true rfl, Nat.le_of_ble_eq_true rfl⟩ (my_preR hC (my_P_sub (wc := [(ad 0, .inr (6, [.ref (ad 1), .ref (ad 8), .ref (ad 14), .ref (ad 21), .ref (ad 22), .ref (ad 23)]))]) hP [0] rfl)) (va_recv hC.1 hP (ci := 6) (q0 := 0) rfl rfl) rfl rfl dX6_limit_44) ?_
      refine W.eq (g2 := F0 m 47 ls [.ref (if 1 = 0 then ad 22 else ad 23)]) rfl ?_
      by_cases q_e : 1 = 0
      · rw [if_pos q_e]
        exact absurd q_e (by decide)
      · rw [if_neg q_e]
        refine lv_aload_n hx hb dX6_limit_47 rfl (lv_at hl 1 rfl) ?_
        refine va_get (D := D) (ci := 6) (v := .ref (ad 14)) (C := RX6) (T := TX6) (N := 6) hx hb hts iw_X6_limit_X6 hown hC.1 hP 0 rfl rfl 2 (by decide) (hts (.fieldLink RX6 26 "MonotoneSpline" "knots" "LMonotoneSpline$Knots;") (List.mem_of_getElem? (l := wsX6_limit) (i := 3) rfl)) (fun _ h9 => h9) rfl dX6_limit_48 ?_
        refine va_getN (D := D) (ci := 1) (v := .ref (ad 17)) (C := RX1) (T := TX1) (N := 4) hx hb hts iw_X6_limit_X1 hown hC.1 hP 1 rfl rfl 1 (by decide) (va_Nw.use (w := .fieldLinkNest "MonotoneSpline" 147 "MonotoneSpline$Knots" "heights" "LMonotoneSpline$Row;" "MonotoneSpline") rfl (hC.2.1 _ (List.mem_of_getElem? (l := my_nest) (i := 9) rfl))) (fun _ h9 => h9) rfl dX6_limit_51 ?_
        refine lv_iload_n hx hb dX6_limit_54 rfl (lv_at hl 0 rfl) ?_
        refine my_goR (v := (some (.double (V (kn - 1))))) (my_runV (bytes := cX4_get) (maxL := 2) (ret := (some .double)) (n := 1) (As := [.int (nI (kn - 1))]) (rest := [.ref (ad 23)]) S hl.1 (kk_X4_get l D kd ki kz kl z (ad 17) (ad 18) 60 V (kn - 1) (by omega) (by omega)) rfl ⟨rfl, rfl⟩ gX6_limit_X4_get (by decide +kernel) rfl ⟨Nat.le_of_ble_eq_true rfl, Nat.le_of_ble_eq_true rfl⟩ (my_preR hC (my_P_sub (wc := [(ad 17, .inr (4, [.ref (ad 18)])), (ad 18, .inl (kd, 60, .inr (.inr (.inr (.inl V)))))]) hP [2, 3] rfl)) (va_recv hC.1 hP (ci := 4) (q0 := 2) rfl rfl) rfl rfl dX6_limit_55) ?_
        refine W.eq (g2 := F0 m 58 ls [.double (V (kn - 1)), .ref (ad 23)]) rfl ?_
        refine my_goR (v := (some (.double (s_lim 0 k2 a2 (V (kn - 1)))))) (my_runV (bytes := cX5_limitFrom) (maxL := 3) (ret := (some .double)) (n := 1) (As := [.double (V (kn - 1))]) (rest := []) S hl.1 (kk_X5_limitFrom l D kd ki kz kl z (ad 23) 0 k2 a2 (V (kn - 1)) (by omega) (h0) (h1) (h2) ((hJ.2.2.2.1 (kn - 1) (by omega)).1)) rfl ⟨rfl, rfl⟩ gX6_limit_X5_limitFrom (by decide +kernel) rfl ⟨Nat.le_of_ble_eq_true rfl, Nat.le_of_ble_eq_true rfl⟩ (my_preR hC (my_P_sub (wc := [(ad 23, .inr (5, [.int (nI 0), .int (nI k2), .double a2]))]) hP [4] rfl)) (va_recv hC.1 hP (ci := 5) (q0 := 4) rfl rfl) rfl rfl dX6_limit_58) ?_
        refine W.eq (g2 := F0 m 61 ls [.double (s_lim 0 k2 a2 (V (kn - 1)))]) rfl ?_
        exact my_dretR hx hb hr hlocks (rfl) dX6_limit_61
    · have c_25 : 1 = 0 := (nI_eq (a := 1) (b := 0) (by omega) (by omega)).mp c_25
      exact absurd c_25 (by decide)
  · have c_11 : kn = 0 := (nI_eq (a := kn) (b := 0) (by omega) (by omega)).mp c_11
    exact absurd c_11 (by omega)

theorem kJ_Pm {kn k : Nat} {P V : Nat → UInt64} (h : KJ kn P V) (hk : k < kn) : fx_m (P k) := by
  obtain ⟨h1, h2, ⟨g, hg, hm⟩, h3⟩ := h
  exact fx_G_m (hg k hk).1
theorem iw_X6_digest_X6 : ∀ w ∈ wsX60, w ∈ wsX6_digest := fun w h => List.mem_cons_of_mem _ (List.mem_append_left _ (List.mem_append_left _ (List.mem_append_left _ (List.mem_append_left _ (List.mem_append_right _ (h))))))
theorem iw_X6_digest_X3 : ∀ w ∈ wsX30, w ∈ wsX6_digest := fun w h => List.mem_cons_of_mem _ (List.mem_append_left _ (List.mem_append_left _ (List.mem_append_left _ (List.mem_append_right _ (h)))))
theorem iw_X6_digest_X1 : ∀ w ∈ wsX10, w ∈ wsX6_digest := fun w h => List.mem_cons_of_mem _ (List.mem_append_left _ (List.mem_append_left _ (List.mem_append_right _ (h))))
theorem iw_X6_digest_X5 : ∀ w ∈ wsX50, w ∈ wsX6_digest := fun w h => List.mem_cons_of_mem _ (List.mem_append_left _ (List.mem_append_right _ (h)))
set_option maxHeartbeats 4000000 in
set_option maxRecDepth 100000 in
theorem kk_X6_digest (l : Launch) (D : va_G) (kd ki kz kl : ClassId) (z : Nat) (ad : Nat → Nat) (n : Nat) (kn : Nat) (P : Nat → UInt64) (V : Nat → UInt64) (F : Nat → UInt64) (k1 : Nat) (a1 : UInt64) (k2 : Nat) (a2 : UInt64) (hK : kn = 0 ∨ KI kn P V F) (hkn : kn ≤ 60) : my_RO l D kd ki kz kl z yX6_digest wsX6_digest ({ frames := 4, cells := 0, slots := 0, locals := 100 }) [.ref (ad 0)] [(ad 0, .inr (6, [.ref (ad 1), .ref (ad 8), .ref (ad 14), .ref (ad 21), .ref (ad 22), .ref (ad 23)])), (ad 1, .inr (3, [.ref (ad 2), .ref (ad 4), .ref (ad 6), .int (nI n)])), (ad 14, .inr (1, [.ref (ad 15), .ref (ad 17), .ref (ad 19), .int (nI kn)])), (ad 15, .inr (4, [.ref (ad 16)])), (ad 16, .inl (kd, 60, .inr (.inr (.inr (.inl P))))), (ad 17, .inr (4, [.ref (ad 18)])), (ad 18, .inl (kd, 60, .inr (.inr (.inr (.inl V))))), (ad 19, .inr (4, [.ref (ad 20)])), (ad 20, .inl (kd, 60, .inr (.inr (.inr (.inl F))))), (ad 22, .inr (5, [.int (nI 1), .int (nI k1), .double a1])), (ad 23, .inr (5, [.int (nI 0), .int (nI k2), .double a2]))] (some (.long (s_dg n kn P V F k1 k2))) := by
  refine my_RO_of (cc := cX6_digest) (maxL := 4) (ret := (some .long)) (by decide) rfl (Nat.le_of_ble_eq_true rfl) ?_
  intro p e s m below meth c S hr hlocks hC hP ls hl
  have S : CallFix p m c cX6_digest 4 s ([.ref (ad 0)] : List Value).toArray wsX6_digest RX6 := S
  obtain ⟨hx, hb, hml, hown, hts⟩ := id S
  have hl : lv_has ls 4 [(0, .ref (ad 0))] := hl
  refine lv_ldc2 hx hb hown (hts (.constantLong RX6 249 (59)) (List.mem_of_getElem? (l := wsX6_digest) (i := 1) rfl)) dX6_digest_0 ?_
  refine lv_lstore_n (lv' := [(1, .long 59), (0, .ref (ad 0))]) hx hb dX6_digest_3 rfl hl (by decide) rfl (fun ls hl => ?_)
  refine lv_lload_n hx hb dX6_digest_4 rfl (lv_at hl 0 rfl) ?_
  refine lv_ldc2 hx hb hown (hts (.constantLong RX6 251 (31)) (List.mem_of_getElem? (l := wsX6_digest) (i := 2) rfl)) dX6_digest_5 ?_
  refine lv_lmul hx hb dX6_digest_8 ?_
  refine lv_aload_n hx hb dX6_digest_9 rfl (lv_at hl 1 rfl) ?_
  refine va_get (D := D) (ci := 6) (v := .ref (ad 1)) (C := RX6) (T := TX6) (N := 6) hx hb hts iw_X6_digest_X6 hown hC.1 hP 0 rfl rfl 0 (by decide) (hts (.fieldLink RX6 10 "MonotoneSpline" "points" "LMonotoneSpline$Points;") (List.mem_of_getElem? (l := wsX6_digest) (i := 3) rfl)) (fun _ h9 => h9) rfl dX6_digest_10 ?_
  refine va_getN (D := D) (ci := 3) (v := .int (nI n)) (C := RX3) (T := TX3) (N := 4) hx hb hts iw_X6_digest_X3 hown hC.1 hP 1 rfl rfl 3 (by decide) (va_Nw.use (w := .fieldLinkNest "MonotoneSpline" 80 "MonotoneSpline$Points" "count" "I" "MonotoneSpline") rfl (hC.2.1 _ (List.mem_of_getElem? (l := my_nest) (i := 4) rfl))) (fun _ h9 => h9) rfl dX6_digest_13 ?_
  refine lv_i2l (v := (nI n : Int32).toInt64) hx hb dX6_digest_16 rfl ?_
  refine lv_ladd hx hb dX6_digest_17 ?_
  refine lv_lstore_n (lv' := [(1, .long ((59 * 31) + ((nI n : Int32).toInt64))), (0, .ref (ad 0))]) hx hb dX6_digest_18 rfl hl (by decide) rfl (fun ls hl => ?_)
  refine lv_lload_n hx hb dX6_digest_19 rfl (lv_at hl 0 rfl) ?_
  refine lv_ldc2 hx hb hown (hts (.constantLong RX6 251 (31)) (List.mem_of_getElem? (l := wsX6_digest) (i := 2) rfl)) dX6_digest_20 ?_
  refine lv_lmul hx hb dX6_digest_23 ?_
  refine lv_aload_n hx hb dX6_digest_24 rfl (lv_at hl 1 rfl) ?_
  refine va_get (D := D) (ci := 6) (v := .ref (ad 14)) (C := RX6) (T := TX6) (N := 6) hx hb hts iw_X6_digest_X6 hown hC.1 hP 0 rfl rfl 2 (by decide) (hts (.fieldLink RX6 26 "MonotoneSpline" "knots" "LMonotoneSpline$Knots;") (List.mem_of_getElem? (l := wsX6_digest) (i := 4) rfl)) (fun _ h9 => h9) rfl dX6_digest_25 ?_
  refine va_getN (D := D) (ci := 1) (v := .int (nI kn)) (C := RX1) (T := TX1) (N := 4) hx hb hts iw_X6_digest_X1 hown hC.1 hP 2 rfl rfl 3 (by decide) (va_Nw.use (w := .fieldLinkNest "MonotoneSpline" 136 "MonotoneSpline$Knots" "count" "I" "MonotoneSpline") rfl (hC.2.1 _ (List.mem_of_getElem? (l := my_nest) (i := 11) rfl))) (fun _ h9 => h9) rfl dX6_digest_28 ?_
  refine lv_i2l (v := (nI kn : Int32).toInt64) hx hb dX6_digest_31 rfl ?_
  refine lv_ladd hx hb dX6_digest_32 ?_
  refine lv_lstore_n (lv' := [(1, .long ((((59 * 31) + ((nI n : Int32).toInt64)) * 31) + ((nI kn : Int32).toInt64))), (0, .ref (ad 0))]) hx hb dX6_digest_33 rfl hl (by decide) rfl (fun ls hl => ?_)
  refine lv_iconst (v := 0) hx hb dX6_digest_34 (by decide) ?_
  refine lv_istore_n (lv' := [(3, .int 0), (1, .long ((((59 * 31) + ((nI n : Int32).toInt64)) * 31) + ((nI kn : Int32).toInt64))), (0, .ref (ad 0))]) hx hb dX6_digest_35 rfl hl (by decide) rfl (fun ls hl => ?_)
  have loop_36 : ∀ (n9 : Nat) (k : Nat) (d9 : Int64), kn - k < n9 → ∀ (hk : k ≤ kn) (hd9 : d9 = s_dgl P V F kn ((59 * 31 + (nI n).toInt64) * 31 + (nI kn).toInt64) k) (ls : Array Slot) (hl : lv_has ls 4 [(3, .int (nI k)), (1, .long d9), (0, .ref (ad 0))]), W p l e ({ frames := 4, cells := 0, slots := 0, locals := 100 }) s m ([.ref (ad 0)] : List Value).toArray below meth c s.heap [] 0 0 (my_RQ below ([.ref (ad 0)] : List Value).toArray s (some (.long (s_dg n kn P V F k1 k2)))) (F0 m 36 ls []) := by
    intro n9
    induction n9 with
    | zero => intro k d9 h9; exact absurd h9 (Nat.not_lt_zero _)
    | succ n9 ih_36 =>
      intro k d9 h9 hk hd9 ls hl
      refine lv_iload_n hx hb dX6_digest_36 rfl (lv_at hl 0 rfl) ?_
      refine lv_aload_n hx hb dX6_digest_37 rfl (lv_at hl 2 rfl) ?_
      refine va_get (D := D) (ci := 6) (v := .ref (ad 14)) (C := RX6) (T := TX6) (N := 6) hx hb hts iw_X6_digest_X6 hown hC.1 hP 0 rfl rfl 2 (by decide) (hts (.fieldLink RX6 26 "MonotoneSpline" "knots" "LMonotoneSpline$Knots;") (List.mem_of_getElem? (l := wsX6_digest) (i := 4) rfl)) (fun _ h9 => h9) rfl dX6_digest_38 ?_
      refine va_getN (D := D) (ci := 1) (v := .int (nI kn)) (C := RX1) (T := TX1) (N := 4) hx hb hts iw_X6_digest_X1 hown hC.1 hP 2 rfl rfl 3 (by decide) (va_Nw.use (w := .fieldLinkNest "MonotoneSpline" 136 "MonotoneSpline$Knots" "count" "I" "MonotoneSpline") rfl (hC.2.1 _ (List.mem_of_getElem? (l := my_nest) (i := 11) rfl))) (fun _ h9 => h9) rfl dX6_digest_41 ?_
      refine lv_icmp_ge (tgt := 136) hx hb dX6_digest_44 (by decide) (fun c_44 => ?_) (fun c_44 => ?_)
      · have c_44 : kn ≤ k := (nI_leI (a := kn) (b := k) (by omega) (by omega)).mp c_44
        refine lv_lload_n hx hb dX6_digest_136 rfl (lv_at hl 1 rfl) ?_
        refine lv_ldc2 hx hb hown (hts (.constantLong RX6 251 (31)) (List.mem_of_getElem? (l := wsX6_digest) (i := 2) rfl)) dX6_digest_137 ?_
        refine lv_lmul hx hb dX6_digest_140 ?_
        refine lv_aload_n hx hb dX6_digest_141 rfl (lv_at hl 2 rfl) ?_
        refine va_get (D := D) (ci := 6) (v := .ref (ad 22)) (C := RX6) (T := TX6) (N := 6) hx hb hts iw_X6_digest_X6 hown hC.1 hP 0 rfl rfl 4 (by decide) (hts (.fieldLink RX6 42 "MonotoneSpline" "leftTail" "LMonotoneSpline$Tail;") (List.mem_of_getElem? (l := wsX6_digest) (i := 5) rfl)) (fun _ h9 => h9) rfl dX6_digest_142 ?_
        refine va_getN (D := D) (ci := 5) (v := .int (nI k1)) (C := RX5) (T := TX5) (N := 3) hx hb hts iw_X6_digest_X5 hown hC.1 hP 9 rfl rfl 1 (by decide) (va_Nw.use (w := .fieldLinkNest "MonotoneSpline" 237 "MonotoneSpline$Tail" "kind" "I" "MonotoneSpline") rfl (hC.2.1 _ (List.mem_of_getElem? (l := my_nest) (i := 13) rfl))) (fun _ h9 => h9) rfl dX6_digest_145 ?_
        refine lv_i2l (v := (nI k1 : Int32).toInt64) hx hb dX6_digest_148 rfl ?_
        refine lv_ladd hx hb dX6_digest_149 ?_
        refine lv_lstore_n (lv' := [(1, .long ((d9 * 31) + ((nI k1 : Int32).toInt64))), (3, .int (nI k)), (0, .ref (ad 0))]) hx hb dX6_digest_150 rfl hl (by decide) rfl (fun ls hl => ?_)
        refine lv_lload_n hx hb dX6_digest_151 rfl (lv_at hl 0 rfl) ?_
        refine lv_ldc2 hx hb hown (hts (.constantLong RX6 251 (31)) (List.mem_of_getElem? (l := wsX6_digest) (i := 2) rfl)) dX6_digest_152 ?_
        refine lv_lmul hx hb dX6_digest_155 ?_
        refine lv_aload_n hx hb dX6_digest_156 rfl (lv_at hl 2 rfl) ?_
        refine va_get (D := D) (ci := 6) (v := .ref (ad 23)) (C := RX6) (T := TX6) (N := 6) hx hb hts iw_X6_digest_X6 hown hC.1 hP 0 rfl rfl 5 (by decide) (hts (.fieldLink RX6 46 "MonotoneSpline" "rightTail" "LMonotoneSpline$Tail;") (List.mem_of_getElem? (l := wsX6_digest) (i := 6) rfl)) (fun _ h9 => h9) rfl dX6_digest_157 ?_
        refine va_getN (D := D) (ci := 5) (v := .int (nI k2)) (C := RX5) (T := TX5) (N := 3) hx hb hts iw_X6_digest_X5 hown hC.1 hP 10 rfl rfl 1 (by decide) (va_Nw.use (w := .fieldLinkNest "MonotoneSpline" 237 "MonotoneSpline$Tail" "kind" "I" "MonotoneSpline") rfl (hC.2.1 _ (List.mem_of_getElem? (l := my_nest) (i := 13) rfl))) (fun _ h9 => h9) rfl dX6_digest_160 ?_
        refine lv_i2l (v := (nI k2 : Int32).toInt64) hx hb dX6_digest_163 rfl ?_
        refine lv_ladd hx hb dX6_digest_164 ?_
        refine lv_lstore_n (lv' := [(1, .long ((((d9 * 31) + ((nI k1 : Int32).toInt64)) * 31) + ((nI k2 : Int32).toInt64))), (3, .int (nI k)), (0, .ref (ad 0))]) hx hb dX6_digest_165 rfl hl (by decide) rfl (fun ls hl => ?_)
        refine lv_lload_n hx hb dX6_digest_166 rfl (lv_at hl 0 rfl) ?_
        exact my_lretR hx hb hr hlocks (by rw [hd9, show k = kn by omega]; rfl) dX6_digest_167
      · have c_44 : ¬ kn ≤ k := fun h9 => c_44 ((nI_leI (a := kn) (b := k) (by omega) (by omega)).mpr h9)
        have hI := hK.resolve_left (by omega)
        have hJ := hI.1
        have hk9 : k < kn := by omega
        refine lv_lload_n hx hb dX6_digest_47 rfl (lv_at hl 1 rfl) ?_
        refine lv_ldc2 hx hb hown (hts (.constantLong RX6 251 (31)) (List.mem_of_getElem? (l := wsX6_digest) (i := 2) rfl)) dX6_digest_48 ?_
        refine lv_lmul hx hb dX6_digest_51 ?_
        refine lv_aload_n hx hb dX6_digest_52 rfl (lv_at hl 2 rfl) ?_
        refine va_get (D := D) (ci := 6) (v := .ref (ad 14)) (C := RX6) (T := TX6) (N := 6) hx hb hts iw_X6_digest_X6 hown hC.1 hP 0 rfl rfl 2 (by decide) (hts (.fieldLink RX6 26 "MonotoneSpline" "knots" "LMonotoneSpline$Knots;") (List.mem_of_getElem? (l := wsX6_digest) (i := 4) rfl)) (fun _ h9 => h9) rfl dX6_digest_53 ?_
        refine va_getN (D := D) (ci := 1) (v := .ref (ad 15)) (C := RX1) (T := TX1) (N := 4) hx hb hts iw_X6_digest_X1 hown hC.1 hP 2 rfl rfl 0 (by decide) (va_Nw.use (w := .fieldLinkNest "MonotoneSpline" 146 "MonotoneSpline$Knots" "places" "LMonotoneSpline$Row;" "MonotoneSpline") rfl (hC.2.1 _ (List.mem_of_getElem? (l := my_nest) (i := 8) rfl))) (fun _ h9 => h9) rfl dX6_digest_56 ?_
        refine lv_iload_n hx hb dX6_digest_59 rfl (lv_at hl 0 rfl) ?_
        refine my_goR (v := (some (.double (P k)))) (my_runV (bytes := cX4_get) (maxL := 2) (ret := (some .double)) (n := 1) (As := [.int (nI k)]) (rest := [.long (d9 * 31)]) S hl.1 (kk_X4_get l D kd ki kz kl z (ad 15) (ad 16) 60 P k (by omega) (by omega)) rfl ⟨rfl, rfl⟩ gX6_digest_X4_get (by decide +kernel) rfl ⟨Nat.le_of_ble_eq_true rfl, Nat.le_of_ble_eq_true rfl⟩ (my_preR hC (my_P_sub (wc := [(ad 15, .inr (4, [.ref (ad 16)])), (ad 16, .inl (kd, 60, .inr (.inr (.inr (.inl P)))))]) hP [3, 4] rfl)) (va_recv hC.1 hP (ci := 4) (q0 := 3) rfl rfl) rfl rfl dX6_digest_60) ?_
        refine W.eq (g2 := F0 m 63 ls [.double (P k), .long (d9 * 31)]) rfl ?_
        refine my_goR (v := (some (.long (UInt64.toInt64 (P k))))) (my_runS (bytes := cX6_bitsOf) (maxL := 7) (ret := (some .long)) (n := 1) (As := [.double (P k)]) (rest := [.long (d9 * 31)]) S hl.1 (kk_X6_bitsOf l D kd ki kz kl z (P k) (fx_B_mono (kJ_P hJ hk9) (by omega)) (kJ_Pm hJ hk9)) rfl ⟨rfl, rfl⟩ gX6_digest_X6_bitsOf (by decide +kernel) rfl ⟨Nat.le_of_ble_eq_true rfl, Nat.le_of_ble_eq_true rfl⟩ (my_preR hC (my_P_sub (wc := []) hP [] rfl)) rfl rfl dX6_digest_63) ?_
        refine W.eq (g2 := F0 m 66 ls [.long (UInt64.toInt64 (P k)), .long (d9 * 31)]) rfl ?_
        refine lv_ladd hx hb dX6_digest_66 ?_
        refine lv_lstore_n (lv' := [(1, .long ((d9 * 31) + (UInt64.toInt64 (P k)))), (3, .int (nI k)), (0, .ref (ad 0))]) hx hb dX6_digest_67 rfl hl (by decide) rfl (fun ls hl => ?_)
        refine lv_lload_n hx hb dX6_digest_68 rfl (lv_at hl 0 rfl) ?_
        refine lv_ldc2 hx hb hown (hts (.constantLong RX6 251 (31)) (List.mem_of_getElem? (l := wsX6_digest) (i := 2) rfl)) dX6_digest_69 ?_
        refine lv_lmul hx hb dX6_digest_72 ?_
        refine lv_aload_n hx hb dX6_digest_73 rfl (lv_at hl 2 rfl) ?_
        refine va_get (D := D) (ci := 6) (v := .ref (ad 14)) (C := RX6) (T := TX6) (N := 6) hx hb hts iw_X6_digest_X6 hown hC.1 hP 0 rfl rfl 2 (by decide) (hts (.fieldLink RX6 26 "MonotoneSpline" "knots" "LMonotoneSpline$Knots;") (List.mem_of_getElem? (l := wsX6_digest) (i := 4) rfl)) (fun _ h9 => h9) rfl dX6_digest_74 ?_
        refine va_getN (D := D) (ci := 1) (v := .ref (ad 17)) (C := RX1) (T := TX1) (N := 4) hx hb hts iw_X6_digest_X1 hown hC.1 hP 2 rfl rfl 1 (by decide) (va_Nw.use (w := .fieldLinkNest "MonotoneSpline" 147 "MonotoneSpline$Knots" "heights" "LMonotoneSpline$Row;" "MonotoneSpline") rfl (hC.2.1 _ (List.mem_of_getElem? (l := my_nest) (i := 9) rfl))) (fun _ h9 => h9) rfl dX6_digest_77 ?_
        refine lv_iload_n hx hb dX6_digest_80 rfl (lv_at hl 1 rfl) ?_
        refine my_goR (v := (some (.double (V k)))) (my_runV (bytes := cX4_get) (maxL := 2) (ret := (some .double)) (n := 1) (As := [.int (nI k)]) (rest := [.long (((d9 * 31) + (UInt64.toInt64 (P k))) * 31)]) S hl.1 (kk_X4_get l D kd ki kz kl z (ad 17) (ad 18) 60 V k (by omega) (by omega)) rfl ⟨rfl, rfl⟩ gX6_digest_X4_get (by decide +kernel) rfl ⟨Nat.le_of_ble_eq_true rfl, Nat.le_of_ble_eq_true rfl⟩ (my_preR hC (my_P_sub (wc := [(ad 17, .inr (4, [.ref (ad 18)])), (ad 18, .inl (kd, 60, .inr (.inr (.inr (.inl V)))))]) hP [5, 6] rfl)) (va_recv hC.1 hP (ci := 4) (q0 := 5) rfl rfl) rfl rfl dX6_digest_81) ?_
        refine W.eq (g2 := F0 m 84 ls [.double (V k), .long (((d9 * 31) + (UInt64.toInt64 (P k))) * 31)]) rfl ?_
        refine my_goR (v := (some (.long (UInt64.toInt64 (V k))))) (my_runS (bytes := cX6_bitsOf) (maxL := 7) (ret := (some .long)) (n := 1) (As := [.double (V k)]) (rest := [.long (((d9 * 31) + (UInt64.toInt64 (P k))) * 31)]) S hl.1 (kk_X6_bitsOf l D kd ki kz kl z (V k) (fx_B_mono (hJ.2.2.2.1 k hk9).1 (by omega)) ((hJ.2.2.2.1 k hk9).2)) rfl ⟨rfl, rfl⟩ gX6_digest_X6_bitsOf (by decide +kernel) rfl ⟨Nat.le_of_ble_eq_true rfl, Nat.le_of_ble_eq_true rfl⟩ (my_preR hC (my_P_sub (wc := []) hP [] rfl)) rfl rfl dX6_digest_84) ?_
        refine W.eq (g2 := F0 m 87 ls [.long (UInt64.toInt64 (V k)), .long (((d9 * 31) + (UInt64.toInt64 (P k))) * 31)]) rfl ?_
        refine lv_ladd hx hb dX6_digest_87 ?_
        refine lv_lstore_n (lv' := [(1, .long ((((d9 * 31) + (UInt64.toInt64 (P k))) * 31) + (UInt64.toInt64 (V k)))), (3, .int (nI k)), (0, .ref (ad 0))]) hx hb dX6_digest_88 rfl hl (by decide) rfl (fun ls hl => ?_)
        refine lv_lload_n hx hb dX6_digest_89 rfl (lv_at hl 0 rfl) ?_
        refine lv_ldc2 hx hb hown (hts (.constantLong RX6 251 (31)) (List.mem_of_getElem? (l := wsX6_digest) (i := 2) rfl)) dX6_digest_90 ?_
        refine lv_lmul hx hb dX6_digest_93 ?_
        refine lv_aload_n hx hb dX6_digest_94 rfl (lv_at hl 2 rfl) ?_
        refine va_get (D := D) (ci := 6) (v := .ref (ad 14)) (C := RX6) (T := TX6) (N := 6) hx hb hts iw_X6_digest_X6 hown hC.1 hP 0 rfl rfl 2 (by decide) (hts (.fieldLink RX6 26 "MonotoneSpline" "knots" "LMonotoneSpline$Knots;") (List.mem_of_getElem? (l := wsX6_digest) (i := 4) rfl)) (fun _ h9 => h9) rfl dX6_digest_95 ?_
        refine lv_iload_n hx hb dX6_digest_98 rfl (lv_at hl 1 rfl) ?_
        refine my_goR (v := (some (.double (s_s P V F kn k)))) (my_runV (bytes := cX1_slopeOf) (maxL := 10) (ret := (some .double)) (n := 1) (As := [.int (nI k)]) (rest := [.long (((((d9 * 31) + (UInt64.toInt64 (P k))) * 31) + (UInt64.toInt64 (V k))) * 31)]) S hl.1 (kk_X1_slopeOf l D kd ki kz kl z ad kn P V F k (hI) (by omega)) rfl ⟨rfl, rfl⟩ gX6_digest_X1_slopeOf (by decide +kernel) rfl ⟨Nat.le_of_ble_eq_true rfl, Nat.le_of_ble_eq_true rfl⟩ (my_preR hC (my_P_sub (wc := [(ad 14, .inr (1, [.ref (ad 15), .ref (ad 17), .ref (ad 19), .int (nI kn)])), (ad 15, .inr (4, [.ref (ad 16)])), (ad 16, .inl (kd, 60, .inr (.inr (.inr (.inl P))))), (ad 17, .inr (4, [.ref (ad 18)])), (ad 18, .inl (kd, 60, .inr (.inr (.inr (.inl V))))), (ad 19, .inr (4, [.ref (ad 20)])), (ad 20, .inl (kd, 60, .inr (.inr (.inr (.inl F)))))]) hP [2, 3, 4, 5, 6, 7, 8] rfl)) (va_recv hC.1 hP (ci := 1) (q0 := 2) rfl rfl) rfl rfl dX6_digest_99) ?_
        refine W.eq (g2 := F0 m 102 ls [.double (s_s P V F kn k), .long (((((d9 * 31) + (UInt64.toInt64 (P k))) * 31) + (UInt64.toInt64 (V k))) * 31)]) rfl ?_
        refine my_goR (v := (some (.long (UInt64.toInt64 (s_s P V F kn k))))) (my_runS (bytes := cX6_bitsOf) (maxL := 7) (ret := (some .long)) (n := 1) (As := [.double (s_s P V F kn k)]) (rest := [.long (((((d9 * 31) + (UInt64.toInt64 (P k))) * 31) + (UInt64.toInt64 (V k))) * 31)]) S hl.1 (kk_X6_bitsOf l D kd ki kz kl z (s_s P V F kn k) (fx_B_mono (kI_s hI hk9).1 (by omega)) (fx_p_m (kI_s hI hk9).2.1)) rfl ⟨rfl, rfl⟩ gX6_digest_X6_bitsOf (by decide +kernel) rfl ⟨Nat.le_of_ble_eq_true rfl, Nat.le_of_ble_eq_true rfl⟩ (my_preR hC (my_P_sub (wc := []) hP [] rfl)) rfl rfl dX6_digest_102) ?_
        refine W.eq (g2 := F0 m 105 ls [.long (UInt64.toInt64 (s_s P V F kn k)), .long (((((d9 * 31) + (UInt64.toInt64 (P k))) * 31) + (UInt64.toInt64 (V k))) * 31)]) rfl ?_
        refine lv_ladd hx hb dX6_digest_105 ?_
        refine lv_lstore_n (lv' := [(1, .long ((((((d9 * 31) + (UInt64.toInt64 (P k))) * 31) + (UInt64.toInt64 (V k))) * 31) + (UInt64.toInt64 (s_s P V F kn k)))), (3, .int (nI k)), (0, .ref (ad 0))]) hx hb dX6_digest_106 rfl hl (by decide) rfl (fun ls hl => ?_)
        refine lv_lload_n hx hb dX6_digest_107 rfl (lv_at hl 0 rfl) ?_
        refine lv_ldc2 hx hb hown (hts (.constantLong RX6 251 (31)) (List.mem_of_getElem? (l := wsX6_digest) (i := 2) rfl)) dX6_digest_108 ?_
        refine lv_lmul hx hb dX6_digest_111 ?_
        refine lv_aload_n hx hb dX6_digest_112 rfl (lv_at hl 2 rfl) ?_
        refine va_get (D := D) (ci := 6) (v := .ref (ad 14)) (C := RX6) (T := TX6) (N := 6) hx hb hts iw_X6_digest_X6 hown hC.1 hP 0 rfl rfl 2 (by decide) (hts (.fieldLink RX6 26 "MonotoneSpline" "knots" "LMonotoneSpline$Knots;") (List.mem_of_getElem? (l := wsX6_digest) (i := 4) rfl)) (fun _ h9 => h9) rfl dX6_digest_113 ?_
        refine lv_iload_n hx hb dX6_digest_116 rfl (lv_at hl 1 rfl) ?_
        refine my_goR (v := (some (.int (if F k = 13830554455654793216 then 0 else 1)))) (my_runV (bytes := cX1_hasFixedSlope) (maxL := 2) (ret := (some .boolean)) (n := 1) (As := [.int (nI k)]) (rest := [.long (((((((d9 * 31) + (UInt64.toInt64 (P k))) * 31) + (UInt64.toInt64 (V k))) * 31) + (UInt64.toInt64 (s_s P V F kn k))) * 31)]) S hl.1 (kk_X1_hasFixedSlope l D kd ki kz kl z ad kn F k (by omega) (hI.2 k hk9)) rfl ⟨rfl, rfl⟩ gX6_digest_X1_hasFixedSlope (by decide +kernel) rfl ⟨Nat.le_of_ble_eq_true rfl, Nat.le_of_ble_eq_true rfl⟩ (my_preR hC (my_P_sub (wc := [(ad 14, .inr (1, [.ref (ad 15), .ref (ad 17), .ref (ad 19), .int (nI kn)])), (ad 19, .inr (4, [.ref (ad 20)])), (ad 20, .inl (kd, 60, .inr (.inr (.inr (.inl F)))))]) hP [2, 7, 8] rfl)) (va_recv hC.1 hP (ci := 1) (q0 := 2) rfl rfl) rfl rfl dX6_digest_117) ?_
        refine W.eq (g2 := F0 m 120 ls [.int (if F k = 13830554455654793216 then 0 else 1), .long (((((((d9 * 31) + (UInt64.toInt64 (P k))) * 31) + (UInt64.toInt64 (V k))) * 31) + (UInt64.toInt64 (s_s P V F kn k))) * 31)]) rfl ?_
        by_cases h63 : F k = 13830554455654793216
        · rw [if_pos h63]
          refine lv_if_eq (tgt := 127) hx hb dX6_digest_120 (by decide) (fun c_120 => ?_) (fun c_120 => ?_)
          · skip
            refine lv_lconst (v := 0) hx hb dX6_digest_127 (by decide) ?_
            refine lv_ladd hx hb dX6_digest_128 ?_
            refine lv_lstore_n (lv' := [(1, .long ((((((((d9 * 31) + (UInt64.toInt64 (P k))) * 31) + (UInt64.toInt64 (V k))) * 31) + (UInt64.toInt64 (s_s P V F kn k))) * 31) + 0)), (3, .int (nI k)), (0, .ref (ad 0))]) hx hb dX6_digest_129 rfl hl (by decide) rfl (fun ls hl => ?_)
            refine lv_iinc (v := nI (k + 1)) (k := 1) (lv' := [(3, .int (nI (k + 1))), (1, .long ((((((((d9 * 31) + (UInt64.toInt64 (P k))) * 31) + (UInt64.toInt64 (V k))) * 31) + (UInt64.toInt64 (s_s P V F kn k))) * 31) + 0)), (0, .ref (ad 0))]) hx hb dX6_digest_130 hl rfl (nI_add k 1) (by decide) rfl (fun ls hl => ?_)
            refine lv_goto (tgt := 36) hx hb dX6_digest_133 (by decide) ?_
            exact ih_36 (k + 1) ((((((((d9 * 31) + (UInt64.toInt64 (P k))) * 31) + (UInt64.toInt64 (V k))) * 31) + (UInt64.toInt64 (s_s P V F kn k))) * 31) + 0) (by omega) (by omega) (by first | exact (by rw [s_dgl, ← hd9, s_dgk, if_pos h63]) | exact (by rw [s_dgl, ← hd9, s_dgk, if_neg h63])) _ (lv_sub hl [0, 1, 2] rfl)
          · skip
            first | exact absurd c_120 (by decide) | exact absurd (by decide) c_120
        · rw [if_neg h63]
          refine lv_if_eq (tgt := 127) hx hb dX6_digest_120 (by decide) (fun c_120 => ?_) (fun c_120 => ?_)
          · skip
            first | exact absurd c_120 (by decide) | exact absurd (by decide) c_120
          · skip
            refine lv_lconst (v := 1) hx hb dX6_digest_123 (by decide) ?_
            refine lv_goto (tgt := 128) hx hb dX6_digest_124 (by decide) ?_
            refine lv_ladd hx hb dX6_digest_128 ?_
            refine lv_lstore_n (lv' := [(1, .long ((((((((d9 * 31) + (UInt64.toInt64 (P k))) * 31) + (UInt64.toInt64 (V k))) * 31) + (UInt64.toInt64 (s_s P V F kn k))) * 31) + 1)), (3, .int (nI k)), (0, .ref (ad 0))]) hx hb dX6_digest_129 rfl hl (by decide) rfl (fun ls hl => ?_)
            refine lv_iinc (v := nI (k + 1)) (k := 1) (lv' := [(3, .int (nI (k + 1))), (1, .long ((((((((d9 * 31) + (UInt64.toInt64 (P k))) * 31) + (UInt64.toInt64 (V k))) * 31) + (UInt64.toInt64 (s_s P V F kn k))) * 31) + 1)), (0, .ref (ad 0))]) hx hb dX6_digest_130 hl rfl (nI_add k 1) (by decide) rfl (fun ls hl => ?_)
            refine lv_goto (tgt := 36) hx hb dX6_digest_133 (by decide) ?_
            exact ih_36 (k + 1) ((((((((d9 * 31) + (UInt64.toInt64 (P k))) * 31) + (UInt64.toInt64 (V k))) * 31) + (UInt64.toInt64 (s_s P V F kn k))) * 31) + 1) (by omega) (by omega) (by first | exact (by rw [s_dgl, ← hd9, s_dgk, if_pos h63]) | exact (by rw [s_dgl, ← hd9, s_dgk, if_neg h63])) _ (lv_sub hl [0, 1, 2] rfl)
  exact loop_36 _ 0 ((((59 * 31) + ((nI n : Int32).toInt64)) * 31) + ((nI kn : Int32).toInt64)) (Nat.lt_succ_self _) (by omega) (rfl) _ (lv_sub hl [0, 1, 2] rfl)

