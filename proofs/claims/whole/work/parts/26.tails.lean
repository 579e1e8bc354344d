theorem iw_X5_mirrored_X5 : ∀ w ∈ wsX50, w ∈ wsX5_mirrored := fun w h => List.mem_cons_of_mem _ (List.mem_append_right _ (h))
set_option maxHeartbeats 4000000 in
set_option maxRecDepth 100000 in
theorem kk_X5_mirrored (l : Launch) (D : va_G) (kd ki kz kl : ClassId) (z : Nat) (tq : Nat) (lf : Nat) (kd9 : Nat) (fa : UInt64) (x : UInt64) (hlf : lf ≤ 1) : my_RO l D kd ki kz kl z yX5_mirrored wsX5_mirrored ({ frames := 0, cells := 0, slots := 0, locals := 0 }) [.ref tq, .double x] [(tq, .inr (5, [.int (nI lf), .int (nI kd9), .double fa]))] (some (.double (s_mir lf x))) := by
  refine my_RO_of (cc := cX5_mirrored) (maxL := 3) (ret := (some .double)) (by decide) rfl (Nat.le_of_ble_eq_true rfl) ?_
  intro p e s m below meth c S hr hlocks hC hP ls hl
  have S : CallFix p m c cX5_mirrored 3 s ([.ref tq, .double x] : List Value).toArray wsX5_mirrored RX5 := S
  obtain ⟨hx, hb, hml, hown, hts⟩ := id S
  have hl : lv_has ls 3 [(0, .ref tq), (1, .double x)] := hl
  refine lv_aload_n hx hb dX5_mirrored_0 rfl (lv_at hl 0 rfl) ?_
  refine va_get (D := D) (ci := 5) (v := .int (nI lf)) (C := RX5) (T := TX5) (N := 3) hx hb hts iw_X5_mirrored_X5 hown hC.1 hP 0 rfl rfl 0 (by decide) (hts (.fieldLink RX5 9 "MonotoneSpline$Tail" "isLeft" "Z") (List.mem_of_getElem? (l := wsX5_mirrored) (i := 1) rfl)) (fun _ h9 => h9) rfl dX5_mirrored_1 ?_
  refine lv_if_eq (tgt := 12) hx hb dX5_mirrored_4 (by decide) (fun c_4 => ?_) (fun c_4 => ?_)
  · have c_4 : lf = 0 := (nI_eq (a := lf) (b := 0) (by omega) (by omega)).mp c_4
    refine lv_dload_n hx hb dX5_mirrored_12 rfl (lv_at hl 1 rfl) ?_
    exact my_dretR hx hb hr hlocks ((if_pos c_4).symm) dX5_mirrored_13
  · have c_4 : ¬ lf = 0 := fun h9 => c_4 ((nI_eq (a := lf) (b := 0) (by omega) (by omega)).mpr h9)
    refine lv_dload_n hx hb dX5_mirrored_7 rfl (lv_at hl 1 rfl) ?_
    refine lv_dneg hx hb dX5_mirrored_8 ?_
    refine lv_goto (tgt := 13) hx hb dX5_mirrored_9 (by decide) ?_
    exact my_dretR hx hb hr hlocks ((if_neg c_4).symm) dX5_mirrored_13

set_option maxHeartbeats 4000000 in
set_option maxRecDepth 100000 in
theorem kk_X5_endless (l : Launch) (D : va_G) (kd ki kz kl : ClassId) (z : Nat) (b : Nat) (hb9 : b ≤ 1) : my_RO l D kd ki kz kl z yX5_endless wsX5_endless ({ frames := 0, cells := 0, slots := 0, locals := 0 }) [.int (nI b)] [] (some (.double (if b = 0 then 18442240474082181120 else 9218868437227405312))) := by
  refine my_RO_of (cc := cX5_endless) (maxL := 3) (ret := (some .double)) (by decide) rfl (Nat.le_of_ble_eq_true rfl) ?_
  intro p e s m below meth c S hr hlocks hC hP ls hl
  have S : CallFix p m c cX5_endless 3 s ([.int (nI b)] : List Value).toArray wsX5_endless RX5 := S
  obtain ⟨hx, hb, hml, hown, hts⟩ := id S
  have hl : lv_has ls 3 [(0, .int (nI b))] := hl
  refine lv_ldc2d hx hb hown (hts (.constantDouble RX5 35 (9218868437227405312)) (List.mem_of_getElem? (l := wsX5_endless) (i := 1) rfl)) dX5_endless_0 ?_
  refine lv_dstore_n (lv' := [(1, .double 9218868437227405312), (0, .int (nI b))]) hx hb dX5_endless_3 rfl hl (by decide) rfl (fun ls hl => ?_)
  refine lv_iload_n hx hb dX5_endless_4 rfl (lv_at hl 1 rfl) ?_
  refine lv_if_eq (tgt := 12) hx hb dX5_endless_5 (by decide) (fun c_5 => ?_) (fun c_5 => ?_)
  · have c_5 : b = 0 := (nI_eq (a := b) (b := 0) (by omega) (by omega)).mp c_5
    refine lv_dload_n hx hb dX5_endless_12 rfl (lv_at hl 0 rfl) ?_
    refine lv_dneg hx hb dX5_endless_13 ?_
    exact my_dretR hx hb hr hlocks ((show FP.dneg 9218868437227405312 = _ by rw [if_pos c_5]; decide)) dX5_endless_14
  · have c_5 : ¬ b = 0 := fun h9 => c_5 ((nI_eq (a := b) (b := 0) (by omega) (by omega)).mpr h9)
    refine lv_dload_n hx hb dX5_endless_8 rfl (lv_at hl 0 rfl) ?_
    refine lv_goto (tgt := 14) hx hb dX5_endless_9 (by decide) ?_
    exact my_dretR hx hb hr hlocks ((if_neg c_5).symm) dX5_endless_14

theorem s_pos_of {a : UInt64} (h : PY a) (hz : ¬ sp_eq a 0) (hl : ¬ sp_lt a 0) : sp_gt a 0 := by
  have hn := fx_B_n (PY_B h) (by omega)
  have h1 := fx_eq hn fx_n0
  have h2 := fx_lt hn fx_n0
  have h3 := fx_gt hn fx_n0
  unfold sp_eq at hz; unfold sp_lt at hl; unfold sp_gt
  rw [h1] at hz; rw [h2] at hl; rw [h3]; omega
theorem s_neg_of {a : UInt64} (h : PY a) (hl : sp_lt a 0) : ¬ sp_gt a 0 := by
  have hn := fx_B_n (PY_B h) (by omega)
  have h2 := fx_lt hn fx_n0
  have h3 := fx_gt hn fx_n0
  unfold sp_lt at hl; unfold sp_gt
  rw [h2] at hl; rw [h3]; omega
theorem iw_X5_limitFrom_X5 : ∀ w ∈ wsX50, w ∈ wsX5_limitFrom := fun w h => List.mem_cons_of_mem _ (List.mem_append_right _ (h))
set_option maxHeartbeats 4000000 in
set_option maxRecDepth 100000 in
theorem kk_X5_limitFrom (l : Launch) (D : va_G) (kd ki kz kl : ClassId) (z : Nat) (tq : Nat) (lf : Nat) (kd9 : Nat) (fa : UInt64) (y : UInt64) (hlf : lf ≤ 1) (hkd : kd9 ≤ 6) (hfa : PY fa) (hfz : 4 ≤ kd9 → ¬ sp_eq fa 0) (hy9 : fx_B 1063 y) : my_RO l D kd ki kz kl z yX5_limitFrom wsX5_limitFrom ({ frames := 1, cells := 0, slots := 0, locals := 22 }) [.ref tq, .double y] [(tq, .inr (5, [.int (nI lf), .int (nI kd9), .double fa]))] (some (.double (s_lim lf kd9 fa y))) := by
  refine my_RO_of (cc := cX5_limitFrom) (maxL := 3) (ret := (some .double)) (by decide) rfl (Nat.le_of_ble_eq_true rfl) ?_
  intro p e s m below meth c S hr hlocks hC hP ls hl
  have S : CallFix p m c cX5_limitFrom 3 s ([.ref tq, .double y] : List Value).toArray wsX5_limitFrom RX5 := S
  obtain ⟨hx, hb, hml, hown, hts⟩ := id S
  have hl : lv_has ls 3 [(0, .ref tq), (1, .double y)] := hl
  refine lv_aload_n hx hb dX5_limitFrom_0 rfl (lv_at hl 0 rfl) ?_
  refine va_get (D := D) (ci := 5) (v := .int (nI kd9)) (C := RX5) (T := TX5) (N := 3) hx hb hts iw_X5_limitFrom_X5 hown hC.1 hP 0 rfl rfl 1 (by decide) (hts (.fieldLink RX5 15 "MonotoneSpline$Tail" "kind" "I") (List.mem_of_getElem? (l := wsX5_limitFrom) (i := 1) rfl)) (fun _ h9 => h9) rfl dX5_limitFrom_1 ?_
  by_cases sw_4_1 : kd9 = 1
  · refine my_topi (w := 1) (by rw [sw_4_1]; rfl) ?_
    refine lv_tableIn (off := 40) (tgt := 44) hx hb dX5_limitFrom_4 (by decide) (by decide) (by decide) (by decide) ?_
    refine lv_dload_n hx hb dX5_limitFrom_44 rfl (lv_at hl 1 rfl) ?_
    refine lv_aload_n hx hb dX5_limitFrom_45 rfl (lv_at hl 0 rfl) ?_
    refine va_get (D := D) (ci := 5) (v := .double fa) (C := RX5) (T := TX5) (N := 3) hx hb hts iw_X5_limitFrom_X5 hown hC.1 hP 0 rfl rfl 2 (by decide) (hts (.fieldLink RX5 19 "MonotoneSpline$Tail" "factor" "D") (List.mem_of_getElem? (l := wsX5_limitFrom) (i := 2) rfl)) (fun _ h9 => h9) rfl dX5_limitFrom_46 ?_
    refine lv_aload_n hx hb dX5_limitFrom_49 rfl (lv_at hl 0 rfl) ?_
    refine lv_ldc2d hx hb hown (hts (.constantDouble RX5 23 (4609753056924675352)) (List.mem_of_getElem? (l := wsX5_limitFrom) (i := 3) rfl)) dX5_limitFrom_50 ?_
    refine my_goR (v := (some (.double (s_mir lf 4609753056924675352)))) (my_runV (bytes := cX5_mirrored) (maxL := 3) (ret := (some .double)) (n := 1) (As := [.double 4609753056924675352]) (rest := [.double fa, .double y]) S hl.1 (kk_X5_mirrored l D kd ki kz kl z tq lf kd9 fa 4609753056924675352 (by omega)) rfl ⟨rfl, rfl⟩ gX5_limitFrom_X5_mirrored (by decide +kernel) rfl ⟨Nat.le_of_ble_eq_true rfl, Nat.le_of_ble_eq_true rfl⟩ (my_preR hC (my_P_sub (wc := [(tq, .inr (5, [.int (nI lf), .int (nI kd9), .double fa]))]) hP [0] rfl)) (va_recv hC.1 hP (ci := 5) (q0 := 0) rfl rfl) rfl rfl dX5_limitFrom_53) ?_
    refine W.eq (g2 := F0 m 56 ls [.double (s_mir lf 4609753056924675352), .double fa, .double y]) rfl ?_
    refine lv_dmul hx hb dX5_limitFrom_56 (fx_n64 ((s_lim_n (c := 4609753056924675352) (lf := lf) hfa hy9 (Or.inl rfl)).1.1)) ?_
    refine lv_dadd hx hb dX5_limitFrom_57 (fx_n64 ((s_lim_n (c := 4609753056924675352) (lf := lf) hfa hy9 (Or.inl rfl)).1.2)) ?_
    exact my_dretR hx hb hr hlocks ((if_pos sw_4_1).symm) dX5_limitFrom_58
  by_cases sw_4_2 : kd9 = 2
  · refine my_topi (w := 2) (by rw [sw_4_2]; rfl) ?_
    refine lv_tableIn (off := 55) (tgt := 59) hx hb dX5_limitFrom_4 (by decide) (by decide) (by decide) (by decide) ?_
    refine lv_dload_n hx hb dX5_limitFrom_59 rfl (lv_at hl 1 rfl) ?_
    refine lv_aload_n hx hb dX5_limitFrom_60 rfl (lv_at hl 0 rfl) ?_
    refine va_get (D := D) (ci := 5) (v := .double fa) (C := RX5) (T := TX5) (N := 3) hx hb hts iw_X5_limitFrom_X5 hown hC.1 hP 0 rfl rfl 2 (by decide) (hts (.fieldLink RX5 19 "MonotoneSpline$Tail" "factor" "D") (List.mem_of_getElem? (l := wsX5_limitFrom) (i := 2) rfl)) (fun _ h9 => h9) rfl dX5_limitFrom_61 ?_
    refine lv_aload_n hx hb dX5_limitFrom_64 rfl (lv_at hl 0 rfl) ?_
    refine lv_dconst1 hx hb dX5_limitFrom_65 ?_
    refine my_topd (w := 4607182418800017408) (by decide) ?_
    refine my_goR (v := (some (.double (s_mir lf 4607182418800017408)))) (my_runV (bytes := cX5_mirrored) (maxL := 3) (ret := (some .double)) (n := 1) (As := [.double 4607182418800017408]) (rest := [.double fa, .double y]) S hl.1 (kk_X5_mirrored l D kd ki kz kl z tq lf kd9 fa 4607182418800017408 (by omega)) rfl ⟨rfl, rfl⟩ gX5_limitFrom_X5_mirrored (by decide +kernel) rfl ⟨Nat.le_of_ble_eq_true rfl, Nat.le_of_ble_eq_true rfl⟩ (my_preR hC (my_P_sub (wc := [(tq, .inr (5, [.int (nI lf), .int (nI kd9), .double fa]))]) hP [0] rfl)) (va_recv hC.1 hP (ci := 5) (q0 := 0) rfl rfl) rfl rfl dX5_limitFrom_66) ?_
    refine W.eq (g2 := F0 m 69 ls [.double (s_mir lf 4607182418800017408), .double fa, .double y]) rfl ?_
    refine lv_dmul hx hb dX5_limitFrom_69 (fx_n64 ((s_lim_n (c := 4607182418800017408) (lf := lf) hfa hy9 (Or.inr (Or.inl rfl))).1.1)) ?_
    refine lv_dadd hx hb dX5_limitFrom_70 (fx_n64 ((s_lim_n (c := 4607182418800017408) (lf := lf) hfa hy9 (Or.inr (Or.inl rfl))).1.2)) ?_
    exact my_dretR hx hb hr hlocks (by unfold s_lim; rw [if_neg sw_4_1, if_pos sw_4_2]) dX5_limitFrom_71
  by_cases sw_4_3 : kd9 = 3
  · refine my_topi (w := 3) (by rw [sw_4_3]; rfl) ?_
    refine lv_tableIn (off := 68) (tgt := 72) hx hb dX5_limitFrom_4 (by decide) (by decide) (by decide) (by decide) ?_
    refine lv_dload_n hx hb dX5_limitFrom_72 rfl (lv_at hl 1 rfl) ?_
    refine lv_aload_n hx hb dX5_limitFrom_73 rfl (lv_at hl 0 rfl) ?_
    refine va_get (D := D) (ci := 5) (v := .double fa) (C := RX5) (T := TX5) (N := 3) hx hb hts iw_X5_limitFrom_X5 hown hC.1 hP 0 rfl rfl 2 (by decide) (hts (.fieldLink RX5 19 "MonotoneSpline$Tail" "factor" "D") (List.mem_of_getElem? (l := wsX5_limitFrom) (i := 2) rfl)) (fun _ h9 => h9) rfl dX5_limitFrom_74 ?_
    refine lv_ldc2d hx hb hown (hts (.constantDouble RX5 29 (13830554455654793216)) (List.mem_of_getElem? (l := wsX5_limitFrom) (i := 4) rfl)) dX5_limitFrom_77 ?_
    refine lv_dmul hx hb dX5_limitFrom_80 (fx_n64 ((s_lim_n (c := 13830554455654793216) (lf := lf) hfa hy9 (Or.inr (Or.inr rfl))).2.1)) ?_
    refine lv_dadd hx hb dX5_limitFrom_81 (fx_n64 ((s_lim_n (c := 13830554455654793216) (lf := lf) hfa hy9 (Or.inr (Or.inr rfl))).2.2)) ?_
    exact my_dretR hx hb hr hlocks (by unfold s_lim; rw [if_neg sw_4_1, if_neg sw_4_2, if_pos sw_4_3]) dX5_limitFrom_82
  by_cases sw_4_4 : kd9 = 4
  · refine my_topi (w := 4) (by rw [sw_4_4]; rfl) ?_
    refine lv_tableIn (off := 79) (tgt := 83) hx hb dX5_limitFrom_4 (by decide) (by decide) (by decide) (by decide) ?_
    refine lv_aload_n hx hb dX5_limitFrom_83 rfl (lv_at hl 0 rfl) ?_
    refine va_get (D := D) (ci := 5) (v := .int (nI lf)) (C := RX5) (T := TX5) (N := 3) hx hb hts iw_X5_limitFrom_X5 hown hC.1 hP 0 rfl rfl 0 (by decide) (hts (.fieldLink RX5 9 "MonotoneSpline$Tail" "isLeft" "Z") (List.mem_of_getElem? (l := wsX5_limitFrom) (i := 5) rfl)) (fun _ h9 => h9) rfl dX5_limitFrom_84 ?_
    refine lv_if_eq (tgt := 107) hx hb dX5_limitFrom_87 (by decide) (fun c_87 => ?_) (fun c_87 => ?_)
    · have c_87 : lf = 0 := (nI_eq (a := lf) (b := 0) (by omega) (by omega)).mp c_87
      refine lv_aload_n hx hb dX5_limitFrom_107 rfl (lv_at hl 0 rfl) ?_
      refine va_get (D := D) (ci := 5) (v := .double fa) (C := RX5) (T := TX5) (N := 3) hx hb hts iw_X5_limitFrom_X5 hown hC.1 hP 0 rfl rfl 2 (by decide) (hts (.fieldLink RX5 19 "MonotoneSpline$Tail" "factor" "D") (List.mem_of_getElem? (l := wsX5_limitFrom) (i := 2) rfl)) (fun _ h9 => h9) rfl dX5_limitFrom_108 ?_
      refine lv_dconst0 hx hb dX5_limitFrom_111 ?_
      refine my_topd (w := 0) (by decide) ?_
      refine lv_dcmp hx hb dX5_limitFrom_112 ?_
      refine lv_if_le (tgt := 120) hx hb dX5_limitFrom_113 (by decide) (fun c_113 => ?_) (fun c_113 => ?_)
      · have c_113 := cv_l_le_t c_113
        refine lv_iconst (v := 0) hx hb dX5_limitFrom_120 (by decide) ?_
        refine my_goR (v := (some (.double (if 0 = 0 then 18442240474082181120 else 9218868437227405312)))) (my_runS (bytes := cX5_endless) (maxL := 3) (ret := (some .double)) (n := 1) (As := [.int 0]) (rest := []) S hl.1 (kk_X5_endless l D kd ki kz kl z 0 (by omega)) rfl ⟨rfl, rfl⟩ gX5_limitFrom_X5_endless (by decide +kernel) rfl ⟨Nat.le_of_ble_eq_true rfl, Nat.le_of_ble_eq_true rfl⟩ (my_preR hC (my_P_sub (wc := []) hP [] rfl)) rfl rfl dX5_limitFrom_121) ?_
        refine W.eq (g2 := F0 m 124 ls [.double (if 0 = 0 then 18442240474082181120 else 9218868437227405312)]) rfl ?_
        exact my_dretR hx hb hr hlocks (by rw [if_pos rfl]; unfold s_lim; rw [if_neg (by omega), if_neg (by omega), if_neg (by omega), if_pos (by omega), if_neg (fun h9 => h9.elim (fun h8 => c_113 h8.1) (fun h8 => h8.2 (by omega)))]) dX5_limitFrom_124
      · have c_113 := cv_l_le_f c_113
        refine lv_iconst (v := 1) hx hb dX5_limitFrom_116 (by decide) ?_
        refine lv_goto (tgt := 121) hx hb dX5_limitFrom_117 (by decide) ?_
        refine my_goR (v := (some (.double (if 1 = 0 then 18442240474082181120 else 9218868437227405312)))) (my_runS (bytes := cX5_endless) (maxL := 3) (ret := (some .double)) (n := 1) (As := [.int 1]) (rest := []) S hl.1 (kk_X5_endless l D kd ki kz kl z 1 (by omega)) rfl ⟨rfl, rfl⟩ gX5_limitFrom_X5_endless (by decide +kernel) rfl ⟨Nat.le_of_ble_eq_true rfl, Nat.le_of_ble_eq_true rfl⟩ (my_preR hC (my_P_sub (wc := []) hP [] rfl)) rfl rfl dX5_limitFrom_121) ?_
        refine W.eq (g2 := F0 m 124 ls [.double (if 1 = 0 then 18442240474082181120 else 9218868437227405312)]) rfl ?_
        exact my_dretR hx hb hr hlocks (by rw [if_neg (by decide)]; unfold s_lim; rw [if_neg (by omega), if_neg (by omega), if_neg (by omega), if_pos (by omega), if_pos (Or.inl ⟨c_113, by omega⟩)]) dX5_limitFrom_124
    · have c_87 : ¬ lf = 0 := fun h9 => c_87 ((nI_eq (a := lf) (b := 0) (by omega) (by omega)).mpr h9)
      refine lv_aload_n hx hb dX5_limitFrom_90 rfl (lv_at hl 0 rfl) ?_
      refine va_get (D := D) (ci := 5) (v := .double fa) (C := RX5) (T := TX5) (N := 3) hx hb hts iw_X5_limitFrom_X5 hown hC.1 hP 0 rfl rfl 2 (by decide) (hts (.fieldLink RX5 19 "MonotoneSpline$Tail" "factor" "D") (List.mem_of_getElem? (l := wsX5_limitFrom) (i := 2) rfl)) (fun _ h9 => h9) rfl dX5_limitFrom_91 ?_
      refine lv_dconst0 hx hb dX5_limitFrom_94 ?_
      refine my_topd (w := 0) (by decide) ?_
      refine lv_dcmp hx hb dX5_limitFrom_95 ?_
      refine lv_if_ge (tgt := 103) hx hb dX5_limitFrom_96 (by decide) (fun c_96 => ?_) (fun c_96 => ?_)
      · have c_96 := cv_g_ge_t c_96
        refine lv_iconst (v := 0) hx hb dX5_limitFrom_103 (by decide) ?_
        refine lv_goto (tgt := 121) hx hb dX5_limitFrom_104 (by decide) ?_
        refine my_goR (v := (some (.double (if 0 = 0 then 18442240474082181120 else 9218868437227405312)))) (my_runS (bytes := cX5_endless) (maxL := 3) (ret := (some .double)) (n := 1) (As := [.int 0]) (rest := []) S hl.1 (kk_X5_endless l D kd ki kz kl z 0 (by omega)) rfl ⟨rfl, rfl⟩ gX5_limitFrom_X5_endless (by decide +kernel) rfl ⟨Nat.le_of_ble_eq_true rfl, Nat.le_of_ble_eq_true rfl⟩ (my_preR hC (my_P_sub (wc := []) hP [] rfl)) rfl rfl dX5_limitFrom_121) ?_
        refine W.eq (g2 := F0 m 124 ls [.double (if 0 = 0 then 18442240474082181120 else 9218868437227405312)]) rfl ?_
        exact my_dretR hx hb hr hlocks (by rw [if_pos rfl]; unfold s_lim; rw [if_neg (by omega), if_neg (by omega), if_neg (by omega), if_pos (by omega), if_neg (fun h9 => h9.elim (fun h8 => absurd h8.2 (by omega)) (fun h8 => h8.1 (s_pos_of hfa (hfz (by omega)) c_96)))]) dX5_limitFrom_124
      · have c_96 := cv_g_ge_f c_96
        refine lv_iconst (v := 1) hx hb dX5_limitFrom_99 (by decide) ?_
        refine lv_goto (tgt := 121) hx hb dX5_limitFrom_100 (by decide) ?_
        refine my_goR (v := (some (.double (if 1 = 0 then 18442240474082181120 else 9218868437227405312)))) (my_runS (bytes := cX5_endless) (maxL := 3) (ret := (some .double)) (n := 1) (As := [.int 1]) (rest := []) S hl.1 (kk_X5_endless l D kd ki kz kl z 1 (by omega)) rfl ⟨rfl, rfl⟩ gX5_limitFrom_X5_endless (by decide +kernel) rfl ⟨Nat.le_of_ble_eq_true rfl, Nat.le_of_ble_eq_true rfl⟩ (my_preR hC (my_P_sub (wc := []) hP [] rfl)) rfl rfl dX5_limitFrom_121) ?_
        refine W.eq (g2 := F0 m 124 ls [.double (if 1 = 0 then 18442240474082181120 else 9218868437227405312)]) rfl ?_
        exact my_dretR hx hb hr hlocks (by rw [if_neg (by decide)]; unfold s_lim; rw [if_neg (by omega), if_neg (by omega), if_neg (by omega), if_pos (by omega), if_pos (Or.inr ⟨s_neg_of hfa c_96, by omega⟩)]) dX5_limitFrom_124
  by_cases sw_4_5 : kd9 = 5
  · refine my_topi (w := 5) (by rw [sw_4_5]; rfl) ?_
    refine lv_tableIn (off := 79) (tgt := 83) hx hb dX5_limitFrom_4 (by decide) (by decide) (by decide) (by decide) ?_
    refine lv_aload_n hx hb dX5_limitFrom_83 rfl (lv_at hl 0 rfl) ?_
    refine va_get (D := D) (ci := 5) (v := .int (nI lf)) (C := RX5) (T := TX5) (N := 3) hx hb hts iw_X5_limitFrom_X5 hown hC.1 hP 0 rfl rfl 0 (by decide) (hts (.fieldLink RX5 9 "MonotoneSpline$Tail" "isLeft" "Z") (List.mem_of_getElem? (l := wsX5_limitFrom) (i := 5) rfl)) (fun _ h9 => h9) rfl dX5_limitFrom_84 ?_
    refine lv_if_eq (tgt := 107) hx hb dX5_limitFrom_87 (by decide) (fun c_87 => ?_) (fun c_87 => ?_)
    · have c_87 : lf = 0 := (nI_eq (a := lf) (b := 0) (by omega) (by omega)).mp c_87
      refine lv_aload_n hx hb dX5_limitFrom_107 rfl (lv_at hl 0 rfl) ?_
      refine va_get (D := D) (ci := 5) (v := .double fa) (C := RX5) (T := TX5) (N := 3) hx hb hts iw_X5_limitFrom_X5 hown hC.1 hP 0 rfl rfl 2 (by decide) (hts (.fieldLink RX5 19 "MonotoneSpline$Tail" "factor" "D") (List.mem_of_getElem? (l := wsX5_limitFrom) (i := 2) rfl)) (fun _ h9 => h9) rfl dX5_limitFrom_108 ?_
      refine lv_dconst0 hx hb dX5_limitFrom_111 ?_
      refine my_topd (w := 0) (by decide) ?_
      refine lv_dcmp hx hb dX5_limitFrom_112 ?_
      refine lv_if_le (tgt := 120) hx hb dX5_limitFrom_113 (by decide) (fun c_113 => ?_) (fun c_113 => ?_)
      · have c_113 := cv_l_le_t c_113
        refine lv_iconst (v := 0) hx hb dX5_limitFrom_120 (by decide) ?_
        refine my_goR (v := (some (.double (if 0 = 0 then 18442240474082181120 else 9218868437227405312)))) (my_runS (bytes := cX5_endless) (maxL := 3) (ret := (some .double)) (n := 1) (As := [.int 0]) (rest := []) S hl.1 (kk_X5_endless l D kd ki kz kl z 0 (by omega)) rfl ⟨rfl, rfl⟩ gX5_limitFrom_X5_endless (by decide +kernel) rfl ⟨Nat.le_of_ble_eq_true rfl, Nat.le_of_ble_eq_true rfl⟩ (my_preR hC (my_P_sub (wc := []) hP [] rfl)) rfl rfl dX5_limitFrom_121) ?_
        refine W.eq (g2 := F0 m 124 ls [.double (if 0 = 0 then 18442240474082181120 else 9218868437227405312)]) rfl ?_
        exact my_dretR hx hb hr hlocks (by rw [if_pos rfl]; unfold s_lim; rw [if_neg (by omega), if_neg (by omega), if_neg (by omega), if_pos (by omega), if_neg (fun h9 => h9.elim (fun h8 => c_113 h8.1) (fun h8 => h8.2 (by omega)))]) dX5_limitFrom_124
      · have c_113 := cv_l_le_f c_113
        refine lv_iconst (v := 1) hx hb dX5_limitFrom_116 (by decide) ?_
        refine lv_goto (tgt := 121) hx hb dX5_limitFrom_117 (by decide) ?_
        refine my_goR (v := (some (.double (if 1 = 0 then 18442240474082181120 else 9218868437227405312)))) (my_runS (bytes := cX5_endless) (maxL := 3) (ret := (some .double)) (n := 1) (As := [.int 1]) (rest := []) S hl.1 (kk_X5_endless l D kd ki kz kl z 1 (by omega)) rfl ⟨rfl, rfl⟩ gX5_limitFrom_X5_endless (by decide +kernel) rfl ⟨Nat.le_of_ble_eq_true rfl, Nat.le_of_ble_eq_true rfl⟩ (my_preR hC (my_P_sub (wc := []) hP [] rfl)) rfl rfl dX5_limitFrom_121) ?_
        refine W.eq (g2 := F0 m 124 ls [.double (if 1 = 0 then 18442240474082181120 else 9218868437227405312)]) rfl ?_
        exact my_dretR hx hb hr hlocks (by rw [if_neg (by decide)]; unfold s_lim; rw [if_neg (by omega), if_neg (by omega), if_neg (by omega), if_pos (by omega), if_pos (Or.inl ⟨c_113, by omega⟩)]) dX5_limitFrom_124
    · have c_87 : ¬ lf = 0 := fun h9 => c_87 ((nI_eq (a := lf) (b := 0) (by omega) (by omega)).mpr h9)
      refine lv_aload_n hx hb dX5_limitFrom_90 rfl (lv_at hl 0 rfl) ?_
      refine va_get (D := D) (ci := 5) (v := .double fa) (C := RX5) (T := TX5) (N := 3) hx hb hts iw_X5_limitFrom_X5 hown hC.1 hP 0 rfl rfl 2 (by decide) (hts (.fieldLink RX5 19 "MonotoneSpline$Tail" "factor" "D") (List.mem_of_getElem? (l := wsX5_limitFrom) (i := 2) rfl)) (fun _ h9 => h9) rfl dX5_limitFrom_91 ?_
      refine lv_dconst0 hx hb dX5_limitFrom_94 ?_
      refine my_topd (w := 0) (by decide) ?_
      refine lv_dcmp hx hb dX5_limitFrom_95 ?_
      refine lv_if_ge (tgt := 103) hx hb dX5_limitFrom_96 (by decide) (fun c_96 => ?_) (fun c_96 => ?_)
      · have c_96 := cv_g_ge_t c_96
        refine lv_iconst (v := 0) hx hb dX5_limitFrom_103 (by decide) ?_
        refine lv_goto (tgt := 121) hx hb dX5_limitFrom_104 (by decide) ?_
        refine my_goR (v := (some (.double (if 0 = 0 then 18442240474082181120 else 9218868437227405312)))) (my_runS (bytes := cX5_endless) (maxL := 3) (ret := (some .double)) (n := 1) (As := [.int 0]) (rest := []) S hl.1 (kk_X5_endless l D kd ki kz kl z 0 (by omega)) rfl ⟨rfl, rfl⟩ gX5_limitFrom_X5_endless (by decide +kernel) rfl ⟨Nat.le_of_ble_eq_true rfl, Nat.le_of_ble_eq_true rfl⟩ (my_preR hC (my_P_sub (wc := []) hP [] rfl)) rfl rfl dX5_limitFrom_121) ?_
        refine W.eq (g2 := F0 m 124 ls [.double (if 0 = 0 then 18442240474082181120 else 9218868437227405312)]) rfl ?_
        exact my_dretR hx hb hr hlocks (by rw [if_pos rfl]; unfold s_lim; rw [if_neg (by omega), if_neg (by omega), if_neg (by omega), if_pos (by omega), if_neg (fun h9 => h9.elim (fun h8 => absurd h8.2 (by omega)) (fun h8 => h8.1 (s_pos_of hfa (hfz (by omega)) c_96)))]) dX5_limitFrom_124
      · have c_96 := cv_g_ge_f c_96
        refine lv_iconst (v := 1) hx hb dX5_limitFrom_99 (by decide) ?_
        refine lv_goto (tgt := 121) hx hb dX5_limitFrom_100 (by decide) ?_
        refine my_goR (v := (some (.double (if 1 = 0 then 18442240474082181120 else 9218868437227405312)))) (my_runS (bytes := cX5_endless) (maxL := 3) (ret := (some .double)) (n := 1) (As := [.int 1]) (rest := []) S hl.1 (kk_X5_endless l D kd ki kz kl z 1 (by omega)) rfl ⟨rfl, rfl⟩ gX5_limitFrom_X5_endless (by decide +kernel) rfl ⟨Nat.le_of_ble_eq_true rfl, Nat.le_of_ble_eq_true rfl⟩ (my_preR hC (my_P_sub (wc := []) hP [] rfl)) rfl rfl dX5_limitFrom_121) ?_
        refine W.eq (g2 := F0 m 124 ls [.double (if 1 = 0 then 18442240474082181120 else 9218868437227405312)]) rfl ?_
        exact my_dretR hx hb hr hlocks (by rw [if_neg (by decide)]; unfold s_lim; rw [if_neg (by omega), if_neg (by omega), if_neg (by omega), if_pos (by omega), if_pos (Or.inr ⟨s_neg_of hfa c_96, by omega⟩)]) dX5_limitFrom_124
  by_cases sw_4_6 : kd9 = 6
  · refine my_topi (w := 6) (by rw [sw_4_6]; rfl) ?_
    refine lv_tableIn (off := 121) (tgt := 125) hx hb dX5_limitFrom_4 (by decide) (by decide) (by decide) (by decide) ?_
    refine lv_aload_n hx hb dX5_limitFrom_125 rfl (lv_at hl 0 rfl) ?_
    refine va_get (D := D) (ci := 5) (v := .double fa) (C := RX5) (T := TX5) (N := 3) hx hb hts iw_X5_limitFrom_X5 hown hC.1 hP 0 rfl rfl 2 (by decide) (hts (.fieldLink RX5 19 "MonotoneSpline$Tail" "factor" "D") (List.mem_of_getElem? (l := wsX5_limitFrom) (i := 2) rfl)) (fun _ h9 => h9) rfl dX5_limitFrom_126 ?_
    refine lv_dconst0 hx hb dX5_limitFrom_129 ?_
    refine my_topd (w := 0) (by decide) ?_
    refine lv_dcmp hx hb dX5_limitFrom_130 ?_
    refine lv_if_le (tgt := 138) hx hb dX5_limitFrom_131 (by decide) (fun c_131 => ?_) (fun c_131 => ?_)
    · have c_131 := cv_l_le_t c_131
      refine lv_iconst (v := 0) hx hb dX5_limitFrom_138 (by decide) ?_
      refine my_goR (v := (some (.double (if 0 = 0 then 18442240474082181120 else 9218868437227405312)))) (my_runS (bytes := cX5_endless) (maxL := 3) (ret := (some .double)) (n := 1) (As := [.int 0]) (rest := []) S hl.1 (kk_X5_endless l D kd ki kz kl z 0 (by omega)) rfl ⟨rfl, rfl⟩ gX5_limitFrom_X5_endless (by decide +kernel) rfl ⟨Nat.le_of_ble_eq_true rfl, Nat.le_of_ble_eq_true rfl⟩ (my_preR hC (my_P_sub (wc := []) hP [] rfl)) rfl rfl dX5_limitFrom_139) ?_
      refine W.eq (g2 := F0 m 142 ls [.double (if 0 = 0 then 18442240474082181120 else 9218868437227405312)]) rfl ?_
      exact my_dretR hx hb hr hlocks (by rw [if_pos rfl]; unfold s_lim; rw [if_neg (by omega), if_neg (by omega), if_neg (by omega), if_neg (by omega), if_pos (by omega), if_neg c_131]) dX5_limitFrom_142
    · have c_131 := cv_l_le_f c_131
      refine lv_iconst (v := 1) hx hb dX5_limitFrom_134 (by decide) ?_
      refine lv_goto (tgt := 139) hx hb dX5_limitFrom_135 (by decide) ?_
      refine my_goR (v := (some (.double (if 1 = 0 then 18442240474082181120 else 9218868437227405312)))) (my_runS (bytes := cX5_endless) (maxL := 3) (ret := (some .double)) (n := 1) (As := [.int 1]) (rest := []) S hl.1 (kk_X5_endless l D kd ki kz kl z 1 (by omega)) rfl ⟨rfl, rfl⟩ gX5_limitFrom_X5_endless (by decide +kernel) rfl ⟨Nat.le_of_ble_eq_true rfl, Nat.le_of_ble_eq_true rfl⟩ (my_preR hC (my_P_sub (wc := []) hP [] rfl)) rfl rfl dX5_limitFrom_139) ?_
      refine W.eq (g2 := F0 m 142 ls [.double (if 1 = 0 then 18442240474082181120 else 9218868437227405312)]) rfl ?_
      exact my_dretR hx hb hr hlocks (by rw [if_neg (by decide)]; unfold s_lim; rw [if_neg (by omega), if_neg (by omega), if_neg (by omega), if_neg (by omega), if_pos (by omega), if_pos c_131]) dX5_limitFrom_142
  refine lv_tableOut (tgt := 143) hx hb dX5_limitFrom_4 (by rw [nI_toInt (by omega)]; omega) (by decide) ?_
  refine lv_dload_n hx hb dX5_limitFrom_143 rfl (lv_at hl 1 rfl) ?_
  exact my_dretR hx hb hr hlocks (by unfold s_lim; rw [if_neg sw_4_1, if_neg sw_4_2, if_neg sw_4_3, if_neg (by omega), if_neg sw_4_6]) dX5_limitFrom_144

theorem iw_X6_tailAt_X6 : ∀ w ∈ wsX60, w ∈ wsX6_tailAt := fun w h => List.mem_cons_of_mem _ (List.mem_append_right _ (h))
set_option maxHeartbeats 4000000 in
set_option maxRecDepth 100000 in
theorem kk_X6_tailAt (l : Launch) (D : va_G) (kd ki kz kl : ClassId) (z : Nat) (ad : Nat → Nat) (en : Nat) (he : en ≤ 1) : my_RO l D kd ki kz kl z yX6_tailAt wsX6_tailAt ({ frames := 0, cells := 0, slots := 0, locals := 0 }) [.ref (ad 0), .int (nI en)] [(ad 0, .inr (6, [.ref (ad 1), .ref (ad 8), .ref (ad 14), .ref (ad 21), .ref (ad 22), .ref (ad 23)]))] (some (.ref (if en = 0 then ad 22 else ad 23))) := by
  refine my_RO_of (cc := cX6_tailAt) (maxL := 2) (ret := (some (.object "MonotoneSpline$Tail"))) (by decide) rfl (Nat.le_of_ble_eq_true rfl) ?_
  intro p e s m below meth c S hr hlocks hC hP ls hl
  have S : CallFix p m c cX6_tailAt 2 s ([.ref (ad 0), .int (nI en)] : List Value).toArray wsX6_tailAt RX6 := S
  obtain ⟨hx, hb, hml, hown, hts⟩ := id S
  have hl : lv_has ls 2 [(0, .ref (ad 0)), (1, .int (nI en))] := hl
  refine lv_iload_n hx hb dX6_tailAt_0 rfl (lv_at hl 1 rfl) ?_
  refine lv_if_ne (tgt := 11) hx hb dX6_tailAt_1 (by decide) (fun c_1 => ?_) (fun c_1 => ?_)
  · have c_1 : ¬ en = 0 := fun h9 => c_1 ((nI_eq (a := en) (b := 0) (by omega) (by omega)).mpr h9)
    refine lv_aload_n hx hb dX6_tailAt_11 rfl (lv_at hl 0 rfl) ?_
    refine va_get (D := D) (ci := 6) (v := .ref (ad 23)) (C := RX6) (T := TX6) (N := 6) hx hb hts iw_X6_tailAt_X6 hown hC.1 hP 0 rfl rfl 5 (by decide) (hts (.fieldLink RX6 46 "MonotoneSpline" "rightTail" "LMonotoneSpline$Tail;") (List.mem_of_getElem? (l := wsX6_tailAt) (i := 2) rfl)) (fun _ h9 => h9) rfl dX6_tailAt_12 ?_
    exact my_aretR hx hb hr hlocks ((if_neg c_1).symm) dX6_tailAt_15
  · have c_1 : en = 0 := (nI_eq (a := en) (b := 0) (by omega) (by omega)).mp c_1
    refine lv_aload_n hx hb dX6_tailAt_4 rfl (lv_at hl 0 rfl) ?_
    refine va_get (D := D) (ci := 6) (v := .ref (ad 22)) (C := RX6) (T := TX6) (N := 6) hx hb hts iw_X6_tailAt_X6 hown hC.1 hP 0 rfl rfl 4 (by decide) (hts (.fieldLink RX6 42 "MonotoneSpline" "leftTail" "LMonotoneSpline$Tail;") (List.mem_of_getElem? (l := wsX6_tailAt) (i := 1) rfl)) (fun _ h9 => h9) rfl dX6_tailAt_5 ?_
    refine lv_goto (tgt := 15) hx hb dX6_tailAt_8 (by decide) ?_
    exact my_aretR hx hb hr hlocks ((if_pos c_1).symm) dX6_tailAt_15

theorem iw_X6_layPiece_X6 : ∀ w ∈ wsX60, w ∈ wsX6_layPiece := fun w h => List.mem_cons_of_mem _ (List.mem_append_left _ (List.mem_append_left _ (List.mem_append_left _ (List.mem_append_right _ (h)))))
theorem iw_X6_layPiece_X1 : ∀ w ∈ wsX10, w ∈ wsX6_layPiece := fun w h => List.mem_cons_of_mem _ (List.mem_append_left _ (List.mem_append_left _ (List.mem_append_right _ (h))))
set_option maxHeartbeats 4000000 in
set_option maxRecDepth 100000 in
theorem kk_X6_layPiece (l : Launch) (D : va_G) (kd ki kz kl : ClassId) (z : Nat) (ad : Nat → Nat) (kn : Nat) (P : Nat → UInt64) (V : Nat → UInt64) (F : Nat → UInt64) (k : Nat) (e0 : UInt64) (e1 : UInt64) (e2 : UInt64) (e3 : UInt64) (e4 : UInt64) (hI : KI kn P V F) (hk : k + 1 < kn) : my_WR l D kd ki kz kl z yX6_layPiece wsX6_layPiece ({ frames := 4, cells := 0, slots := 0, locals := 100 }) [.ref (ad 0), .int (nI k)] [(ad 0, .inr (6, [.ref (ad 1), .ref (ad 8), .ref (ad 14), .ref (ad 21), .ref (ad 22), .ref (ad 23)])), (ad 14, .inr (1, [.ref (ad 15), .ref (ad 17), .ref (ad 19), .int (nI kn)])), (ad 15, .inr (4, [.ref (ad 16)])), (ad 16, .inl (kd, 60, .inr (.inr (.inr (.inl P))))), (ad 17, .inr (4, [.ref (ad 18)])), (ad 18, .inl (kd, 60, .inr (.inr (.inr (.inl V))))), (ad 19, .inr (4, [.ref (ad 20)])), (ad 20, .inl (kd, 60, .inr (.inr (.inr (.inl F))))), (ad 21, .inr (2, [.double e0, .double e1, .double e2, .double e3, .double e4]))] [(ad 0, .inr (6, [.ref (ad 1), .ref (ad 8), .ref (ad 14), .ref (ad 21), .ref (ad 22), .ref (ad 23)])), (ad 14, .inr (1, [.ref (ad 15), .ref (ad 17), .ref (ad 19), .int (nI kn)])), (ad 15, .inr (4, [.ref (ad 16)])), (ad 16, .inl (kd, 60, .inr (.inr (.inr (.inl P))))), (ad 17, .inr (4, [.ref (ad 18)])), (ad 18, .inl (kd, 60, .inr (.inr (.inr (.inl V))))), (ad 19, .inr (4, [.ref (ad 20)])), (ad 20, .inl (kd, 60, .inr (.inr (.inr (.inl F))))), (ad 21, .inr (2, [.double (P k), .double (V k), .double (s_s P V F kn k), .double (s_pk P V F kn k), .double (s_qk P V F kn k)]))] none := by
  refine my_WR_of (cc := cX6_layPiece) (maxL := 2) (ret := none) (by decide) rfl (Nat.le_of_ble_eq_true rfl) ?_
  intro p e s m below meth c S hr hlocks hC hP hD hz hS ls hl
  have S : CallFix p m c cX6_layPiece 2 s ([.ref (ad 0), .int (nI k)] : List Value).toArray wsX6_layPiece RX6 := S
  obtain ⟨hx, hb, hml, hown, hts⟩ := id S
  have hl : lv_has ls 2 [(0, .ref (ad 0)), (1, .int (nI k))] := hl
  suffices K0 : ∀ (H : Heap) (locs : List Loc), va_P D vwCl [(ad 0, .inr (6, [.ref (ad 1), .ref (ad 8), .ref (ad 14), .ref (ad 21), .ref (ad 22), .ref (ad 23)])), (ad 14, .inr (1, [.ref (ad 15), .ref (ad 17), .ref (ad 19), .int (nI kn)])), (ad 15, .inr (4, [.ref (ad 16)])), (ad 16, .inl (kd, 60, .inr (.inr (.inr (.inl P))))), (ad 17, .inr (4, [.ref (ad 18)])), (ad 18, .inl (kd, 60, .inr (.inr (.inr (.inl V))))), (ad 19, .inr (4, [.ref (ad 20)])), (ad 20, .inl (kd, 60, .inr (.inr (.inr (.inl F))))), (ad 21, .inr (2, [.double e0, .double e1, .double e2, .double e3, .double e4]))] H → va_D (my_A [(ad 0, .inr (6, [.ref (ad 1), .ref (ad 8), .ref (ad 14), .ref (ad 21), .ref (ad 22), .ref (ad 23)])), (ad 14, .inr (1, [.ref (ad 15), .ref (ad 17), .ref (ad 19), .int (nI kn)])), (ad 15, .inr (4, [.ref (ad 16)])), (ad 16, .inl (kd, 60, .inr (.inr (.inr (.inl P))))), (ad 17, .inr (4, [.ref (ad 18)])), (ad 18, .inl (kd, 60, .inr (.inr (.inr (.inl V))))), (ad 19, .inr (4, [.ref (ad 20)])), (ad 20, .inl (kd, 60, .inr (.inr (.inr (.inl F))))), (ad 21, .inr (2, [.double e0, .double e1, .double e2, .double e3, .double e4]))]) [(ad 0, .inr (6, [.ref (ad 1), .ref (ad 8), .ref (ad 14), .ref (ad 21), .ref (ad 22), .ref (ad 23)])), (ad 14, .inr (1, [.ref (ad 15), .ref (ad 17), .ref (ad 19), .int (nI kn)])), (ad 15, .inr (4, [.ref (ad 16)])), (ad 16, .inl (kd, 60, .inr (.inr (.inr (.inl P))))), (ad 17, .inr (4, [.ref (ad 18)])), (ad 18, .inl (kd, 60, .inr (.inr (.inr (.inl V))))), (ad 19, .inr (4, [.ref (ad 20)])), (ad 20, .inl (kd, 60, .inr (.inr (.inr (.inl F))))), (ad 21, .inr (2, [.double e0, .double e1, .double e2, .double e3, .double e4]))] → va_S (my_A [(ad 0, .inr (6, [.ref (ad 1), .ref (ad 8), .ref (ad 14), .ref (ad 21), .ref (ad 22), .ref (ad 23)])), (ad 14, .inr (1, [.ref (ad 15), .ref (ad 17), .ref (ad 19), .int (nI kn)])), (ad 15, .inr (4, [.ref (ad 16)])), (ad 16, .inl (kd, 60, .inr (.inr (.inr (.inl P))))), (ad 17, .inr (4, [.ref (ad 18)])), (ad 18, .inl (kd, 60, .inr (.inr (.inr (.inl V))))), (ad 19, .inr (4, [.ref (ad 20)])), (ad 20, .inl (kd, 60, .inr (.inr (.inr (.inl F))))), (ad 21, .inr (2, [.double e0, .double e1, .double e2, .double e3, .double e4]))]) s.heap H locs → W p l e ({ frames := 4, cells := 0, slots := 0, locals := 100 }) s m ([.ref (ad 0), .int (nI k)] : List Value).toArray below meth c H locs 0 0 (my_WQ below D ([.ref (ad 0), .int (nI k)] : List Value).toArray s [(ad 0, .inr (6, [.ref (ad 1), .ref (ad 8), .ref (ad 14), .ref (ad 21), .ref (ad 22), .ref (ad 23)])), (ad 14, .inr (1, [.ref (ad 15), .ref (ad 17), .ref (ad 19), .int (nI kn)])), (ad 15, .inr (4, [.ref (ad 16)])), (ad 16, .inl (kd, 60, .inr (.inr (.inr (.inl P))))), (ad 17, .inr (4, [.ref (ad 18)])), (ad 18, .inl (kd, 60, .inr (.inr (.inr (.inl V))))), (ad 19, .inr (4, [.ref (ad 20)])), (ad 20, .inl (kd, 60, .inr (.inr (.inr (.inl F))))), (ad 21, .inr (2, [.double e0, .double e1, .double e2, .double e3, .double e4]))] [(ad 0, .inr (6, [.ref (ad 1), .ref (ad 8), .ref (ad 14), .ref (ad 21), .ref (ad 22), .ref (ad 23)])), (ad 14, .inr (1, [.ref (ad 15), .ref (ad 17), .ref (ad 19), .int (nI kn)])), (ad 15, .inr (4, [.ref (ad 16)])), (ad 16, .inl (kd, 60, .inr (.inr (.inr (.inl P))))), (ad 17, .inr (4, [.ref (ad 18)])), (ad 18, .inl (kd, 60, .inr (.inr (.inr (.inl V))))), (ad 19, .inr (4, [.ref (ad 20)])), (ad 20, .inl (kd, 60, .inr (.inr (.inr (.inl F))))), (ad 21, .inr (2, [.double (P k), .double (V k), .double (s_s P V F kn k), .double (s_pk P V F kn k), .double (s_qk P V F kn k)]))] none) (F0 m 0 ls []) from K0 _ _ hP hD hS
  intro H locs hP hD hS
  have hJ := hI.1
  have hkn := hJ.2.1
  obtain ⟨b1, b2, b3, b4, b5, b6, b7, b8, b9⟩ := PB_n hI hk
  have hpe := PE_of hI hk
  refine lv_aload_n hx hb dX6_layPiece_0 rfl (lv_at hl 0 rfl) ?_
  refine va_get (D := D) (ci := 6) (v := .ref (ad 21)) (C := RX6) (T := TX6) (N := 6) hx hb hts iw_X6_layPiece_X6 hown hC.1 hP 0 rfl rfl 3 (by decide) (hts (.fieldLink RX6 33 "MonotoneSpline" "piece" "LMonotoneSpline$Piece;") (List.mem_of_getElem? (l := wsX6_layPiece) (i := 1) rfl)) (fun _ h9 => h9) rfl dX6_layPiece_1 ?_
  refine lv_aload_n hx hb dX6_layPiece_4 rfl (lv_at hl 0 rfl) ?_
  refine va_get (D := D) (ci := 6) (v := .ref (ad 14)) (C := RX6) (T := TX6) (N := 6) hx hb hts iw_X6_layPiece_X6 hown hC.1 hP 0 rfl rfl 2 (by decide) (hts (.fieldLink RX6 26 "MonotoneSpline" "knots" "LMonotoneSpline$Knots;") (List.mem_of_getElem? (l := wsX6_layPiece) (i := 2) rfl)) (fun _ h9 => h9) rfl dX6_layPiece_5 ?_
  refine va_getN (D := D) (ci := 1) (v := .ref (ad 15)) (C := RX1) (T := TX1) (N := 4) hx hb hts iw_X6_layPiece_X1 hown hC.1 hP 1 rfl rfl 0 (by decide) (va_Nw.use (w := .fieldLinkNest "MonotoneSpline" 146 "MonotoneSpline$Knots" "places" "LMonotoneSpline$Row;" "MonotoneSpline") rfl (hC.2.1 _ (List.mem_of_getElem? (l := my_nest) (i := 8) rfl))) (fun _ h9 => h9) rfl dX6_layPiece_8 ?_
  refine lv_iload_n hx hb dX6_layPiece_11 rfl (lv_at hl 1 rfl) ?_
  refine my_goR (v := (some (.double (P k)))) (my_runV (bytes := cX4_get) (maxL := 2) (ret := (some .double)) (n := 1) (As := [.int (nI k)]) (rest := [.ref (ad 21)]) S hl.1 (kk_X4_get l D kd ki kz kl z (ad 15) (ad 16) 60 P k (by omega) (by omega)) rfl ⟨rfl, rfl⟩ gX6_layPiece_X4_get (by decide +kernel) rfl ⟨Nat.le_of_ble_eq_true rfl, Nat.le_of_ble_eq_true rfl⟩ (my_preR (my_C_S hC hS hz) (my_P_sub (wc := [(ad 15, .inr (4, [.ref (ad 16)])), (ad 16, .inl (kd, 60, .inr (.inr (.inr (.inl P)))))]) hP [2, 3] rfl)) (va_recv hC.1 hP (ci := 4) (q0 := 2) rfl rfl) rfl rfl dX6_layPiece_12) ?_
  refine W.eq (g2 := F0 m 15 ls [.double (P k), .ref (ad 21)]) rfl ?_
  refine lv_aload_n hx hb dX6_layPiece_15 rfl (lv_at hl 0 rfl) ?_
  refine va_get (D := D) (ci := 6) (v := .ref (ad 14)) (C := RX6) (T := TX6) (N := 6) hx hb hts iw_X6_layPiece_X6 hown hC.1 hP 0 rfl rfl 2 (by decide) (hts (.fieldLink RX6 26 "MonotoneSpline" "knots" "LMonotoneSpline$Knots;") (List.mem_of_getElem? (l := wsX6_layPiece) (i := 2) rfl)) (fun _ h9 => h9) rfl dX6_layPiece_16 ?_
  refine va_getN (D := D) (ci := 1) (v := .ref (ad 17)) (C := RX1) (T := TX1) (N := 4) hx hb hts iw_X6_layPiece_X1 hown hC.1 hP 1 rfl rfl 1 (by decide) (va_Nw.use (w := .fieldLinkNest "MonotoneSpline" 147 "MonotoneSpline$Knots" "heights" "LMonotoneSpline$Row;" "MonotoneSpline") rfl (hC.2.1 _ (List.mem_of_getElem? (l := my_nest) (i := 9) rfl))) (fun _ h9 => h9) rfl dX6_layPiece_19 ?_
  refine lv_iload_n hx hb dX6_layPiece_22 rfl (lv_at hl 1 rfl) ?_
  refine my_goR (v := (some (.double (V k)))) (my_runV (bytes := cX4_get) (maxL := 2) (ret := (some .double)) (n := 1) (As := [.int (nI k)]) (rest := [.double (P k), .ref (ad 21)]) S hl.1 (kk_X4_get l D kd ki kz kl z (ad 17) (ad 18) 60 V k (by omega) (by omega)) rfl ⟨rfl, rfl⟩ gX6_layPiece_X4_get (by decide +kernel) rfl ⟨Nat.le_of_ble_eq_true rfl, Nat.le_of_ble_eq_true rfl⟩ (my_preR (my_C_S hC hS hz) (my_P_sub (wc := [(ad 17, .inr (4, [.ref (ad 18)])), (ad 18, .inl (kd, 60, .inr (.inr (.inr (.inl V)))))]) hP [4, 5] rfl)) (va_recv hC.1 hP (ci := 4) (q0 := 4) rfl rfl) rfl rfl dX6_layPiece_23) ?_
  refine W.eq (g2 := F0 m 26 ls [.double (V k), .double (P k), .ref (ad 21)]) rfl ?_
  refine my_goW (v := none) (w1 := [(ad 21, .inr (2, [.double (P k), .double (V k), .double e2, .double e3, .double e4]))]) (wx' := [(ad 0, .inr (6, [.ref (ad 1), .ref (ad 8), .ref (ad 14), .ref (ad 21), .ref (ad 22), .ref (ad 23)])), (ad 14, .inr (1, [.ref (ad 15), .ref (ad 17), .ref (ad 19), .int (nI kn)])), (ad 15, .inr (4, [.ref (ad 16)])), (ad 16, .inl (kd, 60, .inr (.inr (.inr (.inl P))))), (ad 17, .inr (4, [.ref (ad 18)])), (ad 18, .inl (kd, 60, .inr (.inr (.inr (.inl V))))), (ad 19, .inr (4, [.ref (ad 20)])), (ad 20, .inl (kd, 60, .inr (.inr (.inr (.inl F))))), (ad 21, .inr (2, [.double (P k), .double (V k), .double e2, .double e3, .double e4]))]) (my_runV (bytes := cX2_startAt) (maxL := 5) (ret := none) (n := 2) (As := [.double (P k), .double (V k)]) (rest := []) S hl.1 (kk_X2_startAt l D kd ki kz kl z ad e0 e1 e2 e3 e4 (P k) (V k)) rfl ⟨rfl, rfl⟩ gX6_layPiece_X2_startAt (by decide +kernel) rfl ⟨Nat.le_of_ble_eq_true rfl, Nat.le_of_ble_eq_true rfl⟩ (my_preW (my_C_S hC hS hz) (my_P_sub (wc := [(ad 21, .inr (2, [.double e0, .double e1, .double e2, .double e3, .double e4]))]) hP [8] rfl) (my_D_sub hD hz [8] (by decide) rfl)) (va_recv hC.1 hP (ci := 2) (q0 := 8) rfl rfl) rfl rfl dX6_layPiece_26) hP hD hS [8] rfl rfl rfl (fun H locs hP hD hS => ?_)
  refine W.eq (g2 := F0 m 29 ls []) rfl ?_
  refine lv_aload_n hx hb dX6_layPiece_29 rfl (lv_at hl 0 rfl) ?_
  refine va_get (D := D) (ci := 6) (v := .ref (ad 21)) (C := RX6) (T := TX6) (N := 6) hx hb hts iw_X6_layPiece_X6 hown hC.1 hP 0 rfl rfl 3 (by decide) (hts (.fieldLink RX6 33 "MonotoneSpline" "piece" "LMonotoneSpline$Piece;") (List.mem_of_getElem? (l := wsX6_layPiece) (i := 1) rfl)) (fun _ h9 => h9) rfl dX6_layPiece_30 ?_
  refine lv_aload_n hx hb dX6_layPiece_33 rfl (lv_at hl 0 rfl) ?_
  refine va_get (D := D) (ci := 6) (v := .ref (ad 14)) (C := RX6) (T := TX6) (N := 6) hx hb hts iw_X6_layPiece_X6 hown hC.1 hP 0 rfl rfl 2 (by decide) (hts (.fieldLink RX6 26 "MonotoneSpline" "knots" "LMonotoneSpline$Knots;") (List.mem_of_getElem? (l := wsX6_layPiece) (i := 2) rfl)) (fun _ h9 => h9) rfl dX6_layPiece_34 ?_
  refine lv_iload_n hx hb dX6_layPiece_37 rfl (lv_at hl 1 rfl) ?_
  refine my_goR (v := (some (.double (s_w P k)))) (my_runV (bytes := cX1_widthOf) (maxL := 2) (ret := (some .double)) (n := 1) (As := [.int (nI k)]) (rest := [.ref (ad 21)]) S hl.1 (kk_X1_widthOf l D kd ki kz kl z ad kn P k (by omega) ((kJ_w1 hJ hk).2.2.2)) rfl ⟨rfl, rfl⟩ gX6_layPiece_X1_widthOf (by decide +kernel) rfl ⟨Nat.le_of_ble_eq_true rfl, Nat.le_of_ble_eq_true rfl⟩ (my_preR (my_C_S hC hS hz) (my_P_sub (wc := [(ad 14, .inr (1, [.ref (ad 15), .ref (ad 17), .ref (ad 19), .int (nI kn)])), (ad 15, .inr (4, [.ref (ad 16)])), (ad 16, .inl (kd, 60, .inr (.inr (.inr (.inl P)))))]) hP [1, 2, 3] rfl)) (va_recv hC.1 hP (ci := 1) (q0 := 1) rfl rfl) rfl rfl dX6_layPiece_38) ?_
  refine W.eq (g2 := F0 m 41 ls [.double (s_w P k), .ref (ad 21)]) rfl ?_
  refine lv_aload_n hx hb dX6_layPiece_41 rfl (lv_at hl 0 rfl) ?_
  refine va_get (D := D) (ci := 6) (v := .ref (ad 14)) (C := RX6) (T := TX6) (N := 6) hx hb hts iw_X6_layPiece_X6 hown hC.1 hP 0 rfl rfl 2 (by decide) (hts (.fieldLink RX6 26 "MonotoneSpline" "knots" "LMonotoneSpline$Knots;") (List.mem_of_getElem? (l := wsX6_layPiece) (i := 2) rfl)) (fun _ h9 => h9) rfl dX6_layPiece_42 ?_
  refine lv_iload_n hx hb dX6_layPiece_45 rfl (lv_at hl 1 rfl) ?_
  refine my_goR (v := (some (.double (s_r P V k)))) (my_runV (bytes := cX1_riseOf) (maxL := 2) (ret := (some .double)) (n := 1) (As := [.int (nI k)]) (rest := [.double (s_w P k), .ref (ad 21)]) S hl.1 (kk_X1_riseOf l D kd ki kz kl z ad kn P V k (by omega) (hJ)) rfl ⟨rfl, rfl⟩ gX6_layPiece_X1_riseOf (by decide +kernel) rfl ⟨Nat.le_of_ble_eq_true rfl, Nat.le_of_ble_eq_true rfl⟩ (my_preR (my_C_S hC hS hz) (my_P_sub (wc := [(ad 14, .inr (1, [.ref (ad 15), .ref (ad 17), .ref (ad 19), .int (nI kn)])), (ad 15, .inr (4, [.ref (ad 16)])), (ad 16, .inl (kd, 60, .inr (.inr (.inr (.inl P))))), (ad 17, .inr (4, [.ref (ad 18)])), (ad 18, .inl (kd, 60, .inr (.inr (.inr (.inl V)))))]) hP [1, 2, 3, 4, 5] rfl)) (va_recv hC.1 hP (ci := 1) (q0 := 1) rfl rfl) rfl rfl dX6_layPiece_46) ?_
  refine W.eq (g2 := F0 m 49 ls [.double (s_r P V k), .double (s_w P k), .ref (ad 21)]) rfl ?_
  refine lv_aload_n hx hb dX6_layPiece_49 rfl (lv_at hl 0 rfl) ?_
  refine va_get (D := D) (ci := 6) (v := .ref (ad 14)) (C := RX6) (T := TX6) (N := 6) hx hb hts iw_X6_layPiece_X6 hown hC.1 hP 0 rfl rfl 2 (by decide) (hts (.fieldLink RX6 26 "MonotoneSpline" "knots" "LMonotoneSpline$Knots;") (List.mem_of_getElem? (l := wsX6_layPiece) (i := 2) rfl)) (fun _ h9 => h9) rfl dX6_layPiece_50 ?_
  refine lv_iload_n hx hb dX6_layPiece_53 rfl (lv_at hl 1 rfl) ?_
  refine my_goR (v := (some (.double (s_s P V F kn k)))) (my_runV (bytes := cX1_slopeOf) (maxL := 10) (ret := (some .double)) (n := 1) (As := [.int (nI k)]) (rest := [.double (s_r P V k), .double (s_w P k), .ref (ad 21)]) S hl.1 (kk_X1_slopeOf l D kd ki kz kl z ad kn P V F k (hI) (by omega)) rfl ⟨rfl, rfl⟩ gX6_layPiece_X1_slopeOf (by decide +kernel) rfl ⟨Nat.le_of_ble_eq_true rfl, Nat.le_of_ble_eq_true rfl⟩ (my_preR (my_C_S hC hS hz) (my_P_sub (wc := [(ad 14, .inr (1, [.ref (ad 15), .ref (ad 17), .ref (ad 19), .int (nI kn)])), (ad 15, .inr (4, [.ref (ad 16)])), (ad 16, .inl (kd, 60, .inr (.inr (.inr (.inl P))))), (ad 17, .inr (4, [.ref (ad 18)])), (ad 18, .inl (kd, 60, .inr (.inr (.inr (.inl V))))), (ad 19, .inr (4, [.ref (ad 20)])), (ad 20, .inl (kd, 60, .inr (.inr (.inr (.inl F)))))]) hP [1, 2, 3, 4, 5, 6, 7] rfl)) (va_recv hC.1 hP (ci := 1) (q0 := 1) rfl rfl) rfl rfl dX6_layPiece_54) ?_
  refine W.eq (g2 := F0 m 57 ls [.double (s_s P V F kn k), .double (s_r P V k), .double (s_w P k), .ref (ad 21)]) rfl ?_
  refine lv_aload_n hx hb dX6_layPiece_57 rfl (lv_at hl 0 rfl) ?_
  refine va_get (D := D) (ci := 6) (v := .ref (ad 14)) (C := RX6) (T := TX6) (N := 6) hx hb hts iw_X6_layPiece_X6 hown hC.1 hP 0 rfl rfl 2 (by decide) (hts (.fieldLink RX6 26 "MonotoneSpline" "knots" "LMonotoneSpline$Knots;") (List.mem_of_getElem? (l := wsX6_layPiece) (i := 2) rfl)) (fun _ h9 => h9) rfl dX6_layPiece_58 ?_
  refine lv_iload_n hx hb dX6_layPiece_61 rfl (lv_at hl 1 rfl) ?_
  refine lv_iconst (v := 1) hx hb dX6_layPiece_62 (by decide) ?_
  refine my_iadd (w := nI (k + 1)) hx hb dX6_layPiece_63 (nI_add k 1) ?_
  refine my_goR (v := (some (.double (s_s P V F kn (k + 1))))) (my_runV (bytes := cX1_slopeOf) (maxL := 10) (ret := (some .double)) (n := 1) (As := [.int (nI (k + 1))]) (rest := [.double (s_s P V F kn k), .double (s_r P V k), .double (s_w P k), .ref (ad 21)]) S hl.1 (kk_X1_slopeOf l D kd ki kz kl z ad kn P V F (k + 1) (hI) (by omega)) rfl ⟨rfl, rfl⟩ gX6_layPiece_X1_slopeOf (by decide +kernel) rfl ⟨Nat.le_of_ble_eq_true rfl, Nat.le_of_ble_eq_true rfl⟩ (my_preR (my_C_S hC hS hz) (my_P_sub (wc := [(ad 14, .inr (1, [.ref (ad 15), .ref (ad 17), .ref (ad 19), .int (nI kn)])), (ad 15, .inr (4, [.ref (ad 16)])), (ad 16, .inl (kd, 60, .inr (.inr (.inr (.inl P))))), (ad 17, .inr (4, [.ref (ad 18)])), (ad 18, .inl (kd, 60, .inr (.inr (.inr (.inl V))))), (ad 19, .inr (4, [.ref (ad 20)])), (ad 20, .inl (kd, 60, .inr (.inr (.inr (.inl F)))))]) hP [1, 2, 3, 4, 5, 6, 7] rfl)) (va_recv hC.1 hP (ci := 1) (q0 := 1) rfl rfl) rfl rfl dX6_layPiece_64) ?_
  refine W.eq (g2 := F0 m 67 ls [.double (s_s P V F kn (k + 1)), .double (s_s P V F kn k), .double (s_r P V k), .double (s_w P k), .ref (ad 21)]) rfl ?_
  refine my_goW (v := none) (w1 := [(ad 21, .inr (2, [.double (P k), .double (V k), .double (s_s P V F kn k), .double (s_p (s_r P V k) (s_s P V F kn k) (s_s P V F kn (k + 1)) (s_w P k)), .double (s_q (s_r P V k) (s_s P V F kn k) (s_s P V F kn (k + 1)) (s_w P k))]))]) (wx' := [(ad 0, .inr (6, [.ref (ad 1), .ref (ad 8), .ref (ad 14), .ref (ad 21), .ref (ad 22), .ref (ad 23)])), (ad 14, .inr (1, [.ref (ad 15), .ref (ad 17), .ref (ad 19), .int (nI kn)])), (ad 15, .inr (4, [.ref (ad 16)])), (ad 16, .inl (kd, 60, .inr (.inr (.inr (.inl P))))), (ad 17, .inr (4, [.ref (ad 18)])), (ad 18, .inl (kd, 60, .inr (.inr (.inr (.inl V))))), (ad 19, .inr (4, [.ref (ad 20)])), (ad 20, .inl (kd, 60, .inr (.inr (.inr (.inl F))))), (ad 21, .inr (2, [.double (P k), .double (V k), .double (s_s P V F kn k), .double (s_p (s_r P V k) (s_s P V F kn k) (s_s P V F kn (k + 1)) (s_w P k)), .double (s_q (s_r P V k) (s_s P V F kn k) (s_s P V F kn (k + 1)) (s_w P k))]))]) (my_runV (bytes := cX2_bend) (maxL := 11) (ret := none) (n := 4) (As := [.double (s_w P k), .double (s_r P V k), .double (s_s P V F kn k), .double (s_s P V F kn (k + 1))]) (rest := []) S hl.1 (kk_X2_bend l D kd ki kz kl z ad (P k) (V k) e2 e3 e4 (s_w P k) (s_r P V k) (s_s P V F kn k) (s_s P V F kn (k + 1)) (b1) (b2) (b3) (b4) (b5) (b6) (b7) (b8) (kJ_wz hJ hk) (b9) (fx_B_n hpe.2.2.1 (by omega)) (fx_B_n hpe.2.2.2 (by omega))) rfl ⟨rfl, rfl⟩ gX6_layPiece_X2_bend (by decide +kernel) rfl ⟨Nat.le_of_ble_eq_true rfl, Nat.le_of_ble_eq_true rfl⟩ (my_preW (my_C_S hC hS hz) (my_P_sub (wc := [(ad 21, .inr (2, [.double (P k), .double (V k), .double e2, .double e3, .double e4]))]) hP [8] rfl) (my_D_sub hD hz [8] (by decide) rfl)) (va_recv hC.1 hP (ci := 2) (q0 := 8) rfl rfl) rfl rfl dX6_layPiece_67) hP hD hS [8] rfl rfl rfl (fun H locs hP hD hS => ?_)
  refine W.eq (g2 := F0 m 70 ls []) rfl ?_
  exact my_vretW hx hb hr hlocks hP (rfl) hS dX6_layPiece_70

theorem iw_X6_areaUpTo_X6 : ∀ w ∈ wsX60, w ∈ wsX6_areaUpTo := fun w h => List.mem_cons_of_mem _ (List.mem_append_left _ (List.mem_append_left _ (List.mem_append_left _ (List.mem_append_right _ (h)))))
theorem iw_X6_areaUpTo_X1 : ∀ w ∈ wsX10, w ∈ wsX6_areaUpTo := fun w h => List.mem_cons_of_mem _ (List.mem_append_left _ (List.mem_append_left _ (List.mem_append_right _ (h))))
set_option maxHeartbeats 4000000 in
set_option maxRecDepth 100000 in
theorem kk_X6_areaUpTo (l : Launch) (D : va_G) (kd ki kz kl : ClassId) (z : Nat) (ad : Nat → Nat) (kn : Nat) (P : Nat → UInt64) (V : Nat → UInt64) (F : Nat → UInt64) (x : UInt64) (e0 : UInt64) (e1 : UInt64) (e2 : UInt64) (e3 : UInt64) (e4 : UInt64) (hI : KI kn P V F) (hxB : fx_B 1168 x) : my_WR l D kd ki kz kl z yX6_areaUpTo wsX6_areaUpTo ({ frames := 5, cells := 0, slots := 0, locals := 121 }) [.ref (ad 0), .double x] [(ad 0, .inr (6, [.ref (ad 1), .ref (ad 8), .ref (ad 14), .ref (ad 21), .ref (ad 22), .ref (ad 23)])), (ad 14, .inr (1, [.ref (ad 15), .ref (ad 17), .ref (ad 19), .int (nI kn)])), (ad 15, .inr (4, [.ref (ad 16)])), (ad 16, .inl (kd, 60, .inr (.inr (.inr (.inl P))))), (ad 17, .inr (4, [.ref (ad 18)])), (ad 18, .inl (kd, 60, .inr (.inr (.inr (.inl V))))), (ad 19, .inr (4, [.ref (ad 20)])), (ad 20, .inl (kd, 60, .inr (.inr (.inr (.inl F))))), (ad 21, .inr (2, [.double e0, .double e1, .double e2, .double e3, .double e4]))] [(ad 0, .inr (6, [.ref (ad 1), .ref (ad 8), .ref (ad 14), .ref (ad 21), .ref (ad 22), .ref (ad 23)])), (ad 14, .inr (1, [.ref (ad 15), .ref (ad 17), .ref (ad 19), .int (nI kn)])), (ad 15, .inr (4, [.ref (ad 16)])), (ad 16, .inl (kd, 60, .inr (.inr (.inr (.inl P))))), (ad 17, .inr (4, [.ref (ad 18)])), (ad 18, .inl (kd, 60, .inr (.inr (.inr (.inl V))))), (ad 19, .inr (4, [.ref (ad 20)])), (ad 20, .inl (kd, 60, .inr (.inr (.inr (.inl F))))), (ad 21, .inr (2, [.double (P (s_pc P kn x)), .double (V (s_pc P kn x)), .double (s_s P V F kn (s_pc P kn x)), .double (s_pk P V F kn (s_pc P kn x)), .double (s_qk P V F kn (s_pc P kn x))]))] (some (.double (s_at2 P V F kn x))) := by
  refine my_WR_of (cc := cX6_areaUpTo) (maxL := 7) (ret := (some .double)) (by decide) rfl (Nat.le_of_ble_eq_true rfl) ?_
  intro p e s m below meth c S hr hlocks hC hP hD hz hS ls hl
  have S : CallFix p m c cX6_areaUpTo 7 s ([.ref (ad 0), .double x] : List Value).toArray wsX6_areaUpTo RX6 := S
  obtain ⟨hx, hb, hml, hown, hts⟩ := id S
  have hl : lv_has ls 7 [(0, .ref (ad 0)), (1, .double x)] := hl
  suffices K0 : ∀ (H : Heap) (locs : List Loc), va_P D vwCl [(ad 0, .inr (6, [.ref (ad 1), .ref (ad 8), .ref (ad 14), .ref (ad 21), .ref (ad 22), .ref (ad 23)])), (ad 14, .inr (1, [.ref (ad 15), .ref (ad 17), .ref (ad 19), .int (nI kn)])), (ad 15, .inr (4, [.ref (ad 16)])), (ad 16, .inl (kd, 60, .inr (.inr (.inr (.inl P))))), (ad 17, .inr (4, [.ref (ad 18)])), (ad 18, .inl (kd, 60, .inr (.inr (.inr (.inl V))))), (ad 19, .inr (4, [.ref (ad 20)])), (ad 20, .inl (kd, 60, .inr (.inr (.inr (.inl F))))), (ad 21, .inr (2, [.double e0, .double e1, .double e2, .double e3, .double e4]))] H → va_D (my_A [(ad 0, .inr (6, [.ref (ad 1), .ref (ad 8), .ref (ad 14), .ref (ad 21), .ref (ad 22), .ref (ad 23)])), (ad 14, .inr (1, [.ref (ad 15), .ref (ad 17), .ref (ad 19), .int (nI kn)])), (ad 15, .inr (4, [.ref (ad 16)])), (ad 16, .inl (kd, 60, .inr (.inr (.inr (.inl P))))), (ad 17, .inr (4, [.ref (ad 18)])), (ad 18, .inl (kd, 60, .inr (.inr (.inr (.inl V))))), (ad 19, .inr (4, [.ref (ad 20)])), (ad 20, .inl (kd, 60, .inr (.inr (.inr (.inl F))))), (ad 21, .inr (2, [.double e0, .double e1, .double e2, .double e3, .double e4]))]) [(ad 0, .inr (6, [.ref (ad 1), .ref (ad 8), .ref (ad 14), .ref (ad 21), .ref (ad 22), .ref (ad 23)])), (ad 14, .inr (1, [.ref (ad 15), .ref (ad 17), .ref (ad 19), .int (nI kn)])), (ad 15, .inr (4, [.ref (ad 16)])), (ad 16, .inl (kd, 60, .inr (.inr (.inr (.inl P))))), (ad 17, .inr (4, [.ref (ad 18)])), (ad 18, .inl (kd, 60, .inr (.inr (.inr (.inl V))))), (ad 19, .inr (4, [.ref (ad 20)])), (ad 20, .inl (kd, 60, .inr (.inr (.inr (.inl F))))), (ad 21, .inr (2, [.double e0, .double e1, .double e2, .double e3, .double e4]))] → va_S (my_A [(ad 0, .inr (6, [.ref (ad 1), .ref (ad 8), .ref (ad 14), .ref (ad 21), .ref (ad 22), .ref (ad 23)])), (ad 14, .inr (1, [.ref (ad 15), .ref (ad 17), .ref (ad 19), .int (nI kn)])), (ad 15, .inr (4, [.ref (ad 16)])), (ad 16, .inl (kd, 60, .inr (.inr (.inr (.inl P))))), (ad 17, .inr (4, [.ref (ad 18)])), (ad 18, .inl (kd, 60, .inr (.inr (.inr (.inl V))))), (ad 19, .inr (4, [.ref (ad 20)])), (ad 20, .inl (kd, 60, .inr (.inr (.inr (.inl F))))), (ad 21, .inr (2, [.double e0, .double e1, .double e2, .double e3, .double e4]))]) s.heap H locs → W p l e ({ frames := 5, cells := 0, slots := 0, locals := 121 }) s m ([.ref (ad 0), .double x] : List Value).toArray below meth c H locs 0 0 (my_WQ below D ([.ref (ad 0), .double x] : List Value).toArray s [(ad 0, .inr (6, [.ref (ad 1), .ref (ad 8), .ref (ad 14), .ref (ad 21), .ref (ad 22), .ref (ad 23)])), (ad 14, .inr (1, [.ref (ad 15), .ref (ad 17), .ref (ad 19), .int (nI kn)])), (ad 15, .inr (4, [.ref (ad 16)])), (ad 16, .inl (kd, 60, .inr (.inr (.inr (.inl P))))), (ad 17, .inr (4, [.ref (ad 18)])), (ad 18, .inl (kd, 60, .inr (.inr (.inr (.inl V))))), (ad 19, .inr (4, [.ref (ad 20)])), (ad 20, .inl (kd, 60, .inr (.inr (.inr (.inl F))))), (ad 21, .inr (2, [.double e0, .double e1, .double e2, .double e3, .double e4]))] [(ad 0, .inr (6, [.ref (ad 1), .ref (ad 8), .ref (ad 14), .ref (ad 21), .ref (ad 22), .ref (ad 23)])), (ad 14, .inr (1, [.ref (ad 15), .ref (ad 17), .ref (ad 19), .int (nI kn)])), (ad 15, .inr (4, [.ref (ad 16)])), (ad 16, .inl (kd, 60, .inr (.inr (.inr (.inl P))))), (ad 17, .inr (4, [.ref (ad 18)])), (ad 18, .inl (kd, 60, .inr (.inr (.inr (.inl V))))), (ad 19, .inr (4, [.ref (ad 20)])), (ad 20, .inl (kd, 60, .inr (.inr (.inr (.inl F))))), (ad 21, .inr (2, [.double (P (s_pc P kn x)), .double (V (s_pc P kn x)), .double (s_s P V F kn (s_pc P kn x)), .double (s_pk P V F kn (s_pc P kn x)), .double (s_qk P V F kn (s_pc P kn x))]))] (some (.double (s_at2 P V F kn x)))) (F0 m 0 ls []) from K0 _ _ hP hD hS
  intro H locs hP hD hS
  have hJ := hI.1
  have hkn := hJ.2.1
  have hkn2 := hJ.1
  have hlt := s_pc_lt (P := P) (x := x) hkn2
  refine lv_aload_n hx hb dX6_areaUpTo_0 rfl (lv_at hl 0 rfl) ?_
  refine va_get (D := D) (ci := 6) (v := .ref (ad 14)) (C := RX6) (T := TX6) (N := 6) hx hb hts iw_X6_areaUpTo_X6 hown hC.1 hP 0 rfl rfl 2 (by decide) (hts (.fieldLink RX6 26 "MonotoneSpline" "knots" "LMonotoneSpline$Knots;") (List.mem_of_getElem? (l := wsX6_areaUpTo) (i := 1) rfl)) (fun _ h9 => h9) rfl dX6_areaUpTo_1 ?_
  refine lv_dload_n hx hb dX6_areaUpTo_4 rfl (lv_at hl 1 rfl) ?_
  refine my_goR (v := (some (.int (nI (s_pc P kn x))))) (my_runV (bytes := cX1_pieceAt) (maxL := 4) (ret := (some .int)) (n := 1) (As := [.double x]) (rest := []) S hl.1 (kk_X1_pieceAt l D kd ki kz kl z ad kn P x (by omega) (by omega)) rfl ⟨rfl, rfl⟩ gX6_areaUpTo_X1_pieceAt (by decide +kernel) rfl ⟨Nat.le_of_ble_eq_true rfl, Nat.le_of_ble_eq_true rfl⟩ (my_preR (my_C_S hC hS hz) (my_P_sub (wc := [(ad 14, .inr (1, [.ref (ad 15), .ref (ad 17), .ref (ad 19), .int (nI kn)])), (ad 15, .inr (4, [.ref (ad 16)])), (ad 16, .inl (kd, 60, .inr (.inr (.inr (.inl P)))))]) hP [1, 2, 3] rfl)) (va_recv hC.1 hP (ci := 1) (q0 := 1) rfl rfl) rfl rfl dX6_areaUpTo_5) ?_
  refine W.eq (g2 := F0 m 8 ls [.int (nI (s_pc P kn x))]) rfl ?_
  refine lv_istore_n (lv' := [(3, .int (nI (s_pc P kn x))), (0, .ref (ad 0)), (1, .double x)]) hx hb dX6_areaUpTo_8 rfl hl (by decide) rfl (fun ls hl => ?_)
  refine lv_dconst0 hx hb dX6_areaUpTo_9 ?_
  refine my_topd (w := 0) (by decide) ?_
  refine my_topd (w := s_as P V F kn 0) (rfl) ?_
  refine lv_dstore (lv' := [(4, .double (s_as P V F kn 0)), (3, .int (nI (s_pc P kn x))), (0, .ref (ad 0)), (1, .double x)]) hx hb dX6_areaUpTo_10 hl (by decide) rfl (fun ls hl => ?_)
  refine lv_iconst (v := 0) hx hb dX6_areaUpTo_12 (by decide) ?_
  refine lv_istore (lv' := [(6, .int 0), (4, .double (s_as P V F kn 0)), (3, .int (nI (s_pc P kn x))), (0, .ref (ad 0)), (1, .double x)]) hx hb dX6_areaUpTo_13 hl (by decide) rfl (fun ls hl => ?_)
  have loop_15 : ∀ (n9 : Nat) (k : Nat) (q0 : UInt64) (q1 : UInt64) (q2 : UInt64) (q3 : UInt64) (q4 : UInt64), (s_pc P kn x) - k < n9 → ∀ (hk : k ≤ s_pc P kn x) (H : Heap) (locs : List Loc) (hP : va_P D vwCl [(ad 0, .inr (6, [.ref (ad 1), .ref (ad 8), .ref (ad 14), .ref (ad 21), .ref (ad 22), .ref (ad 23)])), (ad 14, .inr (1, [.ref (ad 15), .ref (ad 17), .ref (ad 19), .int (nI kn)])), (ad 15, .inr (4, [.ref (ad 16)])), (ad 16, .inl (kd, 60, .inr (.inr (.inr (.inl P))))), (ad 17, .inr (4, [.ref (ad 18)])), (ad 18, .inl (kd, 60, .inr (.inr (.inr (.inl V))))), (ad 19, .inr (4, [.ref (ad 20)])), (ad 20, .inl (kd, 60, .inr (.inr (.inr (.inl F))))), (ad 21, .inr (2, [.double q0, .double q1, .double q2, .double q3, .double q4]))] H) (hD : va_D (my_A [(ad 0, .inr (6, [.ref (ad 1), .ref (ad 8), .ref (ad 14), .ref (ad 21), .ref (ad 22), .ref (ad 23)])), (ad 14, .inr (1, [.ref (ad 15), .ref (ad 17), .ref (ad 19), .int (nI kn)])), (ad 15, .inr (4, [.ref (ad 16)])), (ad 16, .inl (kd, 60, .inr (.inr (.inr (.inl P))))), (ad 17, .inr (4, [.ref (ad 18)])), (ad 18, .inl (kd, 60, .inr (.inr (.inr (.inl V))))), (ad 19, .inr (4, [.ref (ad 20)])), (ad 20, .inl (kd, 60, .inr (.inr (.inr (.inl F))))), (ad 21, .inr (2, [.double e0, .double e1, .double e2, .double e3, .double e4]))]) [(ad 0, .inr (6, [.ref (ad 1), .ref (ad 8), .ref (ad 14), .ref (ad 21), .ref (ad 22), .ref (ad 23)])), (ad 14, .inr (1, [.ref (ad 15), .ref (ad 17), .ref (ad 19), .int (nI kn)])), (ad 15, .inr (4, [.ref (ad 16)])), (ad 16, .inl (kd, 60, .inr (.inr (.inr (.inl P))))), (ad 17, .inr (4, [.ref (ad 18)])), (ad 18, .inl (kd, 60, .inr (.inr (.inr (.inl V))))), (ad 19, .inr (4, [.ref (ad 20)])), (ad 20, .inl (kd, 60, .inr (.inr (.inr (.inl F))))), (ad 21, .inr (2, [.double q0, .double q1, .double q2, .double q3, .double q4]))]) (hS : va_S (my_A [(ad 0, .inr (6, [.ref (ad 1), .ref (ad 8), .ref (ad 14), .ref (ad 21), .ref (ad 22), .ref (ad 23)])), (ad 14, .inr (1, [.ref (ad 15), .ref (ad 17), .ref (ad 19), .int (nI kn)])), (ad 15, .inr (4, [.ref (ad 16)])), (ad 16, .inl (kd, 60, .inr (.inr (.inr (.inl P))))), (ad 17, .inr (4, [.ref (ad 18)])), (ad 18, .inl (kd, 60, .inr (.inr (.inr (.inl V))))), (ad 19, .inr (4, [.ref (ad 20)])), (ad 20, .inl (kd, 60, .inr (.inr (.inr (.inl F))))), (ad 21, .inr (2, [.double e0, .double e1, .double e2, .double e3, .double e4]))]) s.heap H locs) (ls : Array Slot) (hl : lv_has ls 7 [(6, .int (nI k)), (4, .double (s_as P V F kn k)), (3, .int (nI (s_pc P kn x))), (0, .ref (ad 0)), (1, .double x)]), W p l e ({ frames := 5, cells := 0, slots := 0, locals := 121 }) s m ([.ref (ad 0), .double x] : List Value).toArray below meth c H locs 0 0 (my_WQ below D ([.ref (ad 0), .double x] : List Value).toArray s [(ad 0, .inr (6, [.ref (ad 1), .ref (ad 8), .ref (ad 14), .ref (ad 21), .ref (ad 22), .ref (ad 23)])), (ad 14, .inr (1, [.ref (ad 15), .ref (ad 17), .ref (ad 19), .int (nI kn)])), (ad 15, .inr (4, [.ref (ad 16)])), (ad 16, .inl (kd, 60, .inr (.inr (.inr (.inl P))))), (ad 17, .inr (4, [.ref (ad 18)])), (ad 18, .inl (kd, 60, .inr (.inr (.inr (.inl V))))), (ad 19, .inr (4, [.ref (ad 20)])), (ad 20, .inl (kd, 60, .inr (.inr (.inr (.inl F))))), (ad 21, .inr (2, [.double e0, .double e1, .double e2, .double e3, .double e4]))] [(ad 0, .inr (6, [.ref (ad 1), .ref (ad 8), .ref (ad 14), .ref (ad 21), .ref (ad 22), .ref (ad 23)])), (ad 14, .inr (1, [.ref (ad 15), .ref (ad 17), .ref (ad 19), .int (nI kn)])), (ad 15, .inr (4, [.ref (ad 16)])), (ad 16, .inl (kd, 60, .inr (.inr (.inr (.inl P))))), (ad 17, .inr (4, [.ref (ad 18)])), (ad 18, .inl (kd, 60, .inr (.inr (.inr (.inl V))))), (ad 19, .inr (4, [.ref (ad 20)])), (ad 20, .inl (kd, 60, .inr (.inr (.inr (.inl F))))), (ad 21, .inr (2, [.double (P (s_pc P kn x)), .double (V (s_pc P kn x)), .double (s_s P V F kn (s_pc P kn x)), .double (s_pk P V F kn (s_pc P kn x)), .double (s_qk P V F kn (s_pc P kn x))]))] (some (.double (s_at2 P V F kn x)))) (F0 m 15 ls []) := by
    intro n9
    induction n9 with
    | zero => intro k q0 q1 q2 q3 q4 h9; exact absurd h9 (Nat.not_lt_zero _)
    | succ n9 ih_15 =>
      intro k q0 q1 q2 q3 q4 h9 hk H locs hP hD hS ls hl
      refine lv_iload hx hb dX6_areaUpTo_15 (lv_at hl 0 rfl) ?_
      refine lv_iload_n hx hb dX6_areaUpTo_17 rfl (lv_at hl 2 rfl) ?_
      refine lv_icmp_ge (tgt := 59) hx hb dX6_areaUpTo_18 (by decide) (fun c_18 => ?_) (fun c_18 => ?_)
      · have c_18 : s_pc P kn x ≤ k := (nI_leI (a := s_pc P kn x) (b := k) (by omega) (by omega)).mp c_18
        obtain rfl : k = s_pc P kn x := by omega
        refine lv_aload_n hx hb dX6_areaUpTo_59 rfl (lv_at hl 3 rfl) ?_
        refine lv_iload_n hx hb dX6_areaUpTo_60 rfl (lv_at hl 2 rfl) ?_
        refine my_goW (v := none) (w1 := [(ad 0, .inr (6, [.ref (ad 1), .ref (ad 8), .ref (ad 14), .ref (ad 21), .ref (ad 22), .ref (ad 23)])), (ad 14, .inr (1, [.ref (ad 15), .ref (ad 17), .ref (ad 19), .int (nI kn)])), (ad 15, .inr (4, [.ref (ad 16)])), (ad 16, .inl (kd, 60, .inr (.inr (.inr (.inl P))))), (ad 17, .inr (4, [.ref (ad 18)])), (ad 18, .inl (kd, 60, .inr (.inr (.inr (.inl V))))), (ad 19, .inr (4, [.ref (ad 20)])), (ad 20, .inl (kd, 60, .inr (.inr (.inr (.inl F))))), (ad 21, .inr (2, [.double (P (s_pc P kn x)), .double (V (s_pc P kn x)), .double (s_s P V F kn (s_pc P kn x)), .double (s_pk P V F kn (s_pc P kn x)), .double (s_qk P V F kn (s_pc P kn x))]))]) (wx' := [(ad 0, .inr (6, [.ref (ad 1), .ref (ad 8), .ref (ad 14), .ref (ad 21), .ref (ad 22), .ref (ad 23)])), (ad 14, .inr (1, [.ref (ad 15), .ref (ad 17), .ref (ad 19), .int (nI kn)])), (ad 15, .inr (4, [.ref (ad 16)])), (ad 16, .inl (kd, 60, .inr (.inr (.inr (.inl P))))), (ad 17, .inr (4, [.ref (ad 18)])), (ad 18, .inl (kd, 60, .inr (.inr (.inr (.inl V))))), (ad 19, .inr (4, [.ref (ad 20)])), (ad 20, .inl (kd, 60, .inr (.inr (.inr (.inl F))))), (ad 21, .inr (2, [.double (P (s_pc P kn x)), .double (V (s_pc P kn x)), .double (s_s P V F kn (s_pc P kn x)), .double (s_pk P V F kn (s_pc P kn x)), .double (s_qk P V F kn (s_pc P kn x))]))]) (my_runV (bytes := cX6_layPiece) (maxL := 2) (ret := none) (n := 1) (As := [.int (nI (s_pc P kn x))]) (rest := []) S hl.1 (kk_X6_layPiece l D kd ki kz kl z ad kn P V F (s_pc P kn x) q0 q1 q2 q3 q4 (hI) (by omega)) rfl ⟨rfl, rfl⟩ gX6_areaUpTo_X6_layPiece (by decide +kernel) rfl ⟨Nat.le_of_ble_eq_true rfl, Nat.le_of_ble_eq_true rfl⟩ (my_preW (my_C_S hC hS hz) (my_P_sub (wc := [(ad 0, .inr (6, [.ref (ad 1), .ref (ad 8), .ref (ad 14), .ref (ad 21), .ref (ad 22), .ref (ad 23)])), (ad 14, .inr (1, [.ref (ad 15), .ref (ad 17), .ref (ad 19), .int (nI kn)])), (ad 15, .inr (4, [.ref (ad 16)])), (ad 16, .inl (kd, 60, .inr (.inr (.inr (.inl P))))), (ad 17, .inr (4, [.ref (ad 18)])), (ad 18, .inl (kd, 60, .inr (.inr (.inr (.inl V))))), (ad 19, .inr (4, [.ref (ad 20)])), (ad 20, .inl (kd, 60, .inr (.inr (.inr (.inl F))))), (ad 21, .inr (2, [.double q0, .double q1, .double q2, .double q3, .double q4]))]) hP [0, 1, 2, 3, 4, 5, 6, 7, 8] rfl) (my_D_sub hD hz [0, 1, 2, 3, 4, 5, 6, 7, 8] (by decide) rfl)) (va_recv hC.1 hP (ci := 6) (q0 := 0) rfl rfl) rfl rfl dX6_areaUpTo_61) hP hD hS [0, 1, 2, 3, 4, 5, 6, 7, 8] rfl rfl rfl (fun H locs hP hD hS => ?_)
        refine W.eq (g2 := F0 m 64 ls []) rfl ?_
        refine lv_dload hx hb dX6_areaUpTo_64 (lv_at hl 1 rfl) ?_
        refine lv_aload_n hx hb dX6_areaUpTo_66 rfl (lv_at hl 3 rfl) ?_
        refine va_get (D := D) (ci := 6) (v := .ref (ad 21)) (C := RX6) (T := TX6) (N := 6) hx hb hts iw_X6_areaUpTo_X6 hown hC.1 hP 0 rfl rfl 3 (by decide) (hts (.fieldLink RX6 33 "MonotoneSpline" "piece" "LMonotoneSpline$Piece;") (List.mem_of_getElem? (l := wsX6_areaUpTo) (i := 2) rfl)) (fun _ h9 => h9) rfl dX6_areaUpTo_67 ?_
        refine lv_dload_n hx hb dX6_areaUpTo_70 rfl (lv_at hl 4 rfl) ?_
        refine my_goR (v := (some (.double (s_pt (V (s_pc P kn x)) (s_s P V F kn (s_pc P kn x)) (s_pk P V F kn (s_pc P kn x)) (s_qk P V F kn (s_pc P kn x)) (FP.dsub x (P (s_pc P kn x))))))) (my_runV (bytes := cX2_partUpTo) (maxL := 5) (ret := (some .double)) (n := 1) (As := [.double x]) (rest := [.double (s_as P V F kn (s_pc P kn x))]) S hl.1 (kk_X2_partUpTo l D kd ki kz kl z ad (P (s_pc P kn x)) (V (s_pc P kn x)) (s_s P V F kn (s_pc P kn x)) (s_pk P V F kn (s_pc P kn x)) (s_qk P V F kn (s_pc P kn x)) x (PE_of hI (by omega)) (PE_x hI (by omega) hxB)) rfl ⟨rfl, rfl⟩ gX6_areaUpTo_X2_partUpTo (by decide +kernel) rfl ⟨Nat.le_of_ble_eq_true rfl, Nat.le_of_ble_eq_true rfl⟩ (my_preR (my_C_S hC hS hz) (my_P_sub (wc := [(ad 21, .inr (2, [.double (P (s_pc P kn x)), .double (V (s_pc P kn x)), .double (s_s P V F kn (s_pc P kn x)), .double (s_pk P V F kn (s_pc P kn x)), .double (s_qk P V F kn (s_pc P kn x))]))]) hP [8] rfl)) (va_recv hC.1 hP (ci := 2) (q0 := 8) rfl rfl) rfl rfl dX6_areaUpTo_71) ?_
        refine W.eq (g2 := F0 m 74 ls [.double (s_pt (V (s_pc P kn x)) (s_s P V F kn (s_pc P kn x)) (s_pk P V F kn (s_pc P kn x)) (s_qk P V F kn (s_pc P kn x)) (FP.dsub x (P (s_pc P kn x)))), .double (s_as P V F kn (s_pc P kn x))]) rfl ?_
        refine lv_dadd hx hb dX6_areaUpTo_74 (fx_n64 (fx_B_n (fx_Ba (M := 1830) (s_as_B hI _ (by omega)) (PE_p (PE_of hI (by omega)) (PE_x hI (by omega) hxB)).2.2.2.2.2.2.2.2.2 (by omega) (by omega) (by omega)) (by omega))) ?_
        exact my_dretW hx hb hr hlocks hP (rfl) hS (rfl) dX6_areaUpTo_75
      · have c_18 : ¬ s_pc P kn x ≤ k := fun h9 => c_18 ((nI_leI (a := s_pc P kn x) (b := k) (by omega) (by omega)).mpr h9)
        refine lv_aload_n hx hb dX6_areaUpTo_21 rfl (lv_at hl 3 rfl) ?_
        refine lv_iload hx hb dX6_areaUpTo_22 (lv_at hl 0 rfl) ?_
        refine my_goW (v := none) (w1 := [(ad 0, .inr (6, [.ref (ad 1), .ref (ad 8), .ref (ad 14), .ref (ad 21), .ref (ad 22), .ref (ad 23)])), (ad 14, .inr (1, [.ref (ad 15), .ref (ad 17), .ref (ad 19), .int (nI kn)])), (ad 15, .inr (4, [.ref (ad 16)])), (ad 16, .inl (kd, 60, .inr (.inr (.inr (.inl P))))), (ad 17, .inr (4, [.ref (ad 18)])), (ad 18, .inl (kd, 60, .inr (.inr (.inr (.inl V))))), (ad 19, .inr (4, [.ref (ad 20)])), (ad 20, .inl (kd, 60, .inr (.inr (.inr (.inl F))))), (ad 21, .inr (2, [.double (P k), .double (V k), .double (s_s P V F kn k), .double (s_pk P V F kn k), .double (s_qk P V F kn k)]))]) (wx' := [(ad 0, .inr (6, [.ref (ad 1), .ref (ad 8), .ref (ad 14), .ref (ad 21), .ref (ad 22), .ref (ad 23)])), (ad 14, .inr (1, [.ref (ad 15), .ref (ad 17), .ref (ad 19), .int (nI kn)])), (ad 15, .inr (4, [.ref (ad 16)])), (ad 16, .inl (kd, 60, .inr (.inr (.inr (.inl P))))), (ad 17, .inr (4, [.ref (ad 18)])), (ad 18, .inl (kd, 60, .inr (.inr (.inr (.inl V))))), (ad 19, .inr (4, [.ref (ad 20)])), (ad 20, .inl (kd, 60, .inr (.inr (.inr (.inl F))))), (ad 21, .inr (2, [.double (P k), .double (V k), .double (s_s P V F kn k), .double (s_pk P V F kn k), .double (s_qk P V F kn k)]))]) (my_runV (bytes := cX6_layPiece) (maxL := 2) (ret := none) (n := 1) (As := [.int (nI k)]) (rest := []) S hl.1 (kk_X6_layPiece l D kd ki kz kl z ad kn P V F k q0 q1 q2 q3 q4 (hI) (by omega)) rfl ⟨rfl, rfl⟩ gX6_areaUpTo_X6_layPiece (by decide +kernel) rfl ⟨Nat.le_of_ble_eq_true rfl, Nat.le_of_ble_eq_true rfl⟩ (my_preW (my_C_S hC hS hz) (my_P_sub (wc := [(ad 0, .inr (6, [.ref (ad 1), .ref (ad 8), .ref (ad 14), .ref (ad 21), .ref (ad 22), .ref (ad 23)])), (ad 14, .inr (1, [.ref (ad 15), .ref (ad 17), .ref (ad 19), .int (nI kn)])), (ad 15, .inr (4, [.ref (ad 16)])), (ad 16, .inl (kd, 60, .inr (.inr (.inr (.inl P))))), (ad 17, .inr (4, [.ref (ad 18)])), (ad 18, .inl (kd, 60, .inr (.inr (.inr (.inl V))))), (ad 19, .inr (4, [.ref (ad 20)])), (ad 20, .inl (kd, 60, .inr (.inr (.inr (.inl F))))), (ad 21, .inr (2, [.double q0, .double q1, .double q2, .double q3, .double q4]))]) hP [0, 1, 2, 3, 4, 5, 6, 7, 8] rfl) (my_D_sub hD hz [0, 1, 2, 3, 4, 5, 6, 7, 8] (by decide) rfl)) (va_recv hC.1 hP (ci := 6) (q0 := 0) rfl rfl) rfl rfl dX6_areaUpTo_24) hP hD hS [0, 1, 2, 3, 4, 5, 6, 7, 8] rfl rfl rfl (fun H locs hP hD hS => ?_)
        refine W.eq (g2 := F0 m 27 ls []) rfl ?_
        refine lv_dload hx hb dX6_areaUpTo_27 (lv_at hl 1 rfl) ?_
        refine lv_aload_n hx hb dX6_areaUpTo_29 rfl (lv_at hl 3 rfl) ?_
        refine va_get (D := D) (ci := 6) (v := .ref (ad 21)) (C := RX6) (T := TX6) (N := 6) hx hb hts iw_X6_areaUpTo_X6 hown hC.1 hP 0 rfl rfl 3 (by decide) (hts (.fieldLink RX6 33 "MonotoneSpline" "piece" "LMonotoneSpline$Piece;") (List.mem_of_getElem? (l := wsX6_areaUpTo) (i := 2) rfl)) (fun _ h9 => h9) rfl dX6_areaUpTo_30 ?_
        refine lv_aload_n hx hb dX6_areaUpTo_33 rfl (lv_at hl 3 rfl) ?_
        refine va_get (D := D) (ci := 6) (v := .ref (ad 14)) (C := RX6) (T := TX6) (N := 6) hx hb hts iw_X6_areaUpTo_X6 hown hC.1 hP 0 rfl rfl 2 (by decide) (hts (.fieldLink RX6 26 "MonotoneSpline" "knots" "LMonotoneSpline$Knots;") (List.mem_of_getElem? (l := wsX6_areaUpTo) (i := 1) rfl)) (fun _ h9 => h9) rfl dX6_areaUpTo_34 ?_
        refine va_getN (D := D) (ci := 1) (v := .ref (ad 15)) (C := RX1) (T := TX1) (N := 4) hx hb hts iw_X6_areaUpTo_X1 hown hC.1 hP 1 rfl rfl 0 (by decide) (va_Nw.use (w := .fieldLinkNest "MonotoneSpline" 146 "MonotoneSpline$Knots" "places" "LMonotoneSpline$Row;" "MonotoneSpline") rfl (hC.2.1 _ (List.mem_of_getElem? (l := my_nest) (i := 8) rfl))) (fun _ h9 => h9) rfl dX6_areaUpTo_37 ?_
        refine lv_iload hx hb dX6_areaUpTo_40 (lv_at hl 0 rfl) ?_
        refine lv_iconst (v := 1) hx hb dX6_areaUpTo_42 (by decide) ?_
        refine my_iadd (w := nI (k + 1)) hx hb dX6_areaUpTo_43 (nI_add k 1) ?_
        refine my_goR (v := (some (.double (P (k + 1))))) (my_runV (bytes := cX4_get) (maxL := 2) (ret := (some .double)) (n := 1) (As := [.int (nI (k + 1))]) (rest := [.ref (ad 21), .double (s_as P V F kn k)]) S hl.1 (kk_X4_get l D kd ki kz kl z (ad 15) (ad 16) 60 P (k + 1) (by omega) (by omega)) rfl ⟨rfl, rfl⟩ gX6_areaUpTo_X4_get (by decide +kernel) rfl ⟨Nat.le_of_ble_eq_true rfl, Nat.le_of_ble_eq_true rfl⟩ (my_preR (my_C_S hC hS hz) (my_P_sub (wc := [(ad 15, .inr (4, [.ref (ad 16)])), (ad 16, .inl (kd, 60, .inr (.inr (.inr (.inl P)))))]) hP [2, 3] rfl)) (va_recv hC.1 hP (ci := 4) (q0 := 2) rfl rfl) rfl rfl dX6_areaUpTo_44) ?_
        refine W.eq (g2 := F0 m 47 ls [.double (P (k + 1)), .ref (ad 21), .double (s_as P V F kn k)]) rfl ?_
        refine my_goR (v := (some (.double (s_pt (V k) (s_s P V F kn k) (s_pk P V F kn k) (s_qk P V F kn k) (FP.dsub (P (k + 1)) (P k)))))) (my_runV (bytes := cX2_partUpTo) (maxL := 5) (ret := (some .double)) (n := 1) (As := [.double (P (k + 1))]) (rest := [.double (s_as P V F kn k)]) S hl.1 (kk_X2_partUpTo l D kd ki kz kl z ad (P k) (V k) (s_s P V F kn k) (s_pk P V F kn k) (s_qk P V F kn k) (P (k + 1)) (PE_of hI (by omega)) (PE_x hI (by omega) (fx_B_mono (kJ_P hJ (k := k + 1) (by omega)) (by omega)))) rfl ⟨rfl, rfl⟩ gX6_areaUpTo_X2_partUpTo (by decide +kernel) rfl ⟨Nat.le_of_ble_eq_true rfl, Nat.le_of_ble_eq_true rfl⟩ (my_preR (my_C_S hC hS hz) (my_P_sub (wc := [(ad 21, .inr (2, [.double (P k), .double (V k), .double (s_s P V F kn k), .double (s_pk P V F kn k), .double (s_qk P V F kn k)]))]) hP [8] rfl)) (va_recv hC.1 hP (ci := 2) (q0 := 8) rfl rfl) rfl rfl dX6_areaUpTo_47) ?_
        refine W.eq (g2 := F0 m 50 ls [.double (s_pt (V k) (s_s P V F kn k) (s_pk P V F kn k) (s_qk P V F kn k) (FP.dsub (P (k + 1)) (P k))), .double (s_as P V F kn k)]) rfl ?_
        refine lv_dadd hx hb dX6_areaUpTo_50 (fx_n64 (fx_B_n (s_as_B hI (k + 1) (by omega)) (by omega))) ?_
        refine my_topd (w := s_as P V F kn (k + 1)) (rfl) ?_
        refine lv_dstore (lv' := [(4, .double (s_as P V F kn (k + 1))), (6, .int (nI k)), (3, .int (nI (s_pc P kn x))), (0, .ref (ad 0)), (1, .double x)]) hx hb dX6_areaUpTo_51 hl (by decide) rfl (fun ls hl => ?_)
        refine lv_iinc (v := nI (k + 1)) (k := 1) (lv' := [(6, .int (nI (k + 1))), (4, .double (s_as P V F kn (k + 1))), (3, .int (nI (s_pc P kn x))), (0, .ref (ad 0)), (1, .double x)]) hx hb dX6_areaUpTo_53 hl rfl (nI_add k 1) (by decide) rfl (fun ls hl => ?_)
        refine lv_goto (tgt := 15) hx hb dX6_areaUpTo_56 (by decide) ?_
        exact ih_15 (k + 1) (P k) (V k) (s_s P V F kn k) (s_pk P V F kn k) (s_qk P V F kn k) (by omega) (by omega) _ _ hP hD hS _ (lv_sub hl [0, 1, 2, 3, 4] rfl)
  exact loop_15 _ 0 e0 e1 e2 e3 e4 (Nat.lt_succ_self _) (by omega) _ _ hP hD hS _ (lv_sub hl [0, 1, 2, 3, 4] rfl)

