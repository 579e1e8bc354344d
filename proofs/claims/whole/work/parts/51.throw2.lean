theorem th_h2_65 : ∀ w ∈ (vx_atS RX6 65 "java/lang/IllegalArgumentException" ["java/lang/RuntimeException", "java/lang/Exception"]).filter (fun w => !goodWord w), w ∈ my_bad "java/lang/IllegalArgumentException" := by decide +kernel
theorem th_h2_88 : ∀ w ∈ (vx_atS RX6 88 "java/lang/IllegalStateException" ["java/lang/RuntimeException", "java/lang/Exception"]).filter (fun w => !goodWord w), w ∈ my_bad "java/lang/IllegalStateException" := by decide +kernel
theorem th_h2_261 : ∀ w ∈ (vx_atS RX6 261 "java/lang/IndexOutOfBoundsException" ["java/lang/RuntimeException", "java/lang/Exception"]).filter (fun w => !goodWord w), w ∈ my_bad "java/lang/IndexOutOfBoundsException" := by decide +kernel
theorem th_g_61_65 : ∀ w ∈ Cond.classLink RX6 61 "java/lang/IllegalArgumentException" :: Cond.initialized "java/lang/IllegalArgumentException" :: vx_atS RX6 65 "java/lang/IllegalArgumentException" ["java/lang/RuntimeException", "java/lang/Exception"], vx_ot w = true := by decide +kernel
theorem th_g_84_88 : ∀ w ∈ Cond.classLink RX6 84 "java/lang/IllegalStateException" :: Cond.initialized "java/lang/IllegalStateException" :: vx_atS RX6 88 "java/lang/IllegalStateException" ["java/lang/RuntimeException", "java/lang/Exception"], vx_ot w = true := by decide +kernel
theorem th_g_257_261 : ∀ w ∈ Cond.classLink RX6 257 "java/lang/IndexOutOfBoundsException" :: Cond.initialized "java/lang/IndexOutOfBoundsException" :: vx_atS RX6 261 "java/lang/IndexOutOfBoundsException" ["java/lang/RuntimeException", "java/lang/Exception"], vx_ot w = true := by decide +kernel
set_option maxHeartbeats 4000000 in
set_option maxRecDepth 100000 in
theorem tt_requirePoint (l : Launch) (D : va_G) (kd ki kz kl : ClassId) (z : Nat) (ad : Nat → Nat) (n : Nat) (i : Int32) (hfl : l.stackTraces = false) (hno9 : i < 0 ∨ nI n ≤ i) : my_TX l D kd ki kz kl z yX6_requirePoint wsX6_requirePoint ({ frames := 6, cells := 1, slots := 6, locals := 82 }) [.ref (ad 0), .int i] [(ad 0, .inr (6, [.ref (ad 1), .ref (ad 8), .ref (ad 14), .ref (ad 21), .ref (ad 22), .ref (ad 23)])), (ad 1, .inr (3, [.ref (ad 2), .ref (ad 4), .ref (ad 6), .int (nI n)]))] "java/lang/IndexOutOfBoundsException" := by
  refine my_TX_of (cc := cX6_requirePoint) (maxL := 2) (ret := none) (by decide) rfl (Nat.le_of_ble_eq_true rfl) ?_
  intro p e s m below meth c S hr hlocks hno hC hP ls hl
  have S : CallFix p m c cX6_requirePoint 2 s ([.ref (ad 0), .int i] : List Value).toArray wsX6_requirePoint RX6 := S
  obtain ⟨hx, hb, hml, hown, hts⟩ := id S
  have hl : lv_has ls 2 [(0, .ref (ad 0)), (1, .int i)] := hl
  refine lv_iload_n hx hb dX6_requirePoint_0 rfl (lv_at hl 1 rfl) ?_
  refine lv_if_lt (tgt := 15) hx hb dX6_requirePoint_1 (by decide) (fun c_1 => ?_) (fun c_1 => ?_)
  · skip
    exact my_throwSW (E := "java/lang/IndexOutOfBoundsException") (ik := 257) (is := 259) (ic := 261) (text := "there is no such point") (names := ["java/lang/RuntimeException", "java/lang/Exception"]) S hl.1 hfl hno hlocks hC (by decide +kernel) (by decide +kernel) (List.mem_of_getElem? (l := wsX6_requirePoint) (i := 1) rfl) (List.mem_of_getElem? (l := wsX6_requirePoint) (i := 2) rfl) (List.mem_of_getElem? (l := my_strs) (i := 4) rfl) (fun w hw => List.mem_cons_of_mem _ (List.mem_append_right _ (hw))) (List.mem_of_getElem? (l := my_nest) (i := 22) rfl) (th_h2_261) (th_g_257_261) dX6_requirePoint_15 dX6_requirePoint_18 dX6_requirePoint_19 dX6_requirePoint_22 dX6_requirePoint_25 (by decide)
  · skip
    refine lv_iload_n hx hb dX6_requirePoint_4 rfl (lv_at hl 1 rfl) ?_
    refine lv_aload_n hx hb dX6_requirePoint_5 rfl (lv_at hl 0 rfl) ?_
    refine va_get (D := D) (ci := 6) (v := .ref (ad 1)) (C := RX6) (T := TX6) (N := 6) hx hb hts iw_X6_requirePoint_X6 hown hC.1 hP 0 rfl rfl 0 (by decide) (hts (.fieldLink RX6 10 "MonotoneSpline" "points" "LMonotoneSpline$Points;") (List.mem_of_getElem? (l := wsX6_requirePoint) (i := 3) rfl)) (fun _ h9 => h9) rfl dX6_requirePoint_6 ?_
    refine va_getN (D := D) (ci := 3) (v := .int (nI n)) (C := RX3) (T := TX3) (N := 4) hx hb hts iw_X6_requirePoint_X3 hown hC.1 hP 1 rfl rfl 3 (by decide) (va_Nw.use (w := .fieldLinkNest "MonotoneSpline" 80 "MonotoneSpline$Points" "count" "I" "MonotoneSpline") rfl (hC.2.1 _ (List.mem_of_getElem? (l := my_nest) (i := 4) rfl))) (fun _ h9 => h9) rfl dX6_requirePoint_9 ?_
    refine lv_icmp_lt (tgt := 26) hx hb dX6_requirePoint_12 (by decide) (fun c_12 => ?_) (fun c_12 => ?_)
    · skip
      exact absurd c_12 (Int32.not_lt.mpr (hno9.resolve_left c_1))
    · skip
      exact my_throwSW (E := "java/lang/IndexOutOfBoundsException") (ik := 257) (is := 259) (ic := 261) (text := "there is no such point") (names := ["java/lang/RuntimeException", "java/lang/Exception"]) S hl.1 hfl hno hlocks hC (by decide +kernel) (by decide +kernel) (List.mem_of_getElem? (l := wsX6_requirePoint) (i := 1) rfl) (List.mem_of_getElem? (l := wsX6_requirePoint) (i := 2) rfl) (List.mem_of_getElem? (l := my_strs) (i := 4) rfl) (fun w hw => List.mem_cons_of_mem _ (List.mem_append_right _ (hw))) (List.mem_of_getElem? (l := my_nest) (i := 22) rfl) (th_h2_261) (th_g_257_261) dX6_requirePoint_15 dX6_requirePoint_18 dX6_requirePoint_19 dX6_requirePoint_22 dX6_requirePoint_25 (by decide)

set_option maxHeartbeats 4000000 in
set_option maxRecDepth 100000 in
theorem tt_requireKnot (l : Launch) (D : va_G) (kd ki kz kl : ClassId) (z : Nat) (ad : Nat → Nat) (kn : Nat) (i : Int32) (hfl : l.stackTraces = false) (hno9 : i < 0 ∨ nI kn ≤ i) : my_TX l D kd ki kz kl z yX6_requireKnot wsX6_requireKnot ({ frames := 6, cells := 1, slots := 6, locals := 82 }) [.ref (ad 0), .int i] [(ad 0, .inr (6, [.ref (ad 1), .ref (ad 8), .ref (ad 14), .ref (ad 21), .ref (ad 22), .ref (ad 23)])), (ad 14, .inr (1, [.ref (ad 15), .ref (ad 17), .ref (ad 19), .int (nI kn)]))] "java/lang/IndexOutOfBoundsException" := by
  refine my_TX_of (cc := cX6_requireKnot) (maxL := 2) (ret := none) (by decide) rfl (Nat.le_of_ble_eq_true rfl) ?_
  intro p e s m below meth c S hr hlocks hno hC hP ls hl
  have S : CallFix p m c cX6_requireKnot 2 s ([.ref (ad 0), .int i] : List Value).toArray wsX6_requireKnot RX6 := S
  obtain ⟨hx, hb, hml, hown, hts⟩ := id S
  have hl : lv_has ls 2 [(0, .ref (ad 0)), (1, .int i)] := hl
  refine lv_iload_n hx hb dX6_requireKnot_0 rfl (lv_at hl 1 rfl) ?_
  refine lv_if_lt (tgt := 15) hx hb dX6_requireKnot_1 (by decide) (fun c_1 => ?_) (fun c_1 => ?_)
  · skip
    exact my_throwSW (E := "java/lang/IndexOutOfBoundsException") (ik := 257) (is := 262) (ic := 261) (text := "there is no such knot") (names := ["java/lang/RuntimeException", "java/lang/Exception"]) S hl.1 hfl hno hlocks hC (by decide +kernel) (by decide +kernel) (List.mem_of_getElem? (l := wsX6_requireKnot) (i := 1) rfl) (List.mem_of_getElem? (l := wsX6_requireKnot) (i := 2) rfl) (List.mem_of_getElem? (l := my_strs) (i := 6) rfl) (fun w hw => List.mem_cons_of_mem _ (List.mem_append_right _ (hw))) (List.mem_of_getElem? (l := my_nest) (i := 22) rfl) (th_h2_261) (th_g_257_261) dX6_requireKnot_15 dX6_requireKnot_18 dX6_requireKnot_19 dX6_requireKnot_22 dX6_requireKnot_25 (by decide)
  · skip
    refine lv_iload_n hx hb dX6_requireKnot_4 rfl (lv_at hl 1 rfl) ?_
    refine lv_aload_n hx hb dX6_requireKnot_5 rfl (lv_at hl 0 rfl) ?_
    refine va_get (D := D) (ci := 6) (v := .ref (ad 14)) (C := RX6) (T := TX6) (N := 6) hx hb hts iw_X6_requireKnot_X6 hown hC.1 hP 0 rfl rfl 2 (by decide) (hts (.fieldLink RX6 26 "MonotoneSpline" "knots" "LMonotoneSpline$Knots;") (List.mem_of_getElem? (l := wsX6_requireKnot) (i := 3) rfl)) (fun _ h9 => h9) rfl dX6_requireKnot_6 ?_
    refine va_getN (D := D) (ci := 1) (v := .int (nI kn)) (C := RX1) (T := TX1) (N := 4) hx hb hts iw_X6_requireKnot_X1 hown hC.1 hP 1 rfl rfl 3 (by decide) (va_Nw.use (w := .fieldLinkNest "MonotoneSpline" 136 "MonotoneSpline$Knots" "count" "I" "MonotoneSpline") rfl (hC.2.1 _ (List.mem_of_getElem? (l := my_nest) (i := 11) rfl))) (fun _ h9 => h9) rfl dX6_requireKnot_9 ?_
    refine lv_icmp_lt (tgt := 26) hx hb dX6_requireKnot_12 (by decide) (fun c_12 => ?_) (fun c_12 => ?_)
    · skip
      exact absurd c_12 (Int32.not_lt.mpr (hno9.resolve_left c_1))
    · skip
      exact my_throwSW (E := "java/lang/IndexOutOfBoundsException") (ik := 257) (is := 262) (ic := 261) (text := "there is no such knot") (names := ["java/lang/RuntimeException", "java/lang/Exception"]) S hl.1 hfl hno hlocks hC (by decide +kernel) (by decide +kernel) (List.mem_of_getElem? (l := wsX6_requireKnot) (i := 1) rfl) (List.mem_of_getElem? (l := wsX6_requireKnot) (i := 2) rfl) (List.mem_of_getElem? (l := my_strs) (i := 6) rfl) (fun w hw => List.mem_cons_of_mem _ (List.mem_append_right _ (hw))) (List.mem_of_getElem? (l := my_nest) (i := 22) rfl) (th_h2_261) (th_g_257_261) dX6_requireKnot_15 dX6_requireKnot_18 dX6_requireKnot_19 dX6_requireKnot_22 dX6_requireKnot_25 (by decide)

set_option maxHeartbeats 4000000 in
set_option maxRecDepth 100000 in
theorem tt_requireOnSpline (l : Launch) (D : va_G) (kd ki kz kl : ClassId) (z : Nat) (ad : Nat → Nat) (kn : Nat) (P : Nat → UInt64) (x : UInt64) (hfl : l.stackTraces = false) (hn : kn ≤ 60) (hsp : ¬ (0 < kn ∧ sp_ge x (P 0) ∧ sp_le x (P (kn - 1)))) : my_TX l D kd ki kz kl z yX6_requireOnSpline wsX6_requireOnSpline ({ frames := 6, cells := 1, slots := 6, locals := 82 }) [.ref (ad 0), .double x] [(ad 0, .inr (6, [.ref (ad 1), .ref (ad 8), .ref (ad 14), .ref (ad 21), .ref (ad 22), .ref (ad 23)])), (ad 14, .inr (1, [.ref (ad 15), .ref (ad 17), .ref (ad 19), .int (nI kn)])), (ad 15, .inr (4, [.ref (ad 16)])), (ad 16, .inl (kd, 60, .inr (.inr (.inr (.inl P)))))] "java/lang/IllegalArgumentException" := by
  refine my_TX_of (cc := cX6_requireOnSpline) (maxL := 3) (ret := none) (by decide) rfl (Nat.le_of_ble_eq_true rfl) ?_
  intro p e s m below meth c S hr hlocks hno hC hP ls hl
  have S : CallFix p m c cX6_requireOnSpline 3 s ([.ref (ad 0), .double x] : List Value).toArray wsX6_requireOnSpline RX6 := S
  obtain ⟨hx, hb, hml, hown, hts⟩ := id S
  have hl : lv_has ls 3 [(0, .ref (ad 0)), (1, .double x)] := hl
  refine lv_aload_n hx hb dX6_requireOnSpline_0 rfl (lv_at hl 0 rfl) ?_
  refine va_get (D := D) (ci := 6) (v := .ref (ad 14)) (C := RX6) (T := TX6) (N := 6) hx hb hts iw_X6_requireOnSpline_X6 hown hC.1 hP 0 rfl rfl 2 (by decide) (hts (.fieldLink RX6 26 "MonotoneSpline" "knots" "LMonotoneSpline$Knots;") (List.mem_of_getElem? (l := wsX6_requireOnSpline) (i := 3) rfl)) (fun _ h9 => h9) rfl dX6_requireOnSpline_1 ?_
  refine lv_dload_n hx hb dX6_requireOnSpline_4 rfl (lv_at hl 1 rfl) ?_
  refine my_goR (v := (some (.int (if 0 < kn ∧ sp_ge x (P 0) ∧ sp_le x (P (kn - 1)) then 1 else 0)))) (my_runV (bytes := cX1_spansPlace) (maxL := 3) (ret := (some .boolean)) (n := 1) (As := [.double x]) (rest := []) S hl.1 (kk_X1_spansPlace l D kd ki kz kl z ad kn P x (by omega)) rfl ⟨rfl, rfl⟩ gX6_requireOnSpline_X1_spansPlace (by decide +kernel) rfl ⟨Nat.le_of_ble_eq_true rfl, Nat.le_of_ble_eq_true rfl⟩ (my_preR hC (my_P_sub (wc := [(ad 14, .inr (1, [.ref (ad 15), .ref (ad 17), .ref (ad 19), .int (nI kn)])), (ad 15, .inr (4, [.ref (ad 16)])), (ad 16, .inl (kd, 60, .inr (.inr (.inr (.inl P)))))]) hP [1, 2, 3] rfl)) (va_recv hC.1 hP (ci := 1) (q0 := 1) rfl rfl) rfl rfl dX6_requireOnSpline_5) ?_
  refine W.eq (g2 := F0 m 8 ls [.int (if 0 < kn ∧ sp_ge x (P 0) ∧ sp_le x (P (kn - 1)) then 1 else 0)]) rfl ?_
  by_cases q_hsp : 0 < kn ∧ sp_ge x (P 0) ∧ sp_le x (P (kn - 1))
  · rw [if_pos q_hsp]
    exact absurd q_hsp hsp
  · rw [if_neg q_hsp]
    refine lv_if_ne (tgt := 22) hx hb dX6_requireOnSpline_8 (by decide) (fun c_8 => ?_) (fun c_8 => ?_)
    · skip
      first | exact absurd c_8 (by decide) | exact absurd (by decide) c_8
    · skip
      exact my_throwSW (E := "java/lang/IllegalArgumentException") (ik := 61) (is := 267) (ic := 65) (text := "x is not from the first knot to the last one") (names := ["java/lang/RuntimeException", "java/lang/Exception"]) S hl.1 hfl hno hlocks hC (by decide +kernel) (by decide +kernel) (List.mem_of_getElem? (l := wsX6_requireOnSpline) (i := 1) rfl) (List.mem_of_getElem? (l := wsX6_requireOnSpline) (i := 2) rfl) (List.mem_of_getElem? (l := my_strs) (i := 15) rfl) (fun w hw => List.mem_cons_of_mem _ (List.mem_append_right _ (hw))) (List.mem_of_getElem? (l := my_nest) (i := 20) rfl) (th_h2_65) (th_g_61_65) dX6_requireOnSpline_11 dX6_requireOnSpline_14 dX6_requireOnSpline_15 dX6_requireOnSpline_18 dX6_requireOnSpline_21 (by decide)

set_option maxHeartbeats 4000000 in
set_option maxRecDepth 100000 in
theorem tt_requireEnd (l : Launch) (D : va_G) (kd ki kz kl : ClassId) (z : Nat) (i : Int32) (hfl : l.stackTraces = false) (hno9 : ¬ (i = 0 ∨ i = 1)) : my_TX l D kd ki kz kl z yX6_requireEnd wsX6_requireEnd ({ frames := 6, cells := 1, slots := 6, locals := 82 }) [.int i] [] "java/lang/IndexOutOfBoundsException" := by
  refine my_TX_of (cc := cX6_requireEnd) (maxL := 1) (ret := none) (by decide) rfl (Nat.le_of_ble_eq_true rfl) ?_
  intro p e s m below meth c S hr hlocks hno hC hP ls hl
  have S : CallFix p m c cX6_requireEnd 1 s ([.int i] : List Value).toArray wsX6_requireEnd RX6 := S
  obtain ⟨hx, hb, hml, hown, hts⟩ := id S
  have hl : lv_has ls 1 [(0, .int i)] := hl
  refine lv_iload_n hx hb dX6_requireEnd_0 rfl (lv_at hl 0 rfl) ?_
  refine lv_if_eq (tgt := 20) hx hb dX6_requireEnd_1 (by decide) (fun c_1 => ?_) (fun c_1 => ?_)
  · skip
    exact absurd (Or.inl c_1) hno9
  · skip
    refine lv_iload_n hx hb dX6_requireEnd_4 rfl (lv_at hl 0 rfl) ?_
    refine lv_iconst (v := 1) hx hb dX6_requireEnd_5 (by decide) ?_
    refine lv_icmp_eq (tgt := 20) hx hb dX6_requireEnd_6 (by decide) (fun c_6 => ?_) (fun c_6 => ?_)
    · skip
      exact absurd (Or.inr c_6) hno9
    · skip
      exact my_throwSW (E := "java/lang/IndexOutOfBoundsException") (ik := 257) (is := 269) (ic := 261) (text := "an end is 0 or 1") (names := ["java/lang/RuntimeException", "java/lang/Exception"]) S hl.1 hfl hno hlocks hC (by decide +kernel) (by decide +kernel) (List.mem_of_getElem? (l := wsX6_requireEnd) (i := 1) rfl) (List.mem_of_getElem? (l := wsX6_requireEnd) (i := 2) rfl) (List.mem_of_getElem? (l := my_strs) (i := 17) rfl) (fun w hw => List.mem_cons_of_mem _ (List.mem_append_right _ (hw))) (List.mem_of_getElem? (l := my_nest) (i := 22) rfl) (th_h2_261) (th_g_257_261) dX6_requireEnd_9 dX6_requireEnd_12 dX6_requireEnd_13 dX6_requireEnd_16 dX6_requireEnd_19 (by decide)

set_option maxHeartbeats 4000000 in
set_option maxRecDepth 100000 in
theorem tt_addPoint_a (l : Launch) (D : va_G) (kd ki kz kl : ClassId) (z : Nat) (ad : Nat → Nat) (x : UInt64) (y : UInt64) (wt : UInt64) (hfl : l.stackTraces = false) (hnx : fx_n x) (hny : fx_n y) (hno9 : ¬ ((sp_ge (s_st x) 13920209183539462144 ∧ sp_le (s_st x) 4696837146684686336) ∧ (sp_ge (s_st y) 13920209183539462144 ∧ sp_le (s_st y) 4696837146684686336) ∧ (sp_ge wt 4562254508917369340 ∧ sp_le wt 4652007308841189376))) : my_TX l D kd ki kz kl z yX6_addPoint wsX6_addPoint ({ frames := 6, cells := 1, slots := 6, locals := 82 }) [.ref (ad 0), .double x, .double y, .double wt] [(ad 0, .inr (6, [.ref (ad 1), .ref (ad 8), .ref (ad 14), .ref (ad 21), .ref (ad 22), .ref (ad 23)]))] "java/lang/IllegalArgumentException" := by
  refine my_TX_of (cc := cX6_addPoint) (maxL := 11) (ret := (some .int)) (by decide) rfl (Nat.le_of_ble_eq_true rfl) ?_
  intro p e s m below meth c S hr hlocks hno hC hP ls hl
  have S : CallFix p m c cX6_addPoint 11 s ([.ref (ad 0), .double x, .double y, .double wt] : List Value).toArray wsX6_addPoint RX6 := S
  obtain ⟨hx, hb, hml, hown, hts⟩ := id S
  have hl : lv_has ls 11 [(0, .ref (ad 0)), (1, .double x), (3, .double y), (5, .double wt)] := hl
  refine lv_dload_n hx hb dX6_addPoint_0 rfl (lv_at hl 1 rfl) ?_
  refine my_goR (v := (some (.double (s_st x)))) (my_runS (bytes := cX6_settled) (maxL := 2) (ret := (some .double)) (n := 1) (As := [.double x]) (rest := []) S hl.1 (kk_X6_settled l D kd ki kz kl z x (hnx)) rfl ⟨rfl, rfl⟩ gX6_addPoint_X6_settled (by decide +kernel) rfl ⟨Nat.le_of_ble_eq_true rfl, Nat.le_of_ble_eq_true rfl⟩ (my_preR hC (my_P_sub (wc := []) hP [] rfl)) rfl rfl dX6_addPoint_1) ?_
  refine W.eq (g2 := F0 m 4 ls [.double (s_st x)]) rfl ?_
  refine lv_dstore (lv' := [(7, .double (s_st x)), (0, .ref (ad 0)), (1, .double x), (3, .double y), (5, .double wt)]) hx hb dX6_addPoint_4 hl (by decide) rfl (fun ls hl => ?_)
  refine lv_dload_n hx hb dX6_addPoint_6 rfl (lv_at hl 3 rfl) ?_
  refine my_goR (v := (some (.double (s_st y)))) (my_runS (bytes := cX6_settled) (maxL := 2) (ret := (some .double)) (n := 1) (As := [.double y]) (rest := []) S hl.1 (kk_X6_settled l D kd ki kz kl z y (hny)) rfl ⟨rfl, rfl⟩ gX6_addPoint_X6_settled (by decide +kernel) rfl ⟨Nat.le_of_ble_eq_true rfl, Nat.le_of_ble_eq_true rfl⟩ (my_preR hC (my_P_sub (wc := []) hP [] rfl)) rfl rfl dX6_addPoint_7) ?_
  refine W.eq (g2 := F0 m 10 ls [.double (s_st y)]) rfl ?_
  refine lv_dstore (lv' := [(9, .double (s_st y)), (7, .double (s_st x)), (0, .ref (ad 0)), (1, .double x), (3, .double y), (5, .double wt)]) hx hb dX6_addPoint_10 hl (by decide) rfl (fun ls hl => ?_)
  refine lv_ldc2d hx hb hown (hts (.constantDouble RX6 53 (13920209183539462144)) (List.mem_of_getElem? (l := wsX6_addPoint) (i := 5) rfl)) dX6_addPoint_12 ?_
  refine lv_ldc2d hx hb hown (hts (.constantDouble RX6 55 (4696837146684686336)) (List.mem_of_getElem? (l := wsX6_addPoint) (i := 6) rfl)) dX6_addPoint_15 ?_
  refine lv_dload hx hb dX6_addPoint_18 (lv_at hl 1 rfl) ?_
  refine my_goR (v := (some (.int (if sp_ge (s_st x) 13920209183539462144 ∧ sp_le (s_st x) 4696837146684686336 then 1 else 0)))) (my_runS (bytes := cX6_isFrom) (maxL := 6) (ret := (some .boolean)) (n := 3) (As := [.double 13920209183539462144, .double 4696837146684686336, .double (s_st x)]) (rest := []) S hl.1 (kk_X6_isFrom l D kd ki kz kl z 13920209183539462144 4696837146684686336 (s_st x)) rfl ⟨rfl, rfl⟩ gX6_addPoint_X6_isFrom (by decide +kernel) rfl ⟨Nat.le_of_ble_eq_true rfl, Nat.le_of_ble_eq_true rfl⟩ (my_preR hC (my_P_sub (wc := []) hP [] rfl)) rfl rfl dX6_addPoint_20) ?_
  refine W.eq (g2 := F0 m 23 ls [.int (if sp_ge (s_st x) 13920209183539462144 ∧ sp_le (s_st x) 4696837146684686336 then 1 else 0)]) rfl ?_
  by_cases q1 : sp_ge (s_st x) 13920209183539462144 ∧ sp_le (s_st x) 4696837146684686336
  · rw [if_pos q1]
    refine lv_if_eq (tgt := 40) hx hb dX6_addPoint_23 (by decide) (fun c_23 => ?_) (fun c_23 => ?_)
    · skip
      first | exact absurd c_23 (by decide) | exact absurd (by decide) c_23
    · skip
      refine lv_ldc2d hx hb hown (hts (.constantDouble RX6 53 (13920209183539462144)) (List.mem_of_getElem? (l := wsX6_addPoint) (i := 5) rfl)) dX6_addPoint_26 ?_
      refine lv_ldc2d hx hb hown (hts (.constantDouble RX6 55 (4696837146684686336)) (List.mem_of_getElem? (l := wsX6_addPoint) (i := 6) rfl)) dX6_addPoint_29 ?_
      refine lv_dload hx hb dX6_addPoint_32 (lv_at hl 0 rfl) ?_
      refine my_goR (v := (some (.int (if sp_ge (s_st y) 13920209183539462144 ∧ sp_le (s_st y) 4696837146684686336 then 1 else 0)))) (my_runS (bytes := cX6_isFrom) (maxL := 6) (ret := (some .boolean)) (n := 3) (As := [.double 13920209183539462144, .double 4696837146684686336, .double (s_st y)]) (rest := []) S hl.1 (kk_X6_isFrom l D kd ki kz kl z 13920209183539462144 4696837146684686336 (s_st y)) rfl ⟨rfl, rfl⟩ gX6_addPoint_X6_isFrom (by decide +kernel) rfl ⟨Nat.le_of_ble_eq_true rfl, Nat.le_of_ble_eq_true rfl⟩ (my_preR hC (my_P_sub (wc := []) hP [] rfl)) rfl rfl dX6_addPoint_34) ?_
      refine W.eq (g2 := F0 m 37 ls [.int (if sp_ge (s_st y) 13920209183539462144 ∧ sp_le (s_st y) 4696837146684686336 then 1 else 0)]) rfl ?_
      by_cases q2 : sp_ge (s_st y) 13920209183539462144 ∧ sp_le (s_st y) 4696837146684686336
      · rw [if_pos q2]
        refine lv_if_ne (tgt := 50) hx hb dX6_addPoint_37 (by decide) (fun c_37 => ?_) (fun c_37 => ?_)
        · skip
          refine lv_ldc2d hx hb hown (hts (.constantDouble RX6 68 (4562254508917369340)) (List.mem_of_getElem? (l := wsX6_addPoint) (i := 7) rfl)) dX6_addPoint_50 ?_
          refine lv_ldc2d hx hb hown (hts (.constantDouble RX6 70 (4652007308841189376)) (List.mem_of_getElem? (l := wsX6_addPoint) (i := 8) rfl)) dX6_addPoint_53 ?_
          refine lv_dload hx hb dX6_addPoint_56 (lv_at hl 5 rfl) ?_
          refine my_goR (v := (some (.int (if sp_ge wt 4562254508917369340 ∧ sp_le wt 4652007308841189376 then 1 else 0)))) (my_runS (bytes := cX6_isFrom) (maxL := 6) (ret := (some .boolean)) (n := 3) (As := [.double 4562254508917369340, .double 4652007308841189376, .double wt]) (rest := []) S hl.1 (kk_X6_isFrom l D kd ki kz kl z 4562254508917369340 4652007308841189376 wt) rfl ⟨rfl, rfl⟩ gX6_addPoint_X6_isFrom (by decide +kernel) rfl ⟨Nat.le_of_ble_eq_true rfl, Nat.le_of_ble_eq_true rfl⟩ (my_preR hC (my_P_sub (wc := []) hP [] rfl)) rfl rfl dX6_addPoint_58) ?_
          refine W.eq (g2 := F0 m 61 ls [.int (if sp_ge wt 4562254508917369340 ∧ sp_le wt 4652007308841189376 then 1 else 0)]) rfl ?_
          by_cases q3 : sp_ge wt 4562254508917369340 ∧ sp_le wt 4652007308841189376
          · rw [if_pos q3]
            refine lv_if_ne (tgt := 74) hx hb dX6_addPoint_61 (by decide) (fun c_61 => ?_) (fun c_61 => ?_)
            · skip
              exact absurd ⟨q1, q2, q3⟩ hno9
            · skip
              first | exact absurd c_61 (by decide) | exact absurd (by decide) c_61
          · rw [if_neg q3]
            refine lv_if_ne (tgt := 74) hx hb dX6_addPoint_61 (by decide) (fun c_61 => ?_) (fun c_61 => ?_)
            · skip
              first | exact absurd c_61 (by decide) | exact absurd (by decide) c_61
            · skip
              exact my_throwS (E := "java/lang/IllegalArgumentException") (ik := 61) (is := 72) (ic := 65) (text := "a weight is from 0.001 to 1000") (names := ["java/lang/RuntimeException", "java/lang/Exception"]) S hl.1 hfl hno hlocks hC (by decide +kernel) (by decide +kernel) (List.mem_of_getElem? (l := wsX6_addPoint) (i := 1) rfl) (List.mem_of_getElem? (l := wsX6_addPoint) (i := 2) rfl) (List.mem_of_getElem? (l := my_strs) (i := 1) rfl) (fun w hw => List.mem_cons_of_mem _ (List.mem_append_left _ (List.mem_append_right _ (hw)))) (List.mem_of_getElem? (l := my_nest) (i := 20) rfl) (th_h2_65) (th_g_61_65) dX6_addPoint_64 dX6_addPoint_67 dX6_addPoint_68 dX6_addPoint_70 dX6_addPoint_73 (by decide)
        · skip
          first | exact absurd c_37 (by decide) | exact absurd (by decide) c_37
      · rw [if_neg q2]
        refine lv_if_ne (tgt := 50) hx hb dX6_addPoint_37 (by decide) (fun c_37 => ?_) (fun c_37 => ?_)
        · skip
          first | exact absurd c_37 (by decide) | exact absurd (by decide) c_37
        · skip
          exact my_throwS (E := "java/lang/IllegalArgumentException") (ik := 61) (is := 63) (ic := 65) (text := "x and y are from -1000000 to 1000000") (names := ["java/lang/RuntimeException", "java/lang/Exception"]) S hl.1 hfl hno hlocks hC (by decide +kernel) (by decide +kernel) (List.mem_of_getElem? (l := wsX6_addPoint) (i := 1) rfl) (List.mem_of_getElem? (l := wsX6_addPoint) (i := 2) rfl) (List.mem_of_getElem? (l := my_strs) (i := 0) rfl) (fun w hw => List.mem_cons_of_mem _ (List.mem_append_left _ (List.mem_append_right _ (hw)))) (List.mem_of_getElem? (l := my_nest) (i := 20) rfl) (th_h2_65) (th_g_61_65) dX6_addPoint_40 dX6_addPoint_43 dX6_addPoint_44 dX6_addPoint_46 dX6_addPoint_49 (by decide)
  · rw [if_neg q1]
    refine lv_if_eq (tgt := 40) hx hb dX6_addPoint_23 (by decide) (fun c_23 => ?_) (fun c_23 => ?_)
    · skip
      exact my_throwS (E := "java/lang/IllegalArgumentException") (ik := 61) (is := 63) (ic := 65) (text := "x and y are from -1000000 to 1000000") (names := ["java/lang/RuntimeException", "java/lang/Exception"]) S hl.1 hfl hno hlocks hC (by decide +kernel) (by decide +kernel) (List.mem_of_getElem? (l := wsX6_addPoint) (i := 1) rfl) (List.mem_of_getElem? (l := wsX6_addPoint) (i := 2) rfl) (List.mem_of_getElem? (l := my_strs) (i := 0) rfl) (fun w hw => List.mem_cons_of_mem _ (List.mem_append_left _ (List.mem_append_right _ (hw)))) (List.mem_of_getElem? (l := my_nest) (i := 20) rfl) (th_h2_65) (th_g_61_65) dX6_addPoint_40 dX6_addPoint_43 dX6_addPoint_44 dX6_addPoint_46 dX6_addPoint_49 (by decide)
    · skip
      first | exact absurd c_23 (by decide) | exact absurd (by decide) c_23

set_option maxHeartbeats 4000000 in
set_option maxRecDepth 100000 in
theorem tt_addPoint_b (l : Launch) (D : va_G) (kd ki kz kl : ClassId) (z : Nat) (ad : Nat → Nat) (n : Nat) (X : Nat → UInt64) (x : UInt64) (y : UInt64) (wt : UInt64) (hfl : l.stackTraces = false) (hnx : fx_n x) (hny : fx_n y) (h1 : sp_ge (s_st x) 13920209183539462144 ∧ sp_le (s_st x) 4696837146684686336) (h2 : sp_ge (s_st y) 13920209183539462144 ∧ sp_le (s_st y) 4696837146684686336) (h3 : sp_ge wt 4562254508917369340 ∧ sp_le wt 4652007308841189376) (hxn : ∀ j : Nat, j < n → fx_n (FP.dsub (X j) (s_st x))) (hn : n ≤ 40) (h4 : s_cri X n (s_st x) < n) : my_TX l D kd ki kz kl z yX6_addPoint wsX6_addPoint ({ frames := 6, cells := 1, slots := 6, locals := 82 }) [.ref (ad 0), .double x, .double y, .double wt] [(ad 0, .inr (6, [.ref (ad 1), .ref (ad 8), .ref (ad 14), .ref (ad 21), .ref (ad 22), .ref (ad 23)])), (ad 1, .inr (3, [.ref (ad 2), .ref (ad 4), .ref (ad 6), .int (nI n)])), (ad 2, .inr (4, [.ref (ad 3)])), (ad 3, .inl (kd, 40, .inr (.inr (.inr (.inl X)))))] "java/lang/IllegalArgumentException" := by
  refine my_TX_of (cc := cX6_addPoint) (maxL := 11) (ret := (some .int)) (by decide) rfl (Nat.le_of_ble_eq_true rfl) ?_
  intro p e s m below meth c S hr hlocks hno hC hP ls hl
  have S : CallFix p m c cX6_addPoint 11 s ([.ref (ad 0), .double x, .double y, .double wt] : List Value).toArray wsX6_addPoint RX6 := S
  obtain ⟨hx, hb, hml, hown, hts⟩ := id S
  have hl : lv_has ls 11 [(0, .ref (ad 0)), (1, .double x), (3, .double y), (5, .double wt)] := hl
  refine lv_dload_n hx hb dX6_addPoint_0 rfl (lv_at hl 1 rfl) ?_
  refine my_goR (v := (some (.double (s_st x)))) (my_runS (bytes := cX6_settled) (maxL := 2) (ret := (some .double)) (n := 1) (As := [.double x]) (rest := []) S hl.1 (kk_X6_settled l D kd ki kz kl z x (hnx)) rfl ⟨rfl, rfl⟩ gX6_addPoint_X6_settled (by decide +kernel) rfl ⟨Nat.le_of_ble_eq_true rfl, Nat.le_of_ble_eq_true rfl⟩ (my_preR hC (my_P_sub (wc := []) hP [] rfl)) rfl rfl dX6_addPoint_1) ?_
  refine W.eq (g2 := F0 m 4 ls [.double (s_st x)]) rfl ?_
  refine lv_dstore (lv' := [(7, .double (s_st x)), (0, .ref (ad 0)), (1, .double x), (3, .double y), (5, .double wt)]) hx hb dX6_addPoint_4 hl (by decide) rfl (fun ls hl => ?_)
  refine lv_dload_n hx hb dX6_addPoint_6 rfl (lv_at hl 3 rfl) ?_
  refine my_goR (v := (some (.double (s_st y)))) (my_runS (bytes := cX6_settled) (maxL := 2) (ret := (some .double)) (n := 1) (As := [.double y]) (rest := []) S hl.1 (kk_X6_settled l D kd ki kz kl z y (hny)) rfl ⟨rfl, rfl⟩ gX6_addPoint_X6_settled (by decide +kernel) rfl ⟨Nat.le_of_ble_eq_true rfl, Nat.le_of_ble_eq_true rfl⟩ (my_preR hC (my_P_sub (wc := []) hP [] rfl)) rfl rfl dX6_addPoint_7) ?_
  refine W.eq (g2 := F0 m 10 ls [.double (s_st y)]) rfl ?_
  refine lv_dstore (lv' := [(9, .double (s_st y)), (7, .double (s_st x)), (0, .ref (ad 0)), (1, .double x), (3, .double y), (5, .double wt)]) hx hb dX6_addPoint_10 hl (by decide) rfl (fun ls hl => ?_)
  refine lv_ldc2d hx hb hown (hts (.constantDouble RX6 53 (13920209183539462144)) (List.mem_of_getElem? (l := wsX6_addPoint) (i := 5) rfl)) dX6_addPoint_12 ?_
  refine lv_ldc2d hx hb hown (hts (.constantDouble RX6 55 (4696837146684686336)) (List.mem_of_getElem? (l := wsX6_addPoint) (i := 6) rfl)) dX6_addPoint_15 ?_
  refine lv_dload hx hb dX6_addPoint_18 (lv_at hl 1 rfl) ?_
  refine my_goR (v := (some (.int (if sp_ge (s_st x) 13920209183539462144 ∧ sp_le (s_st x) 4696837146684686336 then 1 else 0)))) (my_runS (bytes := cX6_isFrom) (maxL := 6) (ret := (some .boolean)) (n := 3) (As := [.double 13920209183539462144, .double 4696837146684686336, .double (s_st x)]) (rest := []) S hl.1 (kk_X6_isFrom l D kd ki kz kl z 13920209183539462144 4696837146684686336 (s_st x)) rfl ⟨rfl, rfl⟩ gX6_addPoint_X6_isFrom (by decide +kernel) rfl ⟨Nat.le_of_ble_eq_true rfl, Nat.le_of_ble_eq_true rfl⟩ (my_preR hC (my_P_sub (wc := []) hP [] rfl)) rfl rfl dX6_addPoint_20) ?_
  refine W.eq (g2 := F0 m 23 ls [.int (if sp_ge (s_st x) 13920209183539462144 ∧ sp_le (s_st x) 4696837146684686336 then 1 else 0)]) rfl ?_
  by_cases q_h1 : sp_ge (s_st x) 13920209183539462144 ∧ sp_le (s_st x) 4696837146684686336
  · rw [if_pos q_h1]
    refine lv_if_eq (tgt := 40) hx hb dX6_addPoint_23 (by decide) (fun c_23 => ?_) (fun c_23 => ?_)
    · skip
      first | exact absurd c_23 (by decide) | exact absurd (by decide) c_23
    · skip
      refine lv_ldc2d hx hb hown (hts (.constantDouble RX6 53 (13920209183539462144)) (List.mem_of_getElem? (l := wsX6_addPoint) (i := 5) rfl)) dX6_addPoint_26 ?_
      refine lv_ldc2d hx hb hown (hts (.constantDouble RX6 55 (4696837146684686336)) (List.mem_of_getElem? (l := wsX6_addPoint) (i := 6) rfl)) dX6_addPoint_29 ?_
      refine lv_dload hx hb dX6_addPoint_32 (lv_at hl 0 rfl) ?_
      refine my_goR (v := (some (.int (if sp_ge (s_st y) 13920209183539462144 ∧ sp_le (s_st y) 4696837146684686336 then 1 else 0)))) (my_runS (bytes := cX6_isFrom) (maxL := 6) (ret := (some .boolean)) (n := 3) (As := [.double 13920209183539462144, .double 4696837146684686336, .double (s_st y)]) (rest := []) S hl.1 (kk_X6_isFrom l D kd ki kz kl z 13920209183539462144 4696837146684686336 (s_st y)) rfl ⟨rfl, rfl⟩ gX6_addPoint_X6_isFrom (by decide +kernel) rfl ⟨Nat.le_of_ble_eq_true rfl, Nat.le_of_ble_eq_true rfl⟩ (my_preR hC (my_P_sub (wc := []) hP [] rfl)) rfl rfl dX6_addPoint_34) ?_
      refine W.eq (g2 := F0 m 37 ls [.int (if sp_ge (s_st y) 13920209183539462144 ∧ sp_le (s_st y) 4696837146684686336 then 1 else 0)]) rfl ?_
      by_cases q_h2 : sp_ge (s_st y) 13920209183539462144 ∧ sp_le (s_st y) 4696837146684686336
      · rw [if_pos q_h2]
        refine lv_if_ne (tgt := 50) hx hb dX6_addPoint_37 (by decide) (fun c_37 => ?_) (fun c_37 => ?_)
        · skip
          refine lv_ldc2d hx hb hown (hts (.constantDouble RX6 68 (4562254508917369340)) (List.mem_of_getElem? (l := wsX6_addPoint) (i := 7) rfl)) dX6_addPoint_50 ?_
          refine lv_ldc2d hx hb hown (hts (.constantDouble RX6 70 (4652007308841189376)) (List.mem_of_getElem? (l := wsX6_addPoint) (i := 8) rfl)) dX6_addPoint_53 ?_
          refine lv_dload hx hb dX6_addPoint_56 (lv_at hl 5 rfl) ?_
          refine my_goR (v := (some (.int (if sp_ge wt 4562254508917369340 ∧ sp_le wt 4652007308841189376 then 1 else 0)))) (my_runS (bytes := cX6_isFrom) (maxL := 6) (ret := (some .boolean)) (n := 3) (As := [.double 4562254508917369340, .double 4652007308841189376, .double wt]) (rest := []) S hl.1 (kk_X6_isFrom l D kd ki kz kl z 4562254508917369340 4652007308841189376 wt) rfl ⟨rfl, rfl⟩ gX6_addPoint_X6_isFrom (by decide +kernel) rfl ⟨Nat.le_of_ble_eq_true rfl, Nat.le_of_ble_eq_true rfl⟩ (my_preR hC (my_P_sub (wc := []) hP [] rfl)) rfl rfl dX6_addPoint_58) ?_
          refine W.eq (g2 := F0 m 61 ls [.int (if sp_ge wt 4562254508917369340 ∧ sp_le wt 4652007308841189376 then 1 else 0)]) rfl ?_
          by_cases q_h3 : sp_ge wt 4562254508917369340 ∧ sp_le wt 4652007308841189376
          · rw [if_pos q_h3]
            refine lv_if_ne (tgt := 74) hx hb dX6_addPoint_61 (by decide) (fun c_61 => ?_) (fun c_61 => ?_)
            · skip
              refine lv_aload_n hx hb dX6_addPoint_74 rfl (lv_at hl 2 rfl) ?_
              refine va_get (D := D) (ci := 6) (v := .ref (ad 1)) (C := RX6) (T := TX6) (N := 6) hx hb hts iw_X6_addPoint_X6 hown hC.1 hP 0 rfl rfl 0 (by decide) (hts (.fieldLink RX6 10 "MonotoneSpline" "points" "LMonotoneSpline$Points;") (List.mem_of_getElem? (l := wsX6_addPoint) (i := 9) rfl)) (fun _ h9 => h9) rfl dX6_addPoint_75 ?_
              refine lv_dload hx hb dX6_addPoint_78 (lv_at hl 1 rfl) ?_
              refine my_goR (v := (some (.int (if s_cri X n (s_st x) < n then 1 else 0)))) (my_runV (bytes := cX3_isCrowdedAt) (maxL := 4) (ret := (some .boolean)) (n := 1) (As := [.double (s_st x)]) (rest := []) S hl.1 (kk_X3_isCrowdedAt l D kd ki kz kl z ad n X (s_st x) (by omega) (hxn)) rfl ⟨rfl, rfl⟩ gX6_addPoint_X3_isCrowdedAt (by decide +kernel) rfl ⟨Nat.le_of_ble_eq_true rfl, Nat.le_of_ble_eq_true rfl⟩ (my_preR hC (my_P_sub (wc := [(ad 1, .inr (3, [.ref (ad 2), .ref (ad 4), .ref (ad 6), .int (nI n)])), (ad 2, .inr (4, [.ref (ad 3)])), (ad 3, .inl (kd, 40, .inr (.inr (.inr (.inl X)))))]) hP [1, 2, 3] rfl)) (va_recv hC.1 hP (ci := 3) (q0 := 1) rfl rfl) rfl rfl dX6_addPoint_80) ?_
              refine W.eq (g2 := F0 m 83 ls [.int (if s_cri X n (s_st x) < n then 1 else 0)]) rfl ?_
              by_cases q_h4 : s_cri X n (s_st x) < n
              · rw [if_pos q_h4]
                refine lv_if_eq (tgt := 96) hx hb dX6_addPoint_83 (by decide) (fun c_83 => ?_) (fun c_83 => ?_)
                · skip
                  first | exact absurd c_83 (by decide) | exact absurd (by decide) c_83
                · skip
                  exact my_throwS (E := "java/lang/IllegalArgumentException") (ik := 61) (is := 78) (ic := 65) (text := "there is a point less than 0.001 away") (names := ["java/lang/RuntimeException", "java/lang/Exception"]) S hl.1 hfl hno hlocks hC (by decide +kernel) (by decide +kernel) (List.mem_of_getElem? (l := wsX6_addPoint) (i := 1) rfl) (List.mem_of_getElem? (l := wsX6_addPoint) (i := 2) rfl) (List.mem_of_getElem? (l := my_strs) (i := 2) rfl) (fun w hw => List.mem_cons_of_mem _ (List.mem_append_left _ (List.mem_append_right _ (hw)))) (List.mem_of_getElem? (l := my_nest) (i := 20) rfl) (th_h2_65) (th_g_61_65) dX6_addPoint_86 dX6_addPoint_89 dX6_addPoint_90 dX6_addPoint_92 dX6_addPoint_95 (by decide)
              · rw [if_neg q_h4]
                exact absurd h4 q_h4
            · skip
              first | exact absurd c_61 (by decide) | exact absurd (by decide) c_61
          · rw [if_neg q_h3]
            exact absurd h3 q_h3
        · skip
          first | exact absurd c_37 (by decide) | exact absurd (by decide) c_37
      · rw [if_neg q_h2]
        exact absurd h2 q_h2
  · rw [if_neg q_h1]
    exact absurd h1 q_h1

set_option maxHeartbeats 4000000 in
set_option maxRecDepth 100000 in
theorem tt_addPoint_c (l : Launch) (D : va_G) (kd ki kz kl : ClassId) (z : Nat) (ad : Nat → Nat) (n : Nat) (X : Nat → UInt64) (x : UInt64) (y : UInt64) (wt : UInt64) (hfl : l.stackTraces = false) (hnx : fx_n x) (hny : fx_n y) (h1 : sp_ge (s_st x) 13920209183539462144 ∧ sp_le (s_st x) 4696837146684686336) (h2 : sp_ge (s_st y) 13920209183539462144 ∧ sp_le (s_st y) 4696837146684686336) (h3 : sp_ge wt 4562254508917369340 ∧ sp_le wt 4652007308841189376) (hxn : ∀ j : Nat, j < n → fx_n (FP.dsub (X j) (s_st x))) (hn : n = 40) (h4 : ¬ s_cri X n (s_st x) < n) : my_TX l D kd ki kz kl z yX6_addPoint wsX6_addPoint ({ frames := 6, cells := 1, slots := 6, locals := 82 }) [.ref (ad 0), .double x, .double y, .double wt] [(ad 0, .inr (6, [.ref (ad 1), .ref (ad 8), .ref (ad 14), .ref (ad 21), .ref (ad 22), .ref (ad 23)])), (ad 1, .inr (3, [.ref (ad 2), .ref (ad 4), .ref (ad 6), .int (nI n)])), (ad 2, .inr (4, [.ref (ad 3)])), (ad 3, .inl (kd, 40, .inr (.inr (.inr (.inl X)))))] "java/lang/IllegalStateException" := by
  refine my_TX_of (cc := cX6_addPoint) (maxL := 11) (ret := (some .int)) (by decide) rfl (Nat.le_of_ble_eq_true rfl) ?_
  intro p e s m below meth c S hr hlocks hno hC hP ls hl
  have S : CallFix p m c cX6_addPoint 11 s ([.ref (ad 0), .double x, .double y, .double wt] : List Value).toArray wsX6_addPoint RX6 := S
  obtain ⟨hx, hb, hml, hown, hts⟩ := id S
  have hl : lv_has ls 11 [(0, .ref (ad 0)), (1, .double x), (3, .double y), (5, .double wt)] := hl
  refine lv_dload_n hx hb dX6_addPoint_0 rfl (lv_at hl 1 rfl) ?_
  refine my_goR (v := (some (.double (s_st x)))) (my_runS (bytes := cX6_settled) (maxL := 2) (ret := (some .double)) (n := 1) (As := [.double x]) (rest := []) S hl.1 (kk_X6_settled l D kd ki kz kl z x (hnx)) rfl ⟨rfl, rfl⟩ gX6_addPoint_X6_settled (by decide +kernel) rfl ⟨Nat.le_of_ble_eq_true rfl, Nat.le_of_ble_eq_true rfl⟩ (my_preR hC (my_P_sub (wc := []) hP [] rfl)) rfl rfl dX6_addPoint_1) ?_
  refine W.eq (g2 := F0 m 4 ls [.double (s_st x)]) rfl ?_
  refine lv_dstore (lv' := [(7, .double (s_st x)), (0, .ref (ad 0)), (1, .double x), (3, .double y), (5, .double wt)]) hx hb dX6_addPoint_4 hl (by decide) rfl (fun ls hl => ?_)
  refine lv_dload_n hx hb dX6_addPoint_6 rfl (lv_at hl 3 rfl) ?_
  refine my_goR (v := (some (.double (s_st y)))) (my_runS (bytes := cX6_settled) (maxL := 2) (ret := (some .double)) (n := 1) (As := [.double y]) (rest := []) S hl.1 (kk_X6_settled l D kd ki kz kl z y (hny)) rfl ⟨rfl, rfl⟩ gX6_addPoint_X6_settled (by decide +kernel) rfl ⟨Nat.le_of_ble_eq_true rfl, Nat.le_of_ble_eq_true rfl⟩ (my_preR hC (my_P_sub (wc := []) hP [] rfl)) rfl rfl dX6_addPoint_7) ?_
  refine W.eq (g2 := F0 m 10 ls [.double (s_st y)]) rfl ?_
  refine lv_dstore (lv' := [(9, .double (s_st y)), (7, .double (s_st x)), (0, .ref (ad 0)), (1, .double x), (3, .double y), (5, .double wt)]) hx hb dX6_addPoint_10 hl (by decide) rfl (fun ls hl => ?_)
  refine lv_ldc2d hx hb hown (hts (.constantDouble RX6 53 (13920209183539462144)) (List.mem_of_getElem? (l := wsX6_addPoint) (i := 5) rfl)) dX6_addPoint_12 ?_
  refine lv_ldc2d hx hb hown (hts (.constantDouble RX6 55 (4696837146684686336)) (List.mem_of_getElem? (l := wsX6_addPoint) (i := 6) rfl)) dX6_addPoint_15 ?_
  refine lv_dload hx hb dX6_addPoint_18 (lv_at hl 1 rfl) ?_
  refine my_goR (v := (some (.int (if sp_ge (s_st x) 13920209183539462144 ∧ sp_le (s_st x) 4696837146684686336 then 1 else 0)))) (my_runS (bytes := cX6_isFrom) (maxL := 6) (ret := (some .boolean)) (n := 3) (As := [.double 13920209183539462144, .double 4696837146684686336, .double (s_st x)]) (rest := []) S hl.1 (kk_X6_isFrom l D kd ki kz kl z 13920209183539462144 4696837146684686336 (s_st x)) rfl ⟨rfl, rfl⟩ gX6_addPoint_X6_isFrom (by decide +kernel) rfl ⟨Nat.le_of_ble_eq_true rfl, Nat.le_of_ble_eq_true rfl⟩ (my_preR hC (my_P_sub (wc := []) hP [] rfl)) rfl rfl dX6_addPoint_20) ?_
  refine W.eq (g2 := F0 m 23 ls [.int (if sp_ge (s_st x) 13920209183539462144 ∧ sp_le (s_st x) 4696837146684686336 then 1 else 0)]) rfl ?_
  by_cases q_h1 : sp_ge (s_st x) 13920209183539462144 ∧ sp_le (s_st x) 4696837146684686336
  · rw [if_pos q_h1]
    refine lv_if_eq (tgt := 40) hx hb dX6_addPoint_23 (by decide) (fun c_23 => ?_) (fun c_23 => ?_)
    · skip
      first | exact absurd c_23 (by decide) | exact absurd (by decide) c_23
    · skip
      refine lv_ldc2d hx hb hown (hts (.constantDouble RX6 53 (13920209183539462144)) (List.mem_of_getElem? (l := wsX6_addPoint) (i := 5) rfl)) dX6_addPoint_26 ?_
      refine lv_ldc2d hx hb hown (hts (.constantDouble RX6 55 (4696837146684686336)) (List.mem_of_getElem? (l := wsX6_addPoint) (i := 6) rfl)) dX6_addPoint_29 ?_
      refine lv_dload hx hb dX6_addPoint_32 (lv_at hl 0 rfl) ?_
      refine my_goR (v := (some (.int (if sp_ge (s_st y) 13920209183539462144 ∧ sp_le (s_st y) 4696837146684686336 then 1 else 0)))) (my_runS (bytes := cX6_isFrom) (maxL := 6) (ret := (some .boolean)) (n := 3) (As := [.double 13920209183539462144, .double 4696837146684686336, .double (s_st y)]) (rest := []) S hl.1 (kk_X6_isFrom l D kd ki kz kl z 13920209183539462144 4696837146684686336 (s_st y)) rfl ⟨rfl, rfl⟩ gX6_addPoint_X6_isFrom (by decide +kernel) rfl ⟨Nat.le_of_ble_eq_true rfl, Nat.le_of_ble_eq_true rfl⟩ (my_preR hC (my_P_sub (wc := []) hP [] rfl)) rfl rfl dX6_addPoint_34) ?_
      refine W.eq (g2 := F0 m 37 ls [.int (if sp_ge (s_st y) 13920209183539462144 ∧ sp_le (s_st y) 4696837146684686336 then 1 else 0)]) rfl ?_
      by_cases q_h2 : sp_ge (s_st y) 13920209183539462144 ∧ sp_le (s_st y) 4696837146684686336
      · rw [if_pos q_h2]
        refine lv_if_ne (tgt := 50) hx hb dX6_addPoint_37 (by decide) (fun c_37 => ?_) (fun c_37 => ?_)
        · skip
          refine lv_ldc2d hx hb hown (hts (.constantDouble RX6 68 (4562254508917369340)) (List.mem_of_getElem? (l := wsX6_addPoint) (i := 7) rfl)) dX6_addPoint_50 ?_
          refine lv_ldc2d hx hb hown (hts (.constantDouble RX6 70 (4652007308841189376)) (List.mem_of_getElem? (l := wsX6_addPoint) (i := 8) rfl)) dX6_addPoint_53 ?_
          refine lv_dload hx hb dX6_addPoint_56 (lv_at hl 5 rfl) ?_
          refine my_goR (v := (some (.int (if sp_ge wt 4562254508917369340 ∧ sp_le wt 4652007308841189376 then 1 else 0)))) (my_runS (bytes := cX6_isFrom) (maxL := 6) (ret := (some .boolean)) (n := 3) (As := [.double 4562254508917369340, .double 4652007308841189376, .double wt]) (rest := []) S hl.1 (kk_X6_isFrom l D kd ki kz kl z 4562254508917369340 4652007308841189376 wt) rfl ⟨rfl, rfl⟩ gX6_addPoint_X6_isFrom (by decide +kernel) rfl ⟨Nat.le_of_ble_eq_true rfl, Nat.le_of_ble_eq_true rfl⟩ (my_preR hC (my_P_sub (wc := []) hP [] rfl)) rfl rfl dX6_addPoint_58) ?_
          refine W.eq (g2 := F0 m 61 ls [.int (if sp_ge wt 4562254508917369340 ∧ sp_le wt 4652007308841189376 then 1 else 0)]) rfl ?_
          by_cases q_h3 : sp_ge wt 4562254508917369340 ∧ sp_le wt 4652007308841189376
          · rw [if_pos q_h3]
            refine lv_if_ne (tgt := 74) hx hb dX6_addPoint_61 (by decide) (fun c_61 => ?_) (fun c_61 => ?_)
            · skip
              refine lv_aload_n hx hb dX6_addPoint_74 rfl (lv_at hl 2 rfl) ?_
              refine va_get (D := D) (ci := 6) (v := .ref (ad 1)) (C := RX6) (T := TX6) (N := 6) hx hb hts iw_X6_addPoint_X6 hown hC.1 hP 0 rfl rfl 0 (by decide) (hts (.fieldLink RX6 10 "MonotoneSpline" "points" "LMonotoneSpline$Points;") (List.mem_of_getElem? (l := wsX6_addPoint) (i := 9) rfl)) (fun _ h9 => h9) rfl dX6_addPoint_75 ?_
              refine lv_dload hx hb dX6_addPoint_78 (lv_at hl 1 rfl) ?_
              refine my_goR (v := (some (.int (if s_cri X n (s_st x) < n then 1 else 0)))) (my_runV (bytes := cX3_isCrowdedAt) (maxL := 4) (ret := (some .boolean)) (n := 1) (As := [.double (s_st x)]) (rest := []) S hl.1 (kk_X3_isCrowdedAt l D kd ki kz kl z ad n X (s_st x) (by omega) (hxn)) rfl ⟨rfl, rfl⟩ gX6_addPoint_X3_isCrowdedAt (by decide +kernel) rfl ⟨Nat.le_of_ble_eq_true rfl, Nat.le_of_ble_eq_true rfl⟩ (my_preR hC (my_P_sub (wc := [(ad 1, .inr (3, [.ref (ad 2), .ref (ad 4), .ref (ad 6), .int (nI n)])), (ad 2, .inr (4, [.ref (ad 3)])), (ad 3, .inl (kd, 40, .inr (.inr (.inr (.inl X)))))]) hP [1, 2, 3] rfl)) (va_recv hC.1 hP (ci := 3) (q0 := 1) rfl rfl) rfl rfl dX6_addPoint_80) ?_
              refine W.eq (g2 := F0 m 83 ls [.int (if s_cri X n (s_st x) < n then 1 else 0)]) rfl ?_
              by_cases q_h4 : s_cri X n (s_st x) < n
              · rw [if_pos q_h4]
                exact absurd q_h4 h4
              · rw [if_neg q_h4]
                refine lv_if_eq (tgt := 96) hx hb dX6_addPoint_83 (by decide) (fun c_83 => ?_) (fun c_83 => ?_)
                · skip
                  refine lv_aload_n hx hb dX6_addPoint_96 rfl (lv_at hl 2 rfl) ?_
                  refine va_get (D := D) (ci := 6) (v := .ref (ad 1)) (C := RX6) (T := TX6) (N := 6) hx hb hts iw_X6_addPoint_X6 hown hC.1 hP 0 rfl rfl 0 (by decide) (hts (.fieldLink RX6 10 "MonotoneSpline" "points" "LMonotoneSpline$Points;") (List.mem_of_getElem? (l := wsX6_addPoint) (i := 9) rfl)) (fun _ h9 => h9) rfl dX6_addPoint_97 ?_
                  refine va_getN (D := D) (ci := 3) (v := .int (nI n)) (C := RX3) (T := TX3) (N := 4) hx hb hts iw_X6_addPoint_X3 hown hC.1 hP 1 rfl rfl 3 (by decide) (va_Nw.use (w := .fieldLinkNest "MonotoneSpline" 80 "MonotoneSpline$Points" "count" "I" "MonotoneSpline") rfl (hC.2.1 _ (List.mem_of_getElem? (l := my_nest) (i := 4) rfl))) (fun _ h9 => h9) rfl dX6_addPoint_100 ?_
                  refine lv_bipush (v := 40) hx hb dX6_addPoint_103 (by decide) ?_
                  refine lv_icmp_lt (tgt := 118) hx hb dX6_addPoint_105 (by decide) (fun c_105 => ?_) (fun c_105 => ?_)
                  · have c_105 : n < 40 := (nI_ltI (a := n) (b := 40) (by omega) (by omega)).mp c_105
                    exact absurd c_105 (by omega)
                  · have c_105 : ¬ n < 40 := fun h9 => c_105 ((nI_ltI (a := n) (b := 40) (by omega) (by omega)).mpr h9)
                    exact my_throwS (E := "java/lang/IllegalStateException") (ik := 84) (is := 86) (ic := 88) (text := "there are 40 points") (names := ["java/lang/RuntimeException", "java/lang/Exception"]) S hl.1 hfl hno hlocks hC (by decide +kernel) (by decide +kernel) (List.mem_of_getElem? (l := wsX6_addPoint) (i := 3) rfl) (List.mem_of_getElem? (l := wsX6_addPoint) (i := 4) rfl) (List.mem_of_getElem? (l := my_strs) (i := 3) rfl) (fun w hw => List.mem_cons_of_mem _ (List.mem_append_right _ (hw))) (List.mem_of_getElem? (l := my_nest) (i := 21) rfl) (th_h2_88) (th_g_84_88) dX6_addPoint_108 dX6_addPoint_111 dX6_addPoint_112 dX6_addPoint_114 dX6_addPoint_117 (by decide)
                · skip
                  first | exact absurd c_83 (by decide) | exact absurd (by decide) c_83
            · skip
              first | exact absurd c_61 (by decide) | exact absurd (by decide) c_61
          · rw [if_neg q_h3]
            exact absurd h3 q_h3
        · skip
          first | exact absurd c_37 (by decide) | exact absurd (by decide) c_37
      · rw [if_neg q_h2]
        exact absurd h2 q_h2
  · rw [if_neg q_h1]
    exact absurd h1 q_h1

set_option maxHeartbeats 4000000 in
set_option maxRecDepth 100000 in
theorem tt_removePoint (l : Launch) (D : va_G) (kd ki kz kl : ClassId) (z : Nat) (ad : Nat → Nat) (n : Nat) (i : Int32) (hfl : l.stackTraces = false) (hno9 : i < 0 ∨ nI n ≤ i) : my_TX l D kd ki kz kl z yX6_removePoint wsX6_removePoint ({ frames := 7, cells := 1, slots := 6, locals := 103 }) [.ref (ad 0), .int i] [(ad 0, .inr (6, [.ref (ad 1), .ref (ad 8), .ref (ad 14), .ref (ad 21), .ref (ad 22), .ref (ad 23)])), (ad 1, .inr (3, [.ref (ad 2), .ref (ad 4), .ref (ad 6), .int (nI n)]))] "java/lang/IndexOutOfBoundsException" := by
  refine my_TX_of (cc := cX6_removePoint) (maxL := 2) (ret := (some .int)) (by decide) rfl (Nat.le_of_ble_eq_true rfl) ?_
  intro p e s m below meth c S hr hlocks hno hC hP ls hl
  have S : CallFix p m c cX6_removePoint 2 s ([.ref (ad 0), .int i] : List Value).toArray wsX6_removePoint RX6 := S
  obtain ⟨hx, hb, hml, hown, hts⟩ := id S
  have hl : lv_has ls 2 [(0, .ref (ad 0)), (1, .int i)] := hl
  refine lv_aload_n hx hb dX6_removePoint_0 rfl (lv_at hl 0 rfl) ?_
  refine lv_iload_n hx hb dX6_removePoint_1 rfl (lv_at hl 1 rfl) ?_
  exact my_goX (my_runT (bytes := cX6_requirePoint) (maxL := 2) (ret := none) (n := 1) (As := [.int i]) (rest := []) S hl.1 (tt_requirePoint l D kd ki kz kl z ad n i (hfl) (hno9)) rfl ⟨rfl, rfl⟩ gX6_removePoint_X6_requirePoint (by decide +kernel) rfl (my_preR hC (my_P_sub (wc := [(ad 0, .inr (6, [.ref (ad 1), .ref (ad 8), .ref (ad 14), .ref (ad 21), .ref (ad 22), .ref (ad 23)])), (ad 1, .inr (3, [.ref (ad 2), .ref (ad 4), .ref (ad 6), .int (nI n)]))]) hP [0, 1] rfl)) (va_recv hC.1 hP (ci := 6) (q0 := 0) rfl rfl) rfl rfl dX6_removePoint_2) hno hlocks

set_option maxHeartbeats 4000000 in
set_option maxRecDepth 100000 in
theorem tt_pointPlace (l : Launch) (D : va_G) (kd ki kz kl : ClassId) (z : Nat) (ad : Nat → Nat) (n : Nat) (i : Int32) (hfl : l.stackTraces = false) (hno9 : i < 0 ∨ nI n ≤ i) : my_TX l D kd ki kz kl z yX6_pointPlace wsX6_pointPlace ({ frames := 7, cells := 1, slots := 6, locals := 103 }) [.ref (ad 0), .int i] [(ad 0, .inr (6, [.ref (ad 1), .ref (ad 8), .ref (ad 14), .ref (ad 21), .ref (ad 22), .ref (ad 23)])), (ad 1, .inr (3, [.ref (ad 2), .ref (ad 4), .ref (ad 6), .int (nI n)]))] "java/lang/IndexOutOfBoundsException" := by
  refine my_TX_of (cc := cX6_pointPlace) (maxL := 2) (ret := (some .double)) (by decide) rfl (Nat.le_of_ble_eq_true rfl) ?_
  intro p e s m below meth c S hr hlocks hno hC hP ls hl
  have S : CallFix p m c cX6_pointPlace 2 s ([.ref (ad 0), .int i] : List Value).toArray wsX6_pointPlace RX6 := S
  obtain ⟨hx, hb, hml, hown, hts⟩ := id S
  have hl : lv_has ls 2 [(0, .ref (ad 0)), (1, .int i)] := hl
  refine lv_aload_n hx hb dX6_pointPlace_0 rfl (lv_at hl 0 rfl) ?_
  refine lv_iload_n hx hb dX6_pointPlace_1 rfl (lv_at hl 1 rfl) ?_
  exact my_goX (my_runT (bytes := cX6_requirePoint) (maxL := 2) (ret := none) (n := 1) (As := [.int i]) (rest := []) S hl.1 (tt_requirePoint l D kd ki kz kl z ad n i (hfl) (hno9)) rfl ⟨rfl, rfl⟩ gX6_pointPlace_X6_requirePoint (by decide +kernel) rfl (my_preR hC (my_P_sub (wc := [(ad 0, .inr (6, [.ref (ad 1), .ref (ad 8), .ref (ad 14), .ref (ad 21), .ref (ad 22), .ref (ad 23)])), (ad 1, .inr (3, [.ref (ad 2), .ref (ad 4), .ref (ad 6), .int (nI n)]))]) hP [0, 1] rfl)) (va_recv hC.1 hP (ci := 6) (q0 := 0) rfl rfl) rfl rfl dX6_pointPlace_2) hno hlocks

set_option maxHeartbeats 4000000 in
set_option maxRecDepth 100000 in
theorem tt_fit (l : Launch) (D : va_G) (kd ki kz kl : ClassId) (z : Nat) (ad : Nat → Nat) (n : Nat) (hfl : l.stackTraces = false) (hn : n < 2) : my_TX l D kd ki kz kl z yX6_fit wsX6_fit ({ frames := 6, cells := 1, slots := 6, locals := 82 }) [.ref (ad 0)] [(ad 0, .inr (6, [.ref (ad 1), .ref (ad 8), .ref (ad 14), .ref (ad 21), .ref (ad 22), .ref (ad 23)])), (ad 1, .inr (3, [.ref (ad 2), .ref (ad 4), .ref (ad 6), .int (nI n)]))] "java/lang/IllegalStateException" := by
  refine my_TX_of (cc := cX6_fit) (maxL := 2) (ret := (some .int)) (by decide) rfl (Nat.le_of_ble_eq_true rfl) ?_
  intro p e s m below meth c S hr hlocks hno hC hP ls hl
  have S : CallFix p m c cX6_fit 2 s ([.ref (ad 0)] : List Value).toArray wsX6_fit RX6 := S
  obtain ⟨hx, hb, hml, hown, hts⟩ := id S
  have hl : lv_has ls 2 [(0, .ref (ad 0))] := hl
  refine lv_aload_n hx hb dX6_fit_0 rfl (lv_at hl 0 rfl) ?_
  refine va_get (D := D) (ci := 6) (v := .ref (ad 1)) (C := RX6) (T := TX6) (N := 6) hx hb hts iw_X6_fit_X6 hown hC.1 hP 0 rfl rfl 0 (by decide) (hts (.fieldLink RX6 10 "MonotoneSpline" "points" "LMonotoneSpline$Points;") (List.mem_of_getElem? (l := wsX6_fit) (i := 3) rfl)) (fun _ h9 => h9) rfl dX6_fit_1 ?_
  refine va_getN (D := D) (ci := 3) (v := .int (nI n)) (C := RX3) (T := TX3) (N := 4) hx hb hts iw_X6_fit_X3 hown hC.1 hP 1 rfl rfl 3 (by decide) (va_Nw.use (w := .fieldLinkNest "MonotoneSpline" 80 "MonotoneSpline$Points" "count" "I" "MonotoneSpline") rfl (hC.2.1 _ (List.mem_of_getElem? (l := my_nest) (i := 4) rfl))) (fun _ h9 => h9) rfl dX6_fit_4 ?_
  refine lv_iconst (v := 2) hx hb dX6_fit_7 (by decide) ?_
  refine lv_icmp_ge (tgt := 21) hx hb dX6_fit_8 (by decide) (fun c_8 => ?_) (fun c_8 => ?_)
  · have c_8 : 2 ≤ n := (nI_leI (a := 2) (b := n) (by omega) (by omega)).mp c_8
    exact absurd hn (by omega)
  · have c_8 : ¬ 2 ≤ n := fun h9 => c_8 ((nI_leI (a := 2) (b := n) (by omega) (by omega)).mpr h9)
    exact my_throwS (E := "java/lang/IllegalStateException") (ik := 84) (is := 110) (ic := 88) (text := "there are fewer than 2 points") (names := ["java/lang/RuntimeException", "java/lang/Exception"]) S hl.1 hfl hno hlocks hC (by decide +kernel) (by decide +kernel) (List.mem_of_getElem? (l := wsX6_fit) (i := 1) rfl) (List.mem_of_getElem? (l := wsX6_fit) (i := 2) rfl) (List.mem_of_getElem? (l := my_strs) (i := 5) rfl) (fun w hw => List.mem_cons_of_mem _ (List.mem_append_right _ (hw))) (List.mem_of_getElem? (l := my_nest) (i := 21) rfl) (th_h2_88) (th_g_84_88) dX6_fit_11 dX6_fit_14 dX6_fit_15 dX6_fit_17 dX6_fit_20 (by decide)

set_option maxHeartbeats 4000000 in
set_option maxRecDepth 100000 in
theorem tt_knotPlace (l : Launch) (D : va_G) (kd ki kz kl : ClassId) (z : Nat) (ad : Nat → Nat) (kn : Nat) (i : Int32) (hfl : l.stackTraces = false) (hno9 : i < 0 ∨ nI kn ≤ i) : my_TX l D kd ki kz kl z yX6_knotPlace wsX6_knotPlace ({ frames := 7, cells := 1, slots := 6, locals := 103 }) [.ref (ad 0), .int i] [(ad 0, .inr (6, [.ref (ad 1), .ref (ad 8), .ref (ad 14), .ref (ad 21), .ref (ad 22), .ref (ad 23)])), (ad 14, .inr (1, [.ref (ad 15), .ref (ad 17), .ref (ad 19), .int (nI kn)]))] "java/lang/IndexOutOfBoundsException" := by
  refine my_TX_of (cc := cX6_knotPlace) (maxL := 2) (ret := (some .double)) (by decide) rfl (Nat.le_of_ble_eq_true rfl) ?_
  intro p e s m below meth c S hr hlocks hno hC hP ls hl
  have S : CallFix p m c cX6_knotPlace 2 s ([.ref (ad 0), .int i] : List Value).toArray wsX6_knotPlace RX6 := S
  obtain ⟨hx, hb, hml, hown, hts⟩ := id S
  have hl : lv_has ls 2 [(0, .ref (ad 0)), (1, .int i)] := hl
  refine lv_aload_n hx hb dX6_knotPlace_0 rfl (lv_at hl 0 rfl) ?_
  refine lv_iload_n hx hb dX6_knotPlace_1 rfl (lv_at hl 1 rfl) ?_
  exact my_goX (my_runT (bytes := cX6_requireKnot) (maxL := 2) (ret := none) (n := 1) (As := [.int i]) (rest := []) S hl.1 (tt_requireKnot l D kd ki kz kl z ad kn i (hfl) (hno9)) rfl ⟨rfl, rfl⟩ gX6_knotPlace_X6_requireKnot (by decide +kernel) rfl (my_preR hC (my_P_sub (wc := [(ad 0, .inr (6, [.ref (ad 1), .ref (ad 8), .ref (ad 14), .ref (ad 21), .ref (ad 22), .ref (ad 23)])), (ad 14, .inr (1, [.ref (ad 15), .ref (ad 17), .ref (ad 19), .int (nI kn)]))]) hP [0, 1] rfl)) (va_recv hC.1 hP (ci := 6) (q0 := 0) rfl rfl) rfl rfl dX6_knotPlace_2) hno hlocks

set_option maxHeartbeats 4000000 in
set_option maxRecDepth 100000 in
theorem tt_knotValue (l : Launch) (D : va_G) (kd ki kz kl : ClassId) (z : Nat) (ad : Nat → Nat) (kn : Nat) (i : Int32) (hfl : l.stackTraces = false) (hno9 : i < 0 ∨ nI kn ≤ i) : my_TX l D kd ki kz kl z yX6_knotValue wsX6_knotValue ({ frames := 7, cells := 1, slots := 6, locals := 103 }) [.ref (ad 0), .int i] [(ad 0, .inr (6, [.ref (ad 1), .ref (ad 8), .ref (ad 14), .ref (ad 21), .ref (ad 22), .ref (ad 23)])), (ad 14, .inr (1, [.ref (ad 15), .ref (ad 17), .ref (ad 19), .int (nI kn)]))] "java/lang/IndexOutOfBoundsException" := by
  refine my_TX_of (cc := cX6_knotValue) (maxL := 2) (ret := (some .double)) (by decide) rfl (Nat.le_of_ble_eq_true rfl) ?_
  intro p e s m below meth c S hr hlocks hno hC hP ls hl
  have S : CallFix p m c cX6_knotValue 2 s ([.ref (ad 0), .int i] : List Value).toArray wsX6_knotValue RX6 := S
  obtain ⟨hx, hb, hml, hown, hts⟩ := id S
  have hl : lv_has ls 2 [(0, .ref (ad 0)), (1, .int i)] := hl
  refine lv_aload_n hx hb dX6_knotValue_0 rfl (lv_at hl 0 rfl) ?_
  refine lv_iload_n hx hb dX6_knotValue_1 rfl (lv_at hl 1 rfl) ?_
  exact my_goX (my_runT (bytes := cX6_requireKnot) (maxL := 2) (ret := none) (n := 1) (As := [.int i]) (rest := []) S hl.1 (tt_requireKnot l D kd ki kz kl z ad kn i (hfl) (hno9)) rfl ⟨rfl, rfl⟩ gX6_knotValue_X6_requireKnot (by decide +kernel) rfl (my_preR hC (my_P_sub (wc := [(ad 0, .inr (6, [.ref (ad 1), .ref (ad 8), .ref (ad 14), .ref (ad 21), .ref (ad 22), .ref (ad 23)])), (ad 14, .inr (1, [.ref (ad 15), .ref (ad 17), .ref (ad 19), .int (nI kn)]))]) hP [0, 1] rfl)) (va_recv hC.1 hP (ci := 6) (q0 := 0) rfl rfl) rfl rfl dX6_knotValue_2) hno hlocks

set_option maxHeartbeats 4000000 in
set_option maxRecDepth 100000 in
theorem tt_knotSlope (l : Launch) (D : va_G) (kd ki kz kl : ClassId) (z : Nat) (ad : Nat → Nat) (kn : Nat) (i : Int32) (hfl : l.stackTraces = false) (hno9 : i < 0 ∨ nI kn ≤ i) : my_TX l D kd ki kz kl z yX6_knotSlope wsX6_knotSlope ({ frames := 7, cells := 1, slots := 6, locals := 103 }) [.ref (ad 0), .int i] [(ad 0, .inr (6, [.ref (ad 1), .ref (ad 8), .ref (ad 14), .ref (ad 21), .ref (ad 22), .ref (ad 23)])), (ad 14, .inr (1, [.ref (ad 15), .ref (ad 17), .ref (ad 19), .int (nI kn)]))] "java/lang/IndexOutOfBoundsException" := by
  refine my_TX_of (cc := cX6_knotSlope) (maxL := 2) (ret := (some .double)) (by decide) rfl (Nat.le_of_ble_eq_true rfl) ?_
  intro p e s m below meth c S hr hlocks hno hC hP ls hl
  have S : CallFix p m c cX6_knotSlope 2 s ([.ref (ad 0), .int i] : List Value).toArray wsX6_knotSlope RX6 := S
  obtain ⟨hx, hb, hml, hown, hts⟩ := id S
  have hl : lv_has ls 2 [(0, .ref (ad 0)), (1, .int i)] := hl
  refine lv_aload_n hx hb dX6_knotSlope_0 rfl (lv_at hl 0 rfl) ?_
  refine lv_iload_n hx hb dX6_knotSlope_1 rfl (lv_at hl 1 rfl) ?_
  exact my_goX (my_runT (bytes := cX6_requireKnot) (maxL := 2) (ret := none) (n := 1) (As := [.int i]) (rest := []) S hl.1 (tt_requireKnot l D kd ki kz kl z ad kn i (hfl) (hno9)) rfl ⟨rfl, rfl⟩ gX6_knotSlope_X6_requireKnot (by decide +kernel) rfl (my_preR hC (my_P_sub (wc := [(ad 0, .inr (6, [.ref (ad 1), .ref (ad 8), .ref (ad 14), .ref (ad 21), .ref (ad 22), .ref (ad 23)])), (ad 14, .inr (1, [.ref (ad 15), .ref (ad 17), .ref (ad 19), .int (nI kn)]))]) hP [0, 1] rfl)) (va_recv hC.1 hP (ci := 6) (q0 := 0) rfl rfl) rfl rfl dX6_knotSlope_2) hno hlocks

set_option maxHeartbeats 4000000 in
set_option maxRecDepth 100000 in
theorem tt_isFixed (l : Launch) (D : va_G) (kd ki kz kl : ClassId) (z : Nat) (ad : Nat → Nat) (kn : Nat) (i : Int32) (hfl : l.stackTraces = false) (hno9 : i < 0 ∨ nI kn ≤ i) : my_TX l D kd ki kz kl z yX6_isFixed wsX6_isFixed ({ frames := 7, cells := 1, slots := 6, locals := 103 }) [.ref (ad 0), .int i] [(ad 0, .inr (6, [.ref (ad 1), .ref (ad 8), .ref (ad 14), .ref (ad 21), .ref (ad 22), .ref (ad 23)])), (ad 14, .inr (1, [.ref (ad 15), .ref (ad 17), .ref (ad 19), .int (nI kn)]))] "java/lang/IndexOutOfBoundsException" := by
  refine my_TX_of (cc := cX6_isFixed) (maxL := 2) (ret := (some .boolean)) (by decide) rfl (Nat.le_of_ble_eq_true rfl) ?_
  intro p e s m below meth c S hr hlocks hno hC hP ls hl
  have S : CallFix p m c cX6_isFixed 2 s ([.ref (ad 0), .int i] : List Value).toArray wsX6_isFixed RX6 := S
  obtain ⟨hx, hb, hml, hown, hts⟩ := id S
  have hl : lv_has ls 2 [(0, .ref (ad 0)), (1, .int i)] := hl
  refine lv_aload_n hx hb dX6_isFixed_0 rfl (lv_at hl 0 rfl) ?_
  refine lv_iload_n hx hb dX6_isFixed_1 rfl (lv_at hl 1 rfl) ?_
  exact my_goX (my_runT (bytes := cX6_requireKnot) (maxL := 2) (ret := none) (n := 1) (As := [.int i]) (rest := []) S hl.1 (tt_requireKnot l D kd ki kz kl z ad kn i (hfl) (hno9)) rfl ⟨rfl, rfl⟩ gX6_isFixed_X6_requireKnot (by decide +kernel) rfl (my_preR hC (my_P_sub (wc := [(ad 0, .inr (6, [.ref (ad 1), .ref (ad 8), .ref (ad 14), .ref (ad 21), .ref (ad 22), .ref (ad 23)])), (ad 14, .inr (1, [.ref (ad 15), .ref (ad 17), .ref (ad 19), .int (nI kn)]))]) hP [0, 1] rfl)) (va_recv hC.1 hP (ci := 6) (q0 := 0) rfl rfl) rfl rfl dX6_isFixed_2) hno hlocks

set_option maxHeartbeats 4000000 in
set_option maxRecDepth 100000 in
theorem tt_freeSlope (l : Launch) (D : va_G) (kd ki kz kl : ClassId) (z : Nat) (ad : Nat → Nat) (kn : Nat) (i : Int32) (hfl : l.stackTraces = false) (hno9 : i < 0 ∨ nI kn ≤ i) : my_TX l D kd ki kz kl z yX6_freeSlope wsX6_freeSlope ({ frames := 7, cells := 1, slots := 6, locals := 103 }) [.ref (ad 0), .int i] [(ad 0, .inr (6, [.ref (ad 1), .ref (ad 8), .ref (ad 14), .ref (ad 21), .ref (ad 22), .ref (ad 23)])), (ad 14, .inr (1, [.ref (ad 15), .ref (ad 17), .ref (ad 19), .int (nI kn)]))] "java/lang/IndexOutOfBoundsException" := by
  refine my_TX_of (cc := cX6_freeSlope) (maxL := 3) (ret := (some .boolean)) (by decide) rfl (Nat.le_of_ble_eq_true rfl) ?_
  intro p e s m below meth c S hr hlocks hno hC hP ls hl
  have S : CallFix p m c cX6_freeSlope 3 s ([.ref (ad 0), .int i] : List Value).toArray wsX6_freeSlope RX6 := S
  obtain ⟨hx, hb, hml, hown, hts⟩ := id S
  have hl : lv_has ls 3 [(0, .ref (ad 0)), (1, .int i)] := hl
  refine lv_aload_n hx hb dX6_freeSlope_0 rfl (lv_at hl 0 rfl) ?_
  refine lv_iload_n hx hb dX6_freeSlope_1 rfl (lv_at hl 1 rfl) ?_
  exact my_goX (my_runT (bytes := cX6_requireKnot) (maxL := 2) (ret := none) (n := 1) (As := [.int i]) (rest := []) S hl.1 (tt_requireKnot l D kd ki kz kl z ad kn i (hfl) (hno9)) rfl ⟨rfl, rfl⟩ gX6_freeSlope_X6_requireKnot (by decide +kernel) rfl (my_preR hC (my_P_sub (wc := [(ad 0, .inr (6, [.ref (ad 1), .ref (ad 8), .ref (ad 14), .ref (ad 21), .ref (ad 22), .ref (ad 23)])), (ad 14, .inr (1, [.ref (ad 15), .ref (ad 17), .ref (ad 19), .int (nI kn)]))]) hP [0, 1] rfl)) (va_recv hC.1 hP (ci := 6) (q0 := 0) rfl rfl) rfl rfl dX6_freeSlope_2) hno hlocks

set_option maxHeartbeats 4000000 in
set_option maxRecDepth 100000 in
theorem tt_removeKnot (l : Launch) (D : va_G) (kd ki kz kl : ClassId) (z : Nat) (ad : Nat → Nat) (kn : Nat) (i : Int32) (hfl : l.stackTraces = false) (hno9 : i < 0 ∨ nI kn ≤ i) : my_TX l D kd ki kz kl z yX6_removeKnot wsX6_removeKnot ({ frames := 7, cells := 1, slots := 6, locals := 103 }) [.ref (ad 0), .int i] [(ad 0, .inr (6, [.ref (ad 1), .ref (ad 8), .ref (ad 14), .ref (ad 21), .ref (ad 22), .ref (ad 23)])), (ad 14, .inr (1, [.ref (ad 15), .ref (ad 17), .ref (ad 19), .int (nI kn)]))] "java/lang/IndexOutOfBoundsException" := by
  refine my_TX_of (cc := cX6_removeKnot) (maxL := 2) (ret := (some .int)) (by decide) rfl (Nat.le_of_ble_eq_true rfl) ?_
  intro p e s m below meth c S hr hlocks hno hC hP ls hl
  have S : CallFix p m c cX6_removeKnot 2 s ([.ref (ad 0), .int i] : List Value).toArray wsX6_removeKnot RX6 := S
  obtain ⟨hx, hb, hml, hown, hts⟩ := id S
  have hl : lv_has ls 2 [(0, .ref (ad 0)), (1, .int i)] := hl
  refine lv_aload_n hx hb dX6_removeKnot_0 rfl (lv_at hl 0 rfl) ?_
  refine lv_iload_n hx hb dX6_removeKnot_1 rfl (lv_at hl 1 rfl) ?_
  exact my_goX (my_runT (bytes := cX6_requireKnot) (maxL := 2) (ret := none) (n := 1) (As := [.int i]) (rest := []) S hl.1 (tt_requireKnot l D kd ki kz kl z ad kn i (hfl) (hno9)) rfl ⟨rfl, rfl⟩ gX6_removeKnot_X6_requireKnot (by decide +kernel) rfl (my_preR hC (my_P_sub (wc := [(ad 0, .inr (6, [.ref (ad 1), .ref (ad 8), .ref (ad 14), .ref (ad 21), .ref (ad 22), .ref (ad 23)])), (ad 14, .inr (1, [.ref (ad 15), .ref (ad 17), .ref (ad 19), .int (nI kn)]))]) hP [0, 1] rfl)) (va_recv hC.1 hP (ci := 6) (q0 := 0) rfl rfl) rfl rfl dX6_removeKnot_2) hno hlocks

set_option maxHeartbeats 4000000 in
set_option maxRecDepth 100000 in
theorem tt_setKnotValue (l : Launch) (D : va_G) (kd ki kz kl : ClassId) (z : Nat) (ad : Nat → Nat) (kn : Nat) (i : Int32) (y : UInt64) (hfl : l.stackTraces = false) (hno9 : i < 0 ∨ nI kn ≤ i) : my_TX l D kd ki kz kl z yX6_setKnotValue wsX6_setKnotValue ({ frames := 7, cells := 1, slots := 6, locals := 103 }) [.ref (ad 0), .int i, .double y] [(ad 0, .inr (6, [.ref (ad 1), .ref (ad 8), .ref (ad 14), .ref (ad 21), .ref (ad 22), .ref (ad 23)])), (ad 14, .inr (1, [.ref (ad 15), .ref (ad 17), .ref (ad 19), .int (nI kn)]))] "java/lang/IndexOutOfBoundsException" := by
  refine my_TX_of (cc := cX6_setKnotValue) (maxL := 8) (ret := (some .double)) (by decide) rfl (Nat.le_of_ble_eq_true rfl) ?_
  intro p e s m below meth c S hr hlocks hno hC hP ls hl
  have S : CallFix p m c cX6_setKnotValue 8 s ([.ref (ad 0), .int i, .double y] : List Value).toArray wsX6_setKnotValue RX6 := S
  obtain ⟨hx, hb, hml, hown, hts⟩ := id S
  have hl : lv_has ls 8 [(0, .ref (ad 0)), (1, .int i), (2, .double y)] := hl
  refine lv_aload_n hx hb dX6_setKnotValue_0 rfl (lv_at hl 0 rfl) ?_
  refine lv_iload_n hx hb dX6_setKnotValue_1 rfl (lv_at hl 1 rfl) ?_
  exact my_goX (my_runT (bytes := cX6_requireKnot) (maxL := 2) (ret := none) (n := 1) (As := [.int i]) (rest := []) S hl.1 (tt_requireKnot l D kd ki kz kl z ad kn i (hfl) (hno9)) rfl ⟨rfl, rfl⟩ gX6_setKnotValue_X6_requireKnot (by decide +kernel) rfl (my_preR hC (my_P_sub (wc := [(ad 0, .inr (6, [.ref (ad 1), .ref (ad 8), .ref (ad 14), .ref (ad 21), .ref (ad 22), .ref (ad 23)])), (ad 14, .inr (1, [.ref (ad 15), .ref (ad 17), .ref (ad 19), .int (nI kn)]))]) hP [0, 1] rfl)) (va_recv hC.1 hP (ci := 6) (q0 := 0) rfl rfl) rfl rfl dX6_setKnotValue_2) hno hlocks

set_option maxHeartbeats 4000000 in
set_option maxRecDepth 100000 in
theorem tt_fixSlope (l : Launch) (D : va_G) (kd ki kz kl : ClassId) (z : Nat) (ad : Nat → Nat) (kn : Nat) (i : Int32) (t : UInt64) (hfl : l.stackTraces = false) (hno9 : i < 0 ∨ nI kn ≤ i) : my_TX l D kd ki kz kl z yX6_fixSlope wsX6_fixSlope ({ frames := 7, cells := 1, slots := 6, locals := 103 }) [.ref (ad 0), .int i, .double t] [(ad 0, .inr (6, [.ref (ad 1), .ref (ad 8), .ref (ad 14), .ref (ad 21), .ref (ad 22), .ref (ad 23)])), (ad 14, .inr (1, [.ref (ad 15), .ref (ad 17), .ref (ad 19), .int (nI kn)]))] "java/lang/IndexOutOfBoundsException" := by
  refine my_TX_of (cc := cX6_fixSlope) (maxL := 6) (ret := (some .double)) (by decide) rfl (Nat.le_of_ble_eq_true rfl) ?_
  intro p e s m below meth c S hr hlocks hno hC hP ls hl
  have S : CallFix p m c cX6_fixSlope 6 s ([.ref (ad 0), .int i, .double t] : List Value).toArray wsX6_fixSlope RX6 := S
  obtain ⟨hx, hb, hml, hown, hts⟩ := id S
  have hl : lv_has ls 6 [(0, .ref (ad 0)), (1, .int i), (2, .double t)] := hl
  refine lv_aload_n hx hb dX6_fixSlope_0 rfl (lv_at hl 0 rfl) ?_
  refine lv_iload_n hx hb dX6_fixSlope_1 rfl (lv_at hl 1 rfl) ?_
  exact my_goX (my_runT (bytes := cX6_requireKnot) (maxL := 2) (ret := none) (n := 1) (As := [.int i]) (rest := []) S hl.1 (tt_requireKnot l D kd ki kz kl z ad kn i (hfl) (hno9)) rfl ⟨rfl, rfl⟩ gX6_fixSlope_X6_requireKnot (by decide +kernel) rfl (my_preR hC (my_P_sub (wc := [(ad 0, .inr (6, [.ref (ad 1), .ref (ad 8), .ref (ad 14), .ref (ad 21), .ref (ad 22), .ref (ad 23)])), (ad 14, .inr (1, [.ref (ad 15), .ref (ad 17), .ref (ad 19), .int (nI kn)]))]) hP [0, 1] rfl)) (va_recv hC.1 hP (ci := 6) (q0 := 0) rfl rfl) rfl rfl dX6_fixSlope_2) hno hlocks

set_option maxHeartbeats 4000000 in
set_option maxRecDepth 100000 in
theorem tt_removeKnot_2 (l : Launch) (D : va_G) (kd ki kz kl : ClassId) (z : Nat) (ad : Nat → Nat) (kn : Nat) (k : Nat) (hfl : l.stackTraces = false) (hk : k < kn) (hn : kn ≤ 60) (hno9 : k = 0 ∨ k + 1 = kn) : my_TX l D kd ki kz kl z yX6_removeKnot wsX6_removeKnot ({ frames := 6, cells := 1, slots := 6, locals := 82 }) [.ref (ad 0), .int (nI k)] [(ad 0, .inr (6, [.ref (ad 1), .ref (ad 8), .ref (ad 14), .ref (ad 21), .ref (ad 22), .ref (ad 23)])), (ad 14, .inr (1, [.ref (ad 15), .ref (ad 17), .ref (ad 19), .int (nI kn)]))] "java/lang/IllegalArgumentException" := by
  refine my_TX_of (cc := cX6_removeKnot) (maxL := 2) (ret := (some .int)) (by decide) rfl (Nat.le_of_ble_eq_true rfl) ?_
  intro p e s m below meth c S hr hlocks hno hC hP ls hl
  have S : CallFix p m c cX6_removeKnot 2 s ([.ref (ad 0), .int (nI k)] : List Value).toArray wsX6_removeKnot RX6 := S
  obtain ⟨hx, hb, hml, hown, hts⟩ := id S
  have hl : lv_has ls 2 [(0, .ref (ad 0)), (1, .int (nI k))] := hl
  refine lv_aload_n hx hb dX6_removeKnot_0 rfl (lv_at hl 0 rfl) ?_
  refine lv_iload_n hx hb dX6_removeKnot_1 rfl (lv_at hl 1 rfl) ?_
  refine my_goR (v := none) (my_runV (bytes := cX6_requireKnot) (maxL := 2) (ret := none) (n := 1) (As := [.int (nI k)]) (rest := []) S hl.1 (kk_X6_requireKnot l D kd ki kz kl z ad kn k (by omega) (by omega)) rfl ⟨rfl, rfl⟩ gX6_removeKnot_X6_requireKnot (by decide +kernel) rfl ⟨Nat.le_of_ble_eq_true rfl, Nat.le_of_ble_eq_true rfl⟩ (my_preR hC (my_P_sub (wc := [(ad 0, .inr (6, [.ref (ad 1), .ref (ad 8), .ref (ad 14), .ref (ad 21), .ref (ad 22), .ref (ad 23)])), (ad 14, .inr (1, [.ref (ad 15), .ref (ad 17), .ref (ad 19), .int (nI kn)]))]) hP [0, 1] rfl)) (va_recv hC.1 hP (ci := 6) (q0 := 0) rfl rfl) rfl rfl dX6_removeKnot_2) ?_
  refine W.eq (g2 := F0 m 5 ls []) rfl ?_
  refine lv_iload_n hx hb dX6_removeKnot_5 rfl (lv_at hl 1 rfl) ?_
  refine lv_if_eq (tgt := 22) hx hb dX6_removeKnot_6 (by decide) (fun c_6 => ?_) (fun c_6 => ?_)
  · have c_6 : k = 0 := (nI_eq (a := k) (b := 0) (by omega) (by omega)).mp c_6
    exact my_throwS (E := "java/lang/IllegalArgumentException") (ik := 61) (is := 183) (ic := 65) (text := "the first and the last knot stay") (names := ["java/lang/RuntimeException", "java/lang/Exception"]) S hl.1 hfl hno hlocks hC (by decide +kernel) (by decide +kernel) (List.mem_of_getElem? (l := wsX6_removeKnot) (i := 1) rfl) (List.mem_of_getElem? (l := wsX6_removeKnot) (i := 2) rfl) (List.mem_of_getElem? (l := my_strs) (i := 10) rfl) (fun w hw => List.mem_cons_of_mem _ (List.mem_append_left _ (List.mem_append_right _ (hw)))) (List.mem_of_getElem? (l := my_nest) (i := 20) rfl) (th_h2_65) (th_g_61_65) dX6_removeKnot_22 dX6_removeKnot_25 dX6_removeKnot_26 dX6_removeKnot_28 dX6_removeKnot_31 (by decide)
  · have c_6 : ¬ k = 0 := fun h9 => c_6 ((nI_eq (a := k) (b := 0) (by omega) (by omega)).mpr h9)
    refine lv_iload_n hx hb dX6_removeKnot_9 rfl (lv_at hl 1 rfl) ?_
    refine lv_aload_n hx hb dX6_removeKnot_10 rfl (lv_at hl 0 rfl) ?_
    refine va_get (D := D) (ci := 6) (v := .ref (ad 14)) (C := RX6) (T := TX6) (N := 6) hx hb hts iw_X6_removeKnot_X6 hown hC.1 hP 0 rfl rfl 2 (by decide) (hts (.fieldLink RX6 26 "MonotoneSpline" "knots" "LMonotoneSpline$Knots;") (List.mem_of_getElem? (l := wsX6_removeKnot) (i := 3) rfl)) (fun _ h9 => h9) rfl dX6_removeKnot_11 ?_
    refine va_getN (D := D) (ci := 1) (v := .int (nI kn)) (C := RX1) (T := TX1) (N := 4) hx hb hts iw_X6_removeKnot_X1 hown hC.1 hP 1 rfl rfl 3 (by decide) (va_Nw.use (w := .fieldLinkNest "MonotoneSpline" 136 "MonotoneSpline$Knots" "count" "I" "MonotoneSpline") rfl (hC.2.1 _ (List.mem_of_getElem? (l := my_nest) (i := 11) rfl))) (fun _ h9 => h9) rfl dX6_removeKnot_14 ?_
    refine lv_iconst (v := 1) hx hb dX6_removeKnot_17 (by decide) ?_
    refine my_isub (w := nI (kn - 1)) hx hb dX6_removeKnot_18 (pk_sub (a := kn) (b := 1) (by omega)) ?_
    refine lv_icmp_ne (tgt := 32) hx hb dX6_removeKnot_19 (by decide) (fun c_19 => ?_) (fun c_19 => ?_)
    · have c_19 : ¬ k = kn - 1 := fun h9 => c_19 ((nI_eq (a := k) (b := kn - 1) (by omega) (by omega)).mpr h9)
      exact absurd hno9 (by omega)
    · have c_19 : k = kn - 1 := (nI_eq (a := k) (b := kn - 1) (by omega) (by omega)).mp c_19
      exact my_throwS (E := "java/lang/IllegalArgumentException") (ik := 61) (is := 183) (ic := 65) (text := "the first and the last knot stay") (names := ["java/lang/RuntimeException", "java/lang/Exception"]) S hl.1 hfl hno hlocks hC (by decide +kernel) (by decide +kernel) (List.mem_of_getElem? (l := wsX6_removeKnot) (i := 1) rfl) (List.mem_of_getElem? (l := wsX6_removeKnot) (i := 2) rfl) (List.mem_of_getElem? (l := my_strs) (i := 10) rfl) (fun w hw => List.mem_cons_of_mem _ (List.mem_append_left _ (List.mem_append_right _ (hw)))) (List.mem_of_getElem? (l := my_nest) (i := 20) rfl) (th_h2_65) (th_g_61_65) dX6_removeKnot_22 dX6_removeKnot_25 dX6_removeKnot_26 dX6_removeKnot_28 dX6_removeKnot_31 (by decide)

set_option maxHeartbeats 4000000 in
set_option maxRecDepth 100000 in
theorem tt_setKnotValue_2 (l : Launch) (D : va_G) (kd ki kz kl : ClassId) (z : Nat) (ad : Nat → Nat) (kn : Nat) (V : Nat → UInt64) (k : Nat) (y : UInt64) (hfl : l.stackTraces = false) (hny : fx_n y) (hk : k < kn) (hn : kn ≤ 60) (hno9 : ¬ ((sp_ge (s_st y) 13920209183539462144 ∧ sp_le (s_st y) 4696837146684686336) ∧ (0 < k → ¬ sp_lt (s_st y) (V (k - 1))) ∧ (k + 1 < kn → ¬ sp_gt (s_st y) (V (k + 1))))) : my_TX l D kd ki kz kl z yX6_setKnotValue wsX6_setKnotValue ({ frames := 6, cells := 1, slots := 6, locals := 82 }) [.ref (ad 0), .int (nI k), .double y] [(ad 0, .inr (6, [.ref (ad 1), .ref (ad 8), .ref (ad 14), .ref (ad 21), .ref (ad 22), .ref (ad 23)])), (ad 14, .inr (1, [.ref (ad 15), .ref (ad 17), .ref (ad 19), .int (nI kn)])), (ad 17, .inr (4, [.ref (ad 18)])), (ad 18, .inl (kd, 60, .inr (.inr (.inr (.inl V)))))] "java/lang/IllegalArgumentException" := by
  refine my_TX_of (cc := cX6_setKnotValue) (maxL := 8) (ret := (some .double)) (by decide) rfl (Nat.le_of_ble_eq_true rfl) ?_
  intro p e s m below meth c S hr hlocks hno hC hP ls hl
  have S : CallFix p m c cX6_setKnotValue 8 s ([.ref (ad 0), .int (nI k), .double y] : List Value).toArray wsX6_setKnotValue RX6 := S
  obtain ⟨hx, hb, hml, hown, hts⟩ := id S
  have hl : lv_has ls 8 [(0, .ref (ad 0)), (1, .int (nI k)), (2, .double y)] := hl
  refine lv_aload_n hx hb dX6_setKnotValue_0 rfl (lv_at hl 0 rfl) ?_
  refine lv_iload_n hx hb dX6_setKnotValue_1 rfl (lv_at hl 1 rfl) ?_
  refine my_goR (v := none) (my_runV (bytes := cX6_requireKnot) (maxL := 2) (ret := none) (n := 1) (As := [.int (nI k)]) (rest := []) S hl.1 (kk_X6_requireKnot l D kd ki kz kl z ad kn k (by omega) (by omega)) rfl ⟨rfl, rfl⟩ gX6_setKnotValue_X6_requireKnot (by decide +kernel) rfl ⟨Nat.le_of_ble_eq_true rfl, Nat.le_of_ble_eq_true rfl⟩ (my_preR hC (my_P_sub (wc := [(ad 0, .inr (6, [.ref (ad 1), .ref (ad 8), .ref (ad 14), .ref (ad 21), .ref (ad 22), .ref (ad 23)])), (ad 14, .inr (1, [.ref (ad 15), .ref (ad 17), .ref (ad 19), .int (nI kn)]))]) hP [0, 1] rfl)) (va_recv hC.1 hP (ci := 6) (q0 := 0) rfl rfl) rfl rfl dX6_setKnotValue_2) ?_
  refine W.eq (g2 := F0 m 5 ls []) rfl ?_
  refine lv_dload_n hx hb dX6_setKnotValue_5 rfl (lv_at hl 2 rfl) ?_
  refine my_goR (v := (some (.double (s_st y)))) (my_runS (bytes := cX6_settled) (maxL := 2) (ret := (some .double)) (n := 1) (As := [.double y]) (rest := []) S hl.1 (kk_X6_settled l D kd ki kz kl z y (hny)) rfl ⟨rfl, rfl⟩ gX6_setKnotValue_X6_settled (by decide +kernel) rfl ⟨Nat.le_of_ble_eq_true rfl, Nat.le_of_ble_eq_true rfl⟩ (my_preR hC (my_P_sub (wc := []) hP [] rfl)) rfl rfl dX6_setKnotValue_6) ?_
  refine W.eq (g2 := F0 m 9 ls [.double (s_st y)]) rfl ?_
  refine lv_dstore (lv' := [(4, .double (s_st y)), (0, .ref (ad 0)), (1, .int (nI k)), (2, .double y)]) hx hb dX6_setKnotValue_9 hl (by decide) rfl (fun ls hl => ?_)
  refine lv_ldc2d hx hb hown (hts (.constantDouble RX6 53 (13920209183539462144)) (List.mem_of_getElem? (l := wsX6_setKnotValue) (i := 3) rfl)) dX6_setKnotValue_11 ?_
  refine lv_ldc2d hx hb hown (hts (.constantDouble RX6 55 (4696837146684686336)) (List.mem_of_getElem? (l := wsX6_setKnotValue) (i := 4) rfl)) dX6_setKnotValue_14 ?_
  refine lv_dload hx hb dX6_setKnotValue_17 (lv_at hl 0 rfl) ?_
  refine my_goR (v := (some (.int (if sp_ge (s_st y) 13920209183539462144 ∧ sp_le (s_st y) 4696837146684686336 then 1 else 0)))) (my_runS (bytes := cX6_isFrom) (maxL := 6) (ret := (some .boolean)) (n := 3) (As := [.double 13920209183539462144, .double 4696837146684686336, .double (s_st y)]) (rest := []) S hl.1 (kk_X6_isFrom l D kd ki kz kl z 13920209183539462144 4696837146684686336 (s_st y)) rfl ⟨rfl, rfl⟩ gX6_setKnotValue_X6_isFrom (by decide +kernel) rfl ⟨Nat.le_of_ble_eq_true rfl, Nat.le_of_ble_eq_true rfl⟩ (my_preR hC (my_P_sub (wc := []) hP [] rfl)) rfl rfl dX6_setKnotValue_19) ?_
  refine W.eq (g2 := F0 m 22 ls [.int (if sp_ge (s_st y) 13920209183539462144 ∧ sp_le (s_st y) 4696837146684686336 then 1 else 0)]) rfl ?_
  by_cases q1 : sp_ge (s_st y) 13920209183539462144 ∧ sp_le (s_st y) 4696837146684686336
  · rw [if_pos q1]
    refine lv_if_ne (tgt := 35) hx hb dX6_setKnotValue_22 (by decide) (fun c_22 => ?_) (fun c_22 => ?_)
    · skip
      refine lv_iload_n hx hb dX6_setKnotValue_35 rfl (lv_at hl 2 rfl) ?_
      refine lv_if_le (tgt := 68) hx hb dX6_setKnotValue_36 (by decide) (fun c_36 => ?_) (fun c_36 => ?_)
      · have c_36 : k ≤ 0 := (nI_leI (a := k) (b := 0) (by omega) (by omega)).mp c_36
        refine lv_iload_n hx hb dX6_setKnotValue_68 rfl (lv_at hl 2 rfl) ?_
        refine lv_aload_n hx hb dX6_setKnotValue_69 rfl (lv_at hl 1 rfl) ?_
        refine va_get (D := D) (ci := 6) (v := .ref (ad 14)) (C := RX6) (T := TX6) (N := 6) hx hb hts iw_X6_setKnotValue_X6 hown hC.1 hP 0 rfl rfl 2 (by decide) (hts (.fieldLink RX6 26 "MonotoneSpline" "knots" "LMonotoneSpline$Knots;") (List.mem_of_getElem? (l := wsX6_setKnotValue) (i := 5) rfl)) (fun _ h9 => h9) rfl dX6_setKnotValue_70 ?_
        refine va_getN (D := D) (ci := 1) (v := .int (nI kn)) (C := RX1) (T := TX1) (N := 4) hx hb hts iw_X6_setKnotValue_X1 hown hC.1 hP 1 rfl rfl 3 (by decide) (va_Nw.use (w := .fieldLinkNest "MonotoneSpline" 136 "MonotoneSpline$Knots" "count" "I" "MonotoneSpline") rfl (hC.2.1 _ (List.mem_of_getElem? (l := my_nest) (i := 11) rfl))) (fun _ h9 => h9) rfl dX6_setKnotValue_73 ?_
        refine lv_iconst (v := 1) hx hb dX6_setKnotValue_76 (by decide) ?_
        refine my_isub (w := nI (kn - 1)) hx hb dX6_setKnotValue_77 (pk_sub (a := kn) (b := 1) (by omega)) ?_
        refine lv_icmp_ge (tgt := 110) hx hb dX6_setKnotValue_78 (by decide) (fun c_78 => ?_) (fun c_78 => ?_)
        · have c_78 : kn - 1 ≤ k := (nI_leI (a := kn - 1) (b := k) (by omega) (by omega)).mp c_78
          exact absurd ⟨q1, fun h0 => (by first | exact c_55 | omega), fun h0 => (by first | exact c_97 | omega)⟩ hno9
        · have c_78 : ¬ kn - 1 ≤ k := fun h9 => c_78 ((nI_leI (a := kn - 1) (b := k) (by omega) (by omega)).mpr h9)
          refine lv_dload hx hb dX6_setKnotValue_81 (lv_at hl 0 rfl) ?_
          refine lv_aload_n hx hb dX6_setKnotValue_83 rfl (lv_at hl 1 rfl) ?_
          refine va_get (D := D) (ci := 6) (v := .ref (ad 14)) (C := RX6) (T := TX6) (N := 6) hx hb hts iw_X6_setKnotValue_X6 hown hC.1 hP 0 rfl rfl 2 (by decide) (hts (.fieldLink RX6 26 "MonotoneSpline" "knots" "LMonotoneSpline$Knots;") (List.mem_of_getElem? (l := wsX6_setKnotValue) (i := 5) rfl)) (fun _ h9 => h9) rfl dX6_setKnotValue_84 ?_
          refine va_getN (D := D) (ci := 1) (v := .ref (ad 17)) (C := RX1) (T := TX1) (N := 4) hx hb hts iw_X6_setKnotValue_X1 hown hC.1 hP 1 rfl rfl 1 (by decide) (va_Nw.use (w := .fieldLinkNest "MonotoneSpline" 147 "MonotoneSpline$Knots" "heights" "LMonotoneSpline$Row;" "MonotoneSpline") rfl (hC.2.1 _ (List.mem_of_getElem? (l := my_nest) (i := 9) rfl))) (fun _ h9 => h9) rfl dX6_setKnotValue_87 ?_
          refine lv_iload_n hx hb dX6_setKnotValue_90 rfl (lv_at hl 2 rfl) ?_
          refine lv_iconst (v := 1) hx hb dX6_setKnotValue_91 (by decide) ?_
          refine my_iadd (w := nI (k + 1)) hx hb dX6_setKnotValue_92 (nI_add k 1) ?_
          refine my_goR (v := (some (.double (V (k + 1))))) (my_runV (bytes := cX4_get) (maxL := 2) (ret := (some .double)) (n := 1) (As := [.int (nI (k + 1))]) (rest := [.double (s_st y)]) S hl.1 (kk_X4_get l D kd ki kz kl z (ad 17) (ad 18) 60 V (k + 1) (by omega) (by omega)) rfl ⟨rfl, rfl⟩ gX6_setKnotValue_X4_get (by decide +kernel) rfl ⟨Nat.le_of_ble_eq_true rfl, Nat.le_of_ble_eq_true rfl⟩ (my_preR hC (my_P_sub (wc := [(ad 17, .inr (4, [.ref (ad 18)])), (ad 18, .inl (kd, 60, .inr (.inr (.inr (.inl V)))))]) hP [2, 3] rfl)) (va_recv hC.1 hP (ci := 4) (q0 := 2) rfl rfl) rfl rfl dX6_setKnotValue_93) ?_
          refine W.eq (g2 := F0 m 96 ls [.double (V (k + 1)), .double (s_st y)]) rfl ?_
          refine lv_dcmp hx hb dX6_setKnotValue_96 ?_
          refine lv_if_le (tgt := 110) hx hb dX6_setKnotValue_97 (by decide) (fun c_97 => ?_) (fun c_97 => ?_)
          · have c_97 := cv_l_le_t c_97
            exact absurd ⟨q1, fun h0 => (by first | exact c_55 | omega), fun h0 => (by first | exact c_97 | omega)⟩ hno9
          · have c_97 := cv_l_le_f c_97
            exact my_throwS (E := "java/lang/IllegalArgumentException") (ik := 61) (is := 190) (ic := 65) (text := "the knot behind has a smaller value") (names := ["java/lang/RuntimeException", "java/lang/Exception"]) S hl.1 hfl hno hlocks hC (by decide +kernel) (by decide +kernel) (List.mem_of_getElem? (l := wsX6_setKnotValue) (i := 1) rfl) (List.mem_of_getElem? (l := wsX6_setKnotValue) (i := 2) rfl) (List.mem_of_getElem? (l := my_strs) (i := 13) rfl) (fun w hw => List.mem_cons_of_mem _ (List.mem_append_left _ (List.mem_append_right _ (hw)))) (List.mem_of_getElem? (l := my_nest) (i := 20) rfl) (th_h2_65) (th_g_61_65) dX6_setKnotValue_100 dX6_setKnotValue_103 dX6_setKnotValue_104 dX6_setKnotValue_106 dX6_setKnotValue_109 (by decide)
      · have c_36 : ¬ k ≤ 0 := fun h9 => c_36 ((nI_leI (a := k) (b := 0) (by omega) (by omega)).mpr h9)
        refine lv_dload hx hb dX6_setKnotValue_39 (lv_at hl 0 rfl) ?_
        refine lv_aload_n hx hb dX6_setKnotValue_41 rfl (lv_at hl 1 rfl) ?_
        refine va_get (D := D) (ci := 6) (v := .ref (ad 14)) (C := RX6) (T := TX6) (N := 6) hx hb hts iw_X6_setKnotValue_X6 hown hC.1 hP 0 rfl rfl 2 (by decide) (hts (.fieldLink RX6 26 "MonotoneSpline" "knots" "LMonotoneSpline$Knots;") (List.mem_of_getElem? (l := wsX6_setKnotValue) (i := 5) rfl)) (fun _ h9 => h9) rfl dX6_setKnotValue_42 ?_
        refine va_getN (D := D) (ci := 1) (v := .ref (ad 17)) (C := RX1) (T := TX1) (N := 4) hx hb hts iw_X6_setKnotValue_X1 hown hC.1 hP 1 rfl rfl 1 (by decide) (va_Nw.use (w := .fieldLinkNest "MonotoneSpline" 147 "MonotoneSpline$Knots" "heights" "LMonotoneSpline$Row;" "MonotoneSpline") rfl (hC.2.1 _ (List.mem_of_getElem? (l := my_nest) (i := 9) rfl))) (fun _ h9 => h9) rfl dX6_setKnotValue_45 ?_
        refine lv_iload_n hx hb dX6_setKnotValue_48 rfl (lv_at hl 2 rfl) ?_
        refine lv_iconst (v := 1) hx hb dX6_setKnotValue_49 (by decide) ?_
        refine my_isub (w := nI (k - 1)) hx hb dX6_setKnotValue_50 (pk_sub (a := k) (b := 1) (by omega)) ?_
        refine my_goR (v := (some (.double (V (k - 1))))) (my_runV (bytes := cX4_get) (maxL := 2) (ret := (some .double)) (n := 1) (As := [.int (nI (k - 1))]) (rest := [.double (s_st y)]) S hl.1 (kk_X4_get l D kd ki kz kl z (ad 17) (ad 18) 60 V (k - 1) (by omega) (by omega)) rfl ⟨rfl, rfl⟩ gX6_setKnotValue_X4_get (by decide +kernel) rfl ⟨Nat.le_of_ble_eq_true rfl, Nat.le_of_ble_eq_true rfl⟩ (my_preR hC (my_P_sub (wc := [(ad 17, .inr (4, [.ref (ad 18)])), (ad 18, .inl (kd, 60, .inr (.inr (.inr (.inl V)))))]) hP [2, 3] rfl)) (va_recv hC.1 hP (ci := 4) (q0 := 2) rfl rfl) rfl rfl dX6_setKnotValue_51) ?_
        refine W.eq (g2 := F0 m 54 ls [.double (V (k - 1)), .double (s_st y)]) rfl ?_
        refine lv_dcmp hx hb dX6_setKnotValue_54 ?_
        refine lv_if_ge (tgt := 68) hx hb dX6_setKnotValue_55 (by decide) (fun c_55 => ?_) (fun c_55 => ?_)
        · have c_55 := cv_g_ge_t c_55
          refine lv_iload_n hx hb dX6_setKnotValue_68 rfl (lv_at hl 2 rfl) ?_
          refine lv_aload_n hx hb dX6_setKnotValue_69 rfl (lv_at hl 1 rfl) ?_
          refine va_get (D := D) (ci := 6) (v := .ref (ad 14)) (C := RX6) (T := TX6) (N := 6) hx hb hts iw_X6_setKnotValue_X6 hown hC.1 hP 0 rfl rfl 2 (by decide) (hts (.fieldLink RX6 26 "MonotoneSpline" "knots" "LMonotoneSpline$Knots;") (List.mem_of_getElem? (l := wsX6_setKnotValue) (i := 5) rfl)) (fun _ h9 => h9) rfl dX6_setKnotValue_70 ?_
          refine va_getN (D := D) (ci := 1) (v := .int (nI kn)) (C := RX1) (T := TX1) (N := 4) hx hb hts iw_X6_setKnotValue_X1 hown hC.1 hP 1 rfl rfl 3 (by decide) (va_Nw.use (w := .fieldLinkNest "MonotoneSpline" 136 "MonotoneSpline$Knots" "count" "I" "MonotoneSpline") rfl (hC.2.1 _ (List.mem_of_getElem? (l := my_nest) (i := 11) rfl))) (fun _ h9 => h9) rfl dX6_setKnotValue_73 ?_
          refine lv_iconst (v := 1) hx hb dX6_setKnotValue_76 (by decide) ?_
          refine my_isub (w := nI (kn - 1)) hx hb dX6_setKnotValue_77 (pk_sub (a := kn) (b := 1) (by omega)) ?_
          refine lv_icmp_ge (tgt := 110) hx hb dX6_setKnotValue_78 (by decide) (fun c_78 => ?_) (fun c_78 => ?_)
          · have c_78 : kn - 1 ≤ k := (nI_leI (a := kn - 1) (b := k) (by omega) (by omega)).mp c_78
            exact absurd ⟨q1, fun h0 => (by first | exact c_55 | omega), fun h0 => (by first | exact c_97 | omega)⟩ hno9
          · have c_78 : ¬ kn - 1 ≤ k := fun h9 => c_78 ((nI_leI (a := kn - 1) (b := k) (by omega) (by omega)).mpr h9)
            refine lv_dload hx hb dX6_setKnotValue_81 (lv_at hl 0 rfl) ?_
            refine lv_aload_n hx hb dX6_setKnotValue_83 rfl (lv_at hl 1 rfl) ?_
            refine va_get (D := D) (ci := 6) (v := .ref (ad 14)) (C := RX6) (T := TX6) (N := 6) hx hb hts iw_X6_setKnotValue_X6 hown hC.1 hP 0 rfl rfl 2 (by decide) (hts (.fieldLink RX6 26 "MonotoneSpline" "knots" "LMonotoneSpline$Knots;") (List.mem_of_getElem? (l := wsX6_setKnotValue) (i := 5) rfl)) (fun _ h9 => h9) rfl dX6_setKnotValue_84 ?_
            refine va_getN (D := D) (ci := 1) (v := .ref (ad 17)) (C := RX1) (T := TX1) (N := 4) hx hb hts iw_X6_setKnotValue_X1 hown hC.1 hP 1 rfl rfl 1 (by decide) (va_Nw.use (w := .fieldLinkNest "MonotoneSpline" 147 "MonotoneSpline$Knots" "heights" "LMonotoneSpline$Row;" "MonotoneSpline") rfl (hC.2.1 _ (List.mem_of_getElem? (l := my_nest) (i := 9) rfl))) (fun _ h9 => h9) rfl dX6_setKnotValue_87 ?_
            refine lv_iload_n hx hb dX6_setKnotValue_90 rfl (lv_at hl 2 rfl) ?_
            refine lv_iconst (v := 1) hx hb dX6_setKnotValue_91 (by decide) ?_
            refine my_iadd (w := nI (k + 1)) hx hb dX6_setKnotValue_92 (nI_add k 1) ?_
            refine my_goR (v := (some (.double (V (k + 1))))) (my_runV (bytes := cX4_get) (maxL := 2) (ret := (some .double)) (n := 1) (As := [.int (nI (k + 1))]) (rest := [.double (s_st y)]) S hl.1 (kk_X4_get l D kd ki kz kl z (ad 17) (ad 18) 60 V (k + 1) (by omega) (by omega)) rfl ⟨rfl, rfl⟩ gX6_setKnotValue_X4_get (by decide +kernel) rfl ⟨Nat.le_of_ble_eq_true rfl, Nat.le_of_ble_eq_true rfl⟩ (my_preR hC (my_P_sub (wc := [(ad 17, .inr (4, [.ref (ad 18)])), (ad 18, .inl (kd, 60, .inr (.inr (.inr (.inl V)))))]) hP [2, 3] rfl)) (va_recv hC.1 hP (ci := 4) (q0 := 2) rfl rfl) rfl rfl dX6_setKnotValue_93) ?_
            refine W.eq (g2 := F0 m 96 ls [.double (V (k + 1)), .double (s_st y)]) rfl ?_
            refine lv_dcmp hx hb dX6_setKnotValue_96 ?_
            refine lv_if_le (tgt := 110) hx hb dX6_setKnotValue_97 (by decide) (fun c_97 => ?_) (fun c_97 => ?_)
            · have c_97 := cv_l_le_t c_97
              exact absurd ⟨q1, fun h0 => (by first | exact c_55 | omega), fun h0 => (by first | exact c_97 | omega)⟩ hno9
            · have c_97 := cv_l_le_f c_97
              exact my_throwS (E := "java/lang/IllegalArgumentException") (ik := 61) (is := 190) (ic := 65) (text := "the knot behind has a smaller value") (names := ["java/lang/RuntimeException", "java/lang/Exception"]) S hl.1 hfl hno hlocks hC (by decide +kernel) (by decide +kernel) (List.mem_of_getElem? (l := wsX6_setKnotValue) (i := 1) rfl) (List.mem_of_getElem? (l := wsX6_setKnotValue) (i := 2) rfl) (List.mem_of_getElem? (l := my_strs) (i := 13) rfl) (fun w hw => List.mem_cons_of_mem _ (List.mem_append_left _ (List.mem_append_right _ (hw)))) (List.mem_of_getElem? (l := my_nest) (i := 20) rfl) (th_h2_65) (th_g_61_65) dX6_setKnotValue_100 dX6_setKnotValue_103 dX6_setKnotValue_104 dX6_setKnotValue_106 dX6_setKnotValue_109 (by decide)
        · have c_55 := cv_g_ge_f c_55
          exact my_throwS (E := "java/lang/IllegalArgumentException") (ik := 61) (is := 188) (ic := 65) (text := "the knot before has a greater value") (names := ["java/lang/RuntimeException", "java/lang/Exception"]) S hl.1 hfl hno hlocks hC (by decide +kernel) (by decide +kernel) (List.mem_of_getElem? (l := wsX6_setKnotValue) (i := 1) rfl) (List.mem_of_getElem? (l := wsX6_setKnotValue) (i := 2) rfl) (List.mem_of_getElem? (l := my_strs) (i := 12) rfl) (fun w hw => List.mem_cons_of_mem _ (List.mem_append_left _ (List.mem_append_right _ (hw)))) (List.mem_of_getElem? (l := my_nest) (i := 20) rfl) (th_h2_65) (th_g_61_65) dX6_setKnotValue_58 dX6_setKnotValue_61 dX6_setKnotValue_62 dX6_setKnotValue_64 dX6_setKnotValue_67 (by decide)
    · skip
      first | exact absurd c_22 (by decide) | exact absurd (by decide) c_22
  · rw [if_neg q1]
    refine lv_if_ne (tgt := 35) hx hb dX6_setKnotValue_22 (by decide) (fun c_22 => ?_) (fun c_22 => ?_)
    · skip
      first | exact absurd c_22 (by decide) | exact absurd (by decide) c_22
    · skip
      exact my_throwS (E := "java/lang/IllegalArgumentException") (ik := 61) (is := 186) (ic := 65) (text := "a value is from -1000000 to 1000000") (names := ["java/lang/RuntimeException", "java/lang/Exception"]) S hl.1 hfl hno hlocks hC (by decide +kernel) (by decide +kernel) (List.mem_of_getElem? (l := wsX6_setKnotValue) (i := 1) rfl) (List.mem_of_getElem? (l := wsX6_setKnotValue) (i := 2) rfl) (List.mem_of_getElem? (l := my_strs) (i := 11) rfl) (fun w hw => List.mem_cons_of_mem _ (List.mem_append_left _ (List.mem_append_right _ (hw)))) (List.mem_of_getElem? (l := my_nest) (i := 20) rfl) (th_h2_65) (th_g_61_65) dX6_setKnotValue_25 dX6_setKnotValue_28 dX6_setKnotValue_29 dX6_setKnotValue_31 dX6_setKnotValue_34 (by decide)

set_option maxHeartbeats 4000000 in
set_option maxRecDepth 100000 in
theorem tt_fixSlope_2 (l : Launch) (D : va_G) (kd ki kz kl : ClassId) (z : Nat) (ad : Nat → Nat) (kn : Nat) (k : Nat) (t : UInt64) (hfl : l.stackTraces = false) (hnt : fx_n t) (hk : k < kn) (hn : kn ≤ 60) (h1 : ¬ (sp_ge (s_st t) 0 ∧ sp_le (s_st t) 4696837146684686336)) : my_TX l D kd ki kz kl z yX6_fixSlope wsX6_fixSlope ({ frames := 6, cells := 1, slots := 6, locals := 82 }) [.ref (ad 0), .int (nI k), .double t] [(ad 0, .inr (6, [.ref (ad 1), .ref (ad 8), .ref (ad 14), .ref (ad 21), .ref (ad 22), .ref (ad 23)])), (ad 14, .inr (1, [.ref (ad 15), .ref (ad 17), .ref (ad 19), .int (nI kn)]))] "java/lang/IllegalArgumentException" := by
  refine my_TX_of (cc := cX6_fixSlope) (maxL := 6) (ret := (some .double)) (by decide) rfl (Nat.le_of_ble_eq_true rfl) ?_
  intro p e s m below meth c S hr hlocks hno hC hP ls hl
  have S : CallFix p m c cX6_fixSlope 6 s ([.ref (ad 0), .int (nI k), .double t] : List Value).toArray wsX6_fixSlope RX6 := S
  obtain ⟨hx, hb, hml, hown, hts⟩ := id S
  have hl : lv_has ls 6 [(0, .ref (ad 0)), (1, .int (nI k)), (2, .double t)] := hl
  refine lv_aload_n hx hb dX6_fixSlope_0 rfl (lv_at hl 0 rfl) ?_
  refine lv_iload_n hx hb dX6_fixSlope_1 rfl (lv_at hl 1 rfl) ?_
  refine my_goR (v := none) (my_runV (bytes := cX6_requireKnot) (maxL := 2) (ret := none) (n := 1) (As := [.int (nI k)]) (rest := []) S hl.1 (kk_X6_requireKnot l D kd ki kz kl z ad kn k (by omega) (by omega)) rfl ⟨rfl, rfl⟩ gX6_fixSlope_X6_requireKnot (by decide +kernel) rfl ⟨Nat.le_of_ble_eq_true rfl, Nat.le_of_ble_eq_true rfl⟩ (my_preR hC (my_P_sub (wc := [(ad 0, .inr (6, [.ref (ad 1), .ref (ad 8), .ref (ad 14), .ref (ad 21), .ref (ad 22), .ref (ad 23)])), (ad 14, .inr (1, [.ref (ad 15), .ref (ad 17), .ref (ad 19), .int (nI kn)]))]) hP [0, 1] rfl)) (va_recv hC.1 hP (ci := 6) (q0 := 0) rfl rfl) rfl rfl dX6_fixSlope_2) ?_
  refine W.eq (g2 := F0 m 5 ls []) rfl ?_
  refine lv_dload_n hx hb dX6_fixSlope_5 rfl (lv_at hl 2 rfl) ?_
  refine my_goR (v := (some (.double (s_st t)))) (my_runS (bytes := cX6_settled) (maxL := 2) (ret := (some .double)) (n := 1) (As := [.double t]) (rest := []) S hl.1 (kk_X6_settled l D kd ki kz kl z t (hnt)) rfl ⟨rfl, rfl⟩ gX6_fixSlope_X6_settled (by decide +kernel) rfl ⟨Nat.le_of_ble_eq_true rfl, Nat.le_of_ble_eq_true rfl⟩ (my_preR hC (my_P_sub (wc := []) hP [] rfl)) rfl rfl dX6_fixSlope_6) ?_
  refine W.eq (g2 := F0 m 9 ls [.double (s_st t)]) rfl ?_
  refine lv_dstore (lv' := [(4, .double (s_st t)), (0, .ref (ad 0)), (1, .int (nI k)), (2, .double t)]) hx hb dX6_fixSlope_9 hl (by decide) rfl (fun ls hl => ?_)
  refine lv_dconst0 hx hb dX6_fixSlope_11 ?_
  refine my_topd (w := 0) (by decide) ?_
  refine lv_ldc2d hx hb hown (hts (.constantDouble RX6 55 (4696837146684686336)) (List.mem_of_getElem? (l := wsX6_fixSlope) (i := 3) rfl)) dX6_fixSlope_12 ?_
  refine lv_dload hx hb dX6_fixSlope_15 (lv_at hl 0 rfl) ?_
  refine my_goR (v := (some (.int (if sp_ge (s_st t) 0 ∧ sp_le (s_st t) 4696837146684686336 then 1 else 0)))) (my_runS (bytes := cX6_isFrom) (maxL := 6) (ret := (some .boolean)) (n := 3) (As := [.double 0, .double 4696837146684686336, .double (s_st t)]) (rest := []) S hl.1 (kk_X6_isFrom l D kd ki kz kl z 0 4696837146684686336 (s_st t)) rfl ⟨rfl, rfl⟩ gX6_fixSlope_X6_isFrom (by decide +kernel) rfl ⟨Nat.le_of_ble_eq_true rfl, Nat.le_of_ble_eq_true rfl⟩ (my_preR hC (my_P_sub (wc := []) hP [] rfl)) rfl rfl dX6_fixSlope_17) ?_
  refine W.eq (g2 := F0 m 20 ls [.int (if sp_ge (s_st t) 0 ∧ sp_le (s_st t) 4696837146684686336 then 1 else 0)]) rfl ?_
  by_cases q_h1 : sp_ge (s_st t) 0 ∧ sp_le (s_st t) 4696837146684686336
  · rw [if_pos q_h1]
    exact absurd q_h1 h1
  · rw [if_neg q_h1]
    refine lv_if_ne (tgt := 33) hx hb dX6_fixSlope_20 (by decide) (fun c_20 => ?_) (fun c_20 => ?_)
    · skip
      first | exact absurd c_20 (by decide) | exact absurd (by decide) c_20
    · skip
      exact my_throwS (E := "java/lang/IllegalArgumentException") (ik := 61) (is := 196) (ic := 65) (text := "a slope is from 0 to 1000000") (names := ["java/lang/RuntimeException", "java/lang/Exception"]) S hl.1 hfl hno hlocks hC (by decide +kernel) (by decide +kernel) (List.mem_of_getElem? (l := wsX6_fixSlope) (i := 1) rfl) (List.mem_of_getElem? (l := wsX6_fixSlope) (i := 2) rfl) (List.mem_of_getElem? (l := my_strs) (i := 14) rfl) (fun w hw => List.mem_cons_of_mem _ (List.mem_append_left _ (List.mem_append_right _ (hw)))) (List.mem_of_getElem? (l := my_nest) (i := 20) rfl) (th_h2_65) (th_g_61_65) dX6_fixSlope_23 dX6_fixSlope_26 dX6_fixSlope_27 dX6_fixSlope_29 dX6_fixSlope_32 (by decide)

set_option maxHeartbeats 4000000 in
set_option maxRecDepth 100000 in
theorem tt_insertKnot_a (l : Launch) (D : va_G) (kd ki kz kl : ClassId) (z : Nat) (ad : Nat → Nat) (kn : Nat) (P : Nat → UInt64) (x : UInt64) (hfl : l.stackTraces = false) (hnx : fx_n x) (hn : kn ≤ 60) (h1 : ¬ (0 < kn ∧ sp_gt (s_st x) (P 0) ∧ sp_lt (s_st x) (P (kn - 1)))) : my_TX l D kd ki kz kl z yX6_insertKnot wsX6_insertKnot ({ frames := 6, cells := 1, slots := 6, locals := 82 }) [.ref (ad 0), .double x] [(ad 0, .inr (6, [.ref (ad 1), .ref (ad 8), .ref (ad 14), .ref (ad 21), .ref (ad 22), .ref (ad 23)])), (ad 14, .inr (1, [.ref (ad 15), .ref (ad 17), .ref (ad 19), .int (nI kn)])), (ad 15, .inr (4, [.ref (ad 16)])), (ad 16, .inl (kd, 60, .inr (.inr (.inr (.inl P)))))] "java/lang/IllegalArgumentException" := by
  refine my_TX_of (cc := cX6_insertKnot) (maxL := 13) (ret := (some .int)) (by decide) rfl (Nat.le_of_ble_eq_true rfl) ?_
  intro p e s m below meth c S hr hlocks hno hC hP ls hl
  have S : CallFix p m c cX6_insertKnot 13 s ([.ref (ad 0), .double x] : List Value).toArray wsX6_insertKnot RX6 := S
  obtain ⟨hx, hb, hml, hown, hts⟩ := id S
  have hl : lv_has ls 13 [(0, .ref (ad 0)), (1, .double x)] := hl
  refine lv_dload_n hx hb dX6_insertKnot_0 rfl (lv_at hl 1 rfl) ?_
  refine my_goR (v := (some (.double (s_st x)))) (my_runS (bytes := cX6_settled) (maxL := 2) (ret := (some .double)) (n := 1) (As := [.double x]) (rest := []) S hl.1 (kk_X6_settled l D kd ki kz kl z x (hnx)) rfl ⟨rfl, rfl⟩ gX6_insertKnot_X6_settled (by decide +kernel) rfl ⟨Nat.le_of_ble_eq_true rfl, Nat.le_of_ble_eq_true rfl⟩ (my_preR hC (my_P_sub (wc := []) hP [] rfl)) rfl rfl dX6_insertKnot_1) ?_
  refine W.eq (g2 := F0 m 4 ls [.double (s_st x)]) rfl ?_
  refine lv_dstore_n (lv' := [(3, .double (s_st x)), (0, .ref (ad 0)), (1, .double x)]) hx hb dX6_insertKnot_4 rfl hl (by decide) rfl (fun ls hl => ?_)
  refine lv_aload_n hx hb dX6_insertKnot_5 rfl (lv_at hl 1 rfl) ?_
  refine va_get (D := D) (ci := 6) (v := .ref (ad 14)) (C := RX6) (T := TX6) (N := 6) hx hb hts iw_X6_insertKnot_X6 hown hC.1 hP 0 rfl rfl 2 (by decide) (hts (.fieldLink RX6 26 "MonotoneSpline" "knots" "LMonotoneSpline$Knots;") (List.mem_of_getElem? (l := wsX6_insertKnot) (i := 5) rfl)) (fun _ h9 => h9) rfl dX6_insertKnot_6 ?_
  refine lv_dload_n hx hb dX6_insertKnot_9 rfl (lv_at hl 0 rfl) ?_
  refine my_goR (v := (some (.int (if 0 < kn ∧ sp_gt (s_st x) (P 0) ∧ sp_lt (s_st x) (P (kn - 1)) then 1 else 0)))) (my_runV (bytes := cX1_liesBetweenEnds) (maxL := 3) (ret := (some .boolean)) (n := 1) (As := [.double (s_st x)]) (rest := []) S hl.1 (kk_X1_liesBetweenEnds l D kd ki kz kl z ad kn P (s_st x) (by omega)) rfl ⟨rfl, rfl⟩ gX6_insertKnot_X1_liesBetweenEnds (by decide +kernel) rfl ⟨Nat.le_of_ble_eq_true rfl, Nat.le_of_ble_eq_true rfl⟩ (my_preR hC (my_P_sub (wc := [(ad 14, .inr (1, [.ref (ad 15), .ref (ad 17), .ref (ad 19), .int (nI kn)])), (ad 15, .inr (4, [.ref (ad 16)])), (ad 16, .inl (kd, 60, .inr (.inr (.inr (.inl P)))))]) hP [1, 2, 3] rfl)) (va_recv hC.1 hP (ci := 1) (q0 := 1) rfl rfl) rfl rfl dX6_insertKnot_10) ?_
  refine W.eq (g2 := F0 m 13 ls [.int (if 0 < kn ∧ sp_gt (s_st x) (P 0) ∧ sp_lt (s_st x) (P (kn - 1)) then 1 else 0)]) rfl ?_
  by_cases q_h1 : 0 < kn ∧ sp_gt (s_st x) (P 0) ∧ sp_lt (s_st x) (P (kn - 1))
  · rw [if_pos q_h1]
    exact absurd q_h1 h1
  · rw [if_neg q_h1]
    refine lv_if_ne (tgt := 26) hx hb dX6_insertKnot_13 (by decide) (fun c_13 => ?_) (fun c_13 => ?_)
    · skip
      first | exact absurd c_13 (by decide) | exact absurd (by decide) c_13
    · skip
      exact my_throwS (E := "java/lang/IllegalArgumentException") (ik := 61) (is := 158) (ic := 65) (text := "x is not between the first and the last knot") (names := ["java/lang/RuntimeException", "java/lang/Exception"]) S hl.1 hfl hno hlocks hC (by decide +kernel) (by decide +kernel) (List.mem_of_getElem? (l := wsX6_insertKnot) (i := 1) rfl) (List.mem_of_getElem? (l := wsX6_insertKnot) (i := 2) rfl) (List.mem_of_getElem? (l := my_strs) (i := 7) rfl) (fun w hw => List.mem_cons_of_mem _ (List.mem_append_left _ (List.mem_append_right _ (hw)))) (List.mem_of_getElem? (l := my_nest) (i := 20) rfl) (th_h2_65) (th_g_61_65) dX6_insertKnot_16 dX6_insertKnot_19 dX6_insertKnot_20 dX6_insertKnot_22 dX6_insertKnot_25 (by decide)

set_option maxHeartbeats 4000000 in
set_option maxRecDepth 100000 in
theorem tt_insertKnot_b (l : Launch) (D : va_G) (kd ki kz kl : ClassId) (z : Nat) (ad : Nat → Nat) (kn : Nat) (P : Nat → UInt64) (V : Nat → UInt64) (x : UInt64) (hfl : l.stackTraces = false) (hJ : KJ kn P V) (hnx : fx_n x) (hxB : fx_B 1168 (s_st x)) (h1 : 0 < kn ∧ sp_gt (s_st x) (P 0) ∧ sp_lt (s_st x) (P (kn - 1))) (hno9 : sp_lt (FP.dsub (s_st x) (P (s_pc P kn (s_st x)))) 4547007122018943789 ∨ sp_lt (FP.dsub (P (s_pc P kn (s_st x) + 1)) (s_st x)) 4547007122018943789) : my_TX l D kd ki kz kl z yX6_insertKnot wsX6_insertKnot ({ frames := 6, cells := 1, slots := 6, locals := 82 }) [.ref (ad 0), .double x] [(ad 0, .inr (6, [.ref (ad 1), .ref (ad 8), .ref (ad 14), .ref (ad 21), .ref (ad 22), .ref (ad 23)])), (ad 14, .inr (1, [.ref (ad 15), .ref (ad 17), .ref (ad 19), .int (nI kn)])), (ad 15, .inr (4, [.ref (ad 16)])), (ad 16, .inl (kd, 60, .inr (.inr (.inr (.inl P)))))] "java/lang/IllegalArgumentException" := by
  refine my_TX_of (cc := cX6_insertKnot) (maxL := 13) (ret := (some .int)) (by decide) rfl (Nat.le_of_ble_eq_true rfl) ?_
  intro p e s m below meth c S hr hlocks hno hC hP ls hl
  have S : CallFix p m c cX6_insertKnot 13 s ([.ref (ad 0), .double x] : List Value).toArray wsX6_insertKnot RX6 := S
  obtain ⟨hx, hb, hml, hown, hts⟩ := id S
  have hl : lv_has ls 13 [(0, .ref (ad 0)), (1, .double x)] := hl
  have hkn := hJ.2.1
  have hkn2 := hJ.1
  have hlt := s_pc_lt (P := P) (x := s_st x) hkn2
  refine lv_dload_n hx hb dX6_insertKnot_0 rfl (lv_at hl 1 rfl) ?_
  refine my_goR (v := (some (.double (s_st x)))) (my_runS (bytes := cX6_settled) (maxL := 2) (ret := (some .double)) (n := 1) (As := [.double x]) (rest := []) S hl.1 (kk_X6_settled l D kd ki kz kl z x (hnx)) rfl ⟨rfl, rfl⟩ gX6_insertKnot_X6_settled (by decide +kernel) rfl ⟨Nat.le_of_ble_eq_true rfl, Nat.le_of_ble_eq_true rfl⟩ (my_preR hC (my_P_sub (wc := []) hP [] rfl)) rfl rfl dX6_insertKnot_1) ?_
  refine W.eq (g2 := F0 m 4 ls [.double (s_st x)]) rfl ?_
  refine lv_dstore_n (lv' := [(3, .double (s_st x)), (0, .ref (ad 0)), (1, .double x)]) hx hb dX6_insertKnot_4 rfl hl (by decide) rfl (fun ls hl => ?_)
  refine lv_aload_n hx hb dX6_insertKnot_5 rfl (lv_at hl 1 rfl) ?_
  refine va_get (D := D) (ci := 6) (v := .ref (ad 14)) (C := RX6) (T := TX6) (N := 6) hx hb hts iw_X6_insertKnot_X6 hown hC.1 hP 0 rfl rfl 2 (by decide) (hts (.fieldLink RX6 26 "MonotoneSpline" "knots" "LMonotoneSpline$Knots;") (List.mem_of_getElem? (l := wsX6_insertKnot) (i := 5) rfl)) (fun _ h9 => h9) rfl dX6_insertKnot_6 ?_
  refine lv_dload_n hx hb dX6_insertKnot_9 rfl (lv_at hl 0 rfl) ?_
  refine my_goR (v := (some (.int (if 0 < kn ∧ sp_gt (s_st x) (P 0) ∧ sp_lt (s_st x) (P (kn - 1)) then 1 else 0)))) (my_runV (bytes := cX1_liesBetweenEnds) (maxL := 3) (ret := (some .boolean)) (n := 1) (As := [.double (s_st x)]) (rest := []) S hl.1 (kk_X1_liesBetweenEnds l D kd ki kz kl z ad kn P (s_st x) (by omega)) rfl ⟨rfl, rfl⟩ gX6_insertKnot_X1_liesBetweenEnds (by decide +kernel) rfl ⟨Nat.le_of_ble_eq_true rfl, Nat.le_of_ble_eq_true rfl⟩ (my_preR hC (my_P_sub (wc := [(ad 14, .inr (1, [.ref (ad 15), .ref (ad 17), .ref (ad 19), .int (nI kn)])), (ad 15, .inr (4, [.ref (ad 16)])), (ad 16, .inl (kd, 60, .inr (.inr (.inr (.inl P)))))]) hP [1, 2, 3] rfl)) (va_recv hC.1 hP (ci := 1) (q0 := 1) rfl rfl) rfl rfl dX6_insertKnot_10) ?_
  refine W.eq (g2 := F0 m 13 ls [.int (if 0 < kn ∧ sp_gt (s_st x) (P 0) ∧ sp_lt (s_st x) (P (kn - 1)) then 1 else 0)]) rfl ?_
  by_cases q_h1 : 0 < kn ∧ sp_gt (s_st x) (P 0) ∧ sp_lt (s_st x) (P (kn - 1))
  · rw [if_pos q_h1]
    refine lv_if_ne (tgt := 26) hx hb dX6_insertKnot_13 (by decide) (fun c_13 => ?_) (fun c_13 => ?_)
    · skip
      refine lv_aload_n hx hb dX6_insertKnot_26 rfl (lv_at hl 1 rfl) ?_
      refine va_get (D := D) (ci := 6) (v := .ref (ad 14)) (C := RX6) (T := TX6) (N := 6) hx hb hts iw_X6_insertKnot_X6 hown hC.1 hP 0 rfl rfl 2 (by decide) (hts (.fieldLink RX6 26 "MonotoneSpline" "knots" "LMonotoneSpline$Knots;") (List.mem_of_getElem? (l := wsX6_insertKnot) (i := 5) rfl)) (fun _ h9 => h9) rfl dX6_insertKnot_27 ?_
      refine lv_dload_n hx hb dX6_insertKnot_30 rfl (lv_at hl 0 rfl) ?_
      refine my_goR (v := (some (.int (nI (s_pc P kn (s_st x)))))) (my_runV (bytes := cX1_pieceAt) (maxL := 4) (ret := (some .int)) (n := 1) (As := [.double (s_st x)]) (rest := []) S hl.1 (kk_X1_pieceAt l D kd ki kz kl z ad kn P (s_st x) (by omega) (by omega)) rfl ⟨rfl, rfl⟩ gX6_insertKnot_X1_pieceAt (by decide +kernel) rfl ⟨Nat.le_of_ble_eq_true rfl, Nat.le_of_ble_eq_true rfl⟩ (my_preR hC (my_P_sub (wc := [(ad 14, .inr (1, [.ref (ad 15), .ref (ad 17), .ref (ad 19), .int (nI kn)])), (ad 15, .inr (4, [.ref (ad 16)])), (ad 16, .inl (kd, 60, .inr (.inr (.inr (.inl P)))))]) hP [1, 2, 3] rfl)) (va_recv hC.1 hP (ci := 1) (q0 := 1) rfl rfl) rfl rfl dX6_insertKnot_31) ?_
      refine W.eq (g2 := F0 m 34 ls [.int (nI (s_pc P kn (s_st x)))]) rfl ?_
      refine lv_istore (lv' := [(5, .int (nI (s_pc P kn (s_st x)))), (3, .double (s_st x)), (0, .ref (ad 0)), (1, .double x)]) hx hb dX6_insertKnot_34 hl (by decide) rfl (fun ls hl => ?_)
      refine lv_iload hx hb dX6_insertKnot_36 (lv_at hl 0 rfl) ?_
      refine lv_iconst (v := 1) hx hb dX6_insertKnot_38 (by decide) ?_
      refine my_iadd (w := nI (s_pc P kn (s_st x) + 1)) hx hb dX6_insertKnot_39 (nI_add (s_pc P kn (s_st x)) 1) ?_
      refine lv_istore (lv' := [(6, .int (nI (s_pc P kn (s_st x) + 1))), (5, .int (nI (s_pc P kn (s_st x)))), (3, .double (s_st x)), (0, .ref (ad 0)), (1, .double x)]) hx hb dX6_insertKnot_40 hl (by decide) rfl (fun ls hl => ?_)
      refine lv_dload_n hx hb dX6_insertKnot_42 rfl (lv_at hl 2 rfl) ?_
      refine lv_aload_n hx hb dX6_insertKnot_43 rfl (lv_at hl 3 rfl) ?_
      refine va_get (D := D) (ci := 6) (v := .ref (ad 14)) (C := RX6) (T := TX6) (N := 6) hx hb hts iw_X6_insertKnot_X6 hown hC.1 hP 0 rfl rfl 2 (by decide) (hts (.fieldLink RX6 26 "MonotoneSpline" "knots" "LMonotoneSpline$Knots;") (List.mem_of_getElem? (l := wsX6_insertKnot) (i := 5) rfl)) (fun _ h9 => h9) rfl dX6_insertKnot_44 ?_
      refine va_getN (D := D) (ci := 1) (v := .ref (ad 15)) (C := RX1) (T := TX1) (N := 4) hx hb hts iw_X6_insertKnot_X1 hown hC.1 hP 1 rfl rfl 0 (by decide) (va_Nw.use (w := .fieldLinkNest "MonotoneSpline" 146 "MonotoneSpline$Knots" "places" "LMonotoneSpline$Row;" "MonotoneSpline") rfl (hC.2.1 _ (List.mem_of_getElem? (l := my_nest) (i := 8) rfl))) (fun _ h9 => h9) rfl dX6_insertKnot_47 ?_
      refine lv_iload hx hb dX6_insertKnot_50 (lv_at hl 1 rfl) ?_
      refine my_goR (v := (some (.double (P (s_pc P kn (s_st x)))))) (my_runV (bytes := cX4_get) (maxL := 2) (ret := (some .double)) (n := 1) (As := [.int (nI (s_pc P kn (s_st x)))]) (rest := [.double (s_st x)]) S hl.1 (kk_X4_get l D kd ki kz kl z (ad 15) (ad 16) 60 P (s_pc P kn (s_st x)) (by omega) (by omega)) rfl ⟨rfl, rfl⟩ gX6_insertKnot_X4_get (by decide +kernel) rfl ⟨Nat.le_of_ble_eq_true rfl, Nat.le_of_ble_eq_true rfl⟩ (my_preR hC (my_P_sub (wc := [(ad 15, .inr (4, [.ref (ad 16)])), (ad 16, .inl (kd, 60, .inr (.inr (.inr (.inl P)))))]) hP [2, 3] rfl)) (va_recv hC.1 hP (ci := 4) (q0 := 2) rfl rfl) rfl rfl dX6_insertKnot_52) ?_
      refine W.eq (g2 := F0 m 55 ls [.double (P (s_pc P kn (s_st x))), .double (s_st x)]) rfl ?_
      refine lv_dsub hx hb dX6_insertKnot_55 (fx_n64 (fx_B_n (fx_Bs (M := 1200) hxB (kJ_P hJ (by omega)) (by omega) (by omega) (by omega)) (by omega))) ?_
      refine lv_ldc2d hx hb hown (hts (.constantDouble RX6 164 (4547007122018943789)) (List.mem_of_getElem? (l := wsX6_insertKnot) (i := 6) rfl)) dX6_insertKnot_56 ?_
      refine lv_dcmp hx hb dX6_insertKnot_59 ?_
      refine lv_if_lt (tgt := 84) hx hb dX6_insertKnot_60 (by decide) (fun c_60 => ?_) (fun c_60 => ?_)
      · have c_60 := cv_g_lt_t c_60
        exact my_throwS (E := "java/lang/IllegalArgumentException") (ik := 61) (is := 166) (ic := 65) (text := "there is a knot less than 0.0001 away") (names := ["java/lang/RuntimeException", "java/lang/Exception"]) S hl.1 hfl hno hlocks hC (by decide +kernel) (by decide +kernel) (List.mem_of_getElem? (l := wsX6_insertKnot) (i := 1) rfl) (List.mem_of_getElem? (l := wsX6_insertKnot) (i := 2) rfl) (List.mem_of_getElem? (l := my_strs) (i := 8) rfl) (fun w hw => List.mem_cons_of_mem _ (List.mem_append_left _ (List.mem_append_right _ (hw)))) (List.mem_of_getElem? (l := my_nest) (i := 20) rfl) (th_h2_65) (th_g_61_65) dX6_insertKnot_84 dX6_insertKnot_87 dX6_insertKnot_88 dX6_insertKnot_90 dX6_insertKnot_93 (by decide)
      · have c_60 := cv_g_lt_f c_60
        refine lv_aload_n hx hb dX6_insertKnot_63 rfl (lv_at hl 3 rfl) ?_
        refine va_get (D := D) (ci := 6) (v := .ref (ad 14)) (C := RX6) (T := TX6) (N := 6) hx hb hts iw_X6_insertKnot_X6 hown hC.1 hP 0 rfl rfl 2 (by decide) (hts (.fieldLink RX6 26 "MonotoneSpline" "knots" "LMonotoneSpline$Knots;") (List.mem_of_getElem? (l := wsX6_insertKnot) (i := 5) rfl)) (fun _ h9 => h9) rfl dX6_insertKnot_64 ?_
        refine va_getN (D := D) (ci := 1) (v := .ref (ad 15)) (C := RX1) (T := TX1) (N := 4) hx hb hts iw_X6_insertKnot_X1 hown hC.1 hP 1 rfl rfl 0 (by decide) (va_Nw.use (w := .fieldLinkNest "MonotoneSpline" 146 "MonotoneSpline$Knots" "places" "LMonotoneSpline$Row;" "MonotoneSpline") rfl (hC.2.1 _ (List.mem_of_getElem? (l := my_nest) (i := 8) rfl))) (fun _ h9 => h9) rfl dX6_insertKnot_67 ?_
        refine lv_iload hx hb dX6_insertKnot_70 (lv_at hl 0 rfl) ?_
        refine my_goR (v := (some (.double (P (s_pc P kn (s_st x) + 1))))) (my_runV (bytes := cX4_get) (maxL := 2) (ret := (some .double)) (n := 1) (As := [.int (nI (s_pc P kn (s_st x) + 1))]) (rest := []) S hl.1 (kk_X4_get l D kd ki kz kl z (ad 15) (ad 16) 60 P (s_pc P kn (s_st x) + 1) (by omega) (by omega)) rfl ⟨rfl, rfl⟩ gX6_insertKnot_X4_get (by decide +kernel) rfl ⟨Nat.le_of_ble_eq_true rfl, Nat.le_of_ble_eq_true rfl⟩ (my_preR hC (my_P_sub (wc := [(ad 15, .inr (4, [.ref (ad 16)])), (ad 16, .inl (kd, 60, .inr (.inr (.inr (.inl P)))))]) hP [2, 3] rfl)) (va_recv hC.1 hP (ci := 4) (q0 := 2) rfl rfl) rfl rfl dX6_insertKnot_72) ?_
        refine W.eq (g2 := F0 m 75 ls [.double (P (s_pc P kn (s_st x) + 1))]) rfl ?_
        refine lv_dload_n hx hb dX6_insertKnot_75 rfl (lv_at hl 2 rfl) ?_
        refine lv_dsub hx hb dX6_insertKnot_76 (fx_n64 (fx_B_n (fx_Bs (M := 1200) (kJ_P hJ hlt) hxB (by omega) (by omega) (by omega)) (by omega))) ?_
        refine lv_ldc2d hx hb hown (hts (.constantDouble RX6 164 (4547007122018943789)) (List.mem_of_getElem? (l := wsX6_insertKnot) (i := 6) rfl)) dX6_insertKnot_77 ?_
        refine lv_dcmp hx hb dX6_insertKnot_80 ?_
        refine lv_if_ge (tgt := 94) hx hb dX6_insertKnot_81 (by decide) (fun c_81 => ?_) (fun c_81 => ?_)
        · have c_81 := cv_g_ge_t c_81
          exact absurd hno9 (fun h9 => h9.elim c_60 c_81)
        · have c_81 := cv_g_ge_f c_81
          exact my_throwS (E := "java/lang/IllegalArgumentException") (ik := 61) (is := 166) (ic := 65) (text := "there is a knot less than 0.0001 away") (names := ["java/lang/RuntimeException", "java/lang/Exception"]) S hl.1 hfl hno hlocks hC (by decide +kernel) (by decide +kernel) (List.mem_of_getElem? (l := wsX6_insertKnot) (i := 1) rfl) (List.mem_of_getElem? (l := wsX6_insertKnot) (i := 2) rfl) (List.mem_of_getElem? (l := my_strs) (i := 8) rfl) (fun w hw => List.mem_cons_of_mem _ (List.mem_append_left _ (List.mem_append_right _ (hw)))) (List.mem_of_getElem? (l := my_nest) (i := 20) rfl) (th_h2_65) (th_g_61_65) dX6_insertKnot_84 dX6_insertKnot_87 dX6_insertKnot_88 dX6_insertKnot_90 dX6_insertKnot_93 (by decide)
    · skip
      first | exact absurd c_13 (by decide) | exact absurd (by decide) c_13
  · rw [if_neg q_h1]
    exact absurd h1 q_h1

set_option maxHeartbeats 4000000 in
set_option maxRecDepth 100000 in
theorem tt_insertKnot_c (l : Launch) (D : va_G) (kd ki kz kl : ClassId) (z : Nat) (ad : Nat → Nat) (kn : Nat) (P : Nat → UInt64) (V : Nat → UInt64) (x : UInt64) (hfl : l.stackTraces = false) (hJ : KJ kn P V) (hnx : fx_n x) (hxB : fx_B 1168 (s_st x)) (h1 : 0 < kn ∧ sp_gt (s_st x) (P 0) ∧ sp_lt (s_st x) (P (kn - 1))) (h2 : ¬ sp_lt (FP.dsub (s_st x) (P (s_pc P kn (s_st x)))) 4547007122018943789) (h3 : ¬ sp_lt (FP.dsub (P (s_pc P kn (s_st x) + 1)) (s_st x)) 4547007122018943789) (hk6 : kn = 60) : my_TX l D kd ki kz kl z yX6_insertKnot wsX6_insertKnot ({ frames := 6, cells := 1, slots := 6, locals := 82 }) [.ref (ad 0), .double x] [(ad 0, .inr (6, [.ref (ad 1), .ref (ad 8), .ref (ad 14), .ref (ad 21), .ref (ad 22), .ref (ad 23)])), (ad 14, .inr (1, [.ref (ad 15), .ref (ad 17), .ref (ad 19), .int (nI kn)])), (ad 15, .inr (4, [.ref (ad 16)])), (ad 16, .inl (kd, 60, .inr (.inr (.inr (.inl P)))))] "java/lang/IllegalStateException" := by
  refine my_TX_of (cc := cX6_insertKnot) (maxL := 13) (ret := (some .int)) (by decide) rfl (Nat.le_of_ble_eq_true rfl) ?_
  intro p e s m below meth c S hr hlocks hno hC hP ls hl
  have S : CallFix p m c cX6_insertKnot 13 s ([.ref (ad 0), .double x] : List Value).toArray wsX6_insertKnot RX6 := S
  obtain ⟨hx, hb, hml, hown, hts⟩ := id S
  have hl : lv_has ls 13 [(0, .ref (ad 0)), (1, .double x)] := hl
  have hkn := hJ.2.1
  have hkn2 := hJ.1
  have hlt := s_pc_lt (P := P) (x := s_st x) hkn2
  refine lv_dload_n hx hb dX6_insertKnot_0 rfl (lv_at hl 1 rfl) ?_
  refine my_goR (v := (some (.double (s_st x)))) (my_runS (bytes := cX6_settled) (maxL := 2) (ret := (some .double)) (n := 1) (As := [.double x]) (rest := []) S hl.1 (kk_X6_settled l D kd ki kz kl z x (hnx)) rfl ⟨rfl, rfl⟩ gX6_insertKnot_X6_settled (by decide +kernel) rfl ⟨Nat.le_of_ble_eq_true rfl, Nat.le_of_ble_eq_true rfl⟩ (my_preR hC (my_P_sub (wc := []) hP [] rfl)) rfl rfl dX6_insertKnot_1) ?_
  refine W.eq (g2 := F0 m 4 ls [.double (s_st x)]) rfl ?_
  refine lv_dstore_n (lv' := [(3, .double (s_st x)), (0, .ref (ad 0)), (1, .double x)]) hx hb dX6_insertKnot_4 rfl hl (by decide) rfl (fun ls hl => ?_)
  refine lv_aload_n hx hb dX6_insertKnot_5 rfl (lv_at hl 1 rfl) ?_
  refine va_get (D := D) (ci := 6) (v := .ref (ad 14)) (C := RX6) (T := TX6) (N := 6) hx hb hts iw_X6_insertKnot_X6 hown hC.1 hP 0 rfl rfl 2 (by decide) (hts (.fieldLink RX6 26 "MonotoneSpline" "knots" "LMonotoneSpline$Knots;") (List.mem_of_getElem? (l := wsX6_insertKnot) (i := 5) rfl)) (fun _ h9 => h9) rfl dX6_insertKnot_6 ?_
  refine lv_dload_n hx hb dX6_insertKnot_9 rfl (lv_at hl 0 rfl) ?_
  refine my_goR (v := (some (.int (if 0 < kn ∧ sp_gt (s_st x) (P 0) ∧ sp_lt (s_st x) (P (kn - 1)) then 1 else 0)))) (my_runV (bytes := cX1_liesBetweenEnds) (maxL := 3) (ret := (some .boolean)) (n := 1) (As := [.double (s_st x)]) (rest := []) S hl.1 (kk_X1_liesBetweenEnds l D kd ki kz kl z ad kn P (s_st x) (by omega)) rfl ⟨rfl, rfl⟩ gX6_insertKnot_X1_liesBetweenEnds (by decide +kernel) rfl ⟨Nat.le_of_ble_eq_true rfl, Nat.le_of_ble_eq_true rfl⟩ (my_preR hC (my_P_sub (wc := [(ad 14, .inr (1, [.ref (ad 15), .ref (ad 17), .ref (ad 19), .int (nI kn)])), (ad 15, .inr (4, [.ref (ad 16)])), (ad 16, .inl (kd, 60, .inr (.inr (.inr (.inl P)))))]) hP [1, 2, 3] rfl)) (va_recv hC.1 hP (ci := 1) (q0 := 1) rfl rfl) rfl rfl dX6_insertKnot_10) ?_
  refine W.eq (g2 := F0 m 13 ls [.int (if 0 < kn ∧ sp_gt (s_st x) (P 0) ∧ sp_lt (s_st x) (P (kn - 1)) then 1 else 0)]) rfl ?_
  by_cases q_h1 : 0 < kn ∧ sp_gt (s_st x) (P 0) ∧ sp_lt (s_st x) (P (kn - 1))
  · rw [if_pos q_h1]
    refine lv_if_ne (tgt := 26) hx hb dX6_insertKnot_13 (by decide) (fun c_13 => ?_) (fun c_13 => ?_)
    · skip
      refine lv_aload_n hx hb dX6_insertKnot_26 rfl (lv_at hl 1 rfl) ?_
      refine va_get (D := D) (ci := 6) (v := .ref (ad 14)) (C := RX6) (T := TX6) (N := 6) hx hb hts iw_X6_insertKnot_X6 hown hC.1 hP 0 rfl rfl 2 (by decide) (hts (.fieldLink RX6 26 "MonotoneSpline" "knots" "LMonotoneSpline$Knots;") (List.mem_of_getElem? (l := wsX6_insertKnot) (i := 5) rfl)) (fun _ h9 => h9) rfl dX6_insertKnot_27 ?_
      refine lv_dload_n hx hb dX6_insertKnot_30 rfl (lv_at hl 0 rfl) ?_
      refine my_goR (v := (some (.int (nI (s_pc P kn (s_st x)))))) (my_runV (bytes := cX1_pieceAt) (maxL := 4) (ret := (some .int)) (n := 1) (As := [.double (s_st x)]) (rest := []) S hl.1 (kk_X1_pieceAt l D kd ki kz kl z ad kn P (s_st x) (by omega) (by omega)) rfl ⟨rfl, rfl⟩ gX6_insertKnot_X1_pieceAt (by decide +kernel) rfl ⟨Nat.le_of_ble_eq_true rfl, Nat.le_of_ble_eq_true rfl⟩ (my_preR hC (my_P_sub (wc := [(ad 14, .inr (1, [.ref (ad 15), .ref (ad 17), .ref (ad 19), .int (nI kn)])), (ad 15, .inr (4, [.ref (ad 16)])), (ad 16, .inl (kd, 60, .inr (.inr (.inr (.inl P)))))]) hP [1, 2, 3] rfl)) (va_recv hC.1 hP (ci := 1) (q0 := 1) rfl rfl) rfl rfl dX6_insertKnot_31) ?_
      refine W.eq (g2 := F0 m 34 ls [.int (nI (s_pc P kn (s_st x)))]) rfl ?_
      refine lv_istore (lv' := [(5, .int (nI (s_pc P kn (s_st x)))), (3, .double (s_st x)), (0, .ref (ad 0)), (1, .double x)]) hx hb dX6_insertKnot_34 hl (by decide) rfl (fun ls hl => ?_)
      refine lv_iload hx hb dX6_insertKnot_36 (lv_at hl 0 rfl) ?_
      refine lv_iconst (v := 1) hx hb dX6_insertKnot_38 (by decide) ?_
      refine my_iadd (w := nI (s_pc P kn (s_st x) + 1)) hx hb dX6_insertKnot_39 (nI_add (s_pc P kn (s_st x)) 1) ?_
      refine lv_istore (lv' := [(6, .int (nI (s_pc P kn (s_st x) + 1))), (5, .int (nI (s_pc P kn (s_st x)))), (3, .double (s_st x)), (0, .ref (ad 0)), (1, .double x)]) hx hb dX6_insertKnot_40 hl (by decide) rfl (fun ls hl => ?_)
      refine lv_dload_n hx hb dX6_insertKnot_42 rfl (lv_at hl 2 rfl) ?_
      refine lv_aload_n hx hb dX6_insertKnot_43 rfl (lv_at hl 3 rfl) ?_
      refine va_get (D := D) (ci := 6) (v := .ref (ad 14)) (C := RX6) (T := TX6) (N := 6) hx hb hts iw_X6_insertKnot_X6 hown hC.1 hP 0 rfl rfl 2 (by decide) (hts (.fieldLink RX6 26 "MonotoneSpline" "knots" "LMonotoneSpline$Knots;") (List.mem_of_getElem? (l := wsX6_insertKnot) (i := 5) rfl)) (fun _ h9 => h9) rfl dX6_insertKnot_44 ?_
      refine va_getN (D := D) (ci := 1) (v := .ref (ad 15)) (C := RX1) (T := TX1) (N := 4) hx hb hts iw_X6_insertKnot_X1 hown hC.1 hP 1 rfl rfl 0 (by decide) (va_Nw.use (w := .fieldLinkNest "MonotoneSpline" 146 "MonotoneSpline$Knots" "places" "LMonotoneSpline$Row;" "MonotoneSpline") rfl (hC.2.1 _ (List.mem_of_getElem? (l := my_nest) (i := 8) rfl))) (fun _ h9 => h9) rfl dX6_insertKnot_47 ?_
      refine lv_iload hx hb dX6_insertKnot_50 (lv_at hl 1 rfl) ?_
      refine my_goR (v := (some (.double (P (s_pc P kn (s_st x)))))) (my_runV (bytes := cX4_get) (maxL := 2) (ret := (some .double)) (n := 1) (As := [.int (nI (s_pc P kn (s_st x)))]) (rest := [.double (s_st x)]) S hl.1 (kk_X4_get l D kd ki kz kl z (ad 15) (ad 16) 60 P (s_pc P kn (s_st x)) (by omega) (by omega)) rfl ⟨rfl, rfl⟩ gX6_insertKnot_X4_get (by decide +kernel) rfl ⟨Nat.le_of_ble_eq_true rfl, Nat.le_of_ble_eq_true rfl⟩ (my_preR hC (my_P_sub (wc := [(ad 15, .inr (4, [.ref (ad 16)])), (ad 16, .inl (kd, 60, .inr (.inr (.inr (.inl P)))))]) hP [2, 3] rfl)) (va_recv hC.1 hP (ci := 4) (q0 := 2) rfl rfl) rfl rfl dX6_insertKnot_52) ?_
      refine W.eq (g2 := F0 m 55 ls [.double (P (s_pc P kn (s_st x))), .double (s_st x)]) rfl ?_
      refine lv_dsub hx hb dX6_insertKnot_55 (fx_n64 (fx_B_n (fx_Bs (M := 1200) hxB (kJ_P hJ (by omega)) (by omega) (by omega) (by omega)) (by omega))) ?_
      refine lv_ldc2d hx hb hown (hts (.constantDouble RX6 164 (4547007122018943789)) (List.mem_of_getElem? (l := wsX6_insertKnot) (i := 6) rfl)) dX6_insertKnot_56 ?_
      refine lv_dcmp hx hb dX6_insertKnot_59 ?_
      refine lv_if_lt (tgt := 84) hx hb dX6_insertKnot_60 (by decide) (fun c_60 => ?_) (fun c_60 => ?_)
      · have c_60 := cv_g_lt_t c_60
        exact absurd c_60 h2
      · have c_60 := cv_g_lt_f c_60
        refine lv_aload_n hx hb dX6_insertKnot_63 rfl (lv_at hl 3 rfl) ?_
        refine va_get (D := D) (ci := 6) (v := .ref (ad 14)) (C := RX6) (T := TX6) (N := 6) hx hb hts iw_X6_insertKnot_X6 hown hC.1 hP 0 rfl rfl 2 (by decide) (hts (.fieldLink RX6 26 "MonotoneSpline" "knots" "LMonotoneSpline$Knots;") (List.mem_of_getElem? (l := wsX6_insertKnot) (i := 5) rfl)) (fun _ h9 => h9) rfl dX6_insertKnot_64 ?_
        refine va_getN (D := D) (ci := 1) (v := .ref (ad 15)) (C := RX1) (T := TX1) (N := 4) hx hb hts iw_X6_insertKnot_X1 hown hC.1 hP 1 rfl rfl 0 (by decide) (va_Nw.use (w := .fieldLinkNest "MonotoneSpline" 146 "MonotoneSpline$Knots" "places" "LMonotoneSpline$Row;" "MonotoneSpline") rfl (hC.2.1 _ (List.mem_of_getElem? (l := my_nest) (i := 8) rfl))) (fun _ h9 => h9) rfl dX6_insertKnot_67 ?_
        refine lv_iload hx hb dX6_insertKnot_70 (lv_at hl 0 rfl) ?_
        refine my_goR (v := (some (.double (P (s_pc P kn (s_st x) + 1))))) (my_runV (bytes := cX4_get) (maxL := 2) (ret := (some .double)) (n := 1) (As := [.int (nI (s_pc P kn (s_st x) + 1))]) (rest := []) S hl.1 (kk_X4_get l D kd ki kz kl z (ad 15) (ad 16) 60 P (s_pc P kn (s_st x) + 1) (by omega) (by omega)) rfl ⟨rfl, rfl⟩ gX6_insertKnot_X4_get (by decide +kernel) rfl ⟨Nat.le_of_ble_eq_true rfl, Nat.le_of_ble_eq_true rfl⟩ (my_preR hC (my_P_sub (wc := [(ad 15, .inr (4, [.ref (ad 16)])), (ad 16, .inl (kd, 60, .inr (.inr (.inr (.inl P)))))]) hP [2, 3] rfl)) (va_recv hC.1 hP (ci := 4) (q0 := 2) rfl rfl) rfl rfl dX6_insertKnot_72) ?_
        refine W.eq (g2 := F0 m 75 ls [.double (P (s_pc P kn (s_st x) + 1))]) rfl ?_
        refine lv_dload_n hx hb dX6_insertKnot_75 rfl (lv_at hl 2 rfl) ?_
        refine lv_dsub hx hb dX6_insertKnot_76 (fx_n64 (fx_B_n (fx_Bs (M := 1200) (kJ_P hJ hlt) hxB (by omega) (by omega) (by omega)) (by omega))) ?_
        refine lv_ldc2d hx hb hown (hts (.constantDouble RX6 164 (4547007122018943789)) (List.mem_of_getElem? (l := wsX6_insertKnot) (i := 6) rfl)) dX6_insertKnot_77 ?_
        refine lv_dcmp hx hb dX6_insertKnot_80 ?_
        refine lv_if_ge (tgt := 94) hx hb dX6_insertKnot_81 (by decide) (fun c_81 => ?_) (fun c_81 => ?_)
        · have c_81 := cv_g_ge_t c_81
          refine lv_aload_n hx hb dX6_insertKnot_94 rfl (lv_at hl 3 rfl) ?_
          refine va_get (D := D) (ci := 6) (v := .ref (ad 14)) (C := RX6) (T := TX6) (N := 6) hx hb hts iw_X6_insertKnot_X6 hown hC.1 hP 0 rfl rfl 2 (by decide) (hts (.fieldLink RX6 26 "MonotoneSpline" "knots" "LMonotoneSpline$Knots;") (List.mem_of_getElem? (l := wsX6_insertKnot) (i := 5) rfl)) (fun _ h9 => h9) rfl dX6_insertKnot_95 ?_
          refine va_getN (D := D) (ci := 1) (v := .int (nI kn)) (C := RX1) (T := TX1) (N := 4) hx hb hts iw_X6_insertKnot_X1 hown hC.1 hP 1 rfl rfl 3 (by decide) (va_Nw.use (w := .fieldLinkNest "MonotoneSpline" 136 "MonotoneSpline$Knots" "count" "I" "MonotoneSpline") rfl (hC.2.1 _ (List.mem_of_getElem? (l := my_nest) (i := 11) rfl))) (fun _ h9 => h9) rfl dX6_insertKnot_98 ?_
          refine lv_bipush (v := 60) hx hb dX6_insertKnot_101 (by decide) ?_
          refine lv_icmp_lt (tgt := 116) hx hb dX6_insertKnot_103 (by decide) (fun c_103 => ?_) (fun c_103 => ?_)
          · have c_103 : kn < 60 := (nI_ltI (a := kn) (b := 60) (by omega) (by omega)).mp c_103
            exact absurd c_103 (by omega)
          · have c_103 : ¬ kn < 60 := fun h9 => c_103 ((nI_ltI (a := kn) (b := 60) (by omega) (by omega)).mpr h9)
            exact my_throwS (E := "java/lang/IllegalStateException") (ik := 84) (is := 168) (ic := 88) (text := "there are 60 knots") (names := ["java/lang/RuntimeException", "java/lang/Exception"]) S hl.1 hfl hno hlocks hC (by decide +kernel) (by decide +kernel) (List.mem_of_getElem? (l := wsX6_insertKnot) (i := 3) rfl) (List.mem_of_getElem? (l := wsX6_insertKnot) (i := 4) rfl) (List.mem_of_getElem? (l := my_strs) (i := 9) rfl) (fun w hw => List.mem_cons_of_mem _ (List.mem_append_right _ (hw))) (List.mem_of_getElem? (l := my_nest) (i := 21) rfl) (th_h2_88) (th_g_84_88) dX6_insertKnot_106 dX6_insertKnot_109 dX6_insertKnot_110 dX6_insertKnot_112 dX6_insertKnot_115 (by decide)
        · have c_81 := cv_g_ge_f c_81
          exact absurd c_81 h3
    · skip
      first | exact absurd c_13 (by decide) | exact absurd (by decide) c_13
  · rw [if_neg q_h1]
    exact absurd h1 q_h1

set_option maxHeartbeats 4000000 in
set_option maxRecDepth 100000 in
theorem tt_value (l : Launch) (D : va_G) (kd ki kz kl : ClassId) (z : Nat) (ad : Nat → Nat) (kn : Nat) (P : Nat → UInt64) (x : UInt64) (hfl : l.stackTraces = false) (hn : kn ≤ 60) (hsp : ¬ (0 < kn ∧ sp_ge x (P 0) ∧ sp_le x (P (kn - 1)))) : my_TX l D kd ki kz kl z yX6_value wsX6_value ({ frames := 7, cells := 1, slots := 6, locals := 104 }) [.ref (ad 0), .double x] [(ad 0, .inr (6, [.ref (ad 1), .ref (ad 8), .ref (ad 14), .ref (ad 21), .ref (ad 22), .ref (ad 23)])), (ad 14, .inr (1, [.ref (ad 15), .ref (ad 17), .ref (ad 19), .int (nI kn)])), (ad 15, .inr (4, [.ref (ad 16)])), (ad 16, .inl (kd, 60, .inr (.inr (.inr (.inl P)))))] "java/lang/IllegalArgumentException" := by
  refine my_TX_of (cc := cX6_value) (maxL := 3) (ret := (some .double)) (by decide) rfl (Nat.le_of_ble_eq_true rfl) ?_
  intro p e s m below meth c S hr hlocks hno hC hP ls hl
  have S : CallFix p m c cX6_value 3 s ([.ref (ad 0), .double x] : List Value).toArray wsX6_value RX6 := S
  obtain ⟨hx, hb, hml, hown, hts⟩ := id S
  have hl : lv_has ls 3 [(0, .ref (ad 0)), (1, .double x)] := hl
  refine lv_aload_n hx hb dX6_value_0 rfl (lv_at hl 0 rfl) ?_
  refine lv_dload_n hx hb dX6_value_1 rfl (lv_at hl 1 rfl) ?_
  exact my_goX (my_runT (bytes := cX6_requireOnSpline) (maxL := 3) (ret := none) (n := 1) (As := [.double x]) (rest := []) S hl.1 (tt_requireOnSpline l D kd ki kz kl z ad kn P x (hfl) (by omega) (hsp)) rfl ⟨rfl, rfl⟩ gX6_value_X6_requireOnSpline (by decide +kernel) rfl (my_preR hC (my_P_sub (wc := [(ad 0, .inr (6, [.ref (ad 1), .ref (ad 8), .ref (ad 14), .ref (ad 21), .ref (ad 22), .ref (ad 23)])), (ad 14, .inr (1, [.ref (ad 15), .ref (ad 17), .ref (ad 19), .int (nI kn)])), (ad 15, .inr (4, [.ref (ad 16)])), (ad 16, .inl (kd, 60, .inr (.inr (.inr (.inl P)))))]) hP [0, 1, 2, 3] rfl)) (va_recv hC.1 hP (ci := 6) (q0 := 0) rfl rfl) rfl rfl dX6_value_2) hno hlocks

set_option maxHeartbeats 4000000 in
set_option maxRecDepth 100000 in
theorem tt_slope (l : Launch) (D : va_G) (kd ki kz kl : ClassId) (z : Nat) (ad : Nat → Nat) (kn : Nat) (P : Nat → UInt64) (x : UInt64) (hfl : l.stackTraces = false) (hn : kn ≤ 60) (hsp : ¬ (0 < kn ∧ sp_ge x (P 0) ∧ sp_le x (P (kn - 1)))) : my_TX l D kd ki kz kl z yX6_slope wsX6_slope ({ frames := 7, cells := 1, slots := 6, locals := 104 }) [.ref (ad 0), .double x] [(ad 0, .inr (6, [.ref (ad 1), .ref (ad 8), .ref (ad 14), .ref (ad 21), .ref (ad 22), .ref (ad 23)])), (ad 14, .inr (1, [.ref (ad 15), .ref (ad 17), .ref (ad 19), .int (nI kn)])), (ad 15, .inr (4, [.ref (ad 16)])), (ad 16, .inl (kd, 60, .inr (.inr (.inr (.inl P)))))] "java/lang/IllegalArgumentException" := by
  refine my_TX_of (cc := cX6_slope) (maxL := 3) (ret := (some .double)) (by decide) rfl (Nat.le_of_ble_eq_true rfl) ?_
  intro p e s m below meth c S hr hlocks hno hC hP ls hl
  have S : CallFix p m c cX6_slope 3 s ([.ref (ad 0), .double x] : List Value).toArray wsX6_slope RX6 := S
  obtain ⟨hx, hb, hml, hown, hts⟩ := id S
  have hl : lv_has ls 3 [(0, .ref (ad 0)), (1, .double x)] := hl
  refine lv_aload_n hx hb dX6_slope_0 rfl (lv_at hl 0 rfl) ?_
  refine lv_dload_n hx hb dX6_slope_1 rfl (lv_at hl 1 rfl) ?_
  exact my_goX (my_runT (bytes := cX6_requireOnSpline) (maxL := 3) (ret := none) (n := 1) (As := [.double x]) (rest := []) S hl.1 (tt_requireOnSpline l D kd ki kz kl z ad kn P x (hfl) (by omega) (hsp)) rfl ⟨rfl, rfl⟩ gX6_slope_X6_requireOnSpline (by decide +kernel) rfl (my_preR hC (my_P_sub (wc := [(ad 0, .inr (6, [.ref (ad 1), .ref (ad 8), .ref (ad 14), .ref (ad 21), .ref (ad 22), .ref (ad 23)])), (ad 14, .inr (1, [.ref (ad 15), .ref (ad 17), .ref (ad 19), .int (nI kn)])), (ad 15, .inr (4, [.ref (ad 16)])), (ad 16, .inl (kd, 60, .inr (.inr (.inr (.inl P)))))]) hP [0, 1, 2, 3] rfl)) (va_recv hC.1 hP (ci := 6) (q0 := 0) rfl rfl) rfl rfl dX6_slope_2) hno hlocks

set_option maxHeartbeats 4000000 in
set_option maxRecDepth 100000 in
theorem tt_area_a (l : Launch) (D : va_G) (kd ki kz kl : ClassId) (z : Nat) (ad : Nat → Nat) (kn : Nat) (P : Nat → UInt64) (x : UInt64) (y : UInt64) (hfl : l.stackTraces = false) (hn : kn ≤ 60) (hsp : ¬ (0 < kn ∧ sp_ge x (P 0) ∧ sp_le x (P (kn - 1)))) : my_TX l D kd ki kz kl z yX6_area wsX6_area ({ frames := 7, cells := 1, slots := 6, locals := 104 }) [.ref (ad 0), .double x, .double y] [(ad 0, .inr (6, [.ref (ad 1), .ref (ad 8), .ref (ad 14), .ref (ad 21), .ref (ad 22), .ref (ad 23)])), (ad 14, .inr (1, [.ref (ad 15), .ref (ad 17), .ref (ad 19), .int (nI kn)])), (ad 15, .inr (4, [.ref (ad 16)])), (ad 16, .inl (kd, 60, .inr (.inr (.inr (.inl P)))))] "java/lang/IllegalArgumentException" := by
  refine my_TX_of (cc := cX6_area) (maxL := 5) (ret := (some .double)) (by decide) rfl (Nat.le_of_ble_eq_true rfl) ?_
  intro p e s m below meth c S hr hlocks hno hC hP ls hl
  have S : CallFix p m c cX6_area 5 s ([.ref (ad 0), .double x, .double y] : List Value).toArray wsX6_area RX6 := S
  obtain ⟨hx, hb, hml, hown, hts⟩ := id S
  have hl : lv_has ls 5 [(0, .ref (ad 0)), (1, .double x), (3, .double y)] := hl
  refine lv_aload_n hx hb dX6_area_0 rfl (lv_at hl 0 rfl) ?_
  refine lv_dload_n hx hb dX6_area_1 rfl (lv_at hl 1 rfl) ?_
  exact my_goX (my_runT (bytes := cX6_requireOnSpline) (maxL := 3) (ret := none) (n := 1) (As := [.double x]) (rest := []) S hl.1 (tt_requireOnSpline l D kd ki kz kl z ad kn P x (hfl) (by omega) (hsp)) rfl ⟨rfl, rfl⟩ gX6_area_X6_requireOnSpline (by decide +kernel) rfl (my_preR hC (my_P_sub (wc := [(ad 0, .inr (6, [.ref (ad 1), .ref (ad 8), .ref (ad 14), .ref (ad 21), .ref (ad 22), .ref (ad 23)])), (ad 14, .inr (1, [.ref (ad 15), .ref (ad 17), .ref (ad 19), .int (nI kn)])), (ad 15, .inr (4, [.ref (ad 16)])), (ad 16, .inl (kd, 60, .inr (.inr (.inr (.inl P)))))]) hP [0, 1, 2, 3] rfl)) (va_recv hC.1 hP (ci := 6) (q0 := 0) rfl rfl) rfl rfl dX6_area_2) hno hlocks

set_option maxHeartbeats 4000000 in
set_option maxRecDepth 100000 in
theorem tt_area_b (l : Launch) (D : va_G) (kd ki kz kl : ClassId) (z : Nat) (ad : Nat → Nat) (kn : Nat) (P : Nat → UInt64) (x : UInt64) (y : UInt64) (hfl : l.stackTraces = false) (hn : kn ≤ 60) (h1 : 0 < kn ∧ sp_ge x (P 0) ∧ sp_le x (P (kn - 1))) (hsp : ¬ (0 < kn ∧ sp_ge y (P 0) ∧ sp_le y (P (kn - 1)))) : my_TX l D kd ki kz kl z yX6_area wsX6_area ({ frames := 7, cells := 1, slots := 6, locals := 104 }) [.ref (ad 0), .double x, .double y] [(ad 0, .inr (6, [.ref (ad 1), .ref (ad 8), .ref (ad 14), .ref (ad 21), .ref (ad 22), .ref (ad 23)])), (ad 14, .inr (1, [.ref (ad 15), .ref (ad 17), .ref (ad 19), .int (nI kn)])), (ad 15, .inr (4, [.ref (ad 16)])), (ad 16, .inl (kd, 60, .inr (.inr (.inr (.inl P)))))] "java/lang/IllegalArgumentException" := by
  refine my_TX_of (cc := cX6_area) (maxL := 5) (ret := (some .double)) (by decide) rfl (Nat.le_of_ble_eq_true rfl) ?_
  intro p e s m below meth c S hr hlocks hno hC hP ls hl
  have S : CallFix p m c cX6_area 5 s ([.ref (ad 0), .double x, .double y] : List Value).toArray wsX6_area RX6 := S
  obtain ⟨hx, hb, hml, hown, hts⟩ := id S
  have hl : lv_has ls 5 [(0, .ref (ad 0)), (1, .double x), (3, .double y)] := hl
  refine lv_aload_n hx hb dX6_area_0 rfl (lv_at hl 0 rfl) ?_
  refine lv_dload_n hx hb dX6_area_1 rfl (lv_at hl 1 rfl) ?_
  refine my_goR (v := none) (my_runV (bytes := cX6_requireOnSpline) (maxL := 3) (ret := none) (n := 1) (As := [.double x]) (rest := []) S hl.1 (kk_X6_requireOnSpline l D kd ki kz kl z ad kn P x (by omega) (h1)) rfl ⟨rfl, rfl⟩ gX6_area_X6_requireOnSpline (by decide +kernel) rfl ⟨Nat.le_of_ble_eq_true rfl, Nat.le_of_ble_eq_true rfl⟩ (my_preR hC (my_P_sub (wc := [(ad 0, .inr (6, [.ref (ad 1), .ref (ad 8), .ref (ad 14), .ref (ad 21), .ref (ad 22), .ref (ad 23)])), (ad 14, .inr (1, [.ref (ad 15), .ref (ad 17), .ref (ad 19), .int (nI kn)])), (ad 15, .inr (4, [.ref (ad 16)])), (ad 16, .inl (kd, 60, .inr (.inr (.inr (.inl P)))))]) hP [0, 1, 2, 3] rfl)) (va_recv hC.1 hP (ci := 6) (q0 := 0) rfl rfl) rfl rfl dX6_area_2) ?_
  refine W.eq (g2 := F0 m 5 ls []) rfl ?_
  refine lv_aload_n hx hb dX6_area_5 rfl (lv_at hl 0 rfl) ?_
  refine lv_dload_n hx hb dX6_area_6 rfl (lv_at hl 2 rfl) ?_
  exact my_goX (my_runT (bytes := cX6_requireOnSpline) (maxL := 3) (ret := none) (n := 1) (As := [.double y]) (rest := []) S hl.1 (tt_requireOnSpline l D kd ki kz kl z ad kn P y (hfl) (by omega) (hsp)) rfl ⟨rfl, rfl⟩ gX6_area_X6_requireOnSpline (by decide +kernel) rfl (my_preR hC (my_P_sub (wc := [(ad 0, .inr (6, [.ref (ad 1), .ref (ad 8), .ref (ad 14), .ref (ad 21), .ref (ad 22), .ref (ad 23)])), (ad 14, .inr (1, [.ref (ad 15), .ref (ad 17), .ref (ad 19), .int (nI kn)])), (ad 15, .inr (4, [.ref (ad 16)])), (ad 16, .inl (kd, 60, .inr (.inr (.inr (.inl P)))))]) hP [0, 1, 2, 3] rfl)) (va_recv hC.1 hP (ci := 6) (q0 := 0) rfl rfl) rfl rfl dX6_area_7) hno hlocks

set_option maxHeartbeats 4000000 in
set_option maxRecDepth 100000 in
theorem tt_reach (l : Launch) (D : va_G) (kd ki kz kl : ClassId) (z : Nat) (ad : Nat → Nat) (kn : Nat) (V : Nat → UInt64) (y : UInt64) (hfl : l.stackTraces = false) (hn : kn ≤ 60) (h1 : ¬ (0 < kn ∧ sp_ge y (V 0) ∧ sp_le y (V (kn - 1)))) : my_TX l D kd ki kz kl z yX6_reach wsX6_reach ({ frames := 6, cells := 1, slots := 6, locals := 82 }) [.ref (ad 0), .double y] [(ad 0, .inr (6, [.ref (ad 1), .ref (ad 8), .ref (ad 14), .ref (ad 21), .ref (ad 22), .ref (ad 23)])), (ad 14, .inr (1, [.ref (ad 15), .ref (ad 17), .ref (ad 19), .int (nI kn)])), (ad 17, .inr (4, [.ref (ad 18)])), (ad 18, .inl (kd, 60, .inr (.inr (.inr (.inl V)))))] "java/lang/IllegalArgumentException" := by
  refine my_TX_of (cc := cX6_reach) (maxL := 11) (ret := (some .double)) (by decide) rfl (Nat.le_of_ble_eq_true rfl) ?_
  intro p e s m below meth c S hr hlocks hno hC hP ls hl
  have S : CallFix p m c cX6_reach 11 s ([.ref (ad 0), .double y] : List Value).toArray wsX6_reach RX6 := S
  obtain ⟨hx, hb, hml, hown, hts⟩ := id S
  have hl : lv_has ls 11 [(0, .ref (ad 0)), (1, .double y)] := hl
  refine lv_aload_n hx hb dX6_reach_0 rfl (lv_at hl 0 rfl) ?_
  refine va_get (D := D) (ci := 6) (v := .ref (ad 14)) (C := RX6) (T := TX6) (N := 6) hx hb hts iw_X6_reach_X6 hown hC.1 hP 0 rfl rfl 2 (by decide) (hts (.fieldLink RX6 26 "MonotoneSpline" "knots" "LMonotoneSpline$Knots;") (List.mem_of_getElem? (l := wsX6_reach) (i := 3) rfl)) (fun _ h9 => h9) rfl dX6_reach_1 ?_
  refine lv_dload_n hx hb dX6_reach_4 rfl (lv_at hl 1 rfl) ?_
  refine my_goR (v := (some (.int (if 0 < kn ∧ sp_ge y (V 0) ∧ sp_le y (V (kn - 1)) then 1 else 0)))) (my_runV (bytes := cX1_spansHeight) (maxL := 3) (ret := (some .boolean)) (n := 1) (As := [.double y]) (rest := []) S hl.1 (kk_X1_spansHeight l D kd ki kz kl z ad kn V y (by omega)) rfl ⟨rfl, rfl⟩ gX6_reach_X1_spansHeight (by decide +kernel) rfl ⟨Nat.le_of_ble_eq_true rfl, Nat.le_of_ble_eq_true rfl⟩ (my_preR hC (my_P_sub (wc := [(ad 14, .inr (1, [.ref (ad 15), .ref (ad 17), .ref (ad 19), .int (nI kn)])), (ad 17, .inr (4, [.ref (ad 18)])), (ad 18, .inl (kd, 60, .inr (.inr (.inr (.inl V)))))]) hP [1, 2, 3] rfl)) (va_recv hC.1 hP (ci := 1) (q0 := 1) rfl rfl) rfl rfl dX6_reach_5) ?_
  refine W.eq (g2 := F0 m 8 ls [.int (if 0 < kn ∧ sp_ge y (V 0) ∧ sp_le y (V (kn - 1)) then 1 else 0)]) rfl ?_
  by_cases q_h1 : 0 < kn ∧ sp_ge y (V 0) ∧ sp_le y (V (kn - 1))
  · rw [if_pos q_h1]
    exact absurd q_h1 h1
  · rw [if_neg q_h1]
    refine lv_if_ne (tgt := 21) hx hb dX6_reach_8 (by decide) (fun c_8 => ?_) (fun c_8 => ?_)
    · skip
      first | exact absurd c_8 (by decide) | exact absurd (by decide) c_8
    · skip
      exact my_throwS (E := "java/lang/IllegalArgumentException") (ik := 61) (is := 214) (ic := 65) (text := "y is not from the first value to the last one") (names := ["java/lang/RuntimeException", "java/lang/Exception"]) S hl.1 hfl hno hlocks hC (by decide +kernel) (by decide +kernel) (List.mem_of_getElem? (l := wsX6_reach) (i := 1) rfl) (List.mem_of_getElem? (l := wsX6_reach) (i := 2) rfl) (List.mem_of_getElem? (l := my_strs) (i := 16) rfl) (fun w hw => List.mem_cons_of_mem _ (List.mem_append_right _ (hw))) (List.mem_of_getElem? (l := my_nest) (i := 20) rfl) (th_h2_65) (th_g_61_65) dX6_reach_11 dX6_reach_14 dX6_reach_15 dX6_reach_17 dX6_reach_20 (by decide)

set_option maxHeartbeats 4000000 in
set_option maxRecDepth 100000 in
theorem tt_setTail (l : Launch) (D : va_G) (kd ki kz kl : ClassId) (z : Nat) (ad : Nat → Nat) (i : Int32) (kx : Int32) (a : UInt64) (hfl : l.stackTraces = false) (hno9 : ¬ (i = 0 ∨ i = 1)) : my_TX l D kd ki kz kl z yX6_setTail wsX6_setTail ({ frames := 7, cells := 1, slots := 6, locals := 102 }) [.ref (ad 0), .int i, .int kx, .double a] [(ad 0, .inr (6, [.ref (ad 1), .ref (ad 8), .ref (ad 14), .ref (ad 21), .ref (ad 22), .ref (ad 23)]))] "java/lang/IndexOutOfBoundsException" := by
  refine my_TX_of (cc := cX6_setTail) (maxL := 9) (ret := (some .int)) (by decide) rfl (Nat.le_of_ble_eq_true rfl) ?_
  intro p e s m below meth c S hr hlocks hno hC hP ls hl
  have S : CallFix p m c cX6_setTail 9 s ([.ref (ad 0), .int i, .int kx, .double a] : List Value).toArray wsX6_setTail RX6 := S
  obtain ⟨hx, hb, hml, hown, hts⟩ := id S
  have hl : lv_has ls 9 [(0, .ref (ad 0)), (1, .int i), (2, .int kx), (3, .double a)] := hl
  refine lv_iload_n hx hb dX6_setTail_0 rfl (lv_at hl 1 rfl) ?_
  exact my_goX (my_runTS (bytes := cX6_requireEnd) (maxL := 1) (ret := none) (n := 1) (As := [.int i]) (rest := []) S hl.1 (tt_requireEnd l D kd ki kz kl z i (hfl) (hno9)) rfl ⟨rfl, rfl⟩ gX6_setTail_X6_requireEnd (by decide +kernel) rfl (my_preR hC (my_P_sub (wc := []) hP [] rfl)) rfl rfl dX6_setTail_1) hno hlocks

set_option maxHeartbeats 4000000 in
set_option maxRecDepth 100000 in
theorem tt_limit (l : Launch) (D : va_G) (kd ki kz kl : ClassId) (z : Nat) (ad : Nat → Nat) (i : Int32) (hfl : l.stackTraces = false) (hno9 : ¬ (i = 0 ∨ i = 1)) : my_TX l D kd ki kz kl z yX6_limit wsX6_limit ({ frames := 7, cells := 1, slots := 6, locals := 102 }) [.ref (ad 0), .int i] [(ad 0, .inr (6, [.ref (ad 1), .ref (ad 8), .ref (ad 14), .ref (ad 21), .ref (ad 22), .ref (ad 23)]))] "java/lang/IndexOutOfBoundsException" := by
  refine my_TX_of (cc := cX6_limit) (maxL := 3) (ret := (some .double)) (by decide) rfl (Nat.le_of_ble_eq_true rfl) ?_
  intro p e s m below meth c S hr hlocks hno hC hP ls hl
  have S : CallFix p m c cX6_limit 3 s ([.ref (ad 0), .int i] : List Value).toArray wsX6_limit RX6 := S
  obtain ⟨hx, hb, hml, hown, hts⟩ := id S
  have hl : lv_has ls 3 [(0, .ref (ad 0)), (1, .int i)] := hl
  refine lv_iload_n hx hb dX6_limit_0 rfl (lv_at hl 1 rfl) ?_
  exact my_goX (my_runTS (bytes := cX6_requireEnd) (maxL := 1) (ret := none) (n := 1) (As := [.int i]) (rest := []) S hl.1 (tt_requireEnd l D kd ki kz kl z i (hfl) (hno9)) rfl ⟨rfl, rfl⟩ gX6_limit_X6_requireEnd (by decide +kernel) rfl (my_preR hC (my_P_sub (wc := []) hP [] rfl)) rfl rfl dX6_limit_1) hno hlocks

set_option maxHeartbeats 4000000 in
set_option maxRecDepth 100000 in
theorem tt_limit_2 (l : Launch) (D : va_G) (kd ki kz kl : ClassId) (z : Nat) (ad : Nat → Nat) (en : Nat) (hfl : l.stackTraces = false) (he : en ≤ 1) : my_TX l D kd ki kz kl z yX6_limit wsX6_limit ({ frames := 6, cells := 1, slots := 6, locals := 82 }) [.ref (ad 0), .int (nI en)] [(ad 0, .inr (6, [.ref (ad 1), .ref (ad 8), .ref (ad 14), .ref (ad 21), .ref (ad 22), .ref (ad 23)])), (ad 14, .inr (1, [.ref (ad 15), .ref (ad 17), .ref (ad 19), .int (nI 0)]))] "java/lang/IllegalStateException" := by
  refine my_TX_of (cc := cX6_limit) (maxL := 3) (ret := (some .double)) (by decide) rfl (Nat.le_of_ble_eq_true rfl) ?_
  intro p e s m below meth c S hr hlocks hno hC hP ls hl
  have S : CallFix p m c cX6_limit 3 s ([.ref (ad 0), .int (nI en)] : List Value).toArray wsX6_limit RX6 := S
  obtain ⟨hx, hb, hml, hown, hts⟩ := id S
  have hl : lv_has ls 3 [(0, .ref (ad 0)), (1, .int (nI en))] := hl
  refine lv_iload_n hx hb dX6_limit_0 rfl (lv_at hl 1 rfl) ?_
  refine my_goR (v := none) (my_runS (bytes := cX6_requireEnd) (maxL := 1) (ret := none) (n := 1) (As := [.int (nI en)]) (rest := []) S hl.1 (kk_X6_requireEnd l D kd ki kz kl z en (by omega)) rfl ⟨rfl, rfl⟩ gX6_limit_X6_requireEnd (by decide +kernel) rfl ⟨Nat.le_of_ble_eq_true rfl, Nat.le_of_ble_eq_true rfl⟩ (my_preR hC (my_P_sub (wc := []) hP [] rfl)) rfl rfl dX6_limit_1) ?_
  refine W.eq (g2 := F0 m 4 ls []) rfl ?_
  refine lv_aload_n hx hb dX6_limit_4 rfl (lv_at hl 0 rfl) ?_
  refine va_get (D := D) (ci := 6) (v := .ref (ad 14)) (C := RX6) (T := TX6) (N := 6) hx hb hts iw_X6_limit_X6 hown hC.1 hP 0 rfl rfl 2 (by decide) (hts (.fieldLink RX6 26 "MonotoneSpline" "knots" "LMonotoneSpline$Knots;") (List.mem_of_getElem? (l := wsX6_limit) (i := 3) rfl)) (fun _ h9 => h9) rfl dX6_limit_5 ?_
  refine va_getN (D := D) (ci := 1) (v := .int (nI 0)) (C := RX1) (T := TX1) (N := 4) hx hb hts iw_X6_limit_X1 hown hC.1 hP 1 rfl rfl 3 (by decide) (va_Nw.use (w := .fieldLinkNest "MonotoneSpline" 136 "MonotoneSpline$Knots" "count" "I" "MonotoneSpline") rfl (hC.2.1 _ (List.mem_of_getElem? (l := my_nest) (i := 11) rfl))) (fun _ h9 => h9) rfl dX6_limit_8 ?_
  refine lv_if_ne (tgt := 24) hx hb dX6_limit_11 (by decide) (fun c_11 => ?_) (fun c_11 => ?_)
  · have c_11 : ¬ 0 = 0 := fun h9 => c_11 ((nI_eq (a := 0) (b := 0) (by omega) (by omega)).mpr h9)
    exact absurd rfl c_11
  · have c_11 : 0 = 0 := (nI_eq (a := 0) (b := 0) (by omega) (by omega)).mp c_11
    exact my_throwS (E := "java/lang/IllegalStateException") (ik := 84) (is := 244) (ic := 88) (text := "there are no knots") (names := ["java/lang/RuntimeException", "java/lang/Exception"]) S hl.1 hfl hno hlocks hC (by decide +kernel) (by decide +kernel) (List.mem_of_getElem? (l := wsX6_limit) (i := 1) rfl) (List.mem_of_getElem? (l := wsX6_limit) (i := 2) rfl) (List.mem_of_getElem? (l := my_strs) (i := 21) rfl) (fun w hw => List.mem_cons_of_mem _ (List.mem_append_left _ (List.mem_append_right _ (hw)))) (List.mem_of_getElem? (l := my_nest) (i := 21) rfl) (th_h2_88) (th_g_84_88) dX6_limit_14 dX6_limit_17 dX6_limit_18 dX6_limit_20 dX6_limit_23 (by decide)

set_option maxHeartbeats 4000000 in
set_option maxRecDepth 100000 in
theorem tt_setTail_2 (l : Launch) (D : va_G) (kd ki kz kl : ClassId) (z : Nat) (ad : Nat → Nat) (en : Nat) (kx : Int32) (a : UInt64) (hfl : l.stackTraces = false) (hna : fx_n a) (he : en ≤ 1) (hno9 : ¬ (¬ kx < 0 ∧ kx ≤ 6 ∧ (sp_ge (s_st a) 13920209183539462144 ∧ sp_le (s_st a) 4696837146684686336) ∧ (4 ≤ kx → ¬ sp_eq (s_st a) 0))) : my_TX l D kd ki kz kl z yX6_setTail wsX6_setTail ({ frames := 6, cells := 1, slots := 6, locals := 82 }) [.ref (ad 0), .int (nI en), .int kx, .double a] [(ad 0, .inr (6, [.ref (ad 1), .ref (ad 8), .ref (ad 14), .ref (ad 21), .ref (ad 22), .ref (ad 23)]))] "java/lang/IllegalArgumentException" := by
  refine my_TX_of (cc := cX6_setTail) (maxL := 9) (ret := (some .int)) (by decide) rfl (Nat.le_of_ble_eq_true rfl) ?_
  intro p e s m below meth c S hr hlocks hno hC hP ls hl
  have S : CallFix p m c cX6_setTail 9 s ([.ref (ad 0), .int (nI en), .int kx, .double a] : List Value).toArray wsX6_setTail RX6 := S
  obtain ⟨hx, hb, hml, hown, hts⟩ := id S
  have hl : lv_has ls 9 [(0, .ref (ad 0)), (1, .int (nI en)), (2, .int kx), (3, .double a)] := hl
  refine lv_iload_n hx hb dX6_setTail_0 rfl (lv_at hl 1 rfl) ?_
  refine my_goR (v := none) (my_runS (bytes := cX6_requireEnd) (maxL := 1) (ret := none) (n := 1) (As := [.int (nI en)]) (rest := []) S hl.1 (kk_X6_requireEnd l D kd ki kz kl z en (by omega)) rfl ⟨rfl, rfl⟩ gX6_setTail_X6_requireEnd (by decide +kernel) rfl ⟨Nat.le_of_ble_eq_true rfl, Nat.le_of_ble_eq_true rfl⟩ (my_preR hC (my_P_sub (wc := []) hP [] rfl)) rfl rfl dX6_setTail_1) ?_
  refine W.eq (g2 := F0 m 4 ls []) rfl ?_
  refine lv_dload_n hx hb dX6_setTail_4 rfl (lv_at hl 3 rfl) ?_
  refine my_goR (v := (some (.double (s_st a)))) (my_runS (bytes := cX6_settled) (maxL := 2) (ret := (some .double)) (n := 1) (As := [.double a]) (rest := []) S hl.1 (kk_X6_settled l D kd ki kz kl z a (hna)) rfl ⟨rfl, rfl⟩ gX6_setTail_X6_settled (by decide +kernel) rfl ⟨Nat.le_of_ble_eq_true rfl, Nat.le_of_ble_eq_true rfl⟩ (my_preR hC (my_P_sub (wc := []) hP [] rfl)) rfl rfl dX6_setTail_5) ?_
  refine W.eq (g2 := F0 m 8 ls [.double (s_st a)]) rfl ?_
  refine lv_dstore (lv' := [(5, .double (s_st a)), (0, .ref (ad 0)), (1, .int (nI en)), (2, .int kx), (3, .double a)]) hx hb dX6_setTail_8 hl (by decide) rfl (fun ls hl => ?_)
  refine lv_iload_n hx hb dX6_setTail_10 rfl (lv_at hl 3 rfl) ?_
  refine lv_if_lt (tgt := 20) hx hb dX6_setTail_11 (by decide) (fun c_11 => ?_) (fun c_11 => ?_)
  · skip
    exact my_throwS (E := "java/lang/IllegalArgumentException") (ik := 61) (is := 227) (ic := 65) (text := "a kind is from 0 to 6") (names := ["java/lang/RuntimeException", "java/lang/Exception"]) S hl.1 hfl hno hlocks hC (by decide +kernel) (by decide +kernel) (List.mem_of_getElem? (l := wsX6_setTail) (i := 1) rfl) (List.mem_of_getElem? (l := wsX6_setTail) (i := 2) rfl) (List.mem_of_getElem? (l := my_strs) (i := 18) rfl) (fun w hw => List.mem_cons_of_mem _ (List.mem_append_left _ (List.mem_append_right _ (hw)))) (List.mem_of_getElem? (l := my_nest) (i := 20) rfl) (th_h2_65) (th_g_61_65) dX6_setTail_20 dX6_setTail_23 dX6_setTail_24 dX6_setTail_26 dX6_setTail_29 (by decide)
  · skip
    refine lv_iload_n hx hb dX6_setTail_14 rfl (lv_at hl 3 rfl) ?_
    refine lv_bipush (v := 6) hx hb dX6_setTail_15 (by decide) ?_
    refine lv_icmp_le (tgt := 30) hx hb dX6_setTail_17 (by decide) (fun c_17 => ?_) (fun c_17 => ?_)
    · skip
      refine lv_ldc2d hx hb hown (hts (.constantDouble RX6 53 (13920209183539462144)) (List.mem_of_getElem? (l := wsX6_setTail) (i := 3) rfl)) dX6_setTail_30 ?_
      refine lv_ldc2d hx hb hown (hts (.constantDouble RX6 55 (4696837146684686336)) (List.mem_of_getElem? (l := wsX6_setTail) (i := 4) rfl)) dX6_setTail_33 ?_
      refine lv_dload hx hb dX6_setTail_36 (lv_at hl 0 rfl) ?_
      refine my_goR (v := (some (.int (if sp_ge (s_st a) 13920209183539462144 ∧ sp_le (s_st a) 4696837146684686336 then 1 else 0)))) (my_runS (bytes := cX6_isFrom) (maxL := 6) (ret := (some .boolean)) (n := 3) (As := [.double 13920209183539462144, .double 4696837146684686336, .double (s_st a)]) (rest := []) S hl.1 (kk_X6_isFrom l D kd ki kz kl z 13920209183539462144 4696837146684686336 (s_st a)) rfl ⟨rfl, rfl⟩ gX6_setTail_X6_isFrom (by decide +kernel) rfl ⟨Nat.le_of_ble_eq_true rfl, Nat.le_of_ble_eq_true rfl⟩ (my_preR hC (my_P_sub (wc := []) hP [] rfl)) rfl rfl dX6_setTail_38) ?_
      refine W.eq (g2 := F0 m 41 ls [.int (if sp_ge (s_st a) 13920209183539462144 ∧ sp_le (s_st a) 4696837146684686336 then 1 else 0)]) rfl ?_
      by_cases q1 : sp_ge (s_st a) 13920209183539462144 ∧ sp_le (s_st a) 4696837146684686336
      · rw [if_pos q1]
        refine lv_if_ne (tgt := 54) hx hb dX6_setTail_41 (by decide) (fun c_41 => ?_) (fun c_41 => ?_)
        · skip
          refine lv_iload_n hx hb dX6_setTail_54 rfl (lv_at hl 3 rfl) ?_
          refine lv_iconst (v := 4) hx hb dX6_setTail_55 (by decide) ?_
          refine lv_icmp_lt (tgt := 76) hx hb dX6_setTail_56 (by decide) (fun c_56 => ?_) (fun c_56 => ?_)
          · skip
            exact absurd ⟨c_11, c_17, q1, fun h9 => (by first | exact absurd h9 (fun h8 => i4 c_56 h8) | exact c_63)⟩ hno9
          · skip
            refine lv_dload hx hb dX6_setTail_59 (lv_at hl 0 rfl) ?_
            refine lv_dconst0 hx hb dX6_setTail_61 ?_
            refine my_topd (w := 0) (by decide) ?_
            refine lv_dcmp hx hb dX6_setTail_62 ?_
            refine lv_if_ne (tgt := 76) hx hb dX6_setTail_63 (by decide) (fun c_63 => ?_) (fun c_63 => ?_)
            · have c_63 := cv_l_eq_f c_63
              exact absurd ⟨c_11, c_17, q1, fun h9 => (by first | exact absurd h9 (fun h8 => i4 c_56 h8) | exact c_63)⟩ hno9
            · have c_63 := cv_l_eq_t c_63
              exact my_throwS (E := "java/lang/IllegalArgumentException") (ik := 61) (is := 231) (ic := 65) (text := "this kind needs a factor other than 0") (names := ["java/lang/RuntimeException", "java/lang/Exception"]) S hl.1 hfl hno hlocks hC (by decide +kernel) (by decide +kernel) (List.mem_of_getElem? (l := wsX6_setTail) (i := 1) rfl) (List.mem_of_getElem? (l := wsX6_setTail) (i := 2) rfl) (List.mem_of_getElem? (l := my_strs) (i := 20) rfl) (fun w hw => List.mem_cons_of_mem _ (List.mem_append_left _ (List.mem_append_right _ (hw)))) (List.mem_of_getElem? (l := my_nest) (i := 20) rfl) (th_h2_65) (th_g_61_65) dX6_setTail_66 dX6_setTail_69 dX6_setTail_70 dX6_setTail_72 dX6_setTail_75 (by decide)
        · skip
          first | exact absurd c_41 (by decide) | exact absurd (by decide) c_41
      · rw [if_neg q1]
        refine lv_if_ne (tgt := 54) hx hb dX6_setTail_41 (by decide) (fun c_41 => ?_) (fun c_41 => ?_)
        · skip
          first | exact absurd c_41 (by decide) | exact absurd (by decide) c_41
        · skip
          exact my_throwS (E := "java/lang/IllegalArgumentException") (ik := 61) (is := 229) (ic := 65) (text := "a factor is from -1000000 to 1000000") (names := ["java/lang/RuntimeException", "java/lang/Exception"]) S hl.1 hfl hno hlocks hC (by decide +kernel) (by decide +kernel) (List.mem_of_getElem? (l := wsX6_setTail) (i := 1) rfl) (List.mem_of_getElem? (l := wsX6_setTail) (i := 2) rfl) (List.mem_of_getElem? (l := my_strs) (i := 19) rfl) (fun w hw => List.mem_cons_of_mem _ (List.mem_append_left _ (List.mem_append_right _ (hw)))) (List.mem_of_getElem? (l := my_nest) (i := 20) rfl) (th_h2_65) (th_g_61_65) dX6_setTail_44 dX6_setTail_47 dX6_setTail_48 dX6_setTail_50 dX6_setTail_53 (by decide)
    · skip
      exact my_throwS (E := "java/lang/IllegalArgumentException") (ik := 61) (is := 227) (ic := 65) (text := "a kind is from 0 to 6") (names := ["java/lang/RuntimeException", "java/lang/Exception"]) S hl.1 hfl hno hlocks hC (by decide +kernel) (by decide +kernel) (List.mem_of_getElem? (l := wsX6_setTail) (i := 1) rfl) (List.mem_of_getElem? (l := wsX6_setTail) (i := 2) rfl) (List.mem_of_getElem? (l := my_strs) (i := 18) rfl) (fun w hw => List.mem_cons_of_mem _ (List.mem_append_left _ (List.mem_append_right _ (hw)))) (List.mem_of_getElem? (l := my_nest) (i := 20) rfl) (th_h2_65) (th_g_61_65) dX6_setTail_20 dX6_setTail_23 dX6_setTail_24 dX6_setTail_26 dX6_setTail_29 (by decide)

