theorem s_b_end {P V : Nat → UInt64} {kn k : Nat} (h : k = 0 ∨ k + 1 = kn) (h2 : 2 ≤ kn) : s_b P V kn k = s_a P V k := by
  unfold s_b s_a s_bi
  split
  · rw [show k - 1 = k by omega]
  · rw [show k - 1 = kn - 2 by omega]
theorem s_b_mid {P V : Nat → UInt64} {kn k : Nat} (h : k + 1 < kn) : s_b P V kn k = s_r P V k := by
  unfold s_b s_bi
  rw [if_pos (by omega)]
theorem s_own_end {P V : Nat → UInt64} {kn k : Nat} (h : k = 0 ∨ k + 1 = kn) : s_a P V k = s_un P kn k (s_a P V k) (s_b P V kn k) := by
  unfold s_un; rw [if_pos (by omega)]
theorem mr_1 {kn k : Nat} {F FX : Nat → UInt64} {AF : Nat → Int32} (h : MR kn F AF FX) (hk : k < kn) (ha : ¬ AF k = 0) : ¬ F k = 13830554455654793216 ∧ FX k = F k := by
  rcases h.2 k hk with ⟨-, h2⟩ | ⟨h1, -, h3⟩
  · exact absurd h2 ha
  · exact ⟨h1, h3⟩
theorem mr_0 {kn k : Nat} {F FX : Nat → UInt64} {AF : Nat → Int32} (h : MR kn F AF FX) (hk : k < kn) (ha : AF k = 0) : F k = 13830554455654793216 := by
  rcases h.2 k hk with ⟨h1, -⟩ | ⟨-, h2, -⟩
  · exact h1
  · rw [h2] at ha; exact absurd ha (by decide)
theorem iw_X7_slopeOf_X7 : ∀ w ∈ wsX70, w ∈ wsX7_slopeOf := fun w h => List.mem_cons_of_mem _ (List.mem_append_right _ (h))
set_option maxHeartbeats 4000000 in
set_option maxRecDepth 100000 in
theorem mm_slopeEnd (l : Launch) (D : va_G) (kd ki kz kl : ClassId) (z : Nat) (am : Nat → Nat) (th : Int32) (n : Nat) (kn : Nat) (P : Nat → UInt64) (V : Nat → UInt64) (F : Nat → UInt64) (AF : Nat → Int32) (FX : Nat → UInt64) (k : Nat) (hI : KI kn P V F) (hR : MR kn F AF FX) (hk : k = 0 ∨ k + 1 = kn) : my_RO l D kd ki kz kl z yX7_slopeOf wsX7_slopeOf ({ frames := 3, cells := 0, slots := 0, locals := 72 }) [.ref (am 0), .int (nI k)] [(am 0, .inr (7, [.int th, .int (nI n), .ref (am 1), .ref (am 2), .ref (am 3), .int (nI kn), .ref (am 4), .ref (am 5), .ref (am 6), .ref (am 7), .ref (am 8), .ref (am 9), .ref (am 10), .ref (am 11), .ref (am 12)])), (am 4, .inl (kd, 60, .inr (.inr (.inr (.inl P))))), (am 5, .inl (kd, 60, .inr (.inr (.inr (.inl V))))), (am 6, .inl (kz, 60, .inl AF)), (am 7, .inl (kd, 60, .inr (.inr (.inr (.inl FX)))))] (some (.double (s_s P V F kn k))) := by
  refine my_RO_of (cc := cX7_slopeOf) (maxL := 9) (ret := (some .double)) (by decide) rfl (Nat.le_of_ble_eq_true rfl) ?_
  intro p e s m below meth c S hr hlocks hC hP ls hl
  have S : CallFix p m c cX7_slopeOf 9 s ([.ref (am 0), .int (nI k)] : List Value).toArray wsX7_slopeOf RX7 := S
  obtain ⟨hx, hb, hml, hown, hts⟩ := id S
  have hl : lv_has ls 9 [(0, .ref (am 0)), (1, .int (nI k))] := hl
  have hJ := hI.1
  have hkn := hJ.2.1
  have hkn2 := hJ.1
  have j_19 : ∀ (ls : Array Slot) (hl : lv_has ls 9 [(0, .ref (am 0)), (1, .int (nI k))]), W p l e ({ frames := 3, cells := 0, slots := 0, locals := 72 }) s m ([.ref (am 0), .int (nI k)] : List Value).toArray below meth c s.heap [] 0 0 (my_RQ below ([.ref (am 0), .int (nI k)] : List Value).toArray s (some (.double (s_s P V F kn k)))) (F0 m 19 ls [.int 1]) := by
    intro  ls hl
    refine lv_istore_n (lv' := [(2, .int 1), (0, .ref (am 0)), (1, .int (nI k))]) hx hb dX7_slopeOf_19 rfl hl (by decide) rfl (fun ls hl => ?_)
    have j_44 : ∀ (ls : Array Slot) (hl : lv_has ls 9 [(2, .int 1), (0, .ref (am 0)), (1, .int (nI k))]), W p l e ({ frames := 3, cells := 0, slots := 0, locals := 72 }) s m ([.ref (am 0), .int (nI k)] : List Value).toArray below meth c s.heap [] 0 0 (my_RQ below ([.ref (am 0), .int (nI k)] : List Value).toArray s (some (.double (s_s P V F kn k)))) (F0 m 44 ls [.double (s_own P V F kn k)]) := by
      intro  ls hl
      refine lv_dstore_n (lv' := [(3, .double (s_own P V F kn k)), (2, .int 1), (0, .ref (am 0)), (1, .int (nI k))]) hx hb dX7_slopeOf_44 rfl hl (by decide) rfl (fun ls hl => ?_)
      refine lv_iload_n hx hb dX7_slopeOf_45 rfl (lv_at hl 1 rfl) ?_
      refine lv_if_eq (tgt := 58) hx hb dX7_slopeOf_46 (by decide) (fun c_46 => ?_) (fun c_46 => ?_)
      · skip
        first | exact absurd c_46 (by decide) | exact absurd (by decide) c_46
      · skip
        refine lv_aload_n hx hb dX7_slopeOf_49 rfl (lv_at hl 2 rfl) ?_
        refine lv_iload_n hx hb dX7_slopeOf_50 rfl (lv_at hl 3 rfl) ?_
        refine lv_iconst (v := 1) hx hb dX7_slopeOf_51 (by decide) ?_
        refine my_goR (v := (some (.double (s_a P V k)))) (my_runV (bytes := cX7_freeSlope) (maxL := 11) (ret := (some .double)) (n := 2) (As := [.int (nI k), .int 1]) (rest := []) S hl.1 (mm_freeEnd l D kd ki kz kl z am th n kn P V k (hk) (hJ)) rfl ⟨rfl, rfl⟩ gX7_slopeOf_X7_freeSlope (by decide +kernel) rfl ⟨Nat.le_of_ble_eq_true rfl, Nat.le_of_ble_eq_true rfl⟩ (my_preR hC (my_P_sub (wc := [(am 0, .inr (7, [.int th, .int (nI n), .ref (am 1), .ref (am 2), .ref (am 3), .int (nI kn), .ref (am 4), .ref (am 5), .ref (am 6), .ref (am 7), .ref (am 8), .ref (am 9), .ref (am 10), .ref (am 11), .ref (am 12)])), (am 4, .inl (kd, 60, .inr (.inr (.inr (.inl P))))), (am 5, .inl (kd, 60, .inr (.inr (.inr (.inl V)))))]) hP [0, 1, 2] rfl)) (va_recv hC.1 hP (ci := 7) (q0 := 0) rfl rfl) rfl rfl dX7_slopeOf_52) ?_
        refine W.eq (g2 := F0 m 55 ls [.double (s_a P V k)]) rfl ?_
        refine lv_goto (tgt := 73) hx hb dX7_slopeOf_55 (by decide) ?_
        refine my_topd (w := s_min (s_a P V k) (s_b P V kn k)) (by rw [s_b_end hk hkn2, s_min_same]) ?_
        refine lv_dstore (lv' := [(5, .double (s_min (s_a P V k) (s_b P V kn k))), (3, .double (s_own P V F kn k)), (2, .int 1), (0, .ref (am 0)), (1, .int (nI k))]) hx hb dX7_slopeOf_73 hl (by decide) rfl (fun ls hl => ?_)
        refine lv_ldc2d hx hb hown (hts (.constantDouble RX7 111 (4613937818241073152)) (List.mem_of_getElem? (l := wsX7_slopeOf) (i := 4) rfl)) dX7_slopeOf_75 ?_
        refine lv_dload hx hb dX7_slopeOf_78 (lv_at hl 0 rfl) ?_
        refine lv_dmul hx hb dX7_slopeOf_80 (fx_n64 ((kJ_most hJ (by omega)).2.2)) ?_
        refine my_topd (w := s_most P V kn k) (rfl) ?_
        refine lv_dstore (lv' := [(7, .double (s_most P V kn k)), (5, .double (s_min (s_a P V k) (s_b P V kn k))), (3, .double (s_own P V F kn k)), (2, .int 1), (0, .ref (am 0)), (1, .int (nI k))]) hx hb dX7_slopeOf_81 hl (by decide) rfl (fun ls hl => ?_)
        refine lv_dload_n hx hb dX7_slopeOf_83 rfl (lv_at hl 2 rfl) ?_
        refine lv_dload hx hb dX7_slopeOf_84 (lv_at hl 0 rfl) ?_
        refine lv_dcmp hx hb dX7_slopeOf_86 ?_
        refine lv_if_le (tgt := 95) hx hb dX7_slopeOf_87 (by decide) (fun c_87 => ?_) (fun c_87 => ?_)
        · have c_87 := cv_l_le_t c_87
          refine lv_dload_n hx hb dX7_slopeOf_95 rfl (lv_at hl 2 rfl) ?_
          exact my_dretR hx hb hr hlocks ((if_neg c_87).symm) dX7_slopeOf_96
        · have c_87 := cv_l_le_f c_87
          refine lv_dload hx hb dX7_slopeOf_90 (lv_at hl 0 rfl) ?_
          refine lv_goto (tgt := 96) hx hb dX7_slopeOf_92 (by decide) ?_
          exact my_dretR hx hb hr hlocks ((if_pos c_87).symm) dX7_slopeOf_96
    refine lv_aload_n hx hb dX7_slopeOf_20 rfl (lv_at hl 1 rfl) ?_
    refine va_get (D := D) (ci := 7) (v := .ref (am 6)) (C := RX7) (T := TX7) (N := 15) hx hb hts iw_X7_slopeOf_X7 hown hC.1 hP 0 rfl rfl 8 (by decide) (hts (.fieldLink RX7 25 "MonotoneSplineModel" "areFixed" "[Z") (List.mem_of_getElem? (l := wsX7_slopeOf) (i := 2) rfl)) (fun _ h9 => h9) rfl dX7_slopeOf_21 ?_
    refine lv_iload_n hx hb dX7_slopeOf_24 rfl (lv_at hl 2 rfl) ?_
    refine my_zald (k := k) (n := 60) (f := AF) hx hb hC hP 3 rfl (by omega) (by omega) dX7_slopeOf_25 ?_
    refine lv_if_eq (tgt := 38) hx hb dX7_slopeOf_26 (by decide) (fun c_26 => ?_) (fun c_26 => ?_)
    · skip
      refine lv_aload_n hx hb dX7_slopeOf_38 rfl (lv_at hl 1 rfl) ?_
      refine lv_iload_n hx hb dX7_slopeOf_39 rfl (lv_at hl 2 rfl) ?_
      refine lv_iload_n hx hb dX7_slopeOf_40 rfl (lv_at hl 0 rfl) ?_
      refine my_goR (v := (some (.double (s_a P V k)))) (my_runV (bytes := cX7_freeSlope) (maxL := 11) (ret := (some .double)) (n := 2) (As := [.int (nI k), .int 1]) (rest := []) S hl.1 (mm_freeEnd l D kd ki kz kl z am th n kn P V k (by omega) (hJ)) rfl ⟨rfl, rfl⟩ gX7_slopeOf_X7_freeSlope (by decide +kernel) rfl ⟨Nat.le_of_ble_eq_true rfl, Nat.le_of_ble_eq_true rfl⟩ (my_preR hC (my_P_sub (wc := [(am 0, .inr (7, [.int th, .int (nI n), .ref (am 1), .ref (am 2), .ref (am 3), .int (nI kn), .ref (am 4), .ref (am 5), .ref (am 6), .ref (am 7), .ref (am 8), .ref (am 9), .ref (am 10), .ref (am 11), .ref (am 12)])), (am 4, .inl (kd, 60, .inr (.inr (.inr (.inl P))))), (am 5, .inl (kd, 60, .inr (.inr (.inr (.inl V)))))]) hP [0, 1, 2] rfl)) (va_recv hC.1 hP (ci := 7) (q0 := 0) rfl rfl) rfl rfl dX7_slopeOf_41) ?_
      refine W.eq (g2 := F0 m 44 ls [.double (s_a P V k)]) rfl ?_
      refine my_topd (w := s_own P V F kn k) (by rw [s_own, if_pos (mr_0 hR (by omega) c_26)]; exact s_own_end hk) ?_
      exact j_44 _ (lv_sub hl [0, 1, 2] rfl)
    · skip
      refine lv_aload_n hx hb dX7_slopeOf_29 rfl (lv_at hl 1 rfl) ?_
      refine va_get (D := D) (ci := 7) (v := .ref (am 7)) (C := RX7) (T := TX7) (N := 15) hx hb hts iw_X7_slopeOf_X7 hown hC.1 hP 0 rfl rfl 9 (by decide) (hts (.fieldLink RX7 29 "MonotoneSplineModel" "fixed" "[D") (List.mem_of_getElem? (l := wsX7_slopeOf) (i := 3) rfl)) (fun _ h9 => h9) rfl dX7_slopeOf_30 ?_
      refine lv_iload_n hx hb dX7_slopeOf_33 rfl (lv_at hl 2 rfl) ?_
      refine my_dald (k := k) (n := 60) (f := FX) hx hb hC hP 4 rfl (by omega) (by omega) dX7_slopeOf_34 ?_
      refine lv_goto (tgt := 44) hx hb dX7_slopeOf_35 (by decide) ?_
      refine my_topd (w := s_own P V F kn k) (by rw [s_own, if_neg (mr_1 hR (by omega) c_26).1]; exact (mr_1 hR (by omega) c_26).2) ?_
      exact j_44 _ (lv_sub hl [0, 1, 2] rfl)
  refine lv_iload_n hx hb dX7_slopeOf_0 rfl (lv_at hl 1 rfl) ?_
  refine lv_if_eq (tgt := 14) hx hb dX7_slopeOf_1 (by decide) (fun c_1 => ?_) (fun c_1 => ?_)
  · have c_1 : k = 0 := (nI_eq (a := k) (b := 0) (by omega) (by omega)).mp c_1
    refine lv_iconst (v := 1) hx hb dX7_slopeOf_14 (by decide) ?_
    refine lv_goto (tgt := 19) hx hb dX7_slopeOf_15 (by decide) ?_
    exact j_19 _ (lv_sub hl [0, 1] rfl)
  · have c_1 : ¬ k = 0 := fun h9 => c_1 ((nI_eq (a := k) (b := 0) (by omega) (by omega)).mpr h9)
    refine lv_iload_n hx hb dX7_slopeOf_4 rfl (lv_at hl 1 rfl) ?_
    refine lv_aload_n hx hb dX7_slopeOf_5 rfl (lv_at hl 0 rfl) ?_
    refine va_get (D := D) (ci := 7) (v := .int (nI kn)) (C := RX7) (T := TX7) (N := 15) hx hb hts iw_X7_slopeOf_X7 hown hC.1 hP 0 rfl rfl 5 (by decide) (hts (.fieldLink RX7 56 "MonotoneSplineModel" "knots" "I") (List.mem_of_getElem? (l := wsX7_slopeOf) (i := 1) rfl)) (fun _ h9 => h9) rfl dX7_slopeOf_6 ?_
    refine lv_iconst (v := 1) hx hb dX7_slopeOf_9 (by decide) ?_
    refine my_isub (w := nI (kn - 1)) hx hb dX7_slopeOf_10 (pk_sub (a := kn) (b := 1) (by omega)) ?_
    refine lv_icmp_ne (tgt := 18) hx hb dX7_slopeOf_11 (by decide) (fun c_11 => ?_) (fun c_11 => ?_)
    · have c_11 : ¬ k = kn - 1 := fun h9 => c_11 ((nI_eq (a := k) (b := kn - 1) (by omega) (by omega)).mpr h9)
      exact absurd c_11 (by omega)
    · have c_11 : k = kn - 1 := (nI_eq (a := k) (b := kn - 1) (by omega) (by omega)).mp c_11
      refine lv_iconst (v := 1) hx hb dX7_slopeOf_14 (by decide) ?_
      refine lv_goto (tgt := 19) hx hb dX7_slopeOf_15 (by decide) ?_
      exact j_19 _ (lv_sub hl [0, 1] rfl)

set_option maxHeartbeats 4000000 in
set_option maxRecDepth 100000 in
theorem mm_slopeMid (l : Launch) (D : va_G) (kd ki kz kl : ClassId) (z : Nat) (am : Nat → Nat) (th : Int32) (n : Nat) (kn : Nat) (P : Nat → UInt64) (V : Nat → UInt64) (F : Nat → UInt64) (AF : Nat → Int32) (FX : Nat → UInt64) (k : Nat) (hI : KI kn P V F) (hR : MR kn F AF FX) (h0 : 0 < k) (hk : k + 1 < kn) : my_RO l D kd ki kz kl z yX7_slopeOf wsX7_slopeOf ({ frames := 3, cells := 0, slots := 0, locals := 72 }) [.ref (am 0), .int (nI k)] [(am 0, .inr (7, [.int th, .int (nI n), .ref (am 1), .ref (am 2), .ref (am 3), .int (nI kn), .ref (am 4), .ref (am 5), .ref (am 6), .ref (am 7), .ref (am 8), .ref (am 9), .ref (am 10), .ref (am 11), .ref (am 12)])), (am 4, .inl (kd, 60, .inr (.inr (.inr (.inl P))))), (am 5, .inl (kd, 60, .inr (.inr (.inr (.inl V))))), (am 6, .inl (kz, 60, .inl AF)), (am 7, .inl (kd, 60, .inr (.inr (.inr (.inl FX)))))] (some (.double (s_s P V F kn k))) := by
  refine my_RO_of (cc := cX7_slopeOf) (maxL := 9) (ret := (some .double)) (by decide) rfl (Nat.le_of_ble_eq_true rfl) ?_
  intro p e s m below meth c S hr hlocks hC hP ls hl
  have S : CallFix p m c cX7_slopeOf 9 s ([.ref (am 0), .int (nI k)] : List Value).toArray wsX7_slopeOf RX7 := S
  obtain ⟨hx, hb, hml, hown, hts⟩ := id S
  have hl : lv_has ls 9 [(0, .ref (am 0)), (1, .int (nI k))] := hl
  have hJ := hI.1
  have hkn := hJ.2.1
  have hkn2 := hJ.1
  refine lv_iload_n hx hb dX7_slopeOf_0 rfl (lv_at hl 1 rfl) ?_
  refine lv_if_eq (tgt := 14) hx hb dX7_slopeOf_1 (by decide) (fun c_1 => ?_) (fun c_1 => ?_)
  · have c_1 : k = 0 := (nI_eq (a := k) (b := 0) (by omega) (by omega)).mp c_1
    exact absurd h0 (by omega)
  · have c_1 : ¬ k = 0 := fun h9 => c_1 ((nI_eq (a := k) (b := 0) (by omega) (by omega)).mpr h9)
    refine lv_iload_n hx hb dX7_slopeOf_4 rfl (lv_at hl 1 rfl) ?_
    refine lv_aload_n hx hb dX7_slopeOf_5 rfl (lv_at hl 0 rfl) ?_
    refine va_get (D := D) (ci := 7) (v := .int (nI kn)) (C := RX7) (T := TX7) (N := 15) hx hb hts iw_X7_slopeOf_X7 hown hC.1 hP 0 rfl rfl 5 (by decide) (hts (.fieldLink RX7 56 "MonotoneSplineModel" "knots" "I") (List.mem_of_getElem? (l := wsX7_slopeOf) (i := 1) rfl)) (fun _ h9 => h9) rfl dX7_slopeOf_6 ?_
    refine lv_iconst (v := 1) hx hb dX7_slopeOf_9 (by decide) ?_
    refine my_isub (w := nI (kn - 1)) hx hb dX7_slopeOf_10 (pk_sub (a := kn) (b := 1) (by omega)) ?_
    refine lv_icmp_ne (tgt := 18) hx hb dX7_slopeOf_11 (by decide) (fun c_11 => ?_) (fun c_11 => ?_)
    · have c_11 : ¬ k = kn - 1 := fun h9 => c_11 ((nI_eq (a := k) (b := kn - 1) (by omega) (by omega)).mpr h9)
      refine lv_iconst (v := 0) hx hb dX7_slopeOf_18 (by decide) ?_
      refine lv_istore_n (lv' := [(2, .int 0), (0, .ref (am 0)), (1, .int (nI k))]) hx hb dX7_slopeOf_19 rfl hl (by decide) rfl (fun ls hl => ?_)
      have j_44 : ∀ (ls : Array Slot) (hl : lv_has ls 9 [(2, .int 0), (0, .ref (am 0)), (1, .int (nI k))]), W p l e ({ frames := 3, cells := 0, slots := 0, locals := 72 }) s m ([.ref (am 0), .int (nI k)] : List Value).toArray below meth c s.heap [] 0 0 (my_RQ below ([.ref (am 0), .int (nI k)] : List Value).toArray s (some (.double (s_s P V F kn k)))) (F0 m 44 ls [.double (s_own P V F kn k)]) := by
        intro  ls hl
        refine lv_dstore_n (lv' := [(3, .double (s_own P V F kn k)), (2, .int 0), (0, .ref (am 0)), (1, .int (nI k))]) hx hb dX7_slopeOf_44 rfl hl (by decide) rfl (fun ls hl => ?_)
        refine lv_iload_n hx hb dX7_slopeOf_45 rfl (lv_at hl 1 rfl) ?_
        refine lv_if_eq (tgt := 58) hx hb dX7_slopeOf_46 (by decide) (fun c_46 => ?_) (fun c_46 => ?_)
        · skip
          refine lv_aload_n hx hb dX7_slopeOf_58 rfl (lv_at hl 2 rfl) ?_
          refine lv_iload_n hx hb dX7_slopeOf_59 rfl (lv_at hl 3 rfl) ?_
          refine lv_iconst (v := 1) hx hb dX7_slopeOf_60 (by decide) ?_
          refine my_isub (w := nI (k - 1)) hx hb dX7_slopeOf_61 (pk_sub (a := k) (b := 1) (by omega)) ?_
          refine my_goR (v := (some (.double (s_r P V (k - 1))))) (my_runV (bytes := cX7_rise) (maxL := 2) (ret := (some .double)) (n := 1) (As := [.int (nI (k - 1))]) (rest := []) S hl.1 (mm_rise l D kd ki kz kl z am th n kn P V (k - 1) (by omega) (hJ)) rfl ⟨rfl, rfl⟩ gX7_slopeOf_X7_rise (by decide +kernel) rfl ⟨Nat.le_of_ble_eq_true rfl, Nat.le_of_ble_eq_true rfl⟩ (my_preR hC (my_P_sub (wc := [(am 0, .inr (7, [.int th, .int (nI n), .ref (am 1), .ref (am 2), .ref (am 3), .int (nI kn), .ref (am 4), .ref (am 5), .ref (am 6), .ref (am 7), .ref (am 8), .ref (am 9), .ref (am 10), .ref (am 11), .ref (am 12)])), (am 4, .inl (kd, 60, .inr (.inr (.inr (.inl P))))), (am 5, .inl (kd, 60, .inr (.inr (.inr (.inl V)))))]) hP [0, 1, 2] rfl)) (va_recv hC.1 hP (ci := 7) (q0 := 0) rfl rfl) rfl rfl dX7_slopeOf_62) ?_
          refine W.eq (g2 := F0 m 65 ls [.double (s_r P V (k - 1))]) rfl ?_
          refine lv_aload_n hx hb dX7_slopeOf_65 rfl (lv_at hl 2 rfl) ?_
          refine lv_iload_n hx hb dX7_slopeOf_66 rfl (lv_at hl 3 rfl) ?_
          refine my_goR (v := (some (.double (s_r P V k)))) (my_runV (bytes := cX7_rise) (maxL := 2) (ret := (some .double)) (n := 1) (As := [.int (nI k)]) (rest := [.double (s_r P V (k - 1))]) S hl.1 (mm_rise l D kd ki kz kl z am th n kn P V k (by omega) (hJ)) rfl ⟨rfl, rfl⟩ gX7_slopeOf_X7_rise (by decide +kernel) rfl ⟨Nat.le_of_ble_eq_true rfl, Nat.le_of_ble_eq_true rfl⟩ (my_preR hC (my_P_sub (wc := [(am 0, .inr (7, [.int th, .int (nI n), .ref (am 1), .ref (am 2), .ref (am 3), .int (nI kn), .ref (am 4), .ref (am 5), .ref (am 6), .ref (am 7), .ref (am 8), .ref (am 9), .ref (am 10), .ref (am 11), .ref (am 12)])), (am 4, .inl (kd, 60, .inr (.inr (.inr (.inl P))))), (am 5, .inl (kd, 60, .inr (.inr (.inr (.inl V)))))]) hP [0, 1, 2] rfl)) (va_recv hC.1 hP (ci := 7) (q0 := 0) rfl rfl) rfl rfl dX7_slopeOf_67) ?_
          refine W.eq (g2 := F0 m 70 ls [.double (s_r P V k), .double (s_r P V (k - 1))]) rfl ?_
          refine my_mmin hx hb (hml.trans hl.1.symm) rfl hown (hts (.methodLink RX7 107 yJ9_min_eb370) (List.mem_of_getElem? (l := wsX7_slopeOf) (i := 21) rfl)) (hts (.static yJ9_min_eb370) (List.mem_of_getElem? (l := wsX7_slopeOf) (i := 22) rfl)) (hts (.initialized RJ9) (List.mem_of_getElem? (l := wsX7_slopeOf) (i := 23) rfl)) (hts (.code yJ9_min_eb370 cJ9_min_eb370 4 (some .double)) (List.mem_of_getElem? (l := wsX7_slopeOf) (i := 24) rfl)) (fx_n64 ((kJ_r hJ (k := k - 1) (by omega)).2.2)) (fx_n64 ((kJ_r hJ hk).2.2)) (by decide) (by decide) ⟨Nat.le_of_ble_eq_true rfl, Nat.le_of_ble_eq_true rfl⟩ dX7_slopeOf_70 ?_
          refine my_topd (w := s_min (s_r P V (k - 1)) (s_r P V k)) (s_min_pick ((kJ_r hJ (k := k - 1) (by omega)).2.1)) ?_
          refine my_topd (w := s_min (s_a P V k) (s_b P V kn k)) (by rw [s_b_mid hk]; rfl) ?_
          refine lv_dstore (lv' := [(5, .double (s_min (s_a P V k) (s_b P V kn k))), (3, .double (s_own P V F kn k)), (2, .int 0), (0, .ref (am 0)), (1, .int (nI k))]) hx hb dX7_slopeOf_73 hl (by decide) rfl (fun ls hl => ?_)
          refine lv_ldc2d hx hb hown (hts (.constantDouble RX7 111 (4613937818241073152)) (List.mem_of_getElem? (l := wsX7_slopeOf) (i := 4) rfl)) dX7_slopeOf_75 ?_
          refine lv_dload hx hb dX7_slopeOf_78 (lv_at hl 0 rfl) ?_
          refine lv_dmul hx hb dX7_slopeOf_80 (fx_n64 ((kJ_most hJ (by omega)).2.2)) ?_
          refine my_topd (w := s_most P V kn k) (rfl) ?_
          refine lv_dstore (lv' := [(7, .double (s_most P V kn k)), (5, .double (s_min (s_a P V k) (s_b P V kn k))), (3, .double (s_own P V F kn k)), (2, .int 0), (0, .ref (am 0)), (1, .int (nI k))]) hx hb dX7_slopeOf_81 hl (by decide) rfl (fun ls hl => ?_)
          refine lv_dload_n hx hb dX7_slopeOf_83 rfl (lv_at hl 2 rfl) ?_
          refine lv_dload hx hb dX7_slopeOf_84 (lv_at hl 0 rfl) ?_
          refine lv_dcmp hx hb dX7_slopeOf_86 ?_
          refine lv_if_le (tgt := 95) hx hb dX7_slopeOf_87 (by decide) (fun c_87 => ?_) (fun c_87 => ?_)
          · have c_87 := cv_l_le_t c_87
            refine lv_dload_n hx hb dX7_slopeOf_95 rfl (lv_at hl 2 rfl) ?_
            exact my_dretR hx hb hr hlocks ((if_neg c_87).symm) dX7_slopeOf_96
          · have c_87 := cv_l_le_f c_87
            refine lv_dload hx hb dX7_slopeOf_90 (lv_at hl 0 rfl) ?_
            refine lv_goto (tgt := 96) hx hb dX7_slopeOf_92 (by decide) ?_
            exact my_dretR hx hb hr hlocks ((if_pos c_87).symm) dX7_slopeOf_96
        · skip
          first | exact absurd c_46 (by decide) | exact absurd (by decide) c_46
      refine lv_aload_n hx hb dX7_slopeOf_20 rfl (lv_at hl 1 rfl) ?_
      refine va_get (D := D) (ci := 7) (v := .ref (am 6)) (C := RX7) (T := TX7) (N := 15) hx hb hts iw_X7_slopeOf_X7 hown hC.1 hP 0 rfl rfl 8 (by decide) (hts (.fieldLink RX7 25 "MonotoneSplineModel" "areFixed" "[Z") (List.mem_of_getElem? (l := wsX7_slopeOf) (i := 2) rfl)) (fun _ h9 => h9) rfl dX7_slopeOf_21 ?_
      refine lv_iload_n hx hb dX7_slopeOf_24 rfl (lv_at hl 2 rfl) ?_
      refine my_zald (k := k) (n := 60) (f := AF) hx hb hC hP 3 rfl (by omega) (by omega) dX7_slopeOf_25 ?_
      refine lv_if_eq (tgt := 38) hx hb dX7_slopeOf_26 (by decide) (fun c_26 => ?_) (fun c_26 => ?_)
      · skip
        refine lv_aload_n hx hb dX7_slopeOf_38 rfl (lv_at hl 1 rfl) ?_
        refine lv_iload_n hx hb dX7_slopeOf_39 rfl (lv_at hl 2 rfl) ?_
        refine lv_iload_n hx hb dX7_slopeOf_40 rfl (lv_at hl 0 rfl) ?_
        refine my_goR (v := (some (.double (s_un P kn k (s_a P V k) (s_r P V k))))) (my_runV (bytes := cX7_freeSlope) (maxL := 11) (ret := (some .double)) (n := 2) (As := [.int (nI k), .int 0]) (rest := []) S hl.1 (mm_freeMid l D kd ki kz kl z am th n kn P V k (by omega) (by omega) (hJ)) rfl ⟨rfl, rfl⟩ gX7_slopeOf_X7_freeSlope (by decide +kernel) rfl ⟨Nat.le_of_ble_eq_true rfl, Nat.le_of_ble_eq_true rfl⟩ (my_preR hC (my_P_sub (wc := [(am 0, .inr (7, [.int th, .int (nI n), .ref (am 1), .ref (am 2), .ref (am 3), .int (nI kn), .ref (am 4), .ref (am 5), .ref (am 6), .ref (am 7), .ref (am 8), .ref (am 9), .ref (am 10), .ref (am 11), .ref (am 12)])), (am 4, .inl (kd, 60, .inr (.inr (.inr (.inl P))))), (am 5, .inl (kd, 60, .inr (.inr (.inr (.inl V)))))]) hP [0, 1, 2] rfl)) (va_recv hC.1 hP (ci := 7) (q0 := 0) rfl rfl) rfl rfl dX7_slopeOf_41) ?_
        refine W.eq (g2 := F0 m 44 ls [.double (s_un P kn k (s_a P V k) (s_r P V k))]) rfl ?_
        refine my_topd (w := s_own P V F kn k) (by rw [s_own, if_pos (mr_0 hR (by omega) c_26)]; rw [s_b_mid hk]) ?_
        exact j_44 _ (lv_sub hl [0, 1, 2] rfl)
      · skip
        refine lv_aload_n hx hb dX7_slopeOf_29 rfl (lv_at hl 1 rfl) ?_
        refine va_get (D := D) (ci := 7) (v := .ref (am 7)) (C := RX7) (T := TX7) (N := 15) hx hb hts iw_X7_slopeOf_X7 hown hC.1 hP 0 rfl rfl 9 (by decide) (hts (.fieldLink RX7 29 "MonotoneSplineModel" "fixed" "[D") (List.mem_of_getElem? (l := wsX7_slopeOf) (i := 3) rfl)) (fun _ h9 => h9) rfl dX7_slopeOf_30 ?_
        refine lv_iload_n hx hb dX7_slopeOf_33 rfl (lv_at hl 2 rfl) ?_
        refine my_dald (k := k) (n := 60) (f := FX) hx hb hC hP 4 rfl (by omega) (by omega) dX7_slopeOf_34 ?_
        refine lv_goto (tgt := 44) hx hb dX7_slopeOf_35 (by decide) ?_
        refine my_topd (w := s_own P V F kn k) (by rw [s_own, if_neg (mr_1 hR (by omega) c_26).1]; exact (mr_1 hR (by omega) c_26).2) ?_
        exact j_44 _ (lv_sub hl [0, 1, 2] rfl)
    · have c_11 : k = kn - 1 := (nI_eq (a := k) (b := kn - 1) (by omega) (by omega)).mp c_11
      exact absurd hk (by omega)

theorem mm_slopeOf (l : Launch) (D : va_G) (kd ki kz kl : ClassId) (z : Nat) (am : Nat → Nat) (th : Int32) (n : Nat) (kn : Nat) (P : Nat → UInt64) (V : Nat → UInt64) (F : Nat → UInt64) (AF : Nat → Int32) (FX : Nat → UInt64) (k : Nat) (hI : KI kn P V F) (hR : MR kn F AF FX) (hk : k < kn) : my_RO l D kd ki kz kl z yX7_slopeOf wsX7_slopeOf ({ frames := 3, cells := 0, slots := 0, locals := 72 }) [.ref (am 0), .int (nI k)] [(am 0, .inr (7, [.int th, .int (nI n), .ref (am 1), .ref (am 2), .ref (am 3), .int (nI kn), .ref (am 4), .ref (am 5), .ref (am 6), .ref (am 7), .ref (am 8), .ref (am 9), .ref (am 10), .ref (am 11), .ref (am 12)])), (am 4, .inl (kd, 60, .inr (.inr (.inr (.inl P))))), (am 5, .inl (kd, 60, .inr (.inr (.inr (.inl V))))), (am 6, .inl (kz, 60, .inl AF)), (am 7, .inl (kd, 60, .inr (.inr (.inr (.inl FX)))))] (some (.double (s_s P V F kn k))) := by
  by_cases h : k = 0 ∨ k + 1 = kn
  · exact mm_slopeEnd l D kd ki kz kl z am th n kn P V F AF FX k hI hR h
  · exact mm_slopeMid l D kd ki kz kl z am th n kn P V F AF FX k hI hR (by omega) (by omega)
set_option maxHeartbeats 4000000 in
set_option maxRecDepth 100000 in
theorem mm_square (l : Launch) (D : va_G) (kd ki kz kl : ClassId) (z : Nat) (am : Nat → Nat) (th : Int32) (n : Nat) (kn : Nat) (P : Nat → UInt64) (V : Nat → UInt64) (F : Nat → UInt64) (AF : Nat → Int32) (FX : Nat → UInt64) (k : Nat) (hI : KI kn P V F) (hR : MR kn F AF FX) (hk : k + 1 < kn) : my_RO l D kd ki kz kl z yX7_square wsX7_square ({ frames := 4, cells := 0, slots := 0, locals := 100 }) [.ref (am 0), .int (nI k)] [(am 0, .inr (7, [.int th, .int (nI n), .ref (am 1), .ref (am 2), .ref (am 3), .int (nI kn), .ref (am 4), .ref (am 5), .ref (am 6), .ref (am 7), .ref (am 8), .ref (am 9), .ref (am 10), .ref (am 11), .ref (am 12)])), (am 4, .inl (kd, 60, .inr (.inr (.inr (.inl P))))), (am 5, .inl (kd, 60, .inr (.inr (.inr (.inl V))))), (am 6, .inl (kz, 60, .inl AF)), (am 7, .inl (kd, 60, .inr (.inr (.inr (.inl FX)))))] (some (.double (s_pk P V F kn k))) := by
  refine my_RO_of (cc := cX7_square) (maxL := 2) (ret := (some .double)) (by decide) rfl (Nat.le_of_ble_eq_true rfl) ?_
  intro p e s m below meth c S hr hlocks hC hP ls hl
  have S : CallFix p m c cX7_square 2 s ([.ref (am 0), .int (nI k)] : List Value).toArray wsX7_square RX7 := S
  obtain ⟨hx, hb, hml, hown, hts⟩ := id S
  have hl : lv_has ls 2 [(0, .ref (am 0)), (1, .int (nI k))] := hl
  have hJ := hI.1
  have hkn := hJ.2.1
  have hkn2 := hJ.1
  obtain ⟨b1, b2, b3, b4, b5, b6, b7, b8, b9⟩ := PB_n hI hk
  have hpe := PE_of hI hk
  refine lv_ldc2d hx hb hown (hts (.constantDouble RX7 111 (4613937818241073152)) (List.mem_of_getElem? (l := wsX7_square) (i := 1) rfl)) dX7_square_0 ?_
  refine lv_aload_n hx hb dX7_square_3 rfl (lv_at hl 0 rfl) ?_
  refine lv_iload_n hx hb dX7_square_4 rfl (lv_at hl 1 rfl) ?_
  refine my_goR (v := (some (.double (s_r P V k)))) (my_runV (bytes := cX7_rise) (maxL := 2) (ret := (some .double)) (n := 1) (As := [.int (nI k)]) (rest := [.double 4613937818241073152]) S hl.1 (mm_rise l D kd ki kz kl z am th n kn P V k (by omega) (hJ)) rfl ⟨rfl, rfl⟩ gX7_square_X7_rise (by decide +kernel) rfl ⟨Nat.le_of_ble_eq_true rfl, Nat.le_of_ble_eq_true rfl⟩ (my_preR hC (my_P_sub (wc := [(am 0, .inr (7, [.int th, .int (nI n), .ref (am 1), .ref (am 2), .ref (am 3), .int (nI kn), .ref (am 4), .ref (am 5), .ref (am 6), .ref (am 7), .ref (am 8), .ref (am 9), .ref (am 10), .ref (am 11), .ref (am 12)])), (am 4, .inl (kd, 60, .inr (.inr (.inr (.inl P))))), (am 5, .inl (kd, 60, .inr (.inr (.inr (.inl V)))))]) hP [0, 1, 2] rfl)) (va_recv hC.1 hP (ci := 7) (q0 := 0) rfl rfl) rfl rfl dX7_square_5) ?_
  refine W.eq (g2 := F0 m 8 ls [.double (s_r P V k), .double 4613937818241073152]) rfl ?_
  refine lv_dmul hx hb dX7_square_8 (fx_n64 (b1)) ?_
  refine lv_ldc2d hx hb hown (hts (.constantDouble RX7 101 (4611686018427387904)) (List.mem_of_getElem? (l := wsX7_square) (i := 2) rfl)) dX7_square_9 ?_
  refine lv_aload_n hx hb dX7_square_12 rfl (lv_at hl 0 rfl) ?_
  refine lv_iload_n hx hb dX7_square_13 rfl (lv_at hl 1 rfl) ?_
  refine my_goR (v := (some (.double (s_s P V F kn k)))) (my_runV (bytes := cX7_slopeOf) (maxL := 9) (ret := (some .double)) (n := 1) (As := [.int (nI k)]) (rest := [.double 4611686018427387904, .double (FP.dmul 4613937818241073152 (s_r P V k))]) S hl.1 (mm_slopeOf l D kd ki kz kl z am th n kn P V F AF FX k (hI) (hR) (by omega)) rfl ⟨rfl, rfl⟩ gX7_square_X7_slopeOf (by decide +kernel) rfl ⟨Nat.le_of_ble_eq_true rfl, Nat.le_of_ble_eq_true rfl⟩ (my_preR hC (my_P_sub (wc := [(am 0, .inr (7, [.int th, .int (nI n), .ref (am 1), .ref (am 2), .ref (am 3), .int (nI kn), .ref (am 4), .ref (am 5), .ref (am 6), .ref (am 7), .ref (am 8), .ref (am 9), .ref (am 10), .ref (am 11), .ref (am 12)])), (am 4, .inl (kd, 60, .inr (.inr (.inr (.inl P))))), (am 5, .inl (kd, 60, .inr (.inr (.inr (.inl V))))), (am 6, .inl (kz, 60, .inl AF)), (am 7, .inl (kd, 60, .inr (.inr (.inr (.inl FX)))))]) hP [0, 1, 2, 3, 4] rfl)) (va_recv hC.1 hP (ci := 7) (q0 := 0) rfl rfl) rfl rfl dX7_square_14) ?_
  refine W.eq (g2 := F0 m 17 ls [.double (s_s P V F kn k), .double 4611686018427387904, .double (FP.dmul 4613937818241073152 (s_r P V k))]) rfl ?_
  refine lv_dmul hx hb dX7_square_17 (fx_n64 (b2)) ?_
  refine lv_dsub hx hb dX7_square_18 (fx_n64 (b3)) ?_
  refine lv_aload_n hx hb dX7_square_19 rfl (lv_at hl 0 rfl) ?_
  refine lv_iload_n hx hb dX7_square_20 rfl (lv_at hl 1 rfl) ?_
  refine lv_iconst (v := 1) hx hb dX7_square_21 (by decide) ?_
  refine my_iadd (w := nI (k + 1)) hx hb dX7_square_22 (nI_add k 1) ?_
  refine my_goR (v := (some (.double (s_s P V F kn (k + 1))))) (my_runV (bytes := cX7_slopeOf) (maxL := 9) (ret := (some .double)) (n := 1) (As := [.int (nI (k + 1))]) (rest := [.double (FP.dsub (FP.dmul 4613937818241073152 (s_r P V k)) (FP.dmul 4611686018427387904 (s_s P V F kn k)))]) S hl.1 (mm_slopeOf l D kd ki kz kl z am th n kn P V F AF FX (k + 1) (hI) (hR) (by omega)) rfl ⟨rfl, rfl⟩ gX7_square_X7_slopeOf (by decide +kernel) rfl ⟨Nat.le_of_ble_eq_true rfl, Nat.le_of_ble_eq_true rfl⟩ (my_preR hC (my_P_sub (wc := [(am 0, .inr (7, [.int th, .int (nI n), .ref (am 1), .ref (am 2), .ref (am 3), .int (nI kn), .ref (am 4), .ref (am 5), .ref (am 6), .ref (am 7), .ref (am 8), .ref (am 9), .ref (am 10), .ref (am 11), .ref (am 12)])), (am 4, .inl (kd, 60, .inr (.inr (.inr (.inl P))))), (am 5, .inl (kd, 60, .inr (.inr (.inr (.inl V))))), (am 6, .inl (kz, 60, .inl AF)), (am 7, .inl (kd, 60, .inr (.inr (.inr (.inl FX)))))]) hP [0, 1, 2, 3, 4] rfl)) (va_recv hC.1 hP (ci := 7) (q0 := 0) rfl rfl) rfl rfl dX7_square_23) ?_
  refine W.eq (g2 := F0 m 26 ls [.double (s_s P V F kn (k + 1)), .double (FP.dsub (FP.dmul 4613937818241073152 (s_r P V k)) (FP.dmul 4611686018427387904 (s_s P V F kn k)))]) rfl ?_
  refine lv_dsub hx hb dX7_square_26 (fx_n64 (b4)) ?_
  refine lv_aload_n hx hb dX7_square_27 rfl (lv_at hl 0 rfl) ?_
  refine lv_iload_n hx hb dX7_square_28 rfl (lv_at hl 1 rfl) ?_
  refine my_goR (v := (some (.double (s_w P k)))) (my_runV (bytes := cX7_width) (maxL := 2) (ret := (some .double)) (n := 1) (As := [.int (nI k)]) (rest := [.double (FP.dsub (FP.dsub (FP.dmul 4613937818241073152 (s_r P V k)) (FP.dmul 4611686018427387904 (s_s P V F kn k))) (s_s P V F kn (k + 1)))]) S hl.1 (mm_width l D kd ki kz kl z am th n kn P V k (by omega) (hJ)) rfl ⟨rfl, rfl⟩ gX7_square_X7_width (by decide +kernel) rfl ⟨Nat.le_of_ble_eq_true rfl, Nat.le_of_ble_eq_true rfl⟩ (my_preR hC (my_P_sub (wc := [(am 0, .inr (7, [.int th, .int (nI n), .ref (am 1), .ref (am 2), .ref (am 3), .int (nI kn), .ref (am 4), .ref (am 5), .ref (am 6), .ref (am 7), .ref (am 8), .ref (am 9), .ref (am 10), .ref (am 11), .ref (am 12)])), (am 4, .inl (kd, 60, .inr (.inr (.inr (.inl P))))), (am 5, .inl (kd, 60, .inr (.inr (.inr (.inl V)))))]) hP [0, 1, 2] rfl)) (va_recv hC.1 hP (ci := 7) (q0 := 0) rfl rfl) rfl rfl dX7_square_29) ?_
  refine W.eq (g2 := F0 m 32 ls [.double (s_w P k), .double (FP.dsub (FP.dsub (FP.dmul 4613937818241073152 (s_r P V k)) (FP.dmul 4611686018427387904 (s_s P V F kn k))) (s_s P V F kn (k + 1)))]) rfl ?_
  refine lv_ddiv hx hb dX7_square_32 (fx_n64 (fx_B_n hpe.2.2.1 (by omega))) ?_
  exact my_dretR hx hb hr hlocks (rfl) dX7_square_33

set_option maxHeartbeats 4000000 in
set_option maxRecDepth 100000 in
theorem mm_cube (l : Launch) (D : va_G) (kd ki kz kl : ClassId) (z : Nat) (am : Nat → Nat) (th : Int32) (n : Nat) (kn : Nat) (P : Nat → UInt64) (V : Nat → UInt64) (F : Nat → UInt64) (AF : Nat → Int32) (FX : Nat → UInt64) (k : Nat) (hI : KI kn P V F) (hR : MR kn F AF FX) (hk : k + 1 < kn) : my_RO l D kd ki kz kl z yX7_cube wsX7_cube ({ frames := 4, cells := 0, slots := 0, locals := 100 }) [.ref (am 0), .int (nI k)] [(am 0, .inr (7, [.int th, .int (nI n), .ref (am 1), .ref (am 2), .ref (am 3), .int (nI kn), .ref (am 4), .ref (am 5), .ref (am 6), .ref (am 7), .ref (am 8), .ref (am 9), .ref (am 10), .ref (am 11), .ref (am 12)])), (am 4, .inl (kd, 60, .inr (.inr (.inr (.inl P))))), (am 5, .inl (kd, 60, .inr (.inr (.inr (.inl V))))), (am 6, .inl (kz, 60, .inl AF)), (am 7, .inl (kd, 60, .inr (.inr (.inr (.inl FX)))))] (some (.double (s_qk P V F kn k))) := by
  refine my_RO_of (cc := cX7_cube) (maxL := 2) (ret := (some .double)) (by decide) rfl (Nat.le_of_ble_eq_true rfl) ?_
  intro p e s m below meth c S hr hlocks hC hP ls hl
  have S : CallFix p m c cX7_cube 2 s ([.ref (am 0), .int (nI k)] : List Value).toArray wsX7_cube RX7 := S
  obtain ⟨hx, hb, hml, hown, hts⟩ := id S
  have hl : lv_has ls 2 [(0, .ref (am 0)), (1, .int (nI k))] := hl
  have hJ := hI.1
  have hkn := hJ.2.1
  have hkn2 := hJ.1
  obtain ⟨b1, b2, b3, b4, b5, b6, b7, b8, b9⟩ := PB_n hI hk
  have hpe := PE_of hI hk
  refine lv_aload_n hx hb dX7_cube_0 rfl (lv_at hl 0 rfl) ?_
  refine lv_iload_n hx hb dX7_cube_1 rfl (lv_at hl 1 rfl) ?_
  refine my_goR (v := (some (.double (s_s P V F kn k)))) (my_runV (bytes := cX7_slopeOf) (maxL := 9) (ret := (some .double)) (n := 1) (As := [.int (nI k)]) (rest := []) S hl.1 (mm_slopeOf l D kd ki kz kl z am th n kn P V F AF FX k (hI) (hR) (by omega)) rfl ⟨rfl, rfl⟩ gX7_cube_X7_slopeOf (by decide +kernel) rfl ⟨Nat.le_of_ble_eq_true rfl, Nat.le_of_ble_eq_true rfl⟩ (my_preR hC (my_P_sub (wc := [(am 0, .inr (7, [.int th, .int (nI n), .ref (am 1), .ref (am 2), .ref (am 3), .int (nI kn), .ref (am 4), .ref (am 5), .ref (am 6), .ref (am 7), .ref (am 8), .ref (am 9), .ref (am 10), .ref (am 11), .ref (am 12)])), (am 4, .inl (kd, 60, .inr (.inr (.inr (.inl P))))), (am 5, .inl (kd, 60, .inr (.inr (.inr (.inl V))))), (am 6, .inl (kz, 60, .inl AF)), (am 7, .inl (kd, 60, .inr (.inr (.inr (.inl FX)))))]) hP [0, 1, 2, 3, 4] rfl)) (va_recv hC.1 hP (ci := 7) (q0 := 0) rfl rfl) rfl rfl dX7_cube_2) ?_
  refine W.eq (g2 := F0 m 5 ls [.double (s_s P V F kn k)]) rfl ?_
  refine lv_aload_n hx hb dX7_cube_5 rfl (lv_at hl 0 rfl) ?_
  refine lv_iload_n hx hb dX7_cube_6 rfl (lv_at hl 1 rfl) ?_
  refine lv_iconst (v := 1) hx hb dX7_cube_7 (by decide) ?_
  refine my_iadd (w := nI (k + 1)) hx hb dX7_cube_8 (nI_add k 1) ?_
  refine my_goR (v := (some (.double (s_s P V F kn (k + 1))))) (my_runV (bytes := cX7_slopeOf) (maxL := 9) (ret := (some .double)) (n := 1) (As := [.int (nI (k + 1))]) (rest := [.double (s_s P V F kn k)]) S hl.1 (mm_slopeOf l D kd ki kz kl z am th n kn P V F AF FX (k + 1) (hI) (hR) (by omega)) rfl ⟨rfl, rfl⟩ gX7_cube_X7_slopeOf (by decide +kernel) rfl ⟨Nat.le_of_ble_eq_true rfl, Nat.le_of_ble_eq_true rfl⟩ (my_preR hC (my_P_sub (wc := [(am 0, .inr (7, [.int th, .int (nI n), .ref (am 1), .ref (am 2), .ref (am 3), .int (nI kn), .ref (am 4), .ref (am 5), .ref (am 6), .ref (am 7), .ref (am 8), .ref (am 9), .ref (am 10), .ref (am 11), .ref (am 12)])), (am 4, .inl (kd, 60, .inr (.inr (.inr (.inl P))))), (am 5, .inl (kd, 60, .inr (.inr (.inr (.inl V))))), (am 6, .inl (kz, 60, .inl AF)), (am 7, .inl (kd, 60, .inr (.inr (.inr (.inl FX)))))]) hP [0, 1, 2, 3, 4] rfl)) (va_recv hC.1 hP (ci := 7) (q0 := 0) rfl rfl) rfl rfl dX7_cube_9) ?_
  refine W.eq (g2 := F0 m 12 ls [.double (s_s P V F kn (k + 1)), .double (s_s P V F kn k)]) rfl ?_
  refine lv_dadd hx hb dX7_cube_12 (fx_n64 (b5)) ?_
  refine lv_ldc2d hx hb hown (hts (.constantDouble RX7 101 (4611686018427387904)) (List.mem_of_getElem? (l := wsX7_cube) (i := 1) rfl)) dX7_cube_13 ?_
  refine lv_aload_n hx hb dX7_cube_16 rfl (lv_at hl 0 rfl) ?_
  refine lv_iload_n hx hb dX7_cube_17 rfl (lv_at hl 1 rfl) ?_
  refine my_goR (v := (some (.double (s_r P V k)))) (my_runV (bytes := cX7_rise) (maxL := 2) (ret := (some .double)) (n := 1) (As := [.int (nI k)]) (rest := [.double 4611686018427387904, .double (FP.dadd (s_s P V F kn k) (s_s P V F kn (k + 1)))]) S hl.1 (mm_rise l D kd ki kz kl z am th n kn P V k (by omega) (hJ)) rfl ⟨rfl, rfl⟩ gX7_cube_X7_rise (by decide +kernel) rfl ⟨Nat.le_of_ble_eq_true rfl, Nat.le_of_ble_eq_true rfl⟩ (my_preR hC (my_P_sub (wc := [(am 0, .inr (7, [.int th, .int (nI n), .ref (am 1), .ref (am 2), .ref (am 3), .int (nI kn), .ref (am 4), .ref (am 5), .ref (am 6), .ref (am 7), .ref (am 8), .ref (am 9), .ref (am 10), .ref (am 11), .ref (am 12)])), (am 4, .inl (kd, 60, .inr (.inr (.inr (.inl P))))), (am 5, .inl (kd, 60, .inr (.inr (.inr (.inl V)))))]) hP [0, 1, 2] rfl)) (va_recv hC.1 hP (ci := 7) (q0 := 0) rfl rfl) rfl rfl dX7_cube_18) ?_
  refine W.eq (g2 := F0 m 21 ls [.double (s_r P V k), .double 4611686018427387904, .double (FP.dadd (s_s P V F kn k) (s_s P V F kn (k + 1)))]) rfl ?_
  refine lv_dmul hx hb dX7_cube_21 (fx_n64 (b6)) ?_
  refine lv_dsub hx hb dX7_cube_22 (fx_n64 (b7)) ?_
  refine lv_aload_n hx hb dX7_cube_23 rfl (lv_at hl 0 rfl) ?_
  refine lv_iload_n hx hb dX7_cube_24 rfl (lv_at hl 1 rfl) ?_
  refine my_goR (v := (some (.double (s_w P k)))) (my_runV (bytes := cX7_width) (maxL := 2) (ret := (some .double)) (n := 1) (As := [.int (nI k)]) (rest := [.double (FP.dsub (FP.dadd (s_s P V F kn k) (s_s P V F kn (k + 1))) (FP.dmul 4611686018427387904 (s_r P V k)))]) S hl.1 (mm_width l D kd ki kz kl z am th n kn P V k (by omega) (hJ)) rfl ⟨rfl, rfl⟩ gX7_cube_X7_width (by decide +kernel) rfl ⟨Nat.le_of_ble_eq_true rfl, Nat.le_of_ble_eq_true rfl⟩ (my_preR hC (my_P_sub (wc := [(am 0, .inr (7, [.int th, .int (nI n), .ref (am 1), .ref (am 2), .ref (am 3), .int (nI kn), .ref (am 4), .ref (am 5), .ref (am 6), .ref (am 7), .ref (am 8), .ref (am 9), .ref (am 10), .ref (am 11), .ref (am 12)])), (am 4, .inl (kd, 60, .inr (.inr (.inr (.inl P))))), (am 5, .inl (kd, 60, .inr (.inr (.inr (.inl V)))))]) hP [0, 1, 2] rfl)) (va_recv hC.1 hP (ci := 7) (q0 := 0) rfl rfl) rfl rfl dX7_cube_25) ?_
  refine W.eq (g2 := F0 m 28 ls [.double (s_w P k), .double (FP.dsub (FP.dadd (s_s P V F kn k) (s_s P V F kn (k + 1))) (FP.dmul 4611686018427387904 (s_r P V k)))]) rfl ?_
  refine lv_aload_n hx hb dX7_cube_28 rfl (lv_at hl 0 rfl) ?_
  refine lv_iload_n hx hb dX7_cube_29 rfl (lv_at hl 1 rfl) ?_
  refine my_goR (v := (some (.double (s_w P k)))) (my_runV (bytes := cX7_width) (maxL := 2) (ret := (some .double)) (n := 1) (As := [.int (nI k)]) (rest := [.double (s_w P k), .double (FP.dsub (FP.dadd (s_s P V F kn k) (s_s P V F kn (k + 1))) (FP.dmul 4611686018427387904 (s_r P V k)))]) S hl.1 (mm_width l D kd ki kz kl z am th n kn P V k (by omega) (hJ)) rfl ⟨rfl, rfl⟩ gX7_cube_X7_width (by decide +kernel) rfl ⟨Nat.le_of_ble_eq_true rfl, Nat.le_of_ble_eq_true rfl⟩ (my_preR hC (my_P_sub (wc := [(am 0, .inr (7, [.int th, .int (nI n), .ref (am 1), .ref (am 2), .ref (am 3), .int (nI kn), .ref (am 4), .ref (am 5), .ref (am 6), .ref (am 7), .ref (am 8), .ref (am 9), .ref (am 10), .ref (am 11), .ref (am 12)])), (am 4, .inl (kd, 60, .inr (.inr (.inr (.inl P))))), (am 5, .inl (kd, 60, .inr (.inr (.inr (.inl V)))))]) hP [0, 1, 2] rfl)) (va_recv hC.1 hP (ci := 7) (q0 := 0) rfl rfl) rfl rfl dX7_cube_30) ?_
  refine W.eq (g2 := F0 m 33 ls [.double (s_w P k), .double (s_w P k), .double (FP.dsub (FP.dadd (s_s P V F kn k) (s_s P V F kn (k + 1))) (FP.dmul 4611686018427387904 (s_r P V k)))]) rfl ?_
  refine lv_dmul hx hb dX7_cube_33 (fx_n64 (b8)) ?_
  refine lv_ddiv hx hb dX7_cube_34 (fx_n64 (fx_B_n hpe.2.2.2 (by omega))) ?_
  exact my_dretR hx hb hr hlocks (rfl) dX7_cube_35

theorem iw_X7_valueIn_X7 : ∀ w ∈ wsX70, w ∈ wsX7_valueIn := fun w h => List.mem_cons_of_mem _ (List.mem_append_right _ (h))
set_option maxHeartbeats 4000000 in
set_option maxRecDepth 100000 in
theorem mm_valueIn (l : Launch) (D : va_G) (kd ki kz kl : ClassId) (z : Nat) (am : Nat → Nat) (th : Int32) (n : Nat) (kn : Nat) (P : Nat → UInt64) (V : Nat → UInt64) (F : Nat → UInt64) (AF : Nat → Int32) (FX : Nat → UInt64) (k : Nat) (t : UInt64) (hI : KI kn P V F) (hR : MR kn F AF FX) (hk : k + 1 < kn) (ht : fx_B 1170 t) : my_RO l D kd ki kz kl z yX7_valueIn wsX7_valueIn ({ frames := 5, cells := 0, slots := 0, locals := 129 }) [.ref (am 0), .int (nI k), .double t] [(am 0, .inr (7, [.int th, .int (nI n), .ref (am 1), .ref (am 2), .ref (am 3), .int (nI kn), .ref (am 4), .ref (am 5), .ref (am 6), .ref (am 7), .ref (am 8), .ref (am 9), .ref (am 10), .ref (am 11), .ref (am 12)])), (am 4, .inl (kd, 60, .inr (.inr (.inr (.inl P))))), (am 5, .inl (kd, 60, .inr (.inr (.inr (.inl V))))), (am 6, .inl (kz, 60, .inl AF)), (am 7, .inl (kd, 60, .inr (.inr (.inr (.inl FX)))))] (some (.double (s_h (V k) (s_s P V F kn k) (s_pk P V F kn k) (s_qk P V F kn k) t))) := by
  refine my_RO_of (cc := cX7_valueIn) (maxL := 4) (ret := (some .double)) (by decide) rfl (Nat.le_of_ble_eq_true rfl) ?_
  intro p e s m below meth c S hr hlocks hC hP ls hl
  have S : CallFix p m c cX7_valueIn 4 s ([.ref (am 0), .int (nI k), .double t] : List Value).toArray wsX7_valueIn RX7 := S
  obtain ⟨hx, hb, hml, hown, hts⟩ := id S
  have hl : lv_has ls 4 [(0, .ref (am 0)), (1, .int (nI k)), (2, .double t)] := hl
  have hJ := hI.1
  have hkn := hJ.2.1
  have hkn2 := hJ.1
  obtain ⟨a1, a2, a3, a4, a5, a6⟩ := PE_h (PE_of hI hk) ht
  refine lv_aload_n hx hb dX7_valueIn_0 rfl (lv_at hl 0 rfl) ?_
  refine va_get (D := D) (ci := 7) (v := .ref (am 5)) (C := RX7) (T := TX7) (N := 15) hx hb hts iw_X7_valueIn_X7 hown hC.1 hP 0 rfl rfl 7 (by decide) (hts (.fieldLink RX7 22 "MonotoneSplineModel" "values" "[D") (List.mem_of_getElem? (l := wsX7_valueIn) (i := 1) rfl)) (fun _ h9 => h9) rfl dX7_valueIn_1 ?_
  refine lv_iload_n hx hb dX7_valueIn_4 rfl (lv_at hl 1 rfl) ?_
  refine my_dald (k := k) (n := 60) (f := V) hx hb hC hP 2 rfl (by omega) (by omega) dX7_valueIn_5 ?_
  refine lv_dload_n hx hb dX7_valueIn_6 rfl (lv_at hl 2 rfl) ?_
  refine lv_aload_n hx hb dX7_valueIn_7 rfl (lv_at hl 0 rfl) ?_
  refine lv_iload_n hx hb dX7_valueIn_8 rfl (lv_at hl 1 rfl) ?_
  refine my_goR (v := (some (.double (s_s P V F kn k)))) (my_runV (bytes := cX7_slopeOf) (maxL := 9) (ret := (some .double)) (n := 1) (As := [.int (nI k)]) (rest := [.double t, .double (V k)]) S hl.1 (mm_slopeOf l D kd ki kz kl z am th n kn P V F AF FX k (hI) (hR) (by omega)) rfl ⟨rfl, rfl⟩ gX7_valueIn_X7_slopeOf (by decide +kernel) rfl ⟨Nat.le_of_ble_eq_true rfl, Nat.le_of_ble_eq_true rfl⟩ (my_preR hC (my_P_sub (wc := [(am 0, .inr (7, [.int th, .int (nI n), .ref (am 1), .ref (am 2), .ref (am 3), .int (nI kn), .ref (am 4), .ref (am 5), .ref (am 6), .ref (am 7), .ref (am 8), .ref (am 9), .ref (am 10), .ref (am 11), .ref (am 12)])), (am 4, .inl (kd, 60, .inr (.inr (.inr (.inl P))))), (am 5, .inl (kd, 60, .inr (.inr (.inr (.inl V))))), (am 6, .inl (kz, 60, .inl AF)), (am 7, .inl (kd, 60, .inr (.inr (.inr (.inl FX)))))]) hP [0, 1, 2, 3, 4] rfl)) (va_recv hC.1 hP (ci := 7) (q0 := 0) rfl rfl) rfl rfl dX7_valueIn_9) ?_
  refine W.eq (g2 := F0 m 12 ls [.double (s_s P V F kn k), .double t, .double (V k)]) rfl ?_
  refine lv_dload_n hx hb dX7_valueIn_12 rfl (lv_at hl 2 rfl) ?_
  refine lv_aload_n hx hb dX7_valueIn_13 rfl (lv_at hl 0 rfl) ?_
  refine lv_iload_n hx hb dX7_valueIn_14 rfl (lv_at hl 1 rfl) ?_
  refine my_goR (v := (some (.double (s_pk P V F kn k)))) (my_runV (bytes := cX7_square) (maxL := 2) (ret := (some .double)) (n := 1) (As := [.int (nI k)]) (rest := [.double t, .double (s_s P V F kn k), .double t, .double (V k)]) S hl.1 (mm_square l D kd ki kz kl z am th n kn P V F AF FX k (hI) (hR) (by omega)) rfl ⟨rfl, rfl⟩ gX7_valueIn_X7_square (by decide +kernel) rfl ⟨Nat.le_of_ble_eq_true rfl, Nat.le_of_ble_eq_true rfl⟩ (my_preR hC (my_P_sub (wc := [(am 0, .inr (7, [.int th, .int (nI n), .ref (am 1), .ref (am 2), .ref (am 3), .int (nI kn), .ref (am 4), .ref (am 5), .ref (am 6), .ref (am 7), .ref (am 8), .ref (am 9), .ref (am 10), .ref (am 11), .ref (am 12)])), (am 4, .inl (kd, 60, .inr (.inr (.inr (.inl P))))), (am 5, .inl (kd, 60, .inr (.inr (.inr (.inl V))))), (am 6, .inl (kz, 60, .inl AF)), (am 7, .inl (kd, 60, .inr (.inr (.inr (.inl FX)))))]) hP [0, 1, 2, 3, 4] rfl)) (va_recv hC.1 hP (ci := 7) (q0 := 0) rfl rfl) rfl rfl dX7_valueIn_15) ?_
  refine W.eq (g2 := F0 m 18 ls [.double (s_pk P V F kn k), .double t, .double (s_s P V F kn k), .double t, .double (V k)]) rfl ?_
  refine lv_dload_n hx hb dX7_valueIn_18 rfl (lv_at hl 2 rfl) ?_
  refine lv_aload_n hx hb dX7_valueIn_19 rfl (lv_at hl 0 rfl) ?_
  refine lv_iload_n hx hb dX7_valueIn_20 rfl (lv_at hl 1 rfl) ?_
  refine my_goR (v := (some (.double (s_qk P V F kn k)))) (my_runVX (bytes := cX7_cube) (maxL := 2) (ret := (some .double)) (n := 1) (As := [.int (nI k)]) (rest := [.double t, .double (s_pk P V F kn k), .double t, .double (s_s P V F kn k), .double t, .double (V k)]) S hl.1 (mm_cube l D kd ki kz kl z am th n kn P V F AF FX k (hI) (hR) (by omega)) rfl ⟨rfl, rfl⟩ gX7_valueIn_X7_cube (by decide +kernel) rfl ⟨Nat.le_of_ble_eq_true rfl, Nat.le_of_ble_eq_true rfl⟩ (my_preR hC (my_P_sub (wc := [(am 0, .inr (7, [.int th, .int (nI n), .ref (am 1), .ref (am 2), .ref (am 3), .int (nI kn), .ref (am 4), .ref (am 5), .ref (am 6), .ref (am 7), .ref (am 8), .ref (am 9), .ref (am 10), .ref (am 11), .ref (am 12)])), (am 4, .inl (kd, 60, .inr (.inr (.inr (.inl P))))), (am 5, .inl (kd, 60, .inr (.inr (.inr (.inl V))))), (am 6, .inl (kz, 60, .inl AF)), (am 7, .inl (kd, 60, .inr (.inr (.inr (.inl FX)))))]) hP [0, 1, 2, 3, 4] rfl)) (va_recv hC.1 hP (ci := 7) (q0 := 0) rfl rfl) rfl rfl dX7_valueIn_21) ?_
  refine W.eq (g2 := F0 m 24 ls [.double (s_qk P V F kn k), .double t, .double (s_pk P V F kn k), .double t, .double (s_s P V F kn k), .double t, .double (V k)]) rfl ?_
  refine lv_dmul hx hb dX7_valueIn_24 (fx_n64 (a1)) ?_
  refine lv_dadd hx hb dX7_valueIn_25 (fx_n64 (a2)) ?_
  refine lv_dmul hx hb dX7_valueIn_26 (fx_n64 (a3)) ?_
  refine lv_dadd hx hb dX7_valueIn_27 (fx_n64 (a4)) ?_
  refine lv_dmul hx hb dX7_valueIn_28 (fx_n64 (a5)) ?_
  refine lv_dadd hx hb dX7_valueIn_29 (fx_n64 (fx_B_n a6 (by omega))) ?_
  exact my_dretR hx hb hr hlocks (rfl) dX7_valueIn_30

set_option maxHeartbeats 4000000 in
set_option maxRecDepth 100000 in
theorem mm_slopeIn (l : Launch) (D : va_G) (kd ki kz kl : ClassId) (z : Nat) (am : Nat → Nat) (th : Int32) (n : Nat) (kn : Nat) (P : Nat → UInt64) (V : Nat → UInt64) (F : Nat → UInt64) (AF : Nat → Int32) (FX : Nat → UInt64) (k : Nat) (t : UInt64) (hI : KI kn P V F) (hR : MR kn F AF FX) (hk : k + 1 < kn) (ht : fx_B 1170 t) : my_RO l D kd ki kz kl z yX7_slopeIn wsX7_slopeIn ({ frames := 5, cells := 0, slots := 0, locals := 129 }) [.ref (am 0), .int (nI k), .double t] [(am 0, .inr (7, [.int th, .int (nI n), .ref (am 1), .ref (am 2), .ref (am 3), .int (nI kn), .ref (am 4), .ref (am 5), .ref (am 6), .ref (am 7), .ref (am 8), .ref (am 9), .ref (am 10), .ref (am 11), .ref (am 12)])), (am 4, .inl (kd, 60, .inr (.inr (.inr (.inl P))))), (am 5, .inl (kd, 60, .inr (.inr (.inr (.inl V))))), (am 6, .inl (kz, 60, .inl AF)), (am 7, .inl (kd, 60, .inr (.inr (.inr (.inl FX)))))] (some (.double (s_t (s_s P V F kn k) (s_pk P V F kn k) (s_qk P V F kn k) t))) := by
  refine my_RO_of (cc := cX7_slopeIn) (maxL := 4) (ret := (some .double)) (by decide) rfl (Nat.le_of_ble_eq_true rfl) ?_
  intro p e s m below meth c S hr hlocks hC hP ls hl
  have S : CallFix p m c cX7_slopeIn 4 s ([.ref (am 0), .int (nI k), .double t] : List Value).toArray wsX7_slopeIn RX7 := S
  obtain ⟨hx, hb, hml, hown, hts⟩ := id S
  have hl : lv_has ls 4 [(0, .ref (am 0)), (1, .int (nI k)), (2, .double t)] := hl
  have hJ := hI.1
  have hkn := hJ.2.1
  have hkn2 := hJ.1
  obtain ⟨a1, a2, a3, a4, a5, a6⟩ := PE_t (PE_of hI hk) ht
  refine lv_aload_n hx hb dX7_slopeIn_0 rfl (lv_at hl 0 rfl) ?_
  refine lv_iload_n hx hb dX7_slopeIn_1 rfl (lv_at hl 1 rfl) ?_
  refine my_goR (v := (some (.double (s_s P V F kn k)))) (my_runV (bytes := cX7_slopeOf) (maxL := 9) (ret := (some .double)) (n := 1) (As := [.int (nI k)]) (rest := []) S hl.1 (mm_slopeOf l D kd ki kz kl z am th n kn P V F AF FX k (hI) (hR) (by omega)) rfl ⟨rfl, rfl⟩ gX7_slopeIn_X7_slopeOf (by decide +kernel) rfl ⟨Nat.le_of_ble_eq_true rfl, Nat.le_of_ble_eq_true rfl⟩ (my_preR hC (my_P_sub (wc := [(am 0, .inr (7, [.int th, .int (nI n), .ref (am 1), .ref (am 2), .ref (am 3), .int (nI kn), .ref (am 4), .ref (am 5), .ref (am 6), .ref (am 7), .ref (am 8), .ref (am 9), .ref (am 10), .ref (am 11), .ref (am 12)])), (am 4, .inl (kd, 60, .inr (.inr (.inr (.inl P))))), (am 5, .inl (kd, 60, .inr (.inr (.inr (.inl V))))), (am 6, .inl (kz, 60, .inl AF)), (am 7, .inl (kd, 60, .inr (.inr (.inr (.inl FX)))))]) hP [0, 1, 2, 3, 4] rfl)) (va_recv hC.1 hP (ci := 7) (q0 := 0) rfl rfl) rfl rfl dX7_slopeIn_2) ?_
  refine W.eq (g2 := F0 m 5 ls [.double (s_s P V F kn k)]) rfl ?_
  refine lv_dload_n hx hb dX7_slopeIn_5 rfl (lv_at hl 2 rfl) ?_
  refine lv_ldc2d hx hb hown (hts (.constantDouble RX7 101 (4611686018427387904)) (List.mem_of_getElem? (l := wsX7_slopeIn) (i := 1) rfl)) dX7_slopeIn_6 ?_
  refine lv_aload_n hx hb dX7_slopeIn_9 rfl (lv_at hl 0 rfl) ?_
  refine lv_iload_n hx hb dX7_slopeIn_10 rfl (lv_at hl 1 rfl) ?_
  refine my_goR (v := (some (.double (s_pk P V F kn k)))) (my_runV (bytes := cX7_square) (maxL := 2) (ret := (some .double)) (n := 1) (As := [.int (nI k)]) (rest := [.double 4611686018427387904, .double t, .double (s_s P V F kn k)]) S hl.1 (mm_square l D kd ki kz kl z am th n kn P V F AF FX k (hI) (hR) (by omega)) rfl ⟨rfl, rfl⟩ gX7_slopeIn_X7_square (by decide +kernel) rfl ⟨Nat.le_of_ble_eq_true rfl, Nat.le_of_ble_eq_true rfl⟩ (my_preR hC (my_P_sub (wc := [(am 0, .inr (7, [.int th, .int (nI n), .ref (am 1), .ref (am 2), .ref (am 3), .int (nI kn), .ref (am 4), .ref (am 5), .ref (am 6), .ref (am 7), .ref (am 8), .ref (am 9), .ref (am 10), .ref (am 11), .ref (am 12)])), (am 4, .inl (kd, 60, .inr (.inr (.inr (.inl P))))), (am 5, .inl (kd, 60, .inr (.inr (.inr (.inl V))))), (am 6, .inl (kz, 60, .inl AF)), (am 7, .inl (kd, 60, .inr (.inr (.inr (.inl FX)))))]) hP [0, 1, 2, 3, 4] rfl)) (va_recv hC.1 hP (ci := 7) (q0 := 0) rfl rfl) rfl rfl dX7_slopeIn_11) ?_
  refine W.eq (g2 := F0 m 14 ls [.double (s_pk P V F kn k), .double 4611686018427387904, .double t, .double (s_s P V F kn k)]) rfl ?_
  refine lv_dmul hx hb dX7_slopeIn_14 (fx_n64 (a1)) ?_
  refine lv_dload_n hx hb dX7_slopeIn_15 rfl (lv_at hl 2 rfl) ?_
  refine lv_ldc2d hx hb hown (hts (.constantDouble RX7 111 (4613937818241073152)) (List.mem_of_getElem? (l := wsX7_slopeIn) (i := 2) rfl)) dX7_slopeIn_16 ?_
  refine lv_aload_n hx hb dX7_slopeIn_19 rfl (lv_at hl 0 rfl) ?_
  refine lv_iload_n hx hb dX7_slopeIn_20 rfl (lv_at hl 1 rfl) ?_
  refine my_goR (v := (some (.double (s_qk P V F kn k)))) (my_runVX (bytes := cX7_cube) (maxL := 2) (ret := (some .double)) (n := 1) (As := [.int (nI k)]) (rest := [.double 4613937818241073152, .double t, .double (FP.dmul 4611686018427387904 (s_pk P V F kn k)), .double t, .double (s_s P V F kn k)]) S hl.1 (mm_cube l D kd ki kz kl z am th n kn P V F AF FX k (hI) (hR) (by omega)) rfl ⟨rfl, rfl⟩ gX7_slopeIn_X7_cube (by decide +kernel) rfl ⟨Nat.le_of_ble_eq_true rfl, Nat.le_of_ble_eq_true rfl⟩ (my_preR hC (my_P_sub (wc := [(am 0, .inr (7, [.int th, .int (nI n), .ref (am 1), .ref (am 2), .ref (am 3), .int (nI kn), .ref (am 4), .ref (am 5), .ref (am 6), .ref (am 7), .ref (am 8), .ref (am 9), .ref (am 10), .ref (am 11), .ref (am 12)])), (am 4, .inl (kd, 60, .inr (.inr (.inr (.inl P))))), (am 5, .inl (kd, 60, .inr (.inr (.inr (.inl V))))), (am 6, .inl (kz, 60, .inl AF)), (am 7, .inl (kd, 60, .inr (.inr (.inr (.inl FX)))))]) hP [0, 1, 2, 3, 4] rfl)) (va_recv hC.1 hP (ci := 7) (q0 := 0) rfl rfl) rfl rfl dX7_slopeIn_21) ?_
  refine W.eq (g2 := F0 m 24 ls [.double (s_qk P V F kn k), .double 4613937818241073152, .double t, .double (FP.dmul 4611686018427387904 (s_pk P V F kn k)), .double t, .double (s_s P V F kn k)]) rfl ?_
  refine lv_dmul hx hb dX7_slopeIn_24 (fx_n64 (a2)) ?_
  refine lv_dmul hx hb dX7_slopeIn_25 (fx_n64 (a3)) ?_
  refine lv_dadd hx hb dX7_slopeIn_26 (fx_n64 (a4)) ?_
  refine lv_dmul hx hb dX7_slopeIn_27 (fx_n64 (a5)) ?_
  refine lv_dadd hx hb dX7_slopeIn_28 (fx_n64 (fx_B_n a6 (by omega))) ?_
  exact my_dretR hx hb hr hlocks (rfl) dX7_slopeIn_29

theorem iw_X7_partOf_X7 : ∀ w ∈ wsX70, w ∈ wsX7_partOf := fun w h => List.mem_cons_of_mem _ (List.mem_append_right _ (h))
set_option maxHeartbeats 4000000 in
set_option maxRecDepth 100000 in
theorem mm_partOf (l : Launch) (D : va_G) (kd ki kz kl : ClassId) (z : Nat) (am : Nat → Nat) (th : Int32) (n : Nat) (kn : Nat) (P : Nat → UInt64) (V : Nat → UInt64) (F : Nat → UInt64) (AF : Nat → Int32) (FX : Nat → UInt64) (k : Nat) (t : UInt64) (hI : KI kn P V F) (hR : MR kn F AF FX) (hk : k + 1 < kn) (ht : fx_B 1170 t) : my_RO l D kd ki kz kl z yX7_partOf wsX7_partOf ({ frames := 5, cells := 0, slots := 0, locals := 129 }) [.ref (am 0), .int (nI k), .double t] [(am 0, .inr (7, [.int th, .int (nI n), .ref (am 1), .ref (am 2), .ref (am 3), .int (nI kn), .ref (am 4), .ref (am 5), .ref (am 6), .ref (am 7), .ref (am 8), .ref (am 9), .ref (am 10), .ref (am 11), .ref (am 12)])), (am 4, .inl (kd, 60, .inr (.inr (.inr (.inl P))))), (am 5, .inl (kd, 60, .inr (.inr (.inr (.inl V))))), (am 6, .inl (kz, 60, .inl AF)), (am 7, .inl (kd, 60, .inr (.inr (.inr (.inl FX)))))] (some (.double (s_pt (V k) (s_s P V F kn k) (s_pk P V F kn k) (s_qk P V F kn k) t))) := by
  refine my_RO_of (cc := cX7_partOf) (maxL := 4) (ret := (some .double)) (by decide) rfl (Nat.le_of_ble_eq_true rfl) ?_
  intro p e s m below meth c S hr hlocks hC hP ls hl
  have S : CallFix p m c cX7_partOf 4 s ([.ref (am 0), .int (nI k), .double t] : List Value).toArray wsX7_partOf RX7 := S
  obtain ⟨hx, hb, hml, hown, hts⟩ := id S
  have hl : lv_has ls 4 [(0, .ref (am 0)), (1, .int (nI k)), (2, .double t)] := hl
  have hJ := hI.1
  have hkn := hJ.2.1
  have hkn2 := hJ.1
  obtain ⟨a1, a2, a3, a4, a5, a6, a7, a8, a9, a10⟩ := PE_p (PE_of hI hk) ht
  refine lv_dload_n hx hb dX7_partOf_0 rfl (lv_at hl 2 rfl) ?_
  refine lv_aload_n hx hb dX7_partOf_1 rfl (lv_at hl 0 rfl) ?_
  refine va_get (D := D) (ci := 7) (v := .ref (am 5)) (C := RX7) (T := TX7) (N := 15) hx hb hts iw_X7_partOf_X7 hown hC.1 hP 0 rfl rfl 7 (by decide) (hts (.fieldLink RX7 22 "MonotoneSplineModel" "values" "[D") (List.mem_of_getElem? (l := wsX7_partOf) (i := 1) rfl)) (fun _ h9 => h9) rfl dX7_partOf_2 ?_
  refine lv_iload_n hx hb dX7_partOf_5 rfl (lv_at hl 1 rfl) ?_
  refine my_dald (k := k) (n := 60) (f := V) hx hb hC hP 2 rfl (by omega) (by omega) dX7_partOf_6 ?_
  refine lv_dload_n hx hb dX7_partOf_7 rfl (lv_at hl 2 rfl) ?_
  refine lv_aload_n hx hb dX7_partOf_8 rfl (lv_at hl 0 rfl) ?_
  refine lv_iload_n hx hb dX7_partOf_9 rfl (lv_at hl 1 rfl) ?_
  refine my_goR (v := (some (.double (s_s P V F kn k)))) (my_runV (bytes := cX7_slopeOf) (maxL := 9) (ret := (some .double)) (n := 1) (As := [.int (nI k)]) (rest := [.double t, .double (V k), .double t]) S hl.1 (mm_slopeOf l D kd ki kz kl z am th n kn P V F AF FX k (hI) (hR) (by omega)) rfl ⟨rfl, rfl⟩ gX7_partOf_X7_slopeOf (by decide +kernel) rfl ⟨Nat.le_of_ble_eq_true rfl, Nat.le_of_ble_eq_true rfl⟩ (my_preR hC (my_P_sub (wc := [(am 0, .inr (7, [.int th, .int (nI n), .ref (am 1), .ref (am 2), .ref (am 3), .int (nI kn), .ref (am 4), .ref (am 5), .ref (am 6), .ref (am 7), .ref (am 8), .ref (am 9), .ref (am 10), .ref (am 11), .ref (am 12)])), (am 4, .inl (kd, 60, .inr (.inr (.inr (.inl P))))), (am 5, .inl (kd, 60, .inr (.inr (.inr (.inl V))))), (am 6, .inl (kz, 60, .inl AF)), (am 7, .inl (kd, 60, .inr (.inr (.inr (.inl FX)))))]) hP [0, 1, 2, 3, 4] rfl)) (va_recv hC.1 hP (ci := 7) (q0 := 0) rfl rfl) rfl rfl dX7_partOf_10) ?_
  refine W.eq (g2 := F0 m 13 ls [.double (s_s P V F kn k), .double t, .double (V k), .double t]) rfl ?_
  refine lv_ldc2d hx hb hown (hts (.constantDouble RX7 101 (4611686018427387904)) (List.mem_of_getElem? (l := wsX7_partOf) (i := 2) rfl)) dX7_partOf_13 ?_
  refine lv_ddiv hx hb dX7_partOf_16 (fx_n64 (a1)) ?_
  refine lv_dload_n hx hb dX7_partOf_17 rfl (lv_at hl 2 rfl) ?_
  refine lv_aload_n hx hb dX7_partOf_18 rfl (lv_at hl 0 rfl) ?_
  refine lv_iload_n hx hb dX7_partOf_19 rfl (lv_at hl 1 rfl) ?_
  refine my_goR (v := (some (.double (s_pk P V F kn k)))) (my_runVX (bytes := cX7_square) (maxL := 2) (ret := (some .double)) (n := 1) (As := [.int (nI k)]) (rest := [.double t, .double (FP.ddiv (s_s P V F kn k) 4611686018427387904), .double t, .double (V k), .double t]) S hl.1 (mm_square l D kd ki kz kl z am th n kn P V F AF FX k (hI) (hR) (by omega)) rfl ⟨rfl, rfl⟩ gX7_partOf_X7_square (by decide +kernel) rfl ⟨Nat.le_of_ble_eq_true rfl, Nat.le_of_ble_eq_true rfl⟩ (my_preR hC (my_P_sub (wc := [(am 0, .inr (7, [.int th, .int (nI n), .ref (am 1), .ref (am 2), .ref (am 3), .int (nI kn), .ref (am 4), .ref (am 5), .ref (am 6), .ref (am 7), .ref (am 8), .ref (am 9), .ref (am 10), .ref (am 11), .ref (am 12)])), (am 4, .inl (kd, 60, .inr (.inr (.inr (.inl P))))), (am 5, .inl (kd, 60, .inr (.inr (.inr (.inl V))))), (am 6, .inl (kz, 60, .inl AF)), (am 7, .inl (kd, 60, .inr (.inr (.inr (.inl FX)))))]) hP [0, 1, 2, 3, 4] rfl)) (va_recv hC.1 hP (ci := 7) (q0 := 0) rfl rfl) rfl rfl dX7_partOf_20) ?_
  refine W.eq (g2 := F0 m 23 ls [.double (s_pk P V F kn k), .double t, .double (FP.ddiv (s_s P V F kn k) 4611686018427387904), .double t, .double (V k), .double t]) rfl ?_
  refine lv_ldc2d hx hb hown (hts (.constantDouble RX7 111 (4613937818241073152)) (List.mem_of_getElem? (l := wsX7_partOf) (i := 3) rfl)) dX7_partOf_23 ?_
  refine lv_ddiv hx hb dX7_partOf_26 (fx_n64 (a2)) ?_
  refine lv_dload_n hx hb dX7_partOf_27 rfl (lv_at hl 2 rfl) ?_
  refine lv_aload_n hx hb dX7_partOf_28 rfl (lv_at hl 0 rfl) ?_
  refine lv_iload_n hx hb dX7_partOf_29 rfl (lv_at hl 1 rfl) ?_
  refine my_goR (v := (some (.double (s_qk P V F kn k)))) (my_runVX (bytes := cX7_cube) (maxL := 2) (ret := (some .double)) (n := 1) (As := [.int (nI k)]) (rest := [.double t, .double (FP.ddiv (s_pk P V F kn k) 4613937818241073152), .double t, .double (FP.ddiv (s_s P V F kn k) 4611686018427387904), .double t, .double (V k), .double t]) S hl.1 (mm_cube l D kd ki kz kl z am th n kn P V F AF FX k (hI) (hR) (by omega)) rfl ⟨rfl, rfl⟩ gX7_partOf_X7_cube (by decide +kernel) rfl ⟨Nat.le_of_ble_eq_true rfl, Nat.le_of_ble_eq_true rfl⟩ (my_preR hC (my_P_sub (wc := [(am 0, .inr (7, [.int th, .int (nI n), .ref (am 1), .ref (am 2), .ref (am 3), .int (nI kn), .ref (am 4), .ref (am 5), .ref (am 6), .ref (am 7), .ref (am 8), .ref (am 9), .ref (am 10), .ref (am 11), .ref (am 12)])), (am 4, .inl (kd, 60, .inr (.inr (.inr (.inl P))))), (am 5, .inl (kd, 60, .inr (.inr (.inr (.inl V))))), (am 6, .inl (kz, 60, .inl AF)), (am 7, .inl (kd, 60, .inr (.inr (.inr (.inl FX)))))]) hP [0, 1, 2, 3, 4] rfl)) (va_recv hC.1 hP (ci := 7) (q0 := 0) rfl rfl) rfl rfl dX7_partOf_30) ?_
  refine W.eq (g2 := F0 m 33 ls [.double (s_qk P V F kn k), .double t, .double (FP.ddiv (s_pk P V F kn k) 4613937818241073152), .double t, .double (FP.ddiv (s_s P V F kn k) 4611686018427387904), .double t, .double (V k), .double t]) rfl ?_
  refine lv_ldc2d hx hb hown (hts (.constantDouble RX7 142 (4616189618054758400)) (List.mem_of_getElem? (l := wsX7_partOf) (i := 4) rfl)) dX7_partOf_33 ?_
  refine lv_ddiv hx hb dX7_partOf_36 (fx_n64 (a3)) ?_
  refine lv_dmul hx hb dX7_partOf_37 (fx_n64 (a4)) ?_
  refine lv_dadd hx hb dX7_partOf_38 (fx_n64 (a5)) ?_
  refine lv_dmul hx hb dX7_partOf_39 (fx_n64 (a6)) ?_
  refine lv_dadd hx hb dX7_partOf_40 (fx_n64 (a7)) ?_
  refine lv_dmul hx hb dX7_partOf_41 (fx_n64 (a8)) ?_
  refine lv_dadd hx hb dX7_partOf_42 (fx_n64 (a9)) ?_
  refine lv_dmul hx hb dX7_partOf_43 (fx_n64 (fx_B_n a10 (by omega))) ?_
  exact my_dretR hx hb hr hlocks (rfl) dX7_partOf_44

theorem iw_X7_pieceOf_X7 : ∀ w ∈ wsX70, w ∈ wsX7_pieceOf := fun w h => List.mem_cons_of_mem _ (List.mem_append_right _ (h))
set_option maxHeartbeats 4000000 in
set_option maxRecDepth 100000 in
theorem mm_pieceOf (l : Launch) (D : va_G) (kd ki kz kl : ClassId) (z : Nat) (am : Nat → Nat) (th : Int32) (n : Nat) (kn : Nat) (P : Nat → UInt64) (x : UInt64) (h2 : 2 ≤ kn) (h6 : kn ≤ 60) : my_RO l D kd ki kz kl z yX7_pieceOf wsX7_pieceOf ({ frames := 0, cells := 0, slots := 0, locals := 0 }) [.ref (am 0), .double x] [(am 0, .inr (7, [.int th, .int (nI n), .ref (am 1), .ref (am 2), .ref (am 3), .int (nI kn), .ref (am 4), .ref (am 5), .ref (am 6), .ref (am 7), .ref (am 8), .ref (am 9), .ref (am 10), .ref (am 11), .ref (am 12)])), (am 4, .inl (kd, 60, .inr (.inr (.inr (.inl P)))))] (some (.int (nI (s_pc P kn x)))) := by
  refine my_RO_of (cc := cX7_pieceOf) (maxL := 4) (ret := (some .int)) (by decide) rfl (Nat.le_of_ble_eq_true rfl) ?_
  intro p e s m below meth c S hr hlocks hC hP ls hl
  have S : CallFix p m c cX7_pieceOf 4 s ([.ref (am 0), .double x] : List Value).toArray wsX7_pieceOf RX7 := S
  obtain ⟨hx, hb, hml, hown, hts⟩ := id S
  have hl : lv_has ls 4 [(0, .ref (am 0)), (1, .double x)] := hl
  refine lv_iconst (v := 0) hx hb dX7_pieceOf_0 (by decide) ?_
  refine lv_istore_n (lv' := [(3, .int 0), (0, .ref (am 0)), (1, .double x)]) hx hb dX7_pieceOf_1 rfl hl (by decide) rfl (fun ls hl => ?_)
  have loop_2 : ∀ (n9 : Nat) (k : Nat), kn - k < n9 → ∀ (hk : k ≤ kn - 2) (hs : s_find (fun j => decide (sp_le (P (j + 1)) x)) (kn - 2 - k) k = s_pc P kn x) (ls : Array Slot) (hl : lv_has ls 4 [(3, .int (nI k)), (0, .ref (am 0)), (1, .double x)]), W p l e ({ frames := 0, cells := 0, slots := 0, locals := 0 }) s m ([.ref (am 0), .double x] : List Value).toArray below meth c s.heap [] 0 0 (my_RQ below ([.ref (am 0), .double x] : List Value).toArray s (some (.int (nI (s_pc P kn x))))) (F0 m 2 ls []) := by
    intro n9
    induction n9 with
    | zero => intro k h9; exact absurd h9 (Nat.not_lt_zero _)
    | succ n9 ih_2 =>
      intro k h9 hk hs ls hl
      refine lv_iload_n hx hb dX7_pieceOf_2 rfl (lv_at hl 0 rfl) ?_
      refine lv_iconst (v := 1) hx hb dX7_pieceOf_3 (by decide) ?_
      refine my_iadd (w := nI (k + 1)) hx hb dX7_pieceOf_4 (nI_add k 1) ?_
      refine lv_aload_n hx hb dX7_pieceOf_5 rfl (lv_at hl 1 rfl) ?_
      refine va_get (D := D) (ci := 7) (v := .int (nI kn)) (C := RX7) (T := TX7) (N := 15) hx hb hts iw_X7_pieceOf_X7 hown hC.1 hP 0 rfl rfl 5 (by decide) (hts (.fieldLink RX7 56 "MonotoneSplineModel" "knots" "I") (List.mem_of_getElem? (l := wsX7_pieceOf) (i := 1) rfl)) (fun _ h9 => h9) rfl dX7_pieceOf_6 ?_
      refine lv_iconst (v := 1) hx hb dX7_pieceOf_9 (by decide) ?_
      refine my_isub (w := nI (kn - 1)) hx hb dX7_pieceOf_10 (pk_sub (a := kn) (b := 1) (by omega)) ?_
      refine lv_icmp_ge (tgt := 33) hx hb dX7_pieceOf_11 (by decide) (fun c_11 => ?_) (fun c_11 => ?_)
      · have c_11 : kn - 1 ≤ k + 1 := (nI_leI (a := kn - 1) (b := k + 1) (by omega) (by omega)).mp c_11
        refine lv_iload_n hx hb dX7_pieceOf_33 rfl (lv_at hl 0 rfl) ?_
        exact my_iretR hx hb hr hlocks (by rw [← hs, show kn - 2 - k = 0 by omega]; rfl) dX7_pieceOf_34
      · have c_11 : ¬ kn - 1 ≤ k + 1 := fun h9 => c_11 ((nI_leI (a := kn - 1) (b := k + 1) (by omega) (by omega)).mpr h9)
        refine lv_aload_n hx hb dX7_pieceOf_14 rfl (lv_at hl 1 rfl) ?_
        refine va_get (D := D) (ci := 7) (v := .ref (am 4)) (C := RX7) (T := TX7) (N := 15) hx hb hts iw_X7_pieceOf_X7 hown hC.1 hP 0 rfl rfl 6 (by decide) (hts (.fieldLink RX7 19 "MonotoneSplineModel" "places" "[D") (List.mem_of_getElem? (l := wsX7_pieceOf) (i := 2) rfl)) (fun _ h9 => h9) rfl dX7_pieceOf_15 ?_
        refine lv_iload_n hx hb dX7_pieceOf_18 rfl (lv_at hl 0 rfl) ?_
        refine lv_iconst (v := 1) hx hb dX7_pieceOf_19 (by decide) ?_
        refine my_iadd (w := nI (k + 1)) hx hb dX7_pieceOf_20 (nI_add k 1) ?_
        refine my_dald (k := k + 1) (n := 60) (f := P) hx hb hC hP 1 rfl (by omega) (by omega) dX7_pieceOf_21 ?_
        refine lv_dload_n hx hb dX7_pieceOf_22 rfl (lv_at hl 2 rfl) ?_
        refine lv_dcmp hx hb dX7_pieceOf_23 ?_
        refine lv_if_gt (tgt := 33) hx hb dX7_pieceOf_24 (by decide) (fun c_24 => ?_) (fun c_24 => ?_)
        · have c_24 := cv_g_gt_t c_24
          refine lv_iload_n hx hb dX7_pieceOf_33 rfl (lv_at hl 0 rfl) ?_
          exact my_iretR hx hb hr hlocks (by rw [← hs, s_find_stop (decide_eq_false c_24)]) dX7_pieceOf_34
        · have c_24 := cv_g_gt_f c_24
          refine lv_iinc (v := nI (k + 1)) (k := 0) (lv' := [(3, .int (nI (k + 1))), (0, .ref (am 0)), (1, .double x)]) hx hb dX7_pieceOf_27 hl rfl (nI_add k 1) (by decide) rfl (fun ls hl => ?_)
          refine lv_goto (tgt := 2) hx hb dX7_pieceOf_30 (by decide) ?_
          exact ih_2 (k + 1) (by omega) (by omega) (by rw [← hs, show kn - 2 - k = (kn - 2 - (k + 1)) + 1 by omega, s_find_step (decide_eq_true c_24)]) _ (lv_sub hl [0, 1, 2] rfl)
  exact loop_2 _ 0 (Nat.lt_succ_self _) (by omega) (rfl) _ (lv_sub hl [0, 1, 2] rfl)

theorem iw_X7_isInside_X7 : ∀ w ∈ wsX70, w ∈ wsX7_isInside := fun w h => List.mem_cons_of_mem _ (List.mem_append_right _ (h))
set_option maxHeartbeats 4000000 in
set_option maxRecDepth 100000 in
theorem mm_isInside (l : Launch) (D : va_G) (kd ki kz kl : ClassId) (z : Nat) (am : Nat → Nat) (th : Int32) (n : Nat) (kn : Nat) (P : Nat → UInt64) (x : UInt64) (h6 : kn ≤ 60) : my_RO l D kd ki kz kl z yX7_isInside wsX7_isInside ({ frames := 1, cells := 0, slots := 0, locals := 25 }) [.ref (am 0), .double x] [(am 0, .inr (7, [.int th, .int (nI n), .ref (am 1), .ref (am 2), .ref (am 3), .int (nI kn), .ref (am 4), .ref (am 5), .ref (am 6), .ref (am 7), .ref (am 8), .ref (am 9), .ref (am 10), .ref (am 11), .ref (am 12)])), (am 4, .inl (kd, 60, .inr (.inr (.inr (.inl P)))))] (some (.int (if 0 < kn ∧ sp_ge x (P 0) ∧ sp_le x (P (kn - 1)) then 1 else 0))) := by
  refine my_RO_of (cc := cX7_isInside) (maxL := 3) (ret := (some .boolean)) (by decide) rfl (Nat.le_of_ble_eq_true rfl) ?_
  intro p e s m below meth c S hr hlocks hC hP ls hl
  have S : CallFix p m c cX7_isInside 3 s ([.ref (am 0), .double x] : List Value).toArray wsX7_isInside RX7 := S
  obtain ⟨hx, hb, hml, hown, hts⟩ := id S
  have hl : lv_has ls 3 [(0, .ref (am 0)), (1, .double x)] := hl
  refine lv_aload_n hx hb dX7_isInside_0 rfl (lv_at hl 0 rfl) ?_
  refine va_get (D := D) (ci := 7) (v := .int (nI kn)) (C := RX7) (T := TX7) (N := 15) hx hb hts iw_X7_isInside_X7 hown hC.1 hP 0 rfl rfl 5 (by decide) (hts (.fieldLink RX7 56 "MonotoneSplineModel" "knots" "I") (List.mem_of_getElem? (l := wsX7_isInside) (i := 1) rfl)) (fun _ h9 => h9) rfl dX7_isInside_1 ?_
  refine lv_if_le (tgt := 35) hx hb dX7_isInside_4 (by decide) (fun c_4 => ?_) (fun c_4 => ?_)
  · have c_4 : kn ≤ 0 := (nI_leI (a := kn) (b := 0) (by omega) (by omega)).mp c_4
    refine lv_iconst (v := 0) hx hb dX7_isInside_35 (by decide) ?_
    exact my_zretR hx hb hr hlocks ((if_neg (fun h9 => by omega)).symm) (rfl) dX7_isInside_36
  · have c_4 : ¬ kn ≤ 0 := fun h9 => c_4 ((nI_leI (a := kn) (b := 0) (by omega) (by omega)).mpr h9)
    refine lv_dload_n hx hb dX7_isInside_7 rfl (lv_at hl 1 rfl) ?_
    refine lv_aload_n hx hb dX7_isInside_8 rfl (lv_at hl 0 rfl) ?_
    refine va_get (D := D) (ci := 7) (v := .ref (am 4)) (C := RX7) (T := TX7) (N := 15) hx hb hts iw_X7_isInside_X7 hown hC.1 hP 0 rfl rfl 6 (by decide) (hts (.fieldLink RX7 19 "MonotoneSplineModel" "places" "[D") (List.mem_of_getElem? (l := wsX7_isInside) (i := 2) rfl)) (fun _ h9 => h9) rfl dX7_isInside_9 ?_
    refine lv_iconst (v := 0) hx hb dX7_isInside_12 (by decide) ?_
    refine my_dald (k := 0) (n := 60) (f := P) hx hb hC hP 1 rfl (by omega) (by omega) dX7_isInside_13 ?_
    refine lv_aload_n hx hb dX7_isInside_14 rfl (lv_at hl 0 rfl) ?_
    refine va_get (D := D) (ci := 7) (v := .ref (am 4)) (C := RX7) (T := TX7) (N := 15) hx hb hts iw_X7_isInside_X7 hown hC.1 hP 0 rfl rfl 6 (by decide) (hts (.fieldLink RX7 19 "MonotoneSplineModel" "places" "[D") (List.mem_of_getElem? (l := wsX7_isInside) (i := 2) rfl)) (fun _ h9 => h9) rfl dX7_isInside_15 ?_
    refine lv_aload_n hx hb dX7_isInside_18 rfl (lv_at hl 0 rfl) ?_
    refine va_get (D := D) (ci := 7) (v := .int (nI kn)) (C := RX7) (T := TX7) (N := 15) hx hb hts iw_X7_isInside_X7 hown hC.1 hP 0 rfl rfl 5 (by decide) (hts (.fieldLink RX7 56 "MonotoneSplineModel" "knots" "I") (List.mem_of_getElem? (l := wsX7_isInside) (i := 1) rfl)) (fun _ h9 => h9) rfl dX7_isInside_19 ?_
    refine lv_iconst (v := 1) hx hb dX7_isInside_22 (by decide) ?_
    refine my_isub (w := nI (kn - 1)) hx hb dX7_isInside_23 (pk_sub (a := kn) (b := 1) (by omega)) ?_
    refine my_dald (k := kn - 1) (n := 60) (f := P) hx hb hC hP 1 rfl (by omega) (by omega) dX7_isInside_24 ?_
    refine my_goR (v := (some (.int (if sp_ge x (P 0) ∧ sp_le x (P (kn - 1)) then 1 else 0)))) (my_runS (bytes := cX7_isIn) (maxL := 6) (ret := (some .boolean)) (n := 3) (As := [.double x, .double (P 0), .double (P (kn - 1))]) (rest := []) S hl.1 (mm_isIn l D kd ki kz kl z x (P 0) (P (kn - 1))) rfl ⟨rfl, rfl⟩ gX7_isInside_X7_isIn (by decide +kernel) rfl ⟨Nat.le_of_ble_eq_true rfl, Nat.le_of_ble_eq_true rfl⟩ (my_preR hC (my_P_sub (wc := []) hP [] rfl)) rfl rfl dX7_isInside_25) ?_
    refine W.eq (g2 := F0 m 28 ls [.int (if sp_ge x (P 0) ∧ sp_le x (P (kn - 1)) then 1 else 0)]) rfl ?_
    by_cases h29 : sp_ge x (P 0) ∧ sp_le x (P (kn - 1))
    · rw [if_pos h29]
      refine lv_if_eq (tgt := 35) hx hb dX7_isInside_28 (by decide) (fun c_28 => ?_) (fun c_28 => ?_)
      · skip
        first | exact absurd c_28 (by decide) | exact absurd (by decide) c_28
      · skip
        refine lv_iconst (v := 1) hx hb dX7_isInside_31 (by decide) ?_
        refine lv_goto (tgt := 36) hx hb dX7_isInside_32 (by decide) ?_
        exact my_zretR hx hb hr hlocks ((if_pos ⟨by omega, h29⟩).symm) (rfl) dX7_isInside_36
    · rw [if_neg h29]
      refine lv_if_eq (tgt := 35) hx hb dX7_isInside_28 (by decide) (fun c_28 => ?_) (fun c_28 => ?_)
      · skip
        refine lv_iconst (v := 0) hx hb dX7_isInside_35 (by decide) ?_
        exact my_zretR hx hb hr hlocks ((if_neg (fun h9 => h29 h9.2)).symm) (rfl) dX7_isInside_36
      · skip
        first | exact absurd c_28 (by decide) | exact absurd (by decide) c_28

theorem iw_X7_areaTo_X7 : ∀ w ∈ wsX70, w ∈ wsX7_areaTo := fun w h => List.mem_cons_of_mem _ (List.mem_append_right _ (h))
set_option maxHeartbeats 4000000 in
set_option maxRecDepth 100000 in
theorem mm_areaTo (l : Launch) (D : va_G) (kd ki kz kl : ClassId) (z : Nat) (am : Nat → Nat) (th : Int32) (n : Nat) (kn : Nat) (P : Nat → UInt64) (V : Nat → UInt64) (F : Nat → UInt64) (AF : Nat → Int32) (FX : Nat → UInt64) (x : UInt64) (hI : KI kn P V F) (hR : MR kn F AF FX) (hxB : fx_B 1168 x) : my_RO l D kd ki kz kl z yX7_areaTo wsX7_areaTo ({ frames := 6, cells := 0, slots := 0, locals := 152 }) [.ref (am 0), .double x] [(am 0, .inr (7, [.int th, .int (nI n), .ref (am 1), .ref (am 2), .ref (am 3), .int (nI kn), .ref (am 4), .ref (am 5), .ref (am 6), .ref (am 7), .ref (am 8), .ref (am 9), .ref (am 10), .ref (am 11), .ref (am 12)])), (am 4, .inl (kd, 60, .inr (.inr (.inr (.inl P))))), (am 5, .inl (kd, 60, .inr (.inr (.inr (.inl V))))), (am 6, .inl (kz, 60, .inl AF)), (am 7, .inl (kd, 60, .inr (.inr (.inr (.inl FX)))))] (some (.double (s_at2 P V F kn x))) := by
  refine my_RO_of (cc := cX7_areaTo) (maxL := 7) (ret := (some .double)) (by decide) rfl (Nat.le_of_ble_eq_true rfl) ?_
  intro p e s m below meth c S hr hlocks hC hP ls hl
  have S : CallFix p m c cX7_areaTo 7 s ([.ref (am 0), .double x] : List Value).toArray wsX7_areaTo RX7 := S
  obtain ⟨hx, hb, hml, hown, hts⟩ := id S
  have hl : lv_has ls 7 [(0, .ref (am 0)), (1, .double x)] := hl
  have hJ := hI.1
  have hkn := hJ.2.1
  have hkn2 := hJ.1
  have hlt := s_pc_lt (P := P) (x := x) hkn2
  refine lv_aload_n hx hb dX7_areaTo_0 rfl (lv_at hl 0 rfl) ?_
  refine lv_dload_n hx hb dX7_areaTo_1 rfl (lv_at hl 1 rfl) ?_
  refine my_goR (v := (some (.int (nI (s_pc P kn x))))) (my_runV (bytes := cX7_pieceOf) (maxL := 4) (ret := (some .int)) (n := 1) (As := [.double x]) (rest := []) S hl.1 (mm_pieceOf l D kd ki kz kl z am th n kn P x (by omega) (by omega)) rfl ⟨rfl, rfl⟩ gX7_areaTo_X7_pieceOf (by decide +kernel) rfl ⟨Nat.le_of_ble_eq_true rfl, Nat.le_of_ble_eq_true rfl⟩ (my_preR hC (my_P_sub (wc := [(am 0, .inr (7, [.int th, .int (nI n), .ref (am 1), .ref (am 2), .ref (am 3), .int (nI kn), .ref (am 4), .ref (am 5), .ref (am 6), .ref (am 7), .ref (am 8), .ref (am 9), .ref (am 10), .ref (am 11), .ref (am 12)])), (am 4, .inl (kd, 60, .inr (.inr (.inr (.inl P)))))]) hP [0, 1] rfl)) (va_recv hC.1 hP (ci := 7) (q0 := 0) rfl rfl) rfl rfl dX7_areaTo_2) ?_
  refine W.eq (g2 := F0 m 5 ls [.int (nI (s_pc P kn x))]) rfl ?_
  refine lv_istore_n (lv' := [(3, .int (nI (s_pc P kn x))), (0, .ref (am 0)), (1, .double x)]) hx hb dX7_areaTo_5 rfl hl (by decide) rfl (fun ls hl => ?_)
  refine lv_dconst0 hx hb dX7_areaTo_6 ?_
  refine my_topd (w := 0) (by decide) ?_
  refine my_topd (w := s_as P V F kn 0) (rfl) ?_
  refine lv_dstore (lv' := [(4, .double (s_as P V F kn 0)), (3, .int (nI (s_pc P kn x))), (0, .ref (am 0)), (1, .double x)]) hx hb dX7_areaTo_7 hl (by decide) rfl (fun ls hl => ?_)
  refine lv_iconst (v := 0) hx hb dX7_areaTo_9 (by decide) ?_
  refine lv_istore (lv' := [(6, .int 0), (4, .double (s_as P V F kn 0)), (3, .int (nI (s_pc P kn x))), (0, .ref (am 0)), (1, .double x)]) hx hb dX7_areaTo_10 hl (by decide) rfl (fun ls hl => ?_)
  have loop_12 : ∀ (n9 : Nat) (k : Nat), (s_pc P kn x) - k < n9 → ∀ (hk : k ≤ s_pc P kn x) (ls : Array Slot) (hl : lv_has ls 7 [(6, .int (nI k)), (4, .double (s_as P V F kn k)), (3, .int (nI (s_pc P kn x))), (0, .ref (am 0)), (1, .double x)]), W p l e ({ frames := 6, cells := 0, slots := 0, locals := 152 }) s m ([.ref (am 0), .double x] : List Value).toArray below meth c s.heap [] 0 0 (my_RQ below ([.ref (am 0), .double x] : List Value).toArray s (some (.double (s_at2 P V F kn x)))) (F0 m 12 ls []) := by
    intro n9
    induction n9 with
    | zero => intro k h9; exact absurd h9 (Nat.not_lt_zero _)
    | succ n9 ih_12 =>
      intro k h9 hk ls hl
      refine lv_iload hx hb dX7_areaTo_12 (lv_at hl 0 rfl) ?_
      refine lv_iload_n hx hb dX7_areaTo_14 rfl (lv_at hl 2 rfl) ?_
      refine lv_icmp_ge (tgt := 41) hx hb dX7_areaTo_15 (by decide) (fun c_15 => ?_) (fun c_15 => ?_)
      · have c_15 : s_pc P kn x ≤ k := (nI_leI (a := s_pc P kn x) (b := k) (by omega) (by omega)).mp c_15
        obtain rfl : k = s_pc P kn x := by omega
        refine lv_dload hx hb dX7_areaTo_41 (lv_at hl 1 rfl) ?_
        refine lv_aload_n hx hb dX7_areaTo_43 rfl (lv_at hl 3 rfl) ?_
        refine lv_iload_n hx hb dX7_areaTo_44 rfl (lv_at hl 2 rfl) ?_
        refine lv_dload_n hx hb dX7_areaTo_45 rfl (lv_at hl 4 rfl) ?_
        refine lv_aload_n hx hb dX7_areaTo_46 rfl (lv_at hl 3 rfl) ?_
        refine va_get (D := D) (ci := 7) (v := .ref (am 4)) (C := RX7) (T := TX7) (N := 15) hx hb hts iw_X7_areaTo_X7 hown hC.1 hP 0 rfl rfl 6 (by decide) (hts (.fieldLink RX7 19 "MonotoneSplineModel" "places" "[D") (List.mem_of_getElem? (l := wsX7_areaTo) (i := 1) rfl)) (fun _ h9 => h9) rfl dX7_areaTo_47 ?_
        refine lv_iload_n hx hb dX7_areaTo_50 rfl (lv_at hl 2 rfl) ?_
        refine my_dald (k := s_pc P kn x) (n := 60) (f := P) hx hb hC hP 1 rfl (by omega) (by omega) dX7_areaTo_51 ?_
        refine lv_dsub hx hb dX7_areaTo_52 (fx_n64 (fx_B_n (PE_x hI (by omega) hxB) (by omega))) ?_
        refine my_goR (v := (some (.double (s_pt (V (s_pc P kn x)) (s_s P V F kn (s_pc P kn x)) (s_pk P V F kn (s_pc P kn x)) (s_qk P V F kn (s_pc P kn x)) (FP.dsub x (P (s_pc P kn x))))))) (my_runV (bytes := cX7_partOf) (maxL := 4) (ret := (some .double)) (n := 2) (As := [.int (nI (s_pc P kn x)), .double (FP.dsub x (P (s_pc P kn x)))]) (rest := [.double (s_as P V F kn (s_pc P kn x))]) S hl.1 (mm_partOf l D kd ki kz kl z am th n kn P V F AF FX (s_pc P kn x) (FP.dsub x (P (s_pc P kn x))) (hI) (hR) (by omega) (PE_x hI (by omega) hxB)) rfl ⟨rfl, rfl⟩ gX7_areaTo_X7_partOf (by decide +kernel) rfl ⟨Nat.le_of_ble_eq_true rfl, Nat.le_of_ble_eq_true rfl⟩ (my_preR hC (my_P_sub (wc := [(am 0, .inr (7, [.int th, .int (nI n), .ref (am 1), .ref (am 2), .ref (am 3), .int (nI kn), .ref (am 4), .ref (am 5), .ref (am 6), .ref (am 7), .ref (am 8), .ref (am 9), .ref (am 10), .ref (am 11), .ref (am 12)])), (am 4, .inl (kd, 60, .inr (.inr (.inr (.inl P))))), (am 5, .inl (kd, 60, .inr (.inr (.inr (.inl V))))), (am 6, .inl (kz, 60, .inl AF)), (am 7, .inl (kd, 60, .inr (.inr (.inr (.inl FX)))))]) hP [0, 1, 2, 3, 4] rfl)) (va_recv hC.1 hP (ci := 7) (q0 := 0) rfl rfl) rfl rfl dX7_areaTo_53) ?_
        refine W.eq (g2 := F0 m 56 ls [.double (s_pt (V (s_pc P kn x)) (s_s P V F kn (s_pc P kn x)) (s_pk P V F kn (s_pc P kn x)) (s_qk P V F kn (s_pc P kn x)) (FP.dsub x (P (s_pc P kn x)))), .double (s_as P V F kn (s_pc P kn x))]) rfl ?_
        refine lv_dadd hx hb dX7_areaTo_56 (fx_n64 (fx_B_n (s_at2_B hI hxB) (by omega))) ?_
        exact my_dretR hx hb hr hlocks (rfl) dX7_areaTo_57
      · have c_15 : ¬ s_pc P kn x ≤ k := fun h9 => c_15 ((nI_leI (a := s_pc P kn x) (b := k) (by omega) (by omega)).mpr h9)
        refine lv_dload hx hb dX7_areaTo_18 (lv_at hl 1 rfl) ?_
        refine lv_aload_n hx hb dX7_areaTo_20 rfl (lv_at hl 3 rfl) ?_
        refine lv_iload hx hb dX7_areaTo_21 (lv_at hl 0 rfl) ?_
        refine lv_aload_n hx hb dX7_areaTo_23 rfl (lv_at hl 3 rfl) ?_
        refine lv_iload hx hb dX7_areaTo_24 (lv_at hl 0 rfl) ?_
        refine my_goR (v := (some (.double (s_w P k)))) (my_runV (bytes := cX7_width) (maxL := 2) (ret := (some .double)) (n := 1) (As := [.int (nI k)]) (rest := [.int (nI k), .ref (am 0), .double (s_as P V F kn k)]) S hl.1 (mm_width l D kd ki kz kl z am th n kn P V k (by omega) (hJ)) rfl ⟨rfl, rfl⟩ gX7_areaTo_X7_width (by decide +kernel) rfl ⟨Nat.le_of_ble_eq_true rfl, Nat.le_of_ble_eq_true rfl⟩ (my_preR hC (my_P_sub (wc := [(am 0, .inr (7, [.int th, .int (nI n), .ref (am 1), .ref (am 2), .ref (am 3), .int (nI kn), .ref (am 4), .ref (am 5), .ref (am 6), .ref (am 7), .ref (am 8), .ref (am 9), .ref (am 10), .ref (am 11), .ref (am 12)])), (am 4, .inl (kd, 60, .inr (.inr (.inr (.inl P))))), (am 5, .inl (kd, 60, .inr (.inr (.inr (.inl V)))))]) hP [0, 1, 2] rfl)) (va_recv hC.1 hP (ci := 7) (q0 := 0) rfl rfl) rfl rfl dX7_areaTo_26) ?_
        refine W.eq (g2 := F0 m 29 ls [.double (s_w P k), .int (nI k), .ref (am 0), .double (s_as P V F kn k)]) rfl ?_
        refine my_goR (v := (some (.double (s_pt (V k) (s_s P V F kn k) (s_pk P V F kn k) (s_qk P V F kn k) (s_w P k))))) (my_runV (bytes := cX7_partOf) (maxL := 4) (ret := (some .double)) (n := 2) (As := [.int (nI k), .double (s_w P k)]) (rest := [.double (s_as P V F kn k)]) S hl.1 (mm_partOf l D kd ki kz kl z am th n kn P V F AF FX k (s_w P k) (hI) (hR) (by omega) (fx_B_mono (kJ_w1 hJ (by omega)).1 (by omega))) rfl ⟨rfl, rfl⟩ gX7_areaTo_X7_partOf (by decide +kernel) rfl ⟨Nat.le_of_ble_eq_true rfl, Nat.le_of_ble_eq_true rfl⟩ (my_preR hC (my_P_sub (wc := [(am 0, .inr (7, [.int th, .int (nI n), .ref (am 1), .ref (am 2), .ref (am 3), .int (nI kn), .ref (am 4), .ref (am 5), .ref (am 6), .ref (am 7), .ref (am 8), .ref (am 9), .ref (am 10), .ref (am 11), .ref (am 12)])), (am 4, .inl (kd, 60, .inr (.inr (.inr (.inl P))))), (am 5, .inl (kd, 60, .inr (.inr (.inr (.inl V))))), (am 6, .inl (kz, 60, .inl AF)), (am 7, .inl (kd, 60, .inr (.inr (.inr (.inl FX)))))]) hP [0, 1, 2, 3, 4] rfl)) (va_recv hC.1 hP (ci := 7) (q0 := 0) rfl rfl) rfl rfl dX7_areaTo_29) ?_
        refine W.eq (g2 := F0 m 32 ls [.double (s_pt (V k) (s_s P V F kn k) (s_pk P V F kn k) (s_qk P V F kn k) (s_w P k)), .double (s_as P V F kn k)]) rfl ?_
        refine lv_dadd hx hb dX7_areaTo_32 (fx_n64 (fx_B_n (s_as_B hI (k + 1) (by omega)) (by omega))) ?_
        refine my_topd (w := s_as P V F kn (k + 1)) (rfl) ?_
        refine lv_dstore (lv' := [(4, .double (s_as P V F kn (k + 1))), (6, .int (nI k)), (3, .int (nI (s_pc P kn x))), (0, .ref (am 0)), (1, .double x)]) hx hb dX7_areaTo_33 hl (by decide) rfl (fun ls hl => ?_)
        refine lv_iinc (v := nI (k + 1)) (k := 1) (lv' := [(6, .int (nI (k + 1))), (4, .double (s_as P V F kn (k + 1))), (3, .int (nI (s_pc P kn x))), (0, .ref (am 0)), (1, .double x)]) hx hb dX7_areaTo_35 hl rfl (nI_add k 1) (by decide) rfl (fun ls hl => ?_)
        refine lv_goto (tgt := 12) hx hb dX7_areaTo_38 (by decide) ?_
        exact ih_12 (k + 1) (by omega) (by omega) _ (lv_sub hl [0, 1, 2, 3, 4] rfl)
  exact loop_12 _ 0 (Nat.lt_succ_self _) (by omega) _ (lv_sub hl [0, 1, 2, 3, 4] rfl)

