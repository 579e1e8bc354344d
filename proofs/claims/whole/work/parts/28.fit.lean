def bz_U (c E : Nat) : Prop := c * 2 ^ E < 2 ^ 1127
def bz_D (c E : Nat) : Prop := 2 ^ 1126 ≤ c * 2 ^ E
theorem bz_U0 {c E : Nat} (h : c * 2 ^ E < 2 ^ 1126) : bz_U c E := Nat.lt_trans h (Nat.pow_lt_pow_right (by decide) (by decide))
theorem bz_e {c E : Nat} (h : bz_U c E) (h0 : 0 < c) : E < 1127 := by
  unfold bz_U at h
  have h1 : 1 * 2 ^ E ≤ c * 2 ^ E := Nat.mul_le_mul_right _ h0
  rw [Nat.one_mul] at h1
  exact (Nat.pow_lt_pow_iff_right (by decide)).mp (Nat.lt_of_le_of_lt h1 h)
theorem bz_U16 {c E : Nat} {d : UInt64} (hd : fx_G E (c : Int) d) (h : sp_lt d 4769312005385355264) : bz_U c (E + 16) := by
  have h1 := (bz_lt hd bz_36).mp h
  unfold bz_U
  rw [Nat.pow_add, ← Nat.mul_assoc]
  calc c * 2 ^ E * 2 ^ 16 < 2 ^ (36 + 1074) * 2 ^ 16 := Nat.mul_lt_mul_of_pos_right h1 (by decide)
    _ = 2 ^ 1126 := by rw [← Nat.pow_add]
    _ ≤ 2 ^ 1127 := Nat.pow_le_pow_right (by decide) (by decide)
theorem bz_U1 {c E : Nat} {d : UInt64} (hd : fx_G E (c : Int) d) (h : sp_lt d 4841369599423283200) : bz_U c (E + 1) := by
  have h1 := (bz_lt hd bz_52).mp h
  unfold bz_U
  rw [Nat.pow_add, ← Nat.mul_assoc]
  calc c * 2 ^ E * 2 ^ 1 < 2 ^ (52 + 1074) * 2 ^ 1 := Nat.mul_lt_mul_of_pos_right h1 (by decide)
    _ = 2 ^ 1127 := by rw [← Nat.pow_add]
theorem bz_D1 {c E : Nat} {d : UInt64} (hd : fx_G E (c : Int) d) (h : ¬ sp_lt d 4841369599423283200) : bz_D c E := by
  have h1 := bz_lt hd bz_52
  unfold bz_D
  exact Nat.not_lt.mp (fun h9 => h (h1.mpr h9))
theorem bz_b1 {c e j m : Nat} {d : UInt64} (hd : fx_G (e + j) (c : Int) d) (hU : bz_U c (e + j)) (hu : c * 2 ^ e = FP.Core.unitsOf FP.Core.b64 m) (hj : j ≤ 1074) (he : bz_D c (e + j) ∨ j = 1074) (h : FP.d2l d < 4503599627370496) : (FP.d2l d).toInt = (m : Int) := by
  have h1 := bz_d2l hd hU
  rw [Int64.lt_iff_toInt_lt, h1, show (4503599627370496 : Int64).toInt = ((2 ^ 52 : Nat) : Int) by decide] at h
  rw [h1, bz_small hu hj he (Int.ofNat_lt.mp h)]
theorem bz_b2 {c e j m : Nat} {d : UInt64} (hd : fx_G (e + j) (c : Int) d) (hU : bz_U c (e + j)) (hu : c * 2 ^ e = FP.Core.unitsOf FP.Core.b64 m) (hj : j ≤ 1074) (hm : m < 2 ^ 63) (h : ¬ FP.d2l d < 4503599627370496) : (FP.d2l d + ((nI (1074 - j)).toInt64 <<< ((52 : Int32).toInt64 &&& 63))).toInt = (m : Int) := by
  have h1 := bz_d2l hd hU
  rw [Int64.lt_iff_toInt_lt, h1, show (4503599627370496 : Int64).toInt = ((2 ^ 52 : Nat) : Int) by decide] at h
  have h2 := bz_big hu hj hU (Nat.not_lt.mp (fun h9 => h (Int.ofNat_lt.mpr h9)))
  rw [bz_addI h1 (bz_shl (a := 1074 - j) (by omega)) (by rw [h2]; exact hm), h2]
theorem bz_r1 {x : UInt64} {b : Int64} (hn : fx_n x) (hm : fx_m x) (hb : b.toInt = ((x.toNat % 2 ^ 63 : Nat) : Int)) (h : ¬ sp_lt x 0) : b = x.toInt64 := by
  rw [fx_lt0 hn] at h
  have hp := fx_k_p (Int.not_lt.mp h) hm
  unfold fx_p at hp
  exact bz_word (by rw [hb, Nat.mod_eq_of_lt hp]) hp
theorem bz_r2 {x : UInt64} {b : Int64} (hn : fx_n x) (hb : b.toInt = ((x.toNat % 2 ^ 63 : Nat) : Int)) (h : sp_lt x 0) : b ||| (-9223372036854775808) = x.toInt64 := by
  rw [fx_lt0 hn] at h
  have hp : ¬ fx_p x := fun h9 => by have := fx_p_k h9; omega
  unfold fx_p at hp
  have := x.toNat_lt
  exact bz_wordn (by rw [hb]; omega) (by omega)
theorem bz_mod (x : UInt64) : x.toNat % 2 ^ 63 < 2 ^ 63 := Nat.mod_lt _ (by decide)
set_option maxHeartbeats 4000000 in
set_option maxRecDepth 100000 in
theorem kk_X6_bitsOf (l : Launch) (D : va_G) (kd ki kz kl : ClassId) (z : Nat) (x : UInt64) (hB : fx_B 1075 x) (hm : fx_m x) : my_RO l D kd ki kz kl z yX6_bitsOf wsX6_bitsOf ({ frames := 1, cells := 0, slots := 0, locals := 21 }) [.double x] [] (some (.long (UInt64.toInt64 x))) := by
  refine my_RO_of (cc := cX6_bitsOf) (maxL := 7) (ret := (some .long)) (by decide) rfl (Nat.le_of_ble_eq_true rfl) ?_
  intro p e s m below meth c S hr hlocks hC hP ls hl
  have S : CallFix p m c cX6_bitsOf 7 s ([.double x] : List Value).toArray wsX6_bitsOf RX6 := S
  obtain ⟨hx, hb, hml, hown, hts⟩ := id S
  have hl : lv_has ls 7 [(0, .double x)] := hl
  have hn := fx_B_n hB (by omega)
  refine lv_dload_n hx hb dX6_bitsOf_0 rfl (lv_at hl 0 rfl) ?_
  refine lv_dconst0 hx hb dX6_bitsOf_1 ?_
  refine my_topd (w := 0) (by decide) ?_
  refine lv_dcmp hx hb dX6_bitsOf_2 ?_
  refine lv_if_ne (tgt := 8) hx hb dX6_bitsOf_3 (by decide) (fun c_3 => ?_) (fun c_3 => ?_)
  · have c_3 := cv_l_eq_f c_3
    obtain ⟨e9, c9, g0, c0, c53, cu, cb⟩ := bz_0 hB (fun h9 => c_3 ((fx_eq0 hn).mpr h9))
    refine lv_dload_n hx hb dX6_bitsOf_8 rfl (lv_at hl 0 rfl) ?_
    refine my_goR (v := (some (.double (s_mg x)))) (my_runS (bytes := cX6_magnitude) (maxL := 2) (ret := (some .double)) (n := 1) (As := [.double x]) (rest := []) S hl.1 (kk_X6_magnitude l D kd ki kz kl z x) rfl ⟨rfl, rfl⟩ gX6_bitsOf_X6_magnitude (by decide +kernel) rfl ⟨Nat.le_of_ble_eq_true rfl, Nat.le_of_ble_eq_true rfl⟩ (my_preR hC (my_P_sub (wc := []) hP [] rfl)) rfl rfl dX6_bitsOf_9) ?_
    refine W.eq (g2 := F0 m 12 ls [.double (s_mg x)]) rfl ?_
    refine lv_dstore_n (lv' := [(2, .double (s_mg x)), (0, .double x)]) hx hb dX6_bitsOf_12 rfl hl (by decide) rfl (fun ls hl => ?_)
    refine lv_iconst (v := 0) hx hb dX6_bitsOf_13 (by decide) ?_
    refine my_topi (w := mS 0) (mS_0.symm) ?_
    refine lv_istore (lv' := [(4, .int (mS 0)), (2, .double (s_mg x)), (0, .double x)]) hx hb dX6_bitsOf_14 hl (by decide) rfl (fun ls hl => ?_)
    have loop_16 : ∀ (n9 : Nat) (d9 : UInt64) (j : Nat), 1100 - j < n9 → ∀ (hG : fx_G (e9 + j) (c9 : Int) d9) (hU : bz_U c9 (e9 + j)) (hj : j ≤ 1074) (ls : Array Slot) (hl : lv_has ls 7 [(2, .double d9), (4, .int (mS j)), (0, .double x)]), W p l e ({ frames := 1, cells := 0, slots := 0, locals := 21 }) s m ([.double x] : List Value).toArray below meth c s.heap [] 0 0 (my_RQ below ([.double x] : List Value).toArray s (some (.long (UInt64.toInt64 x)))) (F0 m 16 ls []) := by
      intro n9
      induction n9 with
      | zero => intro d9 j h9; exact absurd h9 (Nat.not_lt_zero _)
      | succ n9 ih_16 =>
        intro d9 j h9 hG hU hj ls hl
        have he := bz_e hU c0
        refine lv_dload_n hx hb dX6_bitsOf_16 rfl (lv_at hl 0 rfl) ?_
        refine lv_ldc2d hx hb hown (hts (.constantDouble RX6 286 (4769312005385355264)) (List.mem_of_getElem? (l := wsX6_bitsOf) (i := 1) rfl)) dX6_bitsOf_17 ?_
        refine lv_dcmp hx hb dX6_bitsOf_20 ?_
        refine lv_if_ge (tgt := 48) hx hb dX6_bitsOf_21 (by decide) (fun c_21 => ?_) (fun c_21 => ?_)
        · have c_21 := cv_g_ge_t c_21
          have loop_48 : ∀ (n9 : Nat) (d9 : UInt64) (j : Nat), 1100 - j < n9 → ∀ (hG : fx_G (e9 + j) (c9 : Int) d9) (hU : bz_U c9 (e9 + j)) (hj : j ≤ 1074) (ls : Array Slot) (hl : lv_has ls 7 [(2, .double d9), (4, .int (mS j)), (0, .double x)]), W p l e ({ frames := 1, cells := 0, slots := 0, locals := 21 }) s m ([.double x] : List Value).toArray below meth c s.heap [] 0 0 (my_RQ below ([.double x] : List Value).toArray s (some (.long (UInt64.toInt64 x)))) (F0 m 48 ls []) := by
            intro n9
            induction n9 with
            | zero => intro d9 j h9; exact absurd h9 (Nat.not_lt_zero _)
            | succ n9 ih_48 =>
              intro d9 j h9 hG hU hj ls hl
              have he := bz_e hU c0
              refine lv_dload_n hx hb dX6_bitsOf_48 rfl (lv_at hl 0 rfl) ?_
              refine lv_ldc2d hx hb hown (hts (.constantDouble RX6 290 (4841369599423283200)) (List.mem_of_getElem? (l := wsX6_bitsOf) (i := 3) rfl)) dX6_bitsOf_49 ?_
              refine lv_dcmp hx hb dX6_bitsOf_52 ?_
              refine lv_if_ge (tgt := 79) hx hb dX6_bitsOf_53 (by decide) (fun c_53 => ?_) (fun c_53 => ?_)
              · have c_53 := cv_g_ge_t c_53
                have hE9 : bz_D c9 (e9 + j) ∨ j = 1074 := Or.inl (bz_D1 hG c_53)
                refine lv_dload_n hx hb dX6_bitsOf_79 rfl (lv_at hl 0 rfl) ?_
                refine lv_d2l hx hb dX6_bitsOf_80 ?_
                refine lv_lstore (lv' := [(5, .long (FP.d2l d9)), (2, .double d9), (4, .int (mS j)), (0, .double x)]) hx hb dX6_bitsOf_81 hl (by decide) rfl (fun ls hl => ?_)
                refine lv_lload hx hb dX6_bitsOf_83 (lv_at hl 0 rfl) ?_
                refine lv_ldc2 hx hb hown (hts (.constantLong RX6 292 (4503599627370496)) (List.mem_of_getElem? (l := wsX6_bitsOf) (i := 5) rfl)) dX6_bitsOf_85 ?_
                refine W.lcmp hx hb dX6_bitsOf_88 ?_
                refine lv_if_lt (tgt := 107) hx hb dX6_bitsOf_89 (by decide) (fun c_89 => ?_) (fun c_89 => ?_)
                · have c_89 := cv_lc_lt_t c_89
                  refine lv_dload_n hx hb dX6_bitsOf_107 rfl (lv_at hl 3 rfl) ?_
                  refine lv_dconst0 hx hb dX6_bitsOf_108 ?_
                  refine my_topd (w := 0) (by decide) ?_
                  refine lv_dcmp hx hb dX6_bitsOf_109 ?_
                  refine lv_if_ge (tgt := 122) hx hb dX6_bitsOf_110 (by decide) (fun c_110 => ?_) (fun c_110 => ?_)
                  · have c_110 := cv_g_ge_t c_110
                    refine lv_lload hx hb dX6_bitsOf_122 (lv_at hl 0 rfl) ?_
                    exact my_lretR hx hb hr hlocks (bz_r1 hn hm (bz_b1 hG hU cu hj hE9 c_89) c_110) dX6_bitsOf_124
                  · have c_110 := cv_g_ge_f c_110
                    refine lv_lload hx hb dX6_bitsOf_113 (lv_at hl 0 rfl) ?_
                    refine lv_ldc2 hx hb hown (hts (.constantLong RX6 294 (-9223372036854775808)) (List.mem_of_getElem? (l := wsX6_bitsOf) (i := 6) rfl)) dX6_bitsOf_115 ?_
                    refine lv_lor hx hb dX6_bitsOf_118 ?_
                    refine lv_goto (tgt := 124) hx hb dX6_bitsOf_119 (by decide) ?_
                    exact my_lretR hx hb hr hlocks (bz_r2 hn (bz_b1 hG hU cu hj hE9 c_89) c_110) dX6_bitsOf_124
                · have c_89 := cv_lc_lt_f c_89
                  refine lv_lload hx hb dX6_bitsOf_92 (lv_at hl 0 rfl) ?_
                  refine lv_iload hx hb dX6_bitsOf_94 (lv_at hl 2 rfl) ?_
                  refine lv_sipush (v := 1074) hx hb dX6_bitsOf_96 (by decide) ?_
                  refine my_iadd (w := nI (1074 - j)) hx hb dX6_bitsOf_99 (mS_add (k := 1074) (by omega) (by omega)) ?_
                  refine lv_i2l (v := (nI (1074 - j) : Int32).toInt64) hx hb dX6_bitsOf_100 rfl ?_
                  refine lv_bipush (v := 52) hx hb dX6_bitsOf_101 (by decide) ?_
                  refine lv_lshl (v := ((nI (1074 - j) : Int32).toInt64) <<< ((52 : Int32).toInt64 &&& 63)) hx hb dX6_bitsOf_103 rfl ?_
                  refine lv_ladd hx hb dX6_bitsOf_104 ?_
                  refine lv_lstore (lv' := [(5, .long ((FP.d2l d9) + (((nI (1074 - j) : Int32).toInt64) <<< ((52 : Int32).toInt64 &&& 63)))), (2, .double d9), (4, .int (mS j)), (0, .double x)]) hx hb dX6_bitsOf_105 hl (by decide) rfl (fun ls hl => ?_)
                  refine lv_dload_n hx hb dX6_bitsOf_107 rfl (lv_at hl 3 rfl) ?_
                  refine lv_dconst0 hx hb dX6_bitsOf_108 ?_
                  refine my_topd (w := 0) (by decide) ?_
                  refine lv_dcmp hx hb dX6_bitsOf_109 ?_
                  refine lv_if_ge (tgt := 122) hx hb dX6_bitsOf_110 (by decide) (fun c_110 => ?_) (fun c_110 => ?_)
                  · have c_110 := cv_g_ge_t c_110
                    refine lv_lload hx hb dX6_bitsOf_122 (lv_at hl 0 rfl) ?_
                    exact my_lretR hx hb hr hlocks (bz_r1 hn hm (bz_b2 hG hU cu hj (bz_mod x) c_89) c_110) dX6_bitsOf_124
                  · have c_110 := cv_g_ge_f c_110
                    refine lv_lload hx hb dX6_bitsOf_113 (lv_at hl 0 rfl) ?_
                    refine lv_ldc2 hx hb hown (hts (.constantLong RX6 294 (-9223372036854775808)) (List.mem_of_getElem? (l := wsX6_bitsOf) (i := 6) rfl)) dX6_bitsOf_115 ?_
                    refine lv_lor hx hb dX6_bitsOf_118 ?_
                    refine lv_goto (tgt := 124) hx hb dX6_bitsOf_119 (by decide) ?_
                    exact my_lretR hx hb hr hlocks (bz_r2 hn (bz_b2 hG hU cu hj (bz_mod x) c_89) c_110) dX6_bitsOf_124
              · have c_53 := cv_g_ge_f c_53
                refine lv_iload hx hb dX6_bitsOf_56 (lv_at hl 1 rfl) ?_
                refine lv_sipush (v := (-1074)) hx hb dX6_bitsOf_58 (by decide) ?_
                refine lv_icmp_le (tgt := 79) hx hb dX6_bitsOf_61 (by decide) (fun c_61 => ?_) (fun c_61 => ?_)
                · skip
                  have hE9 : bz_D c9 (e9 + j) ∨ j = 1074 := Or.inr (by rw [mS_1074, mS_le (by omega) (by omega)] at c_61; omega)
                  refine lv_dload_n hx hb dX6_bitsOf_79 rfl (lv_at hl 0 rfl) ?_
                  refine lv_d2l hx hb dX6_bitsOf_80 ?_
                  refine lv_lstore (lv' := [(5, .long (FP.d2l d9)), (2, .double d9), (4, .int (mS j)), (0, .double x)]) hx hb dX6_bitsOf_81 hl (by decide) rfl (fun ls hl => ?_)
                  refine lv_lload hx hb dX6_bitsOf_83 (lv_at hl 0 rfl) ?_
                  refine lv_ldc2 hx hb hown (hts (.constantLong RX6 292 (4503599627370496)) (List.mem_of_getElem? (l := wsX6_bitsOf) (i := 5) rfl)) dX6_bitsOf_85 ?_
                  refine W.lcmp hx hb dX6_bitsOf_88 ?_
                  refine lv_if_lt (tgt := 107) hx hb dX6_bitsOf_89 (by decide) (fun c_89 => ?_) (fun c_89 => ?_)
                  · have c_89 := cv_lc_lt_t c_89
                    refine lv_dload_n hx hb dX6_bitsOf_107 rfl (lv_at hl 3 rfl) ?_
                    refine lv_dconst0 hx hb dX6_bitsOf_108 ?_
                    refine my_topd (w := 0) (by decide) ?_
                    refine lv_dcmp hx hb dX6_bitsOf_109 ?_
                    refine lv_if_ge (tgt := 122) hx hb dX6_bitsOf_110 (by decide) (fun c_110 => ?_) (fun c_110 => ?_)
                    · have c_110 := cv_g_ge_t c_110
                      refine lv_lload hx hb dX6_bitsOf_122 (lv_at hl 0 rfl) ?_
                      exact my_lretR hx hb hr hlocks (bz_r1 hn hm (bz_b1 hG hU cu hj hE9 c_89) c_110) dX6_bitsOf_124
                    · have c_110 := cv_g_ge_f c_110
                      refine lv_lload hx hb dX6_bitsOf_113 (lv_at hl 0 rfl) ?_
                      refine lv_ldc2 hx hb hown (hts (.constantLong RX6 294 (-9223372036854775808)) (List.mem_of_getElem? (l := wsX6_bitsOf) (i := 6) rfl)) dX6_bitsOf_115 ?_
                      refine lv_lor hx hb dX6_bitsOf_118 ?_
                      refine lv_goto (tgt := 124) hx hb dX6_bitsOf_119 (by decide) ?_
                      exact my_lretR hx hb hr hlocks (bz_r2 hn (bz_b1 hG hU cu hj hE9 c_89) c_110) dX6_bitsOf_124
                  · have c_89 := cv_lc_lt_f c_89
                    refine lv_lload hx hb dX6_bitsOf_92 (lv_at hl 0 rfl) ?_
                    refine lv_iload hx hb dX6_bitsOf_94 (lv_at hl 2 rfl) ?_
                    refine lv_sipush (v := 1074) hx hb dX6_bitsOf_96 (by decide) ?_
                    refine my_iadd (w := nI (1074 - j)) hx hb dX6_bitsOf_99 (mS_add (k := 1074) (by omega) (by omega)) ?_
                    refine lv_i2l (v := (nI (1074 - j) : Int32).toInt64) hx hb dX6_bitsOf_100 rfl ?_
                    refine lv_bipush (v := 52) hx hb dX6_bitsOf_101 (by decide) ?_
                    refine lv_lshl (v := ((nI (1074 - j) : Int32).toInt64) <<< ((52 : Int32).toInt64 &&& 63)) hx hb dX6_bitsOf_103 rfl ?_
                    refine lv_ladd hx hb dX6_bitsOf_104 ?_
                    refine lv_lstore (lv' := [(5, .long ((FP.d2l d9) + (((nI (1074 - j) : Int32).toInt64) <<< ((52 : Int32).toInt64 &&& 63)))), (2, .double d9), (4, .int (mS j)), (0, .double x)]) hx hb dX6_bitsOf_105 hl (by decide) rfl (fun ls hl => ?_)
                    refine lv_dload_n hx hb dX6_bitsOf_107 rfl (lv_at hl 3 rfl) ?_
                    refine lv_dconst0 hx hb dX6_bitsOf_108 ?_
                    refine my_topd (w := 0) (by decide) ?_
                    refine lv_dcmp hx hb dX6_bitsOf_109 ?_
                    refine lv_if_ge (tgt := 122) hx hb dX6_bitsOf_110 (by decide) (fun c_110 => ?_) (fun c_110 => ?_)
                    · have c_110 := cv_g_ge_t c_110
                      refine lv_lload hx hb dX6_bitsOf_122 (lv_at hl 0 rfl) ?_
                      exact my_lretR hx hb hr hlocks (bz_r1 hn hm (bz_b2 hG hU cu hj (bz_mod x) c_89) c_110) dX6_bitsOf_124
                    · have c_110 := cv_g_ge_f c_110
                      refine lv_lload hx hb dX6_bitsOf_113 (lv_at hl 0 rfl) ?_
                      refine lv_ldc2 hx hb hown (hts (.constantLong RX6 294 (-9223372036854775808)) (List.mem_of_getElem? (l := wsX6_bitsOf) (i := 6) rfl)) dX6_bitsOf_115 ?_
                      refine lv_lor hx hb dX6_bitsOf_118 ?_
                      refine lv_goto (tgt := 124) hx hb dX6_bitsOf_119 (by decide) ?_
                      exact my_lretR hx hb hr hlocks (bz_r2 hn (bz_b2 hG hU cu hj (bz_mod x) c_89) c_110) dX6_bitsOf_124
                · skip
                  have hj9 : j ≤ 1073 := Nat.le_of_lt_succ (Nat.not_le.mp (fun h9 => c_61 (by rw [mS_1074, mS_le (by omega) (by omega)]; exact h9)))
                  refine lv_dload_n hx hb dX6_bitsOf_64 rfl (lv_at hl 0 rfl) ?_
                  refine lv_ldc2d hx hb hown (hts (.constantDouble RX6 219 (4611686018427387904)) (List.mem_of_getElem? (l := wsX6_bitsOf) (i := 4) rfl)) dX6_bitsOf_65 ?_
                  refine lv_dmul hx hb dX6_bitsOf_68 (fx_n64 (fx_G_n (bz_mul hG bz_1 c53 (by omega)))) ?_
                  refine lv_dstore_n (lv' := [(2, .double (FP.dmul d9 4611686018427387904)), (4, .int (mS j)), (0, .double x)]) hx hb dX6_bitsOf_69 rfl hl (by decide) rfl (fun ls hl => ?_)
                  refine lv_iload hx hb dX6_bitsOf_70 (lv_at hl 1 rfl) ?_
                  refine lv_iconst (v := 1) hx hb dX6_bitsOf_72 (by decide) ?_
                  refine my_isub (w := mS (j + 1)) hx hb dX6_bitsOf_73 (mS_sub 1 (by omega) (by omega)) ?_
                  refine lv_istore (lv' := [(4, .int (mS (j + 1))), (2, .double (FP.dmul d9 4611686018427387904)), (0, .double x)]) hx hb dX6_bitsOf_74 hl (by decide) rfl (fun ls hl => ?_)
                  refine lv_goto (tgt := 48) hx hb dX6_bitsOf_76 (by decide) ?_
                  exact ih_48 (FP.dmul d9 4611686018427387904) (j + 1) (by omega) (by rw [← Nat.add_assoc]; exact bz_mul hG bz_1 c53 (by omega)) (by rw [← Nat.add_assoc]; exact bz_U1 hG c_53) (by omega) _ (lv_sub hl [1, 0, 2] rfl)
          exact loop_48 _ d9 j (Nat.lt_succ_self _) (hG) (hU) (by omega) _ (lv_sub hl [0, 1, 2] rfl)
        · have c_21 := cv_g_ge_f c_21
          refine lv_iload hx hb dX6_bitsOf_24 (lv_at hl 1 rfl) ?_
          refine lv_sipush (v := (-1058)) hx hb dX6_bitsOf_26 (by decide) ?_
          refine lv_icmp_lt (tgt := 48) hx hb dX6_bitsOf_29 (by decide) (fun c_29 => ?_) (fun c_29 => ?_)
          · skip
            have loop_48 : ∀ (n9 : Nat) (d9 : UInt64) (j : Nat), 1100 - j < n9 → ∀ (hG : fx_G (e9 + j) (c9 : Int) d9) (hU : bz_U c9 (e9 + j)) (hj : j ≤ 1074) (ls : Array Slot) (hl : lv_has ls 7 [(2, .double d9), (4, .int (mS j)), (0, .double x)]), W p l e ({ frames := 1, cells := 0, slots := 0, locals := 21 }) s m ([.double x] : List Value).toArray below meth c s.heap [] 0 0 (my_RQ below ([.double x] : List Value).toArray s (some (.long (UInt64.toInt64 x)))) (F0 m 48 ls []) := by
              intro n9
              induction n9 with
              | zero => intro d9 j h9; exact absurd h9 (Nat.not_lt_zero _)
              | succ n9 ih_48 =>
                intro d9 j h9 hG hU hj ls hl
                have he := bz_e hU c0
                refine lv_dload_n hx hb dX6_bitsOf_48 rfl (lv_at hl 0 rfl) ?_
                refine lv_ldc2d hx hb hown (hts (.constantDouble RX6 290 (4841369599423283200)) (List.mem_of_getElem? (l := wsX6_bitsOf) (i := 3) rfl)) dX6_bitsOf_49 ?_
                refine lv_dcmp hx hb dX6_bitsOf_52 ?_
                refine lv_if_ge (tgt := 79) hx hb dX6_bitsOf_53 (by decide) (fun c_53 => ?_) (fun c_53 => ?_)
                · have c_53 := cv_g_ge_t c_53
                  have hE9 : bz_D c9 (e9 + j) ∨ j = 1074 := Or.inl (bz_D1 hG c_53)
                  refine lv_dload_n hx hb dX6_bitsOf_79 rfl (lv_at hl 0 rfl) ?_
                  refine lv_d2l hx hb dX6_bitsOf_80 ?_
                  refine lv_lstore (lv' := [(5, .long (FP.d2l d9)), (2, .double d9), (4, .int (mS j)), (0, .double x)]) hx hb dX6_bitsOf_81 hl (by decide) rfl (fun ls hl => ?_)
                  refine lv_lload hx hb dX6_bitsOf_83 (lv_at hl 0 rfl) ?_
                  refine lv_ldc2 hx hb hown (hts (.constantLong RX6 292 (4503599627370496)) (List.mem_of_getElem? (l := wsX6_bitsOf) (i := 5) rfl)) dX6_bitsOf_85 ?_
                  refine W.lcmp hx hb dX6_bitsOf_88 ?_
                  refine lv_if_lt (tgt := 107) hx hb dX6_bitsOf_89 (by decide) (fun c_89 => ?_) (fun c_89 => ?_)
                  · have c_89 := cv_lc_lt_t c_89
                    refine lv_dload_n hx hb dX6_bitsOf_107 rfl (lv_at hl 3 rfl) ?_
                    refine lv_dconst0 hx hb dX6_bitsOf_108 ?_
                    refine my_topd (w := 0) (by decide) ?_
                    refine lv_dcmp hx hb dX6_bitsOf_109 ?_
                    refine lv_if_ge (tgt := 122) hx hb dX6_bitsOf_110 (by decide) (fun c_110 => ?_) (fun c_110 => ?_)
                    · have c_110 := cv_g_ge_t c_110
                      refine lv_lload hx hb dX6_bitsOf_122 (lv_at hl 0 rfl) ?_
                      exact my_lretR hx hb hr hlocks (bz_r1 hn hm (bz_b1 hG hU cu hj hE9 c_89) c_110) dX6_bitsOf_124
                    · have c_110 := cv_g_ge_f c_110
                      refine lv_lload hx hb dX6_bitsOf_113 (lv_at hl 0 rfl) ?_
                      refine lv_ldc2 hx hb hown (hts (.constantLong RX6 294 (-9223372036854775808)) (List.mem_of_getElem? (l := wsX6_bitsOf) (i := 6) rfl)) dX6_bitsOf_115 ?_
                      refine lv_lor hx hb dX6_bitsOf_118 ?_
                      refine lv_goto (tgt := 124) hx hb dX6_bitsOf_119 (by decide) ?_
                      exact my_lretR hx hb hr hlocks (bz_r2 hn (bz_b1 hG hU cu hj hE9 c_89) c_110) dX6_bitsOf_124
                  · have c_89 := cv_lc_lt_f c_89
                    refine lv_lload hx hb dX6_bitsOf_92 (lv_at hl 0 rfl) ?_
                    refine lv_iload hx hb dX6_bitsOf_94 (lv_at hl 2 rfl) ?_
                    refine lv_sipush (v := 1074) hx hb dX6_bitsOf_96 (by decide) ?_
                    refine my_iadd (w := nI (1074 - j)) hx hb dX6_bitsOf_99 (mS_add (k := 1074) (by omega) (by omega)) ?_
                    refine lv_i2l (v := (nI (1074 - j) : Int32).toInt64) hx hb dX6_bitsOf_100 rfl ?_
                    refine lv_bipush (v := 52) hx hb dX6_bitsOf_101 (by decide) ?_
                    refine lv_lshl (v := ((nI (1074 - j) : Int32).toInt64) <<< ((52 : Int32).toInt64 &&& 63)) hx hb dX6_bitsOf_103 rfl ?_
                    refine lv_ladd hx hb dX6_bitsOf_104 ?_
                    refine lv_lstore (lv' := [(5, .long ((FP.d2l d9) + (((nI (1074 - j) : Int32).toInt64) <<< ((52 : Int32).toInt64 &&& 63)))), (2, .double d9), (4, .int (mS j)), (0, .double x)]) hx hb dX6_bitsOf_105 hl (by decide) rfl (fun ls hl => ?_)
                    refine lv_dload_n hx hb dX6_bitsOf_107 rfl (lv_at hl 3 rfl) ?_
                    refine lv_dconst0 hx hb dX6_bitsOf_108 ?_
                    refine my_topd (w := 0) (by decide) ?_
                    refine lv_dcmp hx hb dX6_bitsOf_109 ?_
                    refine lv_if_ge (tgt := 122) hx hb dX6_bitsOf_110 (by decide) (fun c_110 => ?_) (fun c_110 => ?_)
                    · have c_110 := cv_g_ge_t c_110
                      refine lv_lload hx hb dX6_bitsOf_122 (lv_at hl 0 rfl) ?_
                      exact my_lretR hx hb hr hlocks (bz_r1 hn hm (bz_b2 hG hU cu hj (bz_mod x) c_89) c_110) dX6_bitsOf_124
                    · have c_110 := cv_g_ge_f c_110
                      refine lv_lload hx hb dX6_bitsOf_113 (lv_at hl 0 rfl) ?_
                      refine lv_ldc2 hx hb hown (hts (.constantLong RX6 294 (-9223372036854775808)) (List.mem_of_getElem? (l := wsX6_bitsOf) (i := 6) rfl)) dX6_bitsOf_115 ?_
                      refine lv_lor hx hb dX6_bitsOf_118 ?_
                      refine lv_goto (tgt := 124) hx hb dX6_bitsOf_119 (by decide) ?_
                      exact my_lretR hx hb hr hlocks (bz_r2 hn (bz_b2 hG hU cu hj (bz_mod x) c_89) c_110) dX6_bitsOf_124
                · have c_53 := cv_g_ge_f c_53
                  refine lv_iload hx hb dX6_bitsOf_56 (lv_at hl 1 rfl) ?_
                  refine lv_sipush (v := (-1074)) hx hb dX6_bitsOf_58 (by decide) ?_
                  refine lv_icmp_le (tgt := 79) hx hb dX6_bitsOf_61 (by decide) (fun c_61 => ?_) (fun c_61 => ?_)
                  · skip
                    have hE9 : bz_D c9 (e9 + j) ∨ j = 1074 := Or.inr (by rw [mS_1074, mS_le (by omega) (by omega)] at c_61; omega)
                    refine lv_dload_n hx hb dX6_bitsOf_79 rfl (lv_at hl 0 rfl) ?_
                    refine lv_d2l hx hb dX6_bitsOf_80 ?_
                    refine lv_lstore (lv' := [(5, .long (FP.d2l d9)), (2, .double d9), (4, .int (mS j)), (0, .double x)]) hx hb dX6_bitsOf_81 hl (by decide) rfl (fun ls hl => ?_)
                    refine lv_lload hx hb dX6_bitsOf_83 (lv_at hl 0 rfl) ?_
                    refine lv_ldc2 hx hb hown (hts (.constantLong RX6 292 (4503599627370496)) (List.mem_of_getElem? (l := wsX6_bitsOf) (i := 5) rfl)) dX6_bitsOf_85 ?_
                    refine W.lcmp hx hb dX6_bitsOf_88 ?_
                    refine lv_if_lt (tgt := 107) hx hb dX6_bitsOf_89 (by decide) (fun c_89 => ?_) (fun c_89 => ?_)
                    · have c_89 := cv_lc_lt_t c_89
                      refine lv_dload_n hx hb dX6_bitsOf_107 rfl (lv_at hl 3 rfl) ?_
                      refine lv_dconst0 hx hb dX6_bitsOf_108 ?_
                      refine my_topd (w := 0) (by decide) ?_
                      refine lv_dcmp hx hb dX6_bitsOf_109 ?_
                      refine lv_if_ge (tgt := 122) hx hb dX6_bitsOf_110 (by decide) (fun c_110 => ?_) (fun c_110 => ?_)
                      · have c_110 := cv_g_ge_t c_110
                        refine lv_lload hx hb dX6_bitsOf_122 (lv_at hl 0 rfl) ?_
                        exact my_lretR hx hb hr hlocks (bz_r1 hn hm (bz_b1 hG hU cu hj hE9 c_89) c_110) dX6_bitsOf_124
                      · have c_110 := cv_g_ge_f c_110
                        refine lv_lload hx hb dX6_bitsOf_113 (lv_at hl 0 rfl) ?_
                        refine lv_ldc2 hx hb hown (hts (.constantLong RX6 294 (-9223372036854775808)) (List.mem_of_getElem? (l := wsX6_bitsOf) (i := 6) rfl)) dX6_bitsOf_115 ?_
                        refine lv_lor hx hb dX6_bitsOf_118 ?_
                        refine lv_goto (tgt := 124) hx hb dX6_bitsOf_119 (by decide) ?_
                        exact my_lretR hx hb hr hlocks (bz_r2 hn (bz_b1 hG hU cu hj hE9 c_89) c_110) dX6_bitsOf_124
                    · have c_89 := cv_lc_lt_f c_89
                      refine lv_lload hx hb dX6_bitsOf_92 (lv_at hl 0 rfl) ?_
                      refine lv_iload hx hb dX6_bitsOf_94 (lv_at hl 2 rfl) ?_
                      refine lv_sipush (v := 1074) hx hb dX6_bitsOf_96 (by decide) ?_
                      refine my_iadd (w := nI (1074 - j)) hx hb dX6_bitsOf_99 (mS_add (k := 1074) (by omega) (by omega)) ?_
                      refine lv_i2l (v := (nI (1074 - j) : Int32).toInt64) hx hb dX6_bitsOf_100 rfl ?_
                      refine lv_bipush (v := 52) hx hb dX6_bitsOf_101 (by decide) ?_
                      refine lv_lshl (v := ((nI (1074 - j) : Int32).toInt64) <<< ((52 : Int32).toInt64 &&& 63)) hx hb dX6_bitsOf_103 rfl ?_
                      refine lv_ladd hx hb dX6_bitsOf_104 ?_
                      refine lv_lstore (lv' := [(5, .long ((FP.d2l d9) + (((nI (1074 - j) : Int32).toInt64) <<< ((52 : Int32).toInt64 &&& 63)))), (2, .double d9), (4, .int (mS j)), (0, .double x)]) hx hb dX6_bitsOf_105 hl (by decide) rfl (fun ls hl => ?_)
                      refine lv_dload_n hx hb dX6_bitsOf_107 rfl (lv_at hl 3 rfl) ?_
                      refine lv_dconst0 hx hb dX6_bitsOf_108 ?_
                      refine my_topd (w := 0) (by decide) ?_
                      refine lv_dcmp hx hb dX6_bitsOf_109 ?_
                      refine lv_if_ge (tgt := 122) hx hb dX6_bitsOf_110 (by decide) (fun c_110 => ?_) (fun c_110 => ?_)
                      · have c_110 := cv_g_ge_t c_110
                        refine lv_lload hx hb dX6_bitsOf_122 (lv_at hl 0 rfl) ?_
                        exact my_lretR hx hb hr hlocks (bz_r1 hn hm (bz_b2 hG hU cu hj (bz_mod x) c_89) c_110) dX6_bitsOf_124
                      · have c_110 := cv_g_ge_f c_110
                        refine lv_lload hx hb dX6_bitsOf_113 (lv_at hl 0 rfl) ?_
                        refine lv_ldc2 hx hb hown (hts (.constantLong RX6 294 (-9223372036854775808)) (List.mem_of_getElem? (l := wsX6_bitsOf) (i := 6) rfl)) dX6_bitsOf_115 ?_
                        refine lv_lor hx hb dX6_bitsOf_118 ?_
                        refine lv_goto (tgt := 124) hx hb dX6_bitsOf_119 (by decide) ?_
                        exact my_lretR hx hb hr hlocks (bz_r2 hn (bz_b2 hG hU cu hj (bz_mod x) c_89) c_110) dX6_bitsOf_124
                  · skip
                    have hj9 : j ≤ 1073 := Nat.le_of_lt_succ (Nat.not_le.mp (fun h9 => c_61 (by rw [mS_1074, mS_le (by omega) (by omega)]; exact h9)))
                    refine lv_dload_n hx hb dX6_bitsOf_64 rfl (lv_at hl 0 rfl) ?_
                    refine lv_ldc2d hx hb hown (hts (.constantDouble RX6 219 (4611686018427387904)) (List.mem_of_getElem? (l := wsX6_bitsOf) (i := 4) rfl)) dX6_bitsOf_65 ?_
                    refine lv_dmul hx hb dX6_bitsOf_68 (fx_n64 (fx_G_n (bz_mul hG bz_1 c53 (by omega)))) ?_
                    refine lv_dstore_n (lv' := [(2, .double (FP.dmul d9 4611686018427387904)), (4, .int (mS j)), (0, .double x)]) hx hb dX6_bitsOf_69 rfl hl (by decide) rfl (fun ls hl => ?_)
                    refine lv_iload hx hb dX6_bitsOf_70 (lv_at hl 1 rfl) ?_
                    refine lv_iconst (v := 1) hx hb dX6_bitsOf_72 (by decide) ?_
                    refine my_isub (w := mS (j + 1)) hx hb dX6_bitsOf_73 (mS_sub 1 (by omega) (by omega)) ?_
                    refine lv_istore (lv' := [(4, .int (mS (j + 1))), (2, .double (FP.dmul d9 4611686018427387904)), (0, .double x)]) hx hb dX6_bitsOf_74 hl (by decide) rfl (fun ls hl => ?_)
                    refine lv_goto (tgt := 48) hx hb dX6_bitsOf_76 (by decide) ?_
                    exact ih_48 (FP.dmul d9 4611686018427387904) (j + 1) (by omega) (by rw [← Nat.add_assoc]; exact bz_mul hG bz_1 c53 (by omega)) (by rw [← Nat.add_assoc]; exact bz_U1 hG c_53) (by omega) _ (lv_sub hl [1, 0, 2] rfl)
            exact loop_48 _ d9 j (Nat.lt_succ_self _) (hG) (hU) (by omega) _ (lv_sub hl [0, 1, 2] rfl)
          · skip
            have hj9 : j ≤ 1058 := Nat.not_lt.mp (fun h9 => c_29 (by rw [mS_1058, mS_lt (by omega) (by omega)]; exact h9))
            refine lv_dload_n hx hb dX6_bitsOf_32 rfl (lv_at hl 0 rfl) ?_
            refine lv_ldc2d hx hb hown (hts (.constantDouble RX6 288 (4679240012837945344)) (List.mem_of_getElem? (l := wsX6_bitsOf) (i := 2) rfl)) dX6_bitsOf_33 ?_
            refine lv_dmul hx hb dX6_bitsOf_36 (fx_n64 (fx_G_n (bz_mul hG bz_16 c53 (by omega)))) ?_
            refine lv_dstore_n (lv' := [(2, .double (FP.dmul d9 4679240012837945344)), (4, .int (mS j)), (0, .double x)]) hx hb dX6_bitsOf_37 rfl hl (by decide) rfl (fun ls hl => ?_)
            refine lv_iload hx hb dX6_bitsOf_38 (lv_at hl 1 rfl) ?_
            refine lv_bipush (v := 16) hx hb dX6_bitsOf_40 (by decide) ?_
            refine my_isub (w := mS (j + 16)) hx hb dX6_bitsOf_42 (mS_sub 16 (by omega) (by omega)) ?_
            refine lv_istore (lv' := [(4, .int (mS (j + 16))), (2, .double (FP.dmul d9 4679240012837945344)), (0, .double x)]) hx hb dX6_bitsOf_43 hl (by decide) rfl (fun ls hl => ?_)
            refine lv_goto (tgt := 16) hx hb dX6_bitsOf_45 (by decide) ?_
            exact ih_16 (FP.dmul d9 4679240012837945344) (j + 16) (by omega) (by rw [← Nat.add_assoc]; exact bz_mul hG bz_16 c53 (by omega)) (by rw [← Nat.add_assoc]; exact bz_U16 hG c_21) (by omega) _ (lv_sub hl [1, 0, 2] rfl)
    exact loop_16 _ (s_mg x) 0 (Nat.lt_succ_self _) (g0) (bz_U0 cb) (by omega) _ (lv_sub hl [1, 0, 2] rfl)
  · have c_3 := cv_l_eq_t c_3
    refine lv_lconst (v := 0) hx hb dX6_bitsOf_6 (by decide) ?_
    exact my_lretR hx hb hr hlocks (by rw [show x = 0 from fx_inj (by rw [fx_k0]; exact (fx_eq0 hn).mp c_3) hm (by unfold fx_m; decide)]; rfl) dX6_bitsOf_7

theorem iw_X6_layKnotsOf_X6 : ∀ w ∈ wsX60, w ∈ wsX6_layKnotsOf := fun w h => List.mem_cons_of_mem _ (List.mem_append_left _ (List.mem_append_left _ (List.mem_append_left _ (List.mem_append_left _ (List.mem_append_right _ (h))))))
theorem iw_X6_layKnotsOf_X1 : ∀ w ∈ wsX10, w ∈ wsX6_layKnotsOf := fun w h => List.mem_cons_of_mem _ (List.mem_append_left _ (List.mem_append_left _ (List.mem_append_left _ (List.mem_append_right _ (h)))))
theorem iw_X6_layKnotsOf_X3 : ∀ w ∈ wsX30, w ∈ wsX6_layKnotsOf := fun w h => List.mem_cons_of_mem _ (List.mem_append_left _ (List.mem_append_left _ (List.mem_append_right _ (h))))
set_option maxHeartbeats 4000000 in
set_option maxRecDepth 100000 in
theorem kk_X6_layKnotsOf (l : Launch) (D : va_G) (kd ki kz kl : ClassId) (z : Nat) (ad : Nat → Nat) (n : Nat) (X : Nat → UInt64) (bc : Nat) (BW : Nat → UInt64) (BS : Nat → UInt64) (BZ : Nat → Int32) (kn : Nat) (P : Nat → UInt64) (V : Nat → UInt64) (F : Nat → UInt64) (b : Nat) (zz : Nat) (hb9 : b < 40) (hzz : BZ b = nI zz) (hlz : ¬ sp_eq (BW b) 0) (hln : fx_n (s_lev BW BS b)) (hkz : kn + zz ≤ 40) : my_WR l D kd ki kz kl z yX6_layKnotsOf wsX6_layKnotsOf ({ frames := 3, cells := 0, slots := 0, locals := 75 }) [.ref (ad 0), .int (nI b)] [(ad 0, .inr (6, [.ref (ad 1), .ref (ad 8), .ref (ad 14), .ref (ad 21), .ref (ad 22), .ref (ad 23)])), (ad 1, .inr (3, [.ref (ad 2), .ref (ad 4), .ref (ad 6), .int (nI n)])), (ad 2, .inr (4, [.ref (ad 3)])), (ad 3, .inl (kd, 40, .inr (.inr (.inr (.inl X))))), (ad 8, .inr (0, [.ref (ad 9), .ref (ad 11), .ref (ad 13), .int (nI bc)])), (ad 9, .inr (4, [.ref (ad 10)])), (ad 10, .inl (kd, 40, .inr (.inr (.inr (.inl BW))))), (ad 11, .inr (4, [.ref (ad 12)])), (ad 12, .inl (kd, 40, .inr (.inr (.inr (.inl BS))))), (ad 13, .inl (ki, 40, .inl BZ)), (ad 14, .inr (1, [.ref (ad 15), .ref (ad 17), .ref (ad 19), .int (nI kn)])), (ad 15, .inr (4, [.ref (ad 16)])), (ad 16, .inl (kd, 60, .inr (.inr (.inr (.inl P))))), (ad 17, .inr (4, [.ref (ad 18)])), (ad 18, .inl (kd, 60, .inr (.inr (.inr (.inl V))))), (ad 19, .inr (4, [.ref (ad 20)])), (ad 20, .inl (kd, 60, .inr (.inr (.inr (.inl F)))))] [(ad 0, .inr (6, [.ref (ad 1), .ref (ad 8), .ref (ad 14), .ref (ad 21), .ref (ad 22), .ref (ad 23)])), (ad 1, .inr (3, [.ref (ad 2), .ref (ad 4), .ref (ad 6), .int (nI n)])), (ad 2, .inr (4, [.ref (ad 3)])), (ad 3, .inl (kd, 40, .inr (.inr (.inr (.inl X))))), (ad 8, .inr (0, [.ref (ad 9), .ref (ad 11), .ref (ad 13), .int (nI bc)])), (ad 9, .inr (4, [.ref (ad 10)])), (ad 10, .inl (kd, 40, .inr (.inr (.inr (.inl BW))))), (ad 11, .inr (4, [.ref (ad 12)])), (ad 12, .inl (kd, 40, .inr (.inr (.inr (.inl BS))))), (ad 13, .inl (ki, 40, .inl BZ)), (ad 14, .inr (1, [.ref (ad 15), .ref (ad 17), .ref (ad 19), .int (nI (kn + zz))])), (ad 15, .inr (4, [.ref (ad 16)])), (ad 16, .inl (kd, 60, .inr (.inr (.inr (.inl (s_lay P X kn (kn + zz))))))), (ad 17, .inr (4, [.ref (ad 18)])), (ad 18, .inl (kd, 60, .inr (.inr (.inr (.inl (s_lay V (fun _ => s_lev BW BS b) kn (kn + zz))))))), (ad 19, .inr (4, [.ref (ad 20)])), (ad 20, .inl (kd, 60, .inr (.inr (.inr (.inl (s_lay F (fun _ => 13830554455654793216) kn (kn + zz)))))))] none := by
  refine my_WR_of (cc := cX6_layKnotsOf) (maxL := 6) (ret := none) (by decide) rfl (Nat.le_of_ble_eq_true rfl) ?_
  intro p e s m below meth c S hr hlocks hC hP hD hz hS ls hl
  have S : CallFix p m c cX6_layKnotsOf 6 s ([.ref (ad 0), .int (nI b)] : List Value).toArray wsX6_layKnotsOf RX6 := S
  obtain ⟨hx, hb, hml, hown, hts⟩ := id S
  have hl : lv_has ls 6 [(0, .ref (ad 0)), (1, .int (nI b))] := hl
  suffices K0 : ∀ (H : Heap) (locs : List Loc), va_P D vwCl [(ad 0, .inr (6, [.ref (ad 1), .ref (ad 8), .ref (ad 14), .ref (ad 21), .ref (ad 22), .ref (ad 23)])), (ad 1, .inr (3, [.ref (ad 2), .ref (ad 4), .ref (ad 6), .int (nI n)])), (ad 2, .inr (4, [.ref (ad 3)])), (ad 3, .inl (kd, 40, .inr (.inr (.inr (.inl X))))), (ad 8, .inr (0, [.ref (ad 9), .ref (ad 11), .ref (ad 13), .int (nI bc)])), (ad 9, .inr (4, [.ref (ad 10)])), (ad 10, .inl (kd, 40, .inr (.inr (.inr (.inl BW))))), (ad 11, .inr (4, [.ref (ad 12)])), (ad 12, .inl (kd, 40, .inr (.inr (.inr (.inl BS))))), (ad 13, .inl (ki, 40, .inl BZ)), (ad 14, .inr (1, [.ref (ad 15), .ref (ad 17), .ref (ad 19), .int (nI kn)])), (ad 15, .inr (4, [.ref (ad 16)])), (ad 16, .inl (kd, 60, .inr (.inr (.inr (.inl P))))), (ad 17, .inr (4, [.ref (ad 18)])), (ad 18, .inl (kd, 60, .inr (.inr (.inr (.inl V))))), (ad 19, .inr (4, [.ref (ad 20)])), (ad 20, .inl (kd, 60, .inr (.inr (.inr (.inl F)))))] H → va_D (my_A [(ad 0, .inr (6, [.ref (ad 1), .ref (ad 8), .ref (ad 14), .ref (ad 21), .ref (ad 22), .ref (ad 23)])), (ad 1, .inr (3, [.ref (ad 2), .ref (ad 4), .ref (ad 6), .int (nI n)])), (ad 2, .inr (4, [.ref (ad 3)])), (ad 3, .inl (kd, 40, .inr (.inr (.inr (.inl X))))), (ad 8, .inr (0, [.ref (ad 9), .ref (ad 11), .ref (ad 13), .int (nI bc)])), (ad 9, .inr (4, [.ref (ad 10)])), (ad 10, .inl (kd, 40, .inr (.inr (.inr (.inl BW))))), (ad 11, .inr (4, [.ref (ad 12)])), (ad 12, .inl (kd, 40, .inr (.inr (.inr (.inl BS))))), (ad 13, .inl (ki, 40, .inl BZ)), (ad 14, .inr (1, [.ref (ad 15), .ref (ad 17), .ref (ad 19), .int (nI kn)])), (ad 15, .inr (4, [.ref (ad 16)])), (ad 16, .inl (kd, 60, .inr (.inr (.inr (.inl P))))), (ad 17, .inr (4, [.ref (ad 18)])), (ad 18, .inl (kd, 60, .inr (.inr (.inr (.inl V))))), (ad 19, .inr (4, [.ref (ad 20)])), (ad 20, .inl (kd, 60, .inr (.inr (.inr (.inl F)))))]) [(ad 0, .inr (6, [.ref (ad 1), .ref (ad 8), .ref (ad 14), .ref (ad 21), .ref (ad 22), .ref (ad 23)])), (ad 1, .inr (3, [.ref (ad 2), .ref (ad 4), .ref (ad 6), .int (nI n)])), (ad 2, .inr (4, [.ref (ad 3)])), (ad 3, .inl (kd, 40, .inr (.inr (.inr (.inl X))))), (ad 8, .inr (0, [.ref (ad 9), .ref (ad 11), .ref (ad 13), .int (nI bc)])), (ad 9, .inr (4, [.ref (ad 10)])), (ad 10, .inl (kd, 40, .inr (.inr (.inr (.inl BW))))), (ad 11, .inr (4, [.ref (ad 12)])), (ad 12, .inl (kd, 40, .inr (.inr (.inr (.inl BS))))), (ad 13, .inl (ki, 40, .inl BZ)), (ad 14, .inr (1, [.ref (ad 15), .ref (ad 17), .ref (ad 19), .int (nI kn)])), (ad 15, .inr (4, [.ref (ad 16)])), (ad 16, .inl (kd, 60, .inr (.inr (.inr (.inl P))))), (ad 17, .inr (4, [.ref (ad 18)])), (ad 18, .inl (kd, 60, .inr (.inr (.inr (.inl V))))), (ad 19, .inr (4, [.ref (ad 20)])), (ad 20, .inl (kd, 60, .inr (.inr (.inr (.inl F)))))] → va_S (my_A [(ad 0, .inr (6, [.ref (ad 1), .ref (ad 8), .ref (ad 14), .ref (ad 21), .ref (ad 22), .ref (ad 23)])), (ad 1, .inr (3, [.ref (ad 2), .ref (ad 4), .ref (ad 6), .int (nI n)])), (ad 2, .inr (4, [.ref (ad 3)])), (ad 3, .inl (kd, 40, .inr (.inr (.inr (.inl X))))), (ad 8, .inr (0, [.ref (ad 9), .ref (ad 11), .ref (ad 13), .int (nI bc)])), (ad 9, .inr (4, [.ref (ad 10)])), (ad 10, .inl (kd, 40, .inr (.inr (.inr (.inl BW))))), (ad 11, .inr (4, [.ref (ad 12)])), (ad 12, .inl (kd, 40, .inr (.inr (.inr (.inl BS))))), (ad 13, .inl (ki, 40, .inl BZ)), (ad 14, .inr (1, [.ref (ad 15), .ref (ad 17), .ref (ad 19), .int (nI kn)])), (ad 15, .inr (4, [.ref (ad 16)])), (ad 16, .inl (kd, 60, .inr (.inr (.inr (.inl P))))), (ad 17, .inr (4, [.ref (ad 18)])), (ad 18, .inl (kd, 60, .inr (.inr (.inr (.inl V))))), (ad 19, .inr (4, [.ref (ad 20)])), (ad 20, .inl (kd, 60, .inr (.inr (.inr (.inl F)))))]) s.heap H locs → W p l e ({ frames := 3, cells := 0, slots := 0, locals := 75 }) s m ([.ref (ad 0), .int (nI b)] : List Value).toArray below meth c H locs 0 0 (my_WQ below D ([.ref (ad 0), .int (nI b)] : List Value).toArray s [(ad 0, .inr (6, [.ref (ad 1), .ref (ad 8), .ref (ad 14), .ref (ad 21), .ref (ad 22), .ref (ad 23)])), (ad 1, .inr (3, [.ref (ad 2), .ref (ad 4), .ref (ad 6), .int (nI n)])), (ad 2, .inr (4, [.ref (ad 3)])), (ad 3, .inl (kd, 40, .inr (.inr (.inr (.inl X))))), (ad 8, .inr (0, [.ref (ad 9), .ref (ad 11), .ref (ad 13), .int (nI bc)])), (ad 9, .inr (4, [.ref (ad 10)])), (ad 10, .inl (kd, 40, .inr (.inr (.inr (.inl BW))))), (ad 11, .inr (4, [.ref (ad 12)])), (ad 12, .inl (kd, 40, .inr (.inr (.inr (.inl BS))))), (ad 13, .inl (ki, 40, .inl BZ)), (ad 14, .inr (1, [.ref (ad 15), .ref (ad 17), .ref (ad 19), .int (nI kn)])), (ad 15, .inr (4, [.ref (ad 16)])), (ad 16, .inl (kd, 60, .inr (.inr (.inr (.inl P))))), (ad 17, .inr (4, [.ref (ad 18)])), (ad 18, .inl (kd, 60, .inr (.inr (.inr (.inl V))))), (ad 19, .inr (4, [.ref (ad 20)])), (ad 20, .inl (kd, 60, .inr (.inr (.inr (.inl F)))))] [(ad 0, .inr (6, [.ref (ad 1), .ref (ad 8), .ref (ad 14), .ref (ad 21), .ref (ad 22), .ref (ad 23)])), (ad 1, .inr (3, [.ref (ad 2), .ref (ad 4), .ref (ad 6), .int (nI n)])), (ad 2, .inr (4, [.ref (ad 3)])), (ad 3, .inl (kd, 40, .inr (.inr (.inr (.inl X))))), (ad 8, .inr (0, [.ref (ad 9), .ref (ad 11), .ref (ad 13), .int (nI bc)])), (ad 9, .inr (4, [.ref (ad 10)])), (ad 10, .inl (kd, 40, .inr (.inr (.inr (.inl BW))))), (ad 11, .inr (4, [.ref (ad 12)])), (ad 12, .inl (kd, 40, .inr (.inr (.inr (.inl BS))))), (ad 13, .inl (ki, 40, .inl BZ)), (ad 14, .inr (1, [.ref (ad 15), .ref (ad 17), .ref (ad 19), .int (nI (kn + zz))])), (ad 15, .inr (4, [.ref (ad 16)])), (ad 16, .inl (kd, 60, .inr (.inr (.inr (.inl (s_lay P X kn (kn + zz))))))), (ad 17, .inr (4, [.ref (ad 18)])), (ad 18, .inl (kd, 60, .inr (.inr (.inr (.inl (s_lay V (fun _ => s_lev BW BS b) kn (kn + zz))))))), (ad 19, .inr (4, [.ref (ad 20)])), (ad 20, .inl (kd, 60, .inr (.inr (.inr (.inl (s_lay F (fun _ => 13830554455654793216) kn (kn + zz)))))))] none) (F0 m 0 ls []) from K0 _ _ hP hD hS
  intro H locs hP hD hS
  refine lv_aload_n hx hb dX6_layKnotsOf_0 rfl (lv_at hl 0 rfl) ?_
  refine va_get (D := D) (ci := 6) (v := .ref (ad 8)) (C := RX6) (T := TX6) (N := 6) hx hb hts iw_X6_layKnotsOf_X6 hown hC.1 hP 0 rfl rfl 1 (by decide) (hts (.fieldLink RX6 19 "MonotoneSpline" "blocks" "LMonotoneSpline$Blocks;") (List.mem_of_getElem? (l := wsX6_layKnotsOf) (i := 1) rfl)) (fun _ h9 => h9) rfl dX6_layKnotsOf_1 ?_
  refine lv_iload_n hx hb dX6_layKnotsOf_4 rfl (lv_at hl 1 rfl) ?_
  refine my_goR (v := (some (.double (s_lev BW BS b)))) (my_runV (bytes := cX0_levelOf) (maxL := 2) (ret := (some .double)) (n := 1) (As := [.int (nI b)]) (rest := []) S hl.1 (kk_X0_levelOf l D kd ki kz kl z ad bc BW BS b (by omega) (hlz) (hln)) rfl ⟨rfl, rfl⟩ gX6_layKnotsOf_X0_levelOf (by decide +kernel) rfl ⟨Nat.le_of_ble_eq_true rfl, Nat.le_of_ble_eq_true rfl⟩ (my_preR (my_C_S hC hS hz) (my_P_sub (wc := [(ad 8, .inr (0, [.ref (ad 9), .ref (ad 11), .ref (ad 13), .int (nI bc)])), (ad 9, .inr (4, [.ref (ad 10)])), (ad 10, .inl (kd, 40, .inr (.inr (.inr (.inl BW))))), (ad 11, .inr (4, [.ref (ad 12)])), (ad 12, .inl (kd, 40, .inr (.inr (.inr (.inl BS)))))]) hP [4, 5, 6, 7, 8] rfl)) (va_recv hC.1 hP (ci := 0) (q0 := 4) rfl rfl) rfl rfl dX6_layKnotsOf_5) ?_
  refine W.eq (g2 := F0 m 8 ls [.double (s_lev BW BS b)]) rfl ?_
  refine lv_dstore_n (lv' := [(2, .double (s_lev BW BS b)), (0, .ref (ad 0)), (1, .int (nI b))]) hx hb dX6_layKnotsOf_8 rfl hl (by decide) rfl (fun ls hl => ?_)
  refine lv_aload_n hx hb dX6_layKnotsOf_9 rfl (lv_at hl 1 rfl) ?_
  refine va_get (D := D) (ci := 6) (v := .ref (ad 8)) (C := RX6) (T := TX6) (N := 6) hx hb hts iw_X6_layKnotsOf_X6 hown hC.1 hP 0 rfl rfl 1 (by decide) (hts (.fieldLink RX6 19 "MonotoneSpline" "blocks" "LMonotoneSpline$Blocks;") (List.mem_of_getElem? (l := wsX6_layKnotsOf) (i := 1) rfl)) (fun _ h9 => h9) rfl dX6_layKnotsOf_10 ?_
  refine lv_iload_n hx hb dX6_layKnotsOf_13 rfl (lv_at hl 2 rfl) ?_
  refine my_goR (v := (some (.int (BZ b)))) (my_runV (bytes := cX0_sizeOf) (maxL := 2) (ret := (some .int)) (n := 1) (As := [.int (nI b)]) (rest := []) S hl.1 (kk_X0_sizeOf l D kd ki kz kl z ad bc BZ b (by omega)) rfl ⟨rfl, rfl⟩ gX6_layKnotsOf_X0_sizeOf (by decide +kernel) rfl ⟨Nat.le_of_ble_eq_true rfl, Nat.le_of_ble_eq_true rfl⟩ (my_preR (my_C_S hC hS hz) (my_P_sub (wc := [(ad 8, .inr (0, [.ref (ad 9), .ref (ad 11), .ref (ad 13), .int (nI bc)])), (ad 13, .inl (ki, 40, .inl BZ))]) hP [4, 9] rfl)) (va_recv hC.1 hP (ci := 0) (q0 := 4) rfl rfl) rfl rfl dX6_layKnotsOf_14) ?_
  refine W.eq (g2 := F0 m 17 ls [.int (BZ b)]) rfl ?_
  refine my_topi (w := nI zz) (hzz) ?_
  refine lv_istore (lv' := [(4, .int (nI zz)), (2, .double (s_lev BW BS b)), (0, .ref (ad 0)), (1, .int (nI b))]) hx hb dX6_layKnotsOf_17 hl (by decide) rfl (fun ls hl => ?_)
  refine lv_iconst (v := 0) hx hb dX6_layKnotsOf_19 (by decide) ?_
  refine lv_istore (lv' := [(5, .int 0), (4, .int (nI zz)), (2, .double (s_lev BW BS b)), (0, .ref (ad 0)), (1, .int (nI b))]) hx hb dX6_layKnotsOf_20 hl (by decide) rfl (fun ls hl => ?_)
  have loop_22 : ∀ (n9 : Nat) (j : Nat) (k9 : Nat) (P9 : Nat → UInt64) (V9 : Nat → UInt64) (F9 : Nat → UInt64), zz - j < n9 → ∀ (hj : j ≤ zz) (hk9 : k9 = kn + j) (hP9 : P9 = s_lay P X kn (kn + j)) (hV9 : V9 = s_lay V (fun _ => s_lev BW BS b) kn (kn + j)) (hF9 : F9 = s_lay F (fun _ => 13830554455654793216) kn (kn + j)) (H : Heap) (locs : List Loc) (hP : va_P D vwCl [(ad 0, .inr (6, [.ref (ad 1), .ref (ad 8), .ref (ad 14), .ref (ad 21), .ref (ad 22), .ref (ad 23)])), (ad 1, .inr (3, [.ref (ad 2), .ref (ad 4), .ref (ad 6), .int (nI n)])), (ad 2, .inr (4, [.ref (ad 3)])), (ad 3, .inl (kd, 40, .inr (.inr (.inr (.inl X))))), (ad 8, .inr (0, [.ref (ad 9), .ref (ad 11), .ref (ad 13), .int (nI bc)])), (ad 9, .inr (4, [.ref (ad 10)])), (ad 10, .inl (kd, 40, .inr (.inr (.inr (.inl BW))))), (ad 11, .inr (4, [.ref (ad 12)])), (ad 12, .inl (kd, 40, .inr (.inr (.inr (.inl BS))))), (ad 13, .inl (ki, 40, .inl BZ)), (ad 14, .inr (1, [.ref (ad 15), .ref (ad 17), .ref (ad 19), .int (nI k9)])), (ad 15, .inr (4, [.ref (ad 16)])), (ad 16, .inl (kd, 60, .inr (.inr (.inr (.inl P9))))), (ad 17, .inr (4, [.ref (ad 18)])), (ad 18, .inl (kd, 60, .inr (.inr (.inr (.inl V9))))), (ad 19, .inr (4, [.ref (ad 20)])), (ad 20, .inl (kd, 60, .inr (.inr (.inr (.inl F9)))))] H) (hD : va_D (my_A [(ad 0, .inr (6, [.ref (ad 1), .ref (ad 8), .ref (ad 14), .ref (ad 21), .ref (ad 22), .ref (ad 23)])), (ad 1, .inr (3, [.ref (ad 2), .ref (ad 4), .ref (ad 6), .int (nI n)])), (ad 2, .inr (4, [.ref (ad 3)])), (ad 3, .inl (kd, 40, .inr (.inr (.inr (.inl X))))), (ad 8, .inr (0, [.ref (ad 9), .ref (ad 11), .ref (ad 13), .int (nI bc)])), (ad 9, .inr (4, [.ref (ad 10)])), (ad 10, .inl (kd, 40, .inr (.inr (.inr (.inl BW))))), (ad 11, .inr (4, [.ref (ad 12)])), (ad 12, .inl (kd, 40, .inr (.inr (.inr (.inl BS))))), (ad 13, .inl (ki, 40, .inl BZ)), (ad 14, .inr (1, [.ref (ad 15), .ref (ad 17), .ref (ad 19), .int (nI kn)])), (ad 15, .inr (4, [.ref (ad 16)])), (ad 16, .inl (kd, 60, .inr (.inr (.inr (.inl P))))), (ad 17, .inr (4, [.ref (ad 18)])), (ad 18, .inl (kd, 60, .inr (.inr (.inr (.inl V))))), (ad 19, .inr (4, [.ref (ad 20)])), (ad 20, .inl (kd, 60, .inr (.inr (.inr (.inl F)))))]) [(ad 0, .inr (6, [.ref (ad 1), .ref (ad 8), .ref (ad 14), .ref (ad 21), .ref (ad 22), .ref (ad 23)])), (ad 1, .inr (3, [.ref (ad 2), .ref (ad 4), .ref (ad 6), .int (nI n)])), (ad 2, .inr (4, [.ref (ad 3)])), (ad 3, .inl (kd, 40, .inr (.inr (.inr (.inl X))))), (ad 8, .inr (0, [.ref (ad 9), .ref (ad 11), .ref (ad 13), .int (nI bc)])), (ad 9, .inr (4, [.ref (ad 10)])), (ad 10, .inl (kd, 40, .inr (.inr (.inr (.inl BW))))), (ad 11, .inr (4, [.ref (ad 12)])), (ad 12, .inl (kd, 40, .inr (.inr (.inr (.inl BS))))), (ad 13, .inl (ki, 40, .inl BZ)), (ad 14, .inr (1, [.ref (ad 15), .ref (ad 17), .ref (ad 19), .int (nI k9)])), (ad 15, .inr (4, [.ref (ad 16)])), (ad 16, .inl (kd, 60, .inr (.inr (.inr (.inl P9))))), (ad 17, .inr (4, [.ref (ad 18)])), (ad 18, .inl (kd, 60, .inr (.inr (.inr (.inl V9))))), (ad 19, .inr (4, [.ref (ad 20)])), (ad 20, .inl (kd, 60, .inr (.inr (.inr (.inl F9)))))]) (hS : va_S (my_A [(ad 0, .inr (6, [.ref (ad 1), .ref (ad 8), .ref (ad 14), .ref (ad 21), .ref (ad 22), .ref (ad 23)])), (ad 1, .inr (3, [.ref (ad 2), .ref (ad 4), .ref (ad 6), .int (nI n)])), (ad 2, .inr (4, [.ref (ad 3)])), (ad 3, .inl (kd, 40, .inr (.inr (.inr (.inl X))))), (ad 8, .inr (0, [.ref (ad 9), .ref (ad 11), .ref (ad 13), .int (nI bc)])), (ad 9, .inr (4, [.ref (ad 10)])), (ad 10, .inl (kd, 40, .inr (.inr (.inr (.inl BW))))), (ad 11, .inr (4, [.ref (ad 12)])), (ad 12, .inl (kd, 40, .inr (.inr (.inr (.inl BS))))), (ad 13, .inl (ki, 40, .inl BZ)), (ad 14, .inr (1, [.ref (ad 15), .ref (ad 17), .ref (ad 19), .int (nI kn)])), (ad 15, .inr (4, [.ref (ad 16)])), (ad 16, .inl (kd, 60, .inr (.inr (.inr (.inl P))))), (ad 17, .inr (4, [.ref (ad 18)])), (ad 18, .inl (kd, 60, .inr (.inr (.inr (.inl V))))), (ad 19, .inr (4, [.ref (ad 20)])), (ad 20, .inl (kd, 60, .inr (.inr (.inr (.inl F)))))]) s.heap H locs) (ls : Array Slot) (hl : lv_has ls 6 [(5, .int (nI j)), (4, .int (nI zz)), (0, .ref (ad 0)), (2, .double (s_lev BW BS b))]), W p l e ({ frames := 3, cells := 0, slots := 0, locals := 75 }) s m ([.ref (ad 0), .int (nI b)] : List Value).toArray below meth c H locs 0 0 (my_WQ below D ([.ref (ad 0), .int (nI b)] : List Value).toArray s [(ad 0, .inr (6, [.ref (ad 1), .ref (ad 8), .ref (ad 14), .ref (ad 21), .ref (ad 22), .ref (ad 23)])), (ad 1, .inr (3, [.ref (ad 2), .ref (ad 4), .ref (ad 6), .int (nI n)])), (ad 2, .inr (4, [.ref (ad 3)])), (ad 3, .inl (kd, 40, .inr (.inr (.inr (.inl X))))), (ad 8, .inr (0, [.ref (ad 9), .ref (ad 11), .ref (ad 13), .int (nI bc)])), (ad 9, .inr (4, [.ref (ad 10)])), (ad 10, .inl (kd, 40, .inr (.inr (.inr (.inl BW))))), (ad 11, .inr (4, [.ref (ad 12)])), (ad 12, .inl (kd, 40, .inr (.inr (.inr (.inl BS))))), (ad 13, .inl (ki, 40, .inl BZ)), (ad 14, .inr (1, [.ref (ad 15), .ref (ad 17), .ref (ad 19), .int (nI kn)])), (ad 15, .inr (4, [.ref (ad 16)])), (ad 16, .inl (kd, 60, .inr (.inr (.inr (.inl P))))), (ad 17, .inr (4, [.ref (ad 18)])), (ad 18, .inl (kd, 60, .inr (.inr (.inr (.inl V))))), (ad 19, .inr (4, [.ref (ad 20)])), (ad 20, .inl (kd, 60, .inr (.inr (.inr (.inl F)))))] [(ad 0, .inr (6, [.ref (ad 1), .ref (ad 8), .ref (ad 14), .ref (ad 21), .ref (ad 22), .ref (ad 23)])), (ad 1, .inr (3, [.ref (ad 2), .ref (ad 4), .ref (ad 6), .int (nI n)])), (ad 2, .inr (4, [.ref (ad 3)])), (ad 3, .inl (kd, 40, .inr (.inr (.inr (.inl X))))), (ad 8, .inr (0, [.ref (ad 9), .ref (ad 11), .ref (ad 13), .int (nI bc)])), (ad 9, .inr (4, [.ref (ad 10)])), (ad 10, .inl (kd, 40, .inr (.inr (.inr (.inl BW))))), (ad 11, .inr (4, [.ref (ad 12)])), (ad 12, .inl (kd, 40, .inr (.inr (.inr (.inl BS))))), (ad 13, .inl (ki, 40, .inl BZ)), (ad 14, .inr (1, [.ref (ad 15), .ref (ad 17), .ref (ad 19), .int (nI (kn + zz))])), (ad 15, .inr (4, [.ref (ad 16)])), (ad 16, .inl (kd, 60, .inr (.inr (.inr (.inl (s_lay P X kn (kn + zz))))))), (ad 17, .inr (4, [.ref (ad 18)])), (ad 18, .inl (kd, 60, .inr (.inr (.inr (.inl (s_lay V (fun _ => s_lev BW BS b) kn (kn + zz))))))), (ad 19, .inr (4, [.ref (ad 20)])), (ad 20, .inl (kd, 60, .inr (.inr (.inr (.inl (s_lay F (fun _ => 13830554455654793216) kn (kn + zz)))))))] none) (F0 m 22 ls []) := by
    intro n9
    induction n9 with
    | zero => intro j k9 P9 V9 F9 h9; exact absurd h9 (Nat.not_lt_zero _)
    | succ n9 ih_22 =>
      intro j k9 P9 V9 F9 h9 hj hk9 hP9 hV9 hF9 H locs hP hD hS ls hl
      refine lv_iload hx hb dX6_layKnotsOf_22 (lv_at hl 0 rfl) ?_
      refine lv_iload hx hb dX6_layKnotsOf_24 (lv_at hl 1 rfl) ?_
      refine lv_icmp_ge (tgt := 70) hx hb dX6_layKnotsOf_26 (by decide) (fun c_26 => ?_) (fun c_26 => ?_)
      · have c_26 : zz ≤ j := (nI_leI (a := zz) (b := j) (by omega) (by omega)).mp c_26
        exact my_vretW hx hb hr hlocks hP (by obtain rfl : j = zz := (by omega); subst hk9 hP9 hV9 hF9; rfl) hS dX6_layKnotsOf_70
      · have c_26 : ¬ zz ≤ j := fun h9 => c_26 ((nI_leI (a := zz) (b := j) (by omega) (by omega)).mpr h9)
        refine lv_aload_n hx hb dX6_layKnotsOf_29 rfl (lv_at hl 2 rfl) ?_
        refine va_get (D := D) (ci := 6) (v := .ref (ad 14)) (C := RX6) (T := TX6) (N := 6) hx hb hts iw_X6_layKnotsOf_X6 hown hC.1 hP 0 rfl rfl 2 (by decide) (hts (.fieldLink RX6 26 "MonotoneSpline" "knots" "LMonotoneSpline$Knots;") (List.mem_of_getElem? (l := wsX6_layKnotsOf) (i := 2) rfl)) (fun _ h9 => h9) rfl dX6_layKnotsOf_30 ?_
        refine lv_aload_n hx hb dX6_layKnotsOf_33 rfl (lv_at hl 2 rfl) ?_
        refine va_get (D := D) (ci := 6) (v := .ref (ad 14)) (C := RX6) (T := TX6) (N := 6) hx hb hts iw_X6_layKnotsOf_X6 hown hC.1 hP 0 rfl rfl 2 (by decide) (hts (.fieldLink RX6 26 "MonotoneSpline" "knots" "LMonotoneSpline$Knots;") (List.mem_of_getElem? (l := wsX6_layKnotsOf) (i := 2) rfl)) (fun _ h9 => h9) rfl dX6_layKnotsOf_34 ?_
        refine va_getN (D := D) (ci := 1) (v := .int (nI k9)) (C := RX1) (T := TX1) (N := 4) hx hb hts iw_X6_layKnotsOf_X1 hown hC.1 hP 10 rfl rfl 3 (by decide) (va_Nw.use (w := .fieldLinkNest "MonotoneSpline" 136 "MonotoneSpline$Knots" "count" "I" "MonotoneSpline") rfl (hC.2.1 _ (List.mem_of_getElem? (l := my_nest) (i := 11) rfl))) (fun _ h9 => h9) rfl dX6_layKnotsOf_37 ?_
        refine lv_aload_n hx hb dX6_layKnotsOf_40 rfl (lv_at hl 2 rfl) ?_
        refine va_get (D := D) (ci := 6) (v := .ref (ad 1)) (C := RX6) (T := TX6) (N := 6) hx hb hts iw_X6_layKnotsOf_X6 hown hC.1 hP 0 rfl rfl 0 (by decide) (hts (.fieldLink RX6 10 "MonotoneSpline" "points" "LMonotoneSpline$Points;") (List.mem_of_getElem? (l := wsX6_layKnotsOf) (i := 3) rfl)) (fun _ h9 => h9) rfl dX6_layKnotsOf_41 ?_
        refine va_getN (D := D) (ci := 3) (v := .ref (ad 2)) (C := RX3) (T := TX3) (N := 4) hx hb hts iw_X6_layKnotsOf_X3 hown hC.1 hP 1 rfl rfl 0 (by decide) (va_Nw.use (w := .fieldLinkNest "MonotoneSpline" 100 "MonotoneSpline$Points" "places" "LMonotoneSpline$Row;" "MonotoneSpline") rfl (hC.2.1 _ (List.mem_of_getElem? (l := my_nest) (i := 1) rfl))) (fun _ h9 => h9) rfl dX6_layKnotsOf_44 ?_
        refine lv_aload_n hx hb dX6_layKnotsOf_47 rfl (lv_at hl 2 rfl) ?_
        refine va_get (D := D) (ci := 6) (v := .ref (ad 14)) (C := RX6) (T := TX6) (N := 6) hx hb hts iw_X6_layKnotsOf_X6 hown hC.1 hP 0 rfl rfl 2 (by decide) (hts (.fieldLink RX6 26 "MonotoneSpline" "knots" "LMonotoneSpline$Knots;") (List.mem_of_getElem? (l := wsX6_layKnotsOf) (i := 2) rfl)) (fun _ h9 => h9) rfl dX6_layKnotsOf_48 ?_
        refine va_getN (D := D) (ci := 1) (v := .int (nI k9)) (C := RX1) (T := TX1) (N := 4) hx hb hts iw_X6_layKnotsOf_X1 hown hC.1 hP 10 rfl rfl 3 (by decide) (va_Nw.use (w := .fieldLinkNest "MonotoneSpline" 136 "MonotoneSpline$Knots" "count" "I" "MonotoneSpline") rfl (hC.2.1 _ (List.mem_of_getElem? (l := my_nest) (i := 11) rfl))) (fun _ h9 => h9) rfl dX6_layKnotsOf_51 ?_
        refine my_goR (v := (some (.double (X k9)))) (my_runV (bytes := cX4_get) (maxL := 2) (ret := (some .double)) (n := 1) (As := [.int (nI k9)]) (rest := [.int (nI k9), .ref (ad 14)]) S hl.1 (kk_X4_get l D kd ki kz kl z (ad 2) (ad 3) 40 X k9 (by omega) (by omega)) rfl ⟨rfl, rfl⟩ gX6_layKnotsOf_X4_get (by decide +kernel) rfl ⟨Nat.le_of_ble_eq_true rfl, Nat.le_of_ble_eq_true rfl⟩ (my_preR (my_C_S hC hS hz) (my_P_sub (wc := [(ad 2, .inr (4, [.ref (ad 3)])), (ad 3, .inl (kd, 40, .inr (.inr (.inr (.inl X)))))]) hP [2, 3] rfl)) (va_recv hC.1 hP (ci := 4) (q0 := 2) rfl rfl) rfl rfl dX6_layKnotsOf_54) ?_
        refine W.eq (g2 := F0 m 57 ls [.double (X k9), .int (nI k9), .ref (ad 14)]) rfl ?_
        refine lv_dload_n hx hb dX6_layKnotsOf_57 rfl (lv_at hl 3 rfl) ?_
        refine lv_ldc2d hx hb hown (hts (.constantDouble RX6 137 (13830554455654793216)) (List.mem_of_getElem? (l := wsX6_layKnotsOf) (i := 4) rfl)) dX6_layKnotsOf_58 ?_
        refine my_goW (v := none) (w1 := [(ad 14, .inr (1, [.ref (ad 15), .ref (ad 17), .ref (ad 19), .int (nI (k9 + 1))])), (ad 15, .inr (4, [.ref (ad 16)])), (ad 16, .inl (kd, 60, .inr (.inr (.inr (.inl (s_ins P9 k9 k9 (X k9))))))), (ad 17, .inr (4, [.ref (ad 18)])), (ad 18, .inl (kd, 60, .inr (.inr (.inr (.inl (s_ins V9 k9 k9 (s_lev BW BS b))))))), (ad 19, .inr (4, [.ref (ad 20)])), (ad 20, .inl (kd, 60, .inr (.inr (.inr (.inl (s_ins F9 k9 k9 13830554455654793216))))))]) (wx' := [(ad 0, .inr (6, [.ref (ad 1), .ref (ad 8), .ref (ad 14), .ref (ad 21), .ref (ad 22), .ref (ad 23)])), (ad 1, .inr (3, [.ref (ad 2), .ref (ad 4), .ref (ad 6), .int (nI n)])), (ad 2, .inr (4, [.ref (ad 3)])), (ad 3, .inl (kd, 40, .inr (.inr (.inr (.inl X))))), (ad 8, .inr (0, [.ref (ad 9), .ref (ad 11), .ref (ad 13), .int (nI bc)])), (ad 9, .inr (4, [.ref (ad 10)])), (ad 10, .inl (kd, 40, .inr (.inr (.inr (.inl BW))))), (ad 11, .inr (4, [.ref (ad 12)])), (ad 12, .inl (kd, 40, .inr (.inr (.inr (.inl BS))))), (ad 13, .inl (ki, 40, .inl BZ)), (ad 14, .inr (1, [.ref (ad 15), .ref (ad 17), .ref (ad 19), .int (nI (k9 + 1))])), (ad 15, .inr (4, [.ref (ad 16)])), (ad 16, .inl (kd, 60, .inr (.inr (.inr (.inl (s_ins P9 k9 k9 (X k9))))))), (ad 17, .inr (4, [.ref (ad 18)])), (ad 18, .inl (kd, 60, .inr (.inr (.inr (.inl (s_ins V9 k9 k9 (s_lev BW BS b))))))), (ad 19, .inr (4, [.ref (ad 20)])), (ad 20, .inl (kd, 60, .inr (.inr (.inr (.inl (s_ins F9 k9 k9 13830554455654793216))))))]) (my_runV (bytes := cX1_insert) (maxL := 8) (ret := none) (n := 4) (As := [.int (nI k9), .double (X k9), .double (s_lev BW BS b), .double 13830554455654793216]) (rest := []) S hl.1 (kk_X1_insert l D kd ki kz kl z ad k9 P9 V9 F9 k9 (X k9) (s_lev BW BS b) 13830554455654793216 (by omega) (by omega)) rfl ⟨rfl, rfl⟩ gX6_layKnotsOf_X1_insert (by decide +kernel) rfl ⟨Nat.le_of_ble_eq_true rfl, Nat.le_of_ble_eq_true rfl⟩ (my_preW (my_C_S hC hS hz) (my_P_sub (wc := [(ad 14, .inr (1, [.ref (ad 15), .ref (ad 17), .ref (ad 19), .int (nI k9)])), (ad 15, .inr (4, [.ref (ad 16)])), (ad 16, .inl (kd, 60, .inr (.inr (.inr (.inl P9))))), (ad 17, .inr (4, [.ref (ad 18)])), (ad 18, .inl (kd, 60, .inr (.inr (.inr (.inl V9))))), (ad 19, .inr (4, [.ref (ad 20)])), (ad 20, .inl (kd, 60, .inr (.inr (.inr (.inl F9)))))]) hP [10, 11, 12, 13, 14, 15, 16] rfl) (my_D_sub hD hz [10, 11, 12, 13, 14, 15, 16] (by decide) rfl)) (va_recv hC.1 hP (ci := 1) (q0 := 10) rfl rfl) rfl rfl dX6_layKnotsOf_61) hP hD hS [10, 11, 12, 13, 14, 15, 16] rfl rfl rfl (fun H locs hP hD hS => ?_)
        refine W.eq (g2 := F0 m 64 ls []) rfl ?_
        refine lv_iinc (v := nI (j + 1)) (k := 0) (lv' := [(5, .int (nI (j + 1))), (4, .int (nI zz)), (0, .ref (ad 0)), (2, .double (s_lev BW BS b))]) hx hb dX6_layKnotsOf_64 hl rfl (nI_add j 1) (by decide) rfl (fun ls hl => ?_)
        refine lv_goto (tgt := 22) hx hb dX6_layKnotsOf_67 (by decide) ?_
        exact ih_22 (j + 1) (k9 + 1) (s_ins P9 k9 k9 (X k9)) (s_ins V9 k9 k9 (s_lev BW BS b)) (s_ins F9 k9 k9 13830554455654793216) (by omega) (by omega) (by omega) (by subst hk9 hP9; exact s_lay_ins (by omega)) (by subst hk9 hV9; exact s_lay_ins (g := fun _ => s_lev BW BS b) (by omega)) (by subst hk9 hF9; exact s_lay_ins (g := fun _ => 13830554455654793216) (by omega)) _ _ hP hD hS _ (lv_sub hl [0, 1, 2, 3] rfl)
  exact loop_22 _ 0 kn P V F (Nat.lt_succ_self _) (by omega) (by omega) (s_lay_0.symm) (s_lay_0.symm) (s_lay_0.symm) _ _ hP hD hS _ (lv_sub hl [0, 1, 3, 2] rfl)

