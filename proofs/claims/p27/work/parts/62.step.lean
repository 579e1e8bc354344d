set_option maxHeartbeats 4000000 in
set_option maxRecDepth 100000 in
theorem lw_step {p : Program} {e : Env} {s : State} {m : MethodId} {below : List Frame} {meth : Method} {c : Code} {Q : State → Prop} {cells slots : Nat} (l : Launch) (D : va_G) (kd ki kz kl : ClassId) (z : Nat) (ad : Nat → Nat) (b L wa xa ya fa : Nat) (xs : Nat → Int32) (np : Nat) (X : Nat → UInt64) (Y : Nat → UInt64) (Wt : Nat → UInt64) (bc : Nat) (BW : Nat → UInt64) (BS : Nat → UInt64) (BZ : Nat → Int32) (wf : Nat → UInt64) (j : Nat) (S : CallFix p m c cL_law 19 s #[.ref b] wsL_law RL) (hC : my_C D kd ki kz kl z s s.heap) (hXs : va_X b L xs s s.heap) (hbl : b < s.heap.size) (hL : L ≤ 260) (hcs0 : cells ≤ room_1.cells ∧ slots ≤ room_1.slots) (A : Nat → Prop) (hbA : ¬ A b) (hz : ∀ q, A q → z ≤ q) (hj : j < 9) (n : Nat) (P : Nat → UInt64) (V : Nat → UInt64) (F : Nat → UInt64) (e0 : UInt64) (e1 : UInt64) (e2 : UInt64) (e3 : UInt64) (e4 : UInt64) (H : Heap) (locs : List Loc) (ls : Array Slot) (hLJ : LJ j n P V F) (hP : va_P D vwCl (LWd kd ki kz kl ad wa xa ya fa np X Y Wt bc BW BS BZ wf n P V F e0 e1 e2 e3 e4) H) (hD : va_D A (LWd kd ki kz kl ad wa xa ya fa np X Y Wt bc BW BS BZ wf n P V F e0 e1 e2 e3 e4)) (hS : va_S A s.heap H locs) (hl : lv_has ls 19 [(0, .ref b), (1, .ref (ad 0)), (2, .int (nI n)), (3, .ref wa), (4, .ref xa), (5, .ref ya), (6, .ref fa), (7, .int (nI j))]) (KS : ∀ (n : Nat) (P : Nat → UInt64) (V : Nat → UInt64) (F : Nat → UInt64) (e0 : UInt64) (e1 : UInt64) (e2 : UInt64) (e3 : UInt64) (e4 : UInt64) (H : Heap) (locs : List Loc) (ls : Array Slot), LJ (j + 1) n P V F → va_P D vwCl (LWd kd ki kz kl ad wa xa ya fa np X Y Wt bc BW BS BZ wf n P V F e0 e1 e2 e3 e4) H → va_D A (LWd kd ki kz kl ad wa xa ya fa np X Y Wt bc BW BS BZ wf n P V F e0 e1 e2 e3 e4) → va_S A s.heap H locs → lv_has ls 19 [(0, .ref b), (1, .ref (ad 0)), (2, .int (nI n)), (3, .ref wa), (4, .ref xa), (5, .ref ya), (6, .ref fa), (7, .int (nI j))] → W p l e room_1 s m #[.ref b] below meth c H locs cells slots Q (F0 m 984 ls [])) : W p l e room_1 s m #[.ref b] below meth c H locs cells slots Q (F0 m 124 ls []) := by
  obtain ⟨hx, hb, hml, hown, hts⟩ := id S
  have hI := hLJ.1
  have hJ := hI.1
  have hkn2 := hJ.1
  have hn15 := hLJ.2.1
  have hP : va_P D vwCl [(ad 0, .inr (6, [.ref (ad 1), .ref (ad 8), .ref (ad 14), .ref (ad 21), .ref (ad 22), .ref (ad 23)])), (ad 1, .inr (3, [.ref (ad 2), .ref (ad 4), .ref (ad 6), .int (nI np)])), (ad 2, .inr (4, [.ref (ad 3)])), (ad 3, .inl (kd, 40, .inr (.inr (.inr (.inl X))))), (ad 4, .inr (4, [.ref (ad 5)])), (ad 5, .inl (kd, 40, .inr (.inr (.inr (.inl Y))))), (ad 6, .inr (4, [.ref (ad 7)])), (ad 7, .inl (kd, 40, .inr (.inr (.inr (.inl Wt))))), (ad 8, .inr (0, [.ref (ad 9), .ref (ad 11), .ref (ad 13), .int (nI bc)])), (ad 9, .inr (4, [.ref (ad 10)])), (ad 10, .inl (kd, 40, .inr (.inr (.inr (.inl BW))))), (ad 11, .inr (4, [.ref (ad 12)])), (ad 12, .inl (kd, 40, .inr (.inr (.inr (.inl BS))))), (ad 13, .inl (ki, 40, .inl BZ)), (ad 14, .inr (1, [.ref (ad 15), .ref (ad 17), .ref (ad 19), .int (nI n)])), (ad 15, .inr (4, [.ref (ad 16)])), (ad 16, .inl (kd, 60, .inr (.inr (.inr (.inl P))))), (ad 17, .inr (4, [.ref (ad 18)])), (ad 18, .inl (kd, 60, .inr (.inr (.inr (.inl V))))), (ad 19, .inr (4, [.ref (ad 20)])), (ad 20, .inl (kd, 60, .inr (.inr (.inr (.inl F))))), (ad 21, .inr (2, [.double e0, .double e1, .double e2, .double e3, .double e4])), (ad 22, .inr (5, [.int 1, .int 0, .double 0])), (ad 23, .inr (5, [.int 0, .int 0, .double 0])), (wa, .inl (kd, 20, .inr (.inr (.inr (.inl wf))))), (xa, .inl (kd, 20, .inr (.inr (.inr (.inl P))))), (ya, .inl (kd, 20, .inr (.inr (.inr (.inl V))))), (fa, .inl (kd, 20, .inr (.inr (.inr (.inl F)))))] H := hP
  have hD : va_D A [(ad 0, .inr (6, [.ref (ad 1), .ref (ad 8), .ref (ad 14), .ref (ad 21), .ref (ad 22), .ref (ad 23)])), (ad 1, .inr (3, [.ref (ad 2), .ref (ad 4), .ref (ad 6), .int (nI np)])), (ad 2, .inr (4, [.ref (ad 3)])), (ad 3, .inl (kd, 40, .inr (.inr (.inr (.inl X))))), (ad 4, .inr (4, [.ref (ad 5)])), (ad 5, .inl (kd, 40, .inr (.inr (.inr (.inl Y))))), (ad 6, .inr (4, [.ref (ad 7)])), (ad 7, .inl (kd, 40, .inr (.inr (.inr (.inl Wt))))), (ad 8, .inr (0, [.ref (ad 9), .ref (ad 11), .ref (ad 13), .int (nI bc)])), (ad 9, .inr (4, [.ref (ad 10)])), (ad 10, .inl (kd, 40, .inr (.inr (.inr (.inl BW))))), (ad 11, .inr (4, [.ref (ad 12)])), (ad 12, .inl (kd, 40, .inr (.inr (.inr (.inl BS))))), (ad 13, .inl (ki, 40, .inl BZ)), (ad 14, .inr (1, [.ref (ad 15), .ref (ad 17), .ref (ad 19), .int (nI n)])), (ad 15, .inr (4, [.ref (ad 16)])), (ad 16, .inl (kd, 60, .inr (.inr (.inr (.inl P))))), (ad 17, .inr (4, [.ref (ad 18)])), (ad 18, .inl (kd, 60, .inr (.inr (.inr (.inl V))))), (ad 19, .inr (4, [.ref (ad 20)])), (ad 20, .inl (kd, 60, .inr (.inr (.inr (.inl F))))), (ad 21, .inr (2, [.double e0, .double e1, .double e2, .double e3, .double e4])), (ad 22, .inr (5, [.int 1, .int 0, .double 0])), (ad 23, .inr (5, [.int 0, .int 0, .double 0])), (wa, .inl (kd, 20, .inr (.inr (.inr (.inl wf))))), (xa, .inl (kd, 20, .inr (.inr (.inr (.inl P))))), (ya, .inl (kd, 20, .inr (.inr (.inr (.inl V))))), (fa, .inl (kd, 20, .inr (.inr (.inr (.inl F)))))] := hD
  have KC : ∀ (c9 : Int32) (n : Nat) (P : Nat → UInt64) (V : Nat → UInt64) (F : Nat → UInt64) (e0 : UInt64) (e1 : UInt64) (e2 : UInt64) (e3 : UInt64) (e4 : UInt64) (H : Heap) (locs : List Loc) (ls : Array Slot), LJ (j + 1) n P V F → va_P D vwCl (LWd kd ki kz kl ad wa xa ya fa np X Y Wt bc BW BS BZ wf n P V F e0 e1 e2 e3 e4) H → va_D A (LWd kd ki kz kl ad wa xa ya fa np X Y Wt bc BW BS BZ wf n P V F e0 e1 e2 e3 e4) → va_S A s.heap H locs → lv_has ls 19 [(0, .ref b), (1, .ref (ad 0)), (2, .int (nI n)), (3, .ref wa), (4, .ref xa), (5, .ref ya), (6, .ref fa), (7, .int (nI j)), (8, .int c9)] → W p l e room_1 s m #[.ref b] below meth c H locs cells slots Q (F0 m 739 ls []) := fun c9 n P V F e0 e1 e2 e3 e4 H locs ls h1 h2 h3 h4 h5 => lw_chk l D kd ki kz kl z ad b L wa xa ya fa xs np X Y Wt bc BW BS BZ wf j S hC hXs hbl hL hcs0 A hbA hz hj c9 n P V F e0 e1 e2 e3 e4 H locs ls h1 h2 h3 h4 h5 KS
  refine lv_aload_n hx hb dL_law_124 rfl (lv_at hl 0 rfl) ?_
  refine lv_bipush (v := 7) hx hb dL_law_125 (by decide) ?_
  refine lv_iload hx hb dL_law_127 (lv_at hl 7 rfl) ?_
  refine my_iadd (w := nI (7 + j)) hx hb dL_law_129 (nI_add 7 j) ?_
  refine my_goR (v := (some (.int (s_cell xs L (7 + j))))) (my_runS (bytes := cL_cell) (maxL := 2) (ret := (some .int)) (n := 2) (As := [.ref b, .int (nI (7 + j))]) (rest := []) S hl.1 (kk_L_cell l D kd ki kz kl z b L xs (7 + j) (by omega) (by omega)) rfl ⟨rfl, rfl⟩ gL_law_L_cell (by decide +kernel) rfl hcs0 (my_preX (my_C_S hC hS hz) (my_XS hXs hbl hbA hS) (my_bS hbl hS)) rfl rfl dL_law_130) ?_
  refine W.eq (g2 := F0 m 133 ls [.int (s_cell xs L (7 + j))]) rfl ?_
  obtain ⟨c9, ec9⟩ : ∃ c9, s_cell xs L (7 + j) = c9 := ⟨_, rfl⟩
  have KC := KC c9
  refine my_topi (w := c9) (ec9) ?_
  refine lv_istore (lv' := [(8, .int c9), (0, .ref b), (1, .ref (ad 0)), (2, .int (nI n)), (3, .ref wa), (4, .ref xa), (5, .ref ya), (6, .ref fa), (7, .int (nI j))]) hx hb dL_law_133 hl (by decide) rfl (fun ls hl => ?_)
  refine lv_iload hx hb dL_law_135 (lv_at hl 0 rfl) ?_
  refine lv_iconst (v := 3) hx hb dL_law_137 (by decide) ?_
  refine lv_ishr hx hb dL_law_138 ?_
  refine lv_iload_n hx hb dL_law_139 rfl (lv_at hl 3 rfl) ?_
  refine my_goR (v := (some (.int (nI (s_bel (c9 >>> (3 &&& 31) : Int32) n))))) (my_runS (bytes := cL_below) (maxL := 2) (ret := (some .int)) (n := 2) (As := [.int (c9 >>> (3 &&& 31) : Int32), .int (nI n)]) (rest := []) S hl.1 (kk_L_below l D kd ki kz kl z (c9 >>> (3 &&& 31) : Int32) n (by omega) (by omega)) rfl ⟨rfl, rfl⟩ gL_law_L_below (by decide +kernel) rfl hcs0 (my_preR (my_C_S hC hS hz) (my_P_sub (wc := []) hP [] rfl)) rfl rfl dL_law_140) ?_
  refine W.eq (g2 := F0 m 143 ls [.int (nI (s_bel (c9 >>> (3 &&& 31) : Int32) n))]) rfl ?_
  obtain ⟨ka, hka, eka⟩ : ∃ ka, ka < n ∧ nI (s_bel (c9 >>> (3 &&& 31) : Int32) n) = nI ka := ⟨_, s_bel_lt (by omega), rfl⟩
  refine my_topi (w := nI ka) (eka) ?_
  refine lv_istore (lv' := [(9, .int (nI ka)), (8, .int c9), (0, .ref b), (1, .ref (ad 0)), (2, .int (nI n)), (3, .ref wa), (4, .ref xa), (5, .ref ya), (6, .ref fa), (7, .int (nI j))]) hx hb dL_law_143 hl (by decide) rfl (fun ls hl => ?_)
  refine lv_iload hx hb dL_law_145 (lv_at hl 1 rfl) ?_
  refine lv_bipush (v := 7) hx hb dL_law_147 (by decide) ?_
  refine lv_iand hx hb dL_law_149 ?_
  obtain ⟨w9, hw9, ew9⟩ := pk_andE c9 (m := 7) 3 (by decide)
  refine my_topi (w := nI w9) (ew9) ?_
  refine lv_istore (lv' := [(10, .int (nI w9)), (9, .int (nI ka)), (8, .int c9), (0, .ref b), (1, .ref (ad 0)), (2, .int (nI n)), (3, .ref wa), (4, .ref xa), (5, .ref ya), (6, .ref fa), (7, .int (nI j))]) hx hb dL_law_150 hl (by decide) rfl (fun ls hl => ?_)
  refine lv_iload hx hb dL_law_152 (lv_at hl 0 rfl) ?_
  refine lv_iconst (v := 3) hx hb dL_law_154 (by decide) ?_
  refine lv_icmp_ge (tgt := 410) hx hb dL_law_155 (by decide) (fun c_155 => ?_) (fun c_155 => ?_)
  · have c_155 : 3 ≤ w9 := (nI_leI (a := 3) (b := w9) (by omega) (by omega)).mp c_155
    refine lv_iload hx hb dL_law_410 (lv_at hl 0 rfl) ?_
    refine lv_iconst (v := 3) hx hb dL_law_412 (by decide) ?_
    refine lv_icmp_ne (tgt := 499) hx hb dL_law_413 (by decide) (fun c_413 => ?_) (fun c_413 => ?_)
    · have c_413 : ¬ w9 = 3 := fun h9 => c_413 ((nI_eq (a := w9) (b := 3) (by omega) (by omega)).mpr h9)
      refine lv_iload hx hb dL_law_499 (lv_at hl 0 rfl) ?_
      refine lv_iconst (v := 4) hx hb dL_law_501 (by decide) ?_
      refine lv_icmp_ne (tgt := 542) hx hb dL_law_502 (by decide) (fun c_502 => ?_) (fun c_502 => ?_)
      · have c_502 : ¬ w9 = 4 := fun h9 => c_502 ((nI_eq (a := w9) (b := 4) (by omega) (by omega)).mpr h9)
        refine lv_iload hx hb dL_law_542 (lv_at hl 0 rfl) ?_
        refine lv_iconst (v := 5) hx hb dL_law_544 (by decide) ?_
        refine lv_icmp_ne (tgt := 689) hx hb dL_law_545 (by decide) (fun c_545 => ?_) (fun c_545 => ?_)
        · have c_545 : ¬ w9 = 5 := fun h9 => c_545 ((nI_eq (a := w9) (b := 5) (by omega) (by omega)).mpr h9)
          exact lw_fix l D kd ki kz kl z ad b L wa xa ya fa xs np X Y Wt bc BW BS BZ wf j S hC hXs hbl hL hcs0 A hbA hz hj c9 ka w9 n P V F e0 e1 e2 e3 e4 _ _ _ hka hLJ hP hD hS (lv_sub hl [3, 4, 5, 6, 7, 8, 9, 10, 2, 1, 0] rfl) KC
        · have c_545 : w9 = 5 := (nI_eq (a := w9) (b := 5) (by omega) (by omega)).mp c_545
          exact lw_set l D kd ki kz kl z ad b L wa xa ya fa xs np X Y Wt bc BW BS BZ wf j S hC hXs hbl hL hcs0 A hbA hz hj c9 ka w9 n P V F e0 e1 e2 e3 e4 _ _ _ hka hLJ hP hD hS (lv_sub hl [3, 4, 5, 6, 7, 8, 9, 10, 2, 1, 0] rfl) KC KS
      · have c_502 : w9 = 4 := (nI_eq (a := w9) (b := 4) (by omega) (by omega)).mp c_502
        exact lw_free l D kd ki kz kl z ad b L wa xa ya fa xs np X Y Wt bc BW BS BZ wf j S hC hXs hbl hL hcs0 A hbA hz hj c9 ka w9 n P V F e0 e1 e2 e3 e4 _ _ _ hka hLJ hP hD hS (lv_sub hl [3, 4, 5, 6, 7, 8, 9, 10, 2, 1, 0] rfl) KC
    · have c_413 : w9 = 3 := (nI_eq (a := w9) (b := 3) (by omega) (by omega)).mp c_413
      refine lv_iload hx hb dL_law_416 (lv_at hl 1 rfl) ?_
      refine lv_if_le (tgt := 499) hx hb dL_law_418 (by decide) (fun c_418 => ?_) (fun c_418 => ?_)
      · have c_418 : ka ≤ 0 := (nI_leI (a := ka) (b := 0) (by omega) (by omega)).mp c_418
        refine lv_iload hx hb dL_law_499 (lv_at hl 0 rfl) ?_
        refine lv_iconst (v := 4) hx hb dL_law_501 (by decide) ?_
        refine lv_icmp_ne (tgt := 542) hx hb dL_law_502 (by decide) (fun c_502 => ?_) (fun c_502 => ?_)
        · have c_502 : ¬ w9 = 4 := fun h9 => c_502 ((nI_eq (a := w9) (b := 4) (by omega) (by omega)).mpr h9)
          refine lv_iload hx hb dL_law_542 (lv_at hl 0 rfl) ?_
          refine lv_iconst (v := 5) hx hb dL_law_544 (by decide) ?_
          refine lv_icmp_ne (tgt := 689) hx hb dL_law_545 (by decide) (fun c_545 => ?_) (fun c_545 => ?_)
          · have c_545 : ¬ w9 = 5 := fun h9 => c_545 ((nI_eq (a := w9) (b := 5) (by omega) (by omega)).mpr h9)
            exact lw_fix l D kd ki kz kl z ad b L wa xa ya fa xs np X Y Wt bc BW BS BZ wf j S hC hXs hbl hL hcs0 A hbA hz hj c9 ka w9 n P V F e0 e1 e2 e3 e4 _ _ _ hka hLJ hP hD hS (lv_sub hl [3, 4, 5, 6, 7, 8, 9, 10, 2, 1, 0] rfl) KC
          · have c_545 : w9 = 5 := (nI_eq (a := w9) (b := 5) (by omega) (by omega)).mp c_545
            exact lw_set l D kd ki kz kl z ad b L wa xa ya fa xs np X Y Wt bc BW BS BZ wf j S hC hXs hbl hL hcs0 A hbA hz hj c9 ka w9 n P V F e0 e1 e2 e3 e4 _ _ _ hka hLJ hP hD hS (lv_sub hl [3, 4, 5, 6, 7, 8, 9, 10, 2, 1, 0] rfl) KC KS
        · have c_502 : w9 = 4 := (nI_eq (a := w9) (b := 4) (by omega) (by omega)).mp c_502
          exact lw_free l D kd ki kz kl z ad b L wa xa ya fa xs np X Y Wt bc BW BS BZ wf j S hC hXs hbl hL hcs0 A hbA hz hj c9 ka w9 n P V F e0 e1 e2 e3 e4 _ _ _ hka hLJ hP hD hS (lv_sub hl [3, 4, 5, 6, 7, 8, 9, 10, 2, 1, 0] rfl) KC
      · have c_418 : ¬ ka ≤ 0 := fun h9 => c_418 ((nI_leI (a := ka) (b := 0) (by omega) (by omega)).mpr h9)
        refine lv_iload hx hb dL_law_421 (lv_at hl 1 rfl) ?_
        refine lv_iload_n hx hb dL_law_423 rfl (lv_at hl 5 rfl) ?_
        refine lv_iconst (v := 1) hx hb dL_law_424 (by decide) ?_
        refine my_isub (w := nI (n - 1)) hx hb dL_law_425 (pk_sub (a := n) (b := 1) (by omega)) ?_
        refine lv_icmp_ge (tgt := 499) hx hb dL_law_426 (by decide) (fun c_426 => ?_) (fun c_426 => ?_)
        · have c_426 : n - 1 ≤ ka := (nI_leI (a := n - 1) (b := ka) (by omega) (by omega)).mp c_426
          refine lv_iload hx hb dL_law_499 (lv_at hl 0 rfl) ?_
          refine lv_iconst (v := 4) hx hb dL_law_501 (by decide) ?_
          refine lv_icmp_ne (tgt := 542) hx hb dL_law_502 (by decide) (fun c_502 => ?_) (fun c_502 => ?_)
          · have c_502 : ¬ w9 = 4 := fun h9 => c_502 ((nI_eq (a := w9) (b := 4) (by omega) (by omega)).mpr h9)
            refine lv_iload hx hb dL_law_542 (lv_at hl 0 rfl) ?_
            refine lv_iconst (v := 5) hx hb dL_law_544 (by decide) ?_
            refine lv_icmp_ne (tgt := 689) hx hb dL_law_545 (by decide) (fun c_545 => ?_) (fun c_545 => ?_)
            · have c_545 : ¬ w9 = 5 := fun h9 => c_545 ((nI_eq (a := w9) (b := 5) (by omega) (by omega)).mpr h9)
              exact lw_fix l D kd ki kz kl z ad b L wa xa ya fa xs np X Y Wt bc BW BS BZ wf j S hC hXs hbl hL hcs0 A hbA hz hj c9 ka w9 n P V F e0 e1 e2 e3 e4 _ _ _ hka hLJ hP hD hS (lv_sub hl [3, 4, 5, 6, 7, 8, 9, 10, 2, 1, 0] rfl) KC
            · have c_545 : w9 = 5 := (nI_eq (a := w9) (b := 5) (by omega) (by omega)).mp c_545
              exact lw_set l D kd ki kz kl z ad b L wa xa ya fa xs np X Y Wt bc BW BS BZ wf j S hC hXs hbl hL hcs0 A hbA hz hj c9 ka w9 n P V F e0 e1 e2 e3 e4 _ _ _ hka hLJ hP hD hS (lv_sub hl [3, 4, 5, 6, 7, 8, 9, 10, 2, 1, 0] rfl) KC KS
          · have c_502 : w9 = 4 := (nI_eq (a := w9) (b := 4) (by omega) (by omega)).mp c_502
            exact lw_free l D kd ki kz kl z ad b L wa xa ya fa xs np X Y Wt bc BW BS BZ wf j S hC hXs hbl hL hcs0 A hbA hz hj c9 ka w9 n P V F e0 e1 e2 e3 e4 _ _ _ hka hLJ hP hD hS (lv_sub hl [3, 4, 5, 6, 7, 8, 9, 10, 2, 1, 0] rfl) KC
        · have c_426 : ¬ n - 1 ≤ ka := fun h9 => c_426 ((nI_leI (a := n - 1) (b := ka) (by omega) (by omega)).mpr h9)
          exact lw_rem l D kd ki kz kl z ad b L wa xa ya fa xs np X Y Wt bc BW BS BZ wf j S hC hXs hbl hL hcs0 A hbA hz hj c9 ka w9 n P V F e0 e1 e2 e3 e4 _ _ _ (by omega) (by omega) hLJ hP hD hS (lv_sub hl [3, 4, 5, 6, 7, 8, 9, 10, 2, 1, 0] rfl) KC
  · have c_155 : ¬ 3 ≤ w9 := fun h9 => c_155 ((nI_leI (a := 3) (b := w9) (by omega) (by omega)).mpr h9)
    exact lw_ins l D kd ki kz kl z ad b L wa xa ya fa xs np X Y Wt bc BW BS BZ wf j S hC hXs hbl hL hcs0 A hbA hz hj c9 ka w9 n P V F e0 e1 e2 e3 e4 _ _ _ hLJ hP hD hS (lv_sub hl [3, 4, 5, 6, 7, 8, 9, 10, 2, 1, 0] rfl) KC KS

