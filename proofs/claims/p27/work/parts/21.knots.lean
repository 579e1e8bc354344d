theorem iw_X4_insert_X4 : ∀ w ∈ wsX40, w ∈ wsX4_insert := fun w h => List.mem_cons_of_mem _ (List.mem_append_right _ (h))
set_option maxHeartbeats 4000000 in
set_option maxRecDepth 100000 in
theorem kk_X4_insert (l : Launch) (D : va_G) (kd ki kz kl : ClassId) (z : Nat) (r : Nat) (a : Nat) (N : Nat) (f : Nat → UInt64) (i : Nat) (u : Nat) (x : UInt64) (hi : i ≤ u) (hu : u < N) (hN : N < 2 ^ 31) : my_WR l D kd ki kz kl z yX4_insert wsX4_insert ({ frames := 1, cells := 0, slots := 0, locals := 23 }) [.ref r, .int (nI i), .int (nI u), .double x] [(r, .inr (4, [.ref a])), (a, .inl (kd, N, .inr (.inr (.inr (.inl f)))))] [(r, .inr (4, [.ref a])), (a, .inl (kd, N, .inr (.inr (.inr (.inl (s_ins f i u x))))))] none := by
  refine my_WR_of (cc := cX4_insert) (maxL := 6) (ret := none) (by decide) rfl (Nat.le_of_ble_eq_true rfl) ?_
  intro p e s m below meth c S hr hlocks hC hP hD hz hS ls hl
  have S : CallFix p m c cX4_insert 6 s ([.ref r, .int (nI i), .int (nI u), .double x] : List Value).toArray wsX4_insert RX4 := S
  obtain ⟨hx, hb, hml, hown, hts⟩ := id S
  have hl : lv_has ls 6 [(0, .ref r), (1, .int (nI i)), (2, .int (nI u)), (3, .double x)] := hl
  suffices K0 : ∀ (H : Heap) (locs : List Loc), va_P D vwCl [(r, .inr (4, [.ref a])), (a, .inl (kd, N, .inr (.inr (.inr (.inl f)))))] H → va_D (my_A [(r, .inr (4, [.ref a])), (a, .inl (kd, N, .inr (.inr (.inr (.inl f)))))]) [(r, .inr (4, [.ref a])), (a, .inl (kd, N, .inr (.inr (.inr (.inl f)))))] → va_S (my_A [(r, .inr (4, [.ref a])), (a, .inl (kd, N, .inr (.inr (.inr (.inl f)))))]) s.heap H locs → W p l e ({ frames := 1, cells := 0, slots := 0, locals := 23 }) s m ([.ref r, .int (nI i), .int (nI u), .double x] : List Value).toArray below meth c H locs 0 0 (my_WQ below D ([.ref r, .int (nI i), .int (nI u), .double x] : List Value).toArray s [(r, .inr (4, [.ref a])), (a, .inl (kd, N, .inr (.inr (.inr (.inl f)))))] [(r, .inr (4, [.ref a])), (a, .inl (kd, N, .inr (.inr (.inr (.inl (s_ins f i u x))))))] none) (F0 m 0 ls []) from K0 _ _ hP hD hS
  intro H locs hP hD hS
  refine lv_iload_n hx hb dX4_insert_0 rfl (lv_at hl 2 rfl) ?_
  refine lv_aload_n hx hb dX4_insert_1 rfl (lv_at hl 0 rfl) ?_
  refine va_get (D := D) (ci := 4) (v := .ref a) (C := RX4) (T := TX4) (N := 1) hx hb hts iw_X4_insert_X4 hown hC.1 hP 0 rfl rfl 0 (by decide) (hts (.fieldLink RX4 7 "MonotoneSpline$Row" "cells" "[D") (List.mem_of_getElem? (l := wsX4_insert) (i := 1) rfl)) (fun _ h9 => h9) rfl dX4_insert_2 ?_
  refine va_alen (v := nI N) hx hb hC.1 hP 1 0 rfl rfl rfl dX4_insert_5 ?_
  refine lv_icmp_ge (tgt := 13) hx hb dX4_insert_6 (by decide) (fun c_6 => ?_) (fun c_6 => ?_)
  · have c_6 : N ≤ u := (nI_leI (a := N) (b := u) (by omega) (by omega)).mp c_6
    exact absurd hu (by omega)
  · have c_6 : ¬ N ≤ u := fun h9 => c_6 ((nI_leI (a := N) (b := u) (by omega) (by omega)).mpr h9)
    refine lv_iload_n hx hb dX4_insert_9 rfl (lv_at hl 2 rfl) ?_
    refine lv_goto (tgt := 20) hx hb dX4_insert_10 (by decide) ?_
    refine lv_istore (lv' := [(5, .int (nI u)), (0, .ref r), (1, .int (nI i)), (2, .int (nI u)), (3, .double x)]) hx hb dX4_insert_20 hl (by decide) rfl (fun ls hl => ?_)
    have loop_22 : ∀ (n9 : Nat) (k : Nat) (g : Nat → UInt64), k < n9 → ∀ (hk0 : i ≤ k) (hk1 : k ≤ u) (hg : g = s_sh f k u) (H : Heap) (locs : List Loc) (hP : va_P D vwCl [(r, .inr (4, [.ref a])), (a, .inl (kd, N, .inr (.inr (.inr (.inl g)))))] H) (hD : va_D (my_A [(r, .inr (4, [.ref a])), (a, .inl (kd, N, .inr (.inr (.inr (.inl f)))))]) [(r, .inr (4, [.ref a])), (a, .inl (kd, N, .inr (.inr (.inr (.inl g)))))]) (hS : va_S (my_A [(r, .inr (4, [.ref a])), (a, .inl (kd, N, .inr (.inr (.inr (.inl f)))))]) s.heap H locs) (ls : Array Slot) (hl : lv_has ls 6 [(5, .int (nI k)), (0, .ref r), (1, .int (nI i)), (2, .int (nI u)), (3, .double x)]), W p l e ({ frames := 1, cells := 0, slots := 0, locals := 23 }) s m ([.ref r, .int (nI i), .int (nI u), .double x] : List Value).toArray below meth c H locs 0 0 (my_WQ below D ([.ref r, .int (nI i), .int (nI u), .double x] : List Value).toArray s [(r, .inr (4, [.ref a])), (a, .inl (kd, N, .inr (.inr (.inr (.inl f)))))] [(r, .inr (4, [.ref a])), (a, .inl (kd, N, .inr (.inr (.inr (.inl (s_ins f i u x))))))] none) (F0 m 22 ls []) := by
      intro n9
      induction n9 with
      | zero => intro k g h9; exact absurd h9 (Nat.not_lt_zero _)
      | succ n9 ih_22 =>
        intro k g h9 hk0 hk1 hg H locs hP hD hS ls hl
        refine lv_iload hx hb dX4_insert_22 (lv_at hl 0 rfl) ?_
        refine lv_iload_n hx hb dX4_insert_24 rfl (lv_at hl 2 rfl) ?_
        refine lv_icmp_le (tgt := 55) hx hb dX4_insert_25 (by decide) (fun c_25 => ?_) (fun c_25 => ?_)
        · have c_25 : k ≤ i := (nI_leI (a := k) (b := i) (by omega) (by omega)).mp c_25
          refine lv_aload_n hx hb dX4_insert_55 rfl (lv_at hl 1 rfl) ?_
          refine lv_iload_n hx hb dX4_insert_56 rfl (lv_at hl 2 rfl) ?_
          refine lv_dload_n hx hb dX4_insert_57 rfl (lv_at hl 4 rfl) ?_
          refine my_goW (v := none) (w1 := [(r, .inr (4, [.ref a])), (a, .inl (kd, N, .inr (.inr (.inr (.inl (vf_upd g i x))))))]) (wx' := [(r, .inr (4, [.ref a])), (a, .inl (kd, N, .inr (.inr (.inr (.inl (vf_upd g i x))))))]) (my_runV (bytes := cX4_set) (maxL := 4) (ret := none) (n := 2) (As := [.int (nI i), .double x]) (rest := []) S hl.1 (kk_X4_set l D kd ki kz kl z r a N g i x (by omega) (by omega)) rfl ⟨rfl, rfl⟩ gX4_insert_X4_set (by decide +kernel) rfl ⟨Nat.le_of_ble_eq_true rfl, Nat.le_of_ble_eq_true rfl⟩ (my_preW (my_C_S hC hS hz) (my_P_sub (wc := [(r, .inr (4, [.ref a])), (a, .inl (kd, N, .inr (.inr (.inr (.inl g)))))]) hP [0, 1] rfl) (my_D_sub hD hz [0, 1] (by decide) rfl)) (va_recv hC.1 hP (ci := 4) (q0 := 0) rfl rfl) rfl rfl dX4_insert_58) hP hD hS [0, 1] rfl rfl rfl (fun H locs hP hD hS => ?_)
          refine W.eq (g2 := F0 m 61 ls []) rfl ?_
          exact my_vretW hx hb hr hlocks hP (by rw [show vf_upd g i x = s_ins f i u x from by rw [hg, show k = i by omega]; exact s_ins_d]) hS dX4_insert_61
        · have c_25 : ¬ k ≤ i := fun h9 => c_25 ((nI_leI (a := k) (b := i) (by omega) (by omega)).mpr h9)
          refine lv_iload hx hb dX4_insert_28 (lv_at hl 0 rfl) ?_
          refine lv_if_le (tgt := 55) hx hb dX4_insert_30 (by decide) (fun c_30 => ?_) (fun c_30 => ?_)
          · have c_30 : k ≤ 0 := (nI_leI (a := k) (b := 0) (by omega) (by omega)).mp c_30
            exact absurd c_30 (by omega)
          · have c_30 : ¬ k ≤ 0 := fun h9 => c_30 ((nI_leI (a := k) (b := 0) (by omega) (by omega)).mpr h9)
            refine lv_aload_n hx hb dX4_insert_33 rfl (lv_at hl 1 rfl) ?_
            refine va_get (D := D) (ci := 4) (v := .ref a) (C := RX4) (T := TX4) (N := 1) hx hb hts iw_X4_insert_X4 hown hC.1 hP 0 rfl rfl 0 (by decide) (hts (.fieldLink RX4 7 "MonotoneSpline$Row" "cells" "[D") (List.mem_of_getElem? (l := wsX4_insert) (i := 1) rfl)) (fun _ h9 => h9) rfl dX4_insert_34 ?_
            refine lv_iload hx hb dX4_insert_37 (lv_at hl 0 rfl) ?_
            refine lv_aload_n hx hb dX4_insert_39 rfl (lv_at hl 1 rfl) ?_
            refine va_get (D := D) (ci := 4) (v := .ref a) (C := RX4) (T := TX4) (N := 1) hx hb hts iw_X4_insert_X4 hown hC.1 hP 0 rfl rfl 0 (by decide) (hts (.fieldLink RX4 7 "MonotoneSpline$Row" "cells" "[D") (List.mem_of_getElem? (l := wsX4_insert) (i := 1) rfl)) (fun _ h9 => h9) rfl dX4_insert_40 ?_
            refine lv_iload hx hb dX4_insert_43 (lv_at hl 0 rfl) ?_
            refine lv_iconst (v := 1) hx hb dX4_insert_45 (by decide) ?_
            refine my_isub (w := nI (k - 1)) hx hb dX4_insert_46 (pk_sub (a := k) (b := 1) (by omega)) ?_
            refine my_dald (k := k - 1) (n := N) (f := g) hx hb hC hP 1 rfl (by omega) (by omega) dX4_insert_47 ?_
            refine my_dast (k := k) (n := N) (f := g) (wx' := [(r, .inr (4, [.ref a])), (a, .inl (kd, N, .inr (.inr (.inr (.inl (vf_upd g k (g (k - 1))))))))]) hx hb hC hP hD hS 1 rfl (by omega) (by omega) rfl dX4_insert_48 (fun H locs hP hD hS => ?_)
            refine lv_iinc (v := nI (k - 1)) (k := 0) (lv' := [(5, .int (nI (k - 1))), (0, .ref r), (1, .int (nI i)), (2, .int (nI u)), (3, .double x)]) hx hb dX4_insert_49 hl rfl (my_dec (by omega)) (by decide) rfl (fun ls hl => ?_)
            refine lv_goto (tgt := 22) hx hb dX4_insert_52 (by decide) ?_
            exact ih_22 (k - 1) (vf_upd g k (g (k - 1))) (by omega) (by omega) (by omega) (by rw [hg]; exact s_sh_d (by omega) (by omega)) _ _ hP hD hS _ (lv_sub hl [0, 1, 2, 3, 4] rfl)
    exact loop_22 _ u f (Nat.lt_succ_self _) (by omega) (by omega) ((s_sh_0 f u).symm) _ _ hP hD hS _ (lv_sub hl [0, 1, 2, 3, 4] rfl)

theorem iw_X4_remove_X4 : ∀ w ∈ wsX40, w ∈ wsX4_remove := fun w h => List.mem_cons_of_mem _ (List.mem_append_right _ (h))
set_option maxHeartbeats 4000000 in
set_option maxRecDepth 100000 in
theorem kk_X4_remove (l : Launch) (D : va_G) (kd ki kz kl : ClassId) (z : Nat) (r : Nat) (a : Nat) (N : Nat) (f : Nat → UInt64) (i : Nat) (u : Nat) (hi : i < u) (hu : u ≤ N) (hN : N < 2 ^ 31) : my_WR l D kd ki kz kl z yX4_remove wsX4_remove ({ frames := 0, cells := 0, slots := 0, locals := 0 }) [.ref r, .int (nI i), .int (nI u)] [(r, .inr (4, [.ref a])), (a, .inl (kd, N, .inr (.inr (.inr (.inl f)))))] [(r, .inr (4, [.ref a])), (a, .inl (kd, N, .inr (.inr (.inr (.inl (s_rem f i u))))))] none := by
  refine my_WR_of (cc := cX4_remove) (maxL := 4) (ret := none) (by decide) rfl (Nat.le_of_ble_eq_true rfl) ?_
  intro p e s m below meth c S hr hlocks hC hP hD hz hS ls hl
  have S : CallFix p m c cX4_remove 4 s ([.ref r, .int (nI i), .int (nI u)] : List Value).toArray wsX4_remove RX4 := S
  obtain ⟨hx, hb, hml, hown, hts⟩ := id S
  have hl : lv_has ls 4 [(0, .ref r), (1, .int (nI i)), (2, .int (nI u))] := hl
  suffices K0 : ∀ (H : Heap) (locs : List Loc), va_P D vwCl [(r, .inr (4, [.ref a])), (a, .inl (kd, N, .inr (.inr (.inr (.inl f)))))] H → va_D (my_A [(r, .inr (4, [.ref a])), (a, .inl (kd, N, .inr (.inr (.inr (.inl f)))))]) [(r, .inr (4, [.ref a])), (a, .inl (kd, N, .inr (.inr (.inr (.inl f)))))] → va_S (my_A [(r, .inr (4, [.ref a])), (a, .inl (kd, N, .inr (.inr (.inr (.inl f)))))]) s.heap H locs → W p l e ({ frames := 0, cells := 0, slots := 0, locals := 0 }) s m ([.ref r, .int (nI i), .int (nI u)] : List Value).toArray below meth c H locs 0 0 (my_WQ below D ([.ref r, .int (nI i), .int (nI u)] : List Value).toArray s [(r, .inr (4, [.ref a])), (a, .inl (kd, N, .inr (.inr (.inr (.inl f)))))] [(r, .inr (4, [.ref a])), (a, .inl (kd, N, .inr (.inr (.inr (.inl (s_rem f i u))))))] none) (F0 m 0 ls []) from K0 _ _ hP hD hS
  intro H locs hP hD hS
  refine lv_iload_n hx hb dX4_remove_0 rfl (lv_at hl 1 rfl) ?_
  refine lv_if_ge (tgt := 8) hx hb dX4_remove_1 (by decide) (fun c_1 => ?_) (fun c_1 => ?_)
  · have c_1 : 0 ≤ i := (nI_leI (a := 0) (b := i) (by omega) (by omega)).mp c_1
    refine lv_iload_n hx hb dX4_remove_8 rfl (lv_at hl 1 rfl) ?_
    refine lv_istore_n (lv' := [(3, .int (nI i)), (0, .ref r), (1, .int (nI i)), (2, .int (nI u))]) hx hb dX4_remove_9 rfl hl (by decide) rfl (fun ls hl => ?_)
    have loop_10 : ∀ (n9 : Nat) (k : Nat) (g : Nat → UInt64), u - k < n9 → ∀ (hk0 : i ≤ k) (hk1 : k ≤ u - 1) (hg : g = s_rm f i k) (H : Heap) (locs : List Loc) (hP : va_P D vwCl [(r, .inr (4, [.ref a])), (a, .inl (kd, N, .inr (.inr (.inr (.inl g)))))] H) (hD : va_D (my_A [(r, .inr (4, [.ref a])), (a, .inl (kd, N, .inr (.inr (.inr (.inl f)))))]) [(r, .inr (4, [.ref a])), (a, .inl (kd, N, .inr (.inr (.inr (.inl g)))))]) (hS : va_S (my_A [(r, .inr (4, [.ref a])), (a, .inl (kd, N, .inr (.inr (.inr (.inl f)))))]) s.heap H locs) (ls : Array Slot) (hl : lv_has ls 4 [(3, .int (nI k)), (0, .ref r), (1, .int (nI i)), (2, .int (nI u))]), W p l e ({ frames := 0, cells := 0, slots := 0, locals := 0 }) s m ([.ref r, .int (nI i), .int (nI u)] : List Value).toArray below meth c H locs 0 0 (my_WQ below D ([.ref r, .int (nI i), .int (nI u)] : List Value).toArray s [(r, .inr (4, [.ref a])), (a, .inl (kd, N, .inr (.inr (.inr (.inl f)))))] [(r, .inr (4, [.ref a])), (a, .inl (kd, N, .inr (.inr (.inr (.inl (s_rem f i u))))))] none) (F0 m 10 ls []) := by
      intro n9
      induction n9 with
      | zero => intro k g h9; exact absurd h9 (Nat.not_lt_zero _)
      | succ n9 ih_10 =>
        intro k g h9 hk0 hk1 hg H locs hP hD hS ls hl
        refine lv_iload_n hx hb dX4_remove_10 rfl (lv_at hl 0 rfl) ?_
        refine lv_iload_n hx hb dX4_remove_11 rfl (lv_at hl 3 rfl) ?_
        refine lv_iconst (v := 1) hx hb dX4_remove_12 (by decide) ?_
        refine my_isub (w := nI (u - 1)) hx hb dX4_remove_13 (pk_sub (a := u) (b := 1) (by omega)) ?_
        refine lv_icmp_ge (tgt := 48) hx hb dX4_remove_14 (by decide) (fun c_14 => ?_) (fun c_14 => ?_)
        · have c_14 : u - 1 ≤ k := (nI_leI (a := u - 1) (b := k) (by omega) (by omega)).mp c_14
          exact my_vretW hx hb hr hlocks hP (by rw [hg, show k = u - 1 by omega, s_rm_end]) hS dX4_remove_48
        · have c_14 : ¬ u - 1 ≤ k := fun h9 => c_14 ((nI_leI (a := u - 1) (b := k) (by omega) (by omega)).mpr h9)
          refine lv_iload_n hx hb dX4_remove_17 rfl (lv_at hl 0 rfl) ?_
          refine lv_aload_n hx hb dX4_remove_18 rfl (lv_at hl 1 rfl) ?_
          refine va_get (D := D) (ci := 4) (v := .ref a) (C := RX4) (T := TX4) (N := 1) hx hb hts iw_X4_remove_X4 hown hC.1 hP 0 rfl rfl 0 (by decide) (hts (.fieldLink RX4 7 "MonotoneSpline$Row" "cells" "[D") (List.mem_of_getElem? (l := wsX4_remove) (i := 1) rfl)) (fun _ h9 => h9) rfl dX4_remove_19 ?_
          refine va_alen (v := nI N) hx hb hC.1 hP 1 0 rfl rfl rfl dX4_remove_22 ?_
          refine lv_iconst (v := 1) hx hb dX4_remove_23 (by decide) ?_
          refine my_isub (w := nI (N - 1)) hx hb dX4_remove_24 (pk_sub (a := N) (b := 1) (by omega)) ?_
          refine lv_icmp_ge (tgt := 48) hx hb dX4_remove_25 (by decide) (fun c_25 => ?_) (fun c_25 => ?_)
          · have c_25 : N - 1 ≤ k := (nI_leI (a := N - 1) (b := k) (by omega) (by omega)).mp c_25
            exact absurd c_25 (by omega)
          · have c_25 : ¬ N - 1 ≤ k := fun h9 => c_25 ((nI_leI (a := N - 1) (b := k) (by omega) (by omega)).mpr h9)
            refine lv_aload_n hx hb dX4_remove_28 rfl (lv_at hl 1 rfl) ?_
            refine va_get (D := D) (ci := 4) (v := .ref a) (C := RX4) (T := TX4) (N := 1) hx hb hts iw_X4_remove_X4 hown hC.1 hP 0 rfl rfl 0 (by decide) (hts (.fieldLink RX4 7 "MonotoneSpline$Row" "cells" "[D") (List.mem_of_getElem? (l := wsX4_remove) (i := 1) rfl)) (fun _ h9 => h9) rfl dX4_remove_29 ?_
            refine lv_iload_n hx hb dX4_remove_32 rfl (lv_at hl 0 rfl) ?_
            refine lv_aload_n hx hb dX4_remove_33 rfl (lv_at hl 1 rfl) ?_
            refine va_get (D := D) (ci := 4) (v := .ref a) (C := RX4) (T := TX4) (N := 1) hx hb hts iw_X4_remove_X4 hown hC.1 hP 0 rfl rfl 0 (by decide) (hts (.fieldLink RX4 7 "MonotoneSpline$Row" "cells" "[D") (List.mem_of_getElem? (l := wsX4_remove) (i := 1) rfl)) (fun _ h9 => h9) rfl dX4_remove_34 ?_
            refine lv_iload_n hx hb dX4_remove_37 rfl (lv_at hl 0 rfl) ?_
            refine lv_iconst (v := 1) hx hb dX4_remove_38 (by decide) ?_
            refine my_iadd (w := nI (k + 1)) hx hb dX4_remove_39 (nI_add k 1) ?_
            refine my_dald (k := k + 1) (n := N) (f := g) hx hb hC hP 1 rfl (by omega) (by omega) dX4_remove_40 ?_
            refine my_dast (k := k) (n := N) (f := g) (wx' := [(r, .inr (4, [.ref a])), (a, .inl (kd, N, .inr (.inr (.inr (.inl (vf_upd g k (g (k + 1))))))))]) hx hb hC hP hD hS 1 rfl (by omega) (by omega) rfl dX4_remove_41 (fun H locs hP hD hS => ?_)
            refine lv_iinc (v := nI (k + 1)) (k := 0) (lv' := [(3, .int (nI (k + 1))), (0, .ref r), (1, .int (nI i)), (2, .int (nI u))]) hx hb dX4_remove_42 hl rfl (nI_add k 1) (by decide) rfl (fun ls hl => ?_)
            refine lv_goto (tgt := 10) hx hb dX4_remove_45 (by decide) ?_
            exact ih_10 (k + 1) (vf_upd g k (g (k + 1))) (by omega) (by omega) (by omega) (by rw [hg]; exact s_rm_d hk0) _ _ hP hD hS _ (lv_sub hl [0, 1, 2, 3] rfl)
    exact loop_10 _ i f (Nat.lt_succ_self _) (by omega) (by omega) ((s_rm_0 f i).symm) _ _ hP hD hS _ (lv_sub hl [0, 1, 2, 3] rfl)
  · have c_1 : ¬ 0 ≤ i := fun h9 => c_1 ((nI_leI (a := 0) (b := i) (by omega) (by omega)).mpr h9)
    exact absurd (Nat.zero_le _) c_1

theorem iw_X1_hasFixedSlope_X1 : ∀ w ∈ wsX10, w ∈ wsX1_hasFixedSlope := fun w h => List.mem_cons_of_mem _ (List.mem_append_left _ (List.mem_append_right _ (h)))
set_option maxHeartbeats 4000000 in
set_option maxRecDepth 100000 in
theorem kk_X1_hasFixedSlope (l : Launch) (D : va_G) (kd ki kz kl : ClassId) (z : Nat) (ad : Nat → Nat) (kn : Nat) (F : Nat → UInt64) (k : Nat) (hk : k < 60) (hF : F k = 13830554455654793216 ∨ (fx_n (F k) ∧ fx_p (F k))) : my_RO l D kd ki kz kl z yX1_hasFixedSlope wsX1_hasFixedSlope ({ frames := 1, cells := 0, slots := 0, locals := 21 }) [.ref (ad 14), .int (nI k)] [(ad 14, .inr (1, [.ref (ad 15), .ref (ad 17), .ref (ad 19), .int (nI kn)])), (ad 19, .inr (4, [.ref (ad 20)])), (ad 20, .inl (kd, 60, .inr (.inr (.inr (.inl F)))))] (some (.int (if F k = 13830554455654793216 then 0 else 1))) := by
  refine my_RO_of (cc := cX1_hasFixedSlope) (maxL := 2) (ret := (some .boolean)) (by decide) rfl (Nat.le_of_ble_eq_true rfl) ?_
  intro p e s m below meth c S hr hlocks hC hP ls hl
  have S : CallFix p m c cX1_hasFixedSlope 2 s ([.ref (ad 14), .int (nI k)] : List Value).toArray wsX1_hasFixedSlope RX1 := S
  obtain ⟨hx, hb, hml, hown, hts⟩ := id S
  have hl : lv_has ls 2 [(0, .ref (ad 14)), (1, .int (nI k))] := hl
  refine lv_aload_n hx hb dX1_hasFixedSlope_0 rfl (lv_at hl 0 rfl) ?_
  refine va_get (D := D) (ci := 1) (v := .ref (ad 19)) (C := RX1) (T := TX1) (N := 4) hx hb hts iw_X1_hasFixedSlope_X1 hown hC.1 hP 0 rfl rfl 2 (by decide) (hts (.fieldLink RX1 23 "MonotoneSpline$Knots" "fixedSlopes" "LMonotoneSpline$Row;") (List.mem_of_getElem? (l := wsX1_hasFixedSlope) (i := 1) rfl)) (fun _ h9 => h9) rfl dX1_hasFixedSlope_1 ?_
  refine lv_iload_n hx hb dX1_hasFixedSlope_4 rfl (lv_at hl 1 rfl) ?_
  refine my_goR (v := (some (.double (F k)))) (my_runV (bytes := cX4_get) (maxL := 2) (ret := (some .double)) (n := 1) (As := [.int (nI k)]) (rest := []) S hl.1 (kk_X4_get l D kd ki kz kl z (ad 19) (ad 20) 60 F k (by omega) (by omega)) rfl ⟨rfl, rfl⟩ gX1_hasFixedSlope_X4_get (by decide +kernel) rfl ⟨Nat.le_of_ble_eq_true rfl, Nat.le_of_ble_eq_true rfl⟩ (my_preR hC (my_P_sub (wc := [(ad 19, .inr (4, [.ref (ad 20)])), (ad 20, .inl (kd, 60, .inr (.inr (.inr (.inl F)))))]) hP [1, 2] rfl)) (va_recv hC.1 hP (ci := 4) (q0 := 1) rfl rfl) rfl rfl dX1_hasFixedSlope_5) ?_
  refine W.eq (g2 := F0 m 8 ls [.double (F k)]) rfl ?_
  refine lv_dconst0 hx hb dX1_hasFixedSlope_8 ?_
  refine my_topd (w := 0) (by decide) ?_
  refine lv_dcmp hx hb dX1_hasFixedSlope_9 ?_
  refine lv_if_lt (tgt := 17) hx hb dX1_hasFixedSlope_10 (by decide) (fun c_10 => ?_) (fun c_10 => ?_)
  · have c_10 := cv_l_lt_t c_10
    refine lv_iconst (v := 0) hx hb dX1_hasFixedSlope_17 (by decide) ?_
    exact my_zretR hx hb hr hlocks ((if_pos (Decidable.byContradiction (fun h9 => c_10 (s_fix_f hF h9)))).symm) (rfl) dX1_hasFixedSlope_18
  · have c_10 := cv_l_lt_f c_10
    refine lv_iconst (v := 1) hx hb dX1_hasFixedSlope_13 (by decide) ?_
    refine lv_goto (tgt := 18) hx hb dX1_hasFixedSlope_14 (by decide) ?_
    exact my_zretR hx hb hr hlocks ((if_neg (fun h9 => s_fix_t hF h9 c_10)).symm) (rfl) dX1_hasFixedSlope_18

theorem iw_X1_unfixedSlopeOf_X1 : ∀ w ∈ wsX10, w ∈ wsX1_unfixedSlopeOf := fun w h => List.mem_cons_of_mem _ (List.mem_append_left _ (List.mem_append_right _ (h)))
set_option maxHeartbeats 4000000 in
set_option maxRecDepth 100000 in
theorem kk_X1_unfixedSlopeOf (l : Launch) (D : va_G) (kd ki kz kl : ClassId) (z : Nat) (ad : Nat → Nat) (kn : Nat) (P : Nat → UInt64) (V : Nat → UInt64) (k : Nat) (a : UInt64) (b : UInt64) (hJ : KJ kn P V) (hk : k < kn) (ha : fx_B 1080 a ∧ fx_p a ∧ fx_n a) (hbb : fx_B 1080 b ∧ fx_p b ∧ fx_n b) : my_RO l D kd ki kz kl z yX1_unfixedSlopeOf wsX1_unfixedSlopeOf ({ frames := 2, cells := 0, slots := 0, locals := 42 }) [.ref (ad 14), .int (nI k), .double a, .double b] [(ad 14, .inr (1, [.ref (ad 15), .ref (ad 17), .ref (ad 19), .int (nI kn)])), (ad 15, .inr (4, [.ref (ad 16)])), (ad 16, .inl (kd, 60, .inr (.inr (.inr (.inl P)))))] (some (.double (s_un P kn k a b))) := by
  refine my_RO_of (cc := cX1_unfixedSlopeOf) (maxL := 10) (ret := (some .double)) (by decide) rfl (Nat.le_of_ble_eq_true rfl) ?_
  intro p e s m below meth c S hr hlocks hC hP ls hl
  have S : CallFix p m c cX1_unfixedSlopeOf 10 s ([.ref (ad 14), .int (nI k), .double a, .double b] : List Value).toArray wsX1_unfixedSlopeOf RX1 := S
  obtain ⟨hx, hb, hml, hown, hts⟩ := id S
  have hl : lv_has ls 10 [(0, .ref (ad 14)), (1, .int (nI k)), (2, .double a), (4, .double b)] := hl
  have hkn := hJ.2.1
  have hkn2 := hJ.1
  refine lv_iload_n hx hb dX1_unfixedSlopeOf_0 rfl (lv_at hl 1 rfl) ?_
  refine lv_if_le (tgt := 14) hx hb dX1_unfixedSlopeOf_1 (by decide) (fun c_1 => ?_) (fun c_1 => ?_)
  · have c_1 : k ≤ 0 := (nI_leI (a := k) (b := 0) (by omega) (by omega)).mp c_1
    refine lv_dload_n hx hb dX1_unfixedSlopeOf_14 rfl (lv_at hl 2 rfl) ?_
    exact my_dretR hx hb hr hlocks ((if_pos (Or.inl (by omega))).symm) dX1_unfixedSlopeOf_15
  · have c_1 : ¬ k ≤ 0 := fun h9 => c_1 ((nI_leI (a := k) (b := 0) (by omega) (by omega)).mpr h9)
    refine lv_iload_n hx hb dX1_unfixedSlopeOf_4 rfl (lv_at hl 1 rfl) ?_
    refine lv_aload_n hx hb dX1_unfixedSlopeOf_5 rfl (lv_at hl 0 rfl) ?_
    refine va_get (D := D) (ci := 1) (v := .int (nI kn)) (C := RX1) (T := TX1) (N := 4) hx hb hts iw_X1_unfixedSlopeOf_X1 hown hC.1 hP 0 rfl rfl 3 (by decide) (hts (.fieldLink RX1 26 "MonotoneSpline$Knots" "count" "I") (List.mem_of_getElem? (l := wsX1_unfixedSlopeOf) (i := 1) rfl)) (fun _ h9 => h9) rfl dX1_unfixedSlopeOf_6 ?_
    refine lv_iconst (v := 1) hx hb dX1_unfixedSlopeOf_9 (by decide) ?_
    refine my_isub (w := nI (kn - 1)) hx hb dX1_unfixedSlopeOf_10 (pk_sub (a := kn) (b := 1) (by omega)) ?_
    refine lv_icmp_lt (tgt := 16) hx hb dX1_unfixedSlopeOf_11 (by decide) (fun c_11 => ?_) (fun c_11 => ?_)
    · have c_11 : k < kn - 1 := (nI_ltI (a := k) (b := kn - 1) (by omega) (by omega)).mp c_11
      refine lv_dload_n hx hb dX1_unfixedSlopeOf_16 rfl (lv_at hl 2 rfl) ?_
      refine lv_dconst0 hx hb dX1_unfixedSlopeOf_17 ?_
      refine my_topd (w := 0) (by decide) ?_
      refine lv_dcmp hx hb dX1_unfixedSlopeOf_18 ?_
      refine lv_if_eq (tgt := 29) hx hb dX1_unfixedSlopeOf_19 (by decide) (fun c_19 => ?_) (fun c_19 => ?_)
      · have c_19 := cv_l_eq_t c_19
        refine lv_dconst0 hx hb dX1_unfixedSlopeOf_29 ?_
        refine my_topd (w := 0) (by decide) ?_
        exact my_dretR hx hb hr hlocks (((if_neg (by omega)).trans (if_pos (Or.inl c_19))).symm) dX1_unfixedSlopeOf_30
      · have c_19 := cv_l_eq_f c_19
        refine lv_dload hx hb dX1_unfixedSlopeOf_22 (lv_at hl 3 rfl) ?_
        refine lv_dconst0 hx hb dX1_unfixedSlopeOf_24 ?_
        refine my_topd (w := 0) (by decide) ?_
        refine lv_dcmp hx hb dX1_unfixedSlopeOf_25 ?_
        refine lv_if_ne (tgt := 31) hx hb dX1_unfixedSlopeOf_26 (by decide) (fun c_26 => ?_) (fun c_26 => ?_)
        · have c_26 := cv_l_eq_f c_26
          have hk0 : 0 < k := by omega
          have hk1 : k + 1 < kn := by omega
          have hf := kJ_f hJ hk0 hk1 ha hbb c_19 c_26
          have hv := kJ_v hJ hk0 hk1
          refine lv_ldc2d hx hb hown (hts (.constantDouble RX1 66 (4611686018427387904)) (List.mem_of_getElem? (l := wsX1_unfixedSlopeOf) (i := 2) rfl)) dX1_unfixedSlopeOf_31 ?_
          refine lv_aload_n hx hb dX1_unfixedSlopeOf_34 rfl (lv_at hl 0 rfl) ?_
          refine lv_iload_n hx hb dX1_unfixedSlopeOf_35 rfl (lv_at hl 1 rfl) ?_
          refine my_goR (v := (some (.double (s_w P k)))) (my_runV (bytes := cX1_widthOf) (maxL := 2) (ret := (some .double)) (n := 1) (As := [.int (nI k)]) (rest := [.double 4611686018427387904]) S hl.1 (kk_X1_widthOf l D kd ki kz kl z ad kn P k (by omega) ((kJ_w1 hJ hk1).2.2.2)) rfl ⟨rfl, rfl⟩ gX1_unfixedSlopeOf_X1_widthOf (by decide +kernel) rfl ⟨Nat.le_of_ble_eq_true rfl, Nat.le_of_ble_eq_true rfl⟩ (my_preR hC (my_P_sub (wc := [(ad 14, .inr (1, [.ref (ad 15), .ref (ad 17), .ref (ad 19), .int (nI kn)])), (ad 15, .inr (4, [.ref (ad 16)])), (ad 16, .inl (kd, 60, .inr (.inr (.inr (.inl P)))))]) hP [0, 1, 2] rfl)) (va_recv hC.1 hP (ci := 1) (q0 := 0) rfl rfl) rfl rfl dX1_unfixedSlopeOf_36) ?_
          refine W.eq (g2 := F0 m 39 ls [.double (s_w P k), .double 4611686018427387904]) rfl ?_
          refine lv_dmul hx hb dX1_unfixedSlopeOf_39 (fx_n64 (hv.1)) ?_
          refine lv_aload_n hx hb dX1_unfixedSlopeOf_40 rfl (lv_at hl 0 rfl) ?_
          refine lv_iload_n hx hb dX1_unfixedSlopeOf_41 rfl (lv_at hl 1 rfl) ?_
          refine lv_iconst (v := 1) hx hb dX1_unfixedSlopeOf_42 (by decide) ?_
          refine my_isub (w := nI (k - 1)) hx hb dX1_unfixedSlopeOf_43 (pk_sub (a := k) (b := 1) (by omega)) ?_
          refine my_goR (v := (some (.double (s_w P (k - 1))))) (my_runV (bytes := cX1_widthOf) (maxL := 2) (ret := (some .double)) (n := 1) (As := [.int (nI (k - 1))]) (rest := [.double (FP.dmul 4611686018427387904 (s_w P k))]) S hl.1 (kk_X1_widthOf l D kd ki kz kl z ad kn P (k - 1) (by omega) ((kJ_w1 hJ (k := k - 1) (by omega)).2.2.2)) rfl ⟨rfl, rfl⟩ gX1_unfixedSlopeOf_X1_widthOf (by decide +kernel) rfl ⟨Nat.le_of_ble_eq_true rfl, Nat.le_of_ble_eq_true rfl⟩ (my_preR hC (my_P_sub (wc := [(ad 14, .inr (1, [.ref (ad 15), .ref (ad 17), .ref (ad 19), .int (nI kn)])), (ad 15, .inr (4, [.ref (ad 16)])), (ad 16, .inl (kd, 60, .inr (.inr (.inr (.inl P)))))]) hP [0, 1, 2] rfl)) (va_recv hC.1 hP (ci := 1) (q0 := 0) rfl rfl) rfl rfl dX1_unfixedSlopeOf_44) ?_
          refine W.eq (g2 := F0 m 47 ls [.double (s_w P (k - 1)), .double (FP.dmul 4611686018427387904 (s_w P k))]) rfl ?_
          refine lv_dadd hx hb dX1_unfixedSlopeOf_47 (fx_n64 (hv.2.2.1)) ?_
          refine lv_dstore (lv' := [(6, .double (FP.dadd (FP.dmul 4611686018427387904 (s_w P k)) (s_w P (k - 1)))), (0, .ref (ad 14)), (1, .int (nI k)), (2, .double a), (4, .double b)]) hx hb dX1_unfixedSlopeOf_48 hl (by decide) rfl (fun ls hl => ?_)
          refine lv_aload_n hx hb dX1_unfixedSlopeOf_50 rfl (lv_at hl 1 rfl) ?_
          refine lv_iload_n hx hb dX1_unfixedSlopeOf_51 rfl (lv_at hl 2 rfl) ?_
          refine my_goR (v := (some (.double (s_w P k)))) (my_runV (bytes := cX1_widthOf) (maxL := 2) (ret := (some .double)) (n := 1) (As := [.int (nI k)]) (rest := []) S hl.1 (kk_X1_widthOf l D kd ki kz kl z ad kn P k (by omega) ((kJ_w1 hJ hk1).2.2.2)) rfl ⟨rfl, rfl⟩ gX1_unfixedSlopeOf_X1_widthOf (by decide +kernel) rfl ⟨Nat.le_of_ble_eq_true rfl, Nat.le_of_ble_eq_true rfl⟩ (my_preR hC (my_P_sub (wc := [(ad 14, .inr (1, [.ref (ad 15), .ref (ad 17), .ref (ad 19), .int (nI kn)])), (ad 15, .inr (4, [.ref (ad 16)])), (ad 16, .inl (kd, 60, .inr (.inr (.inr (.inl P)))))]) hP [0, 1, 2] rfl)) (va_recv hC.1 hP (ci := 1) (q0 := 0) rfl rfl) rfl rfl dX1_unfixedSlopeOf_52) ?_
          refine W.eq (g2 := F0 m 55 ls [.double (s_w P k)]) rfl ?_
          refine lv_ldc2d hx hb hown (hts (.constantDouble RX1 66 (4611686018427387904)) (List.mem_of_getElem? (l := wsX1_unfixedSlopeOf) (i := 2) rfl)) dX1_unfixedSlopeOf_55 ?_
          refine lv_aload_n hx hb dX1_unfixedSlopeOf_58 rfl (lv_at hl 1 rfl) ?_
          refine lv_iload_n hx hb dX1_unfixedSlopeOf_59 rfl (lv_at hl 2 rfl) ?_
          refine lv_iconst (v := 1) hx hb dX1_unfixedSlopeOf_60 (by decide) ?_
          refine my_isub (w := nI (k - 1)) hx hb dX1_unfixedSlopeOf_61 (pk_sub (a := k) (b := 1) (by omega)) ?_
          refine my_goR (v := (some (.double (s_w P (k - 1))))) (my_runV (bytes := cX1_widthOf) (maxL := 2) (ret := (some .double)) (n := 1) (As := [.int (nI (k - 1))]) (rest := [.double 4611686018427387904, .double (s_w P k)]) S hl.1 (kk_X1_widthOf l D kd ki kz kl z ad kn P (k - 1) (by omega) ((kJ_w1 hJ (k := k - 1) (by omega)).2.2.2)) rfl ⟨rfl, rfl⟩ gX1_unfixedSlopeOf_X1_widthOf (by decide +kernel) rfl ⟨Nat.le_of_ble_eq_true rfl, Nat.le_of_ble_eq_true rfl⟩ (my_preR hC (my_P_sub (wc := [(ad 14, .inr (1, [.ref (ad 15), .ref (ad 17), .ref (ad 19), .int (nI kn)])), (ad 15, .inr (4, [.ref (ad 16)])), (ad 16, .inl (kd, 60, .inr (.inr (.inr (.inl P)))))]) hP [0, 1, 2] rfl)) (va_recv hC.1 hP (ci := 1) (q0 := 0) rfl rfl) rfl rfl dX1_unfixedSlopeOf_62) ?_
          refine W.eq (g2 := F0 m 65 ls [.double (s_w P (k - 1)), .double 4611686018427387904, .double (s_w P k)]) rfl ?_
          refine lv_dmul hx hb dX1_unfixedSlopeOf_65 (fx_n64 (hv.2.1)) ?_
          refine lv_dadd hx hb dX1_unfixedSlopeOf_66 (fx_n64 (hv.2.2.2.1)) ?_
          refine lv_dstore (lv' := [(8, .double (FP.dadd (s_w P k) (FP.dmul 4611686018427387904 (s_w P (k - 1))))), (6, .double (FP.dadd (FP.dmul 4611686018427387904 (s_w P k)) (s_w P (k - 1)))), (0, .ref (ad 14)), (1, .int (nI k)), (2, .double a), (4, .double b)]) hx hb dX1_unfixedSlopeOf_67 hl (by decide) rfl (fun ls hl => ?_)
          refine lv_dload hx hb dX1_unfixedSlopeOf_69 (lv_at hl 1 rfl) ?_
          refine lv_dload hx hb dX1_unfixedSlopeOf_71 (lv_at hl 0 rfl) ?_
          refine lv_dadd hx hb dX1_unfixedSlopeOf_73 (fx_n64 (hv.2.2.2.2)) ?_
          refine lv_dload hx hb dX1_unfixedSlopeOf_74 (lv_at hl 1 rfl) ?_
          refine lv_dload_n hx hb dX1_unfixedSlopeOf_76 rfl (lv_at hl 4 rfl) ?_
          refine lv_ddiv hx hb dX1_unfixedSlopeOf_77 (fx_n64 (hf.1)) ?_
          refine lv_dload hx hb dX1_unfixedSlopeOf_78 (lv_at hl 0 rfl) ?_
          refine lv_dload hx hb dX1_unfixedSlopeOf_80 (lv_at hl 5 rfl) ?_
          refine lv_ddiv hx hb dX1_unfixedSlopeOf_82 (fx_n64 (hf.2.1)) ?_
          refine lv_dadd hx hb dX1_unfixedSlopeOf_83 (fx_n64 (hf.2.2.1)) ?_
          refine my_goR (v := (some (.double (FP.ddiv (FP.dadd (FP.dadd (FP.dmul 4611686018427387904 (s_w P k)) (s_w P (k - 1))) (FP.dadd (s_w P k) (FP.dmul 4611686018427387904 (s_w P (k - 1))))) (FP.dadd (FP.ddiv (FP.dadd (FP.dmul 4611686018427387904 (s_w P k)) (s_w P (k - 1))) a) (FP.ddiv (FP.dadd (s_w P k) (FP.dmul 4611686018427387904 (s_w P (k - 1)))) b)))))) (my_runSN (bytes := cX6_ratio) (maxL := 4) (ret := (some .double)) (n := 2) (As := [.double (FP.dadd (FP.dadd (FP.dmul 4611686018427387904 (s_w P k)) (s_w P (k - 1))) (FP.dadd (s_w P k) (FP.dmul 4611686018427387904 (s_w P (k - 1))))), .double (FP.dadd (FP.ddiv (FP.dadd (FP.dmul 4611686018427387904 (s_w P k)) (s_w P (k - 1))) a) (FP.ddiv (FP.dadd (s_w P k) (FP.dmul 4611686018427387904 (s_w P (k - 1)))) b))]) (rest := []) S hl.1 (kk_X6_ratio l D kd ki kz kl z (FP.dadd (FP.dadd (FP.dmul 4611686018427387904 (s_w P k)) (s_w P (k - 1))) (FP.dadd (s_w P k) (FP.dmul 4611686018427387904 (s_w P (k - 1))))) (FP.dadd (FP.ddiv (FP.dadd (FP.dmul 4611686018427387904 (s_w P k)) (s_w P (k - 1))) a) (FP.ddiv (FP.dadd (s_w P k) (FP.dmul 4611686018427387904 (s_w P (k - 1)))) b)) (hf.2.2.2.1) (hf.2.2.2.2.1)) rfl ⟨rfl, rfl⟩ gX1_unfixedSlopeOf_X6_ratio_n49 (hC.2.1 _ (List.mem_of_getElem? (l := my_nest) (i := 14) rfl)) (List.mem_of_getElem? (l := wsX1_unfixedSlopeOf) (i := 16) rfl) (List.mem_of_getElem? (l := wsX1_unfixedSlopeOf) (i := 15) rfl) (by decide +kernel) rfl ⟨Nat.le_of_ble_eq_true rfl, Nat.le_of_ble_eq_true rfl⟩ (my_preR hC (my_P_sub (wc := []) hP [] rfl)) rfl rfl dX1_unfixedSlopeOf_84) ?_
          refine W.eq (g2 := F0 m 87 ls [.double (FP.ddiv (FP.dadd (FP.dadd (FP.dmul 4611686018427387904 (s_w P k)) (s_w P (k - 1))) (FP.dadd (s_w P k) (FP.dmul 4611686018427387904 (s_w P (k - 1))))) (FP.dadd (FP.ddiv (FP.dadd (FP.dmul 4611686018427387904 (s_w P k)) (s_w P (k - 1))) a) (FP.ddiv (FP.dadd (s_w P k) (FP.dmul 4611686018427387904 (s_w P (k - 1)))) b)))]) rfl ?_
          exact my_dretR hx hb hr hlocks (((if_neg (by omega)).trans (if_neg (fun h9 => h9.elim c_19 c_26))).symm) dX1_unfixedSlopeOf_87
        · have c_26 := cv_l_eq_t c_26
          refine lv_dconst0 hx hb dX1_unfixedSlopeOf_29 ?_
          refine my_topd (w := 0) (by decide) ?_
          exact my_dretR hx hb hr hlocks (((if_neg (by omega)).trans (if_pos (Or.inr c_26))).symm) dX1_unfixedSlopeOf_30
    · have c_11 : ¬ k < kn - 1 := fun h9 => c_11 ((nI_ltI (a := k) (b := kn - 1) (by omega) (by omega)).mpr h9)
      refine lv_dload_n hx hb dX1_unfixedSlopeOf_14 rfl (lv_at hl 2 rfl) ?_
      exact my_dretR hx hb hr hlocks ((if_pos (Or.inr (by omega))).symm) dX1_unfixedSlopeOf_15

theorem iw_X1_slopeOf_X1 : ∀ w ∈ wsX10, w ∈ wsX1_slopeOf := fun w h => List.mem_cons_of_mem _ (List.mem_append_left _ (List.mem_append_right _ (h)))
set_option maxHeartbeats 4000000 in
set_option maxRecDepth 100000 in
theorem kk_X1_slopeOf (l : Launch) (D : va_G) (kd ki kz kl : ClassId) (z : Nat) (ad : Nat → Nat) (kn : Nat) (P : Nat → UInt64) (V : Nat → UInt64) (F : Nat → UInt64) (k : Nat) (hI : KI kn P V F) (hk : k < kn) : my_RO l D kd ki kz kl z yX1_slopeOf wsX1_slopeOf ({ frames := 3, cells := 0, slots := 0, locals := 71 }) [.ref (ad 14), .int (nI k)] [(ad 14, .inr (1, [.ref (ad 15), .ref (ad 17), .ref (ad 19), .int (nI kn)])), (ad 15, .inr (4, [.ref (ad 16)])), (ad 16, .inl (kd, 60, .inr (.inr (.inr (.inl P))))), (ad 17, .inr (4, [.ref (ad 18)])), (ad 18, .inl (kd, 60, .inr (.inr (.inr (.inl V))))), (ad 19, .inr (4, [.ref (ad 20)])), (ad 20, .inl (kd, 60, .inr (.inr (.inr (.inl F)))))] (some (.double (s_s P V F kn k))) := by
  refine my_RO_of (cc := cX1_slopeOf) (maxL := 10) (ret := (some .double)) (by decide) rfl (Nat.le_of_ble_eq_true rfl) ?_
  intro p e s m below meth c S hr hlocks hC hP ls hl
  have S : CallFix p m c cX1_slopeOf 10 s ([.ref (ad 14), .int (nI k)] : List Value).toArray wsX1_slopeOf RX1 := S
  obtain ⟨hx, hb, hml, hown, hts⟩ := id S
  have hl : lv_has ls 10 [(0, .ref (ad 14)), (1, .int (nI k))] := hl
  have hJ := hI.1
  have hkn := hJ.2.1
  have hkn2 := hJ.1
  refine lv_aload_n hx hb dX1_slopeOf_0 rfl (lv_at hl 0 rfl) ?_
  have j_12 : ∀ (ls : Array Slot) (hl : lv_has ls 10 [(0, .ref (ad 14)), (1, .int (nI k))]), W p l e ({ frames := 3, cells := 0, slots := 0, locals := 71 }) s m ([.ref (ad 14), .int (nI k)] : List Value).toArray below meth c s.heap [] 0 0 (my_RQ below ([.ref (ad 14), .int (nI k)] : List Value).toArray s (some (.double (s_s P V F kn k)))) (F0 m 12 ls [.int (nI (k - 1)), .ref (ad 14)]) := by
    intro  ls hl
    refine my_goR (v := (some (.double (s_r P V (k - 1))))) (my_runV (bytes := cX1_riseOf) (maxL := 2) (ret := (some .double)) (n := 1) (As := [.int (nI (k - 1))]) (rest := []) S hl.1 (kk_X1_riseOf l D kd ki kz kl z ad kn P V (k - 1) (by omega) (hJ)) rfl ⟨rfl, rfl⟩ gX1_slopeOf_X1_riseOf (by decide +kernel) rfl ⟨Nat.le_of_ble_eq_true rfl, Nat.le_of_ble_eq_true rfl⟩ (my_preR hC (my_P_sub (wc := [(ad 14, .inr (1, [.ref (ad 15), .ref (ad 17), .ref (ad 19), .int (nI kn)])), (ad 15, .inr (4, [.ref (ad 16)])), (ad 16, .inl (kd, 60, .inr (.inr (.inr (.inl P))))), (ad 17, .inr (4, [.ref (ad 18)])), (ad 18, .inl (kd, 60, .inr (.inr (.inr (.inl V)))))]) hP [0, 1, 2, 3, 4] rfl)) (va_recv hC.1 hP (ci := 1) (q0 := 0) rfl rfl) rfl rfl dX1_slopeOf_12) ?_
    refine W.eq (g2 := F0 m 15 ls [.double (s_r P V (k - 1))]) rfl ?_
    refine my_topd (w := s_a P V k) (rfl) ?_
    refine lv_dstore_n (lv' := [(2, .double (s_a P V k)), (0, .ref (ad 14)), (1, .int (nI k))]) hx hb dX1_slopeOf_15 rfl hl (by decide) rfl (fun ls hl => ?_)
    refine lv_aload_n hx hb dX1_slopeOf_16 rfl (lv_at hl 1 rfl) ?_
    have j_37 : ∀ (ls : Array Slot) (hl : lv_has ls 10 [(2, .double (s_a P V k)), (0, .ref (ad 14)), (1, .int (nI k))]), W p l e ({ frames := 3, cells := 0, slots := 0, locals := 71 }) s m ([.ref (ad 14), .int (nI k)] : List Value).toArray below meth c s.heap [] 0 0 (my_RQ below ([.ref (ad 14), .int (nI k)] : List Value).toArray s (some (.double (s_s P V F kn k)))) (F0 m 37 ls [.int (nI (s_bi kn k)), .ref (ad 14)]) := by
      intro  ls hl
      refine my_goR (v := (some (.double (s_r P V (s_bi kn k))))) (my_runV (bytes := cX1_riseOf) (maxL := 2) (ret := (some .double)) (n := 1) (As := [.int (nI (s_bi kn k))]) (rest := []) S hl.1 (kk_X1_riseOf l D kd ki kz kl z ad kn P V (s_bi kn k) (s_bi_lt hkn2) (hJ)) rfl ⟨rfl, rfl⟩ gX1_slopeOf_X1_riseOf (by decide +kernel) rfl ⟨Nat.le_of_ble_eq_true rfl, Nat.le_of_ble_eq_true rfl⟩ (my_preR hC (my_P_sub (wc := [(ad 14, .inr (1, [.ref (ad 15), .ref (ad 17), .ref (ad 19), .int (nI kn)])), (ad 15, .inr (4, [.ref (ad 16)])), (ad 16, .inl (kd, 60, .inr (.inr (.inr (.inl P))))), (ad 17, .inr (4, [.ref (ad 18)])), (ad 18, .inl (kd, 60, .inr (.inr (.inr (.inl V)))))]) hP [0, 1, 2, 3, 4] rfl)) (va_recv hC.1 hP (ci := 1) (q0 := 0) rfl rfl) rfl rfl dX1_slopeOf_37) ?_
      refine W.eq (g2 := F0 m 40 ls [.double (s_r P V (s_bi kn k))]) rfl ?_
      refine my_topd (w := s_b P V kn k) (rfl) ?_
      refine lv_dstore (lv' := [(4, .double (s_b P V kn k)), (2, .double (s_a P V k)), (0, .ref (ad 14)), (1, .int (nI k))]) hx hb dX1_slopeOf_40 hl (by decide) rfl (fun ls hl => ?_)
      refine lv_ldc2d hx hb hown (hts (.constantDouble RX1 56 (4613937818241073152)) (List.mem_of_getElem? (l := wsX1_slopeOf) (i := 2) rfl)) dX1_slopeOf_42 ?_
      have j_58 : ∀ (ls : Array Slot) (hl : lv_has ls 10 [(4, .double (s_b P V kn k)), (2, .double (s_a P V k)), (0, .ref (ad 14)), (1, .int (nI k))]), W p l e ({ frames := 3, cells := 0, slots := 0, locals := 71 }) s m ([.ref (ad 14), .int (nI k)] : List Value).toArray below meth c s.heap [] 0 0 (my_RQ below ([.ref (ad 14), .int (nI k)] : List Value).toArray s (some (.double (s_s P V F kn k)))) (F0 m 58 ls [.double (s_min (s_a P V k) (s_b P V kn k)), .double 4613937818241073152]) := by
        intro  ls hl
        refine lv_dmul hx hb dX1_slopeOf_58 (fx_n64 ((kJ_most hJ hk).2.2)) ?_
        refine my_topd (w := s_most P V kn k) (rfl) ?_
        refine lv_dstore (lv' := [(6, .double (s_most P V kn k)), (4, .double (s_b P V kn k)), (2, .double (s_a P V k)), (0, .ref (ad 14)), (1, .int (nI k))]) hx hb dX1_slopeOf_59 hl (by decide) rfl (fun ls hl => ?_)
        have j_88 : ∀ (ls : Array Slot) (hl : lv_has ls 10 [(6, .double (s_most P V kn k)), (4, .double (s_b P V kn k)), (2, .double (s_a P V k)), (0, .ref (ad 14)), (1, .int (nI k))]), W p l e ({ frames := 3, cells := 0, slots := 0, locals := 71 }) s m ([.ref (ad 14), .int (nI k)] : List Value).toArray below meth c s.heap [] 0 0 (my_RQ below ([.ref (ad 14), .int (nI k)] : List Value).toArray s (some (.double (s_s P V F kn k)))) (F0 m 88 ls [.double (s_own P V F kn k)]) := by
          intro  ls hl
          refine lv_dstore (lv' := [(8, .double (s_own P V F kn k)), (6, .double (s_most P V kn k)), (4, .double (s_b P V kn k)), (2, .double (s_a P V k)), (0, .ref (ad 14)), (1, .int (nI k))]) hx hb dX1_slopeOf_88 hl (by decide) rfl (fun ls hl => ?_)
          refine lv_dload hx hb dX1_slopeOf_90 (lv_at hl 0 rfl) ?_
          refine lv_dload hx hb dX1_slopeOf_92 (lv_at hl 1 rfl) ?_
          refine lv_dcmp hx hb dX1_slopeOf_94 ?_
          refine lv_if_le (tgt := 103) hx hb dX1_slopeOf_95 (by decide) (fun c_95 => ?_) (fun c_95 => ?_)
          · have c_95 := cv_l_le_t c_95
            refine lv_dload hx hb dX1_slopeOf_103 (lv_at hl 0 rfl) ?_
            exact my_dretR hx hb hr hlocks ((if_neg c_95).symm) dX1_slopeOf_105
          · have c_95 := cv_l_le_f c_95
            refine lv_dload hx hb dX1_slopeOf_98 (lv_at hl 1 rfl) ?_
            refine lv_goto (tgt := 105) hx hb dX1_slopeOf_100 (by decide) ?_
            exact my_dretR hx hb hr hlocks ((if_pos c_95).symm) dX1_slopeOf_105
        refine lv_aload_n hx hb dX1_slopeOf_61 rfl (lv_at hl 3 rfl) ?_
        refine lv_iload_n hx hb dX1_slopeOf_62 rfl (lv_at hl 4 rfl) ?_
        refine my_goR (v := (some (.int (if F k = 13830554455654793216 then 0 else 1)))) (my_runV (bytes := cX1_hasFixedSlope) (maxL := 2) (ret := (some .boolean)) (n := 1) (As := [.int (nI k)]) (rest := []) S hl.1 (kk_X1_hasFixedSlope l D kd ki kz kl z ad kn F k (by omega) (hI.2 k hk)) rfl ⟨rfl, rfl⟩ gX1_slopeOf_X1_hasFixedSlope (by decide +kernel) rfl ⟨Nat.le_of_ble_eq_true rfl, Nat.le_of_ble_eq_true rfl⟩ (my_preR hC (my_P_sub (wc := [(ad 14, .inr (1, [.ref (ad 15), .ref (ad 17), .ref (ad 19), .int (nI kn)])), (ad 19, .inr (4, [.ref (ad 20)])), (ad 20, .inl (kd, 60, .inr (.inr (.inr (.inl F)))))]) hP [0, 5, 6] rfl)) (va_recv hC.1 hP (ci := 1) (q0 := 0) rfl rfl) rfl rfl dX1_slopeOf_63) ?_
        refine W.eq (g2 := F0 m 66 ls [.int (if F k = 13830554455654793216 then 0 else 1)]) rfl ?_
        by_cases h63 : F k = 13830554455654793216
        · rw [if_pos h63]
          refine lv_if_eq (tgt := 80) hx hb dX1_slopeOf_66 (by decide) (fun c_66 => ?_) (fun c_66 => ?_)
          · skip
            refine lv_aload_n hx hb dX1_slopeOf_80 rfl (lv_at hl 3 rfl) ?_
            refine lv_iload_n hx hb dX1_slopeOf_81 rfl (lv_at hl 4 rfl) ?_
            refine lv_dload_n hx hb dX1_slopeOf_82 rfl (lv_at hl 2 rfl) ?_
            refine lv_dload hx hb dX1_slopeOf_83 (lv_at hl 1 rfl) ?_
            refine my_goR (v := (some (.double (s_un P kn k (s_a P V k) (s_b P V kn k))))) (my_runV (bytes := cX1_unfixedSlopeOf) (maxL := 10) (ret := (some .double)) (n := 3) (As := [.int (nI k), .double (s_a P V k), .double (s_b P V kn k)]) (rest := []) S hl.1 (kk_X1_unfixedSlopeOf l D kd ki kz kl z ad kn P V k (s_a P V k) (s_b P V kn k) (hJ) (by omega) (kJ_a hJ hk) (kJ_b hJ)) rfl ⟨rfl, rfl⟩ gX1_slopeOf_X1_unfixedSlopeOf (by decide +kernel) rfl ⟨Nat.le_of_ble_eq_true rfl, Nat.le_of_ble_eq_true rfl⟩ (my_preR hC (my_P_sub (wc := [(ad 14, .inr (1, [.ref (ad 15), .ref (ad 17), .ref (ad 19), .int (nI kn)])), (ad 15, .inr (4, [.ref (ad 16)])), (ad 16, .inl (kd, 60, .inr (.inr (.inr (.inl P)))))]) hP [0, 1, 2] rfl)) (va_recv hC.1 hP (ci := 1) (q0 := 0) rfl rfl) rfl rfl dX1_slopeOf_85) ?_
            refine W.eq (g2 := F0 m 88 ls [.double (s_un P kn k (s_a P V k) (s_b P V kn k))]) rfl ?_
            refine my_topd (w := s_own P V F kn k) ((if_pos h63).symm) ?_
            exact j_88 _ (lv_sub hl [0, 1, 2, 3, 4] rfl)
          · skip
            first | exact absurd c_66 (by decide) | exact absurd (by decide) c_66
        · rw [if_neg h63]
          refine lv_if_eq (tgt := 80) hx hb dX1_slopeOf_66 (by decide) (fun c_66 => ?_) (fun c_66 => ?_)
          · skip
            first | exact absurd c_66 (by decide) | exact absurd (by decide) c_66
          · skip
            refine lv_aload_n hx hb dX1_slopeOf_69 rfl (lv_at hl 3 rfl) ?_
            refine va_get (D := D) (ci := 1) (v := .ref (ad 19)) (C := RX1) (T := TX1) (N := 4) hx hb hts iw_X1_slopeOf_X1 hown hC.1 hP 0 rfl rfl 2 (by decide) (hts (.fieldLink RX1 23 "MonotoneSpline$Knots" "fixedSlopes" "LMonotoneSpline$Row;") (List.mem_of_getElem? (l := wsX1_slopeOf) (i := 3) rfl)) (fun _ h9 => h9) rfl dX1_slopeOf_70 ?_
            refine lv_iload_n hx hb dX1_slopeOf_73 rfl (lv_at hl 4 rfl) ?_
            refine my_goR (v := (some (.double (F k)))) (my_runV (bytes := cX4_get) (maxL := 2) (ret := (some .double)) (n := 1) (As := [.int (nI k)]) (rest := []) S hl.1 (kk_X4_get l D kd ki kz kl z (ad 19) (ad 20) 60 F k (by omega) (by omega)) rfl ⟨rfl, rfl⟩ gX1_slopeOf_X4_get (by decide +kernel) rfl ⟨Nat.le_of_ble_eq_true rfl, Nat.le_of_ble_eq_true rfl⟩ (my_preR hC (my_P_sub (wc := [(ad 19, .inr (4, [.ref (ad 20)])), (ad 20, .inl (kd, 60, .inr (.inr (.inr (.inl F)))))]) hP [5, 6] rfl)) (va_recv hC.1 hP (ci := 4) (q0 := 5) rfl rfl) rfl rfl dX1_slopeOf_74) ?_
            refine W.eq (g2 := F0 m 77 ls [.double (F k)]) rfl ?_
            refine lv_goto (tgt := 88) hx hb dX1_slopeOf_77 (by decide) ?_
            refine my_topd (w := s_own P V F kn k) ((if_neg h63).symm) ?_
            exact j_88 _ (lv_sub hl [0, 1, 2, 3, 4] rfl)
      refine lv_dload_n hx hb dX1_slopeOf_45 rfl (lv_at hl 1 rfl) ?_
      refine lv_dload hx hb dX1_slopeOf_46 (lv_at hl 0 rfl) ?_
      refine lv_dcmp hx hb dX1_slopeOf_48 ?_
      refine lv_if_ge (tgt := 56) hx hb dX1_slopeOf_49 (by decide) (fun c_49 => ?_) (fun c_49 => ?_)
      · have c_49 := cv_g_ge_t c_49
        refine lv_dload hx hb dX1_slopeOf_56 (lv_at hl 0 rfl) ?_
        refine my_topd (w := s_min (s_a P V k) (s_b P V kn k)) ((if_neg c_49).symm) ?_
        exact j_58 _ (lv_sub hl [0, 1, 2, 3] rfl)
      · have c_49 := cv_g_ge_f c_49
        refine lv_dload_n hx hb dX1_slopeOf_52 rfl (lv_at hl 1 rfl) ?_
        refine lv_goto (tgt := 58) hx hb dX1_slopeOf_53 (by decide) ?_
        refine my_topd (w := s_min (s_a P V k) (s_b P V kn k)) ((if_pos c_49).symm) ?_
        exact j_58 _ (lv_sub hl [0, 1, 2, 3] rfl)
    refine lv_iload_n hx hb dX1_slopeOf_17 rfl (lv_at hl 2 rfl) ?_
    refine lv_aload_n hx hb dX1_slopeOf_18 rfl (lv_at hl 1 rfl) ?_
    refine va_get (D := D) (ci := 1) (v := .int (nI kn)) (C := RX1) (T := TX1) (N := 4) hx hb hts iw_X1_slopeOf_X1 hown hC.1 hP 0 rfl rfl 3 (by decide) (hts (.fieldLink RX1 26 "MonotoneSpline$Knots" "count" "I") (List.mem_of_getElem? (l := wsX1_slopeOf) (i := 1) rfl)) (fun _ h9 => h9) rfl dX1_slopeOf_19 ?_
    refine lv_iconst (v := 1) hx hb dX1_slopeOf_22 (by decide) ?_
    refine my_isub (w := nI (kn - 1)) hx hb dX1_slopeOf_23 (pk_sub (a := kn) (b := 1) (by omega)) ?_
    refine lv_icmp_ge (tgt := 31) hx hb dX1_slopeOf_24 (by decide) (fun c_24 => ?_) (fun c_24 => ?_)
    · have c_24 : kn - 1 ≤ k := (nI_leI (a := kn - 1) (b := k) (by omega) (by omega)).mp c_24
      refine lv_aload_n hx hb dX1_slopeOf_31 rfl (lv_at hl 1 rfl) ?_
      refine va_get (D := D) (ci := 1) (v := .int (nI kn)) (C := RX1) (T := TX1) (N := 4) hx hb hts iw_X1_slopeOf_X1 hown hC.1 hP 0 rfl rfl 3 (by decide) (hts (.fieldLink RX1 26 "MonotoneSpline$Knots" "count" "I") (List.mem_of_getElem? (l := wsX1_slopeOf) (i := 1) rfl)) (fun _ h9 => h9) rfl dX1_slopeOf_32 ?_
      refine lv_iconst (v := 2) hx hb dX1_slopeOf_35 (by decide) ?_
      refine my_isub (w := nI (kn - 2)) hx hb dX1_slopeOf_36 (pk_sub (a := kn) (b := 2) (by omega)) ?_
      refine my_topi (w := nI (s_bi kn k)) (by rw [s_bi, if_neg (by omega)]) ?_
      exact j_37 _ (lv_sub hl [0, 1, 2] rfl)
    · have c_24 : ¬ kn - 1 ≤ k := fun h9 => c_24 ((nI_leI (a := kn - 1) (b := k) (by omega) (by omega)).mpr h9)
      refine lv_iload_n hx hb dX1_slopeOf_27 rfl (lv_at hl 2 rfl) ?_
      refine lv_goto (tgt := 37) hx hb dX1_slopeOf_28 (by decide) ?_
      refine my_topi (w := nI (s_bi kn k)) (by rw [s_bi, if_pos (by omega)]) ?_
      exact j_37 _ (lv_sub hl [0, 1, 2] rfl)
  refine lv_iload_n hx hb dX1_slopeOf_1 rfl (lv_at hl 1 rfl) ?_
  refine lv_if_le (tgt := 11) hx hb dX1_slopeOf_2 (by decide) (fun c_2 => ?_) (fun c_2 => ?_)
  · have c_2 : k ≤ 0 := (nI_leI (a := k) (b := 0) (by omega) (by omega)).mp c_2
    refine lv_iconst (v := 0) hx hb dX1_slopeOf_11 (by decide) ?_
    refine my_topi (w := nI (k - 1)) (by rw [show k - 1 = 0 by omega]; rfl) ?_
    exact j_12 _ (lv_sub hl [0, 1] rfl)
  · have c_2 : ¬ k ≤ 0 := fun h9 => c_2 ((nI_leI (a := k) (b := 0) (by omega) (by omega)).mpr h9)
    refine lv_iload_n hx hb dX1_slopeOf_5 rfl (lv_at hl 1 rfl) ?_
    refine lv_iconst (v := 1) hx hb dX1_slopeOf_6 (by decide) ?_
    refine my_isub (w := nI (k - 1)) hx hb dX1_slopeOf_7 (pk_sub (a := k) (b := 1) (by omega)) ?_
    refine lv_goto (tgt := 12) hx hb dX1_slopeOf_8 (by decide) ?_
    exact j_12 _ (lv_sub hl [0, 1] rfl)

theorem iw_X1_pieceAt_X1 : ∀ w ∈ wsX10, w ∈ wsX1_pieceAt := fun w h => List.mem_cons_of_mem _ (List.mem_append_left _ (List.mem_append_right _ (h)))
set_option maxHeartbeats 4000000 in
set_option maxRecDepth 100000 in
theorem kk_X1_pieceAt (l : Launch) (D : va_G) (kd ki kz kl : ClassId) (z : Nat) (ad : Nat → Nat) (kn : Nat) (G : Nat → UInt64) (x : UInt64) (h2 : 2 ≤ kn) (h6 : kn ≤ 60) : my_RO l D kd ki kz kl z yX1_pieceAt wsX1_pieceAt ({ frames := 1, cells := 0, slots := 0, locals := 21 }) [.ref (ad 14), .double x] [(ad 14, .inr (1, [.ref (ad 15), .ref (ad 17), .ref (ad 19), .int (nI kn)])), (ad 15, .inr (4, [.ref (ad 16)])), (ad 16, .inl (kd, 60, .inr (.inr (.inr (.inl G)))))] (some (.int (nI (s_pc G kn x)))) := by
  refine my_RO_of (cc := cX1_pieceAt) (maxL := 4) (ret := (some .int)) (by decide) rfl (Nat.le_of_ble_eq_true rfl) ?_
  intro p e s m below meth c S hr hlocks hC hP ls hl
  have S : CallFix p m c cX1_pieceAt 4 s ([.ref (ad 14), .double x] : List Value).toArray wsX1_pieceAt RX1 := S
  obtain ⟨hx, hb, hml, hown, hts⟩ := id S
  have hl : lv_has ls 4 [(0, .ref (ad 14)), (1, .double x)] := hl
  refine lv_iconst (v := 0) hx hb dX1_pieceAt_0 (by decide) ?_
  refine lv_istore_n (lv' := [(3, .int 0), (0, .ref (ad 14)), (1, .double x)]) hx hb dX1_pieceAt_1 rfl hl (by decide) rfl (fun ls hl => ?_)
  have loop_2 : ∀ (n9 : Nat) (k : Nat), kn - k < n9 → ∀ (hk : k ≤ kn - 2) (hs : s_find (fun j => decide (sp_le (G (j + 1)) x)) (kn - 2 - k) k = s_pc G kn x) (ls : Array Slot) (hl : lv_has ls 4 [(3, .int (nI k)), (0, .ref (ad 14)), (1, .double x)]), W p l e ({ frames := 1, cells := 0, slots := 0, locals := 21 }) s m ([.ref (ad 14), .double x] : List Value).toArray below meth c s.heap [] 0 0 (my_RQ below ([.ref (ad 14), .double x] : List Value).toArray s (some (.int (nI (s_pc G kn x))))) (F0 m 2 ls []) := by
    intro n9
    induction n9 with
    | zero => intro k h9; exact absurd h9 (Nat.not_lt_zero _)
    | succ n9 ih_2 =>
      intro k h9 hk hs ls hl
      refine lv_iload_n hx hb dX1_pieceAt_2 rfl (lv_at hl 0 rfl) ?_
      refine lv_aload_n hx hb dX1_pieceAt_3 rfl (lv_at hl 1 rfl) ?_
      refine va_get (D := D) (ci := 1) (v := .int (nI kn)) (C := RX1) (T := TX1) (N := 4) hx hb hts iw_X1_pieceAt_X1 hown hC.1 hP 0 rfl rfl 3 (by decide) (hts (.fieldLink RX1 26 "MonotoneSpline$Knots" "count" "I") (List.mem_of_getElem? (l := wsX1_pieceAt) (i := 1) rfl)) (fun _ h9 => h9) rfl dX1_pieceAt_4 ?_
      refine lv_iconst (v := 2) hx hb dX1_pieceAt_7 (by decide) ?_
      refine my_isub (w := nI (kn - 2)) hx hb dX1_pieceAt_8 (pk_sub (a := kn) (b := 2) (by omega)) ?_
      refine lv_icmp_ge (tgt := 33) hx hb dX1_pieceAt_9 (by decide) (fun c_9 => ?_) (fun c_9 => ?_)
      · have c_9 : kn - 2 ≤ k := (nI_leI (a := kn - 2) (b := k) (by omega) (by omega)).mp c_9
        refine lv_iload_n hx hb dX1_pieceAt_33 rfl (lv_at hl 0 rfl) ?_
        exact my_iretR hx hb hr hlocks (by rw [← hs, show kn - 2 - k = 0 by omega]; rfl) dX1_pieceAt_34
      · have c_9 : ¬ kn - 2 ≤ k := fun h9 => c_9 ((nI_leI (a := kn - 2) (b := k) (by omega) (by omega)).mpr h9)
        refine lv_aload_n hx hb dX1_pieceAt_12 rfl (lv_at hl 1 rfl) ?_
        refine va_get (D := D) (ci := 1) (v := .ref (ad 15)) (C := RX1) (T := TX1) (N := 4) hx hb hts iw_X1_pieceAt_X1 hown hC.1 hP 0 rfl rfl 0 (by decide) (hts (.fieldLink RX1 14 "MonotoneSpline$Knots" "places" "LMonotoneSpline$Row;") (List.mem_of_getElem? (l := wsX1_pieceAt) (i := 2) rfl)) (fun _ h9 => h9) rfl dX1_pieceAt_13 ?_
        refine lv_iload_n hx hb dX1_pieceAt_16 rfl (lv_at hl 0 rfl) ?_
        refine lv_iconst (v := 1) hx hb dX1_pieceAt_17 (by decide) ?_
        refine my_iadd (w := nI (k + 1)) hx hb dX1_pieceAt_18 (nI_add k 1) ?_
        refine my_goR (v := (some (.double (G (k + 1))))) (my_runV (bytes := cX4_get) (maxL := 2) (ret := (some .double)) (n := 1) (As := [.int (nI (k + 1))]) (rest := []) S hl.1 (kk_X4_get l D kd ki kz kl z (ad 15) (ad 16) 60 G (k + 1) (by omega) (by omega)) rfl ⟨rfl, rfl⟩ gX1_pieceAt_X4_get (by decide +kernel) rfl ⟨Nat.le_of_ble_eq_true rfl, Nat.le_of_ble_eq_true rfl⟩ (my_preR hC (my_P_sub (wc := [(ad 15, .inr (4, [.ref (ad 16)])), (ad 16, .inl (kd, 60, .inr (.inr (.inr (.inl G)))))]) hP [1, 2] rfl)) (va_recv hC.1 hP (ci := 4) (q0 := 1) rfl rfl) rfl rfl dX1_pieceAt_19) ?_
        refine W.eq (g2 := F0 m 22 ls [.double (G (k + 1))]) rfl ?_
        refine lv_dload_n hx hb dX1_pieceAt_22 rfl (lv_at hl 2 rfl) ?_
        refine lv_dcmp hx hb dX1_pieceAt_23 ?_
        refine lv_if_gt (tgt := 33) hx hb dX1_pieceAt_24 (by decide) (fun c_24 => ?_) (fun c_24 => ?_)
        · have c_24 := cv_g_gt_t c_24
          refine lv_iload_n hx hb dX1_pieceAt_33 rfl (lv_at hl 0 rfl) ?_
          exact my_iretR hx hb hr hlocks (by rw [← hs, s_find_stop (decide_eq_false c_24)]) dX1_pieceAt_34
        · have c_24 := cv_g_gt_f c_24
          refine lv_iinc (v := nI (k + 1)) (k := 0) (lv' := [(3, .int (nI (k + 1))), (0, .ref (ad 14)), (1, .double x)]) hx hb dX1_pieceAt_27 hl rfl (nI_add k 1) (by decide) rfl (fun ls hl => ?_)
          refine lv_goto (tgt := 2) hx hb dX1_pieceAt_30 (by decide) ?_
          exact ih_2 (k + 1) (by omega) (by omega) (by rw [← hs, show kn - 2 - k = (kn - 2 - (k + 1)) + 1 by omega, s_find_step (decide_eq_true c_24)]) _ (lv_sub hl [0, 1, 2] rfl)
  exact loop_2 _ 0 (Nat.lt_succ_self _) (by omega) (rfl) _ (lv_sub hl [0, 1, 2] rfl)

theorem iw_X1_spansPlace_X1 : ∀ w ∈ wsX10, w ∈ wsX1_spansPlace := fun w h => List.mem_cons_of_mem _ (List.mem_append_left _ (List.mem_append_right _ (h)))
set_option maxHeartbeats 4000000 in
set_option maxRecDepth 100000 in
theorem kk_X1_spansPlace (l : Launch) (D : va_G) (kd ki kz kl : ClassId) (z : Nat) (ad : Nat → Nat) (kn : Nat) (G : Nat → UInt64) (x : UInt64) (h6 : kn ≤ 60) : my_RO l D kd ki kz kl z yX1_spansPlace wsX1_spansPlace ({ frames := 1, cells := 0, slots := 0, locals := 25 }) [.ref (ad 14), .double x] [(ad 14, .inr (1, [.ref (ad 15), .ref (ad 17), .ref (ad 19), .int (nI kn)])), (ad 15, .inr (4, [.ref (ad 16)])), (ad 16, .inl (kd, 60, .inr (.inr (.inr (.inl G)))))] (some (.int (if 0 < kn ∧ sp_ge x (G 0) ∧ sp_le x (G (kn - 1)) then 1 else 0))) := by
  refine my_RO_of (cc := cX1_spansPlace) (maxL := 3) (ret := (some .boolean)) (by decide) rfl (Nat.le_of_ble_eq_true rfl) ?_
  intro p e s m below meth c S hr hlocks hC hP ls hl
  have S : CallFix p m c cX1_spansPlace 3 s ([.ref (ad 14), .double x] : List Value).toArray wsX1_spansPlace RX1 := S
  obtain ⟨hx, hb, hml, hown, hts⟩ := id S
  have hl : lv_has ls 3 [(0, .ref (ad 14)), (1, .double x)] := hl
  refine lv_aload_n hx hb dX1_spansPlace_0 rfl (lv_at hl 0 rfl) ?_
  refine va_get (D := D) (ci := 1) (v := .int (nI kn)) (C := RX1) (T := TX1) (N := 4) hx hb hts iw_X1_spansPlace_X1 hown hC.1 hP 0 rfl rfl 3 (by decide) (hts (.fieldLink RX1 26 "MonotoneSpline$Knots" "count" "I") (List.mem_of_getElem? (l := wsX1_spansPlace) (i := 1) rfl)) (fun _ h9 => h9) rfl dX1_spansPlace_1 ?_
  refine lv_if_le (tgt := 39) hx hb dX1_spansPlace_4 (by decide) (fun c_4 => ?_) (fun c_4 => ?_)
  · have c_4 : kn ≤ 0 := (nI_leI (a := kn) (b := 0) (by omega) (by omega)).mp c_4
    refine lv_iconst (v := 0) hx hb dX1_spansPlace_39 (by decide) ?_
    exact my_zretR hx hb hr hlocks ((if_neg (fun h9 => by omega)).symm) (rfl) dX1_spansPlace_40
  · have c_4 : ¬ kn ≤ 0 := fun h9 => c_4 ((nI_leI (a := kn) (b := 0) (by omega) (by omega)).mpr h9)
    refine lv_aload_n hx hb dX1_spansPlace_7 rfl (lv_at hl 0 rfl) ?_
    refine va_get (D := D) (ci := 1) (v := .ref (ad 15)) (C := RX1) (T := TX1) (N := 4) hx hb hts iw_X1_spansPlace_X1 hown hC.1 hP 0 rfl rfl 0 (by decide) (hts (.fieldLink RX1 14 "MonotoneSpline$Knots" "places" "LMonotoneSpline$Row;") (List.mem_of_getElem? (l := wsX1_spansPlace) (i := 2) rfl)) (fun _ h9 => h9) rfl dX1_spansPlace_8 ?_
    refine lv_iconst (v := 0) hx hb dX1_spansPlace_11 (by decide) ?_
    refine my_goR (v := (some (.double (G 0)))) (my_runV (bytes := cX4_get) (maxL := 2) (ret := (some .double)) (n := 1) (As := [.int 0]) (rest := []) S hl.1 (kk_X4_get l D kd ki kz kl z (ad 15) (ad 16) 60 G 0 (by omega) (by omega)) rfl ⟨rfl, rfl⟩ gX1_spansPlace_X4_get (by decide +kernel) rfl ⟨Nat.le_of_ble_eq_true rfl, Nat.le_of_ble_eq_true rfl⟩ (my_preR hC (my_P_sub (wc := [(ad 15, .inr (4, [.ref (ad 16)])), (ad 16, .inl (kd, 60, .inr (.inr (.inr (.inl G)))))]) hP [1, 2] rfl)) (va_recv hC.1 hP (ci := 4) (q0 := 1) rfl rfl) rfl rfl dX1_spansPlace_12) ?_
    refine W.eq (g2 := F0 m 15 ls [.double (G 0)]) rfl ?_
    refine lv_aload_n hx hb dX1_spansPlace_15 rfl (lv_at hl 0 rfl) ?_
    refine va_get (D := D) (ci := 1) (v := .ref (ad 15)) (C := RX1) (T := TX1) (N := 4) hx hb hts iw_X1_spansPlace_X1 hown hC.1 hP 0 rfl rfl 0 (by decide) (hts (.fieldLink RX1 14 "MonotoneSpline$Knots" "places" "LMonotoneSpline$Row;") (List.mem_of_getElem? (l := wsX1_spansPlace) (i := 2) rfl)) (fun _ h9 => h9) rfl dX1_spansPlace_16 ?_
    refine lv_aload_n hx hb dX1_spansPlace_19 rfl (lv_at hl 0 rfl) ?_
    refine va_get (D := D) (ci := 1) (v := .int (nI kn)) (C := RX1) (T := TX1) (N := 4) hx hb hts iw_X1_spansPlace_X1 hown hC.1 hP 0 rfl rfl 3 (by decide) (hts (.fieldLink RX1 26 "MonotoneSpline$Knots" "count" "I") (List.mem_of_getElem? (l := wsX1_spansPlace) (i := 1) rfl)) (fun _ h9 => h9) rfl dX1_spansPlace_20 ?_
    refine lv_iconst (v := 1) hx hb dX1_spansPlace_23 (by decide) ?_
    refine my_isub (w := nI (kn - 1)) hx hb dX1_spansPlace_24 (pk_sub (a := kn) (b := 1) (by omega)) ?_
    refine my_goR (v := (some (.double (G (kn - 1))))) (my_runV (bytes := cX4_get) (maxL := 2) (ret := (some .double)) (n := 1) (As := [.int (nI (kn - 1))]) (rest := [.double (G 0)]) S hl.1 (kk_X4_get l D kd ki kz kl z (ad 15) (ad 16) 60 G (kn - 1) (by omega) (by omega)) rfl ⟨rfl, rfl⟩ gX1_spansPlace_X4_get (by decide +kernel) rfl ⟨Nat.le_of_ble_eq_true rfl, Nat.le_of_ble_eq_true rfl⟩ (my_preR hC (my_P_sub (wc := [(ad 15, .inr (4, [.ref (ad 16)])), (ad 16, .inl (kd, 60, .inr (.inr (.inr (.inl G)))))]) hP [1, 2] rfl)) (va_recv hC.1 hP (ci := 4) (q0 := 1) rfl rfl) rfl rfl dX1_spansPlace_25) ?_
    refine W.eq (g2 := F0 m 28 ls [.double (G (kn - 1)), .double (G 0)]) rfl ?_
    refine lv_dload_n hx hb dX1_spansPlace_28 rfl (lv_at hl 1 rfl) ?_
    refine my_goR (v := (some (.int (if sp_ge x (G 0) ∧ sp_le x (G (kn - 1)) then 1 else 0)))) (my_runSN (bytes := cX6_isFrom) (maxL := 6) (ret := (some .boolean)) (n := 3) (As := [.double (G 0), .double (G (kn - 1)), .double x]) (rest := []) S hl.1 (kk_X6_isFrom l D kd ki kz kl z (G 0) (G (kn - 1)) x) rfl ⟨rfl, rfl⟩ gX1_spansPlace_X6_isFrom_n42 (hC.2.1 _ (List.mem_of_getElem? (l := my_nest) (i := 16) rfl)) (List.mem_of_getElem? (l := wsX1_spansPlace) (i := 10) rfl) (List.mem_of_getElem? (l := wsX1_spansPlace) (i := 9) rfl) (by decide +kernel) rfl ⟨Nat.le_of_ble_eq_true rfl, Nat.le_of_ble_eq_true rfl⟩ (my_preR hC (my_P_sub (wc := []) hP [] rfl)) rfl rfl dX1_spansPlace_29) ?_
    refine W.eq (g2 := F0 m 32 ls [.int (if sp_ge x (G 0) ∧ sp_le x (G (kn - 1)) then 1 else 0)]) rfl ?_
    by_cases h29 : sp_ge x (G 0) ∧ sp_le x (G (kn - 1))
    · rw [if_pos h29]
      refine lv_if_eq (tgt := 39) hx hb dX1_spansPlace_32 (by decide) (fun c_32 => ?_) (fun c_32 => ?_)
      · skip
        first | exact absurd c_32 (by decide) | exact absurd (by decide) c_32
      · skip
        refine lv_iconst (v := 1) hx hb dX1_spansPlace_35 (by decide) ?_
        refine lv_goto (tgt := 40) hx hb dX1_spansPlace_36 (by decide) ?_
        exact my_zretR hx hb hr hlocks ((if_pos ⟨by omega, h29⟩).symm) (rfl) dX1_spansPlace_40
    · rw [if_neg h29]
      refine lv_if_eq (tgt := 39) hx hb dX1_spansPlace_32 (by decide) (fun c_32 => ?_) (fun c_32 => ?_)
      · skip
        refine lv_iconst (v := 0) hx hb dX1_spansPlace_39 (by decide) ?_
        exact my_zretR hx hb hr hlocks ((if_neg (fun h9 => h29 h9.2)).symm) (rfl) dX1_spansPlace_40
      · skip
        first | exact absurd c_32 (by decide) | exact absurd (by decide) c_32

theorem iw_X1_liesBetweenEnds_X1 : ∀ w ∈ wsX10, w ∈ wsX1_liesBetweenEnds := fun w h => List.mem_cons_of_mem _ (List.mem_append_left _ (List.mem_append_right _ (h)))
set_option maxHeartbeats 4000000 in
set_option maxRecDepth 100000 in
theorem kk_X1_liesBetweenEnds (l : Launch) (D : va_G) (kd ki kz kl : ClassId) (z : Nat) (ad : Nat → Nat) (kn : Nat) (G : Nat → UInt64) (x : UInt64) (h6 : kn ≤ 60) : my_RO l D kd ki kz kl z yX1_liesBetweenEnds wsX1_liesBetweenEnds ({ frames := 1, cells := 0, slots := 0, locals := 21 }) [.ref (ad 14), .double x] [(ad 14, .inr (1, [.ref (ad 15), .ref (ad 17), .ref (ad 19), .int (nI kn)])), (ad 15, .inr (4, [.ref (ad 16)])), (ad 16, .inl (kd, 60, .inr (.inr (.inr (.inl G)))))] (some (.int (if 0 < kn ∧ sp_gt x (G 0) ∧ sp_lt x (G (kn - 1)) then 1 else 0))) := by
  refine my_RO_of (cc := cX1_liesBetweenEnds) (maxL := 3) (ret := (some .boolean)) (by decide) rfl (Nat.le_of_ble_eq_true rfl) ?_
  intro p e s m below meth c S hr hlocks hC hP ls hl
  have S : CallFix p m c cX1_liesBetweenEnds 3 s ([.ref (ad 14), .double x] : List Value).toArray wsX1_liesBetweenEnds RX1 := S
  obtain ⟨hx, hb, hml, hown, hts⟩ := id S
  have hl : lv_has ls 3 [(0, .ref (ad 14)), (1, .double x)] := hl
  refine lv_aload_n hx hb dX1_liesBetweenEnds_0 rfl (lv_at hl 0 rfl) ?_
  refine va_get (D := D) (ci := 1) (v := .int (nI kn)) (C := RX1) (T := TX1) (N := 4) hx hb hts iw_X1_liesBetweenEnds_X1 hown hC.1 hP 0 rfl rfl 3 (by decide) (hts (.fieldLink RX1 26 "MonotoneSpline$Knots" "count" "I") (List.mem_of_getElem? (l := wsX1_liesBetweenEnds) (i := 1) rfl)) (fun _ h9 => h9) rfl dX1_liesBetweenEnds_1 ?_
  refine lv_if_le (tgt := 42) hx hb dX1_liesBetweenEnds_4 (by decide) (fun c_4 => ?_) (fun c_4 => ?_)
  · have c_4 : kn ≤ 0 := (nI_leI (a := kn) (b := 0) (by omega) (by omega)).mp c_4
    refine lv_iconst (v := 0) hx hb dX1_liesBetweenEnds_42 (by decide) ?_
    exact my_zretR hx hb hr hlocks ((if_neg (fun h9 => by omega)).symm) (rfl) dX1_liesBetweenEnds_43
  · have c_4 : ¬ kn ≤ 0 := fun h9 => c_4 ((nI_leI (a := kn) (b := 0) (by omega) (by omega)).mpr h9)
    refine lv_dload_n hx hb dX1_liesBetweenEnds_7 rfl (lv_at hl 1 rfl) ?_
    refine lv_aload_n hx hb dX1_liesBetweenEnds_8 rfl (lv_at hl 0 rfl) ?_
    refine va_get (D := D) (ci := 1) (v := .ref (ad 15)) (C := RX1) (T := TX1) (N := 4) hx hb hts iw_X1_liesBetweenEnds_X1 hown hC.1 hP 0 rfl rfl 0 (by decide) (hts (.fieldLink RX1 14 "MonotoneSpline$Knots" "places" "LMonotoneSpline$Row;") (List.mem_of_getElem? (l := wsX1_liesBetweenEnds) (i := 2) rfl)) (fun _ h9 => h9) rfl dX1_liesBetweenEnds_9 ?_
    refine lv_iconst (v := 0) hx hb dX1_liesBetweenEnds_12 (by decide) ?_
    refine my_goR (v := (some (.double (G 0)))) (my_runV (bytes := cX4_get) (maxL := 2) (ret := (some .double)) (n := 1) (As := [.int 0]) (rest := [.double x]) S hl.1 (kk_X4_get l D kd ki kz kl z (ad 15) (ad 16) 60 G 0 (by omega) (by omega)) rfl ⟨rfl, rfl⟩ gX1_liesBetweenEnds_X4_get (by decide +kernel) rfl ⟨Nat.le_of_ble_eq_true rfl, Nat.le_of_ble_eq_true rfl⟩ (my_preR hC (my_P_sub (wc := [(ad 15, .inr (4, [.ref (ad 16)])), (ad 16, .inl (kd, 60, .inr (.inr (.inr (.inl G)))))]) hP [1, 2] rfl)) (va_recv hC.1 hP (ci := 4) (q0 := 1) rfl rfl) rfl rfl dX1_liesBetweenEnds_13) ?_
    refine W.eq (g2 := F0 m 16 ls [.double (G 0), .double x]) rfl ?_
    refine lv_dcmp hx hb dX1_liesBetweenEnds_16 ?_
    refine lv_if_le (tgt := 42) hx hb dX1_liesBetweenEnds_17 (by decide) (fun c_17 => ?_) (fun c_17 => ?_)
    · have c_17 := cv_l_le_t c_17
      refine lv_iconst (v := 0) hx hb dX1_liesBetweenEnds_42 (by decide) ?_
      exact my_zretR hx hb hr hlocks ((if_neg (fun h9 => c_17 h9.2.1)).symm) (rfl) dX1_liesBetweenEnds_43
    · have c_17 := cv_l_le_f c_17
      refine lv_dload_n hx hb dX1_liesBetweenEnds_20 rfl (lv_at hl 1 rfl) ?_
      refine lv_aload_n hx hb dX1_liesBetweenEnds_21 rfl (lv_at hl 0 rfl) ?_
      refine va_get (D := D) (ci := 1) (v := .ref (ad 15)) (C := RX1) (T := TX1) (N := 4) hx hb hts iw_X1_liesBetweenEnds_X1 hown hC.1 hP 0 rfl rfl 0 (by decide) (hts (.fieldLink RX1 14 "MonotoneSpline$Knots" "places" "LMonotoneSpline$Row;") (List.mem_of_getElem? (l := wsX1_liesBetweenEnds) (i := 2) rfl)) (fun _ h9 => h9) rfl dX1_liesBetweenEnds_22 ?_
      refine lv_aload_n hx hb dX1_liesBetweenEnds_25 rfl (lv_at hl 0 rfl) ?_
      refine va_get (D := D) (ci := 1) (v := .int (nI kn)) (C := RX1) (T := TX1) (N := 4) hx hb hts iw_X1_liesBetweenEnds_X1 hown hC.1 hP 0 rfl rfl 3 (by decide) (hts (.fieldLink RX1 26 "MonotoneSpline$Knots" "count" "I") (List.mem_of_getElem? (l := wsX1_liesBetweenEnds) (i := 1) rfl)) (fun _ h9 => h9) rfl dX1_liesBetweenEnds_26 ?_
      refine lv_iconst (v := 1) hx hb dX1_liesBetweenEnds_29 (by decide) ?_
      refine my_isub (w := nI (kn - 1)) hx hb dX1_liesBetweenEnds_30 (pk_sub (a := kn) (b := 1) (by omega)) ?_
      refine my_goR (v := (some (.double (G (kn - 1))))) (my_runV (bytes := cX4_get) (maxL := 2) (ret := (some .double)) (n := 1) (As := [.int (nI (kn - 1))]) (rest := [.double x]) S hl.1 (kk_X4_get l D kd ki kz kl z (ad 15) (ad 16) 60 G (kn - 1) (by omega) (by omega)) rfl ⟨rfl, rfl⟩ gX1_liesBetweenEnds_X4_get (by decide +kernel) rfl ⟨Nat.le_of_ble_eq_true rfl, Nat.le_of_ble_eq_true rfl⟩ (my_preR hC (my_P_sub (wc := [(ad 15, .inr (4, [.ref (ad 16)])), (ad 16, .inl (kd, 60, .inr (.inr (.inr (.inl G)))))]) hP [1, 2] rfl)) (va_recv hC.1 hP (ci := 4) (q0 := 1) rfl rfl) rfl rfl dX1_liesBetweenEnds_31) ?_
      refine W.eq (g2 := F0 m 34 ls [.double (G (kn - 1)), .double x]) rfl ?_
      refine lv_dcmp hx hb dX1_liesBetweenEnds_34 ?_
      refine lv_if_ge (tgt := 42) hx hb dX1_liesBetweenEnds_35 (by decide) (fun c_35 => ?_) (fun c_35 => ?_)
      · have c_35 := cv_g_ge_t c_35
        refine lv_iconst (v := 0) hx hb dX1_liesBetweenEnds_42 (by decide) ?_
        exact my_zretR hx hb hr hlocks ((if_neg (fun h9 => c_35 h9.2.2)).symm) (rfl) dX1_liesBetweenEnds_43
      · have c_35 := cv_g_ge_f c_35
        refine lv_iconst (v := 1) hx hb dX1_liesBetweenEnds_38 (by decide) ?_
        refine lv_goto (tgt := 43) hx hb dX1_liesBetweenEnds_39 (by decide) ?_
        exact my_zretR hx hb hr hlocks ((if_pos ⟨by omega, c_17, c_35⟩).symm) (rfl) dX1_liesBetweenEnds_43

theorem iw_X1_clear_X1 : ∀ w ∈ wsX10, w ∈ wsX1_clear := fun w h => List.mem_cons_of_mem _ (List.mem_append_right _ (h))
set_option maxHeartbeats 4000000 in
set_option maxRecDepth 100000 in
theorem kk_X1_clear (l : Launch) (D : va_G) (kd ki kz kl : ClassId) (z : Nat) (ad : Nat → Nat) (kn : Nat) : my_WR l D kd ki kz kl z yX1_clear wsX1_clear ({ frames := 0, cells := 0, slots := 0, locals := 0 }) [.ref (ad 14)] [(ad 14, .inr (1, [.ref (ad 15), .ref (ad 17), .ref (ad 19), .int (nI kn)]))] [(ad 14, .inr (1, [.ref (ad 15), .ref (ad 17), .ref (ad 19), .int (nI 0)]))] none := by
  refine my_WR_of (cc := cX1_clear) (maxL := 1) (ret := none) (by decide) rfl (Nat.le_of_ble_eq_true rfl) ?_
  intro p e s m below meth c S hr hlocks hC hP hD hz hS ls hl
  have S : CallFix p m c cX1_clear 1 s ([.ref (ad 14)] : List Value).toArray wsX1_clear RX1 := S
  obtain ⟨hx, hb, hml, hown, hts⟩ := id S
  have hl : lv_has ls 1 [(0, .ref (ad 14))] := hl
  suffices K0 : ∀ (H : Heap) (locs : List Loc), va_P D vwCl [(ad 14, .inr (1, [.ref (ad 15), .ref (ad 17), .ref (ad 19), .int (nI kn)]))] H → va_D (my_A [(ad 14, .inr (1, [.ref (ad 15), .ref (ad 17), .ref (ad 19), .int (nI kn)]))]) [(ad 14, .inr (1, [.ref (ad 15), .ref (ad 17), .ref (ad 19), .int (nI kn)]))] → va_S (my_A [(ad 14, .inr (1, [.ref (ad 15), .ref (ad 17), .ref (ad 19), .int (nI kn)]))]) s.heap H locs → W p l e ({ frames := 0, cells := 0, slots := 0, locals := 0 }) s m ([.ref (ad 14)] : List Value).toArray below meth c H locs 0 0 (my_WQ below D ([.ref (ad 14)] : List Value).toArray s [(ad 14, .inr (1, [.ref (ad 15), .ref (ad 17), .ref (ad 19), .int (nI kn)]))] [(ad 14, .inr (1, [.ref (ad 15), .ref (ad 17), .ref (ad 19), .int (nI 0)]))] none) (F0 m 0 ls []) from K0 _ _ hP hD hS
  intro H locs hP hD hS
  refine lv_aload_n hx hb dX1_clear_0 rfl (lv_at hl 0 rfl) ?_
  refine lv_iconst (v := 0) hx hb dX1_clear_1 (by decide) ?_
  refine va_put (D := D) (ci := 1) (v := .int 0) (ty := .int) (C := RX1) (T := TX1) (N := 4) hx hb hts iw_X1_clear_X1 tyX1 tyX1_ok nmX1 hown hC.1 hP hD hS 0 rfl rfl 3 (by decide) (hts (.fieldLink RX1 26 "MonotoneSpline$Knots" "count" "I") (List.mem_of_getElem? (l := wsX1_clear) (i := 1) rfl)) (fun _ h9 => h9) rfl (by decide +kernel) rfl rfl (Nat.le_of_ble_eq_true rfl) dX1_clear_2 (fun H locs hP hD hS => ?_)
  have hP : va_P D vwCl [(ad 14, .inr (1, [.ref (ad 15), .ref (ad 17), .ref (ad 19), .int 0]))] H := hP
  have hD : va_D (my_A [(ad 14, .inr (1, [.ref (ad 15), .ref (ad 17), .ref (ad 19), .int (nI kn)]))]) [(ad 14, .inr (1, [.ref (ad 15), .ref (ad 17), .ref (ad 19), .int 0]))] := hD
  exact my_vretW hx hb hr hlocks hP (rfl) hS dX1_clear_5

theorem iw_X1_insert_X1 : ∀ w ∈ wsX10, w ∈ wsX1_insert := fun w h => List.mem_cons_of_mem _ (List.mem_append_left _ (List.mem_append_right _ (h)))
set_option maxHeartbeats 4000000 in
set_option maxRecDepth 100000 in
theorem kk_X1_insert (l : Launch) (D : va_G) (kd ki kz kl : ClassId) (z : Nat) (ad : Nat → Nat) (kn : Nat) (P : Nat → UInt64) (V : Nat → UInt64) (F : Nat → UInt64) (i : Nat) (x : UInt64) (y : UInt64) (t : UInt64) (hi : i ≤ kn) (hk : kn < 60) : my_WR l D kd ki kz kl z yX1_insert wsX1_insert ({ frames := 2, cells := 0, slots := 0, locals := 48 }) [.ref (ad 14), .int (nI i), .double x, .double y, .double t] [(ad 14, .inr (1, [.ref (ad 15), .ref (ad 17), .ref (ad 19), .int (nI kn)])), (ad 15, .inr (4, [.ref (ad 16)])), (ad 16, .inl (kd, 60, .inr (.inr (.inr (.inl P))))), (ad 17, .inr (4, [.ref (ad 18)])), (ad 18, .inl (kd, 60, .inr (.inr (.inr (.inl V))))), (ad 19, .inr (4, [.ref (ad 20)])), (ad 20, .inl (kd, 60, .inr (.inr (.inr (.inl F)))))] [(ad 14, .inr (1, [.ref (ad 15), .ref (ad 17), .ref (ad 19), .int (nI (kn + 1))])), (ad 15, .inr (4, [.ref (ad 16)])), (ad 16, .inl (kd, 60, .inr (.inr (.inr (.inl (s_ins P i kn x)))))), (ad 17, .inr (4, [.ref (ad 18)])), (ad 18, .inl (kd, 60, .inr (.inr (.inr (.inl (s_ins V i kn y)))))), (ad 19, .inr (4, [.ref (ad 20)])), (ad 20, .inl (kd, 60, .inr (.inr (.inr (.inl (s_ins F i kn t))))))] none := by
  refine my_WR_of (cc := cX1_insert) (maxL := 8) (ret := none) (by decide) rfl (Nat.le_of_ble_eq_true rfl) ?_
  intro p e s m below meth c S hr hlocks hC hP hD hz hS ls hl
  have S : CallFix p m c cX1_insert 8 s ([.ref (ad 14), .int (nI i), .double x, .double y, .double t] : List Value).toArray wsX1_insert RX1 := S
  obtain ⟨hx, hb, hml, hown, hts⟩ := id S
  have hl : lv_has ls 8 [(0, .ref (ad 14)), (1, .int (nI i)), (2, .double x), (4, .double y), (6, .double t)] := hl
  suffices K0 : ∀ (H : Heap) (locs : List Loc), va_P D vwCl [(ad 14, .inr (1, [.ref (ad 15), .ref (ad 17), .ref (ad 19), .int (nI kn)])), (ad 15, .inr (4, [.ref (ad 16)])), (ad 16, .inl (kd, 60, .inr (.inr (.inr (.inl P))))), (ad 17, .inr (4, [.ref (ad 18)])), (ad 18, .inl (kd, 60, .inr (.inr (.inr (.inl V))))), (ad 19, .inr (4, [.ref (ad 20)])), (ad 20, .inl (kd, 60, .inr (.inr (.inr (.inl F)))))] H → va_D (my_A [(ad 14, .inr (1, [.ref (ad 15), .ref (ad 17), .ref (ad 19), .int (nI kn)])), (ad 15, .inr (4, [.ref (ad 16)])), (ad 16, .inl (kd, 60, .inr (.inr (.inr (.inl P))))), (ad 17, .inr (4, [.ref (ad 18)])), (ad 18, .inl (kd, 60, .inr (.inr (.inr (.inl V))))), (ad 19, .inr (4, [.ref (ad 20)])), (ad 20, .inl (kd, 60, .inr (.inr (.inr (.inl F)))))]) [(ad 14, .inr (1, [.ref (ad 15), .ref (ad 17), .ref (ad 19), .int (nI kn)])), (ad 15, .inr (4, [.ref (ad 16)])), (ad 16, .inl (kd, 60, .inr (.inr (.inr (.inl P))))), (ad 17, .inr (4, [.ref (ad 18)])), (ad 18, .inl (kd, 60, .inr (.inr (.inr (.inl V))))), (ad 19, .inr (4, [.ref (ad 20)])), (ad 20, .inl (kd, 60, .inr (.inr (.inr (.inl F)))))] → va_S (my_A [(ad 14, .inr (1, [.ref (ad 15), .ref (ad 17), .ref (ad 19), .int (nI kn)])), (ad 15, .inr (4, [.ref (ad 16)])), (ad 16, .inl (kd, 60, .inr (.inr (.inr (.inl P))))), (ad 17, .inr (4, [.ref (ad 18)])), (ad 18, .inl (kd, 60, .inr (.inr (.inr (.inl V))))), (ad 19, .inr (4, [.ref (ad 20)])), (ad 20, .inl (kd, 60, .inr (.inr (.inr (.inl F)))))]) s.heap H locs → W p l e ({ frames := 2, cells := 0, slots := 0, locals := 48 }) s m ([.ref (ad 14), .int (nI i), .double x, .double y, .double t] : List Value).toArray below meth c H locs 0 0 (my_WQ below D ([.ref (ad 14), .int (nI i), .double x, .double y, .double t] : List Value).toArray s [(ad 14, .inr (1, [.ref (ad 15), .ref (ad 17), .ref (ad 19), .int (nI kn)])), (ad 15, .inr (4, [.ref (ad 16)])), (ad 16, .inl (kd, 60, .inr (.inr (.inr (.inl P))))), (ad 17, .inr (4, [.ref (ad 18)])), (ad 18, .inl (kd, 60, .inr (.inr (.inr (.inl V))))), (ad 19, .inr (4, [.ref (ad 20)])), (ad 20, .inl (kd, 60, .inr (.inr (.inr (.inl F)))))] [(ad 14, .inr (1, [.ref (ad 15), .ref (ad 17), .ref (ad 19), .int (nI (kn + 1))])), (ad 15, .inr (4, [.ref (ad 16)])), (ad 16, .inl (kd, 60, .inr (.inr (.inr (.inl (s_ins P i kn x)))))), (ad 17, .inr (4, [.ref (ad 18)])), (ad 18, .inl (kd, 60, .inr (.inr (.inr (.inl (s_ins V i kn y)))))), (ad 19, .inr (4, [.ref (ad 20)])), (ad 20, .inl (kd, 60, .inr (.inr (.inr (.inl (s_ins F i kn t))))))] none) (F0 m 0 ls []) from K0 _ _ hP hD hS
  intro H locs hP hD hS
  refine lv_aload_n hx hb dX1_insert_0 rfl (lv_at hl 0 rfl) ?_
  refine va_get (D := D) (ci := 1) (v := .ref (ad 15)) (C := RX1) (T := TX1) (N := 4) hx hb hts iw_X1_insert_X1 hown hC.1 hP 0 rfl rfl 0 (by decide) (hts (.fieldLink RX1 14 "MonotoneSpline$Knots" "places" "LMonotoneSpline$Row;") (List.mem_of_getElem? (l := wsX1_insert) (i := 1) rfl)) (fun _ h9 => h9) rfl dX1_insert_1 ?_
  refine lv_iload_n hx hb dX1_insert_4 rfl (lv_at hl 1 rfl) ?_
  refine lv_aload_n hx hb dX1_insert_5 rfl (lv_at hl 0 rfl) ?_
  refine va_get (D := D) (ci := 1) (v := .int (nI kn)) (C := RX1) (T := TX1) (N := 4) hx hb hts iw_X1_insert_X1 hown hC.1 hP 0 rfl rfl 3 (by decide) (hts (.fieldLink RX1 26 "MonotoneSpline$Knots" "count" "I") (List.mem_of_getElem? (l := wsX1_insert) (i := 2) rfl)) (fun _ h9 => h9) rfl dX1_insert_6 ?_
  refine lv_dload_n hx hb dX1_insert_9 rfl (lv_at hl 2 rfl) ?_
  refine my_goW (v := none) (w1 := [(ad 15, .inr (4, [.ref (ad 16)])), (ad 16, .inl (kd, 60, .inr (.inr (.inr (.inl (s_ins P i kn x))))))]) (wx' := [(ad 14, .inr (1, [.ref (ad 15), .ref (ad 17), .ref (ad 19), .int (nI kn)])), (ad 15, .inr (4, [.ref (ad 16)])), (ad 16, .inl (kd, 60, .inr (.inr (.inr (.inl (s_ins P i kn x)))))), (ad 17, .inr (4, [.ref (ad 18)])), (ad 18, .inl (kd, 60, .inr (.inr (.inr (.inl V))))), (ad 19, .inr (4, [.ref (ad 20)])), (ad 20, .inl (kd, 60, .inr (.inr (.inr (.inl F)))))]) (my_runV (bytes := cX4_insert) (maxL := 6) (ret := none) (n := 3) (As := [.int (nI i), .int (nI kn), .double x]) (rest := []) S hl.1 (kk_X4_insert l D kd ki kz kl z (ad 15) (ad 16) 60 P i kn x (by omega) (by omega) (by omega)) rfl ⟨rfl, rfl⟩ gX1_insert_X4_insert (by decide +kernel) rfl ⟨Nat.le_of_ble_eq_true rfl, Nat.le_of_ble_eq_true rfl⟩ (my_preW (my_C_S hC hS hz) (my_P_sub (wc := [(ad 15, .inr (4, [.ref (ad 16)])), (ad 16, .inl (kd, 60, .inr (.inr (.inr (.inl P)))))]) hP [1, 2] rfl) (my_D_sub hD hz [1, 2] (by decide) rfl)) (va_recv hC.1 hP (ci := 4) (q0 := 1) rfl rfl) rfl rfl dX1_insert_10) hP hD hS [1, 2] rfl rfl rfl (fun H locs hP hD hS => ?_)
  refine W.eq (g2 := F0 m 13 ls []) rfl ?_
  refine lv_aload_n hx hb dX1_insert_13 rfl (lv_at hl 0 rfl) ?_
  refine va_get (D := D) (ci := 1) (v := .ref (ad 17)) (C := RX1) (T := TX1) (N := 4) hx hb hts iw_X1_insert_X1 hown hC.1 hP 0 rfl rfl 1 (by decide) (hts (.fieldLink RX1 20 "MonotoneSpline$Knots" "heights" "LMonotoneSpline$Row;") (List.mem_of_getElem? (l := wsX1_insert) (i := 3) rfl)) (fun _ h9 => h9) rfl dX1_insert_14 ?_
  refine lv_iload_n hx hb dX1_insert_17 rfl (lv_at hl 1 rfl) ?_
  refine lv_aload_n hx hb dX1_insert_18 rfl (lv_at hl 0 rfl) ?_
  refine va_get (D := D) (ci := 1) (v := .int (nI kn)) (C := RX1) (T := TX1) (N := 4) hx hb hts iw_X1_insert_X1 hown hC.1 hP 0 rfl rfl 3 (by decide) (hts (.fieldLink RX1 26 "MonotoneSpline$Knots" "count" "I") (List.mem_of_getElem? (l := wsX1_insert) (i := 2) rfl)) (fun _ h9 => h9) rfl dX1_insert_19 ?_
  refine lv_dload hx hb dX1_insert_22 (lv_at hl 3 rfl) ?_
  refine my_goW (v := none) (w1 := [(ad 17, .inr (4, [.ref (ad 18)])), (ad 18, .inl (kd, 60, .inr (.inr (.inr (.inl (s_ins V i kn y))))))]) (wx' := [(ad 14, .inr (1, [.ref (ad 15), .ref (ad 17), .ref (ad 19), .int (nI kn)])), (ad 15, .inr (4, [.ref (ad 16)])), (ad 16, .inl (kd, 60, .inr (.inr (.inr (.inl (s_ins P i kn x)))))), (ad 17, .inr (4, [.ref (ad 18)])), (ad 18, .inl (kd, 60, .inr (.inr (.inr (.inl (s_ins V i kn y)))))), (ad 19, .inr (4, [.ref (ad 20)])), (ad 20, .inl (kd, 60, .inr (.inr (.inr (.inl F)))))]) (my_runV (bytes := cX4_insert) (maxL := 6) (ret := none) (n := 3) (As := [.int (nI i), .int (nI kn), .double y]) (rest := []) S hl.1 (kk_X4_insert l D kd ki kz kl z (ad 17) (ad 18) 60 V i kn y (by omega) (by omega) (by omega)) rfl ⟨rfl, rfl⟩ gX1_insert_X4_insert (by decide +kernel) rfl ⟨Nat.le_of_ble_eq_true rfl, Nat.le_of_ble_eq_true rfl⟩ (my_preW (my_C_S hC hS hz) (my_P_sub (wc := [(ad 17, .inr (4, [.ref (ad 18)])), (ad 18, .inl (kd, 60, .inr (.inr (.inr (.inl V)))))]) hP [3, 4] rfl) (my_D_sub hD hz [3, 4] (by decide) rfl)) (va_recv hC.1 hP (ci := 4) (q0 := 3) rfl rfl) rfl rfl dX1_insert_24) hP hD hS [3, 4] rfl rfl rfl (fun H locs hP hD hS => ?_)
  refine W.eq (g2 := F0 m 27 ls []) rfl ?_
  refine lv_aload_n hx hb dX1_insert_27 rfl (lv_at hl 0 rfl) ?_
  refine va_get (D := D) (ci := 1) (v := .ref (ad 19)) (C := RX1) (T := TX1) (N := 4) hx hb hts iw_X1_insert_X1 hown hC.1 hP 0 rfl rfl 2 (by decide) (hts (.fieldLink RX1 23 "MonotoneSpline$Knots" "fixedSlopes" "LMonotoneSpline$Row;") (List.mem_of_getElem? (l := wsX1_insert) (i := 4) rfl)) (fun _ h9 => h9) rfl dX1_insert_28 ?_
  refine lv_iload_n hx hb dX1_insert_31 rfl (lv_at hl 1 rfl) ?_
  refine lv_aload_n hx hb dX1_insert_32 rfl (lv_at hl 0 rfl) ?_
  refine va_get (D := D) (ci := 1) (v := .int (nI kn)) (C := RX1) (T := TX1) (N := 4) hx hb hts iw_X1_insert_X1 hown hC.1 hP 0 rfl rfl 3 (by decide) (hts (.fieldLink RX1 26 "MonotoneSpline$Knots" "count" "I") (List.mem_of_getElem? (l := wsX1_insert) (i := 2) rfl)) (fun _ h9 => h9) rfl dX1_insert_33 ?_
  refine lv_dload hx hb dX1_insert_36 (lv_at hl 4 rfl) ?_
  refine my_goW (v := none) (w1 := [(ad 19, .inr (4, [.ref (ad 20)])), (ad 20, .inl (kd, 60, .inr (.inr (.inr (.inl (s_ins F i kn t))))))]) (wx' := [(ad 14, .inr (1, [.ref (ad 15), .ref (ad 17), .ref (ad 19), .int (nI kn)])), (ad 15, .inr (4, [.ref (ad 16)])), (ad 16, .inl (kd, 60, .inr (.inr (.inr (.inl (s_ins P i kn x)))))), (ad 17, .inr (4, [.ref (ad 18)])), (ad 18, .inl (kd, 60, .inr (.inr (.inr (.inl (s_ins V i kn y)))))), (ad 19, .inr (4, [.ref (ad 20)])), (ad 20, .inl (kd, 60, .inr (.inr (.inr (.inl (s_ins F i kn t))))))]) (my_runV (bytes := cX4_insert) (maxL := 6) (ret := none) (n := 3) (As := [.int (nI i), .int (nI kn), .double t]) (rest := []) S hl.1 (kk_X4_insert l D kd ki kz kl z (ad 19) (ad 20) 60 F i kn t (by omega) (by omega) (by omega)) rfl ⟨rfl, rfl⟩ gX1_insert_X4_insert (by decide +kernel) rfl ⟨Nat.le_of_ble_eq_true rfl, Nat.le_of_ble_eq_true rfl⟩ (my_preW (my_C_S hC hS hz) (my_P_sub (wc := [(ad 19, .inr (4, [.ref (ad 20)])), (ad 20, .inl (kd, 60, .inr (.inr (.inr (.inl F)))))]) hP [5, 6] rfl) (my_D_sub hD hz [5, 6] (by decide) rfl)) (va_recv hC.1 hP (ci := 4) (q0 := 5) rfl rfl) rfl rfl dX1_insert_38) hP hD hS [5, 6] rfl rfl rfl (fun H locs hP hD hS => ?_)
  refine W.eq (g2 := F0 m 41 ls []) rfl ?_
  refine lv_aload_n hx hb dX1_insert_41 rfl (lv_at hl 0 rfl) ?_
  refine lv_dup hx hb dX1_insert_42 rfl ?_
  refine va_get (D := D) (ci := 1) (v := .int (nI kn)) (C := RX1) (T := TX1) (N := 4) hx hb hts iw_X1_insert_X1 hown hC.1 hP 0 rfl rfl 3 (by decide) (hts (.fieldLink RX1 26 "MonotoneSpline$Knots" "count" "I") (List.mem_of_getElem? (l := wsX1_insert) (i := 2) rfl)) (fun _ h9 => h9) rfl dX1_insert_43 ?_
  refine lv_iconst (v := 1) hx hb dX1_insert_46 (by decide) ?_
  refine my_iadd (w := nI (kn + 1)) hx hb dX1_insert_47 (nI_add kn 1) ?_
  refine va_put (D := D) (ci := 1) (v := .int (nI (kn + 1))) (ty := .int) (C := RX1) (T := TX1) (N := 4) hx hb hts iw_X1_insert_X1 tyX1 tyX1_ok nmX1 hown hC.1 hP hD hS 0 rfl rfl 3 (by decide) (hts (.fieldLink RX1 26 "MonotoneSpline$Knots" "count" "I") (List.mem_of_getElem? (l := wsX1_insert) (i := 2) rfl)) (fun _ h9 => h9) rfl (by decide +kernel) rfl rfl (Nat.le_of_ble_eq_true rfl) dX1_insert_48 (fun H locs hP hD hS => ?_)
  have hP : va_P D vwCl [(ad 14, .inr (1, [.ref (ad 15), .ref (ad 17), .ref (ad 19), .int (nI (kn + 1))])), (ad 15, .inr (4, [.ref (ad 16)])), (ad 16, .inl (kd, 60, .inr (.inr (.inr (.inl (s_ins P i kn x)))))), (ad 17, .inr (4, [.ref (ad 18)])), (ad 18, .inl (kd, 60, .inr (.inr (.inr (.inl (s_ins V i kn y)))))), (ad 19, .inr (4, [.ref (ad 20)])), (ad 20, .inl (kd, 60, .inr (.inr (.inr (.inl (s_ins F i kn t))))))] H := hP
  have hD : va_D (my_A [(ad 14, .inr (1, [.ref (ad 15), .ref (ad 17), .ref (ad 19), .int (nI kn)])), (ad 15, .inr (4, [.ref (ad 16)])), (ad 16, .inl (kd, 60, .inr (.inr (.inr (.inl P))))), (ad 17, .inr (4, [.ref (ad 18)])), (ad 18, .inl (kd, 60, .inr (.inr (.inr (.inl V))))), (ad 19, .inr (4, [.ref (ad 20)])), (ad 20, .inl (kd, 60, .inr (.inr (.inr (.inl F)))))]) [(ad 14, .inr (1, [.ref (ad 15), .ref (ad 17), .ref (ad 19), .int (nI (kn + 1))])), (ad 15, .inr (4, [.ref (ad 16)])), (ad 16, .inl (kd, 60, .inr (.inr (.inr (.inl (s_ins P i kn x)))))), (ad 17, .inr (4, [.ref (ad 18)])), (ad 18, .inl (kd, 60, .inr (.inr (.inr (.inl (s_ins V i kn y)))))), (ad 19, .inr (4, [.ref (ad 20)])), (ad 20, .inl (kd, 60, .inr (.inr (.inr (.inl (s_ins F i kn t))))))] := hD
  exact my_vretW hx hb hr hlocks hP (rfl) hS dX1_insert_51

theorem iw_X1_remove_X1 : ∀ w ∈ wsX10, w ∈ wsX1_remove := fun w h => List.mem_cons_of_mem _ (List.mem_append_left _ (List.mem_append_right _ (h)))
set_option maxHeartbeats 4000000 in
set_option maxRecDepth 100000 in
theorem kk_X1_remove (l : Launch) (D : va_G) (kd ki kz kl : ClassId) (z : Nat) (ad : Nat → Nat) (kn : Nat) (P : Nat → UInt64) (V : Nat → UInt64) (F : Nat → UInt64) (i : Nat) (hi : i < kn) (hk : kn ≤ 60) : my_WR l D kd ki kz kl z yX1_remove wsX1_remove ({ frames := 1, cells := 0, slots := 0, locals := 23 }) [.ref (ad 14), .int (nI i)] [(ad 14, .inr (1, [.ref (ad 15), .ref (ad 17), .ref (ad 19), .int (nI kn)])), (ad 15, .inr (4, [.ref (ad 16)])), (ad 16, .inl (kd, 60, .inr (.inr (.inr (.inl P))))), (ad 17, .inr (4, [.ref (ad 18)])), (ad 18, .inl (kd, 60, .inr (.inr (.inr (.inl V))))), (ad 19, .inr (4, [.ref (ad 20)])), (ad 20, .inl (kd, 60, .inr (.inr (.inr (.inl F)))))] [(ad 14, .inr (1, [.ref (ad 15), .ref (ad 17), .ref (ad 19), .int (nI (kn - 1))])), (ad 15, .inr (4, [.ref (ad 16)])), (ad 16, .inl (kd, 60, .inr (.inr (.inr (.inl (s_rem P i kn)))))), (ad 17, .inr (4, [.ref (ad 18)])), (ad 18, .inl (kd, 60, .inr (.inr (.inr (.inl (s_rem V i kn)))))), (ad 19, .inr (4, [.ref (ad 20)])), (ad 20, .inl (kd, 60, .inr (.inr (.inr (.inl (s_rem F i kn))))))] none := by
  refine my_WR_of (cc := cX1_remove) (maxL := 2) (ret := none) (by decide) rfl (Nat.le_of_ble_eq_true rfl) ?_
  intro p e s m below meth c S hr hlocks hC hP hD hz hS ls hl
  have S : CallFix p m c cX1_remove 2 s ([.ref (ad 14), .int (nI i)] : List Value).toArray wsX1_remove RX1 := S
  obtain ⟨hx, hb, hml, hown, hts⟩ := id S
  have hl : lv_has ls 2 [(0, .ref (ad 14)), (1, .int (nI i))] := hl
  suffices K0 : ∀ (H : Heap) (locs : List Loc), va_P D vwCl [(ad 14, .inr (1, [.ref (ad 15), .ref (ad 17), .ref (ad 19), .int (nI kn)])), (ad 15, .inr (4, [.ref (ad 16)])), (ad 16, .inl (kd, 60, .inr (.inr (.inr (.inl P))))), (ad 17, .inr (4, [.ref (ad 18)])), (ad 18, .inl (kd, 60, .inr (.inr (.inr (.inl V))))), (ad 19, .inr (4, [.ref (ad 20)])), (ad 20, .inl (kd, 60, .inr (.inr (.inr (.inl F)))))] H → va_D (my_A [(ad 14, .inr (1, [.ref (ad 15), .ref (ad 17), .ref (ad 19), .int (nI kn)])), (ad 15, .inr (4, [.ref (ad 16)])), (ad 16, .inl (kd, 60, .inr (.inr (.inr (.inl P))))), (ad 17, .inr (4, [.ref (ad 18)])), (ad 18, .inl (kd, 60, .inr (.inr (.inr (.inl V))))), (ad 19, .inr (4, [.ref (ad 20)])), (ad 20, .inl (kd, 60, .inr (.inr (.inr (.inl F)))))]) [(ad 14, .inr (1, [.ref (ad 15), .ref (ad 17), .ref (ad 19), .int (nI kn)])), (ad 15, .inr (4, [.ref (ad 16)])), (ad 16, .inl (kd, 60, .inr (.inr (.inr (.inl P))))), (ad 17, .inr (4, [.ref (ad 18)])), (ad 18, .inl (kd, 60, .inr (.inr (.inr (.inl V))))), (ad 19, .inr (4, [.ref (ad 20)])), (ad 20, .inl (kd, 60, .inr (.inr (.inr (.inl F)))))] → va_S (my_A [(ad 14, .inr (1, [.ref (ad 15), .ref (ad 17), .ref (ad 19), .int (nI kn)])), (ad 15, .inr (4, [.ref (ad 16)])), (ad 16, .inl (kd, 60, .inr (.inr (.inr (.inl P))))), (ad 17, .inr (4, [.ref (ad 18)])), (ad 18, .inl (kd, 60, .inr (.inr (.inr (.inl V))))), (ad 19, .inr (4, [.ref (ad 20)])), (ad 20, .inl (kd, 60, .inr (.inr (.inr (.inl F)))))]) s.heap H locs → W p l e ({ frames := 1, cells := 0, slots := 0, locals := 23 }) s m ([.ref (ad 14), .int (nI i)] : List Value).toArray below meth c H locs 0 0 (my_WQ below D ([.ref (ad 14), .int (nI i)] : List Value).toArray s [(ad 14, .inr (1, [.ref (ad 15), .ref (ad 17), .ref (ad 19), .int (nI kn)])), (ad 15, .inr (4, [.ref (ad 16)])), (ad 16, .inl (kd, 60, .inr (.inr (.inr (.inl P))))), (ad 17, .inr (4, [.ref (ad 18)])), (ad 18, .inl (kd, 60, .inr (.inr (.inr (.inl V))))), (ad 19, .inr (4, [.ref (ad 20)])), (ad 20, .inl (kd, 60, .inr (.inr (.inr (.inl F)))))] [(ad 14, .inr (1, [.ref (ad 15), .ref (ad 17), .ref (ad 19), .int (nI (kn - 1))])), (ad 15, .inr (4, [.ref (ad 16)])), (ad 16, .inl (kd, 60, .inr (.inr (.inr (.inl (s_rem P i kn)))))), (ad 17, .inr (4, [.ref (ad 18)])), (ad 18, .inl (kd, 60, .inr (.inr (.inr (.inl (s_rem V i kn)))))), (ad 19, .inr (4, [.ref (ad 20)])), (ad 20, .inl (kd, 60, .inr (.inr (.inr (.inl (s_rem F i kn))))))] none) (F0 m 0 ls []) from K0 _ _ hP hD hS
  intro H locs hP hD hS
  refine lv_aload_n hx hb dX1_remove_0 rfl (lv_at hl 0 rfl) ?_
  refine va_get (D := D) (ci := 1) (v := .ref (ad 15)) (C := RX1) (T := TX1) (N := 4) hx hb hts iw_X1_remove_X1 hown hC.1 hP 0 rfl rfl 0 (by decide) (hts (.fieldLink RX1 14 "MonotoneSpline$Knots" "places" "LMonotoneSpline$Row;") (List.mem_of_getElem? (l := wsX1_remove) (i := 1) rfl)) (fun _ h9 => h9) rfl dX1_remove_1 ?_
  refine lv_iload_n hx hb dX1_remove_4 rfl (lv_at hl 1 rfl) ?_
  refine lv_aload_n hx hb dX1_remove_5 rfl (lv_at hl 0 rfl) ?_
  refine va_get (D := D) (ci := 1) (v := .int (nI kn)) (C := RX1) (T := TX1) (N := 4) hx hb hts iw_X1_remove_X1 hown hC.1 hP 0 rfl rfl 3 (by decide) (hts (.fieldLink RX1 26 "MonotoneSpline$Knots" "count" "I") (List.mem_of_getElem? (l := wsX1_remove) (i := 2) rfl)) (fun _ h9 => h9) rfl dX1_remove_6 ?_
  refine my_goW (v := none) (w1 := [(ad 15, .inr (4, [.ref (ad 16)])), (ad 16, .inl (kd, 60, .inr (.inr (.inr (.inl (s_rem P i kn))))))]) (wx' := [(ad 14, .inr (1, [.ref (ad 15), .ref (ad 17), .ref (ad 19), .int (nI kn)])), (ad 15, .inr (4, [.ref (ad 16)])), (ad 16, .inl (kd, 60, .inr (.inr (.inr (.inl (s_rem P i kn)))))), (ad 17, .inr (4, [.ref (ad 18)])), (ad 18, .inl (kd, 60, .inr (.inr (.inr (.inl V))))), (ad 19, .inr (4, [.ref (ad 20)])), (ad 20, .inl (kd, 60, .inr (.inr (.inr (.inl F)))))]) (my_runV (bytes := cX4_remove) (maxL := 4) (ret := none) (n := 2) (As := [.int (nI i), .int (nI kn)]) (rest := []) S hl.1 (kk_X4_remove l D kd ki kz kl z (ad 15) (ad 16) 60 P i kn (by omega) (by omega) (by omega)) rfl ⟨rfl, rfl⟩ gX1_remove_X4_remove (by decide +kernel) rfl ⟨Nat.le_of_ble_eq_true rfl, Nat.le_of_ble_eq_true rfl⟩ (my_preW (my_C_S hC hS hz) (my_P_sub (wc := [(ad 15, .inr (4, [.ref (ad 16)])), (ad 16, .inl (kd, 60, .inr (.inr (.inr (.inl P)))))]) hP [1, 2] rfl) (my_D_sub hD hz [1, 2] (by decide) rfl)) (va_recv hC.1 hP (ci := 4) (q0 := 1) rfl rfl) rfl rfl dX1_remove_9) hP hD hS [1, 2] rfl rfl rfl (fun H locs hP hD hS => ?_)
  refine W.eq (g2 := F0 m 12 ls []) rfl ?_
  refine lv_aload_n hx hb dX1_remove_12 rfl (lv_at hl 0 rfl) ?_
  refine va_get (D := D) (ci := 1) (v := .ref (ad 17)) (C := RX1) (T := TX1) (N := 4) hx hb hts iw_X1_remove_X1 hown hC.1 hP 0 rfl rfl 1 (by decide) (hts (.fieldLink RX1 20 "MonotoneSpline$Knots" "heights" "LMonotoneSpline$Row;") (List.mem_of_getElem? (l := wsX1_remove) (i := 3) rfl)) (fun _ h9 => h9) rfl dX1_remove_13 ?_
  refine lv_iload_n hx hb dX1_remove_16 rfl (lv_at hl 1 rfl) ?_
  refine lv_aload_n hx hb dX1_remove_17 rfl (lv_at hl 0 rfl) ?_
  refine va_get (D := D) (ci := 1) (v := .int (nI kn)) (C := RX1) (T := TX1) (N := 4) hx hb hts iw_X1_remove_X1 hown hC.1 hP 0 rfl rfl 3 (by decide) (hts (.fieldLink RX1 26 "MonotoneSpline$Knots" "count" "I") (List.mem_of_getElem? (l := wsX1_remove) (i := 2) rfl)) (fun _ h9 => h9) rfl dX1_remove_18 ?_
  refine my_goW (v := none) (w1 := [(ad 17, .inr (4, [.ref (ad 18)])), (ad 18, .inl (kd, 60, .inr (.inr (.inr (.inl (s_rem V i kn))))))]) (wx' := [(ad 14, .inr (1, [.ref (ad 15), .ref (ad 17), .ref (ad 19), .int (nI kn)])), (ad 15, .inr (4, [.ref (ad 16)])), (ad 16, .inl (kd, 60, .inr (.inr (.inr (.inl (s_rem P i kn)))))), (ad 17, .inr (4, [.ref (ad 18)])), (ad 18, .inl (kd, 60, .inr (.inr (.inr (.inl (s_rem V i kn)))))), (ad 19, .inr (4, [.ref (ad 20)])), (ad 20, .inl (kd, 60, .inr (.inr (.inr (.inl F)))))]) (my_runV (bytes := cX4_remove) (maxL := 4) (ret := none) (n := 2) (As := [.int (nI i), .int (nI kn)]) (rest := []) S hl.1 (kk_X4_remove l D kd ki kz kl z (ad 17) (ad 18) 60 V i kn (by omega) (by omega) (by omega)) rfl ⟨rfl, rfl⟩ gX1_remove_X4_remove (by decide +kernel) rfl ⟨Nat.le_of_ble_eq_true rfl, Nat.le_of_ble_eq_true rfl⟩ (my_preW (my_C_S hC hS hz) (my_P_sub (wc := [(ad 17, .inr (4, [.ref (ad 18)])), (ad 18, .inl (kd, 60, .inr (.inr (.inr (.inl V)))))]) hP [3, 4] rfl) (my_D_sub hD hz [3, 4] (by decide) rfl)) (va_recv hC.1 hP (ci := 4) (q0 := 3) rfl rfl) rfl rfl dX1_remove_21) hP hD hS [3, 4] rfl rfl rfl (fun H locs hP hD hS => ?_)
  refine W.eq (g2 := F0 m 24 ls []) rfl ?_
  refine lv_aload_n hx hb dX1_remove_24 rfl (lv_at hl 0 rfl) ?_
  refine va_get (D := D) (ci := 1) (v := .ref (ad 19)) (C := RX1) (T := TX1) (N := 4) hx hb hts iw_X1_remove_X1 hown hC.1 hP 0 rfl rfl 2 (by decide) (hts (.fieldLink RX1 23 "MonotoneSpline$Knots" "fixedSlopes" "LMonotoneSpline$Row;") (List.mem_of_getElem? (l := wsX1_remove) (i := 4) rfl)) (fun _ h9 => h9) rfl dX1_remove_25 ?_
  refine lv_iload_n hx hb dX1_remove_28 rfl (lv_at hl 1 rfl) ?_
  refine lv_aload_n hx hb dX1_remove_29 rfl (lv_at hl 0 rfl) ?_
  refine va_get (D := D) (ci := 1) (v := .int (nI kn)) (C := RX1) (T := TX1) (N := 4) hx hb hts iw_X1_remove_X1 hown hC.1 hP 0 rfl rfl 3 (by decide) (hts (.fieldLink RX1 26 "MonotoneSpline$Knots" "count" "I") (List.mem_of_getElem? (l := wsX1_remove) (i := 2) rfl)) (fun _ h9 => h9) rfl dX1_remove_30 ?_
  refine my_goW (v := none) (w1 := [(ad 19, .inr (4, [.ref (ad 20)])), (ad 20, .inl (kd, 60, .inr (.inr (.inr (.inl (s_rem F i kn))))))]) (wx' := [(ad 14, .inr (1, [.ref (ad 15), .ref (ad 17), .ref (ad 19), .int (nI kn)])), (ad 15, .inr (4, [.ref (ad 16)])), (ad 16, .inl (kd, 60, .inr (.inr (.inr (.inl (s_rem P i kn)))))), (ad 17, .inr (4, [.ref (ad 18)])), (ad 18, .inl (kd, 60, .inr (.inr (.inr (.inl (s_rem V i kn)))))), (ad 19, .inr (4, [.ref (ad 20)])), (ad 20, .inl (kd, 60, .inr (.inr (.inr (.inl (s_rem F i kn))))))]) (my_runV (bytes := cX4_remove) (maxL := 4) (ret := none) (n := 2) (As := [.int (nI i), .int (nI kn)]) (rest := []) S hl.1 (kk_X4_remove l D kd ki kz kl z (ad 19) (ad 20) 60 F i kn (by omega) (by omega) (by omega)) rfl ⟨rfl, rfl⟩ gX1_remove_X4_remove (by decide +kernel) rfl ⟨Nat.le_of_ble_eq_true rfl, Nat.le_of_ble_eq_true rfl⟩ (my_preW (my_C_S hC hS hz) (my_P_sub (wc := [(ad 19, .inr (4, [.ref (ad 20)])), (ad 20, .inl (kd, 60, .inr (.inr (.inr (.inl F)))))]) hP [5, 6] rfl) (my_D_sub hD hz [5, 6] (by decide) rfl)) (va_recv hC.1 hP (ci := 4) (q0 := 5) rfl rfl) rfl rfl dX1_remove_33) hP hD hS [5, 6] rfl rfl rfl (fun H locs hP hD hS => ?_)
  refine W.eq (g2 := F0 m 36 ls []) rfl ?_
  refine lv_aload_n hx hb dX1_remove_36 rfl (lv_at hl 0 rfl) ?_
  refine lv_dup hx hb dX1_remove_37 rfl ?_
  refine va_get (D := D) (ci := 1) (v := .int (nI kn)) (C := RX1) (T := TX1) (N := 4) hx hb hts iw_X1_remove_X1 hown hC.1 hP 0 rfl rfl 3 (by decide) (hts (.fieldLink RX1 26 "MonotoneSpline$Knots" "count" "I") (List.mem_of_getElem? (l := wsX1_remove) (i := 2) rfl)) (fun _ h9 => h9) rfl dX1_remove_38 ?_
  refine lv_iconst (v := 1) hx hb dX1_remove_41 (by decide) ?_
  refine my_isub (w := nI (kn - 1)) hx hb dX1_remove_42 (pk_sub (a := kn) (b := 1) (by omega)) ?_
  refine va_put (D := D) (ci := 1) (v := .int (nI (kn - 1))) (ty := .int) (C := RX1) (T := TX1) (N := 4) hx hb hts iw_X1_remove_X1 tyX1 tyX1_ok nmX1 hown hC.1 hP hD hS 0 rfl rfl 3 (by decide) (hts (.fieldLink RX1 26 "MonotoneSpline$Knots" "count" "I") (List.mem_of_getElem? (l := wsX1_remove) (i := 2) rfl)) (fun _ h9 => h9) rfl (by decide +kernel) rfl rfl (Nat.le_of_ble_eq_true rfl) dX1_remove_43 (fun H locs hP hD hS => ?_)
  have hP : va_P D vwCl [(ad 14, .inr (1, [.ref (ad 15), .ref (ad 17), .ref (ad 19), .int (nI (kn - 1))])), (ad 15, .inr (4, [.ref (ad 16)])), (ad 16, .inl (kd, 60, .inr (.inr (.inr (.inl (s_rem P i kn)))))), (ad 17, .inr (4, [.ref (ad 18)])), (ad 18, .inl (kd, 60, .inr (.inr (.inr (.inl (s_rem V i kn)))))), (ad 19, .inr (4, [.ref (ad 20)])), (ad 20, .inl (kd, 60, .inr (.inr (.inr (.inl (s_rem F i kn))))))] H := hP
  have hD : va_D (my_A [(ad 14, .inr (1, [.ref (ad 15), .ref (ad 17), .ref (ad 19), .int (nI kn)])), (ad 15, .inr (4, [.ref (ad 16)])), (ad 16, .inl (kd, 60, .inr (.inr (.inr (.inl P))))), (ad 17, .inr (4, [.ref (ad 18)])), (ad 18, .inl (kd, 60, .inr (.inr (.inr (.inl V))))), (ad 19, .inr (4, [.ref (ad 20)])), (ad 20, .inl (kd, 60, .inr (.inr (.inr (.inl F)))))]) [(ad 14, .inr (1, [.ref (ad 15), .ref (ad 17), .ref (ad 19), .int (nI (kn - 1))])), (ad 15, .inr (4, [.ref (ad 16)])), (ad 16, .inl (kd, 60, .inr (.inr (.inr (.inl (s_rem P i kn)))))), (ad 17, .inr (4, [.ref (ad 18)])), (ad 18, .inl (kd, 60, .inr (.inr (.inr (.inl (s_rem V i kn)))))), (ad 19, .inr (4, [.ref (ad 20)])), (ad 20, .inl (kd, 60, .inr (.inr (.inr (.inl (s_rem F i kn))))))] := hD
  exact my_vretW hx hb hr hlocks hP (rfl) hS dX1_remove_46

