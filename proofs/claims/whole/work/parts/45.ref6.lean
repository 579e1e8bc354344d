theorem sp_no {a b : UInt64} (ha : fx_n a) (hb : fx_n b) (h1 : sp_lt a b) (h2 : sp_le b a) : False := by
  have h3 := (fx_lt ha hb).mp h1
  have h4 := (fx_le hb ha).mp h2
  omega
theorem i01 {i : Int32} (h1 : ¬ i < 0) (h2 : i ≤ 1) : i = 0 ∨ i = 1 := by
  rw [Int32.lt_iff_toInt_lt] at h1
  rw [Int32.le_iff_toInt_le] at h2
  rw [show (0 : Int32).toInt = 0 by decide] at h1
  rw [show (1 : Int32).toInt = 1 by decide] at h2
  by_cases h : i.toInt = 0
  · exact Or.inl (Int32.toInt_inj.mp (by rw [h]; decide))
  · exact Or.inr (Int32.toInt_inj.mp (by rw [show (1 : Int32).toInt = 1 by decide]; omega))
theorem i7 {i : Int32} (h2 : ¬ 7 ≤ i) : i ≤ 6 := by
  rw [Int32.le_iff_toInt_le] at h2 ⊢
  rw [show (7 : Int32).toInt = 7 by decide] at h2
  rw [show (6 : Int32).toInt = 6 by decide]; omega
theorem i4 {i : Int32} (h1 : i < 4) (h2 : 4 ≤ i) : False := by
  rw [Int32.lt_iff_toInt_lt] at h1
  rw [Int32.le_iff_toInt_le] at h2; omega
theorem s_one : fx_G 1074 1 4607182418800017408 ∧ fx_G 1074 (-1) 13830554455654793216 := ⟨⟨2 ^ 52, -52, by decide +kernel, by decide +kernel⟩, ⟨2 ^ 52, -52, by decide +kernel, by decide +kernel⟩⟩
theorem fx_gt0 {a : UInt64} (hn : fx_n a) : sp_gt a 0 ↔ 0 < fx_k a := by
  have h := fx_gt hn fx_n0
  rw [fx_k0] at h; exact h
theorem fx_G_k {e : Nat} {i : Int} {a : UInt64} (h : fx_G e i a) : (0 < fx_k a ↔ 0 < i) ∧ (fx_k a = 0 ↔ i = 0) := by
  have hz := fx_G_z h
  have h1 := fx_zk fx_n0 (fx_G_n h)
  have h2 := fx_zkeq (fx_G_n h) fx_n0
  rw [fx_k0, show fx_z 0 = 0 by decide +kernel, hz] at h1 h2
  have hp : (0 : Int) < ((2 ^ e : Nat) : Int) := by have := Nat.two_pow_pos e; omega
  constructor
  · rw [← h1]
    constructor
    · intro h3; exact Int.pos_of_mul_pos_left h3 hp
    · intro h3; exact Int.mul_pos h3 hp
  · rw [← h2]
    constructor
    · intro h3; rcases Int.mul_eq_zero.mp h3 with h4 | h4 <;> omega
    · intro h3; rw [h3, Int.zero_mul]
theorem s_side1 {a : UInt64} (h : PY a) : fx_n (FP.dmul a 4607182418800017408) ∧ (sp_gt (FP.dmul a 4607182418800017408) 0 ↔ sp_gt a 0) := by
  obtain ⟨i, h1, h2⟩ := h
  have h3 := fx_G_mul (E := 1071) h1 s_one.1 (by omega) (by omega) (by omega) ⟨by omega, by omega⟩
  refine ⟨fx_G_n h3, ?_⟩
  rw [fx_gt0 (fx_G_n h3), fx_gt0 (fx_G_n h1), (fx_G_k h3).1, (fx_G_k h1).1]
  omega
theorem s_side0 {a : UInt64} (h : PY a) (hz : ¬ sp_eq a 0) : fx_n (FP.dmul a 13830554455654793216) ∧ (sp_gt (FP.dmul a 13830554455654793216) 0 ↔ ¬ sp_gt a 0) := by
  obtain ⟨i, h1, h2⟩ := h
  rw [fx_eq0 (fx_G_n h1), (fx_G_k h1).2] at hz
  have h3 := fx_G_mul (E := 1071) h1 s_one.2 (by omega) (by omega) (by omega) ⟨by omega, by omega⟩
  refine ⟨fx_G_n h3, ?_⟩
  rw [fx_gt0 (fx_G_n h3), fx_gt0 (fx_G_n h1), (fx_G_k h3).1, (fx_G_k h1).1]
  omega
theorem iw_X7_value_X7 : ∀ w ∈ wsX70, w ∈ wsX7_value := fun w h => List.mem_cons_of_mem _ (List.mem_append_right _ (h))
set_option maxHeartbeats 4000000 in
set_option maxRecDepth 100000 in
theorem mm_value (l : Launch) (D : va_G) (kd ki kz kl : ClassId) (z : Nat) (am : Nat → Nat) (th : Int32) (n : Nat) (kn : Nat) (P : Nat → UInt64) (V : Nat → UInt64) (F : Nat → UInt64) (AF : Nat → Int32) (FX : Nat → UInt64) (x : UInt64) (hI : KI kn P V F) (hR : MR kn F AF FX) (hxB : fx_B 1168 x) (h1 : 0 < kn ∧ sp_ge x (P 0) ∧ sp_le x (P (kn - 1))) : my_WR l D kd ki kz kl z yX7_value wsX7_value ({ frames := 6, cells := 0, slots := 0, locals := 152 }) [.ref (am 0), .double x] [(am 0, .inr (7, [.int th, .int (nI n), .ref (am 1), .ref (am 2), .ref (am 3), .int (nI kn), .ref (am 4), .ref (am 5), .ref (am 6), .ref (am 7), .ref (am 8), .ref (am 9), .ref (am 10), .ref (am 11), .ref (am 12)])), (am 4, .inl (kd, 60, .inr (.inr (.inr (.inl P))))), (am 5, .inl (kd, 60, .inr (.inr (.inr (.inl V))))), (am 6, .inl (kz, 60, .inl AF)), (am 7, .inl (kd, 60, .inr (.inr (.inr (.inl FX)))))] [(am 0, .inr (7, [.int 0, .int (nI n), .ref (am 1), .ref (am 2), .ref (am 3), .int (nI kn), .ref (am 4), .ref (am 5), .ref (am 6), .ref (am 7), .ref (am 8), .ref (am 9), .ref (am 10), .ref (am 11), .ref (am 12)])), (am 4, .inl (kd, 60, .inr (.inr (.inr (.inl P))))), (am 5, .inl (kd, 60, .inr (.inr (.inr (.inl V))))), (am 6, .inl (kz, 60, .inl AF)), (am 7, .inl (kd, 60, .inr (.inr (.inr (.inl FX)))))] (some (.double (s_hk P V F kn (s_pc P kn x) x))) := by
  refine my_WR_of (cc := cX7_value) (maxL := 4) (ret := (some .double)) (by decide) rfl (Nat.le_of_ble_eq_true rfl) ?_
  intro p e s m below meth c S hr hlocks hC hP hD hz hS ls hl
  have S : CallFix p m c cX7_value 4 s ([.ref (am 0), .double x] : List Value).toArray wsX7_value RX7 := S
  obtain ⟨hx, hb, hml, hown, hts⟩ := id S
  have hl : lv_has ls 4 [(0, .ref (am 0)), (1, .double x)] := hl
  suffices K0 : ∀ (H : Heap) (locs : List Loc), va_P D vwCl [(am 0, .inr (7, [.int th, .int (nI n), .ref (am 1), .ref (am 2), .ref (am 3), .int (nI kn), .ref (am 4), .ref (am 5), .ref (am 6), .ref (am 7), .ref (am 8), .ref (am 9), .ref (am 10), .ref (am 11), .ref (am 12)])), (am 4, .inl (kd, 60, .inr (.inr (.inr (.inl P))))), (am 5, .inl (kd, 60, .inr (.inr (.inr (.inl V))))), (am 6, .inl (kz, 60, .inl AF)), (am 7, .inl (kd, 60, .inr (.inr (.inr (.inl FX)))))] H → va_D (my_A [(am 0, .inr (7, [.int th, .int (nI n), .ref (am 1), .ref (am 2), .ref (am 3), .int (nI kn), .ref (am 4), .ref (am 5), .ref (am 6), .ref (am 7), .ref (am 8), .ref (am 9), .ref (am 10), .ref (am 11), .ref (am 12)])), (am 4, .inl (kd, 60, .inr (.inr (.inr (.inl P))))), (am 5, .inl (kd, 60, .inr (.inr (.inr (.inl V))))), (am 6, .inl (kz, 60, .inl AF)), (am 7, .inl (kd, 60, .inr (.inr (.inr (.inl FX)))))]) [(am 0, .inr (7, [.int th, .int (nI n), .ref (am 1), .ref (am 2), .ref (am 3), .int (nI kn), .ref (am 4), .ref (am 5), .ref (am 6), .ref (am 7), .ref (am 8), .ref (am 9), .ref (am 10), .ref (am 11), .ref (am 12)])), (am 4, .inl (kd, 60, .inr (.inr (.inr (.inl P))))), (am 5, .inl (kd, 60, .inr (.inr (.inr (.inl V))))), (am 6, .inl (kz, 60, .inl AF)), (am 7, .inl (kd, 60, .inr (.inr (.inr (.inl FX)))))] → va_S (my_A [(am 0, .inr (7, [.int th, .int (nI n), .ref (am 1), .ref (am 2), .ref (am 3), .int (nI kn), .ref (am 4), .ref (am 5), .ref (am 6), .ref (am 7), .ref (am 8), .ref (am 9), .ref (am 10), .ref (am 11), .ref (am 12)])), (am 4, .inl (kd, 60, .inr (.inr (.inr (.inl P))))), (am 5, .inl (kd, 60, .inr (.inr (.inr (.inl V))))), (am 6, .inl (kz, 60, .inl AF)), (am 7, .inl (kd, 60, .inr (.inr (.inr (.inl FX)))))]) s.heap H locs → W p l e ({ frames := 6, cells := 0, slots := 0, locals := 152 }) s m ([.ref (am 0), .double x] : List Value).toArray below meth c H locs 0 0 (my_WQ below D ([.ref (am 0), .double x] : List Value).toArray s [(am 0, .inr (7, [.int th, .int (nI n), .ref (am 1), .ref (am 2), .ref (am 3), .int (nI kn), .ref (am 4), .ref (am 5), .ref (am 6), .ref (am 7), .ref (am 8), .ref (am 9), .ref (am 10), .ref (am 11), .ref (am 12)])), (am 4, .inl (kd, 60, .inr (.inr (.inr (.inl P))))), (am 5, .inl (kd, 60, .inr (.inr (.inr (.inl V))))), (am 6, .inl (kz, 60, .inl AF)), (am 7, .inl (kd, 60, .inr (.inr (.inr (.inl FX)))))] [(am 0, .inr (7, [.int 0, .int (nI n), .ref (am 1), .ref (am 2), .ref (am 3), .int (nI kn), .ref (am 4), .ref (am 5), .ref (am 6), .ref (am 7), .ref (am 8), .ref (am 9), .ref (am 10), .ref (am 11), .ref (am 12)])), (am 4, .inl (kd, 60, .inr (.inr (.inr (.inl P))))), (am 5, .inl (kd, 60, .inr (.inr (.inr (.inl V))))), (am 6, .inl (kz, 60, .inl AF)), (am 7, .inl (kd, 60, .inr (.inr (.inr (.inl FX)))))] (some (.double (s_hk P V F kn (s_pc P kn x) x)))) (F0 m 0 ls []) from K0 _ _ hP hD hS
  intro H locs hP hD hS
  have hJ := hI.1
  have hkn := hJ.2.1
  have hkn2 := hJ.1
  have hlt := s_pc_lt (P := P) (x := x) hkn2
  refine lv_aload_n hx hb dX7_value_0 rfl (lv_at hl 0 rfl) ?_
  refine lv_iconst (v := 0) hx hb dX7_value_1 (by decide) ?_
  refine va_put (D := D) (ci := 7) (v := .int 0) (ty := .int) (C := RX7) (T := TX7) (N := 15) hx hb hts iw_X7_value_X7 tyX7 tyX7_ok nmX7 hown hC.1 hP hD hS 0 rfl rfl 0 (by decide) (hts (.fieldLink RX7 48 "MonotoneSplineModel" "thrown" "I") (List.mem_of_getElem? (l := wsX7_value) (i := 1) rfl)) (fun _ h9 => h9) rfl (by decide +kernel) rfl rfl (Nat.le_of_ble_eq_true rfl) dX7_value_2 (fun H locs hP hD hS => ?_)
  have hP : va_P D vwCl [(am 0, .inr (7, [.int 0, .int (nI n), .ref (am 1), .ref (am 2), .ref (am 3), .int (nI kn), .ref (am 4), .ref (am 5), .ref (am 6), .ref (am 7), .ref (am 8), .ref (am 9), .ref (am 10), .ref (am 11), .ref (am 12)])), (am 4, .inl (kd, 60, .inr (.inr (.inr (.inl P))))), (am 5, .inl (kd, 60, .inr (.inr (.inr (.inl V))))), (am 6, .inl (kz, 60, .inl AF)), (am 7, .inl (kd, 60, .inr (.inr (.inr (.inl FX)))))] H := hP
  have hD : va_D (my_A [(am 0, .inr (7, [.int th, .int (nI n), .ref (am 1), .ref (am 2), .ref (am 3), .int (nI kn), .ref (am 4), .ref (am 5), .ref (am 6), .ref (am 7), .ref (am 8), .ref (am 9), .ref (am 10), .ref (am 11), .ref (am 12)])), (am 4, .inl (kd, 60, .inr (.inr (.inr (.inl P))))), (am 5, .inl (kd, 60, .inr (.inr (.inr (.inl V))))), (am 6, .inl (kz, 60, .inl AF)), (am 7, .inl (kd, 60, .inr (.inr (.inr (.inl FX)))))]) [(am 0, .inr (7, [.int 0, .int (nI n), .ref (am 1), .ref (am 2), .ref (am 3), .int (nI kn), .ref (am 4), .ref (am 5), .ref (am 6), .ref (am 7), .ref (am 8), .ref (am 9), .ref (am 10), .ref (am 11), .ref (am 12)])), (am 4, .inl (kd, 60, .inr (.inr (.inr (.inl P))))), (am 5, .inl (kd, 60, .inr (.inr (.inr (.inl V))))), (am 6, .inl (kz, 60, .inl AF)), (am 7, .inl (kd, 60, .inr (.inr (.inr (.inl FX)))))] := hD
  refine lv_aload_n hx hb dX7_value_5 rfl (lv_at hl 0 rfl) ?_
  refine lv_dload_n hx hb dX7_value_6 rfl (lv_at hl 1 rfl) ?_
  refine my_goR (v := (some (.int (if 0 < kn ∧ sp_ge x (P 0) ∧ sp_le x (P (kn - 1)) then 1 else 0)))) (my_runV (bytes := cX7_isInside) (maxL := 3) (ret := (some .boolean)) (n := 1) (As := [.double x]) (rest := []) S hl.1 (mm_isInside l D kd ki kz kl z am 0 n kn P x (by omega)) rfl ⟨rfl, rfl⟩ gX7_value_X7_isInside (by decide +kernel) rfl ⟨Nat.le_of_ble_eq_true rfl, Nat.le_of_ble_eq_true rfl⟩ (my_preR (my_C_S hC hS hz) (my_P_sub (wc := [(am 0, .inr (7, [.int 0, .int (nI n), .ref (am 1), .ref (am 2), .ref (am 3), .int (nI kn), .ref (am 4), .ref (am 5), .ref (am 6), .ref (am 7), .ref (am 8), .ref (am 9), .ref (am 10), .ref (am 11), .ref (am 12)])), (am 4, .inl (kd, 60, .inr (.inr (.inr (.inl P)))))]) hP [0, 1] rfl)) (va_recv hC.1 hP (ci := 7) (q0 := 0) rfl rfl) rfl rfl dX7_value_7) ?_
  refine W.eq (g2 := F0 m 10 ls [.int (if 0 < kn ∧ sp_ge x (P 0) ∧ sp_le x (P (kn - 1)) then 1 else 0)]) rfl ?_
  by_cases q_h1 : 0 < kn ∧ sp_ge x (P 0) ∧ sp_le x (P (kn - 1))
  · rw [if_pos q_h1]
    refine lv_if_ne (tgt := 20) hx hb dX7_value_10 (by decide) (fun c_10 => ?_) (fun c_10 => ?_)
    · skip
      refine lv_aload_n hx hb dX7_value_20 rfl (lv_at hl 0 rfl) ?_
      refine lv_dload_n hx hb dX7_value_21 rfl (lv_at hl 1 rfl) ?_
      refine my_goR (v := (some (.int (nI (s_pc P kn x))))) (my_runV (bytes := cX7_pieceOf) (maxL := 4) (ret := (some .int)) (n := 1) (As := [.double x]) (rest := []) S hl.1 (mm_pieceOf l D kd ki kz kl z am 0 n kn P x (by omega) (by omega)) rfl ⟨rfl, rfl⟩ gX7_value_X7_pieceOf (by decide +kernel) rfl ⟨Nat.le_of_ble_eq_true rfl, Nat.le_of_ble_eq_true rfl⟩ (my_preR (my_C_S hC hS hz) (my_P_sub (wc := [(am 0, .inr (7, [.int 0, .int (nI n), .ref (am 1), .ref (am 2), .ref (am 3), .int (nI kn), .ref (am 4), .ref (am 5), .ref (am 6), .ref (am 7), .ref (am 8), .ref (am 9), .ref (am 10), .ref (am 11), .ref (am 12)])), (am 4, .inl (kd, 60, .inr (.inr (.inr (.inl P)))))]) hP [0, 1] rfl)) (va_recv hC.1 hP (ci := 7) (q0 := 0) rfl rfl) rfl rfl dX7_value_22) ?_
      refine W.eq (g2 := F0 m 25 ls [.int (nI (s_pc P kn x))]) rfl ?_
      refine lv_istore_n (lv' := [(3, .int (nI (s_pc P kn x))), (0, .ref (am 0)), (1, .double x)]) hx hb dX7_value_25 rfl hl (by decide) rfl (fun ls hl => ?_)
      refine lv_aload_n hx hb dX7_value_26 rfl (lv_at hl 1 rfl) ?_
      refine lv_iload_n hx hb dX7_value_27 rfl (lv_at hl 0 rfl) ?_
      refine lv_dload_n hx hb dX7_value_28 rfl (lv_at hl 2 rfl) ?_
      refine lv_aload_n hx hb dX7_value_29 rfl (lv_at hl 1 rfl) ?_
      refine va_get (D := D) (ci := 7) (v := .ref (am 4)) (C := RX7) (T := TX7) (N := 15) hx hb hts iw_X7_value_X7 hown hC.1 hP 0 rfl rfl 6 (by decide) (hts (.fieldLink RX7 19 "MonotoneSplineModel" "places" "[D") (List.mem_of_getElem? (l := wsX7_value) (i := 2) rfl)) (fun _ h9 => h9) rfl dX7_value_30 ?_
      refine lv_iload_n hx hb dX7_value_33 rfl (lv_at hl 0 rfl) ?_
      refine my_dald (k := s_pc P kn x) (n := 60) (f := P) hx hb hC hP 1 rfl (by omega) (by omega) dX7_value_34 ?_
      refine lv_dsub hx hb dX7_value_35 (fx_n64 (fx_B_n (PE_x hI (by omega) hxB) (by omega))) ?_
      refine my_goR (v := (some (.double (s_h (V (s_pc P kn x)) (s_s P V F kn (s_pc P kn x)) (s_pk P V F kn (s_pc P kn x)) (s_qk P V F kn (s_pc P kn x)) (FP.dsub x (P (s_pc P kn x))))))) (my_runV (bytes := cX7_valueIn) (maxL := 4) (ret := (some .double)) (n := 2) (As := [.int (nI (s_pc P kn x)), .double (FP.dsub x (P (s_pc P kn x)))]) (rest := []) S hl.1 (mm_valueIn l D kd ki kz kl z am 0 n kn P V F AF FX (s_pc P kn x) (FP.dsub x (P (s_pc P kn x))) (hI) (hR) (by omega) (PE_x hI (by omega) hxB)) rfl ⟨rfl, rfl⟩ gX7_value_X7_valueIn (by decide +kernel) rfl ⟨Nat.le_of_ble_eq_true rfl, Nat.le_of_ble_eq_true rfl⟩ (my_preR (my_C_S hC hS hz) (my_P_sub (wc := [(am 0, .inr (7, [.int 0, .int (nI n), .ref (am 1), .ref (am 2), .ref (am 3), .int (nI kn), .ref (am 4), .ref (am 5), .ref (am 6), .ref (am 7), .ref (am 8), .ref (am 9), .ref (am 10), .ref (am 11), .ref (am 12)])), (am 4, .inl (kd, 60, .inr (.inr (.inr (.inl P))))), (am 5, .inl (kd, 60, .inr (.inr (.inr (.inl V))))), (am 6, .inl (kz, 60, .inl AF)), (am 7, .inl (kd, 60, .inr (.inr (.inr (.inl FX)))))]) hP [0, 1, 2, 3, 4] rfl)) (va_recv hC.1 hP (ci := 7) (q0 := 0) rfl rfl) rfl rfl dX7_value_36) ?_
      refine W.eq (g2 := F0 m 39 ls [.double (s_h (V (s_pc P kn x)) (s_s P V F kn (s_pc P kn x)) (s_pk P V F kn (s_pc P kn x)) (s_qk P V F kn (s_pc P kn x)) (FP.dsub x (P (s_pc P kn x))))]) rfl ?_
      exact my_dretW hx hb hr hlocks hP (rfl) hS (rfl) dX7_value_39
    · skip
      first | exact absurd c_10 (by decide) | exact absurd (by decide) c_10
  · rw [if_neg q_h1]
    exact absurd h1 q_h1

set_option maxHeartbeats 4000000 in
set_option maxRecDepth 100000 in
theorem mm_value_1 (l : Launch) (D : va_G) (kd ki kz kl : ClassId) (z : Nat) (am : Nat → Nat) (th : Int32) (n : Nat) (kn : Nat) (P : Nat → UInt64) (V : Nat → UInt64) (AF : Nat → Int32) (FX : Nat → UInt64) (x : UInt64) (hn : kn ≤ 60) (h1 : ¬ (0 < kn ∧ sp_ge x (P 0) ∧ sp_le x (P (kn - 1)))) : my_WR l D kd ki kz kl z yX7_value wsX7_value ({ frames := 2, cells := 0, slots := 0, locals := 47 }) [.ref (am 0), .double x] [(am 0, .inr (7, [.int th, .int (nI n), .ref (am 1), .ref (am 2), .ref (am 3), .int (nI kn), .ref (am 4), .ref (am 5), .ref (am 6), .ref (am 7), .ref (am 8), .ref (am 9), .ref (am 10), .ref (am 11), .ref (am 12)])), (am 4, .inl (kd, 60, .inr (.inr (.inr (.inl P))))), (am 5, .inl (kd, 60, .inr (.inr (.inr (.inl V))))), (am 6, .inl (kz, 60, .inl AF)), (am 7, .inl (kd, 60, .inr (.inr (.inr (.inl FX)))))] [(am 0, .inr (7, [.int 1, .int (nI n), .ref (am 1), .ref (am 2), .ref (am 3), .int (nI kn), .ref (am 4), .ref (am 5), .ref (am 6), .ref (am 7), .ref (am 8), .ref (am 9), .ref (am 10), .ref (am 11), .ref (am 12)])), (am 4, .inl (kd, 60, .inr (.inr (.inr (.inl P))))), (am 5, .inl (kd, 60, .inr (.inr (.inr (.inl V))))), (am 6, .inl (kz, 60, .inl AF)), (am 7, .inl (kd, 60, .inr (.inr (.inr (.inl FX)))))] (some (.double (FP.i2d 0))) := by
  refine my_WR_of (cc := cX7_value) (maxL := 4) (ret := (some .double)) (by decide) rfl (Nat.le_of_ble_eq_true rfl) ?_
  intro p e s m below meth c S hr hlocks hC hP hD hz hS ls hl
  have S : CallFix p m c cX7_value 4 s ([.ref (am 0), .double x] : List Value).toArray wsX7_value RX7 := S
  obtain ⟨hx, hb, hml, hown, hts⟩ := id S
  have hl : lv_has ls 4 [(0, .ref (am 0)), (1, .double x)] := hl
  suffices K0 : ∀ (H : Heap) (locs : List Loc), va_P D vwCl [(am 0, .inr (7, [.int th, .int (nI n), .ref (am 1), .ref (am 2), .ref (am 3), .int (nI kn), .ref (am 4), .ref (am 5), .ref (am 6), .ref (am 7), .ref (am 8), .ref (am 9), .ref (am 10), .ref (am 11), .ref (am 12)])), (am 4, .inl (kd, 60, .inr (.inr (.inr (.inl P))))), (am 5, .inl (kd, 60, .inr (.inr (.inr (.inl V))))), (am 6, .inl (kz, 60, .inl AF)), (am 7, .inl (kd, 60, .inr (.inr (.inr (.inl FX)))))] H → va_D (my_A [(am 0, .inr (7, [.int th, .int (nI n), .ref (am 1), .ref (am 2), .ref (am 3), .int (nI kn), .ref (am 4), .ref (am 5), .ref (am 6), .ref (am 7), .ref (am 8), .ref (am 9), .ref (am 10), .ref (am 11), .ref (am 12)])), (am 4, .inl (kd, 60, .inr (.inr (.inr (.inl P))))), (am 5, .inl (kd, 60, .inr (.inr (.inr (.inl V))))), (am 6, .inl (kz, 60, .inl AF)), (am 7, .inl (kd, 60, .inr (.inr (.inr (.inl FX)))))]) [(am 0, .inr (7, [.int th, .int (nI n), .ref (am 1), .ref (am 2), .ref (am 3), .int (nI kn), .ref (am 4), .ref (am 5), .ref (am 6), .ref (am 7), .ref (am 8), .ref (am 9), .ref (am 10), .ref (am 11), .ref (am 12)])), (am 4, .inl (kd, 60, .inr (.inr (.inr (.inl P))))), (am 5, .inl (kd, 60, .inr (.inr (.inr (.inl V))))), (am 6, .inl (kz, 60, .inl AF)), (am 7, .inl (kd, 60, .inr (.inr (.inr (.inl FX)))))] → va_S (my_A [(am 0, .inr (7, [.int th, .int (nI n), .ref (am 1), .ref (am 2), .ref (am 3), .int (nI kn), .ref (am 4), .ref (am 5), .ref (am 6), .ref (am 7), .ref (am 8), .ref (am 9), .ref (am 10), .ref (am 11), .ref (am 12)])), (am 4, .inl (kd, 60, .inr (.inr (.inr (.inl P))))), (am 5, .inl (kd, 60, .inr (.inr (.inr (.inl V))))), (am 6, .inl (kz, 60, .inl AF)), (am 7, .inl (kd, 60, .inr (.inr (.inr (.inl FX)))))]) s.heap H locs → W p l e ({ frames := 2, cells := 0, slots := 0, locals := 47 }) s m ([.ref (am 0), .double x] : List Value).toArray below meth c H locs 0 0 (my_WQ below D ([.ref (am 0), .double x] : List Value).toArray s [(am 0, .inr (7, [.int th, .int (nI n), .ref (am 1), .ref (am 2), .ref (am 3), .int (nI kn), .ref (am 4), .ref (am 5), .ref (am 6), .ref (am 7), .ref (am 8), .ref (am 9), .ref (am 10), .ref (am 11), .ref (am 12)])), (am 4, .inl (kd, 60, .inr (.inr (.inr (.inl P))))), (am 5, .inl (kd, 60, .inr (.inr (.inr (.inl V))))), (am 6, .inl (kz, 60, .inl AF)), (am 7, .inl (kd, 60, .inr (.inr (.inr (.inl FX)))))] [(am 0, .inr (7, [.int 1, .int (nI n), .ref (am 1), .ref (am 2), .ref (am 3), .int (nI kn), .ref (am 4), .ref (am 5), .ref (am 6), .ref (am 7), .ref (am 8), .ref (am 9), .ref (am 10), .ref (am 11), .ref (am 12)])), (am 4, .inl (kd, 60, .inr (.inr (.inr (.inl P))))), (am 5, .inl (kd, 60, .inr (.inr (.inr (.inl V))))), (am 6, .inl (kz, 60, .inl AF)), (am 7, .inl (kd, 60, .inr (.inr (.inr (.inl FX)))))] (some (.double (FP.i2d 0)))) (F0 m 0 ls []) from K0 _ _ hP hD hS
  intro H locs hP hD hS
  refine lv_aload_n hx hb dX7_value_0 rfl (lv_at hl 0 rfl) ?_
  refine lv_iconst (v := 0) hx hb dX7_value_1 (by decide) ?_
  refine va_put (D := D) (ci := 7) (v := .int 0) (ty := .int) (C := RX7) (T := TX7) (N := 15) hx hb hts iw_X7_value_X7 tyX7 tyX7_ok nmX7 hown hC.1 hP hD hS 0 rfl rfl 0 (by decide) (hts (.fieldLink RX7 48 "MonotoneSplineModel" "thrown" "I") (List.mem_of_getElem? (l := wsX7_value) (i := 1) rfl)) (fun _ h9 => h9) rfl (by decide +kernel) rfl rfl (Nat.le_of_ble_eq_true rfl) dX7_value_2 (fun H locs hP hD hS => ?_)
  have hP : va_P D vwCl [(am 0, .inr (7, [.int 0, .int (nI n), .ref (am 1), .ref (am 2), .ref (am 3), .int (nI kn), .ref (am 4), .ref (am 5), .ref (am 6), .ref (am 7), .ref (am 8), .ref (am 9), .ref (am 10), .ref (am 11), .ref (am 12)])), (am 4, .inl (kd, 60, .inr (.inr (.inr (.inl P))))), (am 5, .inl (kd, 60, .inr (.inr (.inr (.inl V))))), (am 6, .inl (kz, 60, .inl AF)), (am 7, .inl (kd, 60, .inr (.inr (.inr (.inl FX)))))] H := hP
  have hD : va_D (my_A [(am 0, .inr (7, [.int th, .int (nI n), .ref (am 1), .ref (am 2), .ref (am 3), .int (nI kn), .ref (am 4), .ref (am 5), .ref (am 6), .ref (am 7), .ref (am 8), .ref (am 9), .ref (am 10), .ref (am 11), .ref (am 12)])), (am 4, .inl (kd, 60, .inr (.inr (.inr (.inl P))))), (am 5, .inl (kd, 60, .inr (.inr (.inr (.inl V))))), (am 6, .inl (kz, 60, .inl AF)), (am 7, .inl (kd, 60, .inr (.inr (.inr (.inl FX)))))]) [(am 0, .inr (7, [.int 0, .int (nI n), .ref (am 1), .ref (am 2), .ref (am 3), .int (nI kn), .ref (am 4), .ref (am 5), .ref (am 6), .ref (am 7), .ref (am 8), .ref (am 9), .ref (am 10), .ref (am 11), .ref (am 12)])), (am 4, .inl (kd, 60, .inr (.inr (.inr (.inl P))))), (am 5, .inl (kd, 60, .inr (.inr (.inr (.inl V))))), (am 6, .inl (kz, 60, .inl AF)), (am 7, .inl (kd, 60, .inr (.inr (.inr (.inl FX)))))] := hD
  refine lv_aload_n hx hb dX7_value_5 rfl (lv_at hl 0 rfl) ?_
  refine lv_dload_n hx hb dX7_value_6 rfl (lv_at hl 1 rfl) ?_
  refine my_goR (v := (some (.int (if 0 < kn ∧ sp_ge x (P 0) ∧ sp_le x (P (kn - 1)) then 1 else 0)))) (my_runV (bytes := cX7_isInside) (maxL := 3) (ret := (some .boolean)) (n := 1) (As := [.double x]) (rest := []) S hl.1 (mm_isInside l D kd ki kz kl z am 0 n kn P x (by omega)) rfl ⟨rfl, rfl⟩ gX7_value_X7_isInside (by decide +kernel) rfl ⟨Nat.le_of_ble_eq_true rfl, Nat.le_of_ble_eq_true rfl⟩ (my_preR (my_C_S hC hS hz) (my_P_sub (wc := [(am 0, .inr (7, [.int 0, .int (nI n), .ref (am 1), .ref (am 2), .ref (am 3), .int (nI kn), .ref (am 4), .ref (am 5), .ref (am 6), .ref (am 7), .ref (am 8), .ref (am 9), .ref (am 10), .ref (am 11), .ref (am 12)])), (am 4, .inl (kd, 60, .inr (.inr (.inr (.inl P)))))]) hP [0, 1] rfl)) (va_recv hC.1 hP (ci := 7) (q0 := 0) rfl rfl) rfl rfl dX7_value_7) ?_
  refine W.eq (g2 := F0 m 10 ls [.int (if 0 < kn ∧ sp_ge x (P 0) ∧ sp_le x (P (kn - 1)) then 1 else 0)]) rfl ?_
  by_cases q_h1 : 0 < kn ∧ sp_ge x (P 0) ∧ sp_le x (P (kn - 1))
  · rw [if_pos q_h1]
    exact absurd q_h1 h1
  · rw [if_neg q_h1]
    refine lv_if_ne (tgt := 20) hx hb dX7_value_10 (by decide) (fun c_10 => ?_) (fun c_10 => ?_)
    · skip
      first | exact absurd c_10 (by decide) | exact absurd (by decide) c_10
    · skip
      refine lv_aload_n hx hb dX7_value_13 rfl (lv_at hl 0 rfl) ?_
      refine lv_iconst (v := 1) hx hb dX7_value_14 (by decide) ?_
      refine my_goW (v := (some (.int 0))) (w1 := [(am 0, .inr (7, [.int 1, .int (nI n), .ref (am 1), .ref (am 2), .ref (am 3), .int (nI kn), .ref (am 4), .ref (am 5), .ref (am 6), .ref (am 7), .ref (am 8), .ref (am 9), .ref (am 10), .ref (am 11), .ref (am 12)]))]) (wx' := [(am 0, .inr (7, [.int 1, .int (nI n), .ref (am 1), .ref (am 2), .ref (am 3), .int (nI kn), .ref (am 4), .ref (am 5), .ref (am 6), .ref (am 7), .ref (am 8), .ref (am 9), .ref (am 10), .ref (am 11), .ref (am 12)])), (am 4, .inl (kd, 60, .inr (.inr (.inr (.inl P))))), (am 5, .inl (kd, 60, .inr (.inr (.inr (.inl V))))), (am 6, .inl (kz, 60, .inl AF)), (am 7, .inl (kd, 60, .inr (.inr (.inr (.inl FX)))))]) (my_runV (bytes := cX7_fail) (maxL := 2) (ret := (some .int)) (n := 1) (As := [.int 1]) (rest := []) S hl.1 (mm_fail l D kd ki kz kl z am 0 n kn 1) rfl ⟨rfl, rfl⟩ gX7_value_X7_fail (by decide +kernel) rfl ⟨Nat.le_of_ble_eq_true rfl, Nat.le_of_ble_eq_true rfl⟩ (my_preW (my_C_S hC hS hz) (my_P_sub (wc := [(am 0, .inr (7, [.int 0, .int (nI n), .ref (am 1), .ref (am 2), .ref (am 3), .int (nI kn), .ref (am 4), .ref (am 5), .ref (am 6), .ref (am 7), .ref (am 8), .ref (am 9), .ref (am 10), .ref (am 11), .ref (am 12)]))]) hP [0] rfl) (my_D_sub hD hz [0] (by decide) rfl)) (va_recv hC.1 hP (ci := 7) (q0 := 0) rfl rfl) rfl rfl dX7_value_15) hP hD hS [0] rfl rfl rfl (fun H locs hP hD hS => ?_)
      refine W.eq (g2 := F0 m 18 ls [.int 0]) rfl ?_
      refine lv_i2d hx hb dX7_value_18 ?_
      exact my_dretW hx hb hr hlocks hP (rfl) hS (rfl) dX7_value_19

theorem iw_X7_slope_X7 : ∀ w ∈ wsX70, w ∈ wsX7_slope := fun w h => List.mem_cons_of_mem _ (List.mem_append_right _ (h))
set_option maxHeartbeats 4000000 in
set_option maxRecDepth 100000 in
theorem mm_slope (l : Launch) (D : va_G) (kd ki kz kl : ClassId) (z : Nat) (am : Nat → Nat) (th : Int32) (n : Nat) (kn : Nat) (P : Nat → UInt64) (V : Nat → UInt64) (F : Nat → UInt64) (AF : Nat → Int32) (FX : Nat → UInt64) (x : UInt64) (hI : KI kn P V F) (hR : MR kn F AF FX) (hxB : fx_B 1168 x) (h1 : 0 < kn ∧ sp_ge x (P 0) ∧ sp_le x (P (kn - 1))) : my_WR l D kd ki kz kl z yX7_slope wsX7_slope ({ frames := 6, cells := 0, slots := 0, locals := 152 }) [.ref (am 0), .double x] [(am 0, .inr (7, [.int th, .int (nI n), .ref (am 1), .ref (am 2), .ref (am 3), .int (nI kn), .ref (am 4), .ref (am 5), .ref (am 6), .ref (am 7), .ref (am 8), .ref (am 9), .ref (am 10), .ref (am 11), .ref (am 12)])), (am 4, .inl (kd, 60, .inr (.inr (.inr (.inl P))))), (am 5, .inl (kd, 60, .inr (.inr (.inr (.inl V))))), (am 6, .inl (kz, 60, .inl AF)), (am 7, .inl (kd, 60, .inr (.inr (.inr (.inl FX)))))] [(am 0, .inr (7, [.int 0, .int (nI n), .ref (am 1), .ref (am 2), .ref (am 3), .int (nI kn), .ref (am 4), .ref (am 5), .ref (am 6), .ref (am 7), .ref (am 8), .ref (am 9), .ref (am 10), .ref (am 11), .ref (am 12)])), (am 4, .inl (kd, 60, .inr (.inr (.inr (.inl P))))), (am 5, .inl (kd, 60, .inr (.inr (.inr (.inl V))))), (am 6, .inl (kz, 60, .inl AF)), (am 7, .inl (kd, 60, .inr (.inr (.inr (.inl FX)))))] (some (.double (s_tk P V F kn (s_pc P kn x) x))) := by
  refine my_WR_of (cc := cX7_slope) (maxL := 4) (ret := (some .double)) (by decide) rfl (Nat.le_of_ble_eq_true rfl) ?_
  intro p e s m below meth c S hr hlocks hC hP hD hz hS ls hl
  have S : CallFix p m c cX7_slope 4 s ([.ref (am 0), .double x] : List Value).toArray wsX7_slope RX7 := S
  obtain ⟨hx, hb, hml, hown, hts⟩ := id S
  have hl : lv_has ls 4 [(0, .ref (am 0)), (1, .double x)] := hl
  suffices K0 : ∀ (H : Heap) (locs : List Loc), va_P D vwCl [(am 0, .inr (7, [.int th, .int (nI n), .ref (am 1), .ref (am 2), .ref (am 3), .int (nI kn), .ref (am 4), .ref (am 5), .ref (am 6), .ref (am 7), .ref (am 8), .ref (am 9), .ref (am 10), .ref (am 11), .ref (am 12)])), (am 4, .inl (kd, 60, .inr (.inr (.inr (.inl P))))), (am 5, .inl (kd, 60, .inr (.inr (.inr (.inl V))))), (am 6, .inl (kz, 60, .inl AF)), (am 7, .inl (kd, 60, .inr (.inr (.inr (.inl FX)))))] H → va_D (my_A [(am 0, .inr (7, [.int th, .int (nI n), .ref (am 1), .ref (am 2), .ref (am 3), .int (nI kn), .ref (am 4), .ref (am 5), .ref (am 6), .ref (am 7), .ref (am 8), .ref (am 9), .ref (am 10), .ref (am 11), .ref (am 12)])), (am 4, .inl (kd, 60, .inr (.inr (.inr (.inl P))))), (am 5, .inl (kd, 60, .inr (.inr (.inr (.inl V))))), (am 6, .inl (kz, 60, .inl AF)), (am 7, .inl (kd, 60, .inr (.inr (.inr (.inl FX)))))]) [(am 0, .inr (7, [.int th, .int (nI n), .ref (am 1), .ref (am 2), .ref (am 3), .int (nI kn), .ref (am 4), .ref (am 5), .ref (am 6), .ref (am 7), .ref (am 8), .ref (am 9), .ref (am 10), .ref (am 11), .ref (am 12)])), (am 4, .inl (kd, 60, .inr (.inr (.inr (.inl P))))), (am 5, .inl (kd, 60, .inr (.inr (.inr (.inl V))))), (am 6, .inl (kz, 60, .inl AF)), (am 7, .inl (kd, 60, .inr (.inr (.inr (.inl FX)))))] → va_S (my_A [(am 0, .inr (7, [.int th, .int (nI n), .ref (am 1), .ref (am 2), .ref (am 3), .int (nI kn), .ref (am 4), .ref (am 5), .ref (am 6), .ref (am 7), .ref (am 8), .ref (am 9), .ref (am 10), .ref (am 11), .ref (am 12)])), (am 4, .inl (kd, 60, .inr (.inr (.inr (.inl P))))), (am 5, .inl (kd, 60, .inr (.inr (.inr (.inl V))))), (am 6, .inl (kz, 60, .inl AF)), (am 7, .inl (kd, 60, .inr (.inr (.inr (.inl FX)))))]) s.heap H locs → W p l e ({ frames := 6, cells := 0, slots := 0, locals := 152 }) s m ([.ref (am 0), .double x] : List Value).toArray below meth c H locs 0 0 (my_WQ below D ([.ref (am 0), .double x] : List Value).toArray s [(am 0, .inr (7, [.int th, .int (nI n), .ref (am 1), .ref (am 2), .ref (am 3), .int (nI kn), .ref (am 4), .ref (am 5), .ref (am 6), .ref (am 7), .ref (am 8), .ref (am 9), .ref (am 10), .ref (am 11), .ref (am 12)])), (am 4, .inl (kd, 60, .inr (.inr (.inr (.inl P))))), (am 5, .inl (kd, 60, .inr (.inr (.inr (.inl V))))), (am 6, .inl (kz, 60, .inl AF)), (am 7, .inl (kd, 60, .inr (.inr (.inr (.inl FX)))))] [(am 0, .inr (7, [.int 0, .int (nI n), .ref (am 1), .ref (am 2), .ref (am 3), .int (nI kn), .ref (am 4), .ref (am 5), .ref (am 6), .ref (am 7), .ref (am 8), .ref (am 9), .ref (am 10), .ref (am 11), .ref (am 12)])), (am 4, .inl (kd, 60, .inr (.inr (.inr (.inl P))))), (am 5, .inl (kd, 60, .inr (.inr (.inr (.inl V))))), (am 6, .inl (kz, 60, .inl AF)), (am 7, .inl (kd, 60, .inr (.inr (.inr (.inl FX)))))] (some (.double (s_tk P V F kn (s_pc P kn x) x)))) (F0 m 0 ls []) from K0 _ _ hP hD hS
  intro H locs hP hD hS
  have hJ := hI.1
  have hkn := hJ.2.1
  have hkn2 := hJ.1
  have hlt := s_pc_lt (P := P) (x := x) hkn2
  refine lv_aload_n hx hb dX7_slope_0 rfl (lv_at hl 0 rfl) ?_
  refine lv_iconst (v := 0) hx hb dX7_slope_1 (by decide) ?_
  refine va_put (D := D) (ci := 7) (v := .int 0) (ty := .int) (C := RX7) (T := TX7) (N := 15) hx hb hts iw_X7_slope_X7 tyX7 tyX7_ok nmX7 hown hC.1 hP hD hS 0 rfl rfl 0 (by decide) (hts (.fieldLink RX7 48 "MonotoneSplineModel" "thrown" "I") (List.mem_of_getElem? (l := wsX7_slope) (i := 1) rfl)) (fun _ h9 => h9) rfl (by decide +kernel) rfl rfl (Nat.le_of_ble_eq_true rfl) dX7_slope_2 (fun H locs hP hD hS => ?_)
  have hP : va_P D vwCl [(am 0, .inr (7, [.int 0, .int (nI n), .ref (am 1), .ref (am 2), .ref (am 3), .int (nI kn), .ref (am 4), .ref (am 5), .ref (am 6), .ref (am 7), .ref (am 8), .ref (am 9), .ref (am 10), .ref (am 11), .ref (am 12)])), (am 4, .inl (kd, 60, .inr (.inr (.inr (.inl P))))), (am 5, .inl (kd, 60, .inr (.inr (.inr (.inl V))))), (am 6, .inl (kz, 60, .inl AF)), (am 7, .inl (kd, 60, .inr (.inr (.inr (.inl FX)))))] H := hP
  have hD : va_D (my_A [(am 0, .inr (7, [.int th, .int (nI n), .ref (am 1), .ref (am 2), .ref (am 3), .int (nI kn), .ref (am 4), .ref (am 5), .ref (am 6), .ref (am 7), .ref (am 8), .ref (am 9), .ref (am 10), .ref (am 11), .ref (am 12)])), (am 4, .inl (kd, 60, .inr (.inr (.inr (.inl P))))), (am 5, .inl (kd, 60, .inr (.inr (.inr (.inl V))))), (am 6, .inl (kz, 60, .inl AF)), (am 7, .inl (kd, 60, .inr (.inr (.inr (.inl FX)))))]) [(am 0, .inr (7, [.int 0, .int (nI n), .ref (am 1), .ref (am 2), .ref (am 3), .int (nI kn), .ref (am 4), .ref (am 5), .ref (am 6), .ref (am 7), .ref (am 8), .ref (am 9), .ref (am 10), .ref (am 11), .ref (am 12)])), (am 4, .inl (kd, 60, .inr (.inr (.inr (.inl P))))), (am 5, .inl (kd, 60, .inr (.inr (.inr (.inl V))))), (am 6, .inl (kz, 60, .inl AF)), (am 7, .inl (kd, 60, .inr (.inr (.inr (.inl FX)))))] := hD
  refine lv_aload_n hx hb dX7_slope_5 rfl (lv_at hl 0 rfl) ?_
  refine lv_dload_n hx hb dX7_slope_6 rfl (lv_at hl 1 rfl) ?_
  refine my_goR (v := (some (.int (if 0 < kn ∧ sp_ge x (P 0) ∧ sp_le x (P (kn - 1)) then 1 else 0)))) (my_runV (bytes := cX7_isInside) (maxL := 3) (ret := (some .boolean)) (n := 1) (As := [.double x]) (rest := []) S hl.1 (mm_isInside l D kd ki kz kl z am 0 n kn P x (by omega)) rfl ⟨rfl, rfl⟩ gX7_slope_X7_isInside (by decide +kernel) rfl ⟨Nat.le_of_ble_eq_true rfl, Nat.le_of_ble_eq_true rfl⟩ (my_preR (my_C_S hC hS hz) (my_P_sub (wc := [(am 0, .inr (7, [.int 0, .int (nI n), .ref (am 1), .ref (am 2), .ref (am 3), .int (nI kn), .ref (am 4), .ref (am 5), .ref (am 6), .ref (am 7), .ref (am 8), .ref (am 9), .ref (am 10), .ref (am 11), .ref (am 12)])), (am 4, .inl (kd, 60, .inr (.inr (.inr (.inl P)))))]) hP [0, 1] rfl)) (va_recv hC.1 hP (ci := 7) (q0 := 0) rfl rfl) rfl rfl dX7_slope_7) ?_
  refine W.eq (g2 := F0 m 10 ls [.int (if 0 < kn ∧ sp_ge x (P 0) ∧ sp_le x (P (kn - 1)) then 1 else 0)]) rfl ?_
  by_cases q_h1 : 0 < kn ∧ sp_ge x (P 0) ∧ sp_le x (P (kn - 1))
  · rw [if_pos q_h1]
    refine lv_if_ne (tgt := 20) hx hb dX7_slope_10 (by decide) (fun c_10 => ?_) (fun c_10 => ?_)
    · skip
      refine lv_aload_n hx hb dX7_slope_20 rfl (lv_at hl 0 rfl) ?_
      refine lv_dload_n hx hb dX7_slope_21 rfl (lv_at hl 1 rfl) ?_
      refine my_goR (v := (some (.int (nI (s_pc P kn x))))) (my_runV (bytes := cX7_pieceOf) (maxL := 4) (ret := (some .int)) (n := 1) (As := [.double x]) (rest := []) S hl.1 (mm_pieceOf l D kd ki kz kl z am 0 n kn P x (by omega) (by omega)) rfl ⟨rfl, rfl⟩ gX7_slope_X7_pieceOf (by decide +kernel) rfl ⟨Nat.le_of_ble_eq_true rfl, Nat.le_of_ble_eq_true rfl⟩ (my_preR (my_C_S hC hS hz) (my_P_sub (wc := [(am 0, .inr (7, [.int 0, .int (nI n), .ref (am 1), .ref (am 2), .ref (am 3), .int (nI kn), .ref (am 4), .ref (am 5), .ref (am 6), .ref (am 7), .ref (am 8), .ref (am 9), .ref (am 10), .ref (am 11), .ref (am 12)])), (am 4, .inl (kd, 60, .inr (.inr (.inr (.inl P)))))]) hP [0, 1] rfl)) (va_recv hC.1 hP (ci := 7) (q0 := 0) rfl rfl) rfl rfl dX7_slope_22) ?_
      refine W.eq (g2 := F0 m 25 ls [.int (nI (s_pc P kn x))]) rfl ?_
      refine lv_istore_n (lv' := [(3, .int (nI (s_pc P kn x))), (0, .ref (am 0)), (1, .double x)]) hx hb dX7_slope_25 rfl hl (by decide) rfl (fun ls hl => ?_)
      refine lv_aload_n hx hb dX7_slope_26 rfl (lv_at hl 1 rfl) ?_
      refine lv_iload_n hx hb dX7_slope_27 rfl (lv_at hl 0 rfl) ?_
      refine lv_dload_n hx hb dX7_slope_28 rfl (lv_at hl 2 rfl) ?_
      refine lv_aload_n hx hb dX7_slope_29 rfl (lv_at hl 1 rfl) ?_
      refine va_get (D := D) (ci := 7) (v := .ref (am 4)) (C := RX7) (T := TX7) (N := 15) hx hb hts iw_X7_slope_X7 hown hC.1 hP 0 rfl rfl 6 (by decide) (hts (.fieldLink RX7 19 "MonotoneSplineModel" "places" "[D") (List.mem_of_getElem? (l := wsX7_slope) (i := 2) rfl)) (fun _ h9 => h9) rfl dX7_slope_30 ?_
      refine lv_iload_n hx hb dX7_slope_33 rfl (lv_at hl 0 rfl) ?_
      refine my_dald (k := s_pc P kn x) (n := 60) (f := P) hx hb hC hP 1 rfl (by omega) (by omega) dX7_slope_34 ?_
      refine lv_dsub hx hb dX7_slope_35 (fx_n64 (fx_B_n (PE_x hI (by omega) hxB) (by omega))) ?_
      refine my_goR (v := (some (.double (s_t (s_s P V F kn (s_pc P kn x)) (s_pk P V F kn (s_pc P kn x)) (s_qk P V F kn (s_pc P kn x)) (FP.dsub x (P (s_pc P kn x))))))) (my_runV (bytes := cX7_slopeIn) (maxL := 4) (ret := (some .double)) (n := 2) (As := [.int (nI (s_pc P kn x)), .double (FP.dsub x (P (s_pc P kn x)))]) (rest := []) S hl.1 (mm_slopeIn l D kd ki kz kl z am 0 n kn P V F AF FX (s_pc P kn x) (FP.dsub x (P (s_pc P kn x))) (hI) (hR) (by omega) (PE_x hI (by omega) hxB)) rfl ⟨rfl, rfl⟩ gX7_slope_X7_slopeIn (by decide +kernel) rfl ⟨Nat.le_of_ble_eq_true rfl, Nat.le_of_ble_eq_true rfl⟩ (my_preR (my_C_S hC hS hz) (my_P_sub (wc := [(am 0, .inr (7, [.int 0, .int (nI n), .ref (am 1), .ref (am 2), .ref (am 3), .int (nI kn), .ref (am 4), .ref (am 5), .ref (am 6), .ref (am 7), .ref (am 8), .ref (am 9), .ref (am 10), .ref (am 11), .ref (am 12)])), (am 4, .inl (kd, 60, .inr (.inr (.inr (.inl P))))), (am 5, .inl (kd, 60, .inr (.inr (.inr (.inl V))))), (am 6, .inl (kz, 60, .inl AF)), (am 7, .inl (kd, 60, .inr (.inr (.inr (.inl FX)))))]) hP [0, 1, 2, 3, 4] rfl)) (va_recv hC.1 hP (ci := 7) (q0 := 0) rfl rfl) rfl rfl dX7_slope_36) ?_
      refine W.eq (g2 := F0 m 39 ls [.double (s_t (s_s P V F kn (s_pc P kn x)) (s_pk P V F kn (s_pc P kn x)) (s_qk P V F kn (s_pc P kn x)) (FP.dsub x (P (s_pc P kn x))))]) rfl ?_
      exact my_dretW hx hb hr hlocks hP (rfl) hS (rfl) dX7_slope_39
    · skip
      first | exact absurd c_10 (by decide) | exact absurd (by decide) c_10
  · rw [if_neg q_h1]
    exact absurd h1 q_h1

set_option maxHeartbeats 4000000 in
set_option maxRecDepth 100000 in
theorem mm_slope_1 (l : Launch) (D : va_G) (kd ki kz kl : ClassId) (z : Nat) (am : Nat → Nat) (th : Int32) (n : Nat) (kn : Nat) (P : Nat → UInt64) (V : Nat → UInt64) (AF : Nat → Int32) (FX : Nat → UInt64) (x : UInt64) (hn : kn ≤ 60) (h1 : ¬ (0 < kn ∧ sp_ge x (P 0) ∧ sp_le x (P (kn - 1)))) : my_WR l D kd ki kz kl z yX7_slope wsX7_slope ({ frames := 2, cells := 0, slots := 0, locals := 47 }) [.ref (am 0), .double x] [(am 0, .inr (7, [.int th, .int (nI n), .ref (am 1), .ref (am 2), .ref (am 3), .int (nI kn), .ref (am 4), .ref (am 5), .ref (am 6), .ref (am 7), .ref (am 8), .ref (am 9), .ref (am 10), .ref (am 11), .ref (am 12)])), (am 4, .inl (kd, 60, .inr (.inr (.inr (.inl P))))), (am 5, .inl (kd, 60, .inr (.inr (.inr (.inl V))))), (am 6, .inl (kz, 60, .inl AF)), (am 7, .inl (kd, 60, .inr (.inr (.inr (.inl FX)))))] [(am 0, .inr (7, [.int 1, .int (nI n), .ref (am 1), .ref (am 2), .ref (am 3), .int (nI kn), .ref (am 4), .ref (am 5), .ref (am 6), .ref (am 7), .ref (am 8), .ref (am 9), .ref (am 10), .ref (am 11), .ref (am 12)])), (am 4, .inl (kd, 60, .inr (.inr (.inr (.inl P))))), (am 5, .inl (kd, 60, .inr (.inr (.inr (.inl V))))), (am 6, .inl (kz, 60, .inl AF)), (am 7, .inl (kd, 60, .inr (.inr (.inr (.inl FX)))))] (some (.double (FP.i2d 0))) := by
  refine my_WR_of (cc := cX7_slope) (maxL := 4) (ret := (some .double)) (by decide) rfl (Nat.le_of_ble_eq_true rfl) ?_
  intro p e s m below meth c S hr hlocks hC hP hD hz hS ls hl
  have S : CallFix p m c cX7_slope 4 s ([.ref (am 0), .double x] : List Value).toArray wsX7_slope RX7 := S
  obtain ⟨hx, hb, hml, hown, hts⟩ := id S
  have hl : lv_has ls 4 [(0, .ref (am 0)), (1, .double x)] := hl
  suffices K0 : ∀ (H : Heap) (locs : List Loc), va_P D vwCl [(am 0, .inr (7, [.int th, .int (nI n), .ref (am 1), .ref (am 2), .ref (am 3), .int (nI kn), .ref (am 4), .ref (am 5), .ref (am 6), .ref (am 7), .ref (am 8), .ref (am 9), .ref (am 10), .ref (am 11), .ref (am 12)])), (am 4, .inl (kd, 60, .inr (.inr (.inr (.inl P))))), (am 5, .inl (kd, 60, .inr (.inr (.inr (.inl V))))), (am 6, .inl (kz, 60, .inl AF)), (am 7, .inl (kd, 60, .inr (.inr (.inr (.inl FX)))))] H → va_D (my_A [(am 0, .inr (7, [.int th, .int (nI n), .ref (am 1), .ref (am 2), .ref (am 3), .int (nI kn), .ref (am 4), .ref (am 5), .ref (am 6), .ref (am 7), .ref (am 8), .ref (am 9), .ref (am 10), .ref (am 11), .ref (am 12)])), (am 4, .inl (kd, 60, .inr (.inr (.inr (.inl P))))), (am 5, .inl (kd, 60, .inr (.inr (.inr (.inl V))))), (am 6, .inl (kz, 60, .inl AF)), (am 7, .inl (kd, 60, .inr (.inr (.inr (.inl FX)))))]) [(am 0, .inr (7, [.int th, .int (nI n), .ref (am 1), .ref (am 2), .ref (am 3), .int (nI kn), .ref (am 4), .ref (am 5), .ref (am 6), .ref (am 7), .ref (am 8), .ref (am 9), .ref (am 10), .ref (am 11), .ref (am 12)])), (am 4, .inl (kd, 60, .inr (.inr (.inr (.inl P))))), (am 5, .inl (kd, 60, .inr (.inr (.inr (.inl V))))), (am 6, .inl (kz, 60, .inl AF)), (am 7, .inl (kd, 60, .inr (.inr (.inr (.inl FX)))))] → va_S (my_A [(am 0, .inr (7, [.int th, .int (nI n), .ref (am 1), .ref (am 2), .ref (am 3), .int (nI kn), .ref (am 4), .ref (am 5), .ref (am 6), .ref (am 7), .ref (am 8), .ref (am 9), .ref (am 10), .ref (am 11), .ref (am 12)])), (am 4, .inl (kd, 60, .inr (.inr (.inr (.inl P))))), (am 5, .inl (kd, 60, .inr (.inr (.inr (.inl V))))), (am 6, .inl (kz, 60, .inl AF)), (am 7, .inl (kd, 60, .inr (.inr (.inr (.inl FX)))))]) s.heap H locs → W p l e ({ frames := 2, cells := 0, slots := 0, locals := 47 }) s m ([.ref (am 0), .double x] : List Value).toArray below meth c H locs 0 0 (my_WQ below D ([.ref (am 0), .double x] : List Value).toArray s [(am 0, .inr (7, [.int th, .int (nI n), .ref (am 1), .ref (am 2), .ref (am 3), .int (nI kn), .ref (am 4), .ref (am 5), .ref (am 6), .ref (am 7), .ref (am 8), .ref (am 9), .ref (am 10), .ref (am 11), .ref (am 12)])), (am 4, .inl (kd, 60, .inr (.inr (.inr (.inl P))))), (am 5, .inl (kd, 60, .inr (.inr (.inr (.inl V))))), (am 6, .inl (kz, 60, .inl AF)), (am 7, .inl (kd, 60, .inr (.inr (.inr (.inl FX)))))] [(am 0, .inr (7, [.int 1, .int (nI n), .ref (am 1), .ref (am 2), .ref (am 3), .int (nI kn), .ref (am 4), .ref (am 5), .ref (am 6), .ref (am 7), .ref (am 8), .ref (am 9), .ref (am 10), .ref (am 11), .ref (am 12)])), (am 4, .inl (kd, 60, .inr (.inr (.inr (.inl P))))), (am 5, .inl (kd, 60, .inr (.inr (.inr (.inl V))))), (am 6, .inl (kz, 60, .inl AF)), (am 7, .inl (kd, 60, .inr (.inr (.inr (.inl FX)))))] (some (.double (FP.i2d 0)))) (F0 m 0 ls []) from K0 _ _ hP hD hS
  intro H locs hP hD hS
  refine lv_aload_n hx hb dX7_slope_0 rfl (lv_at hl 0 rfl) ?_
  refine lv_iconst (v := 0) hx hb dX7_slope_1 (by decide) ?_
  refine va_put (D := D) (ci := 7) (v := .int 0) (ty := .int) (C := RX7) (T := TX7) (N := 15) hx hb hts iw_X7_slope_X7 tyX7 tyX7_ok nmX7 hown hC.1 hP hD hS 0 rfl rfl 0 (by decide) (hts (.fieldLink RX7 48 "MonotoneSplineModel" "thrown" "I") (List.mem_of_getElem? (l := wsX7_slope) (i := 1) rfl)) (fun _ h9 => h9) rfl (by decide +kernel) rfl rfl (Nat.le_of_ble_eq_true rfl) dX7_slope_2 (fun H locs hP hD hS => ?_)
  have hP : va_P D vwCl [(am 0, .inr (7, [.int 0, .int (nI n), .ref (am 1), .ref (am 2), .ref (am 3), .int (nI kn), .ref (am 4), .ref (am 5), .ref (am 6), .ref (am 7), .ref (am 8), .ref (am 9), .ref (am 10), .ref (am 11), .ref (am 12)])), (am 4, .inl (kd, 60, .inr (.inr (.inr (.inl P))))), (am 5, .inl (kd, 60, .inr (.inr (.inr (.inl V))))), (am 6, .inl (kz, 60, .inl AF)), (am 7, .inl (kd, 60, .inr (.inr (.inr (.inl FX)))))] H := hP
  have hD : va_D (my_A [(am 0, .inr (7, [.int th, .int (nI n), .ref (am 1), .ref (am 2), .ref (am 3), .int (nI kn), .ref (am 4), .ref (am 5), .ref (am 6), .ref (am 7), .ref (am 8), .ref (am 9), .ref (am 10), .ref (am 11), .ref (am 12)])), (am 4, .inl (kd, 60, .inr (.inr (.inr (.inl P))))), (am 5, .inl (kd, 60, .inr (.inr (.inr (.inl V))))), (am 6, .inl (kz, 60, .inl AF)), (am 7, .inl (kd, 60, .inr (.inr (.inr (.inl FX)))))]) [(am 0, .inr (7, [.int 0, .int (nI n), .ref (am 1), .ref (am 2), .ref (am 3), .int (nI kn), .ref (am 4), .ref (am 5), .ref (am 6), .ref (am 7), .ref (am 8), .ref (am 9), .ref (am 10), .ref (am 11), .ref (am 12)])), (am 4, .inl (kd, 60, .inr (.inr (.inr (.inl P))))), (am 5, .inl (kd, 60, .inr (.inr (.inr (.inl V))))), (am 6, .inl (kz, 60, .inl AF)), (am 7, .inl (kd, 60, .inr (.inr (.inr (.inl FX)))))] := hD
  refine lv_aload_n hx hb dX7_slope_5 rfl (lv_at hl 0 rfl) ?_
  refine lv_dload_n hx hb dX7_slope_6 rfl (lv_at hl 1 rfl) ?_
  refine my_goR (v := (some (.int (if 0 < kn ∧ sp_ge x (P 0) ∧ sp_le x (P (kn - 1)) then 1 else 0)))) (my_runV (bytes := cX7_isInside) (maxL := 3) (ret := (some .boolean)) (n := 1) (As := [.double x]) (rest := []) S hl.1 (mm_isInside l D kd ki kz kl z am 0 n kn P x (by omega)) rfl ⟨rfl, rfl⟩ gX7_slope_X7_isInside (by decide +kernel) rfl ⟨Nat.le_of_ble_eq_true rfl, Nat.le_of_ble_eq_true rfl⟩ (my_preR (my_C_S hC hS hz) (my_P_sub (wc := [(am 0, .inr (7, [.int 0, .int (nI n), .ref (am 1), .ref (am 2), .ref (am 3), .int (nI kn), .ref (am 4), .ref (am 5), .ref (am 6), .ref (am 7), .ref (am 8), .ref (am 9), .ref (am 10), .ref (am 11), .ref (am 12)])), (am 4, .inl (kd, 60, .inr (.inr (.inr (.inl P)))))]) hP [0, 1] rfl)) (va_recv hC.1 hP (ci := 7) (q0 := 0) rfl rfl) rfl rfl dX7_slope_7) ?_
  refine W.eq (g2 := F0 m 10 ls [.int (if 0 < kn ∧ sp_ge x (P 0) ∧ sp_le x (P (kn - 1)) then 1 else 0)]) rfl ?_
  by_cases q_h1 : 0 < kn ∧ sp_ge x (P 0) ∧ sp_le x (P (kn - 1))
  · rw [if_pos q_h1]
    exact absurd q_h1 h1
  · rw [if_neg q_h1]
    refine lv_if_ne (tgt := 20) hx hb dX7_slope_10 (by decide) (fun c_10 => ?_) (fun c_10 => ?_)
    · skip
      first | exact absurd c_10 (by decide) | exact absurd (by decide) c_10
    · skip
      refine lv_aload_n hx hb dX7_slope_13 rfl (lv_at hl 0 rfl) ?_
      refine lv_iconst (v := 1) hx hb dX7_slope_14 (by decide) ?_
      refine my_goW (v := (some (.int 0))) (w1 := [(am 0, .inr (7, [.int 1, .int (nI n), .ref (am 1), .ref (am 2), .ref (am 3), .int (nI kn), .ref (am 4), .ref (am 5), .ref (am 6), .ref (am 7), .ref (am 8), .ref (am 9), .ref (am 10), .ref (am 11), .ref (am 12)]))]) (wx' := [(am 0, .inr (7, [.int 1, .int (nI n), .ref (am 1), .ref (am 2), .ref (am 3), .int (nI kn), .ref (am 4), .ref (am 5), .ref (am 6), .ref (am 7), .ref (am 8), .ref (am 9), .ref (am 10), .ref (am 11), .ref (am 12)])), (am 4, .inl (kd, 60, .inr (.inr (.inr (.inl P))))), (am 5, .inl (kd, 60, .inr (.inr (.inr (.inl V))))), (am 6, .inl (kz, 60, .inl AF)), (am 7, .inl (kd, 60, .inr (.inr (.inr (.inl FX)))))]) (my_runV (bytes := cX7_fail) (maxL := 2) (ret := (some .int)) (n := 1) (As := [.int 1]) (rest := []) S hl.1 (mm_fail l D kd ki kz kl z am 0 n kn 1) rfl ⟨rfl, rfl⟩ gX7_slope_X7_fail (by decide +kernel) rfl ⟨Nat.le_of_ble_eq_true rfl, Nat.le_of_ble_eq_true rfl⟩ (my_preW (my_C_S hC hS hz) (my_P_sub (wc := [(am 0, .inr (7, [.int 0, .int (nI n), .ref (am 1), .ref (am 2), .ref (am 3), .int (nI kn), .ref (am 4), .ref (am 5), .ref (am 6), .ref (am 7), .ref (am 8), .ref (am 9), .ref (am 10), .ref (am 11), .ref (am 12)]))]) hP [0] rfl) (my_D_sub hD hz [0] (by decide) rfl)) (va_recv hC.1 hP (ci := 7) (q0 := 0) rfl rfl) rfl rfl dX7_slope_15) hP hD hS [0] rfl rfl rfl (fun H locs hP hD hS => ?_)
      refine W.eq (g2 := F0 m 18 ls [.int 0]) rfl ?_
      refine lv_i2d hx hb dX7_slope_18 ?_
      exact my_dretW hx hb hr hlocks hP (rfl) hS (rfl) dX7_slope_19

theorem iw_X7_area_X7 : ∀ w ∈ wsX70, w ∈ wsX7_area := fun w h => List.mem_cons_of_mem _ (List.mem_append_right _ (h))
set_option maxHeartbeats 4000000 in
set_option maxRecDepth 100000 in
theorem mm_area (l : Launch) (D : va_G) (kd ki kz kl : ClassId) (z : Nat) (am : Nat → Nat) (th : Int32) (n : Nat) (kn : Nat) (P : Nat → UInt64) (V : Nat → UInt64) (F : Nat → UInt64) (AF : Nat → Int32) (FX : Nat → UInt64) (x : UInt64) (y : UInt64) (hI : KI kn P V F) (hR : MR kn F AF FX) (hxB : fx_B 1168 x) (h1 : 0 < kn ∧ sp_ge x (P 0) ∧ sp_le x (P (kn - 1))) (hyB : fx_B 1168 y) (h2 : 0 < kn ∧ sp_ge y (P 0) ∧ sp_le y (P (kn - 1))) : my_WR l D kd ki kz kl z yX7_area wsX7_area ({ frames := 7, cells := 0, slots := 0, locals := 178 }) [.ref (am 0), .double x, .double y] [(am 0, .inr (7, [.int th, .int (nI n), .ref (am 1), .ref (am 2), .ref (am 3), .int (nI kn), .ref (am 4), .ref (am 5), .ref (am 6), .ref (am 7), .ref (am 8), .ref (am 9), .ref (am 10), .ref (am 11), .ref (am 12)])), (am 4, .inl (kd, 60, .inr (.inr (.inr (.inl P))))), (am 5, .inl (kd, 60, .inr (.inr (.inr (.inl V))))), (am 6, .inl (kz, 60, .inl AF)), (am 7, .inl (kd, 60, .inr (.inr (.inr (.inl FX)))))] [(am 0, .inr (7, [.int 0, .int (nI n), .ref (am 1), .ref (am 2), .ref (am 3), .int (nI kn), .ref (am 4), .ref (am 5), .ref (am 6), .ref (am 7), .ref (am 8), .ref (am 9), .ref (am 10), .ref (am 11), .ref (am 12)])), (am 4, .inl (kd, 60, .inr (.inr (.inr (.inl P))))), (am 5, .inl (kd, 60, .inr (.inr (.inr (.inl V))))), (am 6, .inl (kz, 60, .inl AF)), (am 7, .inl (kd, 60, .inr (.inr (.inr (.inl FX)))))] (some (.double (FP.dsub (s_at2 P V F kn y) (s_at2 P V F kn x)))) := by
  refine my_WR_of (cc := cX7_area) (maxL := 5) (ret := (some .double)) (by decide) rfl (Nat.le_of_ble_eq_true rfl) ?_
  intro p e s m below meth c S hr hlocks hC hP hD hz hS ls hl
  have S : CallFix p m c cX7_area 5 s ([.ref (am 0), .double x, .double y] : List Value).toArray wsX7_area RX7 := S
  obtain ⟨hx, hb, hml, hown, hts⟩ := id S
  have hl : lv_has ls 5 [(0, .ref (am 0)), (1, .double x), (3, .double y)] := hl
  suffices K0 : ∀ (H : Heap) (locs : List Loc), va_P D vwCl [(am 0, .inr (7, [.int th, .int (nI n), .ref (am 1), .ref (am 2), .ref (am 3), .int (nI kn), .ref (am 4), .ref (am 5), .ref (am 6), .ref (am 7), .ref (am 8), .ref (am 9), .ref (am 10), .ref (am 11), .ref (am 12)])), (am 4, .inl (kd, 60, .inr (.inr (.inr (.inl P))))), (am 5, .inl (kd, 60, .inr (.inr (.inr (.inl V))))), (am 6, .inl (kz, 60, .inl AF)), (am 7, .inl (kd, 60, .inr (.inr (.inr (.inl FX)))))] H → va_D (my_A [(am 0, .inr (7, [.int th, .int (nI n), .ref (am 1), .ref (am 2), .ref (am 3), .int (nI kn), .ref (am 4), .ref (am 5), .ref (am 6), .ref (am 7), .ref (am 8), .ref (am 9), .ref (am 10), .ref (am 11), .ref (am 12)])), (am 4, .inl (kd, 60, .inr (.inr (.inr (.inl P))))), (am 5, .inl (kd, 60, .inr (.inr (.inr (.inl V))))), (am 6, .inl (kz, 60, .inl AF)), (am 7, .inl (kd, 60, .inr (.inr (.inr (.inl FX)))))]) [(am 0, .inr (7, [.int th, .int (nI n), .ref (am 1), .ref (am 2), .ref (am 3), .int (nI kn), .ref (am 4), .ref (am 5), .ref (am 6), .ref (am 7), .ref (am 8), .ref (am 9), .ref (am 10), .ref (am 11), .ref (am 12)])), (am 4, .inl (kd, 60, .inr (.inr (.inr (.inl P))))), (am 5, .inl (kd, 60, .inr (.inr (.inr (.inl V))))), (am 6, .inl (kz, 60, .inl AF)), (am 7, .inl (kd, 60, .inr (.inr (.inr (.inl FX)))))] → va_S (my_A [(am 0, .inr (7, [.int th, .int (nI n), .ref (am 1), .ref (am 2), .ref (am 3), .int (nI kn), .ref (am 4), .ref (am 5), .ref (am 6), .ref (am 7), .ref (am 8), .ref (am 9), .ref (am 10), .ref (am 11), .ref (am 12)])), (am 4, .inl (kd, 60, .inr (.inr (.inr (.inl P))))), (am 5, .inl (kd, 60, .inr (.inr (.inr (.inl V))))), (am 6, .inl (kz, 60, .inl AF)), (am 7, .inl (kd, 60, .inr (.inr (.inr (.inl FX)))))]) s.heap H locs → W p l e ({ frames := 7, cells := 0, slots := 0, locals := 178 }) s m ([.ref (am 0), .double x, .double y] : List Value).toArray below meth c H locs 0 0 (my_WQ below D ([.ref (am 0), .double x, .double y] : List Value).toArray s [(am 0, .inr (7, [.int th, .int (nI n), .ref (am 1), .ref (am 2), .ref (am 3), .int (nI kn), .ref (am 4), .ref (am 5), .ref (am 6), .ref (am 7), .ref (am 8), .ref (am 9), .ref (am 10), .ref (am 11), .ref (am 12)])), (am 4, .inl (kd, 60, .inr (.inr (.inr (.inl P))))), (am 5, .inl (kd, 60, .inr (.inr (.inr (.inl V))))), (am 6, .inl (kz, 60, .inl AF)), (am 7, .inl (kd, 60, .inr (.inr (.inr (.inl FX)))))] [(am 0, .inr (7, [.int 0, .int (nI n), .ref (am 1), .ref (am 2), .ref (am 3), .int (nI kn), .ref (am 4), .ref (am 5), .ref (am 6), .ref (am 7), .ref (am 8), .ref (am 9), .ref (am 10), .ref (am 11), .ref (am 12)])), (am 4, .inl (kd, 60, .inr (.inr (.inr (.inl P))))), (am 5, .inl (kd, 60, .inr (.inr (.inr (.inl V))))), (am 6, .inl (kz, 60, .inl AF)), (am 7, .inl (kd, 60, .inr (.inr (.inr (.inl FX)))))] (some (.double (FP.dsub (s_at2 P V F kn y) (s_at2 P V F kn x))))) (F0 m 0 ls []) from K0 _ _ hP hD hS
  intro H locs hP hD hS
  have hJ := hI.1
  have hkn := hJ.2.1
  have hkn2 := hJ.1
  refine lv_aload_n hx hb dX7_area_0 rfl (lv_at hl 0 rfl) ?_
  refine lv_iconst (v := 0) hx hb dX7_area_1 (by decide) ?_
  refine va_put (D := D) (ci := 7) (v := .int 0) (ty := .int) (C := RX7) (T := TX7) (N := 15) hx hb hts iw_X7_area_X7 tyX7 tyX7_ok nmX7 hown hC.1 hP hD hS 0 rfl rfl 0 (by decide) (hts (.fieldLink RX7 48 "MonotoneSplineModel" "thrown" "I") (List.mem_of_getElem? (l := wsX7_area) (i := 1) rfl)) (fun _ h9 => h9) rfl (by decide +kernel) rfl rfl (Nat.le_of_ble_eq_true rfl) dX7_area_2 (fun H locs hP hD hS => ?_)
  have hP : va_P D vwCl [(am 0, .inr (7, [.int 0, .int (nI n), .ref (am 1), .ref (am 2), .ref (am 3), .int (nI kn), .ref (am 4), .ref (am 5), .ref (am 6), .ref (am 7), .ref (am 8), .ref (am 9), .ref (am 10), .ref (am 11), .ref (am 12)])), (am 4, .inl (kd, 60, .inr (.inr (.inr (.inl P))))), (am 5, .inl (kd, 60, .inr (.inr (.inr (.inl V))))), (am 6, .inl (kz, 60, .inl AF)), (am 7, .inl (kd, 60, .inr (.inr (.inr (.inl FX)))))] H := hP
  have hD : va_D (my_A [(am 0, .inr (7, [.int th, .int (nI n), .ref (am 1), .ref (am 2), .ref (am 3), .int (nI kn), .ref (am 4), .ref (am 5), .ref (am 6), .ref (am 7), .ref (am 8), .ref (am 9), .ref (am 10), .ref (am 11), .ref (am 12)])), (am 4, .inl (kd, 60, .inr (.inr (.inr (.inl P))))), (am 5, .inl (kd, 60, .inr (.inr (.inr (.inl V))))), (am 6, .inl (kz, 60, .inl AF)), (am 7, .inl (kd, 60, .inr (.inr (.inr (.inl FX)))))]) [(am 0, .inr (7, [.int 0, .int (nI n), .ref (am 1), .ref (am 2), .ref (am 3), .int (nI kn), .ref (am 4), .ref (am 5), .ref (am 6), .ref (am 7), .ref (am 8), .ref (am 9), .ref (am 10), .ref (am 11), .ref (am 12)])), (am 4, .inl (kd, 60, .inr (.inr (.inr (.inl P))))), (am 5, .inl (kd, 60, .inr (.inr (.inr (.inl V))))), (am 6, .inl (kz, 60, .inl AF)), (am 7, .inl (kd, 60, .inr (.inr (.inr (.inl FX)))))] := hD
  refine lv_aload_n hx hb dX7_area_5 rfl (lv_at hl 0 rfl) ?_
  refine lv_dload_n hx hb dX7_area_6 rfl (lv_at hl 1 rfl) ?_
  refine my_goR (v := (some (.int (if 0 < kn ∧ sp_ge x (P 0) ∧ sp_le x (P (kn - 1)) then 1 else 0)))) (my_runV (bytes := cX7_isInside) (maxL := 3) (ret := (some .boolean)) (n := 1) (As := [.double x]) (rest := []) S hl.1 (mm_isInside l D kd ki kz kl z am 0 n kn P x (by omega)) rfl ⟨rfl, rfl⟩ gX7_area_X7_isInside (by decide +kernel) rfl ⟨Nat.le_of_ble_eq_true rfl, Nat.le_of_ble_eq_true rfl⟩ (my_preR (my_C_S hC hS hz) (my_P_sub (wc := [(am 0, .inr (7, [.int 0, .int (nI n), .ref (am 1), .ref (am 2), .ref (am 3), .int (nI kn), .ref (am 4), .ref (am 5), .ref (am 6), .ref (am 7), .ref (am 8), .ref (am 9), .ref (am 10), .ref (am 11), .ref (am 12)])), (am 4, .inl (kd, 60, .inr (.inr (.inr (.inl P)))))]) hP [0, 1] rfl)) (va_recv hC.1 hP (ci := 7) (q0 := 0) rfl rfl) rfl rfl dX7_area_7) ?_
  refine W.eq (g2 := F0 m 10 ls [.int (if 0 < kn ∧ sp_ge x (P 0) ∧ sp_le x (P (kn - 1)) then 1 else 0)]) rfl ?_
  by_cases q_h1 : 0 < kn ∧ sp_ge x (P 0) ∧ sp_le x (P (kn - 1))
  · rw [if_pos q_h1]
    refine lv_if_eq (tgt := 35) hx hb dX7_area_10 (by decide) (fun c_10 => ?_) (fun c_10 => ?_)
    · skip
      first | exact absurd c_10 (by decide) | exact absurd (by decide) c_10
    · skip
      refine lv_aload_n hx hb dX7_area_13 rfl (lv_at hl 0 rfl) ?_
      refine lv_dload_n hx hb dX7_area_14 rfl (lv_at hl 2 rfl) ?_
      refine my_goR (v := (some (.int (if 0 < kn ∧ sp_ge y (P 0) ∧ sp_le y (P (kn - 1)) then 1 else 0)))) (my_runV (bytes := cX7_isInside) (maxL := 3) (ret := (some .boolean)) (n := 1) (As := [.double y]) (rest := []) S hl.1 (mm_isInside l D kd ki kz kl z am 0 n kn P y (by omega)) rfl ⟨rfl, rfl⟩ gX7_area_X7_isInside (by decide +kernel) rfl ⟨Nat.le_of_ble_eq_true rfl, Nat.le_of_ble_eq_true rfl⟩ (my_preR (my_C_S hC hS hz) (my_P_sub (wc := [(am 0, .inr (7, [.int 0, .int (nI n), .ref (am 1), .ref (am 2), .ref (am 3), .int (nI kn), .ref (am 4), .ref (am 5), .ref (am 6), .ref (am 7), .ref (am 8), .ref (am 9), .ref (am 10), .ref (am 11), .ref (am 12)])), (am 4, .inl (kd, 60, .inr (.inr (.inr (.inl P)))))]) hP [0, 1] rfl)) (va_recv hC.1 hP (ci := 7) (q0 := 0) rfl rfl) rfl rfl dX7_area_15) ?_
      refine W.eq (g2 := F0 m 18 ls [.int (if 0 < kn ∧ sp_ge y (P 0) ∧ sp_le y (P (kn - 1)) then 1 else 0)]) rfl ?_
      by_cases q_h2 : 0 < kn ∧ sp_ge y (P 0) ∧ sp_le y (P (kn - 1))
      · rw [if_pos q_h2]
        refine lv_if_eq (tgt := 35) hx hb dX7_area_18 (by decide) (fun c_18 => ?_) (fun c_18 => ?_)
        · skip
          first | exact absurd c_18 (by decide) | exact absurd (by decide) c_18
        · skip
          refine lv_aload_n hx hb dX7_area_21 rfl (lv_at hl 0 rfl) ?_
          refine lv_dload_n hx hb dX7_area_22 rfl (lv_at hl 2 rfl) ?_
          refine my_goR (v := (some (.double (s_at2 P V F kn y)))) (my_runV (bytes := cX7_areaTo) (maxL := 7) (ret := (some .double)) (n := 1) (As := [.double y]) (rest := []) S hl.1 (mm_areaTo l D kd ki kz kl z am 0 n kn P V F AF FX y (hI) (hR) (hyB)) rfl ⟨rfl, rfl⟩ gX7_area_X7_areaTo (by decide +kernel) rfl ⟨Nat.le_of_ble_eq_true rfl, Nat.le_of_ble_eq_true rfl⟩ (my_preR (my_C_S hC hS hz) (my_P_sub (wc := [(am 0, .inr (7, [.int 0, .int (nI n), .ref (am 1), .ref (am 2), .ref (am 3), .int (nI kn), .ref (am 4), .ref (am 5), .ref (am 6), .ref (am 7), .ref (am 8), .ref (am 9), .ref (am 10), .ref (am 11), .ref (am 12)])), (am 4, .inl (kd, 60, .inr (.inr (.inr (.inl P))))), (am 5, .inl (kd, 60, .inr (.inr (.inr (.inl V))))), (am 6, .inl (kz, 60, .inl AF)), (am 7, .inl (kd, 60, .inr (.inr (.inr (.inl FX)))))]) hP [0, 1, 2, 3, 4] rfl)) (va_recv hC.1 hP (ci := 7) (q0 := 0) rfl rfl) rfl rfl dX7_area_23) ?_
          refine W.eq (g2 := F0 m 26 ls [.double (s_at2 P V F kn y)]) rfl ?_
          refine lv_aload_n hx hb dX7_area_26 rfl (lv_at hl 0 rfl) ?_
          refine lv_dload_n hx hb dX7_area_27 rfl (lv_at hl 1 rfl) ?_
          refine my_goR (v := (some (.double (s_at2 P V F kn x)))) (my_runV (bytes := cX7_areaTo) (maxL := 7) (ret := (some .double)) (n := 1) (As := [.double x]) (rest := [.double (s_at2 P V F kn y)]) S hl.1 (mm_areaTo l D kd ki kz kl z am 0 n kn P V F AF FX x (hI) (hR) (hxB)) rfl ⟨rfl, rfl⟩ gX7_area_X7_areaTo (by decide +kernel) rfl ⟨Nat.le_of_ble_eq_true rfl, Nat.le_of_ble_eq_true rfl⟩ (my_preR (my_C_S hC hS hz) (my_P_sub (wc := [(am 0, .inr (7, [.int 0, .int (nI n), .ref (am 1), .ref (am 2), .ref (am 3), .int (nI kn), .ref (am 4), .ref (am 5), .ref (am 6), .ref (am 7), .ref (am 8), .ref (am 9), .ref (am 10), .ref (am 11), .ref (am 12)])), (am 4, .inl (kd, 60, .inr (.inr (.inr (.inl P))))), (am 5, .inl (kd, 60, .inr (.inr (.inr (.inl V))))), (am 6, .inl (kz, 60, .inl AF)), (am 7, .inl (kd, 60, .inr (.inr (.inr (.inl FX)))))]) hP [0, 1, 2, 3, 4] rfl)) (va_recv hC.1 hP (ci := 7) (q0 := 0) rfl rfl) rfl rfl dX7_area_28) ?_
          refine W.eq (g2 := F0 m 31 ls [.double (s_at2 P V F kn x), .double (s_at2 P V F kn y)]) rfl ?_
          refine lv_dsub hx hb dX7_area_31 (fx_n64 (fx_B_n (fx_Bs (M := 1840) (s_at2_B hI hyB) (s_at2_B hI hxB) (by omega) (by omega) (by omega)) (by omega))) ?_
          refine lv_goto (tgt := 41) hx hb dX7_area_32 (by decide) ?_
          exact my_dretW hx hb hr hlocks hP (rfl) hS (rfl) dX7_area_41
      · rw [if_neg q_h2]
        exact absurd h2 q_h2
  · rw [if_neg q_h1]
    exact absurd h1 q_h1

set_option maxHeartbeats 4000000 in
set_option maxRecDepth 100000 in
theorem mm_area_1 (l : Launch) (D : va_G) (kd ki kz kl : ClassId) (z : Nat) (am : Nat → Nat) (th : Int32) (n : Nat) (kn : Nat) (P : Nat → UInt64) (V : Nat → UInt64) (AF : Nat → Int32) (FX : Nat → UInt64) (x : UInt64) (y : UInt64) (hn : kn ≤ 60) (hno : ¬ ((0 < kn ∧ sp_ge x (P 0) ∧ sp_le x (P (kn - 1))) ∧ (0 < kn ∧ sp_ge y (P 0) ∧ sp_le y (P (kn - 1))))) : my_WR l D kd ki kz kl z yX7_area wsX7_area ({ frames := 2, cells := 0, slots := 0, locals := 47 }) [.ref (am 0), .double x, .double y] [(am 0, .inr (7, [.int th, .int (nI n), .ref (am 1), .ref (am 2), .ref (am 3), .int (nI kn), .ref (am 4), .ref (am 5), .ref (am 6), .ref (am 7), .ref (am 8), .ref (am 9), .ref (am 10), .ref (am 11), .ref (am 12)])), (am 4, .inl (kd, 60, .inr (.inr (.inr (.inl P))))), (am 5, .inl (kd, 60, .inr (.inr (.inr (.inl V))))), (am 6, .inl (kz, 60, .inl AF)), (am 7, .inl (kd, 60, .inr (.inr (.inr (.inl FX)))))] [(am 0, .inr (7, [.int 1, .int (nI n), .ref (am 1), .ref (am 2), .ref (am 3), .int (nI kn), .ref (am 4), .ref (am 5), .ref (am 6), .ref (am 7), .ref (am 8), .ref (am 9), .ref (am 10), .ref (am 11), .ref (am 12)])), (am 4, .inl (kd, 60, .inr (.inr (.inr (.inl P))))), (am 5, .inl (kd, 60, .inr (.inr (.inr (.inl V))))), (am 6, .inl (kz, 60, .inl AF)), (am 7, .inl (kd, 60, .inr (.inr (.inr (.inl FX)))))] (some (.double (FP.i2d 0))) := by
  refine my_WR_of (cc := cX7_area) (maxL := 5) (ret := (some .double)) (by decide) rfl (Nat.le_of_ble_eq_true rfl) ?_
  intro p e s m below meth c S hr hlocks hC hP hD hz hS ls hl
  have S : CallFix p m c cX7_area 5 s ([.ref (am 0), .double x, .double y] : List Value).toArray wsX7_area RX7 := S
  obtain ⟨hx, hb, hml, hown, hts⟩ := id S
  have hl : lv_has ls 5 [(0, .ref (am 0)), (1, .double x), (3, .double y)] := hl
  suffices K0 : ∀ (H : Heap) (locs : List Loc), va_P D vwCl [(am 0, .inr (7, [.int th, .int (nI n), .ref (am 1), .ref (am 2), .ref (am 3), .int (nI kn), .ref (am 4), .ref (am 5), .ref (am 6), .ref (am 7), .ref (am 8), .ref (am 9), .ref (am 10), .ref (am 11), .ref (am 12)])), (am 4, .inl (kd, 60, .inr (.inr (.inr (.inl P))))), (am 5, .inl (kd, 60, .inr (.inr (.inr (.inl V))))), (am 6, .inl (kz, 60, .inl AF)), (am 7, .inl (kd, 60, .inr (.inr (.inr (.inl FX)))))] H → va_D (my_A [(am 0, .inr (7, [.int th, .int (nI n), .ref (am 1), .ref (am 2), .ref (am 3), .int (nI kn), .ref (am 4), .ref (am 5), .ref (am 6), .ref (am 7), .ref (am 8), .ref (am 9), .ref (am 10), .ref (am 11), .ref (am 12)])), (am 4, .inl (kd, 60, .inr (.inr (.inr (.inl P))))), (am 5, .inl (kd, 60, .inr (.inr (.inr (.inl V))))), (am 6, .inl (kz, 60, .inl AF)), (am 7, .inl (kd, 60, .inr (.inr (.inr (.inl FX)))))]) [(am 0, .inr (7, [.int th, .int (nI n), .ref (am 1), .ref (am 2), .ref (am 3), .int (nI kn), .ref (am 4), .ref (am 5), .ref (am 6), .ref (am 7), .ref (am 8), .ref (am 9), .ref (am 10), .ref (am 11), .ref (am 12)])), (am 4, .inl (kd, 60, .inr (.inr (.inr (.inl P))))), (am 5, .inl (kd, 60, .inr (.inr (.inr (.inl V))))), (am 6, .inl (kz, 60, .inl AF)), (am 7, .inl (kd, 60, .inr (.inr (.inr (.inl FX)))))] → va_S (my_A [(am 0, .inr (7, [.int th, .int (nI n), .ref (am 1), .ref (am 2), .ref (am 3), .int (nI kn), .ref (am 4), .ref (am 5), .ref (am 6), .ref (am 7), .ref (am 8), .ref (am 9), .ref (am 10), .ref (am 11), .ref (am 12)])), (am 4, .inl (kd, 60, .inr (.inr (.inr (.inl P))))), (am 5, .inl (kd, 60, .inr (.inr (.inr (.inl V))))), (am 6, .inl (kz, 60, .inl AF)), (am 7, .inl (kd, 60, .inr (.inr (.inr (.inl FX)))))]) s.heap H locs → W p l e ({ frames := 2, cells := 0, slots := 0, locals := 47 }) s m ([.ref (am 0), .double x, .double y] : List Value).toArray below meth c H locs 0 0 (my_WQ below D ([.ref (am 0), .double x, .double y] : List Value).toArray s [(am 0, .inr (7, [.int th, .int (nI n), .ref (am 1), .ref (am 2), .ref (am 3), .int (nI kn), .ref (am 4), .ref (am 5), .ref (am 6), .ref (am 7), .ref (am 8), .ref (am 9), .ref (am 10), .ref (am 11), .ref (am 12)])), (am 4, .inl (kd, 60, .inr (.inr (.inr (.inl P))))), (am 5, .inl (kd, 60, .inr (.inr (.inr (.inl V))))), (am 6, .inl (kz, 60, .inl AF)), (am 7, .inl (kd, 60, .inr (.inr (.inr (.inl FX)))))] [(am 0, .inr (7, [.int 1, .int (nI n), .ref (am 1), .ref (am 2), .ref (am 3), .int (nI kn), .ref (am 4), .ref (am 5), .ref (am 6), .ref (am 7), .ref (am 8), .ref (am 9), .ref (am 10), .ref (am 11), .ref (am 12)])), (am 4, .inl (kd, 60, .inr (.inr (.inr (.inl P))))), (am 5, .inl (kd, 60, .inr (.inr (.inr (.inl V))))), (am 6, .inl (kz, 60, .inl AF)), (am 7, .inl (kd, 60, .inr (.inr (.inr (.inl FX)))))] (some (.double (FP.i2d 0)))) (F0 m 0 ls []) from K0 _ _ hP hD hS
  intro H locs hP hD hS
  refine lv_aload_n hx hb dX7_area_0 rfl (lv_at hl 0 rfl) ?_
  refine lv_iconst (v := 0) hx hb dX7_area_1 (by decide) ?_
  refine va_put (D := D) (ci := 7) (v := .int 0) (ty := .int) (C := RX7) (T := TX7) (N := 15) hx hb hts iw_X7_area_X7 tyX7 tyX7_ok nmX7 hown hC.1 hP hD hS 0 rfl rfl 0 (by decide) (hts (.fieldLink RX7 48 "MonotoneSplineModel" "thrown" "I") (List.mem_of_getElem? (l := wsX7_area) (i := 1) rfl)) (fun _ h9 => h9) rfl (by decide +kernel) rfl rfl (Nat.le_of_ble_eq_true rfl) dX7_area_2 (fun H locs hP hD hS => ?_)
  have hP : va_P D vwCl [(am 0, .inr (7, [.int 0, .int (nI n), .ref (am 1), .ref (am 2), .ref (am 3), .int (nI kn), .ref (am 4), .ref (am 5), .ref (am 6), .ref (am 7), .ref (am 8), .ref (am 9), .ref (am 10), .ref (am 11), .ref (am 12)])), (am 4, .inl (kd, 60, .inr (.inr (.inr (.inl P))))), (am 5, .inl (kd, 60, .inr (.inr (.inr (.inl V))))), (am 6, .inl (kz, 60, .inl AF)), (am 7, .inl (kd, 60, .inr (.inr (.inr (.inl FX)))))] H := hP
  have hD : va_D (my_A [(am 0, .inr (7, [.int th, .int (nI n), .ref (am 1), .ref (am 2), .ref (am 3), .int (nI kn), .ref (am 4), .ref (am 5), .ref (am 6), .ref (am 7), .ref (am 8), .ref (am 9), .ref (am 10), .ref (am 11), .ref (am 12)])), (am 4, .inl (kd, 60, .inr (.inr (.inr (.inl P))))), (am 5, .inl (kd, 60, .inr (.inr (.inr (.inl V))))), (am 6, .inl (kz, 60, .inl AF)), (am 7, .inl (kd, 60, .inr (.inr (.inr (.inl FX)))))]) [(am 0, .inr (7, [.int 0, .int (nI n), .ref (am 1), .ref (am 2), .ref (am 3), .int (nI kn), .ref (am 4), .ref (am 5), .ref (am 6), .ref (am 7), .ref (am 8), .ref (am 9), .ref (am 10), .ref (am 11), .ref (am 12)])), (am 4, .inl (kd, 60, .inr (.inr (.inr (.inl P))))), (am 5, .inl (kd, 60, .inr (.inr (.inr (.inl V))))), (am 6, .inl (kz, 60, .inl AF)), (am 7, .inl (kd, 60, .inr (.inr (.inr (.inl FX)))))] := hD
  refine lv_aload_n hx hb dX7_area_5 rfl (lv_at hl 0 rfl) ?_
  refine lv_dload_n hx hb dX7_area_6 rfl (lv_at hl 1 rfl) ?_
  refine my_goR (v := (some (.int (if 0 < kn ∧ sp_ge x (P 0) ∧ sp_le x (P (kn - 1)) then 1 else 0)))) (my_runV (bytes := cX7_isInside) (maxL := 3) (ret := (some .boolean)) (n := 1) (As := [.double x]) (rest := []) S hl.1 (mm_isInside l D kd ki kz kl z am 0 n kn P x (by omega)) rfl ⟨rfl, rfl⟩ gX7_area_X7_isInside (by decide +kernel) rfl ⟨Nat.le_of_ble_eq_true rfl, Nat.le_of_ble_eq_true rfl⟩ (my_preR (my_C_S hC hS hz) (my_P_sub (wc := [(am 0, .inr (7, [.int 0, .int (nI n), .ref (am 1), .ref (am 2), .ref (am 3), .int (nI kn), .ref (am 4), .ref (am 5), .ref (am 6), .ref (am 7), .ref (am 8), .ref (am 9), .ref (am 10), .ref (am 11), .ref (am 12)])), (am 4, .inl (kd, 60, .inr (.inr (.inr (.inl P)))))]) hP [0, 1] rfl)) (va_recv hC.1 hP (ci := 7) (q0 := 0) rfl rfl) rfl rfl dX7_area_7) ?_
  refine W.eq (g2 := F0 m 10 ls [.int (if 0 < kn ∧ sp_ge x (P 0) ∧ sp_le x (P (kn - 1)) then 1 else 0)]) rfl ?_
  by_cases q1 : 0 < kn ∧ sp_ge x (P 0) ∧ sp_le x (P (kn - 1))
  · rw [if_pos q1]
    refine lv_if_eq (tgt := 35) hx hb dX7_area_10 (by decide) (fun c_10 => ?_) (fun c_10 => ?_)
    · skip
      first | exact absurd c_10 (by decide) | exact absurd (by decide) c_10
    · skip
      refine lv_aload_n hx hb dX7_area_13 rfl (lv_at hl 0 rfl) ?_
      refine lv_dload_n hx hb dX7_area_14 rfl (lv_at hl 2 rfl) ?_
      refine my_goR (v := (some (.int (if 0 < kn ∧ sp_ge y (P 0) ∧ sp_le y (P (kn - 1)) then 1 else 0)))) (my_runV (bytes := cX7_isInside) (maxL := 3) (ret := (some .boolean)) (n := 1) (As := [.double y]) (rest := []) S hl.1 (mm_isInside l D kd ki kz kl z am 0 n kn P y (by omega)) rfl ⟨rfl, rfl⟩ gX7_area_X7_isInside (by decide +kernel) rfl ⟨Nat.le_of_ble_eq_true rfl, Nat.le_of_ble_eq_true rfl⟩ (my_preR (my_C_S hC hS hz) (my_P_sub (wc := [(am 0, .inr (7, [.int 0, .int (nI n), .ref (am 1), .ref (am 2), .ref (am 3), .int (nI kn), .ref (am 4), .ref (am 5), .ref (am 6), .ref (am 7), .ref (am 8), .ref (am 9), .ref (am 10), .ref (am 11), .ref (am 12)])), (am 4, .inl (kd, 60, .inr (.inr (.inr (.inl P)))))]) hP [0, 1] rfl)) (va_recv hC.1 hP (ci := 7) (q0 := 0) rfl rfl) rfl rfl dX7_area_15) ?_
      refine W.eq (g2 := F0 m 18 ls [.int (if 0 < kn ∧ sp_ge y (P 0) ∧ sp_le y (P (kn - 1)) then 1 else 0)]) rfl ?_
      by_cases q2 : 0 < kn ∧ sp_ge y (P 0) ∧ sp_le y (P (kn - 1))
      · rw [if_pos q2]
        refine lv_if_eq (tgt := 35) hx hb dX7_area_18 (by decide) (fun c_18 => ?_) (fun c_18 => ?_)
        · skip
          first | exact absurd c_18 (by decide) | exact absurd (by decide) c_18
        · skip
          exact absurd ⟨q1, q2⟩ hno
      · rw [if_neg q2]
        refine lv_if_eq (tgt := 35) hx hb dX7_area_18 (by decide) (fun c_18 => ?_) (fun c_18 => ?_)
        · skip
          refine lv_aload_n hx hb dX7_area_35 rfl (lv_at hl 0 rfl) ?_
          refine lv_iconst (v := 1) hx hb dX7_area_36 (by decide) ?_
          refine my_goW (v := (some (.int 0))) (w1 := [(am 0, .inr (7, [.int 1, .int (nI n), .ref (am 1), .ref (am 2), .ref (am 3), .int (nI kn), .ref (am 4), .ref (am 5), .ref (am 6), .ref (am 7), .ref (am 8), .ref (am 9), .ref (am 10), .ref (am 11), .ref (am 12)]))]) (wx' := [(am 0, .inr (7, [.int 1, .int (nI n), .ref (am 1), .ref (am 2), .ref (am 3), .int (nI kn), .ref (am 4), .ref (am 5), .ref (am 6), .ref (am 7), .ref (am 8), .ref (am 9), .ref (am 10), .ref (am 11), .ref (am 12)])), (am 4, .inl (kd, 60, .inr (.inr (.inr (.inl P))))), (am 5, .inl (kd, 60, .inr (.inr (.inr (.inl V))))), (am 6, .inl (kz, 60, .inl AF)), (am 7, .inl (kd, 60, .inr (.inr (.inr (.inl FX)))))]) (my_runV (bytes := cX7_fail) (maxL := 2) (ret := (some .int)) (n := 1) (As := [.int 1]) (rest := []) S hl.1 (mm_fail l D kd ki kz kl z am 0 n kn 1) rfl ⟨rfl, rfl⟩ gX7_area_X7_fail (by decide +kernel) rfl ⟨Nat.le_of_ble_eq_true rfl, Nat.le_of_ble_eq_true rfl⟩ (my_preW (my_C_S hC hS hz) (my_P_sub (wc := [(am 0, .inr (7, [.int 0, .int (nI n), .ref (am 1), .ref (am 2), .ref (am 3), .int (nI kn), .ref (am 4), .ref (am 5), .ref (am 6), .ref (am 7), .ref (am 8), .ref (am 9), .ref (am 10), .ref (am 11), .ref (am 12)]))]) hP [0] rfl) (my_D_sub hD hz [0] (by decide) rfl)) (va_recv hC.1 hP (ci := 7) (q0 := 0) rfl rfl) rfl rfl dX7_area_37) hP hD hS [0] rfl rfl rfl (fun H locs hP hD hS => ?_)
          refine W.eq (g2 := F0 m 40 ls [.int 0]) rfl ?_
          refine lv_i2d hx hb dX7_area_40 ?_
          exact my_dretW hx hb hr hlocks hP (rfl) hS (rfl) dX7_area_41
        · skip
          first | exact absurd c_18 (by decide) | exact absurd (by decide) c_18
  · rw [if_neg q1]
    refine lv_if_eq (tgt := 35) hx hb dX7_area_10 (by decide) (fun c_10 => ?_) (fun c_10 => ?_)
    · skip
      refine lv_aload_n hx hb dX7_area_35 rfl (lv_at hl 0 rfl) ?_
      refine lv_iconst (v := 1) hx hb dX7_area_36 (by decide) ?_
      refine my_goW (v := (some (.int 0))) (w1 := [(am 0, .inr (7, [.int 1, .int (nI n), .ref (am 1), .ref (am 2), .ref (am 3), .int (nI kn), .ref (am 4), .ref (am 5), .ref (am 6), .ref (am 7), .ref (am 8), .ref (am 9), .ref (am 10), .ref (am 11), .ref (am 12)]))]) (wx' := [(am 0, .inr (7, [.int 1, .int (nI n), .ref (am 1), .ref (am 2), .ref (am 3), .int (nI kn), .ref (am 4), .ref (am 5), .ref (am 6), .ref (am 7), .ref (am 8), .ref (am 9), .ref (am 10), .ref (am 11), .ref (am 12)])), (am 4, .inl (kd, 60, .inr (.inr (.inr (.inl P))))), (am 5, .inl (kd, 60, .inr (.inr (.inr (.inl V))))), (am 6, .inl (kz, 60, .inl AF)), (am 7, .inl (kd, 60, .inr (.inr (.inr (.inl FX)))))]) (my_runV (bytes := cX7_fail) (maxL := 2) (ret := (some .int)) (n := 1) (As := [.int 1]) (rest := []) S hl.1 (mm_fail l D kd ki kz kl z am 0 n kn 1) rfl ⟨rfl, rfl⟩ gX7_area_X7_fail (by decide +kernel) rfl ⟨Nat.le_of_ble_eq_true rfl, Nat.le_of_ble_eq_true rfl⟩ (my_preW (my_C_S hC hS hz) (my_P_sub (wc := [(am 0, .inr (7, [.int 0, .int (nI n), .ref (am 1), .ref (am 2), .ref (am 3), .int (nI kn), .ref (am 4), .ref (am 5), .ref (am 6), .ref (am 7), .ref (am 8), .ref (am 9), .ref (am 10), .ref (am 11), .ref (am 12)]))]) hP [0] rfl) (my_D_sub hD hz [0] (by decide) rfl)) (va_recv hC.1 hP (ci := 7) (q0 := 0) rfl rfl) rfl rfl dX7_area_37) hP hD hS [0] rfl rfl rfl (fun H locs hP hD hS => ?_)
      refine W.eq (g2 := F0 m 40 ls [.int 0]) rfl ?_
      refine lv_i2d hx hb dX7_area_40 ?_
      exact my_dretW hx hb hr hlocks hP (rfl) hS (rfl) dX7_area_41
    · skip
      first | exact absurd c_10 (by decide) | exact absurd (by decide) c_10

theorem iw_X7_reach_X7 : ∀ w ∈ wsX70, w ∈ wsX7_reach := fun w h => List.mem_cons_of_mem _ (List.mem_append_right _ (h))
set_option maxHeartbeats 4000000 in
set_option maxRecDepth 100000 in
theorem mm_reach (l : Launch) (D : va_G) (kd ki kz kl : ClassId) (z : Nat) (am : Nat → Nat) (th : Int32) (n : Nat) (kn : Nat) (P : Nat → UInt64) (V : Nat → UInt64) (F : Nat → UInt64) (AF : Nat → Int32) (FX : Nat → UInt64) (y : UInt64) (hI : KI kn P V F) (hR : MR kn F AF FX) (hny : fx_n y) (h1 : 0 < kn ∧ sp_ge y (V 0) ∧ sp_le y (V (kn - 1))) : my_WR l D kd ki kz kl z yX7_reach wsX7_reach ({ frames := 6, cells := 0, slots := 0, locals := 152 }) [.ref (am 0), .double y] [(am 0, .inr (7, [.int th, .int (nI n), .ref (am 1), .ref (am 2), .ref (am 3), .int (nI kn), .ref (am 4), .ref (am 5), .ref (am 6), .ref (am 7), .ref (am 8), .ref (am 9), .ref (am 10), .ref (am 11), .ref (am 12)])), (am 4, .inl (kd, 60, .inr (.inr (.inr (.inl P))))), (am 5, .inl (kd, 60, .inr (.inr (.inr (.inl V))))), (am 6, .inl (kz, 60, .inl AF)), (am 7, .inl (kd, 60, .inr (.inr (.inr (.inl FX)))))] [(am 0, .inr (7, [.int 0, .int (nI n), .ref (am 1), .ref (am 2), .ref (am 3), .int (nI kn), .ref (am 4), .ref (am 5), .ref (am 6), .ref (am 7), .ref (am 8), .ref (am 9), .ref (am 10), .ref (am 11), .ref (am 12)])), (am 4, .inl (kd, 60, .inr (.inr (.inr (.inl P))))), (am 5, .inl (kd, 60, .inr (.inr (.inr (.inl V))))), (am 6, .inl (kz, 60, .inl AF)), (am 7, .inl (kd, 60, .inr (.inr (.inr (.inl FX)))))] (some (.double (s_bs P V F kn (s_rp V kn y) y 60 (P (s_rp V kn y)) (P (s_rp V kn y + 1))))) := by
  refine my_WR_of (cc := cX7_reach) (maxL := 11) (ret := (some .double)) (by decide) rfl (Nat.le_of_ble_eq_true rfl) ?_
  intro p e s m below meth c S hr hlocks hC hP hD hz hS ls hl
  have S : CallFix p m c cX7_reach 11 s ([.ref (am 0), .double y] : List Value).toArray wsX7_reach RX7 := S
  obtain ⟨hx, hb, hml, hown, hts⟩ := id S
  have hl : lv_has ls 11 [(0, .ref (am 0)), (1, .double y)] := hl
  suffices K0 : ∀ (H : Heap) (locs : List Loc), va_P D vwCl [(am 0, .inr (7, [.int th, .int (nI n), .ref (am 1), .ref (am 2), .ref (am 3), .int (nI kn), .ref (am 4), .ref (am 5), .ref (am 6), .ref (am 7), .ref (am 8), .ref (am 9), .ref (am 10), .ref (am 11), .ref (am 12)])), (am 4, .inl (kd, 60, .inr (.inr (.inr (.inl P))))), (am 5, .inl (kd, 60, .inr (.inr (.inr (.inl V))))), (am 6, .inl (kz, 60, .inl AF)), (am 7, .inl (kd, 60, .inr (.inr (.inr (.inl FX)))))] H → va_D (my_A [(am 0, .inr (7, [.int th, .int (nI n), .ref (am 1), .ref (am 2), .ref (am 3), .int (nI kn), .ref (am 4), .ref (am 5), .ref (am 6), .ref (am 7), .ref (am 8), .ref (am 9), .ref (am 10), .ref (am 11), .ref (am 12)])), (am 4, .inl (kd, 60, .inr (.inr (.inr (.inl P))))), (am 5, .inl (kd, 60, .inr (.inr (.inr (.inl V))))), (am 6, .inl (kz, 60, .inl AF)), (am 7, .inl (kd, 60, .inr (.inr (.inr (.inl FX)))))]) [(am 0, .inr (7, [.int th, .int (nI n), .ref (am 1), .ref (am 2), .ref (am 3), .int (nI kn), .ref (am 4), .ref (am 5), .ref (am 6), .ref (am 7), .ref (am 8), .ref (am 9), .ref (am 10), .ref (am 11), .ref (am 12)])), (am 4, .inl (kd, 60, .inr (.inr (.inr (.inl P))))), (am 5, .inl (kd, 60, .inr (.inr (.inr (.inl V))))), (am 6, .inl (kz, 60, .inl AF)), (am 7, .inl (kd, 60, .inr (.inr (.inr (.inl FX)))))] → va_S (my_A [(am 0, .inr (7, [.int th, .int (nI n), .ref (am 1), .ref (am 2), .ref (am 3), .int (nI kn), .ref (am 4), .ref (am 5), .ref (am 6), .ref (am 7), .ref (am 8), .ref (am 9), .ref (am 10), .ref (am 11), .ref (am 12)])), (am 4, .inl (kd, 60, .inr (.inr (.inr (.inl P))))), (am 5, .inl (kd, 60, .inr (.inr (.inr (.inl V))))), (am 6, .inl (kz, 60, .inl AF)), (am 7, .inl (kd, 60, .inr (.inr (.inr (.inl FX)))))]) s.heap H locs → W p l e ({ frames := 6, cells := 0, slots := 0, locals := 152 }) s m ([.ref (am 0), .double y] : List Value).toArray below meth c H locs 0 0 (my_WQ below D ([.ref (am 0), .double y] : List Value).toArray s [(am 0, .inr (7, [.int th, .int (nI n), .ref (am 1), .ref (am 2), .ref (am 3), .int (nI kn), .ref (am 4), .ref (am 5), .ref (am 6), .ref (am 7), .ref (am 8), .ref (am 9), .ref (am 10), .ref (am 11), .ref (am 12)])), (am 4, .inl (kd, 60, .inr (.inr (.inr (.inl P))))), (am 5, .inl (kd, 60, .inr (.inr (.inr (.inl V))))), (am 6, .inl (kz, 60, .inl AF)), (am 7, .inl (kd, 60, .inr (.inr (.inr (.inl FX)))))] [(am 0, .inr (7, [.int 0, .int (nI n), .ref (am 1), .ref (am 2), .ref (am 3), .int (nI kn), .ref (am 4), .ref (am 5), .ref (am 6), .ref (am 7), .ref (am 8), .ref (am 9), .ref (am 10), .ref (am 11), .ref (am 12)])), (am 4, .inl (kd, 60, .inr (.inr (.inr (.inl P))))), (am 5, .inl (kd, 60, .inr (.inr (.inr (.inl V))))), (am 6, .inl (kz, 60, .inl AF)), (am 7, .inl (kd, 60, .inr (.inr (.inr (.inl FX)))))] (some (.double (s_bs P V F kn (s_rp V kn y) y 60 (P (s_rp V kn y)) (P (s_rp V kn y + 1)))))) (F0 m 0 ls []) from K0 _ _ hP hD hS
  intro H locs hP hD hS
  have hJ := hI.1
  have hkn := hJ.2.1
  have hkn2 := hJ.1
  have hlt := s_rp_lt (V := V) (y := y) hkn2
  have h12 := h1.2
  refine lv_aload_n hx hb dX7_reach_0 rfl (lv_at hl 0 rfl) ?_
  refine lv_iconst (v := 0) hx hb dX7_reach_1 (by decide) ?_
  refine va_put (D := D) (ci := 7) (v := .int 0) (ty := .int) (C := RX7) (T := TX7) (N := 15) hx hb hts iw_X7_reach_X7 tyX7 tyX7_ok nmX7 hown hC.1 hP hD hS 0 rfl rfl 0 (by decide) (hts (.fieldLink RX7 48 "MonotoneSplineModel" "thrown" "I") (List.mem_of_getElem? (l := wsX7_reach) (i := 1) rfl)) (fun _ h9 => h9) rfl (by decide +kernel) rfl rfl (Nat.le_of_ble_eq_true rfl) dX7_reach_2 (fun H locs hP hD hS => ?_)
  have hP : va_P D vwCl [(am 0, .inr (7, [.int 0, .int (nI n), .ref (am 1), .ref (am 2), .ref (am 3), .int (nI kn), .ref (am 4), .ref (am 5), .ref (am 6), .ref (am 7), .ref (am 8), .ref (am 9), .ref (am 10), .ref (am 11), .ref (am 12)])), (am 4, .inl (kd, 60, .inr (.inr (.inr (.inl P))))), (am 5, .inl (kd, 60, .inr (.inr (.inr (.inl V))))), (am 6, .inl (kz, 60, .inl AF)), (am 7, .inl (kd, 60, .inr (.inr (.inr (.inl FX)))))] H := hP
  have hD : va_D (my_A [(am 0, .inr (7, [.int th, .int (nI n), .ref (am 1), .ref (am 2), .ref (am 3), .int (nI kn), .ref (am 4), .ref (am 5), .ref (am 6), .ref (am 7), .ref (am 8), .ref (am 9), .ref (am 10), .ref (am 11), .ref (am 12)])), (am 4, .inl (kd, 60, .inr (.inr (.inr (.inl P))))), (am 5, .inl (kd, 60, .inr (.inr (.inr (.inl V))))), (am 6, .inl (kz, 60, .inl AF)), (am 7, .inl (kd, 60, .inr (.inr (.inr (.inl FX)))))]) [(am 0, .inr (7, [.int 0, .int (nI n), .ref (am 1), .ref (am 2), .ref (am 3), .int (nI kn), .ref (am 4), .ref (am 5), .ref (am 6), .ref (am 7), .ref (am 8), .ref (am 9), .ref (am 10), .ref (am 11), .ref (am 12)])), (am 4, .inl (kd, 60, .inr (.inr (.inr (.inl P))))), (am 5, .inl (kd, 60, .inr (.inr (.inr (.inl V))))), (am 6, .inl (kz, 60, .inl AF)), (am 7, .inl (kd, 60, .inr (.inr (.inr (.inl FX)))))] := hD
  refine lv_aload_n hx hb dX7_reach_5 rfl (lv_at hl 0 rfl) ?_
  refine va_get (D := D) (ci := 7) (v := .int (nI kn)) (C := RX7) (T := TX7) (N := 15) hx hb hts iw_X7_reach_X7 hown hC.1 hP 0 rfl rfl 5 (by decide) (hts (.fieldLink RX7 56 "MonotoneSplineModel" "knots" "I") (List.mem_of_getElem? (l := wsX7_reach) (i := 2) rfl)) (fun _ h9 => h9) rfl dX7_reach_6 ?_
  refine lv_if_eq (tgt := 36) hx hb dX7_reach_9 (by decide) (fun c_9 => ?_) (fun c_9 => ?_)
  · have c_9 : kn = 0 := (nI_eq (a := kn) (b := 0) (by omega) (by omega)).mp c_9
    exact absurd h1.1 (by omega)
  · have c_9 : ¬ kn = 0 := fun h9 => c_9 ((nI_eq (a := kn) (b := 0) (by omega) (by omega)).mpr h9)
    refine lv_dload_n hx hb dX7_reach_12 rfl (lv_at hl 1 rfl) ?_
    refine lv_aload_n hx hb dX7_reach_13 rfl (lv_at hl 0 rfl) ?_
    refine va_get (D := D) (ci := 7) (v := .ref (am 5)) (C := RX7) (T := TX7) (N := 15) hx hb hts iw_X7_reach_X7 hown hC.1 hP 0 rfl rfl 7 (by decide) (hts (.fieldLink RX7 22 "MonotoneSplineModel" "values" "[D") (List.mem_of_getElem? (l := wsX7_reach) (i := 3) rfl)) (fun _ h9 => h9) rfl dX7_reach_14 ?_
    refine lv_iconst (v := 0) hx hb dX7_reach_17 (by decide) ?_
    refine my_dald (k := 0) (n := 60) (f := V) hx hb hC hP 2 rfl (by omega) (by omega) dX7_reach_18 ?_
    refine lv_aload_n hx hb dX7_reach_19 rfl (lv_at hl 0 rfl) ?_
    refine va_get (D := D) (ci := 7) (v := .ref (am 5)) (C := RX7) (T := TX7) (N := 15) hx hb hts iw_X7_reach_X7 hown hC.1 hP 0 rfl rfl 7 (by decide) (hts (.fieldLink RX7 22 "MonotoneSplineModel" "values" "[D") (List.mem_of_getElem? (l := wsX7_reach) (i := 3) rfl)) (fun _ h9 => h9) rfl dX7_reach_20 ?_
    refine lv_aload_n hx hb dX7_reach_23 rfl (lv_at hl 0 rfl) ?_
    refine va_get (D := D) (ci := 7) (v := .int (nI kn)) (C := RX7) (T := TX7) (N := 15) hx hb hts iw_X7_reach_X7 hown hC.1 hP 0 rfl rfl 5 (by decide) (hts (.fieldLink RX7 56 "MonotoneSplineModel" "knots" "I") (List.mem_of_getElem? (l := wsX7_reach) (i := 2) rfl)) (fun _ h9 => h9) rfl dX7_reach_24 ?_
    refine lv_iconst (v := 1) hx hb dX7_reach_27 (by decide) ?_
    refine my_isub (w := nI (kn - 1)) hx hb dX7_reach_28 (pk_sub (a := kn) (b := 1) (by omega)) ?_
    refine my_dald (k := kn - 1) (n := 60) (f := V) hx hb hC hP 2 rfl (by omega) (by omega) dX7_reach_29 ?_
    refine my_goR (v := (some (.int (if sp_ge y (V 0) ∧ sp_le y (V (kn - 1)) then 1 else 0)))) (my_runS (bytes := cX7_isIn) (maxL := 6) (ret := (some .boolean)) (n := 3) (As := [.double y, .double (V 0), .double (V (kn - 1))]) (rest := []) S hl.1 (mm_isIn l D kd ki kz kl z y (V 0) (V (kn - 1))) rfl ⟨rfl, rfl⟩ gX7_reach_X7_isIn (by decide +kernel) rfl ⟨Nat.le_of_ble_eq_true rfl, Nat.le_of_ble_eq_true rfl⟩ (my_preR (my_C_S hC hS hz) (my_P_sub (wc := []) hP [] rfl)) rfl rfl dX7_reach_30) ?_
    refine W.eq (g2 := F0 m 33 ls [.int (if sp_ge y (V 0) ∧ sp_le y (V (kn - 1)) then 1 else 0)]) rfl ?_
    by_cases q_h12 : sp_ge y (V 0) ∧ sp_le y (V (kn - 1))
    · rw [if_pos q_h12]
      refine lv_if_ne (tgt := 43) hx hb dX7_reach_33 (by decide) (fun c_33 => ?_) (fun c_33 => ?_)
      · skip
        refine lv_iconst (v := 0) hx hb dX7_reach_43 (by decide) ?_
        refine my_topi (w := nI 0) (nI_0.symm) ?_
        refine lv_istore_n (lv' := [(3, .int (nI 0)), (0, .ref (am 0)), (1, .double y)]) hx hb dX7_reach_44 rfl hl (by decide) rfl (fun ls hl => ?_)
        have loop_45 : ∀ (n9 : Nat) (k : Nat), kn - k < n9 → ∀ (hk : k ≤ kn - 2) (hs : s_find (fun j => decide (sp_lt (V (j + 1)) y)) (kn - 2 - k) k = s_rp V kn y) (H : Heap) (locs : List Loc) (hP : va_P D vwCl [(am 0, .inr (7, [.int 0, .int (nI n), .ref (am 1), .ref (am 2), .ref (am 3), .int (nI kn), .ref (am 4), .ref (am 5), .ref (am 6), .ref (am 7), .ref (am 8), .ref (am 9), .ref (am 10), .ref (am 11), .ref (am 12)])), (am 4, .inl (kd, 60, .inr (.inr (.inr (.inl P))))), (am 5, .inl (kd, 60, .inr (.inr (.inr (.inl V))))), (am 6, .inl (kz, 60, .inl AF)), (am 7, .inl (kd, 60, .inr (.inr (.inr (.inl FX)))))] H) (hD : va_D (my_A [(am 0, .inr (7, [.int th, .int (nI n), .ref (am 1), .ref (am 2), .ref (am 3), .int (nI kn), .ref (am 4), .ref (am 5), .ref (am 6), .ref (am 7), .ref (am 8), .ref (am 9), .ref (am 10), .ref (am 11), .ref (am 12)])), (am 4, .inl (kd, 60, .inr (.inr (.inr (.inl P))))), (am 5, .inl (kd, 60, .inr (.inr (.inr (.inl V))))), (am 6, .inl (kz, 60, .inl AF)), (am 7, .inl (kd, 60, .inr (.inr (.inr (.inl FX)))))]) [(am 0, .inr (7, [.int 0, .int (nI n), .ref (am 1), .ref (am 2), .ref (am 3), .int (nI kn), .ref (am 4), .ref (am 5), .ref (am 6), .ref (am 7), .ref (am 8), .ref (am 9), .ref (am 10), .ref (am 11), .ref (am 12)])), (am 4, .inl (kd, 60, .inr (.inr (.inr (.inl P))))), (am 5, .inl (kd, 60, .inr (.inr (.inr (.inl V))))), (am 6, .inl (kz, 60, .inl AF)), (am 7, .inl (kd, 60, .inr (.inr (.inr (.inl FX)))))]) (hS : va_S (my_A [(am 0, .inr (7, [.int th, .int (nI n), .ref (am 1), .ref (am 2), .ref (am 3), .int (nI kn), .ref (am 4), .ref (am 5), .ref (am 6), .ref (am 7), .ref (am 8), .ref (am 9), .ref (am 10), .ref (am 11), .ref (am 12)])), (am 4, .inl (kd, 60, .inr (.inr (.inr (.inl P))))), (am 5, .inl (kd, 60, .inr (.inr (.inr (.inl V))))), (am 6, .inl (kz, 60, .inl AF)), (am 7, .inl (kd, 60, .inr (.inr (.inr (.inl FX)))))]) s.heap H locs) (ls : Array Slot) (hl : lv_has ls 11 [(3, .int (nI k)), (0, .ref (am 0)), (1, .double y)]), W p l e ({ frames := 6, cells := 0, slots := 0, locals := 152 }) s m ([.ref (am 0), .double y] : List Value).toArray below meth c H locs 0 0 (my_WQ below D ([.ref (am 0), .double y] : List Value).toArray s [(am 0, .inr (7, [.int th, .int (nI n), .ref (am 1), .ref (am 2), .ref (am 3), .int (nI kn), .ref (am 4), .ref (am 5), .ref (am 6), .ref (am 7), .ref (am 8), .ref (am 9), .ref (am 10), .ref (am 11), .ref (am 12)])), (am 4, .inl (kd, 60, .inr (.inr (.inr (.inl P))))), (am 5, .inl (kd, 60, .inr (.inr (.inr (.inl V))))), (am 6, .inl (kz, 60, .inl AF)), (am 7, .inl (kd, 60, .inr (.inr (.inr (.inl FX)))))] [(am 0, .inr (7, [.int 0, .int (nI n), .ref (am 1), .ref (am 2), .ref (am 3), .int (nI kn), .ref (am 4), .ref (am 5), .ref (am 6), .ref (am 7), .ref (am 8), .ref (am 9), .ref (am 10), .ref (am 11), .ref (am 12)])), (am 4, .inl (kd, 60, .inr (.inr (.inr (.inl P))))), (am 5, .inl (kd, 60, .inr (.inr (.inr (.inl V))))), (am 6, .inl (kz, 60, .inl AF)), (am 7, .inl (kd, 60, .inr (.inr (.inr (.inl FX)))))] (some (.double (s_bs P V F kn (s_rp V kn y) y 60 (P (s_rp V kn y)) (P (s_rp V kn y + 1)))))) (F0 m 45 ls []) := by
          intro n9
          induction n9 with
          | zero => intro k h9; exact absurd h9 (Nat.not_lt_zero _)
          | succ n9 ih_45 =>
            intro k h9 hk hs H locs hP hD hS ls hl
            refine lv_aload_n hx hb dX7_reach_45 rfl (lv_at hl 1 rfl) ?_
            refine va_get (D := D) (ci := 7) (v := .ref (am 5)) (C := RX7) (T := TX7) (N := 15) hx hb hts iw_X7_reach_X7 hown hC.1 hP 0 rfl rfl 7 (by decide) (hts (.fieldLink RX7 22 "MonotoneSplineModel" "values" "[D") (List.mem_of_getElem? (l := wsX7_reach) (i := 3) rfl)) (fun _ h9 => h9) rfl dX7_reach_46 ?_
            refine lv_iload_n hx hb dX7_reach_49 rfl (lv_at hl 0 rfl) ?_
            refine lv_iconst (v := 1) hx hb dX7_reach_50 (by decide) ?_
            refine my_iadd (w := nI (k + 1)) hx hb dX7_reach_51 (nI_add k 1) ?_
            refine my_dald (k := k + 1) (n := 60) (f := V) hx hb hC hP 2 rfl (by omega) (by omega) dX7_reach_52 ?_
            refine lv_dload_n hx hb dX7_reach_53 rfl (lv_at hl 2 rfl) ?_
            refine lv_dcmp hx hb dX7_reach_54 ?_
            refine lv_if_ge (tgt := 64) hx hb dX7_reach_55 (by decide) (fun c_55 => ?_) (fun c_55 => ?_)
            · have c_55 := cv_g_ge_t c_55
              obtain rfl : k = s_rp V kn y := by rw [← hs, s_find_stop (decide_eq_false c_55)]
              refine lv_aload_n hx hb dX7_reach_64 rfl (lv_at hl 1 rfl) ?_
              refine va_get (D := D) (ci := 7) (v := .ref (am 4)) (C := RX7) (T := TX7) (N := 15) hx hb hts iw_X7_reach_X7 hown hC.1 hP 0 rfl rfl 6 (by decide) (hts (.fieldLink RX7 19 "MonotoneSplineModel" "places" "[D") (List.mem_of_getElem? (l := wsX7_reach) (i := 4) rfl)) (fun _ h9 => h9) rfl dX7_reach_65 ?_
              refine lv_iload_n hx hb dX7_reach_68 rfl (lv_at hl 0 rfl) ?_
              refine my_dald (k := s_rp V kn y) (n := 60) (f := P) hx hb hC hP 1 rfl (by omega) (by omega) dX7_reach_69 ?_
              refine lv_dstore (lv' := [(4, .double (P (s_rp V kn y))), (3, .int (nI (s_rp V kn y))), (0, .ref (am 0)), (1, .double y)]) hx hb dX7_reach_70 hl (by decide) rfl (fun ls hl => ?_)
              refine lv_aload_n hx hb dX7_reach_72 rfl (lv_at hl 2 rfl) ?_
              refine va_get (D := D) (ci := 7) (v := .ref (am 4)) (C := RX7) (T := TX7) (N := 15) hx hb hts iw_X7_reach_X7 hown hC.1 hP 0 rfl rfl 6 (by decide) (hts (.fieldLink RX7 19 "MonotoneSplineModel" "places" "[D") (List.mem_of_getElem? (l := wsX7_reach) (i := 4) rfl)) (fun _ h9 => h9) rfl dX7_reach_73 ?_
              refine lv_iload_n hx hb dX7_reach_76 rfl (lv_at hl 1 rfl) ?_
              refine lv_iconst (v := 1) hx hb dX7_reach_77 (by decide) ?_
              refine my_iadd (w := nI (s_rp V kn y + 1)) hx hb dX7_reach_78 (nI_add (s_rp V kn y) 1) ?_
              refine my_dald (k := s_rp V kn y + 1) (n := 60) (f := P) hx hb hC hP 1 rfl (by omega) (by omega) dX7_reach_79 ?_
              refine lv_dstore (lv' := [(6, .double (P (s_rp V kn y + 1))), (4, .double (P (s_rp V kn y))), (3, .int (nI (s_rp V kn y))), (0, .ref (am 0)), (1, .double y)]) hx hb dX7_reach_80 hl (by decide) rfl (fun ls hl => ?_)
              refine lv_iconst (v := 0) hx hb dX7_reach_82 (by decide) ?_
              refine lv_istore (lv' := [(8, .int 0), (6, .double (P (s_rp V kn y + 1))), (4, .double (P (s_rp V kn y))), (3, .int (nI (s_rp V kn y))), (0, .ref (am 0)), (1, .double y)]) hx hb dX7_reach_83 hl (by decide) rfl (fun ls hl => ?_)
              have loop_85 : ∀ (n9 : Nat) (i : Nat) (lo9 : UInt64) (hi9 : UInt64), 60 - i < n9 → ∀ (hi6 : i ≤ 60) (hlo : fx_B (1047 + 2 * i) lo9) (hhi : fx_B (1047 + 2 * i) hi9) (hs2 : s_bs P V F kn (s_rp V kn y) y (60 - i) lo9 hi9 = s_bs P V F kn (s_rp V kn y) y 60 (P (s_rp V kn y)) (P (s_rp V kn y + 1))) (H : Heap) (locs : List Loc) (hP : va_P D vwCl [(am 0, .inr (7, [.int 0, .int (nI n), .ref (am 1), .ref (am 2), .ref (am 3), .int (nI kn), .ref (am 4), .ref (am 5), .ref (am 6), .ref (am 7), .ref (am 8), .ref (am 9), .ref (am 10), .ref (am 11), .ref (am 12)])), (am 4, .inl (kd, 60, .inr (.inr (.inr (.inl P))))), (am 5, .inl (kd, 60, .inr (.inr (.inr (.inl V))))), (am 6, .inl (kz, 60, .inl AF)), (am 7, .inl (kd, 60, .inr (.inr (.inr (.inl FX)))))] H) (hD : va_D (my_A [(am 0, .inr (7, [.int th, .int (nI n), .ref (am 1), .ref (am 2), .ref (am 3), .int (nI kn), .ref (am 4), .ref (am 5), .ref (am 6), .ref (am 7), .ref (am 8), .ref (am 9), .ref (am 10), .ref (am 11), .ref (am 12)])), (am 4, .inl (kd, 60, .inr (.inr (.inr (.inl P))))), (am 5, .inl (kd, 60, .inr (.inr (.inr (.inl V))))), (am 6, .inl (kz, 60, .inl AF)), (am 7, .inl (kd, 60, .inr (.inr (.inr (.inl FX)))))]) [(am 0, .inr (7, [.int 0, .int (nI n), .ref (am 1), .ref (am 2), .ref (am 3), .int (nI kn), .ref (am 4), .ref (am 5), .ref (am 6), .ref (am 7), .ref (am 8), .ref (am 9), .ref (am 10), .ref (am 11), .ref (am 12)])), (am 4, .inl (kd, 60, .inr (.inr (.inr (.inl P))))), (am 5, .inl (kd, 60, .inr (.inr (.inr (.inl V))))), (am 6, .inl (kz, 60, .inl AF)), (am 7, .inl (kd, 60, .inr (.inr (.inr (.inl FX)))))]) (hS : va_S (my_A [(am 0, .inr (7, [.int th, .int (nI n), .ref (am 1), .ref (am 2), .ref (am 3), .int (nI kn), .ref (am 4), .ref (am 5), .ref (am 6), .ref (am 7), .ref (am 8), .ref (am 9), .ref (am 10), .ref (am 11), .ref (am 12)])), (am 4, .inl (kd, 60, .inr (.inr (.inr (.inl P))))), (am 5, .inl (kd, 60, .inr (.inr (.inr (.inl V))))), (am 6, .inl (kz, 60, .inl AF)), (am 7, .inl (kd, 60, .inr (.inr (.inr (.inl FX)))))]) s.heap H locs) (ls : Array Slot) (hl : lv_has ls 11 [(8, .int (nI i)), (4, .double lo9), (6, .double hi9), (3, .int (nI (s_rp V kn y))), (0, .ref (am 0)), (1, .double y)]), W p l e ({ frames := 6, cells := 0, slots := 0, locals := 152 }) s m ([.ref (am 0), .double y] : List Value).toArray below meth c H locs 0 0 (my_WQ below D ([.ref (am 0), .double y] : List Value).toArray s [(am 0, .inr (7, [.int th, .int (nI n), .ref (am 1), .ref (am 2), .ref (am 3), .int (nI kn), .ref (am 4), .ref (am 5), .ref (am 6), .ref (am 7), .ref (am 8), .ref (am 9), .ref (am 10), .ref (am 11), .ref (am 12)])), (am 4, .inl (kd, 60, .inr (.inr (.inr (.inl P))))), (am 5, .inl (kd, 60, .inr (.inr (.inr (.inl V))))), (am 6, .inl (kz, 60, .inl AF)), (am 7, .inl (kd, 60, .inr (.inr (.inr (.inl FX)))))] [(am 0, .inr (7, [.int 0, .int (nI n), .ref (am 1), .ref (am 2), .ref (am 3), .int (nI kn), .ref (am 4), .ref (am 5), .ref (am 6), .ref (am 7), .ref (am 8), .ref (am 9), .ref (am 10), .ref (am 11), .ref (am 12)])), (am 4, .inl (kd, 60, .inr (.inr (.inr (.inl P))))), (am 5, .inl (kd, 60, .inr (.inr (.inr (.inl V))))), (am 6, .inl (kz, 60, .inl AF)), (am 7, .inl (kd, 60, .inr (.inr (.inr (.inl FX)))))] (some (.double (s_bs P V F kn (s_rp V kn y) y 60 (P (s_rp V kn y)) (P (s_rp V kn y + 1)))))) (F0 m 85 ls []) := by
                intro n9
                induction n9 with
                | zero => intro i lo9 hi9 h9; exact absurd h9 (Nat.not_lt_zero _)
                | succ n9 ih_85 =>
                  intro i lo9 hi9 h9 hi6 hlo hhi hs2 H locs hP hD hS ls hl
                  refine lv_iload hx hb dX7_reach_85 (lv_at hl 0 rfl) ?_
                  refine lv_bipush (v := 60) hx hb dX7_reach_87 (by decide) ?_
                  refine lv_icmp_ge (tgt := 139) hx hb dX7_reach_89 (by decide) (fun c_89 => ?_) (fun c_89 => ?_)
                  · have c_89 : 60 ≤ i := (nI_leI (a := 60) (b := i) (by omega) (by omega)).mp c_89
                    refine lv_dload hx hb dX7_reach_139 (lv_at hl 2 rfl) ?_
                    exact my_dretW hx hb hr hlocks hP (rfl) hS (by rw [← hs2, show 60 - i = 0 by omega]; rfl) dX7_reach_141
                  · have c_89 : ¬ 60 ≤ i := fun h9 => c_89 ((nI_leI (a := 60) (b := i) (by omega) (by omega)).mpr h9)
                    refine lv_dload hx hb dX7_reach_92 (lv_at hl 1 rfl) ?_
                    refine lv_dload hx hb dX7_reach_94 (lv_at hl 2 rfl) ?_
                    refine lv_dadd hx hb dX7_reach_96 (fx_n64 (fx_B_n (s_mid hlo hhi (by omega) (by omega)).1 (by omega))) ?_
                    refine lv_ldc2d hx hb hown (hts (.constantDouble RX7 101 (4611686018427387904)) (List.mem_of_getElem? (l := wsX7_reach) (i := 5) rfl)) dX7_reach_97 ?_
                    refine lv_ddiv hx hb dX7_reach_100 (fx_n64 (fx_B_n (s_mid hlo hhi (by omega) (by omega)).2 (by omega))) ?_
                    refine lv_dstore (lv' := [(9, .double (FP.ddiv (FP.dadd lo9 hi9) 4611686018427387904)), (8, .int (nI i)), (4, .double lo9), (6, .double hi9), (3, .int (nI (s_rp V kn y))), (0, .ref (am 0)), (1, .double y)]) hx hb dX7_reach_101 hl (by decide) rfl (fun ls hl => ?_)
                    refine lv_aload_n hx hb dX7_reach_103 rfl (lv_at hl 5 rfl) ?_
                    refine lv_iload_n hx hb dX7_reach_104 rfl (lv_at hl 4 rfl) ?_
                    refine lv_dload hx hb dX7_reach_105 (lv_at hl 0 rfl) ?_
                    refine lv_aload_n hx hb dX7_reach_107 rfl (lv_at hl 5 rfl) ?_
                    refine va_get (D := D) (ci := 7) (v := .ref (am 4)) (C := RX7) (T := TX7) (N := 15) hx hb hts iw_X7_reach_X7 hown hC.1 hP 0 rfl rfl 6 (by decide) (hts (.fieldLink RX7 19 "MonotoneSplineModel" "places" "[D") (List.mem_of_getElem? (l := wsX7_reach) (i := 4) rfl)) (fun _ h9 => h9) rfl dX7_reach_108 ?_
                    refine lv_iload_n hx hb dX7_reach_111 rfl (lv_at hl 4 rfl) ?_
                    refine my_dald (k := s_rp V kn y) (n := 60) (f := P) hx hb hC hP 1 rfl (by omega) (by omega) dX7_reach_112 ?_
                    refine lv_dsub hx hb dX7_reach_113 (fx_n64 (fx_B_n (PE_x hI (by omega) (fx_B_mono (s_mid hlo hhi (by omega) (by omega)).2 (by omega))) (by omega))) ?_
                    refine my_goR (v := (some (.double (s_h (V (s_rp V kn y)) (s_s P V F kn (s_rp V kn y)) (s_pk P V F kn (s_rp V kn y)) (s_qk P V F kn (s_rp V kn y)) (FP.dsub (FP.ddiv (FP.dadd lo9 hi9) 4611686018427387904) (P (s_rp V kn y))))))) (my_runV (bytes := cX7_valueIn) (maxL := 4) (ret := (some .double)) (n := 2) (As := [.int (nI (s_rp V kn y)), .double (FP.dsub (FP.ddiv (FP.dadd lo9 hi9) 4611686018427387904) (P (s_rp V kn y)))]) (rest := []) S hl.1 (mm_valueIn l D kd ki kz kl z am 0 n kn P V F AF FX (s_rp V kn y) (FP.dsub (FP.ddiv (FP.dadd lo9 hi9) 4611686018427387904) (P (s_rp V kn y))) (hI) (hR) (by omega) (PE_x hI (by omega) (fx_B_mono (s_mid hlo hhi (by omega) (by omega)).2 (by omega)))) rfl ⟨rfl, rfl⟩ gX7_reach_X7_valueIn (by decide +kernel) rfl ⟨Nat.le_of_ble_eq_true rfl, Nat.le_of_ble_eq_true rfl⟩ (my_preR (my_C_S hC hS hz) (my_P_sub (wc := [(am 0, .inr (7, [.int 0, .int (nI n), .ref (am 1), .ref (am 2), .ref (am 3), .int (nI kn), .ref (am 4), .ref (am 5), .ref (am 6), .ref (am 7), .ref (am 8), .ref (am 9), .ref (am 10), .ref (am 11), .ref (am 12)])), (am 4, .inl (kd, 60, .inr (.inr (.inr (.inl P))))), (am 5, .inl (kd, 60, .inr (.inr (.inr (.inl V))))), (am 6, .inl (kz, 60, .inl AF)), (am 7, .inl (kd, 60, .inr (.inr (.inr (.inl FX)))))]) hP [0, 1, 2, 3, 4] rfl)) (va_recv hC.1 hP (ci := 7) (q0 := 0) rfl rfl) rfl rfl dX7_reach_114) ?_
                    refine W.eq (g2 := F0 m 117 ls [.double (s_h (V (s_rp V kn y)) (s_s P V F kn (s_rp V kn y)) (s_pk P V F kn (s_rp V kn y)) (s_qk P V F kn (s_rp V kn y)) (FP.dsub (FP.ddiv (FP.dadd lo9 hi9) 4611686018427387904) (P (s_rp V kn y))))]) rfl ?_
                    refine lv_dload_n hx hb dX7_reach_117 rfl (lv_at hl 6 rfl) ?_
                    refine lv_dcmp hx hb dX7_reach_118 ?_
                    refine lv_if_ge (tgt := 129) hx hb dX7_reach_119 (by decide) (fun c_119 => ?_) (fun c_119 => ?_)
                    · have c_119 := cv_g_ge_t c_119
                      refine lv_dload hx hb dX7_reach_129 (lv_at hl 0 rfl) ?_
                      refine lv_dstore (lv' := [(6, .double (FP.ddiv (FP.dadd lo9 hi9) 4611686018427387904)), (9, .double (FP.ddiv (FP.dadd lo9 hi9) 4611686018427387904)), (8, .int (nI i)), (4, .double lo9), (3, .int (nI (s_rp V kn y))), (0, .ref (am 0)), (1, .double y)]) hx hb dX7_reach_131 hl (by decide) rfl (fun ls hl => ?_)
                      refine lv_iinc (v := nI (i + 1)) (k := 2) (lv' := [(8, .int (nI (i + 1))), (6, .double (FP.ddiv (FP.dadd lo9 hi9) 4611686018427387904)), (9, .double (FP.ddiv (FP.dadd lo9 hi9) 4611686018427387904)), (4, .double lo9), (3, .int (nI (s_rp V kn y))), (0, .ref (am 0)), (1, .double y)]) hx hb dX7_reach_133 hl rfl (nI_add i 1) (by decide) rfl (fun ls hl => ?_)
                      refine lv_goto (tgt := 85) hx hb dX7_reach_136 (by decide) ?_
                      exact ih_85 (i + 1) lo9 (FP.ddiv (FP.dadd lo9 hi9) 4611686018427387904) (by omega) (by omega) (by first | exact fx_B_mono (s_mid hlo hhi (by omega) (by omega)).2 (by omega) | exact fx_B_mono hlo (by omega)) (by first | exact fx_B_mono (s_mid hlo hhi (by omega) (by omega)).2 (by omega) | exact fx_B_mono hhi (by omega)) (by first | exact (s_bs_t (by omega) c_119).symm.trans hs2 | exact (s_bs_f (by omega) c_119).symm.trans hs2) _ _ hP hD hS _ (lv_sub hl [0, 3, 1, 4, 5, 6] rfl)
                    · have c_119 := cv_g_ge_f c_119
                      refine lv_dload hx hb dX7_reach_122 (lv_at hl 0 rfl) ?_
                      refine lv_dstore (lv' := [(4, .double (FP.ddiv (FP.dadd lo9 hi9) 4611686018427387904)), (9, .double (FP.ddiv (FP.dadd lo9 hi9) 4611686018427387904)), (8, .int (nI i)), (6, .double hi9), (3, .int (nI (s_rp V kn y))), (0, .ref (am 0)), (1, .double y)]) hx hb dX7_reach_124 hl (by decide) rfl (fun ls hl => ?_)
                      refine lv_goto (tgt := 133) hx hb dX7_reach_126 (by decide) ?_
                      refine lv_iinc (v := nI (i + 1)) (k := 2) (lv' := [(8, .int (nI (i + 1))), (4, .double (FP.ddiv (FP.dadd lo9 hi9) 4611686018427387904)), (9, .double (FP.ddiv (FP.dadd lo9 hi9) 4611686018427387904)), (6, .double hi9), (3, .int (nI (s_rp V kn y))), (0, .ref (am 0)), (1, .double y)]) hx hb dX7_reach_133 hl rfl (nI_add i 1) (by decide) rfl (fun ls hl => ?_)
                      refine lv_goto (tgt := 85) hx hb dX7_reach_136 (by decide) ?_
                      exact ih_85 (i + 1) (FP.ddiv (FP.dadd lo9 hi9) 4611686018427387904) hi9 (by omega) (by omega) (by first | exact fx_B_mono (s_mid hlo hhi (by omega) (by omega)).2 (by omega) | exact fx_B_mono hlo (by omega)) (by first | exact fx_B_mono (s_mid hlo hhi (by omega) (by omega)).2 (by omega) | exact fx_B_mono hhi (by omega)) (by first | exact (s_bs_t (by omega) c_119).symm.trans hs2 | exact (s_bs_f (by omega) c_119).symm.trans hs2) _ _ hP hD hS _ (lv_sub hl [0, 1, 3, 4, 5, 6] rfl)
              exact loop_85 _ 0 (P (s_rp V kn y)) (P (s_rp V kn y + 1)) (Nat.lt_succ_self _) (by omega) (fx_B_mono (kJ_P hJ (by omega)) (by omega)) (fx_B_mono (kJ_P hJ (by omega)) (by omega)) (rfl) _ _ hP hD hS _ (lv_sub hl [0, 2, 1, 3, 4, 5] rfl)
            · have c_55 := cv_g_ge_f c_55
              have hk9 : k < kn - 2 := Nat.lt_of_le_of_ne hk (fun h9 => sp_no (fx_B_n (hJ.2.2.2.1 (k + 1) (by omega)).1 (by omega)) hny c_55 (by rw [show k + 1 = kn - 1 by omega]; exact h12.2))
              refine lv_iinc (v := nI (k + 1)) (k := 0) (lv' := [(3, .int (nI (k + 1))), (0, .ref (am 0)), (1, .double y)]) hx hb dX7_reach_58 hl rfl (nI_add k 1) (by decide) rfl (fun ls hl => ?_)
              refine lv_goto (tgt := 45) hx hb dX7_reach_61 (by decide) ?_
              exact ih_45 (k + 1) (by omega) (by omega) (by rw [← hs, show kn - 2 - k = (kn - 2 - (k + 1)) + 1 by omega, s_find_step (decide_eq_true c_55)]) _ _ hP hD hS _ (lv_sub hl [0, 1, 2] rfl)
        exact loop_45 _ 0 (Nat.lt_succ_self _) (by omega) (rfl) _ _ hP hD hS _ (lv_sub hl [0, 1, 2] rfl)
      · skip
        first | exact absurd c_33 (by decide) | exact absurd (by decide) c_33
    · rw [if_neg q_h12]
      exact absurd h12 q_h12

set_option maxHeartbeats 4000000 in
set_option maxRecDepth 100000 in
theorem mm_reach_1 (l : Launch) (D : va_G) (kd ki kz kl : ClassId) (z : Nat) (am : Nat → Nat) (th : Int32) (n : Nat) (kn : Nat) (P : Nat → UInt64) (V : Nat → UInt64) (AF : Nat → Int32) (FX : Nat → UInt64) (y : UInt64) (hn : kn ≤ 60) (hno : ¬ (0 < kn ∧ sp_ge y (V 0) ∧ sp_le y (V (kn - 1)))) : my_WR l D kd ki kz kl z yX7_reach wsX7_reach ({ frames := 1, cells := 0, slots := 0, locals := 25 }) [.ref (am 0), .double y] [(am 0, .inr (7, [.int th, .int (nI n), .ref (am 1), .ref (am 2), .ref (am 3), .int (nI kn), .ref (am 4), .ref (am 5), .ref (am 6), .ref (am 7), .ref (am 8), .ref (am 9), .ref (am 10), .ref (am 11), .ref (am 12)])), (am 4, .inl (kd, 60, .inr (.inr (.inr (.inl P))))), (am 5, .inl (kd, 60, .inr (.inr (.inr (.inl V))))), (am 6, .inl (kz, 60, .inl AF)), (am 7, .inl (kd, 60, .inr (.inr (.inr (.inl FX)))))] [(am 0, .inr (7, [.int 1, .int (nI n), .ref (am 1), .ref (am 2), .ref (am 3), .int (nI kn), .ref (am 4), .ref (am 5), .ref (am 6), .ref (am 7), .ref (am 8), .ref (am 9), .ref (am 10), .ref (am 11), .ref (am 12)])), (am 4, .inl (kd, 60, .inr (.inr (.inr (.inl P))))), (am 5, .inl (kd, 60, .inr (.inr (.inr (.inl V))))), (am 6, .inl (kz, 60, .inl AF)), (am 7, .inl (kd, 60, .inr (.inr (.inr (.inl FX)))))] (some (.double (FP.i2d 0))) := by
  refine my_WR_of (cc := cX7_reach) (maxL := 11) (ret := (some .double)) (by decide) rfl (Nat.le_of_ble_eq_true rfl) ?_
  intro p e s m below meth c S hr hlocks hC hP hD hz hS ls hl
  have S : CallFix p m c cX7_reach 11 s ([.ref (am 0), .double y] : List Value).toArray wsX7_reach RX7 := S
  obtain ⟨hx, hb, hml, hown, hts⟩ := id S
  have hl : lv_has ls 11 [(0, .ref (am 0)), (1, .double y)] := hl
  suffices K0 : ∀ (H : Heap) (locs : List Loc), va_P D vwCl [(am 0, .inr (7, [.int th, .int (nI n), .ref (am 1), .ref (am 2), .ref (am 3), .int (nI kn), .ref (am 4), .ref (am 5), .ref (am 6), .ref (am 7), .ref (am 8), .ref (am 9), .ref (am 10), .ref (am 11), .ref (am 12)])), (am 4, .inl (kd, 60, .inr (.inr (.inr (.inl P))))), (am 5, .inl (kd, 60, .inr (.inr (.inr (.inl V))))), (am 6, .inl (kz, 60, .inl AF)), (am 7, .inl (kd, 60, .inr (.inr (.inr (.inl FX)))))] H → va_D (my_A [(am 0, .inr (7, [.int th, .int (nI n), .ref (am 1), .ref (am 2), .ref (am 3), .int (nI kn), .ref (am 4), .ref (am 5), .ref (am 6), .ref (am 7), .ref (am 8), .ref (am 9), .ref (am 10), .ref (am 11), .ref (am 12)])), (am 4, .inl (kd, 60, .inr (.inr (.inr (.inl P))))), (am 5, .inl (kd, 60, .inr (.inr (.inr (.inl V))))), (am 6, .inl (kz, 60, .inl AF)), (am 7, .inl (kd, 60, .inr (.inr (.inr (.inl FX)))))]) [(am 0, .inr (7, [.int th, .int (nI n), .ref (am 1), .ref (am 2), .ref (am 3), .int (nI kn), .ref (am 4), .ref (am 5), .ref (am 6), .ref (am 7), .ref (am 8), .ref (am 9), .ref (am 10), .ref (am 11), .ref (am 12)])), (am 4, .inl (kd, 60, .inr (.inr (.inr (.inl P))))), (am 5, .inl (kd, 60, .inr (.inr (.inr (.inl V))))), (am 6, .inl (kz, 60, .inl AF)), (am 7, .inl (kd, 60, .inr (.inr (.inr (.inl FX)))))] → va_S (my_A [(am 0, .inr (7, [.int th, .int (nI n), .ref (am 1), .ref (am 2), .ref (am 3), .int (nI kn), .ref (am 4), .ref (am 5), .ref (am 6), .ref (am 7), .ref (am 8), .ref (am 9), .ref (am 10), .ref (am 11), .ref (am 12)])), (am 4, .inl (kd, 60, .inr (.inr (.inr (.inl P))))), (am 5, .inl (kd, 60, .inr (.inr (.inr (.inl V))))), (am 6, .inl (kz, 60, .inl AF)), (am 7, .inl (kd, 60, .inr (.inr (.inr (.inl FX)))))]) s.heap H locs → W p l e ({ frames := 1, cells := 0, slots := 0, locals := 25 }) s m ([.ref (am 0), .double y] : List Value).toArray below meth c H locs 0 0 (my_WQ below D ([.ref (am 0), .double y] : List Value).toArray s [(am 0, .inr (7, [.int th, .int (nI n), .ref (am 1), .ref (am 2), .ref (am 3), .int (nI kn), .ref (am 4), .ref (am 5), .ref (am 6), .ref (am 7), .ref (am 8), .ref (am 9), .ref (am 10), .ref (am 11), .ref (am 12)])), (am 4, .inl (kd, 60, .inr (.inr (.inr (.inl P))))), (am 5, .inl (kd, 60, .inr (.inr (.inr (.inl V))))), (am 6, .inl (kz, 60, .inl AF)), (am 7, .inl (kd, 60, .inr (.inr (.inr (.inl FX)))))] [(am 0, .inr (7, [.int 1, .int (nI n), .ref (am 1), .ref (am 2), .ref (am 3), .int (nI kn), .ref (am 4), .ref (am 5), .ref (am 6), .ref (am 7), .ref (am 8), .ref (am 9), .ref (am 10), .ref (am 11), .ref (am 12)])), (am 4, .inl (kd, 60, .inr (.inr (.inr (.inl P))))), (am 5, .inl (kd, 60, .inr (.inr (.inr (.inl V))))), (am 6, .inl (kz, 60, .inl AF)), (am 7, .inl (kd, 60, .inr (.inr (.inr (.inl FX)))))] (some (.double (FP.i2d 0)))) (F0 m 0 ls []) from K0 _ _ hP hD hS
  intro H locs hP hD hS
  refine lv_aload_n hx hb dX7_reach_0 rfl (lv_at hl 0 rfl) ?_
  refine lv_iconst (v := 0) hx hb dX7_reach_1 (by decide) ?_
  refine va_put (D := D) (ci := 7) (v := .int 0) (ty := .int) (C := RX7) (T := TX7) (N := 15) hx hb hts iw_X7_reach_X7 tyX7 tyX7_ok nmX7 hown hC.1 hP hD hS 0 rfl rfl 0 (by decide) (hts (.fieldLink RX7 48 "MonotoneSplineModel" "thrown" "I") (List.mem_of_getElem? (l := wsX7_reach) (i := 1) rfl)) (fun _ h9 => h9) rfl (by decide +kernel) rfl rfl (Nat.le_of_ble_eq_true rfl) dX7_reach_2 (fun H locs hP hD hS => ?_)
  have hP : va_P D vwCl [(am 0, .inr (7, [.int 0, .int (nI n), .ref (am 1), .ref (am 2), .ref (am 3), .int (nI kn), .ref (am 4), .ref (am 5), .ref (am 6), .ref (am 7), .ref (am 8), .ref (am 9), .ref (am 10), .ref (am 11), .ref (am 12)])), (am 4, .inl (kd, 60, .inr (.inr (.inr (.inl P))))), (am 5, .inl (kd, 60, .inr (.inr (.inr (.inl V))))), (am 6, .inl (kz, 60, .inl AF)), (am 7, .inl (kd, 60, .inr (.inr (.inr (.inl FX)))))] H := hP
  have hD : va_D (my_A [(am 0, .inr (7, [.int th, .int (nI n), .ref (am 1), .ref (am 2), .ref (am 3), .int (nI kn), .ref (am 4), .ref (am 5), .ref (am 6), .ref (am 7), .ref (am 8), .ref (am 9), .ref (am 10), .ref (am 11), .ref (am 12)])), (am 4, .inl (kd, 60, .inr (.inr (.inr (.inl P))))), (am 5, .inl (kd, 60, .inr (.inr (.inr (.inl V))))), (am 6, .inl (kz, 60, .inl AF)), (am 7, .inl (kd, 60, .inr (.inr (.inr (.inl FX)))))]) [(am 0, .inr (7, [.int 0, .int (nI n), .ref (am 1), .ref (am 2), .ref (am 3), .int (nI kn), .ref (am 4), .ref (am 5), .ref (am 6), .ref (am 7), .ref (am 8), .ref (am 9), .ref (am 10), .ref (am 11), .ref (am 12)])), (am 4, .inl (kd, 60, .inr (.inr (.inr (.inl P))))), (am 5, .inl (kd, 60, .inr (.inr (.inr (.inl V))))), (am 6, .inl (kz, 60, .inl AF)), (am 7, .inl (kd, 60, .inr (.inr (.inr (.inl FX)))))] := hD
  refine lv_aload_n hx hb dX7_reach_5 rfl (lv_at hl 0 rfl) ?_
  refine va_get (D := D) (ci := 7) (v := .int (nI kn)) (C := RX7) (T := TX7) (N := 15) hx hb hts iw_X7_reach_X7 hown hC.1 hP 0 rfl rfl 5 (by decide) (hts (.fieldLink RX7 56 "MonotoneSplineModel" "knots" "I") (List.mem_of_getElem? (l := wsX7_reach) (i := 2) rfl)) (fun _ h9 => h9) rfl dX7_reach_6 ?_
  refine lv_if_eq (tgt := 36) hx hb dX7_reach_9 (by decide) (fun c_9 => ?_) (fun c_9 => ?_)
  · have c_9 : kn = 0 := (nI_eq (a := kn) (b := 0) (by omega) (by omega)).mp c_9
    refine lv_aload_n hx hb dX7_reach_36 rfl (lv_at hl 0 rfl) ?_
    refine lv_iconst (v := 1) hx hb dX7_reach_37 (by decide) ?_
    refine my_goW (v := (some (.int 0))) (w1 := [(am 0, .inr (7, [.int 1, .int (nI n), .ref (am 1), .ref (am 2), .ref (am 3), .int (nI kn), .ref (am 4), .ref (am 5), .ref (am 6), .ref (am 7), .ref (am 8), .ref (am 9), .ref (am 10), .ref (am 11), .ref (am 12)]))]) (wx' := [(am 0, .inr (7, [.int 1, .int (nI n), .ref (am 1), .ref (am 2), .ref (am 3), .int (nI kn), .ref (am 4), .ref (am 5), .ref (am 6), .ref (am 7), .ref (am 8), .ref (am 9), .ref (am 10), .ref (am 11), .ref (am 12)])), (am 4, .inl (kd, 60, .inr (.inr (.inr (.inl P))))), (am 5, .inl (kd, 60, .inr (.inr (.inr (.inl V))))), (am 6, .inl (kz, 60, .inl AF)), (am 7, .inl (kd, 60, .inr (.inr (.inr (.inl FX)))))]) (my_runV (bytes := cX7_fail) (maxL := 2) (ret := (some .int)) (n := 1) (As := [.int 1]) (rest := []) S hl.1 (mm_fail l D kd ki kz kl z am 0 n kn 1) rfl ⟨rfl, rfl⟩ gX7_reach_X7_fail (by decide +kernel) rfl ⟨Nat.le_of_ble_eq_true rfl, Nat.le_of_ble_eq_true rfl⟩ (my_preW (my_C_S hC hS hz) (my_P_sub (wc := [(am 0, .inr (7, [.int 0, .int (nI n), .ref (am 1), .ref (am 2), .ref (am 3), .int (nI kn), .ref (am 4), .ref (am 5), .ref (am 6), .ref (am 7), .ref (am 8), .ref (am 9), .ref (am 10), .ref (am 11), .ref (am 12)]))]) hP [0] rfl) (my_D_sub hD hz [0] (by decide) rfl)) (va_recv hC.1 hP (ci := 7) (q0 := 0) rfl rfl) rfl rfl dX7_reach_38) hP hD hS [0] rfl rfl rfl (fun H locs hP hD hS => ?_)
    refine W.eq (g2 := F0 m 41 ls [.int 0]) rfl ?_
    refine lv_i2d hx hb dX7_reach_41 ?_
    exact my_dretW hx hb hr hlocks hP (rfl) hS (rfl) dX7_reach_42
  · have c_9 : ¬ kn = 0 := fun h9 => c_9 ((nI_eq (a := kn) (b := 0) (by omega) (by omega)).mpr h9)
    refine lv_dload_n hx hb dX7_reach_12 rfl (lv_at hl 1 rfl) ?_
    refine lv_aload_n hx hb dX7_reach_13 rfl (lv_at hl 0 rfl) ?_
    refine va_get (D := D) (ci := 7) (v := .ref (am 5)) (C := RX7) (T := TX7) (N := 15) hx hb hts iw_X7_reach_X7 hown hC.1 hP 0 rfl rfl 7 (by decide) (hts (.fieldLink RX7 22 "MonotoneSplineModel" "values" "[D") (List.mem_of_getElem? (l := wsX7_reach) (i := 3) rfl)) (fun _ h9 => h9) rfl dX7_reach_14 ?_
    refine lv_iconst (v := 0) hx hb dX7_reach_17 (by decide) ?_
    refine my_dald (k := 0) (n := 60) (f := V) hx hb hC hP 2 rfl (by omega) (by omega) dX7_reach_18 ?_
    refine lv_aload_n hx hb dX7_reach_19 rfl (lv_at hl 0 rfl) ?_
    refine va_get (D := D) (ci := 7) (v := .ref (am 5)) (C := RX7) (T := TX7) (N := 15) hx hb hts iw_X7_reach_X7 hown hC.1 hP 0 rfl rfl 7 (by decide) (hts (.fieldLink RX7 22 "MonotoneSplineModel" "values" "[D") (List.mem_of_getElem? (l := wsX7_reach) (i := 3) rfl)) (fun _ h9 => h9) rfl dX7_reach_20 ?_
    refine lv_aload_n hx hb dX7_reach_23 rfl (lv_at hl 0 rfl) ?_
    refine va_get (D := D) (ci := 7) (v := .int (nI kn)) (C := RX7) (T := TX7) (N := 15) hx hb hts iw_X7_reach_X7 hown hC.1 hP 0 rfl rfl 5 (by decide) (hts (.fieldLink RX7 56 "MonotoneSplineModel" "knots" "I") (List.mem_of_getElem? (l := wsX7_reach) (i := 2) rfl)) (fun _ h9 => h9) rfl dX7_reach_24 ?_
    refine lv_iconst (v := 1) hx hb dX7_reach_27 (by decide) ?_
    refine my_isub (w := nI (kn - 1)) hx hb dX7_reach_28 (pk_sub (a := kn) (b := 1) (by omega)) ?_
    refine my_dald (k := kn - 1) (n := 60) (f := V) hx hb hC hP 2 rfl (by omega) (by omega) dX7_reach_29 ?_
    refine my_goR (v := (some (.int (if sp_ge y (V 0) ∧ sp_le y (V (kn - 1)) then 1 else 0)))) (my_runS (bytes := cX7_isIn) (maxL := 6) (ret := (some .boolean)) (n := 3) (As := [.double y, .double (V 0), .double (V (kn - 1))]) (rest := []) S hl.1 (mm_isIn l D kd ki kz kl z y (V 0) (V (kn - 1))) rfl ⟨rfl, rfl⟩ gX7_reach_X7_isIn (by decide +kernel) rfl ⟨Nat.le_of_ble_eq_true rfl, Nat.le_of_ble_eq_true rfl⟩ (my_preR (my_C_S hC hS hz) (my_P_sub (wc := []) hP [] rfl)) rfl rfl dX7_reach_30) ?_
    refine W.eq (g2 := F0 m 33 ls [.int (if sp_ge y (V 0) ∧ sp_le y (V (kn - 1)) then 1 else 0)]) rfl ?_
    by_cases q1 : sp_ge y (V 0) ∧ sp_le y (V (kn - 1))
    · rw [if_pos q1]
      refine lv_if_ne (tgt := 43) hx hb dX7_reach_33 (by decide) (fun c_33 => ?_) (fun c_33 => ?_)
      · skip
        exact absurd ⟨by omega, q1⟩ hno
      · skip
        first | exact absurd c_33 (by decide) | exact absurd (by decide) c_33
    · rw [if_neg q1]
      refine lv_if_ne (tgt := 43) hx hb dX7_reach_33 (by decide) (fun c_33 => ?_) (fun c_33 => ?_)
      · skip
        first | exact absurd c_33 (by decide) | exact absurd (by decide) c_33
      · skip
        refine lv_aload_n hx hb dX7_reach_36 rfl (lv_at hl 0 rfl) ?_
        refine lv_iconst (v := 1) hx hb dX7_reach_37 (by decide) ?_
        refine my_goW (v := (some (.int 0))) (w1 := [(am 0, .inr (7, [.int 1, .int (nI n), .ref (am 1), .ref (am 2), .ref (am 3), .int (nI kn), .ref (am 4), .ref (am 5), .ref (am 6), .ref (am 7), .ref (am 8), .ref (am 9), .ref (am 10), .ref (am 11), .ref (am 12)]))]) (wx' := [(am 0, .inr (7, [.int 1, .int (nI n), .ref (am 1), .ref (am 2), .ref (am 3), .int (nI kn), .ref (am 4), .ref (am 5), .ref (am 6), .ref (am 7), .ref (am 8), .ref (am 9), .ref (am 10), .ref (am 11), .ref (am 12)])), (am 4, .inl (kd, 60, .inr (.inr (.inr (.inl P))))), (am 5, .inl (kd, 60, .inr (.inr (.inr (.inl V))))), (am 6, .inl (kz, 60, .inl AF)), (am 7, .inl (kd, 60, .inr (.inr (.inr (.inl FX)))))]) (my_runV (bytes := cX7_fail) (maxL := 2) (ret := (some .int)) (n := 1) (As := [.int 1]) (rest := []) S hl.1 (mm_fail l D kd ki kz kl z am 0 n kn 1) rfl ⟨rfl, rfl⟩ gX7_reach_X7_fail (by decide +kernel) rfl ⟨Nat.le_of_ble_eq_true rfl, Nat.le_of_ble_eq_true rfl⟩ (my_preW (my_C_S hC hS hz) (my_P_sub (wc := [(am 0, .inr (7, [.int 0, .int (nI n), .ref (am 1), .ref (am 2), .ref (am 3), .int (nI kn), .ref (am 4), .ref (am 5), .ref (am 6), .ref (am 7), .ref (am 8), .ref (am 9), .ref (am 10), .ref (am 11), .ref (am 12)]))]) hP [0] rfl) (my_D_sub hD hz [0] (by decide) rfl)) (va_recv hC.1 hP (ci := 7) (q0 := 0) rfl rfl) rfl rfl dX7_reach_38) hP hD hS [0] rfl rfl rfl (fun H locs hP hD hS => ?_)
        refine W.eq (g2 := F0 m 41 ls [.int 0]) rfl ?_
        refine lv_i2d hx hb dX7_reach_41 ?_
        exact my_dretW hx hb hr hlocks hP (rfl) hS (rfl) dX7_reach_42

theorem iw_X7_steepest_X7 : ∀ w ∈ wsX70, w ∈ wsX7_steepest := fun w h => List.mem_cons_of_mem _ (List.mem_append_right _ (h))
set_option maxHeartbeats 4000000 in
set_option maxRecDepth 100000 in
theorem mm_steepest (l : Launch) (D : va_G) (kd ki kz kl : ClassId) (z : Nat) (am : Nat → Nat) (th : Int32) (n : Nat) (kn : Nat) (P : Nat → UInt64) (V : Nat → UInt64) (hJ : KJ kn P V) : my_WR l D kd ki kz kl z yX7_steepest wsX7_steepest ({ frames := 2, cells := 0, slots := 0, locals := 42 }) [.ref (am 0)] [(am 0, .inr (7, [.int th, .int (nI n), .ref (am 1), .ref (am 2), .ref (am 3), .int (nI kn), .ref (am 4), .ref (am 5), .ref (am 6), .ref (am 7), .ref (am 8), .ref (am 9), .ref (am 10), .ref (am 11), .ref (am 12)])), (am 4, .inl (kd, 60, .inr (.inr (.inr (.inl P))))), (am 5, .inl (kd, 60, .inr (.inr (.inr (.inl V)))))] [(am 0, .inr (7, [.int 0, .int (nI n), .ref (am 1), .ref (am 2), .ref (am 3), .int (nI kn), .ref (am 4), .ref (am 5), .ref (am 6), .ref (am 7), .ref (am 8), .ref (am 9), .ref (am 10), .ref (am 11), .ref (am 12)])), (am 4, .inl (kd, 60, .inr (.inr (.inr (.inl P))))), (am 5, .inl (kd, 60, .inr (.inr (.inr (.inl V)))))] (some (.int (nI (s_bst P V (kn - 2))))) := by
  refine my_WR_of (cc := cX7_steepest) (maxL := 3) (ret := (some .int)) (by decide) rfl (Nat.le_of_ble_eq_true rfl) ?_
  intro p e s m below meth c S hr hlocks hC hP hD hz hS ls hl
  have S : CallFix p m c cX7_steepest 3 s ([.ref (am 0)] : List Value).toArray wsX7_steepest RX7 := S
  obtain ⟨hx, hb, hml, hown, hts⟩ := id S
  have hl : lv_has ls 3 [(0, .ref (am 0))] := hl
  suffices K0 : ∀ (H : Heap) (locs : List Loc), va_P D vwCl [(am 0, .inr (7, [.int th, .int (nI n), .ref (am 1), .ref (am 2), .ref (am 3), .int (nI kn), .ref (am 4), .ref (am 5), .ref (am 6), .ref (am 7), .ref (am 8), .ref (am 9), .ref (am 10), .ref (am 11), .ref (am 12)])), (am 4, .inl (kd, 60, .inr (.inr (.inr (.inl P))))), (am 5, .inl (kd, 60, .inr (.inr (.inr (.inl V)))))] H → va_D (my_A [(am 0, .inr (7, [.int th, .int (nI n), .ref (am 1), .ref (am 2), .ref (am 3), .int (nI kn), .ref (am 4), .ref (am 5), .ref (am 6), .ref (am 7), .ref (am 8), .ref (am 9), .ref (am 10), .ref (am 11), .ref (am 12)])), (am 4, .inl (kd, 60, .inr (.inr (.inr (.inl P))))), (am 5, .inl (kd, 60, .inr (.inr (.inr (.inl V)))))]) [(am 0, .inr (7, [.int th, .int (nI n), .ref (am 1), .ref (am 2), .ref (am 3), .int (nI kn), .ref (am 4), .ref (am 5), .ref (am 6), .ref (am 7), .ref (am 8), .ref (am 9), .ref (am 10), .ref (am 11), .ref (am 12)])), (am 4, .inl (kd, 60, .inr (.inr (.inr (.inl P))))), (am 5, .inl (kd, 60, .inr (.inr (.inr (.inl V)))))] → va_S (my_A [(am 0, .inr (7, [.int th, .int (nI n), .ref (am 1), .ref (am 2), .ref (am 3), .int (nI kn), .ref (am 4), .ref (am 5), .ref (am 6), .ref (am 7), .ref (am 8), .ref (am 9), .ref (am 10), .ref (am 11), .ref (am 12)])), (am 4, .inl (kd, 60, .inr (.inr (.inr (.inl P))))), (am 5, .inl (kd, 60, .inr (.inr (.inr (.inl V)))))]) s.heap H locs → W p l e ({ frames := 2, cells := 0, slots := 0, locals := 42 }) s m ([.ref (am 0)] : List Value).toArray below meth c H locs 0 0 (my_WQ below D ([.ref (am 0)] : List Value).toArray s [(am 0, .inr (7, [.int th, .int (nI n), .ref (am 1), .ref (am 2), .ref (am 3), .int (nI kn), .ref (am 4), .ref (am 5), .ref (am 6), .ref (am 7), .ref (am 8), .ref (am 9), .ref (am 10), .ref (am 11), .ref (am 12)])), (am 4, .inl (kd, 60, .inr (.inr (.inr (.inl P))))), (am 5, .inl (kd, 60, .inr (.inr (.inr (.inl V)))))] [(am 0, .inr (7, [.int 0, .int (nI n), .ref (am 1), .ref (am 2), .ref (am 3), .int (nI kn), .ref (am 4), .ref (am 5), .ref (am 6), .ref (am 7), .ref (am 8), .ref (am 9), .ref (am 10), .ref (am 11), .ref (am 12)])), (am 4, .inl (kd, 60, .inr (.inr (.inr (.inl P))))), (am 5, .inl (kd, 60, .inr (.inr (.inr (.inl V)))))] (some (.int (nI (s_bst P V (kn - 2)))))) (F0 m 0 ls []) from K0 _ _ hP hD hS
  intro H locs hP hD hS
  have hkn := hJ.2.1
  have hkn2 := hJ.1
  refine lv_aload_n hx hb dX7_steepest_0 rfl (lv_at hl 0 rfl) ?_
  refine lv_iconst (v := 0) hx hb dX7_steepest_1 (by decide) ?_
  refine va_put (D := D) (ci := 7) (v := .int 0) (ty := .int) (C := RX7) (T := TX7) (N := 15) hx hb hts iw_X7_steepest_X7 tyX7 tyX7_ok nmX7 hown hC.1 hP hD hS 0 rfl rfl 0 (by decide) (hts (.fieldLink RX7 48 "MonotoneSplineModel" "thrown" "I") (List.mem_of_getElem? (l := wsX7_steepest) (i := 1) rfl)) (fun _ h9 => h9) rfl (by decide +kernel) rfl rfl (Nat.le_of_ble_eq_true rfl) dX7_steepest_2 (fun H locs hP hD hS => ?_)
  have hP : va_P D vwCl [(am 0, .inr (7, [.int 0, .int (nI n), .ref (am 1), .ref (am 2), .ref (am 3), .int (nI kn), .ref (am 4), .ref (am 5), .ref (am 6), .ref (am 7), .ref (am 8), .ref (am 9), .ref (am 10), .ref (am 11), .ref (am 12)])), (am 4, .inl (kd, 60, .inr (.inr (.inr (.inl P))))), (am 5, .inl (kd, 60, .inr (.inr (.inr (.inl V)))))] H := hP
  have hD : va_D (my_A [(am 0, .inr (7, [.int th, .int (nI n), .ref (am 1), .ref (am 2), .ref (am 3), .int (nI kn), .ref (am 4), .ref (am 5), .ref (am 6), .ref (am 7), .ref (am 8), .ref (am 9), .ref (am 10), .ref (am 11), .ref (am 12)])), (am 4, .inl (kd, 60, .inr (.inr (.inr (.inl P))))), (am 5, .inl (kd, 60, .inr (.inr (.inr (.inl V)))))]) [(am 0, .inr (7, [.int 0, .int (nI n), .ref (am 1), .ref (am 2), .ref (am 3), .int (nI kn), .ref (am 4), .ref (am 5), .ref (am 6), .ref (am 7), .ref (am 8), .ref (am 9), .ref (am 10), .ref (am 11), .ref (am 12)])), (am 4, .inl (kd, 60, .inr (.inr (.inr (.inl P))))), (am 5, .inl (kd, 60, .inr (.inr (.inr (.inl V)))))] := hD
  refine lv_iconst (v := (-1)) hx hb dX7_steepest_5 (by decide) ?_
  refine lv_istore_n (lv' := [(1, .int (-1)), (0, .ref (am 0))]) hx hb dX7_steepest_6 rfl hl (by decide) rfl (fun ls hl => ?_)
  refine lv_iconst (v := 0) hx hb dX7_steepest_7 (by decide) ?_
  refine my_topi (w := nI 0) (nI_0.symm) ?_
  refine lv_istore_n (lv' := [(2, .int (nI 0)), (1, .int (-1)), (0, .ref (am 0))]) hx hb dX7_steepest_8 rfl hl (by decide) rfl (fun ls hl => ?_)
  have loop_9 : ∀ (n9 : Nat) (k : Nat) (bx : Int32), kn - k < n9 → ∀ (hk : k + 1 ≤ kn) (hbx : (k = 0 ∧ bx = -1) ∨ (0 < k ∧ bx = nI (s_bst P V (k - 1)))) (H : Heap) (locs : List Loc) (hP : va_P D vwCl [(am 0, .inr (7, [.int 0, .int (nI n), .ref (am 1), .ref (am 2), .ref (am 3), .int (nI kn), .ref (am 4), .ref (am 5), .ref (am 6), .ref (am 7), .ref (am 8), .ref (am 9), .ref (am 10), .ref (am 11), .ref (am 12)])), (am 4, .inl (kd, 60, .inr (.inr (.inr (.inl P))))), (am 5, .inl (kd, 60, .inr (.inr (.inr (.inl V)))))] H) (hD : va_D (my_A [(am 0, .inr (7, [.int th, .int (nI n), .ref (am 1), .ref (am 2), .ref (am 3), .int (nI kn), .ref (am 4), .ref (am 5), .ref (am 6), .ref (am 7), .ref (am 8), .ref (am 9), .ref (am 10), .ref (am 11), .ref (am 12)])), (am 4, .inl (kd, 60, .inr (.inr (.inr (.inl P))))), (am 5, .inl (kd, 60, .inr (.inr (.inr (.inl V)))))]) [(am 0, .inr (7, [.int 0, .int (nI n), .ref (am 1), .ref (am 2), .ref (am 3), .int (nI kn), .ref (am 4), .ref (am 5), .ref (am 6), .ref (am 7), .ref (am 8), .ref (am 9), .ref (am 10), .ref (am 11), .ref (am 12)])), (am 4, .inl (kd, 60, .inr (.inr (.inr (.inl P))))), (am 5, .inl (kd, 60, .inr (.inr (.inr (.inl V)))))]) (hS : va_S (my_A [(am 0, .inr (7, [.int th, .int (nI n), .ref (am 1), .ref (am 2), .ref (am 3), .int (nI kn), .ref (am 4), .ref (am 5), .ref (am 6), .ref (am 7), .ref (am 8), .ref (am 9), .ref (am 10), .ref (am 11), .ref (am 12)])), (am 4, .inl (kd, 60, .inr (.inr (.inr (.inl P))))), (am 5, .inl (kd, 60, .inr (.inr (.inr (.inl V)))))]) s.heap H locs) (ls : Array Slot) (hl : lv_has ls 3 [(2, .int (nI k)), (1, .int bx), (0, .ref (am 0))]), W p l e ({ frames := 2, cells := 0, slots := 0, locals := 42 }) s m ([.ref (am 0)] : List Value).toArray below meth c H locs 0 0 (my_WQ below D ([.ref (am 0)] : List Value).toArray s [(am 0, .inr (7, [.int th, .int (nI n), .ref (am 1), .ref (am 2), .ref (am 3), .int (nI kn), .ref (am 4), .ref (am 5), .ref (am 6), .ref (am 7), .ref (am 8), .ref (am 9), .ref (am 10), .ref (am 11), .ref (am 12)])), (am 4, .inl (kd, 60, .inr (.inr (.inr (.inl P))))), (am 5, .inl (kd, 60, .inr (.inr (.inr (.inl V)))))] [(am 0, .inr (7, [.int 0, .int (nI n), .ref (am 1), .ref (am 2), .ref (am 3), .int (nI kn), .ref (am 4), .ref (am 5), .ref (am 6), .ref (am 7), .ref (am 8), .ref (am 9), .ref (am 10), .ref (am 11), .ref (am 12)])), (am 4, .inl (kd, 60, .inr (.inr (.inr (.inl P))))), (am 5, .inl (kd, 60, .inr (.inr (.inr (.inl V)))))] (some (.int (nI (s_bst P V (kn - 2)))))) (F0 m 9 ls []) := by
    intro n9
    induction n9 with
    | zero => intro k bx h9; exact absurd h9 (Nat.not_lt_zero _)
    | succ n9 ih_9 =>
      intro k bx h9 hk hbx H locs hP hD hS ls hl
      refine lv_iload_n hx hb dX7_steepest_9 rfl (lv_at hl 0 rfl) ?_
      refine lv_iconst (v := 1) hx hb dX7_steepest_10 (by decide) ?_
      refine my_iadd (w := nI (k + 1)) hx hb dX7_steepest_11 (nI_add k 1) ?_
      refine lv_aload_n hx hb dX7_steepest_12 rfl (lv_at hl 2 rfl) ?_
      refine va_get (D := D) (ci := 7) (v := .int (nI kn)) (C := RX7) (T := TX7) (N := 15) hx hb hts iw_X7_steepest_X7 hown hC.1 hP 0 rfl rfl 5 (by decide) (hts (.fieldLink RX7 56 "MonotoneSplineModel" "knots" "I") (List.mem_of_getElem? (l := wsX7_steepest) (i := 2) rfl)) (fun _ h9 => h9) rfl dX7_steepest_13 ?_
      refine lv_icmp_ge (tgt := 45) hx hb dX7_steepest_16 (by decide) (fun c_16 => ?_) (fun c_16 => ?_)
      · have c_16 : kn ≤ k + 1 := (nI_leI (a := kn) (b := k + 1) (by omega) (by omega)).mp c_16
        refine lv_iload_n hx hb dX7_steepest_45 rfl (lv_at hl 1 rfl) ?_
        exact my_iretW hx hb hr hlocks hP (rfl) hS (hbx.elim (fun h9 => absurd h9.1 (by omega)) (fun h9 => h9.2.trans (by rw [show k - 1 = kn - 2 by omega]))) dX7_steepest_46
      · have c_16 : ¬ kn ≤ k + 1 := fun h9 => c_16 ((nI_leI (a := kn) (b := k + 1) (by omega) (by omega)).mpr h9)
        refine lv_iload_n hx hb dX7_steepest_19 rfl (lv_at hl 1 rfl) ?_
        refine lv_if_lt (tgt := 37) hx hb dX7_steepest_20 (by decide) (fun c_20 => ?_) (fun c_20 => ?_)
        · skip
          have hk00 : k = 0 := (hbx.elim (fun h9 => h9.1) (fun h9 => absurd (h9.2 ▸ c_20) (nI_pos (by have := s_bst_le (P := P) (V := V) (m := k - 1); omega))))
          refine lv_iload_n hx hb dX7_steepest_37 rfl (lv_at hl 0 rfl) ?_
          refine lv_istore_n (lv' := [(1, .int (nI k)), (2, .int (nI k)), (0, .ref (am 0))]) hx hb dX7_steepest_38 rfl hl (by decide) rfl (fun ls hl => ?_)
          refine lv_iinc (v := nI (k + 1)) (k := 1) (lv' := [(2, .int (nI (k + 1))), (1, .int (nI k)), (0, .ref (am 0))]) hx hb dX7_steepest_39 hl rfl (nI_add k 1) (by decide) rfl (fun ls hl => ?_)
          refine lv_goto (tgt := 9) hx hb dX7_steepest_42 (by decide) ?_
          exact ih_9 (k + 1) (nI k) (by omega) (by omega) (by first | exact Or.inr ⟨Nat.succ_pos k, by rw [hk00]; rfl⟩ | exact Or.inr ⟨Nat.succ_pos k, hbk.2.trans (congrArg nI (s_bst_f hbk.1 rfl c_34))⟩ | exact Or.inr ⟨Nat.succ_pos k, congrArg nI (s_bst_t hbk.1 rfl c_34)⟩) _ _ hP hD hS _ (lv_sub hl [0, 1, 2] rfl)
        · skip
          have hbk : 0 < k ∧ bx = nI (s_bst P V (k - 1)) := hbx.resolve_left (fun h9 => c_20 (by rw [h9.2]; decide))
          have hble := s_bst_le (P := P) (V := V) (m := k - 1)
          refine lv_aload_n hx hb dX7_steepest_23 rfl (lv_at hl 2 rfl) ?_
          refine lv_iload_n hx hb dX7_steepest_24 rfl (lv_at hl 0 rfl) ?_
          refine my_goR (v := (some (.double (s_r P V k)))) (my_runV (bytes := cX7_rise) (maxL := 2) (ret := (some .double)) (n := 1) (As := [.int (nI k)]) (rest := []) S hl.1 (mm_rise l D kd ki kz kl z am 0 n kn P V k (by omega) (hJ)) rfl ⟨rfl, rfl⟩ gX7_steepest_X7_rise (by decide +kernel) rfl ⟨Nat.le_of_ble_eq_true rfl, Nat.le_of_ble_eq_true rfl⟩ (my_preR (my_C_S hC hS hz) (my_P_sub (wc := [(am 0, .inr (7, [.int 0, .int (nI n), .ref (am 1), .ref (am 2), .ref (am 3), .int (nI kn), .ref (am 4), .ref (am 5), .ref (am 6), .ref (am 7), .ref (am 8), .ref (am 9), .ref (am 10), .ref (am 11), .ref (am 12)])), (am 4, .inl (kd, 60, .inr (.inr (.inr (.inl P))))), (am 5, .inl (kd, 60, .inr (.inr (.inr (.inl V)))))]) hP [0, 1, 2] rfl)) (va_recv hC.1 hP (ci := 7) (q0 := 0) rfl rfl) rfl rfl dX7_steepest_25) ?_
          refine W.eq (g2 := F0 m 28 ls [.double (s_r P V k)]) rfl ?_
          refine lv_aload_n hx hb dX7_steepest_28 rfl (lv_at hl 2 rfl) ?_
          refine lv_iload_n hx hb dX7_steepest_29 rfl (lv_at hl 1 rfl) ?_
          refine my_topi (w := nI (s_bst P V (k - 1))) (hbk.2) ?_
          refine my_goR (v := (some (.double (s_r P V (s_bst P V (k - 1)))))) (my_runV (bytes := cX7_rise) (maxL := 2) (ret := (some .double)) (n := 1) (As := [.int (nI (s_bst P V (k - 1)))]) (rest := [.double (s_r P V k)]) S hl.1 (mm_rise l D kd ki kz kl z am 0 n kn P V (s_bst P V (k - 1)) (by omega) (hJ)) rfl ⟨rfl, rfl⟩ gX7_steepest_X7_rise (by decide +kernel) rfl ⟨Nat.le_of_ble_eq_true rfl, Nat.le_of_ble_eq_true rfl⟩ (my_preR (my_C_S hC hS hz) (my_P_sub (wc := [(am 0, .inr (7, [.int 0, .int (nI n), .ref (am 1), .ref (am 2), .ref (am 3), .int (nI kn), .ref (am 4), .ref (am 5), .ref (am 6), .ref (am 7), .ref (am 8), .ref (am 9), .ref (am 10), .ref (am 11), .ref (am 12)])), (am 4, .inl (kd, 60, .inr (.inr (.inr (.inl P))))), (am 5, .inl (kd, 60, .inr (.inr (.inr (.inl V)))))]) hP [0, 1, 2] rfl)) (va_recv hC.1 hP (ci := 7) (q0 := 0) rfl rfl) rfl rfl dX7_steepest_30) ?_
          refine W.eq (g2 := F0 m 33 ls [.double (s_r P V (s_bst P V (k - 1))), .double (s_r P V k)]) rfl ?_
          refine lv_dcmp hx hb dX7_steepest_33 ?_
          refine lv_if_le (tgt := 39) hx hb dX7_steepest_34 (by decide) (fun c_34 => ?_) (fun c_34 => ?_)
          · have c_34 := cv_l_le_t c_34
            refine lv_iinc (v := nI (k + 1)) (k := 0) (lv' := [(2, .int (nI (k + 1))), (1, .int bx), (0, .ref (am 0))]) hx hb dX7_steepest_39 hl rfl (nI_add k 1) (by decide) rfl (fun ls hl => ?_)
            refine lv_goto (tgt := 9) hx hb dX7_steepest_42 (by decide) ?_
            exact ih_9 (k + 1) bx (by omega) (by omega) (by first | exact Or.inr ⟨Nat.succ_pos k, by rw [hk00]; rfl⟩ | exact Or.inr ⟨Nat.succ_pos k, hbk.2.trans (congrArg nI (s_bst_f hbk.1 rfl c_34))⟩ | exact Or.inr ⟨Nat.succ_pos k, congrArg nI (s_bst_t hbk.1 rfl c_34)⟩) _ _ hP hD hS _ (lv_sub hl [0, 1, 2] rfl)
          · have c_34 := cv_l_le_f c_34
            refine lv_iload_n hx hb dX7_steepest_37 rfl (lv_at hl 0 rfl) ?_
            refine lv_istore_n (lv' := [(1, .int (nI k)), (2, .int (nI k)), (0, .ref (am 0))]) hx hb dX7_steepest_38 rfl hl (by decide) rfl (fun ls hl => ?_)
            refine lv_iinc (v := nI (k + 1)) (k := 1) (lv' := [(2, .int (nI (k + 1))), (1, .int (nI k)), (0, .ref (am 0))]) hx hb dX7_steepest_39 hl rfl (nI_add k 1) (by decide) rfl (fun ls hl => ?_)
            refine lv_goto (tgt := 9) hx hb dX7_steepest_42 (by decide) ?_
            exact ih_9 (k + 1) (nI k) (by omega) (by omega) (by first | exact Or.inr ⟨Nat.succ_pos k, by rw [hk00]; rfl⟩ | exact Or.inr ⟨Nat.succ_pos k, hbk.2.trans (congrArg nI (s_bst_f hbk.1 rfl c_34))⟩ | exact Or.inr ⟨Nat.succ_pos k, congrArg nI (s_bst_t hbk.1 rfl c_34)⟩) _ _ hP hD hS _ (lv_sub hl [0, 1, 2] rfl)
  exact loop_9 _ 0 (-1) (Nat.lt_succ_self _) (by omega) (Or.inl ⟨rfl, rfl⟩) _ _ hP hD hS _ (lv_sub hl [0, 1, 2] rfl)

set_option maxHeartbeats 4000000 in
set_option maxRecDepth 100000 in
theorem mm_steepest0 (l : Launch) (D : va_G) (kd ki kz kl : ClassId) (z : Nat) (am : Nat → Nat) (th : Int32) (n : Nat) : my_WR l D kd ki kz kl z yX7_steepest wsX7_steepest ({ frames := 0, cells := 0, slots := 0, locals := 0 }) [.ref (am 0)] [(am 0, .inr (7, [.int th, .int (nI n), .ref (am 1), .ref (am 2), .ref (am 3), .int (nI 0), .ref (am 4), .ref (am 5), .ref (am 6), .ref (am 7), .ref (am 8), .ref (am 9), .ref (am 10), .ref (am 11), .ref (am 12)]))] [(am 0, .inr (7, [.int 0, .int (nI n), .ref (am 1), .ref (am 2), .ref (am 3), .int (nI 0), .ref (am 4), .ref (am 5), .ref (am 6), .ref (am 7), .ref (am 8), .ref (am 9), .ref (am 10), .ref (am 11), .ref (am 12)]))] (some (.int (-1))) := by
  refine my_WR_of (cc := cX7_steepest) (maxL := 3) (ret := (some .int)) (by decide) rfl (Nat.le_of_ble_eq_true rfl) ?_
  intro p e s m below meth c S hr hlocks hC hP hD hz hS ls hl
  have S : CallFix p m c cX7_steepest 3 s ([.ref (am 0)] : List Value).toArray wsX7_steepest RX7 := S
  obtain ⟨hx, hb, hml, hown, hts⟩ := id S
  have hl : lv_has ls 3 [(0, .ref (am 0))] := hl
  suffices K0 : ∀ (H : Heap) (locs : List Loc), va_P D vwCl [(am 0, .inr (7, [.int th, .int (nI n), .ref (am 1), .ref (am 2), .ref (am 3), .int (nI 0), .ref (am 4), .ref (am 5), .ref (am 6), .ref (am 7), .ref (am 8), .ref (am 9), .ref (am 10), .ref (am 11), .ref (am 12)]))] H → va_D (my_A [(am 0, .inr (7, [.int th, .int (nI n), .ref (am 1), .ref (am 2), .ref (am 3), .int (nI 0), .ref (am 4), .ref (am 5), .ref (am 6), .ref (am 7), .ref (am 8), .ref (am 9), .ref (am 10), .ref (am 11), .ref (am 12)]))]) [(am 0, .inr (7, [.int th, .int (nI n), .ref (am 1), .ref (am 2), .ref (am 3), .int (nI 0), .ref (am 4), .ref (am 5), .ref (am 6), .ref (am 7), .ref (am 8), .ref (am 9), .ref (am 10), .ref (am 11), .ref (am 12)]))] → va_S (my_A [(am 0, .inr (7, [.int th, .int (nI n), .ref (am 1), .ref (am 2), .ref (am 3), .int (nI 0), .ref (am 4), .ref (am 5), .ref (am 6), .ref (am 7), .ref (am 8), .ref (am 9), .ref (am 10), .ref (am 11), .ref (am 12)]))]) s.heap H locs → W p l e ({ frames := 0, cells := 0, slots := 0, locals := 0 }) s m ([.ref (am 0)] : List Value).toArray below meth c H locs 0 0 (my_WQ below D ([.ref (am 0)] : List Value).toArray s [(am 0, .inr (7, [.int th, .int (nI n), .ref (am 1), .ref (am 2), .ref (am 3), .int (nI 0), .ref (am 4), .ref (am 5), .ref (am 6), .ref (am 7), .ref (am 8), .ref (am 9), .ref (am 10), .ref (am 11), .ref (am 12)]))] [(am 0, .inr (7, [.int 0, .int (nI n), .ref (am 1), .ref (am 2), .ref (am 3), .int (nI 0), .ref (am 4), .ref (am 5), .ref (am 6), .ref (am 7), .ref (am 8), .ref (am 9), .ref (am 10), .ref (am 11), .ref (am 12)]))] (some (.int (-1)))) (F0 m 0 ls []) from K0 _ _ hP hD hS
  intro H locs hP hD hS
  refine lv_aload_n hx hb dX7_steepest_0 rfl (lv_at hl 0 rfl) ?_
  refine lv_iconst (v := 0) hx hb dX7_steepest_1 (by decide) ?_
  refine va_put (D := D) (ci := 7) (v := .int 0) (ty := .int) (C := RX7) (T := TX7) (N := 15) hx hb hts iw_X7_steepest_X7 tyX7 tyX7_ok nmX7 hown hC.1 hP hD hS 0 rfl rfl 0 (by decide) (hts (.fieldLink RX7 48 "MonotoneSplineModel" "thrown" "I") (List.mem_of_getElem? (l := wsX7_steepest) (i := 1) rfl)) (fun _ h9 => h9) rfl (by decide +kernel) rfl rfl (Nat.le_of_ble_eq_true rfl) dX7_steepest_2 (fun H locs hP hD hS => ?_)
  have hP : va_P D vwCl [(am 0, .inr (7, [.int 0, .int (nI n), .ref (am 1), .ref (am 2), .ref (am 3), .int (nI 0), .ref (am 4), .ref (am 5), .ref (am 6), .ref (am 7), .ref (am 8), .ref (am 9), .ref (am 10), .ref (am 11), .ref (am 12)]))] H := hP
  have hD : va_D (my_A [(am 0, .inr (7, [.int th, .int (nI n), .ref (am 1), .ref (am 2), .ref (am 3), .int (nI 0), .ref (am 4), .ref (am 5), .ref (am 6), .ref (am 7), .ref (am 8), .ref (am 9), .ref (am 10), .ref (am 11), .ref (am 12)]))]) [(am 0, .inr (7, [.int 0, .int (nI n), .ref (am 1), .ref (am 2), .ref (am 3), .int (nI 0), .ref (am 4), .ref (am 5), .ref (am 6), .ref (am 7), .ref (am 8), .ref (am 9), .ref (am 10), .ref (am 11), .ref (am 12)]))] := hD
  refine lv_iconst (v := (-1)) hx hb dX7_steepest_5 (by decide) ?_
  refine lv_istore_n (lv' := [(1, .int (-1)), (0, .ref (am 0))]) hx hb dX7_steepest_6 rfl hl (by decide) rfl (fun ls hl => ?_)
  refine lv_iconst (v := 0) hx hb dX7_steepest_7 (by decide) ?_
  refine lv_istore_n (lv' := [(2, .int 0), (1, .int (-1)), (0, .ref (am 0))]) hx hb dX7_steepest_8 rfl hl (by decide) rfl (fun ls hl => ?_)
  refine lv_iload_n hx hb dX7_steepest_9 rfl (lv_at hl 0 rfl) ?_
  refine lv_iconst (v := 1) hx hb dX7_steepest_10 (by decide) ?_
  refine my_iadd (w := 1) hx hb dX7_steepest_11 (by decide) ?_
  refine lv_aload_n hx hb dX7_steepest_12 rfl (lv_at hl 2 rfl) ?_
  refine va_get (D := D) (ci := 7) (v := .int (nI 0)) (C := RX7) (T := TX7) (N := 15) hx hb hts iw_X7_steepest_X7 hown hC.1 hP 0 rfl rfl 5 (by decide) (hts (.fieldLink RX7 56 "MonotoneSplineModel" "knots" "I") (List.mem_of_getElem? (l := wsX7_steepest) (i := 2) rfl)) (fun _ h9 => h9) rfl dX7_steepest_13 ?_
  refine lv_icmp_ge (tgt := 45) hx hb dX7_steepest_16 (by decide) (fun c_16 => ?_) (fun c_16 => ?_)
  · have c_16 : 0 ≤ 1 := (nI_leI (a := 0) (b := 1) (by omega) (by omega)).mp c_16
    refine lv_iload_n hx hb dX7_steepest_45 rfl (lv_at hl 1 rfl) ?_
    exact my_iretW hx hb hr hlocks hP (rfl) hS (rfl) dX7_steepest_46
  · have c_16 : ¬ 0 ≤ 1 := fun h9 => c_16 ((nI_leI (a := 0) (b := 1) (by omega) (by omega)).mpr h9)
    exact absurd c_16 (by omega)

theorem iw_X7_flatCount_X7 : ∀ w ∈ wsX70, w ∈ wsX7_flatCount := fun w h => List.mem_cons_of_mem _ (List.mem_append_right _ (h))
set_option maxHeartbeats 4000000 in
set_option maxRecDepth 100000 in
theorem mm_flatCount (l : Launch) (D : va_G) (kd ki kz kl : ClassId) (z : Nat) (am : Nat → Nat) (th : Int32) (n : Nat) (kn : Nat) (P : Nat → UInt64) (V : Nat → UInt64) (hJ : KJ kn P V) : my_WR l D kd ki kz kl z yX7_flatCount wsX7_flatCount ({ frames := 2, cells := 0, slots := 0, locals := 42 }) [.ref (am 0)] [(am 0, .inr (7, [.int th, .int (nI n), .ref (am 1), .ref (am 2), .ref (am 3), .int (nI kn), .ref (am 4), .ref (am 5), .ref (am 6), .ref (am 7), .ref (am 8), .ref (am 9), .ref (am 10), .ref (am 11), .ref (am 12)])), (am 4, .inl (kd, 60, .inr (.inr (.inr (.inl P))))), (am 5, .inl (kd, 60, .inr (.inr (.inr (.inl V)))))] [(am 0, .inr (7, [.int 0, .int (nI n), .ref (am 1), .ref (am 2), .ref (am 3), .int (nI kn), .ref (am 4), .ref (am 5), .ref (am 6), .ref (am 7), .ref (am 8), .ref (am 9), .ref (am 10), .ref (am 11), .ref (am 12)])), (am 4, .inl (kd, 60, .inr (.inr (.inr (.inl P))))), (am 5, .inl (kd, 60, .inr (.inr (.inr (.inl V)))))] (some (.int (nI (s_flat P V (kn - 1))))) := by
  refine my_WR_of (cc := cX7_flatCount) (maxL := 3) (ret := (some .int)) (by decide) rfl (Nat.le_of_ble_eq_true rfl) ?_
  intro p e s m below meth c S hr hlocks hC hP hD hz hS ls hl
  have S : CallFix p m c cX7_flatCount 3 s ([.ref (am 0)] : List Value).toArray wsX7_flatCount RX7 := S
  obtain ⟨hx, hb, hml, hown, hts⟩ := id S
  have hl : lv_has ls 3 [(0, .ref (am 0))] := hl
  suffices K0 : ∀ (H : Heap) (locs : List Loc), va_P D vwCl [(am 0, .inr (7, [.int th, .int (nI n), .ref (am 1), .ref (am 2), .ref (am 3), .int (nI kn), .ref (am 4), .ref (am 5), .ref (am 6), .ref (am 7), .ref (am 8), .ref (am 9), .ref (am 10), .ref (am 11), .ref (am 12)])), (am 4, .inl (kd, 60, .inr (.inr (.inr (.inl P))))), (am 5, .inl (kd, 60, .inr (.inr (.inr (.inl V)))))] H → va_D (my_A [(am 0, .inr (7, [.int th, .int (nI n), .ref (am 1), .ref (am 2), .ref (am 3), .int (nI kn), .ref (am 4), .ref (am 5), .ref (am 6), .ref (am 7), .ref (am 8), .ref (am 9), .ref (am 10), .ref (am 11), .ref (am 12)])), (am 4, .inl (kd, 60, .inr (.inr (.inr (.inl P))))), (am 5, .inl (kd, 60, .inr (.inr (.inr (.inl V)))))]) [(am 0, .inr (7, [.int th, .int (nI n), .ref (am 1), .ref (am 2), .ref (am 3), .int (nI kn), .ref (am 4), .ref (am 5), .ref (am 6), .ref (am 7), .ref (am 8), .ref (am 9), .ref (am 10), .ref (am 11), .ref (am 12)])), (am 4, .inl (kd, 60, .inr (.inr (.inr (.inl P))))), (am 5, .inl (kd, 60, .inr (.inr (.inr (.inl V)))))] → va_S (my_A [(am 0, .inr (7, [.int th, .int (nI n), .ref (am 1), .ref (am 2), .ref (am 3), .int (nI kn), .ref (am 4), .ref (am 5), .ref (am 6), .ref (am 7), .ref (am 8), .ref (am 9), .ref (am 10), .ref (am 11), .ref (am 12)])), (am 4, .inl (kd, 60, .inr (.inr (.inr (.inl P))))), (am 5, .inl (kd, 60, .inr (.inr (.inr (.inl V)))))]) s.heap H locs → W p l e ({ frames := 2, cells := 0, slots := 0, locals := 42 }) s m ([.ref (am 0)] : List Value).toArray below meth c H locs 0 0 (my_WQ below D ([.ref (am 0)] : List Value).toArray s [(am 0, .inr (7, [.int th, .int (nI n), .ref (am 1), .ref (am 2), .ref (am 3), .int (nI kn), .ref (am 4), .ref (am 5), .ref (am 6), .ref (am 7), .ref (am 8), .ref (am 9), .ref (am 10), .ref (am 11), .ref (am 12)])), (am 4, .inl (kd, 60, .inr (.inr (.inr (.inl P))))), (am 5, .inl (kd, 60, .inr (.inr (.inr (.inl V)))))] [(am 0, .inr (7, [.int 0, .int (nI n), .ref (am 1), .ref (am 2), .ref (am 3), .int (nI kn), .ref (am 4), .ref (am 5), .ref (am 6), .ref (am 7), .ref (am 8), .ref (am 9), .ref (am 10), .ref (am 11), .ref (am 12)])), (am 4, .inl (kd, 60, .inr (.inr (.inr (.inl P))))), (am 5, .inl (kd, 60, .inr (.inr (.inr (.inl V)))))] (some (.int (nI (s_flat P V (kn - 1)))))) (F0 m 0 ls []) from K0 _ _ hP hD hS
  intro H locs hP hD hS
  have hkn := hJ.2.1
  have hkn2 := hJ.1
  refine lv_aload_n hx hb dX7_flatCount_0 rfl (lv_at hl 0 rfl) ?_
  refine lv_iconst (v := 0) hx hb dX7_flatCount_1 (by decide) ?_
  refine va_put (D := D) (ci := 7) (v := .int 0) (ty := .int) (C := RX7) (T := TX7) (N := 15) hx hb hts iw_X7_flatCount_X7 tyX7 tyX7_ok nmX7 hown hC.1 hP hD hS 0 rfl rfl 0 (by decide) (hts (.fieldLink RX7 48 "MonotoneSplineModel" "thrown" "I") (List.mem_of_getElem? (l := wsX7_flatCount) (i := 1) rfl)) (fun _ h9 => h9) rfl (by decide +kernel) rfl rfl (Nat.le_of_ble_eq_true rfl) dX7_flatCount_2 (fun H locs hP hD hS => ?_)
  have hP : va_P D vwCl [(am 0, .inr (7, [.int 0, .int (nI n), .ref (am 1), .ref (am 2), .ref (am 3), .int (nI kn), .ref (am 4), .ref (am 5), .ref (am 6), .ref (am 7), .ref (am 8), .ref (am 9), .ref (am 10), .ref (am 11), .ref (am 12)])), (am 4, .inl (kd, 60, .inr (.inr (.inr (.inl P))))), (am 5, .inl (kd, 60, .inr (.inr (.inr (.inl V)))))] H := hP
  have hD : va_D (my_A [(am 0, .inr (7, [.int th, .int (nI n), .ref (am 1), .ref (am 2), .ref (am 3), .int (nI kn), .ref (am 4), .ref (am 5), .ref (am 6), .ref (am 7), .ref (am 8), .ref (am 9), .ref (am 10), .ref (am 11), .ref (am 12)])), (am 4, .inl (kd, 60, .inr (.inr (.inr (.inl P))))), (am 5, .inl (kd, 60, .inr (.inr (.inr (.inl V)))))]) [(am 0, .inr (7, [.int 0, .int (nI n), .ref (am 1), .ref (am 2), .ref (am 3), .int (nI kn), .ref (am 4), .ref (am 5), .ref (am 6), .ref (am 7), .ref (am 8), .ref (am 9), .ref (am 10), .ref (am 11), .ref (am 12)])), (am 4, .inl (kd, 60, .inr (.inr (.inr (.inl P))))), (am 5, .inl (kd, 60, .inr (.inr (.inr (.inl V)))))] := hD
  refine lv_iconst (v := 0) hx hb dX7_flatCount_5 (by decide) ?_
  refine my_topi (w := nI 0) (nI_0.symm) ?_
  refine lv_istore_n (lv' := [(1, .int (nI 0)), (0, .ref (am 0))]) hx hb dX7_flatCount_6 rfl hl (by decide) rfl (fun ls hl => ?_)
  refine lv_iconst (v := 0) hx hb dX7_flatCount_7 (by decide) ?_
  refine my_topi (w := nI 0) (nI_0.symm) ?_
  refine lv_istore_n (lv' := [(2, .int (nI 0)), (1, .int (nI 0)), (0, .ref (am 0))]) hx hb dX7_flatCount_8 rfl hl (by decide) rfl (fun ls hl => ?_)
  have loop_9 : ∀ (n9 : Nat) (k : Nat) (f9 : Nat), kn - k < n9 → ∀ (hk : k + 1 ≤ kn) (hf9 : f9 = s_flat P V k) (H : Heap) (locs : List Loc) (hP : va_P D vwCl [(am 0, .inr (7, [.int 0, .int (nI n), .ref (am 1), .ref (am 2), .ref (am 3), .int (nI kn), .ref (am 4), .ref (am 5), .ref (am 6), .ref (am 7), .ref (am 8), .ref (am 9), .ref (am 10), .ref (am 11), .ref (am 12)])), (am 4, .inl (kd, 60, .inr (.inr (.inr (.inl P))))), (am 5, .inl (kd, 60, .inr (.inr (.inr (.inl V)))))] H) (hD : va_D (my_A [(am 0, .inr (7, [.int th, .int (nI n), .ref (am 1), .ref (am 2), .ref (am 3), .int (nI kn), .ref (am 4), .ref (am 5), .ref (am 6), .ref (am 7), .ref (am 8), .ref (am 9), .ref (am 10), .ref (am 11), .ref (am 12)])), (am 4, .inl (kd, 60, .inr (.inr (.inr (.inl P))))), (am 5, .inl (kd, 60, .inr (.inr (.inr (.inl V)))))]) [(am 0, .inr (7, [.int 0, .int (nI n), .ref (am 1), .ref (am 2), .ref (am 3), .int (nI kn), .ref (am 4), .ref (am 5), .ref (am 6), .ref (am 7), .ref (am 8), .ref (am 9), .ref (am 10), .ref (am 11), .ref (am 12)])), (am 4, .inl (kd, 60, .inr (.inr (.inr (.inl P))))), (am 5, .inl (kd, 60, .inr (.inr (.inr (.inl V)))))]) (hS : va_S (my_A [(am 0, .inr (7, [.int th, .int (nI n), .ref (am 1), .ref (am 2), .ref (am 3), .int (nI kn), .ref (am 4), .ref (am 5), .ref (am 6), .ref (am 7), .ref (am 8), .ref (am 9), .ref (am 10), .ref (am 11), .ref (am 12)])), (am 4, .inl (kd, 60, .inr (.inr (.inr (.inl P))))), (am 5, .inl (kd, 60, .inr (.inr (.inr (.inl V)))))]) s.heap H locs) (ls : Array Slot) (hl : lv_has ls 3 [(2, .int (nI k)), (1, .int (nI f9)), (0, .ref (am 0))]), W p l e ({ frames := 2, cells := 0, slots := 0, locals := 42 }) s m ([.ref (am 0)] : List Value).toArray below meth c H locs 0 0 (my_WQ below D ([.ref (am 0)] : List Value).toArray s [(am 0, .inr (7, [.int th, .int (nI n), .ref (am 1), .ref (am 2), .ref (am 3), .int (nI kn), .ref (am 4), .ref (am 5), .ref (am 6), .ref (am 7), .ref (am 8), .ref (am 9), .ref (am 10), .ref (am 11), .ref (am 12)])), (am 4, .inl (kd, 60, .inr (.inr (.inr (.inl P))))), (am 5, .inl (kd, 60, .inr (.inr (.inr (.inl V)))))] [(am 0, .inr (7, [.int 0, .int (nI n), .ref (am 1), .ref (am 2), .ref (am 3), .int (nI kn), .ref (am 4), .ref (am 5), .ref (am 6), .ref (am 7), .ref (am 8), .ref (am 9), .ref (am 10), .ref (am 11), .ref (am 12)])), (am 4, .inl (kd, 60, .inr (.inr (.inr (.inl P))))), (am 5, .inl (kd, 60, .inr (.inr (.inr (.inl V)))))] (some (.int (nI (s_flat P V (kn - 1)))))) (F0 m 9 ls []) := by
    intro n9
    induction n9 with
    | zero => intro k f9 h9; exact absurd h9 (Nat.not_lt_zero _)
    | succ n9 ih_9 =>
      intro k f9 h9 hk hf9 H locs hP hD hS ls hl
      refine lv_iload_n hx hb dX7_flatCount_9 rfl (lv_at hl 0 rfl) ?_
      refine lv_iconst (v := 1) hx hb dX7_flatCount_10 (by decide) ?_
      refine my_iadd (w := nI (k + 1)) hx hb dX7_flatCount_11 (nI_add k 1) ?_
      refine lv_aload_n hx hb dX7_flatCount_12 rfl (lv_at hl 2 rfl) ?_
      refine va_get (D := D) (ci := 7) (v := .int (nI kn)) (C := RX7) (T := TX7) (N := 15) hx hb hts iw_X7_flatCount_X7 hown hC.1 hP 0 rfl rfl 5 (by decide) (hts (.fieldLink RX7 56 "MonotoneSplineModel" "knots" "I") (List.mem_of_getElem? (l := wsX7_flatCount) (i := 2) rfl)) (fun _ h9 => h9) rfl dX7_flatCount_13 ?_
      refine lv_icmp_ge (tgt := 43) hx hb dX7_flatCount_16 (by decide) (fun c_16 => ?_) (fun c_16 => ?_)
      · have c_16 : kn ≤ k + 1 := (nI_leI (a := kn) (b := k + 1) (by omega) (by omega)).mp c_16
        refine lv_iload_n hx hb dX7_flatCount_43 rfl (lv_at hl 1 rfl) ?_
        exact my_iretW hx hb hr hlocks hP (rfl) hS (by rw [hf9, show k = kn - 1 by omega]) dX7_flatCount_44
      · have c_16 : ¬ kn ≤ k + 1 := fun h9 => c_16 ((nI_leI (a := kn) (b := k + 1) (by omega) (by omega)).mpr h9)
        refine lv_iload_n hx hb dX7_flatCount_19 rfl (lv_at hl 1 rfl) ?_
        refine lv_aload_n hx hb dX7_flatCount_20 rfl (lv_at hl 2 rfl) ?_
        refine lv_iload_n hx hb dX7_flatCount_21 rfl (lv_at hl 0 rfl) ?_
        refine my_goR (v := (some (.double (s_r P V k)))) (my_runV (bytes := cX7_rise) (maxL := 2) (ret := (some .double)) (n := 1) (As := [.int (nI k)]) (rest := [.int (nI f9)]) S hl.1 (mm_rise l D kd ki kz kl z am 0 n kn P V k (by omega) (hJ)) rfl ⟨rfl, rfl⟩ gX7_flatCount_X7_rise (by decide +kernel) rfl ⟨Nat.le_of_ble_eq_true rfl, Nat.le_of_ble_eq_true rfl⟩ (my_preR (my_C_S hC hS hz) (my_P_sub (wc := [(am 0, .inr (7, [.int 0, .int (nI n), .ref (am 1), .ref (am 2), .ref (am 3), .int (nI kn), .ref (am 4), .ref (am 5), .ref (am 6), .ref (am 7), .ref (am 8), .ref (am 9), .ref (am 10), .ref (am 11), .ref (am 12)])), (am 4, .inl (kd, 60, .inr (.inr (.inr (.inl P))))), (am 5, .inl (kd, 60, .inr (.inr (.inr (.inl V)))))]) hP [0, 1, 2] rfl)) (va_recv hC.1 hP (ci := 7) (q0 := 0) rfl rfl) rfl rfl dX7_flatCount_22) ?_
        refine W.eq (g2 := F0 m 25 ls [.double (s_r P V k), .int (nI f9)]) rfl ?_
        refine lv_dconst0 hx hb dX7_flatCount_25 ?_
        refine my_topd (w := 0) (by decide) ?_
        refine lv_dcmp hx hb dX7_flatCount_26 ?_
        refine lv_if_ne (tgt := 34) hx hb dX7_flatCount_27 (by decide) (fun c_27 => ?_) (fun c_27 => ?_)
        · have c_27 := cv_l_eq_f c_27
          refine lv_iconst (v := 0) hx hb dX7_flatCount_34 (by decide) ?_
          refine my_iadd (w := nI (f9 + 0)) hx hb dX7_flatCount_35 (nI_add f9 0) ?_
          refine lv_istore_n (lv' := [(1, .int (nI (f9 + 0))), (2, .int (nI k)), (0, .ref (am 0))]) hx hb dX7_flatCount_36 rfl hl (by decide) rfl (fun ls hl => ?_)
          refine lv_iinc (v := nI (k + 1)) (k := 1) (lv' := [(2, .int (nI (k + 1))), (1, .int (nI (f9 + 0))), (0, .ref (am 0))]) hx hb dX7_flatCount_37 hl rfl (nI_add k 1) (by decide) rfl (fun ls hl => ?_)
          refine lv_goto (tgt := 9) hx hb dX7_flatCount_40 (by decide) ?_
          exact ih_9 (k + 1) (f9 + 0) (by omega) (by omega) (by rw [hf9]; first | exact (if_pos c_27).symm | exact (if_neg c_27).symm) _ _ hP hD hS _ (lv_sub hl [0, 1, 2] rfl)
        · have c_27 := cv_l_eq_t c_27
          refine lv_iconst (v := 1) hx hb dX7_flatCount_30 (by decide) ?_
          refine lv_goto (tgt := 35) hx hb dX7_flatCount_31 (by decide) ?_
          refine my_iadd (w := nI (f9 + 1)) hx hb dX7_flatCount_35 (nI_add f9 1) ?_
          refine lv_istore_n (lv' := [(1, .int (nI (f9 + 1))), (2, .int (nI k)), (0, .ref (am 0))]) hx hb dX7_flatCount_36 rfl hl (by decide) rfl (fun ls hl => ?_)
          refine lv_iinc (v := nI (k + 1)) (k := 1) (lv' := [(2, .int (nI (k + 1))), (1, .int (nI (f9 + 1))), (0, .ref (am 0))]) hx hb dX7_flatCount_37 hl rfl (nI_add k 1) (by decide) rfl (fun ls hl => ?_)
          refine lv_goto (tgt := 9) hx hb dX7_flatCount_40 (by decide) ?_
          exact ih_9 (k + 1) (f9 + 1) (by omega) (by omega) (by rw [hf9]; first | exact (if_pos c_27).symm | exact (if_neg c_27).symm) _ _ hP hD hS _ (lv_sub hl [0, 1, 2] rfl)
  exact loop_9 _ 0 0 (Nat.lt_succ_self _) (by omega) (rfl) _ _ hP hD hS _ (lv_sub hl [0, 1, 2] rfl)

set_option maxHeartbeats 4000000 in
set_option maxRecDepth 100000 in
theorem mm_flatCount0 (l : Launch) (D : va_G) (kd ki kz kl : ClassId) (z : Nat) (am : Nat → Nat) (th : Int32) (n : Nat) : my_WR l D kd ki kz kl z yX7_flatCount wsX7_flatCount ({ frames := 0, cells := 0, slots := 0, locals := 0 }) [.ref (am 0)] [(am 0, .inr (7, [.int th, .int (nI n), .ref (am 1), .ref (am 2), .ref (am 3), .int (nI 0), .ref (am 4), .ref (am 5), .ref (am 6), .ref (am 7), .ref (am 8), .ref (am 9), .ref (am 10), .ref (am 11), .ref (am 12)]))] [(am 0, .inr (7, [.int 0, .int (nI n), .ref (am 1), .ref (am 2), .ref (am 3), .int (nI 0), .ref (am 4), .ref (am 5), .ref (am 6), .ref (am 7), .ref (am 8), .ref (am 9), .ref (am 10), .ref (am 11), .ref (am 12)]))] (some (.int 0)) := by
  refine my_WR_of (cc := cX7_flatCount) (maxL := 3) (ret := (some .int)) (by decide) rfl (Nat.le_of_ble_eq_true rfl) ?_
  intro p e s m below meth c S hr hlocks hC hP hD hz hS ls hl
  have S : CallFix p m c cX7_flatCount 3 s ([.ref (am 0)] : List Value).toArray wsX7_flatCount RX7 := S
  obtain ⟨hx, hb, hml, hown, hts⟩ := id S
  have hl : lv_has ls 3 [(0, .ref (am 0))] := hl
  suffices K0 : ∀ (H : Heap) (locs : List Loc), va_P D vwCl [(am 0, .inr (7, [.int th, .int (nI n), .ref (am 1), .ref (am 2), .ref (am 3), .int (nI 0), .ref (am 4), .ref (am 5), .ref (am 6), .ref (am 7), .ref (am 8), .ref (am 9), .ref (am 10), .ref (am 11), .ref (am 12)]))] H → va_D (my_A [(am 0, .inr (7, [.int th, .int (nI n), .ref (am 1), .ref (am 2), .ref (am 3), .int (nI 0), .ref (am 4), .ref (am 5), .ref (am 6), .ref (am 7), .ref (am 8), .ref (am 9), .ref (am 10), .ref (am 11), .ref (am 12)]))]) [(am 0, .inr (7, [.int th, .int (nI n), .ref (am 1), .ref (am 2), .ref (am 3), .int (nI 0), .ref (am 4), .ref (am 5), .ref (am 6), .ref (am 7), .ref (am 8), .ref (am 9), .ref (am 10), .ref (am 11), .ref (am 12)]))] → va_S (my_A [(am 0, .inr (7, [.int th, .int (nI n), .ref (am 1), .ref (am 2), .ref (am 3), .int (nI 0), .ref (am 4), .ref (am 5), .ref (am 6), .ref (am 7), .ref (am 8), .ref (am 9), .ref (am 10), .ref (am 11), .ref (am 12)]))]) s.heap H locs → W p l e ({ frames := 0, cells := 0, slots := 0, locals := 0 }) s m ([.ref (am 0)] : List Value).toArray below meth c H locs 0 0 (my_WQ below D ([.ref (am 0)] : List Value).toArray s [(am 0, .inr (7, [.int th, .int (nI n), .ref (am 1), .ref (am 2), .ref (am 3), .int (nI 0), .ref (am 4), .ref (am 5), .ref (am 6), .ref (am 7), .ref (am 8), .ref (am 9), .ref (am 10), .ref (am 11), .ref (am 12)]))] [(am 0, .inr (7, [.int 0, .int (nI n), .ref (am 1), .ref (am 2), .ref (am 3), .int (nI 0), .ref (am 4), .ref (am 5), .ref (am 6), .ref (am 7), .ref (am 8), .ref (am 9), .ref (am 10), .ref (am 11), .ref (am 12)]))] (some (.int 0))) (F0 m 0 ls []) from K0 _ _ hP hD hS
  intro H locs hP hD hS
  refine lv_aload_n hx hb dX7_flatCount_0 rfl (lv_at hl 0 rfl) ?_
  refine lv_iconst (v := 0) hx hb dX7_flatCount_1 (by decide) ?_
  refine va_put (D := D) (ci := 7) (v := .int 0) (ty := .int) (C := RX7) (T := TX7) (N := 15) hx hb hts iw_X7_flatCount_X7 tyX7 tyX7_ok nmX7 hown hC.1 hP hD hS 0 rfl rfl 0 (by decide) (hts (.fieldLink RX7 48 "MonotoneSplineModel" "thrown" "I") (List.mem_of_getElem? (l := wsX7_flatCount) (i := 1) rfl)) (fun _ h9 => h9) rfl (by decide +kernel) rfl rfl (Nat.le_of_ble_eq_true rfl) dX7_flatCount_2 (fun H locs hP hD hS => ?_)
  have hP : va_P D vwCl [(am 0, .inr (7, [.int 0, .int (nI n), .ref (am 1), .ref (am 2), .ref (am 3), .int (nI 0), .ref (am 4), .ref (am 5), .ref (am 6), .ref (am 7), .ref (am 8), .ref (am 9), .ref (am 10), .ref (am 11), .ref (am 12)]))] H := hP
  have hD : va_D (my_A [(am 0, .inr (7, [.int th, .int (nI n), .ref (am 1), .ref (am 2), .ref (am 3), .int (nI 0), .ref (am 4), .ref (am 5), .ref (am 6), .ref (am 7), .ref (am 8), .ref (am 9), .ref (am 10), .ref (am 11), .ref (am 12)]))]) [(am 0, .inr (7, [.int 0, .int (nI n), .ref (am 1), .ref (am 2), .ref (am 3), .int (nI 0), .ref (am 4), .ref (am 5), .ref (am 6), .ref (am 7), .ref (am 8), .ref (am 9), .ref (am 10), .ref (am 11), .ref (am 12)]))] := hD
  refine lv_iconst (v := 0) hx hb dX7_flatCount_5 (by decide) ?_
  refine lv_istore_n (lv' := [(1, .int 0), (0, .ref (am 0))]) hx hb dX7_flatCount_6 rfl hl (by decide) rfl (fun ls hl => ?_)
  refine lv_iconst (v := 0) hx hb dX7_flatCount_7 (by decide) ?_
  refine lv_istore_n (lv' := [(2, .int 0), (1, .int 0), (0, .ref (am 0))]) hx hb dX7_flatCount_8 rfl hl (by decide) rfl (fun ls hl => ?_)
  refine lv_iload_n hx hb dX7_flatCount_9 rfl (lv_at hl 0 rfl) ?_
  refine lv_iconst (v := 1) hx hb dX7_flatCount_10 (by decide) ?_
  refine my_iadd (w := 1) hx hb dX7_flatCount_11 (by decide) ?_
  refine lv_aload_n hx hb dX7_flatCount_12 rfl (lv_at hl 2 rfl) ?_
  refine va_get (D := D) (ci := 7) (v := .int (nI 0)) (C := RX7) (T := TX7) (N := 15) hx hb hts iw_X7_flatCount_X7 hown hC.1 hP 0 rfl rfl 5 (by decide) (hts (.fieldLink RX7 56 "MonotoneSplineModel" "knots" "I") (List.mem_of_getElem? (l := wsX7_flatCount) (i := 2) rfl)) (fun _ h9 => h9) rfl dX7_flatCount_13 ?_
  refine lv_icmp_ge (tgt := 43) hx hb dX7_flatCount_16 (by decide) (fun c_16 => ?_) (fun c_16 => ?_)
  · have c_16 : 0 ≤ 1 := (nI_leI (a := 0) (b := 1) (by omega) (by omega)).mp c_16
    refine lv_iload_n hx hb dX7_flatCount_43 rfl (lv_at hl 1 rfl) ?_
    exact my_iretW hx hb hr hlocks hP (rfl) hS (rfl) dX7_flatCount_44
  · have c_16 : ¬ 0 ≤ 1 := fun h9 => c_16 ((nI_leI (a := 0) (b := 1) (by omega) (by omega)).mpr h9)
    exact absurd c_16 (by omega)

theorem iw_X7_setTail_X7 : ∀ w ∈ wsX70, w ∈ wsX7_setTail := fun w h => List.mem_cons_of_mem _ (List.mem_append_right _ (h))
set_option maxHeartbeats 4000000 in
set_option maxRecDepth 100000 in
theorem mm_setTail0 (l : Launch) (D : va_G) (kd ki kz kl : ClassId) (z : Nat) (am : Nat → Nat) (th : Int32) (n : Nat) (kn : Nat) (TK : Nat → Int32) (FA : Nat → UInt64) (kd9 : Nat) (a : UInt64) (h0 : kd9 ≤ 6) (h1 : sp_ge (s_st a) 13920209183539462144 ∧ sp_le (s_st a) 4696837146684686336) (h2 : 4 ≤ kd9 → ¬ sp_eq (s_st a) 0) : my_WR l D kd ki kz kl z yX7_setTail wsX7_setTail ({ frames := 1, cells := 0, slots := 0, locals := 25 }) [.ref (am 0), .int (nI 0), .int (nI kd9), .double a] [(am 0, .inr (7, [.int th, .int (nI n), .ref (am 1), .ref (am 2), .ref (am 3), .int (nI kn), .ref (am 4), .ref (am 5), .ref (am 6), .ref (am 7), .ref (am 8), .ref (am 9), .ref (am 10), .ref (am 11), .ref (am 12)])), (am 8, .inl (ki, 2, .inl TK)), (am 9, .inl (kd, 2, .inr (.inr (.inr (.inl FA)))))] [(am 0, .inr (7, [.int 0, .int (nI n), .ref (am 1), .ref (am 2), .ref (am 3), .int (nI kn), .ref (am 4), .ref (am 5), .ref (am 6), .ref (am 7), .ref (am 8), .ref (am 9), .ref (am 10), .ref (am 11), .ref (am 12)])), (am 8, .inl (ki, 2, .inl (upd TK 0 (nI kd9)))), (am 9, .inl (kd, 2, .inr (.inr (.inr (.inl (vf_upd FA 0 (s_st a)))))))] (some (.int (TK 0))) := by
  refine my_WR_of (cc := cX7_setTail) (maxL := 8) (ret := (some .int)) (by decide) rfl (Nat.le_of_ble_eq_true rfl) ?_
  intro p e s m below meth c S hr hlocks hC hP hD hz hS ls hl
  have S : CallFix p m c cX7_setTail 8 s ([.ref (am 0), .int (nI 0), .int (nI kd9), .double a] : List Value).toArray wsX7_setTail RX7 := S
  obtain ⟨hx, hb, hml, hown, hts⟩ := id S
  have hl : lv_has ls 8 [(0, .ref (am 0)), (1, .int (nI 0)), (2, .int (nI kd9)), (3, .double a)] := hl
  suffices K0 : ∀ (H : Heap) (locs : List Loc), va_P D vwCl [(am 0, .inr (7, [.int th, .int (nI n), .ref (am 1), .ref (am 2), .ref (am 3), .int (nI kn), .ref (am 4), .ref (am 5), .ref (am 6), .ref (am 7), .ref (am 8), .ref (am 9), .ref (am 10), .ref (am 11), .ref (am 12)])), (am 8, .inl (ki, 2, .inl TK)), (am 9, .inl (kd, 2, .inr (.inr (.inr (.inl FA)))))] H → va_D (my_A [(am 0, .inr (7, [.int th, .int (nI n), .ref (am 1), .ref (am 2), .ref (am 3), .int (nI kn), .ref (am 4), .ref (am 5), .ref (am 6), .ref (am 7), .ref (am 8), .ref (am 9), .ref (am 10), .ref (am 11), .ref (am 12)])), (am 8, .inl (ki, 2, .inl TK)), (am 9, .inl (kd, 2, .inr (.inr (.inr (.inl FA)))))]) [(am 0, .inr (7, [.int th, .int (nI n), .ref (am 1), .ref (am 2), .ref (am 3), .int (nI kn), .ref (am 4), .ref (am 5), .ref (am 6), .ref (am 7), .ref (am 8), .ref (am 9), .ref (am 10), .ref (am 11), .ref (am 12)])), (am 8, .inl (ki, 2, .inl TK)), (am 9, .inl (kd, 2, .inr (.inr (.inr (.inl FA)))))] → va_S (my_A [(am 0, .inr (7, [.int th, .int (nI n), .ref (am 1), .ref (am 2), .ref (am 3), .int (nI kn), .ref (am 4), .ref (am 5), .ref (am 6), .ref (am 7), .ref (am 8), .ref (am 9), .ref (am 10), .ref (am 11), .ref (am 12)])), (am 8, .inl (ki, 2, .inl TK)), (am 9, .inl (kd, 2, .inr (.inr (.inr (.inl FA)))))]) s.heap H locs → W p l e ({ frames := 1, cells := 0, slots := 0, locals := 25 }) s m ([.ref (am 0), .int (nI 0), .int (nI kd9), .double a] : List Value).toArray below meth c H locs 0 0 (my_WQ below D ([.ref (am 0), .int (nI 0), .int (nI kd9), .double a] : List Value).toArray s [(am 0, .inr (7, [.int th, .int (nI n), .ref (am 1), .ref (am 2), .ref (am 3), .int (nI kn), .ref (am 4), .ref (am 5), .ref (am 6), .ref (am 7), .ref (am 8), .ref (am 9), .ref (am 10), .ref (am 11), .ref (am 12)])), (am 8, .inl (ki, 2, .inl TK)), (am 9, .inl (kd, 2, .inr (.inr (.inr (.inl FA)))))] [(am 0, .inr (7, [.int 0, .int (nI n), .ref (am 1), .ref (am 2), .ref (am 3), .int (nI kn), .ref (am 4), .ref (am 5), .ref (am 6), .ref (am 7), .ref (am 8), .ref (am 9), .ref (am 10), .ref (am 11), .ref (am 12)])), (am 8, .inl (ki, 2, .inl (upd TK 0 (nI kd9)))), (am 9, .inl (kd, 2, .inr (.inr (.inr (.inl (vf_upd FA 0 (s_st a)))))))] (some (.int (TK 0)))) (F0 m 0 ls []) from K0 _ _ hP hD hS
  intro H locs hP hD hS
  refine lv_aload_n hx hb dX7_setTail_0 rfl (lv_at hl 0 rfl) ?_
  refine lv_iconst (v := 0) hx hb dX7_setTail_1 (by decide) ?_
  refine va_put (D := D) (ci := 7) (v := .int 0) (ty := .int) (C := RX7) (T := TX7) (N := 15) hx hb hts iw_X7_setTail_X7 tyX7 tyX7_ok nmX7 hown hC.1 hP hD hS 0 rfl rfl 0 (by decide) (hts (.fieldLink RX7 48 "MonotoneSplineModel" "thrown" "I") (List.mem_of_getElem? (l := wsX7_setTail) (i := 1) rfl)) (fun _ h9 => h9) rfl (by decide +kernel) rfl rfl (Nat.le_of_ble_eq_true rfl) dX7_setTail_2 (fun H locs hP hD hS => ?_)
  have hP : va_P D vwCl [(am 0, .inr (7, [.int 0, .int (nI n), .ref (am 1), .ref (am 2), .ref (am 3), .int (nI kn), .ref (am 4), .ref (am 5), .ref (am 6), .ref (am 7), .ref (am 8), .ref (am 9), .ref (am 10), .ref (am 11), .ref (am 12)])), (am 8, .inl (ki, 2, .inl TK)), (am 9, .inl (kd, 2, .inr (.inr (.inr (.inl FA)))))] H := hP
  have hD : va_D (my_A [(am 0, .inr (7, [.int th, .int (nI n), .ref (am 1), .ref (am 2), .ref (am 3), .int (nI kn), .ref (am 4), .ref (am 5), .ref (am 6), .ref (am 7), .ref (am 8), .ref (am 9), .ref (am 10), .ref (am 11), .ref (am 12)])), (am 8, .inl (ki, 2, .inl TK)), (am 9, .inl (kd, 2, .inr (.inr (.inr (.inl FA)))))]) [(am 0, .inr (7, [.int 0, .int (nI n), .ref (am 1), .ref (am 2), .ref (am 3), .int (nI kn), .ref (am 4), .ref (am 5), .ref (am 6), .ref (am 7), .ref (am 8), .ref (am 9), .ref (am 10), .ref (am 11), .ref (am 12)])), (am 8, .inl (ki, 2, .inl TK)), (am 9, .inl (kd, 2, .inr (.inr (.inr (.inl FA)))))] := hD
  refine lv_dload_n hx hb dX7_setTail_5 rfl (lv_at hl 3 rfl) ?_
  refine my_goR (v := (some (.double (s_st a)))) (my_runS (bytes := cX7_plain) (maxL := 2) (ret := (some .double)) (n := 1) (As := [.double a]) (rest := []) S hl.1 (mm_plain l D kd ki kz kl z a) rfl ⟨rfl, rfl⟩ gX7_setTail_X7_plain (by decide +kernel) rfl ⟨Nat.le_of_ble_eq_true rfl, Nat.le_of_ble_eq_true rfl⟩ (my_preR (my_C_S hC hS hz) (my_P_sub (wc := []) hP [] rfl)) rfl rfl dX7_setTail_6) ?_
  refine W.eq (g2 := F0 m 9 ls [.double (s_st a)]) rfl ?_
  refine lv_dstore (lv' := [(5, .double (s_st a)), (0, .ref (am 0)), (1, .int (nI 0)), (2, .int (nI kd9)), (3, .double a)]) hx hb dX7_setTail_9 hl (by decide) rfl (fun ls hl => ?_)
  refine lv_iload_n hx hb dX7_setTail_11 rfl (lv_at hl 2 rfl) ?_
  refine lv_if_lt (tgt := 20) hx hb dX7_setTail_12 (by decide) (fun c_12 => ?_) (fun c_12 => ?_)
  · have c_12 : 0 < 0 := (nI_ltI (a := 0) (b := 0) (by omega) (by omega)).mp c_12
    exact absurd c_12 (by omega)
  · have c_12 : ¬ 0 < 0 := fun h9 => c_12 ((nI_ltI (a := 0) (b := 0) (by omega) (by omega)).mpr h9)
    refine lv_iload_n hx hb dX7_setTail_15 rfl (lv_at hl 2 rfl) ?_
    refine lv_iconst (v := 1) hx hb dX7_setTail_16 (by decide) ?_
    refine lv_icmp_le (tgt := 26) hx hb dX7_setTail_17 (by decide) (fun c_17 => ?_) (fun c_17 => ?_)
    · have c_17 : 0 ≤ 1 := (nI_leI (a := 0) (b := 1) (by omega) (by omega)).mp c_17
      refine lv_iload_n hx hb dX7_setTail_26 rfl (lv_at hl 3 rfl) ?_
      refine lv_if_lt (tgt := 62) hx hb dX7_setTail_27 (by decide) (fun c_27 => ?_) (fun c_27 => ?_)
      · have c_27 : kd9 < 0 := (nI_ltI (a := kd9) (b := 0) (by omega) (by omega)).mp c_27
        exact absurd c_27 (by omega)
      · have c_27 : ¬ kd9 < 0 := fun h9 => c_27 ((nI_ltI (a := kd9) (b := 0) (by omega) (by omega)).mpr h9)
        refine lv_iload_n hx hb dX7_setTail_30 rfl (lv_at hl 3 rfl) ?_
        refine lv_bipush (v := 7) hx hb dX7_setTail_31 (by decide) ?_
        refine lv_icmp_ge (tgt := 62) hx hb dX7_setTail_33 (by decide) (fun c_33 => ?_) (fun c_33 => ?_)
        · have c_33 : 7 ≤ kd9 := (nI_leI (a := 7) (b := kd9) (by omega) (by omega)).mp c_33
          exact absurd h0 (by omega)
        · have c_33 : ¬ 7 ≤ kd9 := fun h9 => c_33 ((nI_leI (a := 7) (b := kd9) (by omega) (by omega)).mpr h9)
          refine lv_dload hx hb dX7_setTail_36 (lv_at hl 0 rfl) ?_
          refine lv_ldc2d hx hb hown (hts (.constantDouble RX7 63 (13920209183539462144)) (List.mem_of_getElem? (l := wsX7_setTail) (i := 2) rfl)) dX7_setTail_38 ?_
          refine lv_ldc2d hx hb hown (hts (.constantDouble RX7 65 (4696837146684686336)) (List.mem_of_getElem? (l := wsX7_setTail) (i := 3) rfl)) dX7_setTail_41 ?_
          refine my_goR (v := (some (.int (if sp_ge (s_st a) 13920209183539462144 ∧ sp_le (s_st a) 4696837146684686336 then 1 else 0)))) (my_runS (bytes := cX7_isIn) (maxL := 6) (ret := (some .boolean)) (n := 3) (As := [.double (s_st a), .double 13920209183539462144, .double 4696837146684686336]) (rest := []) S hl.1 (mm_isIn l D kd ki kz kl z (s_st a) 13920209183539462144 4696837146684686336) rfl ⟨rfl, rfl⟩ gX7_setTail_X7_isIn (by decide +kernel) rfl ⟨Nat.le_of_ble_eq_true rfl, Nat.le_of_ble_eq_true rfl⟩ (my_preR (my_C_S hC hS hz) (my_P_sub (wc := []) hP [] rfl)) rfl rfl dX7_setTail_44) ?_
          refine W.eq (g2 := F0 m 47 ls [.int (if sp_ge (s_st a) 13920209183539462144 ∧ sp_le (s_st a) 4696837146684686336 then 1 else 0)]) rfl ?_
          by_cases q_h1 : sp_ge (s_st a) 13920209183539462144 ∧ sp_le (s_st a) 4696837146684686336
          · rw [if_pos q_h1]
            refine lv_if_eq (tgt := 62) hx hb dX7_setTail_47 (by decide) (fun c_47 => ?_) (fun c_47 => ?_)
            · skip
              first | exact absurd c_47 (by decide) | exact absurd (by decide) c_47
            · skip
              refine lv_iload_n hx hb dX7_setTail_50 rfl (lv_at hl 3 rfl) ?_
              refine lv_iconst (v := 4) hx hb dX7_setTail_51 (by decide) ?_
              refine lv_icmp_lt (tgt := 68) hx hb dX7_setTail_52 (by decide) (fun c_52 => ?_) (fun c_52 => ?_)
              · have c_52 : kd9 < 4 := (nI_ltI (a := kd9) (b := 4) (by omega) (by omega)).mp c_52
                refine lv_aload_n hx hb dX7_setTail_68 rfl (lv_at hl 1 rfl) ?_
                refine va_get (D := D) (ci := 7) (v := .ref (am 8)) (C := RX7) (T := TX7) (N := 15) hx hb hts iw_X7_setTail_X7 hown hC.1 hP 0 rfl rfl 10 (by decide) (hts (.fieldLink RX7 32 "MonotoneSplineModel" "tailKinds" "[I") (List.mem_of_getElem? (l := wsX7_setTail) (i := 4) rfl)) (fun _ h9 => h9) rfl dX7_setTail_69 ?_
                refine lv_iload_n hx hb dX7_setTail_72 rfl (lv_at hl 2 rfl) ?_
                refine my_iald (k := 0) (n := 2) (f := TK) hx hb hC hP 1 rfl (by omega) (by omega) dX7_setTail_73 ?_
                refine lv_istore (lv' := [(7, .int (TK 0)), (5, .double (s_st a)), (0, .ref (am 0)), (1, .int (nI 0)), (2, .int (nI kd9)), (3, .double a)]) hx hb dX7_setTail_74 hl (by decide) rfl (fun ls hl => ?_)
                refine lv_aload_n hx hb dX7_setTail_76 rfl (lv_at hl 2 rfl) ?_
                refine va_get (D := D) (ci := 7) (v := .ref (am 8)) (C := RX7) (T := TX7) (N := 15) hx hb hts iw_X7_setTail_X7 hown hC.1 hP 0 rfl rfl 10 (by decide) (hts (.fieldLink RX7 32 "MonotoneSplineModel" "tailKinds" "[I") (List.mem_of_getElem? (l := wsX7_setTail) (i := 4) rfl)) (fun _ h9 => h9) rfl dX7_setTail_77 ?_
                refine lv_iload_n hx hb dX7_setTail_80 rfl (lv_at hl 3 rfl) ?_
                refine lv_iload_n hx hb dX7_setTail_81 rfl (lv_at hl 4 rfl) ?_
                refine my_iast (k := 0) (n := 2) (f := TK) (wx' := [(am 0, .inr (7, [.int 0, .int (nI n), .ref (am 1), .ref (am 2), .ref (am 3), .int (nI kn), .ref (am 4), .ref (am 5), .ref (am 6), .ref (am 7), .ref (am 8), .ref (am 9), .ref (am 10), .ref (am 11), .ref (am 12)])), (am 8, .inl (ki, 2, .inl (upd TK 0 (nI kd9)))), (am 9, .inl (kd, 2, .inr (.inr (.inr (.inl FA)))))]) hx hb hC hP hD hS 1 rfl (by omega) (by omega) rfl dX7_setTail_82 (fun H locs hP hD hS => ?_)
                refine lv_aload_n hx hb dX7_setTail_83 rfl (lv_at hl 2 rfl) ?_
                refine va_get (D := D) (ci := 7) (v := .ref (am 9)) (C := RX7) (T := TX7) (N := 15) hx hb hts iw_X7_setTail_X7 hown hC.1 hP 0 rfl rfl 11 (by decide) (hts (.fieldLink RX7 36 "MonotoneSplineModel" "factors" "[D") (List.mem_of_getElem? (l := wsX7_setTail) (i := 5) rfl)) (fun _ h9 => h9) rfl dX7_setTail_84 ?_
                refine lv_iload_n hx hb dX7_setTail_87 rfl (lv_at hl 3 rfl) ?_
                refine lv_dload hx hb dX7_setTail_88 (lv_at hl 1 rfl) ?_
                refine my_dast (k := 0) (n := 2) (f := FA) (wx' := [(am 0, .inr (7, [.int 0, .int (nI n), .ref (am 1), .ref (am 2), .ref (am 3), .int (nI kn), .ref (am 4), .ref (am 5), .ref (am 6), .ref (am 7), .ref (am 8), .ref (am 9), .ref (am 10), .ref (am 11), .ref (am 12)])), (am 8, .inl (ki, 2, .inl (upd TK 0 (nI kd9)))), (am 9, .inl (kd, 2, .inr (.inr (.inr (.inl (vf_upd FA 0 (s_st a)))))))]) hx hb hC hP hD hS 2 rfl (by omega) (by omega) rfl dX7_setTail_90 (fun H locs hP hD hS => ?_)
                refine lv_iload hx hb dX7_setTail_91 (lv_at hl 0 rfl) ?_
                exact my_iretW hx hb hr hlocks hP (rfl) hS (rfl) dX7_setTail_93
              · have c_52 : ¬ kd9 < 4 := fun h9 => c_52 ((nI_ltI (a := kd9) (b := 4) (by omega) (by omega)).mpr h9)
                refine lv_dload hx hb dX7_setTail_55 (lv_at hl 0 rfl) ?_
                refine lv_dconst0 hx hb dX7_setTail_57 ?_
                refine my_topd (w := 0) (by decide) ?_
                refine lv_dcmp hx hb dX7_setTail_58 ?_
                refine lv_if_ne (tgt := 68) hx hb dX7_setTail_59 (by decide) (fun c_59 => ?_) (fun c_59 => ?_)
                · have c_59 := cv_l_eq_f c_59
                  refine lv_aload_n hx hb dX7_setTail_68 rfl (lv_at hl 1 rfl) ?_
                  refine va_get (D := D) (ci := 7) (v := .ref (am 8)) (C := RX7) (T := TX7) (N := 15) hx hb hts iw_X7_setTail_X7 hown hC.1 hP 0 rfl rfl 10 (by decide) (hts (.fieldLink RX7 32 "MonotoneSplineModel" "tailKinds" "[I") (List.mem_of_getElem? (l := wsX7_setTail) (i := 4) rfl)) (fun _ h9 => h9) rfl dX7_setTail_69 ?_
                  refine lv_iload_n hx hb dX7_setTail_72 rfl (lv_at hl 2 rfl) ?_
                  refine my_iald (k := 0) (n := 2) (f := TK) hx hb hC hP 1 rfl (by omega) (by omega) dX7_setTail_73 ?_
                  refine lv_istore (lv' := [(7, .int (TK 0)), (5, .double (s_st a)), (0, .ref (am 0)), (1, .int (nI 0)), (2, .int (nI kd9)), (3, .double a)]) hx hb dX7_setTail_74 hl (by decide) rfl (fun ls hl => ?_)
                  refine lv_aload_n hx hb dX7_setTail_76 rfl (lv_at hl 2 rfl) ?_
                  refine va_get (D := D) (ci := 7) (v := .ref (am 8)) (C := RX7) (T := TX7) (N := 15) hx hb hts iw_X7_setTail_X7 hown hC.1 hP 0 rfl rfl 10 (by decide) (hts (.fieldLink RX7 32 "MonotoneSplineModel" "tailKinds" "[I") (List.mem_of_getElem? (l := wsX7_setTail) (i := 4) rfl)) (fun _ h9 => h9) rfl dX7_setTail_77 ?_
                  refine lv_iload_n hx hb dX7_setTail_80 rfl (lv_at hl 3 rfl) ?_
                  refine lv_iload_n hx hb dX7_setTail_81 rfl (lv_at hl 4 rfl) ?_
                  refine my_iast (k := 0) (n := 2) (f := TK) (wx' := [(am 0, .inr (7, [.int 0, .int (nI n), .ref (am 1), .ref (am 2), .ref (am 3), .int (nI kn), .ref (am 4), .ref (am 5), .ref (am 6), .ref (am 7), .ref (am 8), .ref (am 9), .ref (am 10), .ref (am 11), .ref (am 12)])), (am 8, .inl (ki, 2, .inl (upd TK 0 (nI kd9)))), (am 9, .inl (kd, 2, .inr (.inr (.inr (.inl FA)))))]) hx hb hC hP hD hS 1 rfl (by omega) (by omega) rfl dX7_setTail_82 (fun H locs hP hD hS => ?_)
                  refine lv_aload_n hx hb dX7_setTail_83 rfl (lv_at hl 2 rfl) ?_
                  refine va_get (D := D) (ci := 7) (v := .ref (am 9)) (C := RX7) (T := TX7) (N := 15) hx hb hts iw_X7_setTail_X7 hown hC.1 hP 0 rfl rfl 11 (by decide) (hts (.fieldLink RX7 36 "MonotoneSplineModel" "factors" "[D") (List.mem_of_getElem? (l := wsX7_setTail) (i := 5) rfl)) (fun _ h9 => h9) rfl dX7_setTail_84 ?_
                  refine lv_iload_n hx hb dX7_setTail_87 rfl (lv_at hl 3 rfl) ?_
                  refine lv_dload hx hb dX7_setTail_88 (lv_at hl 1 rfl) ?_
                  refine my_dast (k := 0) (n := 2) (f := FA) (wx' := [(am 0, .inr (7, [.int 0, .int (nI n), .ref (am 1), .ref (am 2), .ref (am 3), .int (nI kn), .ref (am 4), .ref (am 5), .ref (am 6), .ref (am 7), .ref (am 8), .ref (am 9), .ref (am 10), .ref (am 11), .ref (am 12)])), (am 8, .inl (ki, 2, .inl (upd TK 0 (nI kd9)))), (am 9, .inl (kd, 2, .inr (.inr (.inr (.inl (vf_upd FA 0 (s_st a)))))))]) hx hb hC hP hD hS 2 rfl (by omega) (by omega) rfl dX7_setTail_90 (fun H locs hP hD hS => ?_)
                  refine lv_iload hx hb dX7_setTail_91 (lv_at hl 0 rfl) ?_
                  exact my_iretW hx hb hr hlocks hP (rfl) hS (rfl) dX7_setTail_93
                · have c_59 := cv_l_eq_t c_59
                  exact absurd c_59 (h2 (by omega))
          · rw [if_neg q_h1]
            exact absurd h1 q_h1
    · have c_17 : ¬ 0 ≤ 1 := fun h9 => c_17 ((nI_leI (a := 0) (b := 1) (by omega) (by omega)).mpr h9)
      exact absurd c_17 (by omega)

set_option maxHeartbeats 4000000 in
set_option maxRecDepth 100000 in
theorem mm_setTail0_2 (l : Launch) (D : va_G) (kd ki kz kl : ClassId) (z : Nat) (am : Nat → Nat) (th : Int32) (n : Nat) (kn : Nat) (TK : Nat → Int32) (FA : Nat → UInt64) (kx : Int32) (a : UInt64) (hno : ¬ (¬ kx < 0 ∧ kx ≤ 6 ∧ (sp_ge (s_st a) 13920209183539462144 ∧ sp_le (s_st a) 4696837146684686336) ∧ (4 ≤ kx → ¬ sp_eq (s_st a) 0))) : my_WR l D kd ki kz kl z yX7_setTail wsX7_setTail ({ frames := 1, cells := 0, slots := 0, locals := 25 }) [.ref (am 0), .int (nI 0), .int kx, .double a] [(am 0, .inr (7, [.int th, .int (nI n), .ref (am 1), .ref (am 2), .ref (am 3), .int (nI kn), .ref (am 4), .ref (am 5), .ref (am 6), .ref (am 7), .ref (am 8), .ref (am 9), .ref (am 10), .ref (am 11), .ref (am 12)])), (am 8, .inl (ki, 2, .inl TK)), (am 9, .inl (kd, 2, .inr (.inr (.inr (.inl FA)))))] [(am 0, .inr (7, [.int 2, .int (nI n), .ref (am 1), .ref (am 2), .ref (am 3), .int (nI kn), .ref (am 4), .ref (am 5), .ref (am 6), .ref (am 7), .ref (am 8), .ref (am 9), .ref (am 10), .ref (am 11), .ref (am 12)])), (am 8, .inl (ki, 2, .inl TK)), (am 9, .inl (kd, 2, .inr (.inr (.inr (.inl FA)))))] (some (.int 0)) := by
  refine my_WR_of (cc := cX7_setTail) (maxL := 8) (ret := (some .int)) (by decide) rfl (Nat.le_of_ble_eq_true rfl) ?_
  intro p e s m below meth c S hr hlocks hC hP hD hz hS ls hl
  have S : CallFix p m c cX7_setTail 8 s ([.ref (am 0), .int (nI 0), .int kx, .double a] : List Value).toArray wsX7_setTail RX7 := S
  obtain ⟨hx, hb, hml, hown, hts⟩ := id S
  have hl : lv_has ls 8 [(0, .ref (am 0)), (1, .int (nI 0)), (2, .int kx), (3, .double a)] := hl
  suffices K0 : ∀ (H : Heap) (locs : List Loc), va_P D vwCl [(am 0, .inr (7, [.int th, .int (nI n), .ref (am 1), .ref (am 2), .ref (am 3), .int (nI kn), .ref (am 4), .ref (am 5), .ref (am 6), .ref (am 7), .ref (am 8), .ref (am 9), .ref (am 10), .ref (am 11), .ref (am 12)])), (am 8, .inl (ki, 2, .inl TK)), (am 9, .inl (kd, 2, .inr (.inr (.inr (.inl FA)))))] H → va_D (my_A [(am 0, .inr (7, [.int th, .int (nI n), .ref (am 1), .ref (am 2), .ref (am 3), .int (nI kn), .ref (am 4), .ref (am 5), .ref (am 6), .ref (am 7), .ref (am 8), .ref (am 9), .ref (am 10), .ref (am 11), .ref (am 12)])), (am 8, .inl (ki, 2, .inl TK)), (am 9, .inl (kd, 2, .inr (.inr (.inr (.inl FA)))))]) [(am 0, .inr (7, [.int th, .int (nI n), .ref (am 1), .ref (am 2), .ref (am 3), .int (nI kn), .ref (am 4), .ref (am 5), .ref (am 6), .ref (am 7), .ref (am 8), .ref (am 9), .ref (am 10), .ref (am 11), .ref (am 12)])), (am 8, .inl (ki, 2, .inl TK)), (am 9, .inl (kd, 2, .inr (.inr (.inr (.inl FA)))))] → va_S (my_A [(am 0, .inr (7, [.int th, .int (nI n), .ref (am 1), .ref (am 2), .ref (am 3), .int (nI kn), .ref (am 4), .ref (am 5), .ref (am 6), .ref (am 7), .ref (am 8), .ref (am 9), .ref (am 10), .ref (am 11), .ref (am 12)])), (am 8, .inl (ki, 2, .inl TK)), (am 9, .inl (kd, 2, .inr (.inr (.inr (.inl FA)))))]) s.heap H locs → W p l e ({ frames := 1, cells := 0, slots := 0, locals := 25 }) s m ([.ref (am 0), .int (nI 0), .int kx, .double a] : List Value).toArray below meth c H locs 0 0 (my_WQ below D ([.ref (am 0), .int (nI 0), .int kx, .double a] : List Value).toArray s [(am 0, .inr (7, [.int th, .int (nI n), .ref (am 1), .ref (am 2), .ref (am 3), .int (nI kn), .ref (am 4), .ref (am 5), .ref (am 6), .ref (am 7), .ref (am 8), .ref (am 9), .ref (am 10), .ref (am 11), .ref (am 12)])), (am 8, .inl (ki, 2, .inl TK)), (am 9, .inl (kd, 2, .inr (.inr (.inr (.inl FA)))))] [(am 0, .inr (7, [.int 2, .int (nI n), .ref (am 1), .ref (am 2), .ref (am 3), .int (nI kn), .ref (am 4), .ref (am 5), .ref (am 6), .ref (am 7), .ref (am 8), .ref (am 9), .ref (am 10), .ref (am 11), .ref (am 12)])), (am 8, .inl (ki, 2, .inl TK)), (am 9, .inl (kd, 2, .inr (.inr (.inr (.inl FA)))))] (some (.int 0))) (F0 m 0 ls []) from K0 _ _ hP hD hS
  intro H locs hP hD hS
  refine lv_aload_n hx hb dX7_setTail_0 rfl (lv_at hl 0 rfl) ?_
  refine lv_iconst (v := 0) hx hb dX7_setTail_1 (by decide) ?_
  refine va_put (D := D) (ci := 7) (v := .int 0) (ty := .int) (C := RX7) (T := TX7) (N := 15) hx hb hts iw_X7_setTail_X7 tyX7 tyX7_ok nmX7 hown hC.1 hP hD hS 0 rfl rfl 0 (by decide) (hts (.fieldLink RX7 48 "MonotoneSplineModel" "thrown" "I") (List.mem_of_getElem? (l := wsX7_setTail) (i := 1) rfl)) (fun _ h9 => h9) rfl (by decide +kernel) rfl rfl (Nat.le_of_ble_eq_true rfl) dX7_setTail_2 (fun H locs hP hD hS => ?_)
  have hP : va_P D vwCl [(am 0, .inr (7, [.int 0, .int (nI n), .ref (am 1), .ref (am 2), .ref (am 3), .int (nI kn), .ref (am 4), .ref (am 5), .ref (am 6), .ref (am 7), .ref (am 8), .ref (am 9), .ref (am 10), .ref (am 11), .ref (am 12)])), (am 8, .inl (ki, 2, .inl TK)), (am 9, .inl (kd, 2, .inr (.inr (.inr (.inl FA)))))] H := hP
  have hD : va_D (my_A [(am 0, .inr (7, [.int th, .int (nI n), .ref (am 1), .ref (am 2), .ref (am 3), .int (nI kn), .ref (am 4), .ref (am 5), .ref (am 6), .ref (am 7), .ref (am 8), .ref (am 9), .ref (am 10), .ref (am 11), .ref (am 12)])), (am 8, .inl (ki, 2, .inl TK)), (am 9, .inl (kd, 2, .inr (.inr (.inr (.inl FA)))))]) [(am 0, .inr (7, [.int 0, .int (nI n), .ref (am 1), .ref (am 2), .ref (am 3), .int (nI kn), .ref (am 4), .ref (am 5), .ref (am 6), .ref (am 7), .ref (am 8), .ref (am 9), .ref (am 10), .ref (am 11), .ref (am 12)])), (am 8, .inl (ki, 2, .inl TK)), (am 9, .inl (kd, 2, .inr (.inr (.inr (.inl FA)))))] := hD
  refine lv_dload_n hx hb dX7_setTail_5 rfl (lv_at hl 3 rfl) ?_
  refine my_goR (v := (some (.double (s_st a)))) (my_runS (bytes := cX7_plain) (maxL := 2) (ret := (some .double)) (n := 1) (As := [.double a]) (rest := []) S hl.1 (mm_plain l D kd ki kz kl z a) rfl ⟨rfl, rfl⟩ gX7_setTail_X7_plain (by decide +kernel) rfl ⟨Nat.le_of_ble_eq_true rfl, Nat.le_of_ble_eq_true rfl⟩ (my_preR (my_C_S hC hS hz) (my_P_sub (wc := []) hP [] rfl)) rfl rfl dX7_setTail_6) ?_
  refine W.eq (g2 := F0 m 9 ls [.double (s_st a)]) rfl ?_
  refine lv_dstore (lv' := [(5, .double (s_st a)), (0, .ref (am 0)), (1, .int (nI 0)), (2, .int kx), (3, .double a)]) hx hb dX7_setTail_9 hl (by decide) rfl (fun ls hl => ?_)
  refine lv_iload_n hx hb dX7_setTail_11 rfl (lv_at hl 2 rfl) ?_
  refine lv_if_lt (tgt := 20) hx hb dX7_setTail_12 (by decide) (fun c_12 => ?_) (fun c_12 => ?_)
  · have c_12 : 0 < 0 := (nI_ltI (a := 0) (b := 0) (by omega) (by omega)).mp c_12
    exact absurd c_12 (by omega)
  · have c_12 : ¬ 0 < 0 := fun h9 => c_12 ((nI_ltI (a := 0) (b := 0) (by omega) (by omega)).mpr h9)
    refine lv_iload_n hx hb dX7_setTail_15 rfl (lv_at hl 2 rfl) ?_
    refine lv_iconst (v := 1) hx hb dX7_setTail_16 (by decide) ?_
    refine lv_icmp_le (tgt := 26) hx hb dX7_setTail_17 (by decide) (fun c_17 => ?_) (fun c_17 => ?_)
    · have c_17 : 0 ≤ 1 := (nI_leI (a := 0) (b := 1) (by omega) (by omega)).mp c_17
      refine lv_iload_n hx hb dX7_setTail_26 rfl (lv_at hl 3 rfl) ?_
      refine lv_if_lt (tgt := 62) hx hb dX7_setTail_27 (by decide) (fun c_27 => ?_) (fun c_27 => ?_)
      · skip
        refine lv_aload_n hx hb dX7_setTail_62 rfl (lv_at hl 1 rfl) ?_
        refine lv_iconst (v := 2) hx hb dX7_setTail_63 (by decide) ?_
        refine my_goW (v := (some (.int 0))) (w1 := [(am 0, .inr (7, [.int 2, .int (nI n), .ref (am 1), .ref (am 2), .ref (am 3), .int (nI kn), .ref (am 4), .ref (am 5), .ref (am 6), .ref (am 7), .ref (am 8), .ref (am 9), .ref (am 10), .ref (am 11), .ref (am 12)]))]) (wx' := [(am 0, .inr (7, [.int 2, .int (nI n), .ref (am 1), .ref (am 2), .ref (am 3), .int (nI kn), .ref (am 4), .ref (am 5), .ref (am 6), .ref (am 7), .ref (am 8), .ref (am 9), .ref (am 10), .ref (am 11), .ref (am 12)])), (am 8, .inl (ki, 2, .inl TK)), (am 9, .inl (kd, 2, .inr (.inr (.inr (.inl FA)))))]) (my_runV (bytes := cX7_fail) (maxL := 2) (ret := (some .int)) (n := 1) (As := [.int 2]) (rest := []) S hl.1 (mm_fail l D kd ki kz kl z am 0 n kn 2) rfl ⟨rfl, rfl⟩ gX7_setTail_X7_fail (by decide +kernel) rfl ⟨Nat.le_of_ble_eq_true rfl, Nat.le_of_ble_eq_true rfl⟩ (my_preW (my_C_S hC hS hz) (my_P_sub (wc := [(am 0, .inr (7, [.int 0, .int (nI n), .ref (am 1), .ref (am 2), .ref (am 3), .int (nI kn), .ref (am 4), .ref (am 5), .ref (am 6), .ref (am 7), .ref (am 8), .ref (am 9), .ref (am 10), .ref (am 11), .ref (am 12)]))]) hP [0] rfl) (my_D_sub hD hz [0] (by decide) rfl)) (va_recv hC.1 hP (ci := 7) (q0 := 0) rfl rfl) rfl rfl dX7_setTail_64) hP hD hS [0] rfl rfl rfl (fun H locs hP hD hS => ?_)
        refine W.eq (g2 := F0 m 67 ls [.int 0]) rfl ?_
        exact my_iretW hx hb hr hlocks hP (rfl) hS (rfl) dX7_setTail_67
      · skip
        refine lv_iload_n hx hb dX7_setTail_30 rfl (lv_at hl 3 rfl) ?_
        refine lv_bipush (v := 7) hx hb dX7_setTail_31 (by decide) ?_
        refine lv_icmp_ge (tgt := 62) hx hb dX7_setTail_33 (by decide) (fun c_33 => ?_) (fun c_33 => ?_)
        · skip
          refine lv_aload_n hx hb dX7_setTail_62 rfl (lv_at hl 1 rfl) ?_
          refine lv_iconst (v := 2) hx hb dX7_setTail_63 (by decide) ?_
          refine my_goW (v := (some (.int 0))) (w1 := [(am 0, .inr (7, [.int 2, .int (nI n), .ref (am 1), .ref (am 2), .ref (am 3), .int (nI kn), .ref (am 4), .ref (am 5), .ref (am 6), .ref (am 7), .ref (am 8), .ref (am 9), .ref (am 10), .ref (am 11), .ref (am 12)]))]) (wx' := [(am 0, .inr (7, [.int 2, .int (nI n), .ref (am 1), .ref (am 2), .ref (am 3), .int (nI kn), .ref (am 4), .ref (am 5), .ref (am 6), .ref (am 7), .ref (am 8), .ref (am 9), .ref (am 10), .ref (am 11), .ref (am 12)])), (am 8, .inl (ki, 2, .inl TK)), (am 9, .inl (kd, 2, .inr (.inr (.inr (.inl FA)))))]) (my_runV (bytes := cX7_fail) (maxL := 2) (ret := (some .int)) (n := 1) (As := [.int 2]) (rest := []) S hl.1 (mm_fail l D kd ki kz kl z am 0 n kn 2) rfl ⟨rfl, rfl⟩ gX7_setTail_X7_fail (by decide +kernel) rfl ⟨Nat.le_of_ble_eq_true rfl, Nat.le_of_ble_eq_true rfl⟩ (my_preW (my_C_S hC hS hz) (my_P_sub (wc := [(am 0, .inr (7, [.int 0, .int (nI n), .ref (am 1), .ref (am 2), .ref (am 3), .int (nI kn), .ref (am 4), .ref (am 5), .ref (am 6), .ref (am 7), .ref (am 8), .ref (am 9), .ref (am 10), .ref (am 11), .ref (am 12)]))]) hP [0] rfl) (my_D_sub hD hz [0] (by decide) rfl)) (va_recv hC.1 hP (ci := 7) (q0 := 0) rfl rfl) rfl rfl dX7_setTail_64) hP hD hS [0] rfl rfl rfl (fun H locs hP hD hS => ?_)
          refine W.eq (g2 := F0 m 67 ls [.int 0]) rfl ?_
          exact my_iretW hx hb hr hlocks hP (rfl) hS (rfl) dX7_setTail_67
        · skip
          refine lv_dload hx hb dX7_setTail_36 (lv_at hl 0 rfl) ?_
          refine lv_ldc2d hx hb hown (hts (.constantDouble RX7 63 (13920209183539462144)) (List.mem_of_getElem? (l := wsX7_setTail) (i := 2) rfl)) dX7_setTail_38 ?_
          refine lv_ldc2d hx hb hown (hts (.constantDouble RX7 65 (4696837146684686336)) (List.mem_of_getElem? (l := wsX7_setTail) (i := 3) rfl)) dX7_setTail_41 ?_
          refine my_goR (v := (some (.int (if sp_ge (s_st a) 13920209183539462144 ∧ sp_le (s_st a) 4696837146684686336 then 1 else 0)))) (my_runS (bytes := cX7_isIn) (maxL := 6) (ret := (some .boolean)) (n := 3) (As := [.double (s_st a), .double 13920209183539462144, .double 4696837146684686336]) (rest := []) S hl.1 (mm_isIn l D kd ki kz kl z (s_st a) 13920209183539462144 4696837146684686336) rfl ⟨rfl, rfl⟩ gX7_setTail_X7_isIn (by decide +kernel) rfl ⟨Nat.le_of_ble_eq_true rfl, Nat.le_of_ble_eq_true rfl⟩ (my_preR (my_C_S hC hS hz) (my_P_sub (wc := []) hP [] rfl)) rfl rfl dX7_setTail_44) ?_
          refine W.eq (g2 := F0 m 47 ls [.int (if sp_ge (s_st a) 13920209183539462144 ∧ sp_le (s_st a) 4696837146684686336 then 1 else 0)]) rfl ?_
          by_cases q1 : sp_ge (s_st a) 13920209183539462144 ∧ sp_le (s_st a) 4696837146684686336
          · rw [if_pos q1]
            refine lv_if_eq (tgt := 62) hx hb dX7_setTail_47 (by decide) (fun c_47 => ?_) (fun c_47 => ?_)
            · skip
              first | exact absurd c_47 (by decide) | exact absurd (by decide) c_47
            · skip
              refine lv_iload_n hx hb dX7_setTail_50 rfl (lv_at hl 3 rfl) ?_
              refine lv_iconst (v := 4) hx hb dX7_setTail_51 (by decide) ?_
              refine lv_icmp_lt (tgt := 68) hx hb dX7_setTail_52 (by decide) (fun c_52 => ?_) (fun c_52 => ?_)
              · skip
                exact absurd ⟨c_27, i7 c_33, q1, fun h9 => (by first | exact absurd h9 (fun h8 => i4 c_52 h8) | exact c_59)⟩ hno
              · skip
                refine lv_dload hx hb dX7_setTail_55 (lv_at hl 0 rfl) ?_
                refine lv_dconst0 hx hb dX7_setTail_57 ?_
                refine my_topd (w := 0) (by decide) ?_
                refine lv_dcmp hx hb dX7_setTail_58 ?_
                refine lv_if_ne (tgt := 68) hx hb dX7_setTail_59 (by decide) (fun c_59 => ?_) (fun c_59 => ?_)
                · have c_59 := cv_l_eq_f c_59
                  exact absurd ⟨c_27, i7 c_33, q1, fun h9 => (by first | exact absurd h9 (fun h8 => i4 c_52 h8) | exact c_59)⟩ hno
                · have c_59 := cv_l_eq_t c_59
                  refine lv_aload_n hx hb dX7_setTail_62 rfl (lv_at hl 1 rfl) ?_
                  refine lv_iconst (v := 2) hx hb dX7_setTail_63 (by decide) ?_
                  refine my_goW (v := (some (.int 0))) (w1 := [(am 0, .inr (7, [.int 2, .int (nI n), .ref (am 1), .ref (am 2), .ref (am 3), .int (nI kn), .ref (am 4), .ref (am 5), .ref (am 6), .ref (am 7), .ref (am 8), .ref (am 9), .ref (am 10), .ref (am 11), .ref (am 12)]))]) (wx' := [(am 0, .inr (7, [.int 2, .int (nI n), .ref (am 1), .ref (am 2), .ref (am 3), .int (nI kn), .ref (am 4), .ref (am 5), .ref (am 6), .ref (am 7), .ref (am 8), .ref (am 9), .ref (am 10), .ref (am 11), .ref (am 12)])), (am 8, .inl (ki, 2, .inl TK)), (am 9, .inl (kd, 2, .inr (.inr (.inr (.inl FA)))))]) (my_runV (bytes := cX7_fail) (maxL := 2) (ret := (some .int)) (n := 1) (As := [.int 2]) (rest := []) S hl.1 (mm_fail l D kd ki kz kl z am 0 n kn 2) rfl ⟨rfl, rfl⟩ gX7_setTail_X7_fail (by decide +kernel) rfl ⟨Nat.le_of_ble_eq_true rfl, Nat.le_of_ble_eq_true rfl⟩ (my_preW (my_C_S hC hS hz) (my_P_sub (wc := [(am 0, .inr (7, [.int 0, .int (nI n), .ref (am 1), .ref (am 2), .ref (am 3), .int (nI kn), .ref (am 4), .ref (am 5), .ref (am 6), .ref (am 7), .ref (am 8), .ref (am 9), .ref (am 10), .ref (am 11), .ref (am 12)]))]) hP [0] rfl) (my_D_sub hD hz [0] (by decide) rfl)) (va_recv hC.1 hP (ci := 7) (q0 := 0) rfl rfl) rfl rfl dX7_setTail_64) hP hD hS [0] rfl rfl rfl (fun H locs hP hD hS => ?_)
                  refine W.eq (g2 := F0 m 67 ls [.int 0]) rfl ?_
                  exact my_iretW hx hb hr hlocks hP (rfl) hS (rfl) dX7_setTail_67
          · rw [if_neg q1]
            refine lv_if_eq (tgt := 62) hx hb dX7_setTail_47 (by decide) (fun c_47 => ?_) (fun c_47 => ?_)
            · skip
              refine lv_aload_n hx hb dX7_setTail_62 rfl (lv_at hl 1 rfl) ?_
              refine lv_iconst (v := 2) hx hb dX7_setTail_63 (by decide) ?_
              refine my_goW (v := (some (.int 0))) (w1 := [(am 0, .inr (7, [.int 2, .int (nI n), .ref (am 1), .ref (am 2), .ref (am 3), .int (nI kn), .ref (am 4), .ref (am 5), .ref (am 6), .ref (am 7), .ref (am 8), .ref (am 9), .ref (am 10), .ref (am 11), .ref (am 12)]))]) (wx' := [(am 0, .inr (7, [.int 2, .int (nI n), .ref (am 1), .ref (am 2), .ref (am 3), .int (nI kn), .ref (am 4), .ref (am 5), .ref (am 6), .ref (am 7), .ref (am 8), .ref (am 9), .ref (am 10), .ref (am 11), .ref (am 12)])), (am 8, .inl (ki, 2, .inl TK)), (am 9, .inl (kd, 2, .inr (.inr (.inr (.inl FA)))))]) (my_runV (bytes := cX7_fail) (maxL := 2) (ret := (some .int)) (n := 1) (As := [.int 2]) (rest := []) S hl.1 (mm_fail l D kd ki kz kl z am 0 n kn 2) rfl ⟨rfl, rfl⟩ gX7_setTail_X7_fail (by decide +kernel) rfl ⟨Nat.le_of_ble_eq_true rfl, Nat.le_of_ble_eq_true rfl⟩ (my_preW (my_C_S hC hS hz) (my_P_sub (wc := [(am 0, .inr (7, [.int 0, .int (nI n), .ref (am 1), .ref (am 2), .ref (am 3), .int (nI kn), .ref (am 4), .ref (am 5), .ref (am 6), .ref (am 7), .ref (am 8), .ref (am 9), .ref (am 10), .ref (am 11), .ref (am 12)]))]) hP [0] rfl) (my_D_sub hD hz [0] (by decide) rfl)) (va_recv hC.1 hP (ci := 7) (q0 := 0) rfl rfl) rfl rfl dX7_setTail_64) hP hD hS [0] rfl rfl rfl (fun H locs hP hD hS => ?_)
              refine W.eq (g2 := F0 m 67 ls [.int 0]) rfl ?_
              exact my_iretW hx hb hr hlocks hP (rfl) hS (rfl) dX7_setTail_67
            · skip
              first | exact absurd c_47 (by decide) | exact absurd (by decide) c_47
    · have c_17 : ¬ 0 ≤ 1 := fun h9 => c_17 ((nI_leI (a := 0) (b := 1) (by omega) (by omega)).mpr h9)
      exact absurd c_17 (by omega)

theorem iw_X7_limit_X7 : ∀ w ∈ wsX70, w ∈ wsX7_limit := fun w h => List.mem_cons_of_mem _ (List.mem_append_right _ (h))
set_option maxHeartbeats 4000000 in
set_option maxRecDepth 100000 in
theorem mm_limit0 (l : Launch) (D : va_G) (kd ki kz kl : ClassId) (z : Nat) (am : Nat → Nat) (th : Int32) (n : Nat) (kn : Nat) (P : Nat → UInt64) (V : Nat → UInt64) (TK : Nat → Int32) (FA : Nat → UInt64) (kd9 : Nat) (fa : UInt64) (hJ : KJ kn P V) (hT : TK 0 = nI kd9) (hF : FA 0 = fa) (h0 : kd9 ≤ 6) (hfa : PY fa) (hfz : 4 ≤ kd9 → ¬ sp_eq fa 0) : my_WR l D kd ki kz kl z yX7_limit wsX7_limit ({ frames := 0, cells := 0, slots := 0, locals := 0 }) [.ref (am 0), .int (nI 0)] [(am 0, .inr (7, [.int th, .int (nI n), .ref (am 1), .ref (am 2), .ref (am 3), .int (nI kn), .ref (am 4), .ref (am 5), .ref (am 6), .ref (am 7), .ref (am 8), .ref (am 9), .ref (am 10), .ref (am 11), .ref (am 12)])), (am 5, .inl (kd, 60, .inr (.inr (.inr (.inl V))))), (am 8, .inl (ki, 2, .inl TK)), (am 9, .inl (kd, 2, .inr (.inr (.inr (.inl FA)))))] [(am 0, .inr (7, [.int 0, .int (nI n), .ref (am 1), .ref (am 2), .ref (am 3), .int (nI kn), .ref (am 4), .ref (am 5), .ref (am 6), .ref (am 7), .ref (am 8), .ref (am 9), .ref (am 10), .ref (am 11), .ref (am 12)])), (am 5, .inl (kd, 60, .inr (.inr (.inr (.inl V))))), (am 8, .inl (ki, 2, .inl TK)), (am 9, .inl (kd, 2, .inr (.inr (.inr (.inl FA)))))] (some (.double (s_lim 1 kd9 fa (V (0))))) := by
  refine my_WR_of (cc := cX7_limit) (maxL := 8) (ret := (some .double)) (by decide) rfl (Nat.le_of_ble_eq_true rfl) ?_
  intro p e s m below meth c S hr hlocks hC hP hD hz hS ls hl
  have S : CallFix p m c cX7_limit 8 s ([.ref (am 0), .int (nI 0)] : List Value).toArray wsX7_limit RX7 := S
  obtain ⟨hx, hb, hml, hown, hts⟩ := id S
  have hl : lv_has ls 8 [(0, .ref (am 0)), (1, .int (nI 0))] := hl
  suffices K0 : ∀ (H : Heap) (locs : List Loc), va_P D vwCl [(am 0, .inr (7, [.int th, .int (nI n), .ref (am 1), .ref (am 2), .ref (am 3), .int (nI kn), .ref (am 4), .ref (am 5), .ref (am 6), .ref (am 7), .ref (am 8), .ref (am 9), .ref (am 10), .ref (am 11), .ref (am 12)])), (am 5, .inl (kd, 60, .inr (.inr (.inr (.inl V))))), (am 8, .inl (ki, 2, .inl TK)), (am 9, .inl (kd, 2, .inr (.inr (.inr (.inl FA)))))] H → va_D (my_A [(am 0, .inr (7, [.int th, .int (nI n), .ref (am 1), .ref (am 2), .ref (am 3), .int (nI kn), .ref (am 4), .ref (am 5), .ref (am 6), .ref (am 7), .ref (am 8), .ref (am 9), .ref (am 10), .ref (am 11), .ref (am 12)])), (am 5, .inl (kd, 60, .inr (.inr (.inr (.inl V))))), (am 8, .inl (ki, 2, .inl TK)), (am 9, .inl (kd, 2, .inr (.inr (.inr (.inl FA)))))]) [(am 0, .inr (7, [.int th, .int (nI n), .ref (am 1), .ref (am 2), .ref (am 3), .int (nI kn), .ref (am 4), .ref (am 5), .ref (am 6), .ref (am 7), .ref (am 8), .ref (am 9), .ref (am 10), .ref (am 11), .ref (am 12)])), (am 5, .inl (kd, 60, .inr (.inr (.inr (.inl V))))), (am 8, .inl (ki, 2, .inl TK)), (am 9, .inl (kd, 2, .inr (.inr (.inr (.inl FA)))))] → va_S (my_A [(am 0, .inr (7, [.int th, .int (nI n), .ref (am 1), .ref (am 2), .ref (am 3), .int (nI kn), .ref (am 4), .ref (am 5), .ref (am 6), .ref (am 7), .ref (am 8), .ref (am 9), .ref (am 10), .ref (am 11), .ref (am 12)])), (am 5, .inl (kd, 60, .inr (.inr (.inr (.inl V))))), (am 8, .inl (ki, 2, .inl TK)), (am 9, .inl (kd, 2, .inr (.inr (.inr (.inl FA)))))]) s.heap H locs → W p l e ({ frames := 0, cells := 0, slots := 0, locals := 0 }) s m ([.ref (am 0), .int (nI 0)] : List Value).toArray below meth c H locs 0 0 (my_WQ below D ([.ref (am 0), .int (nI 0)] : List Value).toArray s [(am 0, .inr (7, [.int th, .int (nI n), .ref (am 1), .ref (am 2), .ref (am 3), .int (nI kn), .ref (am 4), .ref (am 5), .ref (am 6), .ref (am 7), .ref (am 8), .ref (am 9), .ref (am 10), .ref (am 11), .ref (am 12)])), (am 5, .inl (kd, 60, .inr (.inr (.inr (.inl V))))), (am 8, .inl (ki, 2, .inl TK)), (am 9, .inl (kd, 2, .inr (.inr (.inr (.inl FA)))))] [(am 0, .inr (7, [.int 0, .int (nI n), .ref (am 1), .ref (am 2), .ref (am 3), .int (nI kn), .ref (am 4), .ref (am 5), .ref (am 6), .ref (am 7), .ref (am 8), .ref (am 9), .ref (am 10), .ref (am 11), .ref (am 12)])), (am 5, .inl (kd, 60, .inr (.inr (.inr (.inl V))))), (am 8, .inl (ki, 2, .inl TK)), (am 9, .inl (kd, 2, .inr (.inr (.inr (.inl FA)))))] (some (.double (s_lim 1 kd9 fa (V (0)))))) (F0 m 0 ls []) from K0 _ _ hP hD hS
  intro H locs hP hD hS
  have hkn := hJ.2.1
  have hkn2 := hJ.1
  refine lv_aload_n hx hb dX7_limit_0 rfl (lv_at hl 0 rfl) ?_
  refine lv_iconst (v := 0) hx hb dX7_limit_1 (by decide) ?_
  refine va_put (D := D) (ci := 7) (v := .int 0) (ty := .int) (C := RX7) (T := TX7) (N := 15) hx hb hts iw_X7_limit_X7 tyX7 tyX7_ok nmX7 hown hC.1 hP hD hS 0 rfl rfl 0 (by decide) (hts (.fieldLink RX7 48 "MonotoneSplineModel" "thrown" "I") (List.mem_of_getElem? (l := wsX7_limit) (i := 1) rfl)) (fun _ h9 => h9) rfl (by decide +kernel) rfl rfl (Nat.le_of_ble_eq_true rfl) dX7_limit_2 (fun H locs hP hD hS => ?_)
  have hP : va_P D vwCl [(am 0, .inr (7, [.int 0, .int (nI n), .ref (am 1), .ref (am 2), .ref (am 3), .int (nI kn), .ref (am 4), .ref (am 5), .ref (am 6), .ref (am 7), .ref (am 8), .ref (am 9), .ref (am 10), .ref (am 11), .ref (am 12)])), (am 5, .inl (kd, 60, .inr (.inr (.inr (.inl V))))), (am 8, .inl (ki, 2, .inl TK)), (am 9, .inl (kd, 2, .inr (.inr (.inr (.inl FA)))))] H := hP
  have hD : va_D (my_A [(am 0, .inr (7, [.int th, .int (nI n), .ref (am 1), .ref (am 2), .ref (am 3), .int (nI kn), .ref (am 4), .ref (am 5), .ref (am 6), .ref (am 7), .ref (am 8), .ref (am 9), .ref (am 10), .ref (am 11), .ref (am 12)])), (am 5, .inl (kd, 60, .inr (.inr (.inr (.inl V))))), (am 8, .inl (ki, 2, .inl TK)), (am 9, .inl (kd, 2, .inr (.inr (.inr (.inl FA)))))]) [(am 0, .inr (7, [.int 0, .int (nI n), .ref (am 1), .ref (am 2), .ref (am 3), .int (nI kn), .ref (am 4), .ref (am 5), .ref (am 6), .ref (am 7), .ref (am 8), .ref (am 9), .ref (am 10), .ref (am 11), .ref (am 12)])), (am 5, .inl (kd, 60, .inr (.inr (.inr (.inl V))))), (am 8, .inl (ki, 2, .inl TK)), (am 9, .inl (kd, 2, .inr (.inr (.inr (.inl FA)))))] := hD
  refine lv_iload_n hx hb dX7_limit_5 rfl (lv_at hl 1 rfl) ?_
  refine lv_if_lt (tgt := 14) hx hb dX7_limit_6 (by decide) (fun c_6 => ?_) (fun c_6 => ?_)
  · have c_6 : 0 < 0 := (nI_ltI (a := 0) (b := 0) (by omega) (by omega)).mp c_6
    exact absurd c_6 (by omega)
  · have c_6 : ¬ 0 < 0 := fun h9 => c_6 ((nI_ltI (a := 0) (b := 0) (by omega) (by omega)).mpr h9)
    refine lv_iload_n hx hb dX7_limit_9 rfl (lv_at hl 1 rfl) ?_
    refine lv_iconst (v := 1) hx hb dX7_limit_10 (by decide) ?_
    refine lv_icmp_le (tgt := 21) hx hb dX7_limit_11 (by decide) (fun c_11 => ?_) (fun c_11 => ?_)
    · have c_11 : 0 ≤ 1 := (nI_leI (a := 0) (b := 1) (by omega) (by omega)).mp c_11
      refine lv_aload_n hx hb dX7_limit_21 rfl (lv_at hl 0 rfl) ?_
      refine va_get (D := D) (ci := 7) (v := .int (nI kn)) (C := RX7) (T := TX7) (N := 15) hx hb hts iw_X7_limit_X7 hown hC.1 hP 0 rfl rfl 5 (by decide) (hts (.fieldLink RX7 56 "MonotoneSplineModel" "knots" "I") (List.mem_of_getElem? (l := wsX7_limit) (i := 2) rfl)) (fun _ h9 => h9) rfl dX7_limit_22 ?_
      refine lv_if_ne (tgt := 35) hx hb dX7_limit_25 (by decide) (fun c_25 => ?_) (fun c_25 => ?_)
      · have c_25 : ¬ kn = 0 := fun h9 => c_25 ((nI_eq (a := kn) (b := 0) (by omega) (by omega)).mpr h9)
        refine lv_iload_n hx hb dX7_limit_35 rfl (lv_at hl 1 rfl) ?_
        refine lv_if_ne (tgt := 48) hx hb dX7_limit_36 (by decide) (fun c_36 => ?_) (fun c_36 => ?_)
        · have c_36 : ¬ 0 = 0 := fun h9 => c_36 ((nI_eq (a := 0) (b := 0) (by omega) (by omega)).mpr h9)
          exact absurd rfl c_36
        · have c_36 : 0 = 0 := (nI_eq (a := 0) (b := 0) (by omega) (by omega)).mp c_36
          refine lv_aload_n hx hb dX7_limit_39 rfl (lv_at hl 0 rfl) ?_
          refine va_get (D := D) (ci := 7) (v := .ref (am 5)) (C := RX7) (T := TX7) (N := 15) hx hb hts iw_X7_limit_X7 hown hC.1 hP 0 rfl rfl 7 (by decide) (hts (.fieldLink RX7 22 "MonotoneSplineModel" "values" "[D") (List.mem_of_getElem? (l := wsX7_limit) (i := 3) rfl)) (fun _ h9 => h9) rfl dX7_limit_40 ?_
          refine lv_iconst (v := 0) hx hb dX7_limit_43 (by decide) ?_
          refine my_dald (k := 0) (n := 60) (f := V) hx hb hC hP 1 rfl (by omega) (by omega) dX7_limit_44 ?_
          refine lv_goto (tgt := 59) hx hb dX7_limit_45 (by decide) ?_
          refine my_topd (w := V (0)) (rfl) ?_
          refine lv_dstore_n (lv' := [(2, .double (V (0))), (0, .ref (am 0)), (1, .int (nI 0))]) hx hb dX7_limit_59 rfl hl (by decide) rfl (fun ls hl => ?_)
          refine lv_iload_n hx hb dX7_limit_60 rfl (lv_at hl 2 rfl) ?_
          refine lv_if_ne (tgt := 70) hx hb dX7_limit_61 (by decide) (fun c_61 => ?_) (fun c_61 => ?_)
          · have c_61 : ¬ 0 = 0 := fun h9 => c_61 ((nI_eq (a := 0) (b := 0) (by omega) (by omega)).mpr h9)
            exact absurd rfl c_61
          · have c_61 : 0 = 0 := (nI_eq (a := 0) (b := 0) (by omega) (by omega)).mp c_61
            refine lv_ldc2d hx hb hown (hts (.constantDouble RX7 154 (13830554455654793216)) (List.mem_of_getElem? (l := wsX7_limit) (i := 4) rfl)) dX7_limit_64 ?_
            refine lv_goto (tgt := 71) hx hb dX7_limit_67 (by decide) ?_
            refine lv_dstore (lv' := [(4, .double 13830554455654793216), (2, .double (V (0))), (0, .ref (am 0)), (1, .int (nI 0))]) hx hb dX7_limit_71 hl (by decide) rfl (fun ls hl => ?_)
            refine lv_aload_n hx hb dX7_limit_73 rfl (lv_at hl 2 rfl) ?_
            refine va_get (D := D) (ci := 7) (v := .ref (am 9)) (C := RX7) (T := TX7) (N := 15) hx hb hts iw_X7_limit_X7 hown hC.1 hP 0 rfl rfl 11 (by decide) (hts (.fieldLink RX7 36 "MonotoneSplineModel" "factors" "[D") (List.mem_of_getElem? (l := wsX7_limit) (i := 5) rfl)) (fun _ h9 => h9) rfl dX7_limit_74 ?_
            refine lv_iload_n hx hb dX7_limit_77 rfl (lv_at hl 3 rfl) ?_
            refine my_dald (k := 0) (n := 2) (f := FA) hx hb hC hP 3 rfl (by omega) (by omega) dX7_limit_78 ?_
            refine my_topd (w := fa) (hF) ?_
            refine lv_dstore (lv' := [(6, .double fa), (4, .double 13830554455654793216), (2, .double (V (0))), (0, .ref (am 0)), (1, .int (nI 0))]) hx hb dX7_limit_79 hl (by decide) rfl (fun ls hl => ?_)
            refine lv_aload_n hx hb dX7_limit_81 rfl (lv_at hl 3 rfl) ?_
            refine va_get (D := D) (ci := 7) (v := .ref (am 8)) (C := RX7) (T := TX7) (N := 15) hx hb hts iw_X7_limit_X7 hown hC.1 hP 0 rfl rfl 10 (by decide) (hts (.fieldLink RX7 32 "MonotoneSplineModel" "tailKinds" "[I") (List.mem_of_getElem? (l := wsX7_limit) (i := 6) rfl)) (fun _ h9 => h9) rfl dX7_limit_82 ?_
            refine lv_iload_n hx hb dX7_limit_85 rfl (lv_at hl 4 rfl) ?_
            refine my_iald (k := 0) (n := 2) (f := TK) hx hb hC hP 2 rfl (by omega) (by omega) dX7_limit_86 ?_
            refine my_topi (w := nI kd9) (hT) ?_
            by_cases sw_87_0 : kd9 = 0
            · refine my_topi (w := 0) (by rw [sw_87_0]; rfl) ?_
              refine lv_tableIn (off := 41) (tgt := 128) hx hb dX7_limit_87 (by decide) (by decide) (by decide) (by decide) ?_
              refine lv_dload_n hx hb dX7_limit_128 rfl (lv_at hl 2 rfl) ?_
              exact my_dretW hx hb hr hlocks hP (rfl) hS (by unfold s_lim; rw [if_neg (by omega), if_neg (by omega), if_neg (by omega), if_neg (by omega), if_neg (by omega)]) dX7_limit_129
            by_cases sw_87_1 : kd9 = 1
            · refine my_topi (w := 1) (by rw [sw_87_1]; rfl) ?_
              refine lv_tableIn (off := 43) (tgt := 130) hx hb dX7_limit_87 (by decide) (by decide) (by decide) (by decide) ?_
              refine lv_dload_n hx hb dX7_limit_130 rfl (lv_at hl 2 rfl) ?_
              refine lv_dload hx hb dX7_limit_131 (lv_at hl 0 rfl) ?_
              refine lv_dload hx hb dX7_limit_133 (lv_at hl 1 rfl) ?_
              refine lv_ldc2d hx hb hown (hts (.constantDouble RX7 156 (4609753056924675352)) (List.mem_of_getElem? (l := wsX7_limit) (i := 7) rfl)) dX7_limit_135 ?_
              refine lv_dmul hx hb dX7_limit_138 (fx_n64 (by unfold fx_n; decide +kernel)) ?_
              refine my_topd (w := s_mir 1 4609753056924675352) (by decide +kernel) ?_
              refine lv_dmul hx hb dX7_limit_139 (fx_n64 ((s_lim_n (c := 4609753056924675352) (lf := 1) hfa (hJ.2.2.2.1 (0) (by omega)).1 (Or.inl rfl)).1.1)) ?_
              refine lv_dadd hx hb dX7_limit_140 (fx_n64 ((s_lim_n (c := 4609753056924675352) (lf := 1) hfa (hJ.2.2.2.1 (0) (by omega)).1 (Or.inl rfl)).1.2)) ?_
              exact my_dretW hx hb hr hlocks hP (rfl) hS ((if_pos sw_87_1).symm) dX7_limit_141
            by_cases sw_87_2 : kd9 = 2
            · refine my_topi (w := 2) (by rw [sw_87_2]; rfl) ?_
              refine lv_tableIn (off := 55) (tgt := 142) hx hb dX7_limit_87 (by decide) (by decide) (by decide) (by decide) ?_
              refine lv_dload_n hx hb dX7_limit_142 rfl (lv_at hl 2 rfl) ?_
              refine lv_dload hx hb dX7_limit_143 (lv_at hl 0 rfl) ?_
              refine lv_dload hx hb dX7_limit_145 (lv_at hl 1 rfl) ?_
              refine my_topd (w := s_mir 1 4607182418800017408) (by decide) ?_
              refine lv_dmul hx hb dX7_limit_147 (fx_n64 ((s_lim_n (c := 4607182418800017408) (lf := 1) hfa (hJ.2.2.2.1 (0) (by omega)).1 (Or.inr (Or.inl rfl))).1.1)) ?_
              refine lv_dadd hx hb dX7_limit_148 (fx_n64 ((s_lim_n (c := 4607182418800017408) (lf := 1) hfa (hJ.2.2.2.1 (0) (by omega)).1 (Or.inr (Or.inl rfl))).1.2)) ?_
              exact my_dretW hx hb hr hlocks hP (rfl) hS (by unfold s_lim; rw [if_neg sw_87_1, if_pos sw_87_2]) dX7_limit_149
            by_cases sw_87_3 : kd9 = 3
            · refine my_topi (w := 3) (by rw [sw_87_3]; rfl) ?_
              refine lv_tableIn (off := 63) (tgt := 150) hx hb dX7_limit_87 (by decide) (by decide) (by decide) (by decide) ?_
              refine lv_dload_n hx hb dX7_limit_150 rfl (lv_at hl 2 rfl) ?_
              refine lv_dload hx hb dX7_limit_151 (lv_at hl 0 rfl) ?_
              refine lv_ldc2d hx hb hown (hts (.constantDouble RX7 154 (13830554455654793216)) (List.mem_of_getElem? (l := wsX7_limit) (i := 4) rfl)) dX7_limit_153 ?_
              refine lv_dmul hx hb dX7_limit_156 (fx_n64 ((s_lim_n (c := 13830554455654793216) (lf := 1) hfa (hJ.2.2.2.1 (0) (by omega)).1 (Or.inr (Or.inr rfl))).2.1)) ?_
              refine lv_dadd hx hb dX7_limit_157 (fx_n64 ((s_lim_n (c := 13830554455654793216) (lf := 1) hfa (hJ.2.2.2.1 (0) (by omega)).1 (Or.inr (Or.inr rfl))).2.2)) ?_
              exact my_dretW hx hb hr hlocks hP (rfl) hS (by unfold s_lim; rw [if_neg sw_87_1, if_neg sw_87_2, if_pos sw_87_3]) dX7_limit_158
            by_cases sw_87_4 : kd9 = 4
            · refine my_topi (w := 4) (by rw [sw_87_4]; rfl) ?_
              refine lv_tableIn (off := 89) (tgt := 176) hx hb dX7_limit_87 (by decide) (by decide) (by decide) (by decide) ?_
              refine lv_dload hx hb dX7_limit_176 (lv_at hl 0 rfl) ?_
              refine lv_dload hx hb dX7_limit_178 (lv_at hl 1 rfl) ?_
              refine lv_dmul hx hb dX7_limit_180 (fx_n64 ((s_side0 hfa (hfz (by omega))).1)) ?_
              refine lv_dconst0 hx hb dX7_limit_181 ?_
              refine my_topd (w := 0) (by decide) ?_
              refine lv_dcmp hx hb dX7_limit_182 ?_
              refine lv_if_le (tgt := 192) hx hb dX7_limit_183 (by decide) (fun c_183 => ?_) (fun c_183 => ?_)
              · have c_183 := cv_l_le_t c_183
                refine lv_ldc2d hx hb hown (hts (.constantDouble RX7 162 (18442240474082181120)) (List.mem_of_getElem? (l := wsX7_limit) (i := 9) rfl)) dX7_limit_192 ?_
                exact my_dretW hx hb hr hlocks hP (rfl) hS (by unfold s_lim; rw [if_neg (by omega), if_neg (by omega), if_neg (by omega), if_pos (by omega), if_neg (fun h9 => h9.elim (fun h8 => absurd h8.2 (by decide)) (fun h8 => c_183 ((s_side0 hfa (hfz (by omega))).2.mpr h8.1)))]) dX7_limit_195
              · have c_183 := cv_l_le_f c_183
                refine lv_ldc2d hx hb hown (hts (.constantDouble RX7 160 (9218868437227405312)) (List.mem_of_getElem? (l := wsX7_limit) (i := 8) rfl)) dX7_limit_186 ?_
                refine lv_goto (tgt := 195) hx hb dX7_limit_189 (by decide) ?_
                exact my_dretW hx hb hr hlocks hP (rfl) hS (by unfold s_lim; rw [if_neg (by omega), if_neg (by omega), if_neg (by omega), if_pos (by omega), if_pos (Or.inr ⟨(s_side0 hfa (hfz (by omega))).2.mp c_183, by decide⟩)]) dX7_limit_195
            by_cases sw_87_5 : kd9 = 5
            · refine my_topi (w := 5) (by rw [sw_87_5]; rfl) ?_
              refine lv_tableIn (off := 89) (tgt := 176) hx hb dX7_limit_87 (by decide) (by decide) (by decide) (by decide) ?_
              refine lv_dload hx hb dX7_limit_176 (lv_at hl 0 rfl) ?_
              refine lv_dload hx hb dX7_limit_178 (lv_at hl 1 rfl) ?_
              refine lv_dmul hx hb dX7_limit_180 (fx_n64 ((s_side0 hfa (hfz (by omega))).1)) ?_
              refine lv_dconst0 hx hb dX7_limit_181 ?_
              refine my_topd (w := 0) (by decide) ?_
              refine lv_dcmp hx hb dX7_limit_182 ?_
              refine lv_if_le (tgt := 192) hx hb dX7_limit_183 (by decide) (fun c_183 => ?_) (fun c_183 => ?_)
              · have c_183 := cv_l_le_t c_183
                refine lv_ldc2d hx hb hown (hts (.constantDouble RX7 162 (18442240474082181120)) (List.mem_of_getElem? (l := wsX7_limit) (i := 9) rfl)) dX7_limit_192 ?_
                exact my_dretW hx hb hr hlocks hP (rfl) hS (by unfold s_lim; rw [if_neg (by omega), if_neg (by omega), if_neg (by omega), if_pos (by omega), if_neg (fun h9 => h9.elim (fun h8 => absurd h8.2 (by decide)) (fun h8 => c_183 ((s_side0 hfa (hfz (by omega))).2.mpr h8.1)))]) dX7_limit_195
              · have c_183 := cv_l_le_f c_183
                refine lv_ldc2d hx hb hown (hts (.constantDouble RX7 160 (9218868437227405312)) (List.mem_of_getElem? (l := wsX7_limit) (i := 8) rfl)) dX7_limit_186 ?_
                refine lv_goto (tgt := 195) hx hb dX7_limit_189 (by decide) ?_
                exact my_dretW hx hb hr hlocks hP (rfl) hS (by unfold s_lim; rw [if_neg (by omega), if_neg (by omega), if_neg (by omega), if_pos (by omega), if_pos (Or.inr ⟨(s_side0 hfa (hfz (by omega))).2.mp c_183, by decide⟩)]) dX7_limit_195
            by_cases sw_87_6 : kd9 = 6
            · refine my_topi (w := 6) (by rw [sw_87_6]; rfl) ?_
              refine lv_tableIn (off := 72) (tgt := 159) hx hb dX7_limit_87 (by decide) (by decide) (by decide) (by decide) ?_
              refine lv_dload hx hb dX7_limit_159 (lv_at hl 0 rfl) ?_
              refine lv_dconst0 hx hb dX7_limit_161 ?_
              refine my_topd (w := 0) (by decide) ?_
              refine lv_dcmp hx hb dX7_limit_162 ?_
              refine lv_if_le (tgt := 172) hx hb dX7_limit_163 (by decide) (fun c_163 => ?_) (fun c_163 => ?_)
              · have c_163 := cv_l_le_t c_163
                refine lv_ldc2d hx hb hown (hts (.constantDouble RX7 162 (18442240474082181120)) (List.mem_of_getElem? (l := wsX7_limit) (i := 9) rfl)) dX7_limit_172 ?_
                exact my_dretW hx hb hr hlocks hP (rfl) hS (by unfold s_lim; rw [if_neg (by omega), if_neg (by omega), if_neg (by omega), if_neg (by omega), if_pos (by omega), if_neg c_163]) dX7_limit_175
              · have c_163 := cv_l_le_f c_163
                refine lv_ldc2d hx hb hown (hts (.constantDouble RX7 160 (9218868437227405312)) (List.mem_of_getElem? (l := wsX7_limit) (i := 8) rfl)) dX7_limit_166 ?_
                refine lv_goto (tgt := 175) hx hb dX7_limit_169 (by decide) ?_
                exact my_dretW hx hb hr hlocks hP (rfl) hS (by unfold s_lim; rw [if_neg (by omega), if_neg (by omega), if_neg (by omega), if_neg (by omega), if_pos (by omega), if_pos c_163]) dX7_limit_175
            exact absurd h0 (by omega)
      · have c_25 : kn = 0 := (nI_eq (a := kn) (b := 0) (by omega) (by omega)).mp c_25
        exact absurd c_25 (by omega)
    · have c_11 : ¬ 0 ≤ 1 := fun h9 => c_11 ((nI_leI (a := 0) (b := 1) (by omega) (by omega)).mpr h9)
      exact absurd c_11 (by omega)

set_option maxHeartbeats 4000000 in
set_option maxRecDepth 100000 in
theorem mm_limit0_2 (l : Launch) (D : va_G) (kd ki kz kl : ClassId) (z : Nat) (am : Nat → Nat) (th : Int32) (n : Nat) : my_WR l D kd ki kz kl z yX7_limit wsX7_limit ({ frames := 1, cells := 0, slots := 0, locals := 21 }) [.ref (am 0), .int (nI 0)] [(am 0, .inr (7, [.int th, .int (nI n), .ref (am 1), .ref (am 2), .ref (am 3), .int (nI 0), .ref (am 4), .ref (am 5), .ref (am 6), .ref (am 7), .ref (am 8), .ref (am 9), .ref (am 10), .ref (am 11), .ref (am 12)]))] [(am 0, .inr (7, [.int 2, .int (nI n), .ref (am 1), .ref (am 2), .ref (am 3), .int (nI 0), .ref (am 4), .ref (am 5), .ref (am 6), .ref (am 7), .ref (am 8), .ref (am 9), .ref (am 10), .ref (am 11), .ref (am 12)]))] (some (.double (FP.i2d 0))) := by
  refine my_WR_of (cc := cX7_limit) (maxL := 8) (ret := (some .double)) (by decide) rfl (Nat.le_of_ble_eq_true rfl) ?_
  intro p e s m below meth c S hr hlocks hC hP hD hz hS ls hl
  have S : CallFix p m c cX7_limit 8 s ([.ref (am 0), .int (nI 0)] : List Value).toArray wsX7_limit RX7 := S
  obtain ⟨hx, hb, hml, hown, hts⟩ := id S
  have hl : lv_has ls 8 [(0, .ref (am 0)), (1, .int (nI 0))] := hl
  suffices K0 : ∀ (H : Heap) (locs : List Loc), va_P D vwCl [(am 0, .inr (7, [.int th, .int (nI n), .ref (am 1), .ref (am 2), .ref (am 3), .int (nI 0), .ref (am 4), .ref (am 5), .ref (am 6), .ref (am 7), .ref (am 8), .ref (am 9), .ref (am 10), .ref (am 11), .ref (am 12)]))] H → va_D (my_A [(am 0, .inr (7, [.int th, .int (nI n), .ref (am 1), .ref (am 2), .ref (am 3), .int (nI 0), .ref (am 4), .ref (am 5), .ref (am 6), .ref (am 7), .ref (am 8), .ref (am 9), .ref (am 10), .ref (am 11), .ref (am 12)]))]) [(am 0, .inr (7, [.int th, .int (nI n), .ref (am 1), .ref (am 2), .ref (am 3), .int (nI 0), .ref (am 4), .ref (am 5), .ref (am 6), .ref (am 7), .ref (am 8), .ref (am 9), .ref (am 10), .ref (am 11), .ref (am 12)]))] → va_S (my_A [(am 0, .inr (7, [.int th, .int (nI n), .ref (am 1), .ref (am 2), .ref (am 3), .int (nI 0), .ref (am 4), .ref (am 5), .ref (am 6), .ref (am 7), .ref (am 8), .ref (am 9), .ref (am 10), .ref (am 11), .ref (am 12)]))]) s.heap H locs → W p l e ({ frames := 1, cells := 0, slots := 0, locals := 21 }) s m ([.ref (am 0), .int (nI 0)] : List Value).toArray below meth c H locs 0 0 (my_WQ below D ([.ref (am 0), .int (nI 0)] : List Value).toArray s [(am 0, .inr (7, [.int th, .int (nI n), .ref (am 1), .ref (am 2), .ref (am 3), .int (nI 0), .ref (am 4), .ref (am 5), .ref (am 6), .ref (am 7), .ref (am 8), .ref (am 9), .ref (am 10), .ref (am 11), .ref (am 12)]))] [(am 0, .inr (7, [.int 2, .int (nI n), .ref (am 1), .ref (am 2), .ref (am 3), .int (nI 0), .ref (am 4), .ref (am 5), .ref (am 6), .ref (am 7), .ref (am 8), .ref (am 9), .ref (am 10), .ref (am 11), .ref (am 12)]))] (some (.double (FP.i2d 0)))) (F0 m 0 ls []) from K0 _ _ hP hD hS
  intro H locs hP hD hS
  refine lv_aload_n hx hb dX7_limit_0 rfl (lv_at hl 0 rfl) ?_
  refine lv_iconst (v := 0) hx hb dX7_limit_1 (by decide) ?_
  refine va_put (D := D) (ci := 7) (v := .int 0) (ty := .int) (C := RX7) (T := TX7) (N := 15) hx hb hts iw_X7_limit_X7 tyX7 tyX7_ok nmX7 hown hC.1 hP hD hS 0 rfl rfl 0 (by decide) (hts (.fieldLink RX7 48 "MonotoneSplineModel" "thrown" "I") (List.mem_of_getElem? (l := wsX7_limit) (i := 1) rfl)) (fun _ h9 => h9) rfl (by decide +kernel) rfl rfl (Nat.le_of_ble_eq_true rfl) dX7_limit_2 (fun H locs hP hD hS => ?_)
  have hP : va_P D vwCl [(am 0, .inr (7, [.int 0, .int (nI n), .ref (am 1), .ref (am 2), .ref (am 3), .int (nI 0), .ref (am 4), .ref (am 5), .ref (am 6), .ref (am 7), .ref (am 8), .ref (am 9), .ref (am 10), .ref (am 11), .ref (am 12)]))] H := hP
  have hD : va_D (my_A [(am 0, .inr (7, [.int th, .int (nI n), .ref (am 1), .ref (am 2), .ref (am 3), .int (nI 0), .ref (am 4), .ref (am 5), .ref (am 6), .ref (am 7), .ref (am 8), .ref (am 9), .ref (am 10), .ref (am 11), .ref (am 12)]))]) [(am 0, .inr (7, [.int 0, .int (nI n), .ref (am 1), .ref (am 2), .ref (am 3), .int (nI 0), .ref (am 4), .ref (am 5), .ref (am 6), .ref (am 7), .ref (am 8), .ref (am 9), .ref (am 10), .ref (am 11), .ref (am 12)]))] := hD
  refine lv_iload_n hx hb dX7_limit_5 rfl (lv_at hl 1 rfl) ?_
  refine lv_if_lt (tgt := 14) hx hb dX7_limit_6 (by decide) (fun c_6 => ?_) (fun c_6 => ?_)
  · have c_6 : 0 < 0 := (nI_ltI (a := 0) (b := 0) (by omega) (by omega)).mp c_6
    exact absurd c_6 (by omega)
  · have c_6 : ¬ 0 < 0 := fun h9 => c_6 ((nI_ltI (a := 0) (b := 0) (by omega) (by omega)).mpr h9)
    refine lv_iload_n hx hb dX7_limit_9 rfl (lv_at hl 1 rfl) ?_
    refine lv_iconst (v := 1) hx hb dX7_limit_10 (by decide) ?_
    refine lv_icmp_le (tgt := 21) hx hb dX7_limit_11 (by decide) (fun c_11 => ?_) (fun c_11 => ?_)
    · have c_11 : 0 ≤ 1 := (nI_leI (a := 0) (b := 1) (by omega) (by omega)).mp c_11
      refine lv_aload_n hx hb dX7_limit_21 rfl (lv_at hl 0 rfl) ?_
      refine va_get (D := D) (ci := 7) (v := .int (nI 0)) (C := RX7) (T := TX7) (N := 15) hx hb hts iw_X7_limit_X7 hown hC.1 hP 0 rfl rfl 5 (by decide) (hts (.fieldLink RX7 56 "MonotoneSplineModel" "knots" "I") (List.mem_of_getElem? (l := wsX7_limit) (i := 2) rfl)) (fun _ h9 => h9) rfl dX7_limit_22 ?_
      refine lv_if_ne (tgt := 35) hx hb dX7_limit_25 (by decide) (fun c_25 => ?_) (fun c_25 => ?_)
      · have c_25 : ¬ 0 = 0 := fun h9 => c_25 ((nI_eq (a := 0) (b := 0) (by omega) (by omega)).mpr h9)
        exact absurd rfl c_25
      · have c_25 : 0 = 0 := (nI_eq (a := 0) (b := 0) (by omega) (by omega)).mp c_25
        refine lv_aload_n hx hb dX7_limit_28 rfl (lv_at hl 0 rfl) ?_
        refine lv_iconst (v := 2) hx hb dX7_limit_29 (by decide) ?_
        refine my_goW (v := (some (.int 0))) (w1 := [(am 0, .inr (7, [.int 2, .int (nI n), .ref (am 1), .ref (am 2), .ref (am 3), .int (nI 0), .ref (am 4), .ref (am 5), .ref (am 6), .ref (am 7), .ref (am 8), .ref (am 9), .ref (am 10), .ref (am 11), .ref (am 12)]))]) (wx' := [(am 0, .inr (7, [.int 2, .int (nI n), .ref (am 1), .ref (am 2), .ref (am 3), .int (nI 0), .ref (am 4), .ref (am 5), .ref (am 6), .ref (am 7), .ref (am 8), .ref (am 9), .ref (am 10), .ref (am 11), .ref (am 12)]))]) (my_runV (bytes := cX7_fail) (maxL := 2) (ret := (some .int)) (n := 1) (As := [.int 2]) (rest := []) S hl.1 (mm_fail l D kd ki kz kl z am 0 n 0 2) rfl ⟨rfl, rfl⟩ gX7_limit_X7_fail (by decide +kernel) rfl ⟨Nat.le_of_ble_eq_true rfl, Nat.le_of_ble_eq_true rfl⟩ (my_preW (my_C_S hC hS hz) (my_P_sub (wc := [(am 0, .inr (7, [.int 0, .int (nI n), .ref (am 1), .ref (am 2), .ref (am 3), .int (nI 0), .ref (am 4), .ref (am 5), .ref (am 6), .ref (am 7), .ref (am 8), .ref (am 9), .ref (am 10), .ref (am 11), .ref (am 12)]))]) hP [0] rfl) (my_D_sub hD hz [0] (by decide) rfl)) (va_recv hC.1 hP (ci := 7) (q0 := 0) rfl rfl) rfl rfl dX7_limit_30) hP hD hS [0] rfl rfl rfl (fun H locs hP hD hS => ?_)
        refine W.eq (g2 := F0 m 33 ls [.int 0]) rfl ?_
        refine lv_i2d hx hb dX7_limit_33 ?_
        exact my_dretW hx hb hr hlocks hP (rfl) hS (rfl) dX7_limit_34
    · have c_11 : ¬ 0 ≤ 1 := fun h9 => c_11 ((nI_leI (a := 0) (b := 1) (by omega) (by omega)).mpr h9)
      exact absurd c_11 (by omega)

set_option maxHeartbeats 4000000 in
set_option maxRecDepth 100000 in
theorem mm_setTail1 (l : Launch) (D : va_G) (kd ki kz kl : ClassId) (z : Nat) (am : Nat → Nat) (th : Int32) (n : Nat) (kn : Nat) (TK : Nat → Int32) (FA : Nat → UInt64) (kd9 : Nat) (a : UInt64) (h0 : kd9 ≤ 6) (h1 : sp_ge (s_st a) 13920209183539462144 ∧ sp_le (s_st a) 4696837146684686336) (h2 : 4 ≤ kd9 → ¬ sp_eq (s_st a) 0) : my_WR l D kd ki kz kl z yX7_setTail wsX7_setTail ({ frames := 1, cells := 0, slots := 0, locals := 25 }) [.ref (am 0), .int (nI 1), .int (nI kd9), .double a] [(am 0, .inr (7, [.int th, .int (nI n), .ref (am 1), .ref (am 2), .ref (am 3), .int (nI kn), .ref (am 4), .ref (am 5), .ref (am 6), .ref (am 7), .ref (am 8), .ref (am 9), .ref (am 10), .ref (am 11), .ref (am 12)])), (am 8, .inl (ki, 2, .inl TK)), (am 9, .inl (kd, 2, .inr (.inr (.inr (.inl FA)))))] [(am 0, .inr (7, [.int 0, .int (nI n), .ref (am 1), .ref (am 2), .ref (am 3), .int (nI kn), .ref (am 4), .ref (am 5), .ref (am 6), .ref (am 7), .ref (am 8), .ref (am 9), .ref (am 10), .ref (am 11), .ref (am 12)])), (am 8, .inl (ki, 2, .inl (upd TK 1 (nI kd9)))), (am 9, .inl (kd, 2, .inr (.inr (.inr (.inl (vf_upd FA 1 (s_st a)))))))] (some (.int (TK 1))) := by
  refine my_WR_of (cc := cX7_setTail) (maxL := 8) (ret := (some .int)) (by decide) rfl (Nat.le_of_ble_eq_true rfl) ?_
  intro p e s m below meth c S hr hlocks hC hP hD hz hS ls hl
  have S : CallFix p m c cX7_setTail 8 s ([.ref (am 0), .int (nI 1), .int (nI kd9), .double a] : List Value).toArray wsX7_setTail RX7 := S
  obtain ⟨hx, hb, hml, hown, hts⟩ := id S
  have hl : lv_has ls 8 [(0, .ref (am 0)), (1, .int (nI 1)), (2, .int (nI kd9)), (3, .double a)] := hl
  suffices K0 : ∀ (H : Heap) (locs : List Loc), va_P D vwCl [(am 0, .inr (7, [.int th, .int (nI n), .ref (am 1), .ref (am 2), .ref (am 3), .int (nI kn), .ref (am 4), .ref (am 5), .ref (am 6), .ref (am 7), .ref (am 8), .ref (am 9), .ref (am 10), .ref (am 11), .ref (am 12)])), (am 8, .inl (ki, 2, .inl TK)), (am 9, .inl (kd, 2, .inr (.inr (.inr (.inl FA)))))] H → va_D (my_A [(am 0, .inr (7, [.int th, .int (nI n), .ref (am 1), .ref (am 2), .ref (am 3), .int (nI kn), .ref (am 4), .ref (am 5), .ref (am 6), .ref (am 7), .ref (am 8), .ref (am 9), .ref (am 10), .ref (am 11), .ref (am 12)])), (am 8, .inl (ki, 2, .inl TK)), (am 9, .inl (kd, 2, .inr (.inr (.inr (.inl FA)))))]) [(am 0, .inr (7, [.int th, .int (nI n), .ref (am 1), .ref (am 2), .ref (am 3), .int (nI kn), .ref (am 4), .ref (am 5), .ref (am 6), .ref (am 7), .ref (am 8), .ref (am 9), .ref (am 10), .ref (am 11), .ref (am 12)])), (am 8, .inl (ki, 2, .inl TK)), (am 9, .inl (kd, 2, .inr (.inr (.inr (.inl FA)))))] → va_S (my_A [(am 0, .inr (7, [.int th, .int (nI n), .ref (am 1), .ref (am 2), .ref (am 3), .int (nI kn), .ref (am 4), .ref (am 5), .ref (am 6), .ref (am 7), .ref (am 8), .ref (am 9), .ref (am 10), .ref (am 11), .ref (am 12)])), (am 8, .inl (ki, 2, .inl TK)), (am 9, .inl (kd, 2, .inr (.inr (.inr (.inl FA)))))]) s.heap H locs → W p l e ({ frames := 1, cells := 0, slots := 0, locals := 25 }) s m ([.ref (am 0), .int (nI 1), .int (nI kd9), .double a] : List Value).toArray below meth c H locs 0 0 (my_WQ below D ([.ref (am 0), .int (nI 1), .int (nI kd9), .double a] : List Value).toArray s [(am 0, .inr (7, [.int th, .int (nI n), .ref (am 1), .ref (am 2), .ref (am 3), .int (nI kn), .ref (am 4), .ref (am 5), .ref (am 6), .ref (am 7), .ref (am 8), .ref (am 9), .ref (am 10), .ref (am 11), .ref (am 12)])), (am 8, .inl (ki, 2, .inl TK)), (am 9, .inl (kd, 2, .inr (.inr (.inr (.inl FA)))))] [(am 0, .inr (7, [.int 0, .int (nI n), .ref (am 1), .ref (am 2), .ref (am 3), .int (nI kn), .ref (am 4), .ref (am 5), .ref (am 6), .ref (am 7), .ref (am 8), .ref (am 9), .ref (am 10), .ref (am 11), .ref (am 12)])), (am 8, .inl (ki, 2, .inl (upd TK 1 (nI kd9)))), (am 9, .inl (kd, 2, .inr (.inr (.inr (.inl (vf_upd FA 1 (s_st a)))))))] (some (.int (TK 1)))) (F0 m 0 ls []) from K0 _ _ hP hD hS
  intro H locs hP hD hS
  refine lv_aload_n hx hb dX7_setTail_0 rfl (lv_at hl 0 rfl) ?_
  refine lv_iconst (v := 0) hx hb dX7_setTail_1 (by decide) ?_
  refine va_put (D := D) (ci := 7) (v := .int 0) (ty := .int) (C := RX7) (T := TX7) (N := 15) hx hb hts iw_X7_setTail_X7 tyX7 tyX7_ok nmX7 hown hC.1 hP hD hS 0 rfl rfl 0 (by decide) (hts (.fieldLink RX7 48 "MonotoneSplineModel" "thrown" "I") (List.mem_of_getElem? (l := wsX7_setTail) (i := 1) rfl)) (fun _ h9 => h9) rfl (by decide +kernel) rfl rfl (Nat.le_of_ble_eq_true rfl) dX7_setTail_2 (fun H locs hP hD hS => ?_)
  have hP : va_P D vwCl [(am 0, .inr (7, [.int 0, .int (nI n), .ref (am 1), .ref (am 2), .ref (am 3), .int (nI kn), .ref (am 4), .ref (am 5), .ref (am 6), .ref (am 7), .ref (am 8), .ref (am 9), .ref (am 10), .ref (am 11), .ref (am 12)])), (am 8, .inl (ki, 2, .inl TK)), (am 9, .inl (kd, 2, .inr (.inr (.inr (.inl FA)))))] H := hP
  have hD : va_D (my_A [(am 0, .inr (7, [.int th, .int (nI n), .ref (am 1), .ref (am 2), .ref (am 3), .int (nI kn), .ref (am 4), .ref (am 5), .ref (am 6), .ref (am 7), .ref (am 8), .ref (am 9), .ref (am 10), .ref (am 11), .ref (am 12)])), (am 8, .inl (ki, 2, .inl TK)), (am 9, .inl (kd, 2, .inr (.inr (.inr (.inl FA)))))]) [(am 0, .inr (7, [.int 0, .int (nI n), .ref (am 1), .ref (am 2), .ref (am 3), .int (nI kn), .ref (am 4), .ref (am 5), .ref (am 6), .ref (am 7), .ref (am 8), .ref (am 9), .ref (am 10), .ref (am 11), .ref (am 12)])), (am 8, .inl (ki, 2, .inl TK)), (am 9, .inl (kd, 2, .inr (.inr (.inr (.inl FA)))))] := hD
  refine lv_dload_n hx hb dX7_setTail_5 rfl (lv_at hl 3 rfl) ?_
  refine my_goR (v := (some (.double (s_st a)))) (my_runS (bytes := cX7_plain) (maxL := 2) (ret := (some .double)) (n := 1) (As := [.double a]) (rest := []) S hl.1 (mm_plain l D kd ki kz kl z a) rfl ⟨rfl, rfl⟩ gX7_setTail_X7_plain (by decide +kernel) rfl ⟨Nat.le_of_ble_eq_true rfl, Nat.le_of_ble_eq_true rfl⟩ (my_preR (my_C_S hC hS hz) (my_P_sub (wc := []) hP [] rfl)) rfl rfl dX7_setTail_6) ?_
  refine W.eq (g2 := F0 m 9 ls [.double (s_st a)]) rfl ?_
  refine lv_dstore (lv' := [(5, .double (s_st a)), (0, .ref (am 0)), (1, .int (nI 1)), (2, .int (nI kd9)), (3, .double a)]) hx hb dX7_setTail_9 hl (by decide) rfl (fun ls hl => ?_)
  refine lv_iload_n hx hb dX7_setTail_11 rfl (lv_at hl 2 rfl) ?_
  refine lv_if_lt (tgt := 20) hx hb dX7_setTail_12 (by decide) (fun c_12 => ?_) (fun c_12 => ?_)
  · have c_12 : 1 < 0 := (nI_ltI (a := 1) (b := 0) (by omega) (by omega)).mp c_12
    exact absurd c_12 (by omega)
  · have c_12 : ¬ 1 < 0 := fun h9 => c_12 ((nI_ltI (a := 1) (b := 0) (by omega) (by omega)).mpr h9)
    refine lv_iload_n hx hb dX7_setTail_15 rfl (lv_at hl 2 rfl) ?_
    refine lv_iconst (v := 1) hx hb dX7_setTail_16 (by decide) ?_
    refine lv_icmp_le (tgt := 26) hx hb dX7_setTail_17 (by decide) (fun c_17 => ?_) (fun c_17 => ?_)
    · have c_17 : 1 ≤ 1 := (nI_leI (a := 1) (b := 1) (by omega) (by omega)).mp c_17
      refine lv_iload_n hx hb dX7_setTail_26 rfl (lv_at hl 3 rfl) ?_
      refine lv_if_lt (tgt := 62) hx hb dX7_setTail_27 (by decide) (fun c_27 => ?_) (fun c_27 => ?_)
      · have c_27 : kd9 < 0 := (nI_ltI (a := kd9) (b := 0) (by omega) (by omega)).mp c_27
        exact absurd c_27 (by omega)
      · have c_27 : ¬ kd9 < 0 := fun h9 => c_27 ((nI_ltI (a := kd9) (b := 0) (by omega) (by omega)).mpr h9)
        refine lv_iload_n hx hb dX7_setTail_30 rfl (lv_at hl 3 rfl) ?_
        refine lv_bipush (v := 7) hx hb dX7_setTail_31 (by decide) ?_
        refine lv_icmp_ge (tgt := 62) hx hb dX7_setTail_33 (by decide) (fun c_33 => ?_) (fun c_33 => ?_)
        · have c_33 : 7 ≤ kd9 := (nI_leI (a := 7) (b := kd9) (by omega) (by omega)).mp c_33
          exact absurd h0 (by omega)
        · have c_33 : ¬ 7 ≤ kd9 := fun h9 => c_33 ((nI_leI (a := 7) (b := kd9) (by omega) (by omega)).mpr h9)
          refine lv_dload hx hb dX7_setTail_36 (lv_at hl 0 rfl) ?_
          refine lv_ldc2d hx hb hown (hts (.constantDouble RX7 63 (13920209183539462144)) (List.mem_of_getElem? (l := wsX7_setTail) (i := 2) rfl)) dX7_setTail_38 ?_
          refine lv_ldc2d hx hb hown (hts (.constantDouble RX7 65 (4696837146684686336)) (List.mem_of_getElem? (l := wsX7_setTail) (i := 3) rfl)) dX7_setTail_41 ?_
          refine my_goR (v := (some (.int (if sp_ge (s_st a) 13920209183539462144 ∧ sp_le (s_st a) 4696837146684686336 then 1 else 0)))) (my_runS (bytes := cX7_isIn) (maxL := 6) (ret := (some .boolean)) (n := 3) (As := [.double (s_st a), .double 13920209183539462144, .double 4696837146684686336]) (rest := []) S hl.1 (mm_isIn l D kd ki kz kl z (s_st a) 13920209183539462144 4696837146684686336) rfl ⟨rfl, rfl⟩ gX7_setTail_X7_isIn (by decide +kernel) rfl ⟨Nat.le_of_ble_eq_true rfl, Nat.le_of_ble_eq_true rfl⟩ (my_preR (my_C_S hC hS hz) (my_P_sub (wc := []) hP [] rfl)) rfl rfl dX7_setTail_44) ?_
          refine W.eq (g2 := F0 m 47 ls [.int (if sp_ge (s_st a) 13920209183539462144 ∧ sp_le (s_st a) 4696837146684686336 then 1 else 0)]) rfl ?_
          by_cases q_h1 : sp_ge (s_st a) 13920209183539462144 ∧ sp_le (s_st a) 4696837146684686336
          · rw [if_pos q_h1]
            refine lv_if_eq (tgt := 62) hx hb dX7_setTail_47 (by decide) (fun c_47 => ?_) (fun c_47 => ?_)
            · skip
              first | exact absurd c_47 (by decide) | exact absurd (by decide) c_47
            · skip
              refine lv_iload_n hx hb dX7_setTail_50 rfl (lv_at hl 3 rfl) ?_
              refine lv_iconst (v := 4) hx hb dX7_setTail_51 (by decide) ?_
              refine lv_icmp_lt (tgt := 68) hx hb dX7_setTail_52 (by decide) (fun c_52 => ?_) (fun c_52 => ?_)
              · have c_52 : kd9 < 4 := (nI_ltI (a := kd9) (b := 4) (by omega) (by omega)).mp c_52
                refine lv_aload_n hx hb dX7_setTail_68 rfl (lv_at hl 1 rfl) ?_
                refine va_get (D := D) (ci := 7) (v := .ref (am 8)) (C := RX7) (T := TX7) (N := 15) hx hb hts iw_X7_setTail_X7 hown hC.1 hP 0 rfl rfl 10 (by decide) (hts (.fieldLink RX7 32 "MonotoneSplineModel" "tailKinds" "[I") (List.mem_of_getElem? (l := wsX7_setTail) (i := 4) rfl)) (fun _ h9 => h9) rfl dX7_setTail_69 ?_
                refine lv_iload_n hx hb dX7_setTail_72 rfl (lv_at hl 2 rfl) ?_
                refine my_iald (k := 1) (n := 2) (f := TK) hx hb hC hP 1 rfl (by omega) (by omega) dX7_setTail_73 ?_
                refine lv_istore (lv' := [(7, .int (TK 1)), (5, .double (s_st a)), (0, .ref (am 0)), (1, .int (nI 1)), (2, .int (nI kd9)), (3, .double a)]) hx hb dX7_setTail_74 hl (by decide) rfl (fun ls hl => ?_)
                refine lv_aload_n hx hb dX7_setTail_76 rfl (lv_at hl 2 rfl) ?_
                refine va_get (D := D) (ci := 7) (v := .ref (am 8)) (C := RX7) (T := TX7) (N := 15) hx hb hts iw_X7_setTail_X7 hown hC.1 hP 0 rfl rfl 10 (by decide) (hts (.fieldLink RX7 32 "MonotoneSplineModel" "tailKinds" "[I") (List.mem_of_getElem? (l := wsX7_setTail) (i := 4) rfl)) (fun _ h9 => h9) rfl dX7_setTail_77 ?_
                refine lv_iload_n hx hb dX7_setTail_80 rfl (lv_at hl 3 rfl) ?_
                refine lv_iload_n hx hb dX7_setTail_81 rfl (lv_at hl 4 rfl) ?_
                refine my_iast (k := 1) (n := 2) (f := TK) (wx' := [(am 0, .inr (7, [.int 0, .int (nI n), .ref (am 1), .ref (am 2), .ref (am 3), .int (nI kn), .ref (am 4), .ref (am 5), .ref (am 6), .ref (am 7), .ref (am 8), .ref (am 9), .ref (am 10), .ref (am 11), .ref (am 12)])), (am 8, .inl (ki, 2, .inl (upd TK 1 (nI kd9)))), (am 9, .inl (kd, 2, .inr (.inr (.inr (.inl FA)))))]) hx hb hC hP hD hS 1 rfl (by omega) (by omega) rfl dX7_setTail_82 (fun H locs hP hD hS => ?_)
                refine lv_aload_n hx hb dX7_setTail_83 rfl (lv_at hl 2 rfl) ?_
                refine va_get (D := D) (ci := 7) (v := .ref (am 9)) (C := RX7) (T := TX7) (N := 15) hx hb hts iw_X7_setTail_X7 hown hC.1 hP 0 rfl rfl 11 (by decide) (hts (.fieldLink RX7 36 "MonotoneSplineModel" "factors" "[D") (List.mem_of_getElem? (l := wsX7_setTail) (i := 5) rfl)) (fun _ h9 => h9) rfl dX7_setTail_84 ?_
                refine lv_iload_n hx hb dX7_setTail_87 rfl (lv_at hl 3 rfl) ?_
                refine lv_dload hx hb dX7_setTail_88 (lv_at hl 1 rfl) ?_
                refine my_dast (k := 1) (n := 2) (f := FA) (wx' := [(am 0, .inr (7, [.int 0, .int (nI n), .ref (am 1), .ref (am 2), .ref (am 3), .int (nI kn), .ref (am 4), .ref (am 5), .ref (am 6), .ref (am 7), .ref (am 8), .ref (am 9), .ref (am 10), .ref (am 11), .ref (am 12)])), (am 8, .inl (ki, 2, .inl (upd TK 1 (nI kd9)))), (am 9, .inl (kd, 2, .inr (.inr (.inr (.inl (vf_upd FA 1 (s_st a)))))))]) hx hb hC hP hD hS 2 rfl (by omega) (by omega) rfl dX7_setTail_90 (fun H locs hP hD hS => ?_)
                refine lv_iload hx hb dX7_setTail_91 (lv_at hl 0 rfl) ?_
                exact my_iretW hx hb hr hlocks hP (rfl) hS (rfl) dX7_setTail_93
              · have c_52 : ¬ kd9 < 4 := fun h9 => c_52 ((nI_ltI (a := kd9) (b := 4) (by omega) (by omega)).mpr h9)
                refine lv_dload hx hb dX7_setTail_55 (lv_at hl 0 rfl) ?_
                refine lv_dconst0 hx hb dX7_setTail_57 ?_
                refine my_topd (w := 0) (by decide) ?_
                refine lv_dcmp hx hb dX7_setTail_58 ?_
                refine lv_if_ne (tgt := 68) hx hb dX7_setTail_59 (by decide) (fun c_59 => ?_) (fun c_59 => ?_)
                · have c_59 := cv_l_eq_f c_59
                  refine lv_aload_n hx hb dX7_setTail_68 rfl (lv_at hl 1 rfl) ?_
                  refine va_get (D := D) (ci := 7) (v := .ref (am 8)) (C := RX7) (T := TX7) (N := 15) hx hb hts iw_X7_setTail_X7 hown hC.1 hP 0 rfl rfl 10 (by decide) (hts (.fieldLink RX7 32 "MonotoneSplineModel" "tailKinds" "[I") (List.mem_of_getElem? (l := wsX7_setTail) (i := 4) rfl)) (fun _ h9 => h9) rfl dX7_setTail_69 ?_
                  refine lv_iload_n hx hb dX7_setTail_72 rfl (lv_at hl 2 rfl) ?_
                  refine my_iald (k := 1) (n := 2) (f := TK) hx hb hC hP 1 rfl (by omega) (by omega) dX7_setTail_73 ?_
                  refine lv_istore (lv' := [(7, .int (TK 1)), (5, .double (s_st a)), (0, .ref (am 0)), (1, .int (nI 1)), (2, .int (nI kd9)), (3, .double a)]) hx hb dX7_setTail_74 hl (by decide) rfl (fun ls hl => ?_)
                  refine lv_aload_n hx hb dX7_setTail_76 rfl (lv_at hl 2 rfl) ?_
                  refine va_get (D := D) (ci := 7) (v := .ref (am 8)) (C := RX7) (T := TX7) (N := 15) hx hb hts iw_X7_setTail_X7 hown hC.1 hP 0 rfl rfl 10 (by decide) (hts (.fieldLink RX7 32 "MonotoneSplineModel" "tailKinds" "[I") (List.mem_of_getElem? (l := wsX7_setTail) (i := 4) rfl)) (fun _ h9 => h9) rfl dX7_setTail_77 ?_
                  refine lv_iload_n hx hb dX7_setTail_80 rfl (lv_at hl 3 rfl) ?_
                  refine lv_iload_n hx hb dX7_setTail_81 rfl (lv_at hl 4 rfl) ?_
                  refine my_iast (k := 1) (n := 2) (f := TK) (wx' := [(am 0, .inr (7, [.int 0, .int (nI n), .ref (am 1), .ref (am 2), .ref (am 3), .int (nI kn), .ref (am 4), .ref (am 5), .ref (am 6), .ref (am 7), .ref (am 8), .ref (am 9), .ref (am 10), .ref (am 11), .ref (am 12)])), (am 8, .inl (ki, 2, .inl (upd TK 1 (nI kd9)))), (am 9, .inl (kd, 2, .inr (.inr (.inr (.inl FA)))))]) hx hb hC hP hD hS 1 rfl (by omega) (by omega) rfl dX7_setTail_82 (fun H locs hP hD hS => ?_)
                  refine lv_aload_n hx hb dX7_setTail_83 rfl (lv_at hl 2 rfl) ?_
                  refine va_get (D := D) (ci := 7) (v := .ref (am 9)) (C := RX7) (T := TX7) (N := 15) hx hb hts iw_X7_setTail_X7 hown hC.1 hP 0 rfl rfl 11 (by decide) (hts (.fieldLink RX7 36 "MonotoneSplineModel" "factors" "[D") (List.mem_of_getElem? (l := wsX7_setTail) (i := 5) rfl)) (fun _ h9 => h9) rfl dX7_setTail_84 ?_
                  refine lv_iload_n hx hb dX7_setTail_87 rfl (lv_at hl 3 rfl) ?_
                  refine lv_dload hx hb dX7_setTail_88 (lv_at hl 1 rfl) ?_
                  refine my_dast (k := 1) (n := 2) (f := FA) (wx' := [(am 0, .inr (7, [.int 0, .int (nI n), .ref (am 1), .ref (am 2), .ref (am 3), .int (nI kn), .ref (am 4), .ref (am 5), .ref (am 6), .ref (am 7), .ref (am 8), .ref (am 9), .ref (am 10), .ref (am 11), .ref (am 12)])), (am 8, .inl (ki, 2, .inl (upd TK 1 (nI kd9)))), (am 9, .inl (kd, 2, .inr (.inr (.inr (.inl (vf_upd FA 1 (s_st a)))))))]) hx hb hC hP hD hS 2 rfl (by omega) (by omega) rfl dX7_setTail_90 (fun H locs hP hD hS => ?_)
                  refine lv_iload hx hb dX7_setTail_91 (lv_at hl 0 rfl) ?_
                  exact my_iretW hx hb hr hlocks hP (rfl) hS (rfl) dX7_setTail_93
                · have c_59 := cv_l_eq_t c_59
                  exact absurd c_59 (h2 (by omega))
          · rw [if_neg q_h1]
            exact absurd h1 q_h1
    · have c_17 : ¬ 1 ≤ 1 := fun h9 => c_17 ((nI_leI (a := 1) (b := 1) (by omega) (by omega)).mpr h9)
      exact absurd c_17 (by omega)

set_option maxHeartbeats 4000000 in
set_option maxRecDepth 100000 in
theorem mm_setTail1_2 (l : Launch) (D : va_G) (kd ki kz kl : ClassId) (z : Nat) (am : Nat → Nat) (th : Int32) (n : Nat) (kn : Nat) (TK : Nat → Int32) (FA : Nat → UInt64) (kx : Int32) (a : UInt64) (hno : ¬ (¬ kx < 0 ∧ kx ≤ 6 ∧ (sp_ge (s_st a) 13920209183539462144 ∧ sp_le (s_st a) 4696837146684686336) ∧ (4 ≤ kx → ¬ sp_eq (s_st a) 0))) : my_WR l D kd ki kz kl z yX7_setTail wsX7_setTail ({ frames := 1, cells := 0, slots := 0, locals := 25 }) [.ref (am 0), .int (nI 1), .int kx, .double a] [(am 0, .inr (7, [.int th, .int (nI n), .ref (am 1), .ref (am 2), .ref (am 3), .int (nI kn), .ref (am 4), .ref (am 5), .ref (am 6), .ref (am 7), .ref (am 8), .ref (am 9), .ref (am 10), .ref (am 11), .ref (am 12)])), (am 8, .inl (ki, 2, .inl TK)), (am 9, .inl (kd, 2, .inr (.inr (.inr (.inl FA)))))] [(am 0, .inr (7, [.int 2, .int (nI n), .ref (am 1), .ref (am 2), .ref (am 3), .int (nI kn), .ref (am 4), .ref (am 5), .ref (am 6), .ref (am 7), .ref (am 8), .ref (am 9), .ref (am 10), .ref (am 11), .ref (am 12)])), (am 8, .inl (ki, 2, .inl TK)), (am 9, .inl (kd, 2, .inr (.inr (.inr (.inl FA)))))] (some (.int 0)) := by
  refine my_WR_of (cc := cX7_setTail) (maxL := 8) (ret := (some .int)) (by decide) rfl (Nat.le_of_ble_eq_true rfl) ?_
  intro p e s m below meth c S hr hlocks hC hP hD hz hS ls hl
  have S : CallFix p m c cX7_setTail 8 s ([.ref (am 0), .int (nI 1), .int kx, .double a] : List Value).toArray wsX7_setTail RX7 := S
  obtain ⟨hx, hb, hml, hown, hts⟩ := id S
  have hl : lv_has ls 8 [(0, .ref (am 0)), (1, .int (nI 1)), (2, .int kx), (3, .double a)] := hl
  suffices K0 : ∀ (H : Heap) (locs : List Loc), va_P D vwCl [(am 0, .inr (7, [.int th, .int (nI n), .ref (am 1), .ref (am 2), .ref (am 3), .int (nI kn), .ref (am 4), .ref (am 5), .ref (am 6), .ref (am 7), .ref (am 8), .ref (am 9), .ref (am 10), .ref (am 11), .ref (am 12)])), (am 8, .inl (ki, 2, .inl TK)), (am 9, .inl (kd, 2, .inr (.inr (.inr (.inl FA)))))] H → va_D (my_A [(am 0, .inr (7, [.int th, .int (nI n), .ref (am 1), .ref (am 2), .ref (am 3), .int (nI kn), .ref (am 4), .ref (am 5), .ref (am 6), .ref (am 7), .ref (am 8), .ref (am 9), .ref (am 10), .ref (am 11), .ref (am 12)])), (am 8, .inl (ki, 2, .inl TK)), (am 9, .inl (kd, 2, .inr (.inr (.inr (.inl FA)))))]) [(am 0, .inr (7, [.int th, .int (nI n), .ref (am 1), .ref (am 2), .ref (am 3), .int (nI kn), .ref (am 4), .ref (am 5), .ref (am 6), .ref (am 7), .ref (am 8), .ref (am 9), .ref (am 10), .ref (am 11), .ref (am 12)])), (am 8, .inl (ki, 2, .inl TK)), (am 9, .inl (kd, 2, .inr (.inr (.inr (.inl FA)))))] → va_S (my_A [(am 0, .inr (7, [.int th, .int (nI n), .ref (am 1), .ref (am 2), .ref (am 3), .int (nI kn), .ref (am 4), .ref (am 5), .ref (am 6), .ref (am 7), .ref (am 8), .ref (am 9), .ref (am 10), .ref (am 11), .ref (am 12)])), (am 8, .inl (ki, 2, .inl TK)), (am 9, .inl (kd, 2, .inr (.inr (.inr (.inl FA)))))]) s.heap H locs → W p l e ({ frames := 1, cells := 0, slots := 0, locals := 25 }) s m ([.ref (am 0), .int (nI 1), .int kx, .double a] : List Value).toArray below meth c H locs 0 0 (my_WQ below D ([.ref (am 0), .int (nI 1), .int kx, .double a] : List Value).toArray s [(am 0, .inr (7, [.int th, .int (nI n), .ref (am 1), .ref (am 2), .ref (am 3), .int (nI kn), .ref (am 4), .ref (am 5), .ref (am 6), .ref (am 7), .ref (am 8), .ref (am 9), .ref (am 10), .ref (am 11), .ref (am 12)])), (am 8, .inl (ki, 2, .inl TK)), (am 9, .inl (kd, 2, .inr (.inr (.inr (.inl FA)))))] [(am 0, .inr (7, [.int 2, .int (nI n), .ref (am 1), .ref (am 2), .ref (am 3), .int (nI kn), .ref (am 4), .ref (am 5), .ref (am 6), .ref (am 7), .ref (am 8), .ref (am 9), .ref (am 10), .ref (am 11), .ref (am 12)])), (am 8, .inl (ki, 2, .inl TK)), (am 9, .inl (kd, 2, .inr (.inr (.inr (.inl FA)))))] (some (.int 0))) (F0 m 0 ls []) from K0 _ _ hP hD hS
  intro H locs hP hD hS
  refine lv_aload_n hx hb dX7_setTail_0 rfl (lv_at hl 0 rfl) ?_
  refine lv_iconst (v := 0) hx hb dX7_setTail_1 (by decide) ?_
  refine va_put (D := D) (ci := 7) (v := .int 0) (ty := .int) (C := RX7) (T := TX7) (N := 15) hx hb hts iw_X7_setTail_X7 tyX7 tyX7_ok nmX7 hown hC.1 hP hD hS 0 rfl rfl 0 (by decide) (hts (.fieldLink RX7 48 "MonotoneSplineModel" "thrown" "I") (List.mem_of_getElem? (l := wsX7_setTail) (i := 1) rfl)) (fun _ h9 => h9) rfl (by decide +kernel) rfl rfl (Nat.le_of_ble_eq_true rfl) dX7_setTail_2 (fun H locs hP hD hS => ?_)
  have hP : va_P D vwCl [(am 0, .inr (7, [.int 0, .int (nI n), .ref (am 1), .ref (am 2), .ref (am 3), .int (nI kn), .ref (am 4), .ref (am 5), .ref (am 6), .ref (am 7), .ref (am 8), .ref (am 9), .ref (am 10), .ref (am 11), .ref (am 12)])), (am 8, .inl (ki, 2, .inl TK)), (am 9, .inl (kd, 2, .inr (.inr (.inr (.inl FA)))))] H := hP
  have hD : va_D (my_A [(am 0, .inr (7, [.int th, .int (nI n), .ref (am 1), .ref (am 2), .ref (am 3), .int (nI kn), .ref (am 4), .ref (am 5), .ref (am 6), .ref (am 7), .ref (am 8), .ref (am 9), .ref (am 10), .ref (am 11), .ref (am 12)])), (am 8, .inl (ki, 2, .inl TK)), (am 9, .inl (kd, 2, .inr (.inr (.inr (.inl FA)))))]) [(am 0, .inr (7, [.int 0, .int (nI n), .ref (am 1), .ref (am 2), .ref (am 3), .int (nI kn), .ref (am 4), .ref (am 5), .ref (am 6), .ref (am 7), .ref (am 8), .ref (am 9), .ref (am 10), .ref (am 11), .ref (am 12)])), (am 8, .inl (ki, 2, .inl TK)), (am 9, .inl (kd, 2, .inr (.inr (.inr (.inl FA)))))] := hD
  refine lv_dload_n hx hb dX7_setTail_5 rfl (lv_at hl 3 rfl) ?_
  refine my_goR (v := (some (.double (s_st a)))) (my_runS (bytes := cX7_plain) (maxL := 2) (ret := (some .double)) (n := 1) (As := [.double a]) (rest := []) S hl.1 (mm_plain l D kd ki kz kl z a) rfl ⟨rfl, rfl⟩ gX7_setTail_X7_plain (by decide +kernel) rfl ⟨Nat.le_of_ble_eq_true rfl, Nat.le_of_ble_eq_true rfl⟩ (my_preR (my_C_S hC hS hz) (my_P_sub (wc := []) hP [] rfl)) rfl rfl dX7_setTail_6) ?_
  refine W.eq (g2 := F0 m 9 ls [.double (s_st a)]) rfl ?_
  refine lv_dstore (lv' := [(5, .double (s_st a)), (0, .ref (am 0)), (1, .int (nI 1)), (2, .int kx), (3, .double a)]) hx hb dX7_setTail_9 hl (by decide) rfl (fun ls hl => ?_)
  refine lv_iload_n hx hb dX7_setTail_11 rfl (lv_at hl 2 rfl) ?_
  refine lv_if_lt (tgt := 20) hx hb dX7_setTail_12 (by decide) (fun c_12 => ?_) (fun c_12 => ?_)
  · have c_12 : 1 < 0 := (nI_ltI (a := 1) (b := 0) (by omega) (by omega)).mp c_12
    exact absurd c_12 (by omega)
  · have c_12 : ¬ 1 < 0 := fun h9 => c_12 ((nI_ltI (a := 1) (b := 0) (by omega) (by omega)).mpr h9)
    refine lv_iload_n hx hb dX7_setTail_15 rfl (lv_at hl 2 rfl) ?_
    refine lv_iconst (v := 1) hx hb dX7_setTail_16 (by decide) ?_
    refine lv_icmp_le (tgt := 26) hx hb dX7_setTail_17 (by decide) (fun c_17 => ?_) (fun c_17 => ?_)
    · have c_17 : 1 ≤ 1 := (nI_leI (a := 1) (b := 1) (by omega) (by omega)).mp c_17
      refine lv_iload_n hx hb dX7_setTail_26 rfl (lv_at hl 3 rfl) ?_
      refine lv_if_lt (tgt := 62) hx hb dX7_setTail_27 (by decide) (fun c_27 => ?_) (fun c_27 => ?_)
      · skip
        refine lv_aload_n hx hb dX7_setTail_62 rfl (lv_at hl 1 rfl) ?_
        refine lv_iconst (v := 2) hx hb dX7_setTail_63 (by decide) ?_
        refine my_goW (v := (some (.int 0))) (w1 := [(am 0, .inr (7, [.int 2, .int (nI n), .ref (am 1), .ref (am 2), .ref (am 3), .int (nI kn), .ref (am 4), .ref (am 5), .ref (am 6), .ref (am 7), .ref (am 8), .ref (am 9), .ref (am 10), .ref (am 11), .ref (am 12)]))]) (wx' := [(am 0, .inr (7, [.int 2, .int (nI n), .ref (am 1), .ref (am 2), .ref (am 3), .int (nI kn), .ref (am 4), .ref (am 5), .ref (am 6), .ref (am 7), .ref (am 8), .ref (am 9), .ref (am 10), .ref (am 11), .ref (am 12)])), (am 8, .inl (ki, 2, .inl TK)), (am 9, .inl (kd, 2, .inr (.inr (.inr (.inl FA)))))]) (my_runV (bytes := cX7_fail) (maxL := 2) (ret := (some .int)) (n := 1) (As := [.int 2]) (rest := []) S hl.1 (mm_fail l D kd ki kz kl z am 0 n kn 2) rfl ⟨rfl, rfl⟩ gX7_setTail_X7_fail (by decide +kernel) rfl ⟨Nat.le_of_ble_eq_true rfl, Nat.le_of_ble_eq_true rfl⟩ (my_preW (my_C_S hC hS hz) (my_P_sub (wc := [(am 0, .inr (7, [.int 0, .int (nI n), .ref (am 1), .ref (am 2), .ref (am 3), .int (nI kn), .ref (am 4), .ref (am 5), .ref (am 6), .ref (am 7), .ref (am 8), .ref (am 9), .ref (am 10), .ref (am 11), .ref (am 12)]))]) hP [0] rfl) (my_D_sub hD hz [0] (by decide) rfl)) (va_recv hC.1 hP (ci := 7) (q0 := 0) rfl rfl) rfl rfl dX7_setTail_64) hP hD hS [0] rfl rfl rfl (fun H locs hP hD hS => ?_)
        refine W.eq (g2 := F0 m 67 ls [.int 0]) rfl ?_
        exact my_iretW hx hb hr hlocks hP (rfl) hS (rfl) dX7_setTail_67
      · skip
        refine lv_iload_n hx hb dX7_setTail_30 rfl (lv_at hl 3 rfl) ?_
        refine lv_bipush (v := 7) hx hb dX7_setTail_31 (by decide) ?_
        refine lv_icmp_ge (tgt := 62) hx hb dX7_setTail_33 (by decide) (fun c_33 => ?_) (fun c_33 => ?_)
        · skip
          refine lv_aload_n hx hb dX7_setTail_62 rfl (lv_at hl 1 rfl) ?_
          refine lv_iconst (v := 2) hx hb dX7_setTail_63 (by decide) ?_
          refine my_goW (v := (some (.int 0))) (w1 := [(am 0, .inr (7, [.int 2, .int (nI n), .ref (am 1), .ref (am 2), .ref (am 3), .int (nI kn), .ref (am 4), .ref (am 5), .ref (am 6), .ref (am 7), .ref (am 8), .ref (am 9), .ref (am 10), .ref (am 11), .ref (am 12)]))]) (wx' := [(am 0, .inr (7, [.int 2, .int (nI n), .ref (am 1), .ref (am 2), .ref (am 3), .int (nI kn), .ref (am 4), .ref (am 5), .ref (am 6), .ref (am 7), .ref (am 8), .ref (am 9), .ref (am 10), .ref (am 11), .ref (am 12)])), (am 8, .inl (ki, 2, .inl TK)), (am 9, .inl (kd, 2, .inr (.inr (.inr (.inl FA)))))]) (my_runV (bytes := cX7_fail) (maxL := 2) (ret := (some .int)) (n := 1) (As := [.int 2]) (rest := []) S hl.1 (mm_fail l D kd ki kz kl z am 0 n kn 2) rfl ⟨rfl, rfl⟩ gX7_setTail_X7_fail (by decide +kernel) rfl ⟨Nat.le_of_ble_eq_true rfl, Nat.le_of_ble_eq_true rfl⟩ (my_preW (my_C_S hC hS hz) (my_P_sub (wc := [(am 0, .inr (7, [.int 0, .int (nI n), .ref (am 1), .ref (am 2), .ref (am 3), .int (nI kn), .ref (am 4), .ref (am 5), .ref (am 6), .ref (am 7), .ref (am 8), .ref (am 9), .ref (am 10), .ref (am 11), .ref (am 12)]))]) hP [0] rfl) (my_D_sub hD hz [0] (by decide) rfl)) (va_recv hC.1 hP (ci := 7) (q0 := 0) rfl rfl) rfl rfl dX7_setTail_64) hP hD hS [0] rfl rfl rfl (fun H locs hP hD hS => ?_)
          refine W.eq (g2 := F0 m 67 ls [.int 0]) rfl ?_
          exact my_iretW hx hb hr hlocks hP (rfl) hS (rfl) dX7_setTail_67
        · skip
          refine lv_dload hx hb dX7_setTail_36 (lv_at hl 0 rfl) ?_
          refine lv_ldc2d hx hb hown (hts (.constantDouble RX7 63 (13920209183539462144)) (List.mem_of_getElem? (l := wsX7_setTail) (i := 2) rfl)) dX7_setTail_38 ?_
          refine lv_ldc2d hx hb hown (hts (.constantDouble RX7 65 (4696837146684686336)) (List.mem_of_getElem? (l := wsX7_setTail) (i := 3) rfl)) dX7_setTail_41 ?_
          refine my_goR (v := (some (.int (if sp_ge (s_st a) 13920209183539462144 ∧ sp_le (s_st a) 4696837146684686336 then 1 else 0)))) (my_runS (bytes := cX7_isIn) (maxL := 6) (ret := (some .boolean)) (n := 3) (As := [.double (s_st a), .double 13920209183539462144, .double 4696837146684686336]) (rest := []) S hl.1 (mm_isIn l D kd ki kz kl z (s_st a) 13920209183539462144 4696837146684686336) rfl ⟨rfl, rfl⟩ gX7_setTail_X7_isIn (by decide +kernel) rfl ⟨Nat.le_of_ble_eq_true rfl, Nat.le_of_ble_eq_true rfl⟩ (my_preR (my_C_S hC hS hz) (my_P_sub (wc := []) hP [] rfl)) rfl rfl dX7_setTail_44) ?_
          refine W.eq (g2 := F0 m 47 ls [.int (if sp_ge (s_st a) 13920209183539462144 ∧ sp_le (s_st a) 4696837146684686336 then 1 else 0)]) rfl ?_
          by_cases q1 : sp_ge (s_st a) 13920209183539462144 ∧ sp_le (s_st a) 4696837146684686336
          · rw [if_pos q1]
            refine lv_if_eq (tgt := 62) hx hb dX7_setTail_47 (by decide) (fun c_47 => ?_) (fun c_47 => ?_)
            · skip
              first | exact absurd c_47 (by decide) | exact absurd (by decide) c_47
            · skip
              refine lv_iload_n hx hb dX7_setTail_50 rfl (lv_at hl 3 rfl) ?_
              refine lv_iconst (v := 4) hx hb dX7_setTail_51 (by decide) ?_
              refine lv_icmp_lt (tgt := 68) hx hb dX7_setTail_52 (by decide) (fun c_52 => ?_) (fun c_52 => ?_)
              · skip
                exact absurd ⟨c_27, i7 c_33, q1, fun h9 => (by first | exact absurd h9 (fun h8 => i4 c_52 h8) | exact c_59)⟩ hno
              · skip
                refine lv_dload hx hb dX7_setTail_55 (lv_at hl 0 rfl) ?_
                refine lv_dconst0 hx hb dX7_setTail_57 ?_
                refine my_topd (w := 0) (by decide) ?_
                refine lv_dcmp hx hb dX7_setTail_58 ?_
                refine lv_if_ne (tgt := 68) hx hb dX7_setTail_59 (by decide) (fun c_59 => ?_) (fun c_59 => ?_)
                · have c_59 := cv_l_eq_f c_59
                  exact absurd ⟨c_27, i7 c_33, q1, fun h9 => (by first | exact absurd h9 (fun h8 => i4 c_52 h8) | exact c_59)⟩ hno
                · have c_59 := cv_l_eq_t c_59
                  refine lv_aload_n hx hb dX7_setTail_62 rfl (lv_at hl 1 rfl) ?_
                  refine lv_iconst (v := 2) hx hb dX7_setTail_63 (by decide) ?_
                  refine my_goW (v := (some (.int 0))) (w1 := [(am 0, .inr (7, [.int 2, .int (nI n), .ref (am 1), .ref (am 2), .ref (am 3), .int (nI kn), .ref (am 4), .ref (am 5), .ref (am 6), .ref (am 7), .ref (am 8), .ref (am 9), .ref (am 10), .ref (am 11), .ref (am 12)]))]) (wx' := [(am 0, .inr (7, [.int 2, .int (nI n), .ref (am 1), .ref (am 2), .ref (am 3), .int (nI kn), .ref (am 4), .ref (am 5), .ref (am 6), .ref (am 7), .ref (am 8), .ref (am 9), .ref (am 10), .ref (am 11), .ref (am 12)])), (am 8, .inl (ki, 2, .inl TK)), (am 9, .inl (kd, 2, .inr (.inr (.inr (.inl FA)))))]) (my_runV (bytes := cX7_fail) (maxL := 2) (ret := (some .int)) (n := 1) (As := [.int 2]) (rest := []) S hl.1 (mm_fail l D kd ki kz kl z am 0 n kn 2) rfl ⟨rfl, rfl⟩ gX7_setTail_X7_fail (by decide +kernel) rfl ⟨Nat.le_of_ble_eq_true rfl, Nat.le_of_ble_eq_true rfl⟩ (my_preW (my_C_S hC hS hz) (my_P_sub (wc := [(am 0, .inr (7, [.int 0, .int (nI n), .ref (am 1), .ref (am 2), .ref (am 3), .int (nI kn), .ref (am 4), .ref (am 5), .ref (am 6), .ref (am 7), .ref (am 8), .ref (am 9), .ref (am 10), .ref (am 11), .ref (am 12)]))]) hP [0] rfl) (my_D_sub hD hz [0] (by decide) rfl)) (va_recv hC.1 hP (ci := 7) (q0 := 0) rfl rfl) rfl rfl dX7_setTail_64) hP hD hS [0] rfl rfl rfl (fun H locs hP hD hS => ?_)
                  refine W.eq (g2 := F0 m 67 ls [.int 0]) rfl ?_
                  exact my_iretW hx hb hr hlocks hP (rfl) hS (rfl) dX7_setTail_67
          · rw [if_neg q1]
            refine lv_if_eq (tgt := 62) hx hb dX7_setTail_47 (by decide) (fun c_47 => ?_) (fun c_47 => ?_)
            · skip
              refine lv_aload_n hx hb dX7_setTail_62 rfl (lv_at hl 1 rfl) ?_
              refine lv_iconst (v := 2) hx hb dX7_setTail_63 (by decide) ?_
              refine my_goW (v := (some (.int 0))) (w1 := [(am 0, .inr (7, [.int 2, .int (nI n), .ref (am 1), .ref (am 2), .ref (am 3), .int (nI kn), .ref (am 4), .ref (am 5), .ref (am 6), .ref (am 7), .ref (am 8), .ref (am 9), .ref (am 10), .ref (am 11), .ref (am 12)]))]) (wx' := [(am 0, .inr (7, [.int 2, .int (nI n), .ref (am 1), .ref (am 2), .ref (am 3), .int (nI kn), .ref (am 4), .ref (am 5), .ref (am 6), .ref (am 7), .ref (am 8), .ref (am 9), .ref (am 10), .ref (am 11), .ref (am 12)])), (am 8, .inl (ki, 2, .inl TK)), (am 9, .inl (kd, 2, .inr (.inr (.inr (.inl FA)))))]) (my_runV (bytes := cX7_fail) (maxL := 2) (ret := (some .int)) (n := 1) (As := [.int 2]) (rest := []) S hl.1 (mm_fail l D kd ki kz kl z am 0 n kn 2) rfl ⟨rfl, rfl⟩ gX7_setTail_X7_fail (by decide +kernel) rfl ⟨Nat.le_of_ble_eq_true rfl, Nat.le_of_ble_eq_true rfl⟩ (my_preW (my_C_S hC hS hz) (my_P_sub (wc := [(am 0, .inr (7, [.int 0, .int (nI n), .ref (am 1), .ref (am 2), .ref (am 3), .int (nI kn), .ref (am 4), .ref (am 5), .ref (am 6), .ref (am 7), .ref (am 8), .ref (am 9), .ref (am 10), .ref (am 11), .ref (am 12)]))]) hP [0] rfl) (my_D_sub hD hz [0] (by decide) rfl)) (va_recv hC.1 hP (ci := 7) (q0 := 0) rfl rfl) rfl rfl dX7_setTail_64) hP hD hS [0] rfl rfl rfl (fun H locs hP hD hS => ?_)
              refine W.eq (g2 := F0 m 67 ls [.int 0]) rfl ?_
              exact my_iretW hx hb hr hlocks hP (rfl) hS (rfl) dX7_setTail_67
            · skip
              first | exact absurd c_47 (by decide) | exact absurd (by decide) c_47
    · have c_17 : ¬ 1 ≤ 1 := fun h9 => c_17 ((nI_leI (a := 1) (b := 1) (by omega) (by omega)).mpr h9)
      exact absurd c_17 (by omega)

set_option maxHeartbeats 4000000 in
set_option maxRecDepth 100000 in
theorem mm_limit1 (l : Launch) (D : va_G) (kd ki kz kl : ClassId) (z : Nat) (am : Nat → Nat) (th : Int32) (n : Nat) (kn : Nat) (P : Nat → UInt64) (V : Nat → UInt64) (TK : Nat → Int32) (FA : Nat → UInt64) (kd9 : Nat) (fa : UInt64) (hJ : KJ kn P V) (hT : TK 1 = nI kd9) (hF : FA 1 = fa) (h0 : kd9 ≤ 6) (hfa : PY fa) (hfz : 4 ≤ kd9 → ¬ sp_eq fa 0) : my_WR l D kd ki kz kl z yX7_limit wsX7_limit ({ frames := 0, cells := 0, slots := 0, locals := 0 }) [.ref (am 0), .int (nI 1)] [(am 0, .inr (7, [.int th, .int (nI n), .ref (am 1), .ref (am 2), .ref (am 3), .int (nI kn), .ref (am 4), .ref (am 5), .ref (am 6), .ref (am 7), .ref (am 8), .ref (am 9), .ref (am 10), .ref (am 11), .ref (am 12)])), (am 5, .inl (kd, 60, .inr (.inr (.inr (.inl V))))), (am 8, .inl (ki, 2, .inl TK)), (am 9, .inl (kd, 2, .inr (.inr (.inr (.inl FA)))))] [(am 0, .inr (7, [.int 0, .int (nI n), .ref (am 1), .ref (am 2), .ref (am 3), .int (nI kn), .ref (am 4), .ref (am 5), .ref (am 6), .ref (am 7), .ref (am 8), .ref (am 9), .ref (am 10), .ref (am 11), .ref (am 12)])), (am 5, .inl (kd, 60, .inr (.inr (.inr (.inl V))))), (am 8, .inl (ki, 2, .inl TK)), (am 9, .inl (kd, 2, .inr (.inr (.inr (.inl FA)))))] (some (.double (s_lim 0 kd9 fa (V (kn - 1))))) := by
  refine my_WR_of (cc := cX7_limit) (maxL := 8) (ret := (some .double)) (by decide) rfl (Nat.le_of_ble_eq_true rfl) ?_
  intro p e s m below meth c S hr hlocks hC hP hD hz hS ls hl
  have S : CallFix p m c cX7_limit 8 s ([.ref (am 0), .int (nI 1)] : List Value).toArray wsX7_limit RX7 := S
  obtain ⟨hx, hb, hml, hown, hts⟩ := id S
  have hl : lv_has ls 8 [(0, .ref (am 0)), (1, .int (nI 1))] := hl
  suffices K0 : ∀ (H : Heap) (locs : List Loc), va_P D vwCl [(am 0, .inr (7, [.int th, .int (nI n), .ref (am 1), .ref (am 2), .ref (am 3), .int (nI kn), .ref (am 4), .ref (am 5), .ref (am 6), .ref (am 7), .ref (am 8), .ref (am 9), .ref (am 10), .ref (am 11), .ref (am 12)])), (am 5, .inl (kd, 60, .inr (.inr (.inr (.inl V))))), (am 8, .inl (ki, 2, .inl TK)), (am 9, .inl (kd, 2, .inr (.inr (.inr (.inl FA)))))] H → va_D (my_A [(am 0, .inr (7, [.int th, .int (nI n), .ref (am 1), .ref (am 2), .ref (am 3), .int (nI kn), .ref (am 4), .ref (am 5), .ref (am 6), .ref (am 7), .ref (am 8), .ref (am 9), .ref (am 10), .ref (am 11), .ref (am 12)])), (am 5, .inl (kd, 60, .inr (.inr (.inr (.inl V))))), (am 8, .inl (ki, 2, .inl TK)), (am 9, .inl (kd, 2, .inr (.inr (.inr (.inl FA)))))]) [(am 0, .inr (7, [.int th, .int (nI n), .ref (am 1), .ref (am 2), .ref (am 3), .int (nI kn), .ref (am 4), .ref (am 5), .ref (am 6), .ref (am 7), .ref (am 8), .ref (am 9), .ref (am 10), .ref (am 11), .ref (am 12)])), (am 5, .inl (kd, 60, .inr (.inr (.inr (.inl V))))), (am 8, .inl (ki, 2, .inl TK)), (am 9, .inl (kd, 2, .inr (.inr (.inr (.inl FA)))))] → va_S (my_A [(am 0, .inr (7, [.int th, .int (nI n), .ref (am 1), .ref (am 2), .ref (am 3), .int (nI kn), .ref (am 4), .ref (am 5), .ref (am 6), .ref (am 7), .ref (am 8), .ref (am 9), .ref (am 10), .ref (am 11), .ref (am 12)])), (am 5, .inl (kd, 60, .inr (.inr (.inr (.inl V))))), (am 8, .inl (ki, 2, .inl TK)), (am 9, .inl (kd, 2, .inr (.inr (.inr (.inl FA)))))]) s.heap H locs → W p l e ({ frames := 0, cells := 0, slots := 0, locals := 0 }) s m ([.ref (am 0), .int (nI 1)] : List Value).toArray below meth c H locs 0 0 (my_WQ below D ([.ref (am 0), .int (nI 1)] : List Value).toArray s [(am 0, .inr (7, [.int th, .int (nI n), .ref (am 1), .ref (am 2), .ref (am 3), .int (nI kn), .ref (am 4), .ref (am 5), .ref (am 6), .ref (am 7), .ref (am 8), .ref (am 9), .ref (am 10), .ref (am 11), .ref (am 12)])), (am 5, .inl (kd, 60, .inr (.inr (.inr (.inl V))))), (am 8, .inl (ki, 2, .inl TK)), (am 9, .inl (kd, 2, .inr (.inr (.inr (.inl FA)))))] [(am 0, .inr (7, [.int 0, .int (nI n), .ref (am 1), .ref (am 2), .ref (am 3), .int (nI kn), .ref (am 4), .ref (am 5), .ref (am 6), .ref (am 7), .ref (am 8), .ref (am 9), .ref (am 10), .ref (am 11), .ref (am 12)])), (am 5, .inl (kd, 60, .inr (.inr (.inr (.inl V))))), (am 8, .inl (ki, 2, .inl TK)), (am 9, .inl (kd, 2, .inr (.inr (.inr (.inl FA)))))] (some (.double (s_lim 0 kd9 fa (V (kn - 1)))))) (F0 m 0 ls []) from K0 _ _ hP hD hS
  intro H locs hP hD hS
  have hkn := hJ.2.1
  have hkn2 := hJ.1
  refine lv_aload_n hx hb dX7_limit_0 rfl (lv_at hl 0 rfl) ?_
  refine lv_iconst (v := 0) hx hb dX7_limit_1 (by decide) ?_
  refine va_put (D := D) (ci := 7) (v := .int 0) (ty := .int) (C := RX7) (T := TX7) (N := 15) hx hb hts iw_X7_limit_X7 tyX7 tyX7_ok nmX7 hown hC.1 hP hD hS 0 rfl rfl 0 (by decide) (hts (.fieldLink RX7 48 "MonotoneSplineModel" "thrown" "I") (List.mem_of_getElem? (l := wsX7_limit) (i := 1) rfl)) (fun _ h9 => h9) rfl (by decide +kernel) rfl rfl (Nat.le_of_ble_eq_true rfl) dX7_limit_2 (fun H locs hP hD hS => ?_)
  have hP : va_P D vwCl [(am 0, .inr (7, [.int 0, .int (nI n), .ref (am 1), .ref (am 2), .ref (am 3), .int (nI kn), .ref (am 4), .ref (am 5), .ref (am 6), .ref (am 7), .ref (am 8), .ref (am 9), .ref (am 10), .ref (am 11), .ref (am 12)])), (am 5, .inl (kd, 60, .inr (.inr (.inr (.inl V))))), (am 8, .inl (ki, 2, .inl TK)), (am 9, .inl (kd, 2, .inr (.inr (.inr (.inl FA)))))] H := hP
  have hD : va_D (my_A [(am 0, .inr (7, [.int th, .int (nI n), .ref (am 1), .ref (am 2), .ref (am 3), .int (nI kn), .ref (am 4), .ref (am 5), .ref (am 6), .ref (am 7), .ref (am 8), .ref (am 9), .ref (am 10), .ref (am 11), .ref (am 12)])), (am 5, .inl (kd, 60, .inr (.inr (.inr (.inl V))))), (am 8, .inl (ki, 2, .inl TK)), (am 9, .inl (kd, 2, .inr (.inr (.inr (.inl FA)))))]) [(am 0, .inr (7, [.int 0, .int (nI n), .ref (am 1), .ref (am 2), .ref (am 3), .int (nI kn), .ref (am 4), .ref (am 5), .ref (am 6), .ref (am 7), .ref (am 8), .ref (am 9), .ref (am 10), .ref (am 11), .ref (am 12)])), (am 5, .inl (kd, 60, .inr (.inr (.inr (.inl V))))), (am 8, .inl (ki, 2, .inl TK)), (am 9, .inl (kd, 2, .inr (.inr (.inr (.inl FA)))))] := hD
  refine lv_iload_n hx hb dX7_limit_5 rfl (lv_at hl 1 rfl) ?_
  refine lv_if_lt (tgt := 14) hx hb dX7_limit_6 (by decide) (fun c_6 => ?_) (fun c_6 => ?_)
  · have c_6 : 1 < 0 := (nI_ltI (a := 1) (b := 0) (by omega) (by omega)).mp c_6
    exact absurd c_6 (by omega)
  · have c_6 : ¬ 1 < 0 := fun h9 => c_6 ((nI_ltI (a := 1) (b := 0) (by omega) (by omega)).mpr h9)
    refine lv_iload_n hx hb dX7_limit_9 rfl (lv_at hl 1 rfl) ?_
    refine lv_iconst (v := 1) hx hb dX7_limit_10 (by decide) ?_
    refine lv_icmp_le (tgt := 21) hx hb dX7_limit_11 (by decide) (fun c_11 => ?_) (fun c_11 => ?_)
    · have c_11 : 1 ≤ 1 := (nI_leI (a := 1) (b := 1) (by omega) (by omega)).mp c_11
      refine lv_aload_n hx hb dX7_limit_21 rfl (lv_at hl 0 rfl) ?_
      refine va_get (D := D) (ci := 7) (v := .int (nI kn)) (C := RX7) (T := TX7) (N := 15) hx hb hts iw_X7_limit_X7 hown hC.1 hP 0 rfl rfl 5 (by decide) (hts (.fieldLink RX7 56 "MonotoneSplineModel" "knots" "I") (List.mem_of_getElem? (l := wsX7_limit) (i := 2) rfl)) (fun _ h9 => h9) rfl dX7_limit_22 ?_
      refine lv_if_ne (tgt := 35) hx hb dX7_limit_25 (by decide) (fun c_25 => ?_) (fun c_25 => ?_)
      · have c_25 : ¬ kn = 0 := fun h9 => c_25 ((nI_eq (a := kn) (b := 0) (by omega) (by omega)).mpr h9)
        refine lv_iload_n hx hb dX7_limit_35 rfl (lv_at hl 1 rfl) ?_
        refine lv_if_ne (tgt := 48) hx hb dX7_limit_36 (by decide) (fun c_36 => ?_) (fun c_36 => ?_)
        · have c_36 : ¬ 1 = 0 := fun h9 => c_36 ((nI_eq (a := 1) (b := 0) (by omega) (by omega)).mpr h9)
          refine lv_aload_n hx hb dX7_limit_48 rfl (lv_at hl 0 rfl) ?_
          refine va_get (D := D) (ci := 7) (v := .ref (am 5)) (C := RX7) (T := TX7) (N := 15) hx hb hts iw_X7_limit_X7 hown hC.1 hP 0 rfl rfl 7 (by decide) (hts (.fieldLink RX7 22 "MonotoneSplineModel" "values" "[D") (List.mem_of_getElem? (l := wsX7_limit) (i := 3) rfl)) (fun _ h9 => h9) rfl dX7_limit_49 ?_
          refine lv_aload_n hx hb dX7_limit_52 rfl (lv_at hl 0 rfl) ?_
          refine va_get (D := D) (ci := 7) (v := .int (nI kn)) (C := RX7) (T := TX7) (N := 15) hx hb hts iw_X7_limit_X7 hown hC.1 hP 0 rfl rfl 5 (by decide) (hts (.fieldLink RX7 56 "MonotoneSplineModel" "knots" "I") (List.mem_of_getElem? (l := wsX7_limit) (i := 2) rfl)) (fun _ h9 => h9) rfl dX7_limit_53 ?_
          refine lv_iconst (v := 1) hx hb dX7_limit_56 (by decide) ?_
          refine my_isub (w := nI (kn - 1)) hx hb dX7_limit_57 (pk_sub (a := kn) (b := 1) (by omega)) ?_
          refine my_dald (k := kn - 1) (n := 60) (f := V) hx hb hC hP 1 rfl (by omega) (by omega) dX7_limit_58 ?_
          refine my_topd (w := V (kn - 1)) (rfl) ?_
          refine lv_dstore_n (lv' := [(2, .double (V (kn - 1))), (0, .ref (am 0)), (1, .int (nI 1))]) hx hb dX7_limit_59 rfl hl (by decide) rfl (fun ls hl => ?_)
          refine lv_iload_n hx hb dX7_limit_60 rfl (lv_at hl 2 rfl) ?_
          refine lv_if_ne (tgt := 70) hx hb dX7_limit_61 (by decide) (fun c_61 => ?_) (fun c_61 => ?_)
          · have c_61 : ¬ 1 = 0 := fun h9 => c_61 ((nI_eq (a := 1) (b := 0) (by omega) (by omega)).mpr h9)
            refine lv_dconst1 hx hb dX7_limit_70 ?_
            refine my_topd (w := 4607182418800017408) (by decide) ?_
            refine lv_dstore (lv' := [(4, .double 4607182418800017408), (2, .double (V (kn - 1))), (0, .ref (am 0)), (1, .int (nI 1))]) hx hb dX7_limit_71 hl (by decide) rfl (fun ls hl => ?_)
            refine lv_aload_n hx hb dX7_limit_73 rfl (lv_at hl 2 rfl) ?_
            refine va_get (D := D) (ci := 7) (v := .ref (am 9)) (C := RX7) (T := TX7) (N := 15) hx hb hts iw_X7_limit_X7 hown hC.1 hP 0 rfl rfl 11 (by decide) (hts (.fieldLink RX7 36 "MonotoneSplineModel" "factors" "[D") (List.mem_of_getElem? (l := wsX7_limit) (i := 5) rfl)) (fun _ h9 => h9) rfl dX7_limit_74 ?_
            refine lv_iload_n hx hb dX7_limit_77 rfl (lv_at hl 3 rfl) ?_
            refine my_dald (k := 1) (n := 2) (f := FA) hx hb hC hP 3 rfl (by omega) (by omega) dX7_limit_78 ?_
            refine my_topd (w := fa) (hF) ?_
            refine lv_dstore (lv' := [(6, .double fa), (4, .double 4607182418800017408), (2, .double (V (kn - 1))), (0, .ref (am 0)), (1, .int (nI 1))]) hx hb dX7_limit_79 hl (by decide) rfl (fun ls hl => ?_)
            refine lv_aload_n hx hb dX7_limit_81 rfl (lv_at hl 3 rfl) ?_
            refine va_get (D := D) (ci := 7) (v := .ref (am 8)) (C := RX7) (T := TX7) (N := 15) hx hb hts iw_X7_limit_X7 hown hC.1 hP 0 rfl rfl 10 (by decide) (hts (.fieldLink RX7 32 "MonotoneSplineModel" "tailKinds" "[I") (List.mem_of_getElem? (l := wsX7_limit) (i := 6) rfl)) (fun _ h9 => h9) rfl dX7_limit_82 ?_
            refine lv_iload_n hx hb dX7_limit_85 rfl (lv_at hl 4 rfl) ?_
            refine my_iald (k := 1) (n := 2) (f := TK) hx hb hC hP 2 rfl (by omega) (by omega) dX7_limit_86 ?_
            refine my_topi (w := nI kd9) (hT) ?_
            by_cases sw_87_0 : kd9 = 0
            · refine my_topi (w := 0) (by rw [sw_87_0]; rfl) ?_
              refine lv_tableIn (off := 41) (tgt := 128) hx hb dX7_limit_87 (by decide) (by decide) (by decide) (by decide) ?_
              refine lv_dload_n hx hb dX7_limit_128 rfl (lv_at hl 2 rfl) ?_
              exact my_dretW hx hb hr hlocks hP (rfl) hS (by unfold s_lim; rw [if_neg (by omega), if_neg (by omega), if_neg (by omega), if_neg (by omega), if_neg (by omega)]) dX7_limit_129
            by_cases sw_87_1 : kd9 = 1
            · refine my_topi (w := 1) (by rw [sw_87_1]; rfl) ?_
              refine lv_tableIn (off := 43) (tgt := 130) hx hb dX7_limit_87 (by decide) (by decide) (by decide) (by decide) ?_
              refine lv_dload_n hx hb dX7_limit_130 rfl (lv_at hl 2 rfl) ?_
              refine lv_dload hx hb dX7_limit_131 (lv_at hl 0 rfl) ?_
              refine lv_dload hx hb dX7_limit_133 (lv_at hl 1 rfl) ?_
              refine lv_ldc2d hx hb hown (hts (.constantDouble RX7 156 (4609753056924675352)) (List.mem_of_getElem? (l := wsX7_limit) (i := 7) rfl)) dX7_limit_135 ?_
              refine lv_dmul hx hb dX7_limit_138 (fx_n64 (by unfold fx_n; decide +kernel)) ?_
              refine my_topd (w := s_mir 0 4609753056924675352) (by decide +kernel) ?_
              refine lv_dmul hx hb dX7_limit_139 (fx_n64 ((s_lim_n (c := 4609753056924675352) (lf := 0) hfa (hJ.2.2.2.1 (kn - 1) (by omega)).1 (Or.inl rfl)).1.1)) ?_
              refine lv_dadd hx hb dX7_limit_140 (fx_n64 ((s_lim_n (c := 4609753056924675352) (lf := 0) hfa (hJ.2.2.2.1 (kn - 1) (by omega)).1 (Or.inl rfl)).1.2)) ?_
              exact my_dretW hx hb hr hlocks hP (rfl) hS ((if_pos sw_87_1).symm) dX7_limit_141
            by_cases sw_87_2 : kd9 = 2
            · refine my_topi (w := 2) (by rw [sw_87_2]; rfl) ?_
              refine lv_tableIn (off := 55) (tgt := 142) hx hb dX7_limit_87 (by decide) (by decide) (by decide) (by decide) ?_
              refine lv_dload_n hx hb dX7_limit_142 rfl (lv_at hl 2 rfl) ?_
              refine lv_dload hx hb dX7_limit_143 (lv_at hl 0 rfl) ?_
              refine lv_dload hx hb dX7_limit_145 (lv_at hl 1 rfl) ?_
              refine my_topd (w := s_mir 0 4607182418800017408) (by decide) ?_
              refine lv_dmul hx hb dX7_limit_147 (fx_n64 ((s_lim_n (c := 4607182418800017408) (lf := 0) hfa (hJ.2.2.2.1 (kn - 1) (by omega)).1 (Or.inr (Or.inl rfl))).1.1)) ?_
              refine lv_dadd hx hb dX7_limit_148 (fx_n64 ((s_lim_n (c := 4607182418800017408) (lf := 0) hfa (hJ.2.2.2.1 (kn - 1) (by omega)).1 (Or.inr (Or.inl rfl))).1.2)) ?_
              exact my_dretW hx hb hr hlocks hP (rfl) hS (by unfold s_lim; rw [if_neg sw_87_1, if_pos sw_87_2]) dX7_limit_149
            by_cases sw_87_3 : kd9 = 3
            · refine my_topi (w := 3) (by rw [sw_87_3]; rfl) ?_
              refine lv_tableIn (off := 63) (tgt := 150) hx hb dX7_limit_87 (by decide) (by decide) (by decide) (by decide) ?_
              refine lv_dload_n hx hb dX7_limit_150 rfl (lv_at hl 2 rfl) ?_
              refine lv_dload hx hb dX7_limit_151 (lv_at hl 0 rfl) ?_
              refine lv_ldc2d hx hb hown (hts (.constantDouble RX7 154 (13830554455654793216)) (List.mem_of_getElem? (l := wsX7_limit) (i := 4) rfl)) dX7_limit_153 ?_
              refine lv_dmul hx hb dX7_limit_156 (fx_n64 ((s_lim_n (c := 13830554455654793216) (lf := 0) hfa (hJ.2.2.2.1 (kn - 1) (by omega)).1 (Or.inr (Or.inr rfl))).2.1)) ?_
              refine lv_dadd hx hb dX7_limit_157 (fx_n64 ((s_lim_n (c := 13830554455654793216) (lf := 0) hfa (hJ.2.2.2.1 (kn - 1) (by omega)).1 (Or.inr (Or.inr rfl))).2.2)) ?_
              exact my_dretW hx hb hr hlocks hP (rfl) hS (by unfold s_lim; rw [if_neg sw_87_1, if_neg sw_87_2, if_pos sw_87_3]) dX7_limit_158
            by_cases sw_87_4 : kd9 = 4
            · refine my_topi (w := 4) (by rw [sw_87_4]; rfl) ?_
              refine lv_tableIn (off := 89) (tgt := 176) hx hb dX7_limit_87 (by decide) (by decide) (by decide) (by decide) ?_
              refine lv_dload hx hb dX7_limit_176 (lv_at hl 0 rfl) ?_
              refine lv_dload hx hb dX7_limit_178 (lv_at hl 1 rfl) ?_
              refine lv_dmul hx hb dX7_limit_180 (fx_n64 ((s_side1 hfa).1)) ?_
              refine lv_dconst0 hx hb dX7_limit_181 ?_
              refine my_topd (w := 0) (by decide) ?_
              refine lv_dcmp hx hb dX7_limit_182 ?_
              refine lv_if_le (tgt := 192) hx hb dX7_limit_183 (by decide) (fun c_183 => ?_) (fun c_183 => ?_)
              · have c_183 := cv_l_le_t c_183
                refine lv_ldc2d hx hb hown (hts (.constantDouble RX7 162 (18442240474082181120)) (List.mem_of_getElem? (l := wsX7_limit) (i := 9) rfl)) dX7_limit_192 ?_
                exact my_dretW hx hb hr hlocks hP (rfl) hS (by unfold s_lim; rw [if_neg (by omega), if_neg (by omega), if_neg (by omega), if_pos (by omega), if_neg (fun h9 => h9.elim (fun h8 => c_183 ((s_side1 hfa).2.mpr h8.1)) (fun h8 => h8.2 rfl))]) dX7_limit_195
              · have c_183 := cv_l_le_f c_183
                refine lv_ldc2d hx hb hown (hts (.constantDouble RX7 160 (9218868437227405312)) (List.mem_of_getElem? (l := wsX7_limit) (i := 8) rfl)) dX7_limit_186 ?_
                refine lv_goto (tgt := 195) hx hb dX7_limit_189 (by decide) ?_
                exact my_dretW hx hb hr hlocks hP (rfl) hS (by unfold s_lim; rw [if_neg (by omega), if_neg (by omega), if_neg (by omega), if_pos (by omega), if_pos (Or.inl ⟨(s_side1 hfa).2.mp c_183, rfl⟩)]) dX7_limit_195
            by_cases sw_87_5 : kd9 = 5
            · refine my_topi (w := 5) (by rw [sw_87_5]; rfl) ?_
              refine lv_tableIn (off := 89) (tgt := 176) hx hb dX7_limit_87 (by decide) (by decide) (by decide) (by decide) ?_
              refine lv_dload hx hb dX7_limit_176 (lv_at hl 0 rfl) ?_
              refine lv_dload hx hb dX7_limit_178 (lv_at hl 1 rfl) ?_
              refine lv_dmul hx hb dX7_limit_180 (fx_n64 ((s_side1 hfa).1)) ?_
              refine lv_dconst0 hx hb dX7_limit_181 ?_
              refine my_topd (w := 0) (by decide) ?_
              refine lv_dcmp hx hb dX7_limit_182 ?_
              refine lv_if_le (tgt := 192) hx hb dX7_limit_183 (by decide) (fun c_183 => ?_) (fun c_183 => ?_)
              · have c_183 := cv_l_le_t c_183
                refine lv_ldc2d hx hb hown (hts (.constantDouble RX7 162 (18442240474082181120)) (List.mem_of_getElem? (l := wsX7_limit) (i := 9) rfl)) dX7_limit_192 ?_
                exact my_dretW hx hb hr hlocks hP (rfl) hS (by unfold s_lim; rw [if_neg (by omega), if_neg (by omega), if_neg (by omega), if_pos (by omega), if_neg (fun h9 => h9.elim (fun h8 => c_183 ((s_side1 hfa).2.mpr h8.1)) (fun h8 => h8.2 rfl))]) dX7_limit_195
              · have c_183 := cv_l_le_f c_183
                refine lv_ldc2d hx hb hown (hts (.constantDouble RX7 160 (9218868437227405312)) (List.mem_of_getElem? (l := wsX7_limit) (i := 8) rfl)) dX7_limit_186 ?_
                refine lv_goto (tgt := 195) hx hb dX7_limit_189 (by decide) ?_
                exact my_dretW hx hb hr hlocks hP (rfl) hS (by unfold s_lim; rw [if_neg (by omega), if_neg (by omega), if_neg (by omega), if_pos (by omega), if_pos (Or.inl ⟨(s_side1 hfa).2.mp c_183, rfl⟩)]) dX7_limit_195
            by_cases sw_87_6 : kd9 = 6
            · refine my_topi (w := 6) (by rw [sw_87_6]; rfl) ?_
              refine lv_tableIn (off := 72) (tgt := 159) hx hb dX7_limit_87 (by decide) (by decide) (by decide) (by decide) ?_
              refine lv_dload hx hb dX7_limit_159 (lv_at hl 0 rfl) ?_
              refine lv_dconst0 hx hb dX7_limit_161 ?_
              refine my_topd (w := 0) (by decide) ?_
              refine lv_dcmp hx hb dX7_limit_162 ?_
              refine lv_if_le (tgt := 172) hx hb dX7_limit_163 (by decide) (fun c_163 => ?_) (fun c_163 => ?_)
              · have c_163 := cv_l_le_t c_163
                refine lv_ldc2d hx hb hown (hts (.constantDouble RX7 162 (18442240474082181120)) (List.mem_of_getElem? (l := wsX7_limit) (i := 9) rfl)) dX7_limit_172 ?_
                exact my_dretW hx hb hr hlocks hP (rfl) hS (by unfold s_lim; rw [if_neg (by omega), if_neg (by omega), if_neg (by omega), if_neg (by omega), if_pos (by omega), if_neg c_163]) dX7_limit_175
              · have c_163 := cv_l_le_f c_163
                refine lv_ldc2d hx hb hown (hts (.constantDouble RX7 160 (9218868437227405312)) (List.mem_of_getElem? (l := wsX7_limit) (i := 8) rfl)) dX7_limit_166 ?_
                refine lv_goto (tgt := 175) hx hb dX7_limit_169 (by decide) ?_
                exact my_dretW hx hb hr hlocks hP (rfl) hS (by unfold s_lim; rw [if_neg (by omega), if_neg (by omega), if_neg (by omega), if_neg (by omega), if_pos (by omega), if_pos c_163]) dX7_limit_175
            exact absurd h0 (by omega)
          · have c_61 : 1 = 0 := (nI_eq (a := 1) (b := 0) (by omega) (by omega)).mp c_61
            exact absurd c_61 (by decide)
        · have c_36 : 1 = 0 := (nI_eq (a := 1) (b := 0) (by omega) (by omega)).mp c_36
          exact absurd c_36 (by decide)
      · have c_25 : kn = 0 := (nI_eq (a := kn) (b := 0) (by omega) (by omega)).mp c_25
        exact absurd c_25 (by omega)
    · have c_11 : ¬ 1 ≤ 1 := fun h9 => c_11 ((nI_leI (a := 1) (b := 1) (by omega) (by omega)).mpr h9)
      exact absurd c_11 (by omega)

set_option maxHeartbeats 4000000 in
set_option maxRecDepth 100000 in
theorem mm_limit1_2 (l : Launch) (D : va_G) (kd ki kz kl : ClassId) (z : Nat) (am : Nat → Nat) (th : Int32) (n : Nat) : my_WR l D kd ki kz kl z yX7_limit wsX7_limit ({ frames := 1, cells := 0, slots := 0, locals := 21 }) [.ref (am 0), .int (nI 1)] [(am 0, .inr (7, [.int th, .int (nI n), .ref (am 1), .ref (am 2), .ref (am 3), .int (nI 0), .ref (am 4), .ref (am 5), .ref (am 6), .ref (am 7), .ref (am 8), .ref (am 9), .ref (am 10), .ref (am 11), .ref (am 12)]))] [(am 0, .inr (7, [.int 2, .int (nI n), .ref (am 1), .ref (am 2), .ref (am 3), .int (nI 0), .ref (am 4), .ref (am 5), .ref (am 6), .ref (am 7), .ref (am 8), .ref (am 9), .ref (am 10), .ref (am 11), .ref (am 12)]))] (some (.double (FP.i2d 0))) := by
  refine my_WR_of (cc := cX7_limit) (maxL := 8) (ret := (some .double)) (by decide) rfl (Nat.le_of_ble_eq_true rfl) ?_
  intro p e s m below meth c S hr hlocks hC hP hD hz hS ls hl
  have S : CallFix p m c cX7_limit 8 s ([.ref (am 0), .int (nI 1)] : List Value).toArray wsX7_limit RX7 := S
  obtain ⟨hx, hb, hml, hown, hts⟩ := id S
  have hl : lv_has ls 8 [(0, .ref (am 0)), (1, .int (nI 1))] := hl
  suffices K0 : ∀ (H : Heap) (locs : List Loc), va_P D vwCl [(am 0, .inr (7, [.int th, .int (nI n), .ref (am 1), .ref (am 2), .ref (am 3), .int (nI 0), .ref (am 4), .ref (am 5), .ref (am 6), .ref (am 7), .ref (am 8), .ref (am 9), .ref (am 10), .ref (am 11), .ref (am 12)]))] H → va_D (my_A [(am 0, .inr (7, [.int th, .int (nI n), .ref (am 1), .ref (am 2), .ref (am 3), .int (nI 0), .ref (am 4), .ref (am 5), .ref (am 6), .ref (am 7), .ref (am 8), .ref (am 9), .ref (am 10), .ref (am 11), .ref (am 12)]))]) [(am 0, .inr (7, [.int th, .int (nI n), .ref (am 1), .ref (am 2), .ref (am 3), .int (nI 0), .ref (am 4), .ref (am 5), .ref (am 6), .ref (am 7), .ref (am 8), .ref (am 9), .ref (am 10), .ref (am 11), .ref (am 12)]))] → va_S (my_A [(am 0, .inr (7, [.int th, .int (nI n), .ref (am 1), .ref (am 2), .ref (am 3), .int (nI 0), .ref (am 4), .ref (am 5), .ref (am 6), .ref (am 7), .ref (am 8), .ref (am 9), .ref (am 10), .ref (am 11), .ref (am 12)]))]) s.heap H locs → W p l e ({ frames := 1, cells := 0, slots := 0, locals := 21 }) s m ([.ref (am 0), .int (nI 1)] : List Value).toArray below meth c H locs 0 0 (my_WQ below D ([.ref (am 0), .int (nI 1)] : List Value).toArray s [(am 0, .inr (7, [.int th, .int (nI n), .ref (am 1), .ref (am 2), .ref (am 3), .int (nI 0), .ref (am 4), .ref (am 5), .ref (am 6), .ref (am 7), .ref (am 8), .ref (am 9), .ref (am 10), .ref (am 11), .ref (am 12)]))] [(am 0, .inr (7, [.int 2, .int (nI n), .ref (am 1), .ref (am 2), .ref (am 3), .int (nI 0), .ref (am 4), .ref (am 5), .ref (am 6), .ref (am 7), .ref (am 8), .ref (am 9), .ref (am 10), .ref (am 11), .ref (am 12)]))] (some (.double (FP.i2d 0)))) (F0 m 0 ls []) from K0 _ _ hP hD hS
  intro H locs hP hD hS
  refine lv_aload_n hx hb dX7_limit_0 rfl (lv_at hl 0 rfl) ?_
  refine lv_iconst (v := 0) hx hb dX7_limit_1 (by decide) ?_
  refine va_put (D := D) (ci := 7) (v := .int 0) (ty := .int) (C := RX7) (T := TX7) (N := 15) hx hb hts iw_X7_limit_X7 tyX7 tyX7_ok nmX7 hown hC.1 hP hD hS 0 rfl rfl 0 (by decide) (hts (.fieldLink RX7 48 "MonotoneSplineModel" "thrown" "I") (List.mem_of_getElem? (l := wsX7_limit) (i := 1) rfl)) (fun _ h9 => h9) rfl (by decide +kernel) rfl rfl (Nat.le_of_ble_eq_true rfl) dX7_limit_2 (fun H locs hP hD hS => ?_)
  have hP : va_P D vwCl [(am 0, .inr (7, [.int 0, .int (nI n), .ref (am 1), .ref (am 2), .ref (am 3), .int (nI 0), .ref (am 4), .ref (am 5), .ref (am 6), .ref (am 7), .ref (am 8), .ref (am 9), .ref (am 10), .ref (am 11), .ref (am 12)]))] H := hP
  have hD : va_D (my_A [(am 0, .inr (7, [.int th, .int (nI n), .ref (am 1), .ref (am 2), .ref (am 3), .int (nI 0), .ref (am 4), .ref (am 5), .ref (am 6), .ref (am 7), .ref (am 8), .ref (am 9), .ref (am 10), .ref (am 11), .ref (am 12)]))]) [(am 0, .inr (7, [.int 0, .int (nI n), .ref (am 1), .ref (am 2), .ref (am 3), .int (nI 0), .ref (am 4), .ref (am 5), .ref (am 6), .ref (am 7), .ref (am 8), .ref (am 9), .ref (am 10), .ref (am 11), .ref (am 12)]))] := hD
  refine lv_iload_n hx hb dX7_limit_5 rfl (lv_at hl 1 rfl) ?_
  refine lv_if_lt (tgt := 14) hx hb dX7_limit_6 (by decide) (fun c_6 => ?_) (fun c_6 => ?_)
  · have c_6 : 1 < 0 := (nI_ltI (a := 1) (b := 0) (by omega) (by omega)).mp c_6
    exact absurd c_6 (by omega)
  · have c_6 : ¬ 1 < 0 := fun h9 => c_6 ((nI_ltI (a := 1) (b := 0) (by omega) (by omega)).mpr h9)
    refine lv_iload_n hx hb dX7_limit_9 rfl (lv_at hl 1 rfl) ?_
    refine lv_iconst (v := 1) hx hb dX7_limit_10 (by decide) ?_
    refine lv_icmp_le (tgt := 21) hx hb dX7_limit_11 (by decide) (fun c_11 => ?_) (fun c_11 => ?_)
    · have c_11 : 1 ≤ 1 := (nI_leI (a := 1) (b := 1) (by omega) (by omega)).mp c_11
      refine lv_aload_n hx hb dX7_limit_21 rfl (lv_at hl 0 rfl) ?_
      refine va_get (D := D) (ci := 7) (v := .int (nI 0)) (C := RX7) (T := TX7) (N := 15) hx hb hts iw_X7_limit_X7 hown hC.1 hP 0 rfl rfl 5 (by decide) (hts (.fieldLink RX7 56 "MonotoneSplineModel" "knots" "I") (List.mem_of_getElem? (l := wsX7_limit) (i := 2) rfl)) (fun _ h9 => h9) rfl dX7_limit_22 ?_
      refine lv_if_ne (tgt := 35) hx hb dX7_limit_25 (by decide) (fun c_25 => ?_) (fun c_25 => ?_)
      · have c_25 : ¬ 0 = 0 := fun h9 => c_25 ((nI_eq (a := 0) (b := 0) (by omega) (by omega)).mpr h9)
        exact absurd rfl c_25
      · have c_25 : 0 = 0 := (nI_eq (a := 0) (b := 0) (by omega) (by omega)).mp c_25
        refine lv_aload_n hx hb dX7_limit_28 rfl (lv_at hl 0 rfl) ?_
        refine lv_iconst (v := 2) hx hb dX7_limit_29 (by decide) ?_
        refine my_goW (v := (some (.int 0))) (w1 := [(am 0, .inr (7, [.int 2, .int (nI n), .ref (am 1), .ref (am 2), .ref (am 3), .int (nI 0), .ref (am 4), .ref (am 5), .ref (am 6), .ref (am 7), .ref (am 8), .ref (am 9), .ref (am 10), .ref (am 11), .ref (am 12)]))]) (wx' := [(am 0, .inr (7, [.int 2, .int (nI n), .ref (am 1), .ref (am 2), .ref (am 3), .int (nI 0), .ref (am 4), .ref (am 5), .ref (am 6), .ref (am 7), .ref (am 8), .ref (am 9), .ref (am 10), .ref (am 11), .ref (am 12)]))]) (my_runV (bytes := cX7_fail) (maxL := 2) (ret := (some .int)) (n := 1) (As := [.int 2]) (rest := []) S hl.1 (mm_fail l D kd ki kz kl z am 0 n 0 2) rfl ⟨rfl, rfl⟩ gX7_limit_X7_fail (by decide +kernel) rfl ⟨Nat.le_of_ble_eq_true rfl, Nat.le_of_ble_eq_true rfl⟩ (my_preW (my_C_S hC hS hz) (my_P_sub (wc := [(am 0, .inr (7, [.int 0, .int (nI n), .ref (am 1), .ref (am 2), .ref (am 3), .int (nI 0), .ref (am 4), .ref (am 5), .ref (am 6), .ref (am 7), .ref (am 8), .ref (am 9), .ref (am 10), .ref (am 11), .ref (am 12)]))]) hP [0] rfl) (my_D_sub hD hz [0] (by decide) rfl)) (va_recv hC.1 hP (ci := 7) (q0 := 0) rfl rfl) rfl rfl dX7_limit_30) hP hD hS [0] rfl rfl rfl (fun H locs hP hD hS => ?_)
        refine W.eq (g2 := F0 m 33 ls [.int 0]) rfl ?_
        refine lv_i2d hx hb dX7_limit_33 ?_
        exact my_dretW hx hb hr hlocks hP (rfl) hS (rfl) dX7_limit_34
    · have c_11 : ¬ 1 ≤ 1 := fun h9 => c_11 ((nI_leI (a := 1) (b := 1) (by omega) (by omega)).mpr h9)
      exact absurd c_11 (by omega)

set_option maxHeartbeats 4000000 in
set_option maxRecDepth 100000 in
theorem mm_setTail_1 (l : Launch) (D : va_G) (kd ki kz kl : ClassId) (z : Nat) (am : Nat → Nat) (th : Int32) (n : Nat) (kn : Nat) (TK : Nat → Int32) (FA : Nat → UInt64) (i : Int32) (kx : Int32) (a : UInt64) (hno : ¬ (i = 0 ∨ i = 1)) : my_WR l D kd ki kz kl z yX7_setTail wsX7_setTail ({ frames := 1, cells := 0, slots := 0, locals := 21 }) [.ref (am 0), .int i, .int kx, .double a] [(am 0, .inr (7, [.int th, .int (nI n), .ref (am 1), .ref (am 2), .ref (am 3), .int (nI kn), .ref (am 4), .ref (am 5), .ref (am 6), .ref (am 7), .ref (am 8), .ref (am 9), .ref (am 10), .ref (am 11), .ref (am 12)])), (am 8, .inl (ki, 2, .inl TK)), (am 9, .inl (kd, 2, .inr (.inr (.inr (.inl FA)))))] [(am 0, .inr (7, [.int 1, .int (nI n), .ref (am 1), .ref (am 2), .ref (am 3), .int (nI kn), .ref (am 4), .ref (am 5), .ref (am 6), .ref (am 7), .ref (am 8), .ref (am 9), .ref (am 10), .ref (am 11), .ref (am 12)])), (am 8, .inl (ki, 2, .inl TK)), (am 9, .inl (kd, 2, .inr (.inr (.inr (.inl FA)))))] (some (.int 0)) := by
  refine my_WR_of (cc := cX7_setTail) (maxL := 8) (ret := (some .int)) (by decide) rfl (Nat.le_of_ble_eq_true rfl) ?_
  intro p e s m below meth c S hr hlocks hC hP hD hz hS ls hl
  have S : CallFix p m c cX7_setTail 8 s ([.ref (am 0), .int i, .int kx, .double a] : List Value).toArray wsX7_setTail RX7 := S
  obtain ⟨hx, hb, hml, hown, hts⟩ := id S
  have hl : lv_has ls 8 [(0, .ref (am 0)), (1, .int i), (2, .int kx), (3, .double a)] := hl
  suffices K0 : ∀ (H : Heap) (locs : List Loc), va_P D vwCl [(am 0, .inr (7, [.int th, .int (nI n), .ref (am 1), .ref (am 2), .ref (am 3), .int (nI kn), .ref (am 4), .ref (am 5), .ref (am 6), .ref (am 7), .ref (am 8), .ref (am 9), .ref (am 10), .ref (am 11), .ref (am 12)])), (am 8, .inl (ki, 2, .inl TK)), (am 9, .inl (kd, 2, .inr (.inr (.inr (.inl FA)))))] H → va_D (my_A [(am 0, .inr (7, [.int th, .int (nI n), .ref (am 1), .ref (am 2), .ref (am 3), .int (nI kn), .ref (am 4), .ref (am 5), .ref (am 6), .ref (am 7), .ref (am 8), .ref (am 9), .ref (am 10), .ref (am 11), .ref (am 12)])), (am 8, .inl (ki, 2, .inl TK)), (am 9, .inl (kd, 2, .inr (.inr (.inr (.inl FA)))))]) [(am 0, .inr (7, [.int th, .int (nI n), .ref (am 1), .ref (am 2), .ref (am 3), .int (nI kn), .ref (am 4), .ref (am 5), .ref (am 6), .ref (am 7), .ref (am 8), .ref (am 9), .ref (am 10), .ref (am 11), .ref (am 12)])), (am 8, .inl (ki, 2, .inl TK)), (am 9, .inl (kd, 2, .inr (.inr (.inr (.inl FA)))))] → va_S (my_A [(am 0, .inr (7, [.int th, .int (nI n), .ref (am 1), .ref (am 2), .ref (am 3), .int (nI kn), .ref (am 4), .ref (am 5), .ref (am 6), .ref (am 7), .ref (am 8), .ref (am 9), .ref (am 10), .ref (am 11), .ref (am 12)])), (am 8, .inl (ki, 2, .inl TK)), (am 9, .inl (kd, 2, .inr (.inr (.inr (.inl FA)))))]) s.heap H locs → W p l e ({ frames := 1, cells := 0, slots := 0, locals := 21 }) s m ([.ref (am 0), .int i, .int kx, .double a] : List Value).toArray below meth c H locs 0 0 (my_WQ below D ([.ref (am 0), .int i, .int kx, .double a] : List Value).toArray s [(am 0, .inr (7, [.int th, .int (nI n), .ref (am 1), .ref (am 2), .ref (am 3), .int (nI kn), .ref (am 4), .ref (am 5), .ref (am 6), .ref (am 7), .ref (am 8), .ref (am 9), .ref (am 10), .ref (am 11), .ref (am 12)])), (am 8, .inl (ki, 2, .inl TK)), (am 9, .inl (kd, 2, .inr (.inr (.inr (.inl FA)))))] [(am 0, .inr (7, [.int 1, .int (nI n), .ref (am 1), .ref (am 2), .ref (am 3), .int (nI kn), .ref (am 4), .ref (am 5), .ref (am 6), .ref (am 7), .ref (am 8), .ref (am 9), .ref (am 10), .ref (am 11), .ref (am 12)])), (am 8, .inl (ki, 2, .inl TK)), (am 9, .inl (kd, 2, .inr (.inr (.inr (.inl FA)))))] (some (.int 0))) (F0 m 0 ls []) from K0 _ _ hP hD hS
  intro H locs hP hD hS
  refine lv_aload_n hx hb dX7_setTail_0 rfl (lv_at hl 0 rfl) ?_
  refine lv_iconst (v := 0) hx hb dX7_setTail_1 (by decide) ?_
  refine va_put (D := D) (ci := 7) (v := .int 0) (ty := .int) (C := RX7) (T := TX7) (N := 15) hx hb hts iw_X7_setTail_X7 tyX7 tyX7_ok nmX7 hown hC.1 hP hD hS 0 rfl rfl 0 (by decide) (hts (.fieldLink RX7 48 "MonotoneSplineModel" "thrown" "I") (List.mem_of_getElem? (l := wsX7_setTail) (i := 1) rfl)) (fun _ h9 => h9) rfl (by decide +kernel) rfl rfl (Nat.le_of_ble_eq_true rfl) dX7_setTail_2 (fun H locs hP hD hS => ?_)
  have hP : va_P D vwCl [(am 0, .inr (7, [.int 0, .int (nI n), .ref (am 1), .ref (am 2), .ref (am 3), .int (nI kn), .ref (am 4), .ref (am 5), .ref (am 6), .ref (am 7), .ref (am 8), .ref (am 9), .ref (am 10), .ref (am 11), .ref (am 12)])), (am 8, .inl (ki, 2, .inl TK)), (am 9, .inl (kd, 2, .inr (.inr (.inr (.inl FA)))))] H := hP
  have hD : va_D (my_A [(am 0, .inr (7, [.int th, .int (nI n), .ref (am 1), .ref (am 2), .ref (am 3), .int (nI kn), .ref (am 4), .ref (am 5), .ref (am 6), .ref (am 7), .ref (am 8), .ref (am 9), .ref (am 10), .ref (am 11), .ref (am 12)])), (am 8, .inl (ki, 2, .inl TK)), (am 9, .inl (kd, 2, .inr (.inr (.inr (.inl FA)))))]) [(am 0, .inr (7, [.int 0, .int (nI n), .ref (am 1), .ref (am 2), .ref (am 3), .int (nI kn), .ref (am 4), .ref (am 5), .ref (am 6), .ref (am 7), .ref (am 8), .ref (am 9), .ref (am 10), .ref (am 11), .ref (am 12)])), (am 8, .inl (ki, 2, .inl TK)), (am 9, .inl (kd, 2, .inr (.inr (.inr (.inl FA)))))] := hD
  refine lv_dload_n hx hb dX7_setTail_5 rfl (lv_at hl 3 rfl) ?_
  refine my_goR (v := (some (.double (s_st a)))) (my_runS (bytes := cX7_plain) (maxL := 2) (ret := (some .double)) (n := 1) (As := [.double a]) (rest := []) S hl.1 (mm_plain l D kd ki kz kl z a) rfl ⟨rfl, rfl⟩ gX7_setTail_X7_plain (by decide +kernel) rfl ⟨Nat.le_of_ble_eq_true rfl, Nat.le_of_ble_eq_true rfl⟩ (my_preR (my_C_S hC hS hz) (my_P_sub (wc := []) hP [] rfl)) rfl rfl dX7_setTail_6) ?_
  refine W.eq (g2 := F0 m 9 ls [.double (s_st a)]) rfl ?_
  refine lv_dstore (lv' := [(5, .double (s_st a)), (0, .ref (am 0)), (1, .int i), (2, .int kx), (3, .double a)]) hx hb dX7_setTail_9 hl (by decide) rfl (fun ls hl => ?_)
  refine lv_iload_n hx hb dX7_setTail_11 rfl (lv_at hl 2 rfl) ?_
  refine lv_if_lt (tgt := 20) hx hb dX7_setTail_12 (by decide) (fun c_12 => ?_) (fun c_12 => ?_)
  · skip
    refine lv_aload_n hx hb dX7_setTail_20 rfl (lv_at hl 1 rfl) ?_
    refine lv_iconst (v := 1) hx hb dX7_setTail_21 (by decide) ?_
    refine my_goW (v := (some (.int 0))) (w1 := [(am 0, .inr (7, [.int 1, .int (nI n), .ref (am 1), .ref (am 2), .ref (am 3), .int (nI kn), .ref (am 4), .ref (am 5), .ref (am 6), .ref (am 7), .ref (am 8), .ref (am 9), .ref (am 10), .ref (am 11), .ref (am 12)]))]) (wx' := [(am 0, .inr (7, [.int 1, .int (nI n), .ref (am 1), .ref (am 2), .ref (am 3), .int (nI kn), .ref (am 4), .ref (am 5), .ref (am 6), .ref (am 7), .ref (am 8), .ref (am 9), .ref (am 10), .ref (am 11), .ref (am 12)])), (am 8, .inl (ki, 2, .inl TK)), (am 9, .inl (kd, 2, .inr (.inr (.inr (.inl FA)))))]) (my_runV (bytes := cX7_fail) (maxL := 2) (ret := (some .int)) (n := 1) (As := [.int 1]) (rest := []) S hl.1 (mm_fail l D kd ki kz kl z am 0 n kn 1) rfl ⟨rfl, rfl⟩ gX7_setTail_X7_fail (by decide +kernel) rfl ⟨Nat.le_of_ble_eq_true rfl, Nat.le_of_ble_eq_true rfl⟩ (my_preW (my_C_S hC hS hz) (my_P_sub (wc := [(am 0, .inr (7, [.int 0, .int (nI n), .ref (am 1), .ref (am 2), .ref (am 3), .int (nI kn), .ref (am 4), .ref (am 5), .ref (am 6), .ref (am 7), .ref (am 8), .ref (am 9), .ref (am 10), .ref (am 11), .ref (am 12)]))]) hP [0] rfl) (my_D_sub hD hz [0] (by decide) rfl)) (va_recv hC.1 hP (ci := 7) (q0 := 0) rfl rfl) rfl rfl dX7_setTail_22) hP hD hS [0] rfl rfl rfl (fun H locs hP hD hS => ?_)
    refine W.eq (g2 := F0 m 25 ls [.int 0]) rfl ?_
    exact my_iretW hx hb hr hlocks hP (rfl) hS (rfl) dX7_setTail_25
  · skip
    refine lv_iload_n hx hb dX7_setTail_15 rfl (lv_at hl 2 rfl) ?_
    refine lv_iconst (v := 1) hx hb dX7_setTail_16 (by decide) ?_
    refine lv_icmp_le (tgt := 26) hx hb dX7_setTail_17 (by decide) (fun c_17 => ?_) (fun c_17 => ?_)
    · skip
      exact absurd (i01 c_12 c_17) hno
    · skip
      refine lv_aload_n hx hb dX7_setTail_20 rfl (lv_at hl 1 rfl) ?_
      refine lv_iconst (v := 1) hx hb dX7_setTail_21 (by decide) ?_
      refine my_goW (v := (some (.int 0))) (w1 := [(am 0, .inr (7, [.int 1, .int (nI n), .ref (am 1), .ref (am 2), .ref (am 3), .int (nI kn), .ref (am 4), .ref (am 5), .ref (am 6), .ref (am 7), .ref (am 8), .ref (am 9), .ref (am 10), .ref (am 11), .ref (am 12)]))]) (wx' := [(am 0, .inr (7, [.int 1, .int (nI n), .ref (am 1), .ref (am 2), .ref (am 3), .int (nI kn), .ref (am 4), .ref (am 5), .ref (am 6), .ref (am 7), .ref (am 8), .ref (am 9), .ref (am 10), .ref (am 11), .ref (am 12)])), (am 8, .inl (ki, 2, .inl TK)), (am 9, .inl (kd, 2, .inr (.inr (.inr (.inl FA)))))]) (my_runV (bytes := cX7_fail) (maxL := 2) (ret := (some .int)) (n := 1) (As := [.int 1]) (rest := []) S hl.1 (mm_fail l D kd ki kz kl z am 0 n kn 1) rfl ⟨rfl, rfl⟩ gX7_setTail_X7_fail (by decide +kernel) rfl ⟨Nat.le_of_ble_eq_true rfl, Nat.le_of_ble_eq_true rfl⟩ (my_preW (my_C_S hC hS hz) (my_P_sub (wc := [(am 0, .inr (7, [.int 0, .int (nI n), .ref (am 1), .ref (am 2), .ref (am 3), .int (nI kn), .ref (am 4), .ref (am 5), .ref (am 6), .ref (am 7), .ref (am 8), .ref (am 9), .ref (am 10), .ref (am 11), .ref (am 12)]))]) hP [0] rfl) (my_D_sub hD hz [0] (by decide) rfl)) (va_recv hC.1 hP (ci := 7) (q0 := 0) rfl rfl) rfl rfl dX7_setTail_22) hP hD hS [0] rfl rfl rfl (fun H locs hP hD hS => ?_)
      refine W.eq (g2 := F0 m 25 ls [.int 0]) rfl ?_
      exact my_iretW hx hb hr hlocks hP (rfl) hS (rfl) dX7_setTail_25

set_option maxHeartbeats 4000000 in
set_option maxRecDepth 100000 in
theorem mm_limit_1 (l : Launch) (D : va_G) (kd ki kz kl : ClassId) (z : Nat) (am : Nat → Nat) (th : Int32) (n : Nat) (kn : Nat) (i : Int32) (hno : ¬ (i = 0 ∨ i = 1)) : my_WR l D kd ki kz kl z yX7_limit wsX7_limit ({ frames := 1, cells := 0, slots := 0, locals := 21 }) [.ref (am 0), .int i] [(am 0, .inr (7, [.int th, .int (nI n), .ref (am 1), .ref (am 2), .ref (am 3), .int (nI kn), .ref (am 4), .ref (am 5), .ref (am 6), .ref (am 7), .ref (am 8), .ref (am 9), .ref (am 10), .ref (am 11), .ref (am 12)]))] [(am 0, .inr (7, [.int 1, .int (nI n), .ref (am 1), .ref (am 2), .ref (am 3), .int (nI kn), .ref (am 4), .ref (am 5), .ref (am 6), .ref (am 7), .ref (am 8), .ref (am 9), .ref (am 10), .ref (am 11), .ref (am 12)]))] (some (.double (FP.i2d 0))) := by
  refine my_WR_of (cc := cX7_limit) (maxL := 8) (ret := (some .double)) (by decide) rfl (Nat.le_of_ble_eq_true rfl) ?_
  intro p e s m below meth c S hr hlocks hC hP hD hz hS ls hl
  have S : CallFix p m c cX7_limit 8 s ([.ref (am 0), .int i] : List Value).toArray wsX7_limit RX7 := S
  obtain ⟨hx, hb, hml, hown, hts⟩ := id S
  have hl : lv_has ls 8 [(0, .ref (am 0)), (1, .int i)] := hl
  suffices K0 : ∀ (H : Heap) (locs : List Loc), va_P D vwCl [(am 0, .inr (7, [.int th, .int (nI n), .ref (am 1), .ref (am 2), .ref (am 3), .int (nI kn), .ref (am 4), .ref (am 5), .ref (am 6), .ref (am 7), .ref (am 8), .ref (am 9), .ref (am 10), .ref (am 11), .ref (am 12)]))] H → va_D (my_A [(am 0, .inr (7, [.int th, .int (nI n), .ref (am 1), .ref (am 2), .ref (am 3), .int (nI kn), .ref (am 4), .ref (am 5), .ref (am 6), .ref (am 7), .ref (am 8), .ref (am 9), .ref (am 10), .ref (am 11), .ref (am 12)]))]) [(am 0, .inr (7, [.int th, .int (nI n), .ref (am 1), .ref (am 2), .ref (am 3), .int (nI kn), .ref (am 4), .ref (am 5), .ref (am 6), .ref (am 7), .ref (am 8), .ref (am 9), .ref (am 10), .ref (am 11), .ref (am 12)]))] → va_S (my_A [(am 0, .inr (7, [.int th, .int (nI n), .ref (am 1), .ref (am 2), .ref (am 3), .int (nI kn), .ref (am 4), .ref (am 5), .ref (am 6), .ref (am 7), .ref (am 8), .ref (am 9), .ref (am 10), .ref (am 11), .ref (am 12)]))]) s.heap H locs → W p l e ({ frames := 1, cells := 0, slots := 0, locals := 21 }) s m ([.ref (am 0), .int i] : List Value).toArray below meth c H locs 0 0 (my_WQ below D ([.ref (am 0), .int i] : List Value).toArray s [(am 0, .inr (7, [.int th, .int (nI n), .ref (am 1), .ref (am 2), .ref (am 3), .int (nI kn), .ref (am 4), .ref (am 5), .ref (am 6), .ref (am 7), .ref (am 8), .ref (am 9), .ref (am 10), .ref (am 11), .ref (am 12)]))] [(am 0, .inr (7, [.int 1, .int (nI n), .ref (am 1), .ref (am 2), .ref (am 3), .int (nI kn), .ref (am 4), .ref (am 5), .ref (am 6), .ref (am 7), .ref (am 8), .ref (am 9), .ref (am 10), .ref (am 11), .ref (am 12)]))] (some (.double (FP.i2d 0)))) (F0 m 0 ls []) from K0 _ _ hP hD hS
  intro H locs hP hD hS
  refine lv_aload_n hx hb dX7_limit_0 rfl (lv_at hl 0 rfl) ?_
  refine lv_iconst (v := 0) hx hb dX7_limit_1 (by decide) ?_
  refine va_put (D := D) (ci := 7) (v := .int 0) (ty := .int) (C := RX7) (T := TX7) (N := 15) hx hb hts iw_X7_limit_X7 tyX7 tyX7_ok nmX7 hown hC.1 hP hD hS 0 rfl rfl 0 (by decide) (hts (.fieldLink RX7 48 "MonotoneSplineModel" "thrown" "I") (List.mem_of_getElem? (l := wsX7_limit) (i := 1) rfl)) (fun _ h9 => h9) rfl (by decide +kernel) rfl rfl (Nat.le_of_ble_eq_true rfl) dX7_limit_2 (fun H locs hP hD hS => ?_)
  have hP : va_P D vwCl [(am 0, .inr (7, [.int 0, .int (nI n), .ref (am 1), .ref (am 2), .ref (am 3), .int (nI kn), .ref (am 4), .ref (am 5), .ref (am 6), .ref (am 7), .ref (am 8), .ref (am 9), .ref (am 10), .ref (am 11), .ref (am 12)]))] H := hP
  have hD : va_D (my_A [(am 0, .inr (7, [.int th, .int (nI n), .ref (am 1), .ref (am 2), .ref (am 3), .int (nI kn), .ref (am 4), .ref (am 5), .ref (am 6), .ref (am 7), .ref (am 8), .ref (am 9), .ref (am 10), .ref (am 11), .ref (am 12)]))]) [(am 0, .inr (7, [.int 0, .int (nI n), .ref (am 1), .ref (am 2), .ref (am 3), .int (nI kn), .ref (am 4), .ref (am 5), .ref (am 6), .ref (am 7), .ref (am 8), .ref (am 9), .ref (am 10), .ref (am 11), .ref (am 12)]))] := hD
  refine lv_iload_n hx hb dX7_limit_5 rfl (lv_at hl 1 rfl) ?_
  refine lv_if_lt (tgt := 14) hx hb dX7_limit_6 (by decide) (fun c_6 => ?_) (fun c_6 => ?_)
  · skip
    refine lv_aload_n hx hb dX7_limit_14 rfl (lv_at hl 0 rfl) ?_
    refine lv_iconst (v := 1) hx hb dX7_limit_15 (by decide) ?_
    refine my_goW (v := (some (.int 0))) (w1 := [(am 0, .inr (7, [.int 1, .int (nI n), .ref (am 1), .ref (am 2), .ref (am 3), .int (nI kn), .ref (am 4), .ref (am 5), .ref (am 6), .ref (am 7), .ref (am 8), .ref (am 9), .ref (am 10), .ref (am 11), .ref (am 12)]))]) (wx' := [(am 0, .inr (7, [.int 1, .int (nI n), .ref (am 1), .ref (am 2), .ref (am 3), .int (nI kn), .ref (am 4), .ref (am 5), .ref (am 6), .ref (am 7), .ref (am 8), .ref (am 9), .ref (am 10), .ref (am 11), .ref (am 12)]))]) (my_runV (bytes := cX7_fail) (maxL := 2) (ret := (some .int)) (n := 1) (As := [.int 1]) (rest := []) S hl.1 (mm_fail l D kd ki kz kl z am 0 n kn 1) rfl ⟨rfl, rfl⟩ gX7_limit_X7_fail (by decide +kernel) rfl ⟨Nat.le_of_ble_eq_true rfl, Nat.le_of_ble_eq_true rfl⟩ (my_preW (my_C_S hC hS hz) (my_P_sub (wc := [(am 0, .inr (7, [.int 0, .int (nI n), .ref (am 1), .ref (am 2), .ref (am 3), .int (nI kn), .ref (am 4), .ref (am 5), .ref (am 6), .ref (am 7), .ref (am 8), .ref (am 9), .ref (am 10), .ref (am 11), .ref (am 12)]))]) hP [0] rfl) (my_D_sub hD hz [0] (by decide) rfl)) (va_recv hC.1 hP (ci := 7) (q0 := 0) rfl rfl) rfl rfl dX7_limit_16) hP hD hS [0] rfl rfl rfl (fun H locs hP hD hS => ?_)
    refine W.eq (g2 := F0 m 19 ls [.int 0]) rfl ?_
    refine lv_i2d hx hb dX7_limit_19 ?_
    exact my_dretW hx hb hr hlocks hP (rfl) hS (rfl) dX7_limit_20
  · skip
    refine lv_iload_n hx hb dX7_limit_9 rfl (lv_at hl 1 rfl) ?_
    refine lv_iconst (v := 1) hx hb dX7_limit_10 (by decide) ?_
    refine lv_icmp_le (tgt := 21) hx hb dX7_limit_11 (by decide) (fun c_11 => ?_) (fun c_11 => ?_)
    · skip
      exact absurd (i01 c_6 c_11) hno
    · skip
      refine lv_aload_n hx hb dX7_limit_14 rfl (lv_at hl 0 rfl) ?_
      refine lv_iconst (v := 1) hx hb dX7_limit_15 (by decide) ?_
      refine my_goW (v := (some (.int 0))) (w1 := [(am 0, .inr (7, [.int 1, .int (nI n), .ref (am 1), .ref (am 2), .ref (am 3), .int (nI kn), .ref (am 4), .ref (am 5), .ref (am 6), .ref (am 7), .ref (am 8), .ref (am 9), .ref (am 10), .ref (am 11), .ref (am 12)]))]) (wx' := [(am 0, .inr (7, [.int 1, .int (nI n), .ref (am 1), .ref (am 2), .ref (am 3), .int (nI kn), .ref (am 4), .ref (am 5), .ref (am 6), .ref (am 7), .ref (am 8), .ref (am 9), .ref (am 10), .ref (am 11), .ref (am 12)]))]) (my_runV (bytes := cX7_fail) (maxL := 2) (ret := (some .int)) (n := 1) (As := [.int 1]) (rest := []) S hl.1 (mm_fail l D kd ki kz kl z am 0 n kn 1) rfl ⟨rfl, rfl⟩ gX7_limit_X7_fail (by decide +kernel) rfl ⟨Nat.le_of_ble_eq_true rfl, Nat.le_of_ble_eq_true rfl⟩ (my_preW (my_C_S hC hS hz) (my_P_sub (wc := [(am 0, .inr (7, [.int 0, .int (nI n), .ref (am 1), .ref (am 2), .ref (am 3), .int (nI kn), .ref (am 4), .ref (am 5), .ref (am 6), .ref (am 7), .ref (am 8), .ref (am 9), .ref (am 10), .ref (am 11), .ref (am 12)]))]) hP [0] rfl) (my_D_sub hD hz [0] (by decide) rfl)) (va_recv hC.1 hP (ci := 7) (q0 := 0) rfl rfl) rfl rfl dX7_limit_16) hP hD hS [0] rfl rfl rfl (fun H locs hP hD hS => ?_)
      refine W.eq (g2 := F0 m 19 ls [.int 0]) rfl ?_
      refine lv_i2d hx hb dX7_limit_19 ?_
      exact my_dretW hx hb hr hlocks hP (rfl) hS (rfl) dX7_limit_20

theorem iw_X7_digest_X7 : ∀ w ∈ wsX70, w ∈ wsX7_digest := fun w h => List.mem_cons_of_mem _ (List.mem_append_right _ (h))
set_option maxHeartbeats 4000000 in
set_option maxRecDepth 100000 in
theorem mm_digest (l : Launch) (D : va_G) (kd ki kz kl : ClassId) (z : Nat) (am : Nat → Nat) (th : Int32) (n : Nat) (kn : Nat) (P : Nat → UInt64) (V : Nat → UInt64) (F : Nat → UInt64) (AF : Nat → Int32) (FX : Nat → UInt64) (TK : Nat → Int32) (FA : Nat → UInt64) (k1 : Nat) (k2 : Nat) (hK : kn = 0 ∨ KI kn P V F) (hkn : kn ≤ 60) (hR : MR kn F AF FX) (hT0 : TK 0 = nI k1) (hT1 : TK 1 = nI k2) : my_WR l D kd ki kz kl z yX7_digest wsX7_digest ({ frames := 4, cells := 0, slots := 0, locals := 100 }) [.ref (am 0)] [(am 0, .inr (7, [.int th, .int (nI n), .ref (am 1), .ref (am 2), .ref (am 3), .int (nI kn), .ref (am 4), .ref (am 5), .ref (am 6), .ref (am 7), .ref (am 8), .ref (am 9), .ref (am 10), .ref (am 11), .ref (am 12)])), (am 4, .inl (kd, 60, .inr (.inr (.inr (.inl P))))), (am 5, .inl (kd, 60, .inr (.inr (.inr (.inl V))))), (am 6, .inl (kz, 60, .inl AF)), (am 7, .inl (kd, 60, .inr (.inr (.inr (.inl FX))))), (am 8, .inl (ki, 2, .inl TK)), (am 9, .inl (kd, 2, .inr (.inr (.inr (.inl FA)))))] [(am 0, .inr (7, [.int 0, .int (nI n), .ref (am 1), .ref (am 2), .ref (am 3), .int (nI kn), .ref (am 4), .ref (am 5), .ref (am 6), .ref (am 7), .ref (am 8), .ref (am 9), .ref (am 10), .ref (am 11), .ref (am 12)])), (am 4, .inl (kd, 60, .inr (.inr (.inr (.inl P))))), (am 5, .inl (kd, 60, .inr (.inr (.inr (.inl V))))), (am 6, .inl (kz, 60, .inl AF)), (am 7, .inl (kd, 60, .inr (.inr (.inr (.inl FX))))), (am 8, .inl (ki, 2, .inl TK)), (am 9, .inl (kd, 2, .inr (.inr (.inr (.inl FA)))))] (some (.long (s_dg n kn P V F k1 k2))) := by
  refine my_WR_of (cc := cX7_digest) (maxL := 4) (ret := (some .long)) (by decide) rfl (Nat.le_of_ble_eq_true rfl) ?_
  intro p e s m below meth c S hr hlocks hC hP hD hz hS ls hl
  have S : CallFix p m c cX7_digest 4 s ([.ref (am 0)] : List Value).toArray wsX7_digest RX7 := S
  obtain ⟨hx, hb, hml, hown, hts⟩ := id S
  have hl : lv_has ls 4 [(0, .ref (am 0))] := hl
  suffices K0 : ∀ (H : Heap) (locs : List Loc), va_P D vwCl [(am 0, .inr (7, [.int th, .int (nI n), .ref (am 1), .ref (am 2), .ref (am 3), .int (nI kn), .ref (am 4), .ref (am 5), .ref (am 6), .ref (am 7), .ref (am 8), .ref (am 9), .ref (am 10), .ref (am 11), .ref (am 12)])), (am 4, .inl (kd, 60, .inr (.inr (.inr (.inl P))))), (am 5, .inl (kd, 60, .inr (.inr (.inr (.inl V))))), (am 6, .inl (kz, 60, .inl AF)), (am 7, .inl (kd, 60, .inr (.inr (.inr (.inl FX))))), (am 8, .inl (ki, 2, .inl TK)), (am 9, .inl (kd, 2, .inr (.inr (.inr (.inl FA)))))] H → va_D (my_A [(am 0, .inr (7, [.int th, .int (nI n), .ref (am 1), .ref (am 2), .ref (am 3), .int (nI kn), .ref (am 4), .ref (am 5), .ref (am 6), .ref (am 7), .ref (am 8), .ref (am 9), .ref (am 10), .ref (am 11), .ref (am 12)])), (am 4, .inl (kd, 60, .inr (.inr (.inr (.inl P))))), (am 5, .inl (kd, 60, .inr (.inr (.inr (.inl V))))), (am 6, .inl (kz, 60, .inl AF)), (am 7, .inl (kd, 60, .inr (.inr (.inr (.inl FX))))), (am 8, .inl (ki, 2, .inl TK)), (am 9, .inl (kd, 2, .inr (.inr (.inr (.inl FA)))))]) [(am 0, .inr (7, [.int th, .int (nI n), .ref (am 1), .ref (am 2), .ref (am 3), .int (nI kn), .ref (am 4), .ref (am 5), .ref (am 6), .ref (am 7), .ref (am 8), .ref (am 9), .ref (am 10), .ref (am 11), .ref (am 12)])), (am 4, .inl (kd, 60, .inr (.inr (.inr (.inl P))))), (am 5, .inl (kd, 60, .inr (.inr (.inr (.inl V))))), (am 6, .inl (kz, 60, .inl AF)), (am 7, .inl (kd, 60, .inr (.inr (.inr (.inl FX))))), (am 8, .inl (ki, 2, .inl TK)), (am 9, .inl (kd, 2, .inr (.inr (.inr (.inl FA)))))] → va_S (my_A [(am 0, .inr (7, [.int th, .int (nI n), .ref (am 1), .ref (am 2), .ref (am 3), .int (nI kn), .ref (am 4), .ref (am 5), .ref (am 6), .ref (am 7), .ref (am 8), .ref (am 9), .ref (am 10), .ref (am 11), .ref (am 12)])), (am 4, .inl (kd, 60, .inr (.inr (.inr (.inl P))))), (am 5, .inl (kd, 60, .inr (.inr (.inr (.inl V))))), (am 6, .inl (kz, 60, .inl AF)), (am 7, .inl (kd, 60, .inr (.inr (.inr (.inl FX))))), (am 8, .inl (ki, 2, .inl TK)), (am 9, .inl (kd, 2, .inr (.inr (.inr (.inl FA)))))]) s.heap H locs → W p l e ({ frames := 4, cells := 0, slots := 0, locals := 100 }) s m ([.ref (am 0)] : List Value).toArray below meth c H locs 0 0 (my_WQ below D ([.ref (am 0)] : List Value).toArray s [(am 0, .inr (7, [.int th, .int (nI n), .ref (am 1), .ref (am 2), .ref (am 3), .int (nI kn), .ref (am 4), .ref (am 5), .ref (am 6), .ref (am 7), .ref (am 8), .ref (am 9), .ref (am 10), .ref (am 11), .ref (am 12)])), (am 4, .inl (kd, 60, .inr (.inr (.inr (.inl P))))), (am 5, .inl (kd, 60, .inr (.inr (.inr (.inl V))))), (am 6, .inl (kz, 60, .inl AF)), (am 7, .inl (kd, 60, .inr (.inr (.inr (.inl FX))))), (am 8, .inl (ki, 2, .inl TK)), (am 9, .inl (kd, 2, .inr (.inr (.inr (.inl FA)))))] [(am 0, .inr (7, [.int 0, .int (nI n), .ref (am 1), .ref (am 2), .ref (am 3), .int (nI kn), .ref (am 4), .ref (am 5), .ref (am 6), .ref (am 7), .ref (am 8), .ref (am 9), .ref (am 10), .ref (am 11), .ref (am 12)])), (am 4, .inl (kd, 60, .inr (.inr (.inr (.inl P))))), (am 5, .inl (kd, 60, .inr (.inr (.inr (.inl V))))), (am 6, .inl (kz, 60, .inl AF)), (am 7, .inl (kd, 60, .inr (.inr (.inr (.inl FX))))), (am 8, .inl (ki, 2, .inl TK)), (am 9, .inl (kd, 2, .inr (.inr (.inr (.inl FA)))))] (some (.long (s_dg n kn P V F k1 k2)))) (F0 m 0 ls []) from K0 _ _ hP hD hS
  intro H locs hP hD hS
  refine lv_aload_n hx hb dX7_digest_0 rfl (lv_at hl 0 rfl) ?_
  refine lv_iconst (v := 0) hx hb dX7_digest_1 (by decide) ?_
  refine va_put (D := D) (ci := 7) (v := .int 0) (ty := .int) (C := RX7) (T := TX7) (N := 15) hx hb hts iw_X7_digest_X7 tyX7 tyX7_ok nmX7 hown hC.1 hP hD hS 0 rfl rfl 0 (by decide) (hts (.fieldLink RX7 48 "MonotoneSplineModel" "thrown" "I") (List.mem_of_getElem? (l := wsX7_digest) (i := 1) rfl)) (fun _ h9 => h9) rfl (by decide +kernel) rfl rfl (Nat.le_of_ble_eq_true rfl) dX7_digest_2 (fun H locs hP hD hS => ?_)
  have hP : va_P D vwCl [(am 0, .inr (7, [.int 0, .int (nI n), .ref (am 1), .ref (am 2), .ref (am 3), .int (nI kn), .ref (am 4), .ref (am 5), .ref (am 6), .ref (am 7), .ref (am 8), .ref (am 9), .ref (am 10), .ref (am 11), .ref (am 12)])), (am 4, .inl (kd, 60, .inr (.inr (.inr (.inl P))))), (am 5, .inl (kd, 60, .inr (.inr (.inr (.inl V))))), (am 6, .inl (kz, 60, .inl AF)), (am 7, .inl (kd, 60, .inr (.inr (.inr (.inl FX))))), (am 8, .inl (ki, 2, .inl TK)), (am 9, .inl (kd, 2, .inr (.inr (.inr (.inl FA)))))] H := hP
  have hD : va_D (my_A [(am 0, .inr (7, [.int th, .int (nI n), .ref (am 1), .ref (am 2), .ref (am 3), .int (nI kn), .ref (am 4), .ref (am 5), .ref (am 6), .ref (am 7), .ref (am 8), .ref (am 9), .ref (am 10), .ref (am 11), .ref (am 12)])), (am 4, .inl (kd, 60, .inr (.inr (.inr (.inl P))))), (am 5, .inl (kd, 60, .inr (.inr (.inr (.inl V))))), (am 6, .inl (kz, 60, .inl AF)), (am 7, .inl (kd, 60, .inr (.inr (.inr (.inl FX))))), (am 8, .inl (ki, 2, .inl TK)), (am 9, .inl (kd, 2, .inr (.inr (.inr (.inl FA)))))]) [(am 0, .inr (7, [.int 0, .int (nI n), .ref (am 1), .ref (am 2), .ref (am 3), .int (nI kn), .ref (am 4), .ref (am 5), .ref (am 6), .ref (am 7), .ref (am 8), .ref (am 9), .ref (am 10), .ref (am 11), .ref (am 12)])), (am 4, .inl (kd, 60, .inr (.inr (.inr (.inl P))))), (am 5, .inl (kd, 60, .inr (.inr (.inr (.inl V))))), (am 6, .inl (kz, 60, .inl AF)), (am 7, .inl (kd, 60, .inr (.inr (.inr (.inl FX))))), (am 8, .inl (ki, 2, .inl TK)), (am 9, .inl (kd, 2, .inr (.inr (.inr (.inl FA)))))] := hD
  refine lv_ldc2 hx hb hown (hts (.constantLong RX7 164 (1829)) (List.mem_of_getElem? (l := wsX7_digest) (i := 2) rfl)) dX7_digest_5 ?_
  refine lv_aload_n hx hb dX7_digest_8 rfl (lv_at hl 0 rfl) ?_
  refine va_get (D := D) (ci := 7) (v := .int (nI n)) (C := RX7) (T := TX7) (N := 15) hx hb hts iw_X7_digest_X7 hown hC.1 hP 0 rfl rfl 1 (by decide) (hts (.fieldLink RX7 79 "MonotoneSplineModel" "points" "I") (List.mem_of_getElem? (l := wsX7_digest) (i := 3) rfl)) (fun _ h9 => h9) rfl dX7_digest_9 ?_
  refine lv_i2l (v := (nI n : Int32).toInt64) hx hb dX7_digest_12 rfl ?_
  refine lv_ladd hx hb dX7_digest_13 ?_
  refine lv_ldc2 hx hb hown (hts (.constantLong RX7 166 (31)) (List.mem_of_getElem? (l := wsX7_digest) (i := 4) rfl)) dX7_digest_14 ?_
  refine lv_lmul hx hb dX7_digest_17 ?_
  refine lv_aload_n hx hb dX7_digest_18 rfl (lv_at hl 0 rfl) ?_
  refine va_get (D := D) (ci := 7) (v := .int (nI kn)) (C := RX7) (T := TX7) (N := 15) hx hb hts iw_X7_digest_X7 hown hC.1 hP 0 rfl rfl 5 (by decide) (hts (.fieldLink RX7 56 "MonotoneSplineModel" "knots" "I") (List.mem_of_getElem? (l := wsX7_digest) (i := 5) rfl)) (fun _ h9 => h9) rfl dX7_digest_19 ?_
  refine lv_i2l (v := (nI kn : Int32).toInt64) hx hb dX7_digest_22 rfl ?_
  refine lv_ladd hx hb dX7_digest_23 ?_
  refine my_topl (w := (59 * 31 + (nI n).toInt64) * 31 + (nI kn).toInt64) (rfl) ?_
  refine lv_lstore_n (lv' := [(1, .long ((59 * 31 + (nI n).toInt64) * 31 + (nI kn).toInt64)), (0, .ref (am 0))]) hx hb dX7_digest_24 rfl hl (by decide) rfl (fun ls hl => ?_)
  refine lv_iconst (v := 0) hx hb dX7_digest_25 (by decide) ?_
  refine lv_istore_n (lv' := [(3, .int 0), (1, .long ((59 * 31 + (nI n).toInt64) * 31 + (nI kn).toInt64)), (0, .ref (am 0))]) hx hb dX7_digest_26 rfl hl (by decide) rfl (fun ls hl => ?_)
  have loop_27 : ∀ (n9 : Nat) (k : Nat) (d9 : Int64), kn - k < n9 → ∀ (hk : k ≤ kn) (hd9 : d9 = s_dgl P V F kn ((59 * 31 + (nI n).toInt64) * 31 + (nI kn).toInt64) k) (H : Heap) (locs : List Loc) (hP : va_P D vwCl [(am 0, .inr (7, [.int 0, .int (nI n), .ref (am 1), .ref (am 2), .ref (am 3), .int (nI kn), .ref (am 4), .ref (am 5), .ref (am 6), .ref (am 7), .ref (am 8), .ref (am 9), .ref (am 10), .ref (am 11), .ref (am 12)])), (am 4, .inl (kd, 60, .inr (.inr (.inr (.inl P))))), (am 5, .inl (kd, 60, .inr (.inr (.inr (.inl V))))), (am 6, .inl (kz, 60, .inl AF)), (am 7, .inl (kd, 60, .inr (.inr (.inr (.inl FX))))), (am 8, .inl (ki, 2, .inl TK)), (am 9, .inl (kd, 2, .inr (.inr (.inr (.inl FA)))))] H) (hD : va_D (my_A [(am 0, .inr (7, [.int th, .int (nI n), .ref (am 1), .ref (am 2), .ref (am 3), .int (nI kn), .ref (am 4), .ref (am 5), .ref (am 6), .ref (am 7), .ref (am 8), .ref (am 9), .ref (am 10), .ref (am 11), .ref (am 12)])), (am 4, .inl (kd, 60, .inr (.inr (.inr (.inl P))))), (am 5, .inl (kd, 60, .inr (.inr (.inr (.inl V))))), (am 6, .inl (kz, 60, .inl AF)), (am 7, .inl (kd, 60, .inr (.inr (.inr (.inl FX))))), (am 8, .inl (ki, 2, .inl TK)), (am 9, .inl (kd, 2, .inr (.inr (.inr (.inl FA)))))]) [(am 0, .inr (7, [.int 0, .int (nI n), .ref (am 1), .ref (am 2), .ref (am 3), .int (nI kn), .ref (am 4), .ref (am 5), .ref (am 6), .ref (am 7), .ref (am 8), .ref (am 9), .ref (am 10), .ref (am 11), .ref (am 12)])), (am 4, .inl (kd, 60, .inr (.inr (.inr (.inl P))))), (am 5, .inl (kd, 60, .inr (.inr (.inr (.inl V))))), (am 6, .inl (kz, 60, .inl AF)), (am 7, .inl (kd, 60, .inr (.inr (.inr (.inl FX))))), (am 8, .inl (ki, 2, .inl TK)), (am 9, .inl (kd, 2, .inr (.inr (.inr (.inl FA)))))]) (hS : va_S (my_A [(am 0, .inr (7, [.int th, .int (nI n), .ref (am 1), .ref (am 2), .ref (am 3), .int (nI kn), .ref (am 4), .ref (am 5), .ref (am 6), .ref (am 7), .ref (am 8), .ref (am 9), .ref (am 10), .ref (am 11), .ref (am 12)])), (am 4, .inl (kd, 60, .inr (.inr (.inr (.inl P))))), (am 5, .inl (kd, 60, .inr (.inr (.inr (.inl V))))), (am 6, .inl (kz, 60, .inl AF)), (am 7, .inl (kd, 60, .inr (.inr (.inr (.inl FX))))), (am 8, .inl (ki, 2, .inl TK)), (am 9, .inl (kd, 2, .inr (.inr (.inr (.inl FA)))))]) s.heap H locs) (ls : Array Slot) (hl : lv_has ls 4 [(3, .int (nI k)), (1, .long d9), (0, .ref (am 0))]), W p l e ({ frames := 4, cells := 0, slots := 0, locals := 100 }) s m ([.ref (am 0)] : List Value).toArray below meth c H locs 0 0 (my_WQ below D ([.ref (am 0)] : List Value).toArray s [(am 0, .inr (7, [.int th, .int (nI n), .ref (am 1), .ref (am 2), .ref (am 3), .int (nI kn), .ref (am 4), .ref (am 5), .ref (am 6), .ref (am 7), .ref (am 8), .ref (am 9), .ref (am 10), .ref (am 11), .ref (am 12)])), (am 4, .inl (kd, 60, .inr (.inr (.inr (.inl P))))), (am 5, .inl (kd, 60, .inr (.inr (.inr (.inl V))))), (am 6, .inl (kz, 60, .inl AF)), (am 7, .inl (kd, 60, .inr (.inr (.inr (.inl FX))))), (am 8, .inl (ki, 2, .inl TK)), (am 9, .inl (kd, 2, .inr (.inr (.inr (.inl FA)))))] [(am 0, .inr (7, [.int 0, .int (nI n), .ref (am 1), .ref (am 2), .ref (am 3), .int (nI kn), .ref (am 4), .ref (am 5), .ref (am 6), .ref (am 7), .ref (am 8), .ref (am 9), .ref (am 10), .ref (am 11), .ref (am 12)])), (am 4, .inl (kd, 60, .inr (.inr (.inr (.inl P))))), (am 5, .inl (kd, 60, .inr (.inr (.inr (.inl V))))), (am 6, .inl (kz, 60, .inl AF)), (am 7, .inl (kd, 60, .inr (.inr (.inr (.inl FX))))), (am 8, .inl (ki, 2, .inl TK)), (am 9, .inl (kd, 2, .inr (.inr (.inr (.inl FA)))))] (some (.long (s_dg n kn P V F k1 k2)))) (F0 m 27 ls []) := by
    intro n9
    induction n9 with
    | zero => intro k d9 h9; exact absurd h9 (Nat.not_lt_zero _)
    | succ n9 ih_27 =>
      intro k d9 h9 hk hd9 H locs hP hD hS ls hl
      refine lv_iload_n hx hb dX7_digest_27 rfl (lv_at hl 0 rfl) ?_
      refine lv_aload_n hx hb dX7_digest_28 rfl (lv_at hl 2 rfl) ?_
      refine va_get (D := D) (ci := 7) (v := .int (nI kn)) (C := RX7) (T := TX7) (N := 15) hx hb hts iw_X7_digest_X7 hown hC.1 hP 0 rfl rfl 5 (by decide) (hts (.fieldLink RX7 56 "MonotoneSplineModel" "knots" "I") (List.mem_of_getElem? (l := wsX7_digest) (i := 5) rfl)) (fun _ h9 => h9) rfl dX7_digest_29 ?_
      refine lv_icmp_ge (tgt := 105) hx hb dX7_digest_32 (by decide) (fun c_32 => ?_) (fun c_32 => ?_)
      · have c_32 : kn ≤ k := (nI_leI (a := kn) (b := k) (by omega) (by omega)).mp c_32
        refine lv_lload_n hx hb dX7_digest_105 rfl (lv_at hl 1 rfl) ?_
        refine lv_ldc2 hx hb hown (hts (.constantLong RX7 166 (31)) (List.mem_of_getElem? (l := wsX7_digest) (i := 4) rfl)) dX7_digest_106 ?_
        refine lv_lmul hx hb dX7_digest_109 ?_
        refine lv_aload_n hx hb dX7_digest_110 rfl (lv_at hl 2 rfl) ?_
        refine va_get (D := D) (ci := 7) (v := .ref (am 8)) (C := RX7) (T := TX7) (N := 15) hx hb hts iw_X7_digest_X7 hown hC.1 hP 0 rfl rfl 10 (by decide) (hts (.fieldLink RX7 32 "MonotoneSplineModel" "tailKinds" "[I") (List.mem_of_getElem? (l := wsX7_digest) (i := 9) rfl)) (fun _ h9 => h9) rfl dX7_digest_111 ?_
        refine lv_iconst (v := 0) hx hb dX7_digest_114 (by decide) ?_
        refine my_iald (k := 0) (n := 2) (f := TK) hx hb hC hP 5 rfl (by omega) (by omega) dX7_digest_115 ?_
        refine my_topi (w := nI k1) (hT0) ?_
        refine lv_i2l (v := (nI k1 : Int32).toInt64) hx hb dX7_digest_116 rfl ?_
        refine lv_ladd hx hb dX7_digest_117 ?_
        refine lv_ldc2 hx hb hown (hts (.constantLong RX7 166 (31)) (List.mem_of_getElem? (l := wsX7_digest) (i := 4) rfl)) dX7_digest_118 ?_
        refine lv_lmul hx hb dX7_digest_121 ?_
        refine lv_aload_n hx hb dX7_digest_122 rfl (lv_at hl 2 rfl) ?_
        refine va_get (D := D) (ci := 7) (v := .ref (am 8)) (C := RX7) (T := TX7) (N := 15) hx hb hts iw_X7_digest_X7 hown hC.1 hP 0 rfl rfl 10 (by decide) (hts (.fieldLink RX7 32 "MonotoneSplineModel" "tailKinds" "[I") (List.mem_of_getElem? (l := wsX7_digest) (i := 9) rfl)) (fun _ h9 => h9) rfl dX7_digest_123 ?_
        refine lv_iconst (v := 1) hx hb dX7_digest_126 (by decide) ?_
        refine my_iald (k := 1) (n := 2) (f := TK) hx hb hC hP 5 rfl (by omega) (by omega) dX7_digest_127 ?_
        refine my_topi (w := nI k2) (hT1) ?_
        refine lv_i2l (v := (nI k2 : Int32).toInt64) hx hb dX7_digest_128 rfl ?_
        refine lv_ladd hx hb dX7_digest_129 ?_
        exact my_lretW hx hb hr hlocks hP (rfl) hS (by rw [hd9, show k = kn by omega]; rfl) dX7_digest_130
      · have c_32 : ¬ kn ≤ k := fun h9 => c_32 ((nI_leI (a := kn) (b := k) (by omega) (by omega)).mpr h9)
        have hI := hK.resolve_left (by omega)
        have hJ := hI.1
        have hk9 : k < kn := by omega
        refine lv_lload_n hx hb dX7_digest_35 rfl (lv_at hl 1 rfl) ?_
        refine lv_ldc2 hx hb hown (hts (.constantLong RX7 166 (31)) (List.mem_of_getElem? (l := wsX7_digest) (i := 4) rfl)) dX7_digest_36 ?_
        refine lv_lmul hx hb dX7_digest_39 ?_
        refine lv_aload_n hx hb dX7_digest_40 rfl (lv_at hl 2 rfl) ?_
        refine va_get (D := D) (ci := 7) (v := .ref (am 4)) (C := RX7) (T := TX7) (N := 15) hx hb hts iw_X7_digest_X7 hown hC.1 hP 0 rfl rfl 6 (by decide) (hts (.fieldLink RX7 19 "MonotoneSplineModel" "places" "[D") (List.mem_of_getElem? (l := wsX7_digest) (i := 6) rfl)) (fun _ h9 => h9) rfl dX7_digest_41 ?_
        refine lv_iload_n hx hb dX7_digest_44 rfl (lv_at hl 0 rfl) ?_
        refine my_dald (k := k) (n := 60) (f := P) hx hb hC hP 1 rfl (by omega) (by omega) dX7_digest_45 ?_
        refine my_goR (v := (some (.long (UInt64.toInt64 (P k))))) (my_runS (bytes := cJxe99ae_doubleToLongBits_ccdee) (maxL := 2) (ret := (some .long)) (n := 1) (As := [.double (P k)]) (rest := [.long (d9 * 31)]) S hl.1 (mm_d2lb l D kd ki kz kl z (P k) (fx_B_n (kJ_P hJ hk9) (by omega))) rfl ⟨rfl, rfl⟩ gX7_digest_Jxe99ae_doubleToLongBits_ccdee (by decide +kernel) rfl ⟨Nat.le_of_ble_eq_true rfl, Nat.le_of_ble_eq_true rfl⟩ (my_preR (my_C_S hC hS hz) (my_P_sub (wc := []) hP [] rfl)) rfl rfl dX7_digest_46) ?_
        refine W.eq (g2 := F0 m 49 ls [.long (UInt64.toInt64 (P k)), .long (d9 * 31)]) rfl ?_
        refine lv_ladd hx hb dX7_digest_49 ?_
        refine lv_ldc2 hx hb hown (hts (.constantLong RX7 166 (31)) (List.mem_of_getElem? (l := wsX7_digest) (i := 4) rfl)) dX7_digest_50 ?_
        refine lv_lmul hx hb dX7_digest_53 ?_
        refine lv_aload_n hx hb dX7_digest_54 rfl (lv_at hl 2 rfl) ?_
        refine va_get (D := D) (ci := 7) (v := .ref (am 5)) (C := RX7) (T := TX7) (N := 15) hx hb hts iw_X7_digest_X7 hown hC.1 hP 0 rfl rfl 7 (by decide) (hts (.fieldLink RX7 22 "MonotoneSplineModel" "values" "[D") (List.mem_of_getElem? (l := wsX7_digest) (i := 7) rfl)) (fun _ h9 => h9) rfl dX7_digest_55 ?_
        refine lv_iload_n hx hb dX7_digest_58 rfl (lv_at hl 0 rfl) ?_
        refine my_dald (k := k) (n := 60) (f := V) hx hb hC hP 2 rfl (by omega) (by omega) dX7_digest_59 ?_
        refine my_goR (v := (some (.long (UInt64.toInt64 (V k))))) (my_runS (bytes := cJxe99ae_doubleToLongBits_ccdee) (maxL := 2) (ret := (some .long)) (n := 1) (As := [.double (V k)]) (rest := [.long (((d9 * 31) + (UInt64.toInt64 (P k))) * 31)]) S hl.1 (mm_d2lb l D kd ki kz kl z (V k) (fx_B_n (hJ.2.2.2.1 k hk9).1 (by omega))) rfl ⟨rfl, rfl⟩ gX7_digest_Jxe99ae_doubleToLongBits_ccdee (by decide +kernel) rfl ⟨Nat.le_of_ble_eq_true rfl, Nat.le_of_ble_eq_true rfl⟩ (my_preR (my_C_S hC hS hz) (my_P_sub (wc := []) hP [] rfl)) rfl rfl dX7_digest_60) ?_
        refine W.eq (g2 := F0 m 63 ls [.long (UInt64.toInt64 (V k)), .long (((d9 * 31) + (UInt64.toInt64 (P k))) * 31)]) rfl ?_
        refine lv_ladd hx hb dX7_digest_63 ?_
        refine lv_lstore_n (lv' := [(1, .long ((((d9 * 31) + (UInt64.toInt64 (P k))) * 31) + (UInt64.toInt64 (V k)))), (3, .int (nI k)), (0, .ref (am 0))]) hx hb dX7_digest_64 rfl hl (by decide) rfl (fun ls hl => ?_)
        refine lv_lload_n hx hb dX7_digest_65 rfl (lv_at hl 0 rfl) ?_
        refine lv_ldc2 hx hb hown (hts (.constantLong RX7 166 (31)) (List.mem_of_getElem? (l := wsX7_digest) (i := 4) rfl)) dX7_digest_66 ?_
        refine lv_lmul hx hb dX7_digest_69 ?_
        refine lv_aload_n hx hb dX7_digest_70 rfl (lv_at hl 2 rfl) ?_
        refine lv_iload_n hx hb dX7_digest_71 rfl (lv_at hl 1 rfl) ?_
        refine my_goR (v := (some (.double (s_s P V F kn k)))) (my_runV (bytes := cX7_slopeOf) (maxL := 9) (ret := (some .double)) (n := 1) (As := [.int (nI k)]) (rest := [.long (((((d9 * 31) + (UInt64.toInt64 (P k))) * 31) + (UInt64.toInt64 (V k))) * 31)]) S hl.1 (mm_slopeOf l D kd ki kz kl z am 0 n kn P V F AF FX k (hI) (hR) (by omega)) rfl ⟨rfl, rfl⟩ gX7_digest_X7_slopeOf (by decide +kernel) rfl ⟨Nat.le_of_ble_eq_true rfl, Nat.le_of_ble_eq_true rfl⟩ (my_preR (my_C_S hC hS hz) (my_P_sub (wc := [(am 0, .inr (7, [.int 0, .int (nI n), .ref (am 1), .ref (am 2), .ref (am 3), .int (nI kn), .ref (am 4), .ref (am 5), .ref (am 6), .ref (am 7), .ref (am 8), .ref (am 9), .ref (am 10), .ref (am 11), .ref (am 12)])), (am 4, .inl (kd, 60, .inr (.inr (.inr (.inl P))))), (am 5, .inl (kd, 60, .inr (.inr (.inr (.inl V))))), (am 6, .inl (kz, 60, .inl AF)), (am 7, .inl (kd, 60, .inr (.inr (.inr (.inl FX)))))]) hP [0, 1, 2, 3, 4] rfl)) (va_recv hC.1 hP (ci := 7) (q0 := 0) rfl rfl) rfl rfl dX7_digest_72) ?_
        refine W.eq (g2 := F0 m 75 ls [.double (s_s P V F kn k), .long (((((d9 * 31) + (UInt64.toInt64 (P k))) * 31) + (UInt64.toInt64 (V k))) * 31)]) rfl ?_
        refine my_goR (v := (some (.long (UInt64.toInt64 (s_s P V F kn k))))) (my_runS (bytes := cJxe99ae_doubleToLongBits_ccdee) (maxL := 2) (ret := (some .long)) (n := 1) (As := [.double (s_s P V F kn k)]) (rest := [.long (((((d9 * 31) + (UInt64.toInt64 (P k))) * 31) + (UInt64.toInt64 (V k))) * 31)]) S hl.1 (mm_d2lb l D kd ki kz kl z (s_s P V F kn k) ((kI_s hI hk9).2.2)) rfl ⟨rfl, rfl⟩ gX7_digest_Jxe99ae_doubleToLongBits_ccdee (by decide +kernel) rfl ⟨Nat.le_of_ble_eq_true rfl, Nat.le_of_ble_eq_true rfl⟩ (my_preR (my_C_S hC hS hz) (my_P_sub (wc := []) hP [] rfl)) rfl rfl dX7_digest_75) ?_
        refine W.eq (g2 := F0 m 78 ls [.long (UInt64.toInt64 (s_s P V F kn k)), .long (((((d9 * 31) + (UInt64.toInt64 (P k))) * 31) + (UInt64.toInt64 (V k))) * 31)]) rfl ?_
        refine lv_ladd hx hb dX7_digest_78 ?_
        refine lv_ldc2 hx hb hown (hts (.constantLong RX7 166 (31)) (List.mem_of_getElem? (l := wsX7_digest) (i := 4) rfl)) dX7_digest_79 ?_
        refine lv_lmul hx hb dX7_digest_82 ?_
        refine lv_aload_n hx hb dX7_digest_83 rfl (lv_at hl 2 rfl) ?_
        refine va_get (D := D) (ci := 7) (v := .ref (am 6)) (C := RX7) (T := TX7) (N := 15) hx hb hts iw_X7_digest_X7 hown hC.1 hP 0 rfl rfl 8 (by decide) (hts (.fieldLink RX7 25 "MonotoneSplineModel" "areFixed" "[Z") (List.mem_of_getElem? (l := wsX7_digest) (i := 8) rfl)) (fun _ h9 => h9) rfl dX7_digest_84 ?_
        refine lv_iload_n hx hb dX7_digest_87 rfl (lv_at hl 1 rfl) ?_
        refine my_zald (k := k) (n := 60) (f := AF) hx hb hC hP 3 rfl (by omega) (by omega) dX7_digest_88 ?_
        refine lv_if_eq (tgt := 96) hx hb dX7_digest_89 (by decide) (fun c_89 => ?_) (fun c_89 => ?_)
        · skip
          refine lv_lconst (v := 0) hx hb dX7_digest_96 (by decide) ?_
          refine lv_ladd hx hb dX7_digest_97 ?_
          refine lv_lstore_n (lv' := [(1, .long ((((((((d9 * 31) + (UInt64.toInt64 (P k))) * 31) + (UInt64.toInt64 (V k))) * 31) + (UInt64.toInt64 (s_s P V F kn k))) * 31) + 0)), (3, .int (nI k)), (0, .ref (am 0))]) hx hb dX7_digest_98 rfl hl (by decide) rfl (fun ls hl => ?_)
          refine lv_iinc (v := nI (k + 1)) (k := 1) (lv' := [(3, .int (nI (k + 1))), (1, .long ((((((((d9 * 31) + (UInt64.toInt64 (P k))) * 31) + (UInt64.toInt64 (V k))) * 31) + (UInt64.toInt64 (s_s P V F kn k))) * 31) + 0)), (0, .ref (am 0))]) hx hb dX7_digest_99 hl rfl (nI_add k 1) (by decide) rfl (fun ls hl => ?_)
          refine lv_goto (tgt := 27) hx hb dX7_digest_102 (by decide) ?_
          exact ih_27 (k + 1) ((((((((d9 * 31) + (UInt64.toInt64 (P k))) * 31) + (UInt64.toInt64 (V k))) * 31) + (UInt64.toInt64 (s_s P V F kn k))) * 31) + 0) (by omega) (by omega) (by first | exact (by rw [s_dgl, ← hd9, s_dgk, if_pos (mr_0 hR hk9 c_89)]) | exact (by rw [s_dgl, ← hd9, s_dgk, if_neg (mr_1 hR hk9 c_89).1])) _ _ hP hD hS _ (lv_sub hl [0, 1, 2] rfl)
        · skip
          refine lv_lconst (v := 1) hx hb dX7_digest_92 (by decide) ?_
          refine lv_goto (tgt := 97) hx hb dX7_digest_93 (by decide) ?_
          refine lv_ladd hx hb dX7_digest_97 ?_
          refine lv_lstore_n (lv' := [(1, .long ((((((((d9 * 31) + (UInt64.toInt64 (P k))) * 31) + (UInt64.toInt64 (V k))) * 31) + (UInt64.toInt64 (s_s P V F kn k))) * 31) + 1)), (3, .int (nI k)), (0, .ref (am 0))]) hx hb dX7_digest_98 rfl hl (by decide) rfl (fun ls hl => ?_)
          refine lv_iinc (v := nI (k + 1)) (k := 1) (lv' := [(3, .int (nI (k + 1))), (1, .long ((((((((d9 * 31) + (UInt64.toInt64 (P k))) * 31) + (UInt64.toInt64 (V k))) * 31) + (UInt64.toInt64 (s_s P V F kn k))) * 31) + 1)), (0, .ref (am 0))]) hx hb dX7_digest_99 hl rfl (nI_add k 1) (by decide) rfl (fun ls hl => ?_)
          refine lv_goto (tgt := 27) hx hb dX7_digest_102 (by decide) ?_
          exact ih_27 (k + 1) ((((((((d9 * 31) + (UInt64.toInt64 (P k))) * 31) + (UInt64.toInt64 (V k))) * 31) + (UInt64.toInt64 (s_s P V F kn k))) * 31) + 1) (by omega) (by omega) (by first | exact (by rw [s_dgl, ← hd9, s_dgk, if_pos (mr_0 hR hk9 c_89)]) | exact (by rw [s_dgl, ← hd9, s_dgk, if_neg (mr_1 hR hk9 c_89).1])) _ _ hP hD hS _ (lv_sub hl [0, 1, 2] rfl)
  exact loop_27 _ 0 ((59 * 31 + (nI n).toInt64) * 31 + (nI kn).toInt64) (Nat.lt_succ_self _) (by omega) (rfl) _ _ hP hD hS _ (lv_sub hl [0, 1, 2] rfl)

