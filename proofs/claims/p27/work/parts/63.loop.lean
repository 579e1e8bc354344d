set_option maxHeartbeats 4000000 in
set_option maxRecDepth 100000 in
theorem law_end {p : Program} {e : Env} {s : State} {m : MethodId} {below : List Frame} {meth : Method} {c : Code} {cells slots : Nat} (l : Launch) (D : va_G) (kd ki kz kl : ClassId) (ad : Nat → Nat) (b L wa xa ya fa : Nat) (xs : Nat → Int32) (np : Nat) (X : Nat → UInt64) (Y : Nat → UInt64) (Wt : Nat → UInt64) (bc : Nat) (BW : Nat → UInt64) (BS : Nat → UInt64) (BZ : Nat → Int32) (wf : Nat → UInt64) (j : Nat) (S : CallFix p m c cL_law 19 s #[.ref b] wsL_law RL) (hC : my_C D kd ki kz kl s.heap.size s s.heap) (hXs : va_X b L xs s s.heap) (hbl : b < s.heap.size) (hL : L ≤ 260) (hr : meth.sig.returnType = ret) (hlocks : meth.locks = false) (n : Nat) (P : Nat → UInt64) (V : Nat → UInt64) (F : Nat → UInt64) (e0 : UInt64) (e1 : UInt64) (e2 : UInt64) (e3 : UInt64) (e4 : UInt64) (H : Heap) (locs : List Loc) (ls : Array Slot) (hI : KI n P V F) (hc9 : cells ≤ 600130) (hs9 : slots ≤ 7301080) (hP : va_P D vwCl (LWd kd ki kz kl ad wa xa ya fa np X Y Wt bc BW BS BZ wf n P V F e0 e1 e2 e3 e4) H) (hD : va_D (fun q => s.heap.size ≤ q) (LWd kd ki kz kl ad wa xa ya fa np X Y Wt bc BW BS BZ wf n P V F e0 e1 e2 e3 e4)) (hS : va_S (fun q => s.heap.size ≤ q) s.heap H locs) (hl : lv_has ls 19 [(0, .ref b), (1, .ref (ad 0)), (2, .int (nI n)), (3, .ref wa), (4, .ref xa), (5, .ref ya), (6, .ref fa), (7, .int (nI j))]) : W p l e room_1 s m #[.ref b] below meth c H locs cells slots (lw_Z below #[.ref b] s) (F0 m 990 ls []) := by
  obtain ⟨hx, hb, hml, hown, hts⟩ := id S
  have hkn2 := hI.1.1
  have hkn60 := hI.1.2.1
  have hz : ∀ q, (fun q => s.heap.size ≤ q) q → s.heap.size ≤ q := fun q h => h
  have hcs0 : cells ≤ room_1.cells ∧ slots ≤ room_1.slots := ⟨hc9, hs9⟩
  have hP : va_P D vwCl [(ad 0, .inr (6, [.ref (ad 1), .ref (ad 8), .ref (ad 14), .ref (ad 21), .ref (ad 22), .ref (ad 23)])), (ad 1, .inr (3, [.ref (ad 2), .ref (ad 4), .ref (ad 6), .int (nI np)])), (ad 2, .inr (4, [.ref (ad 3)])), (ad 3, .inl (kd, 40, .inr (.inr (.inr (.inl X))))), (ad 4, .inr (4, [.ref (ad 5)])), (ad 5, .inl (kd, 40, .inr (.inr (.inr (.inl Y))))), (ad 6, .inr (4, [.ref (ad 7)])), (ad 7, .inl (kd, 40, .inr (.inr (.inr (.inl Wt))))), (ad 8, .inr (0, [.ref (ad 9), .ref (ad 11), .ref (ad 13), .int (nI bc)])), (ad 9, .inr (4, [.ref (ad 10)])), (ad 10, .inl (kd, 40, .inr (.inr (.inr (.inl BW))))), (ad 11, .inr (4, [.ref (ad 12)])), (ad 12, .inl (kd, 40, .inr (.inr (.inr (.inl BS))))), (ad 13, .inl (ki, 40, .inl BZ)), (ad 14, .inr (1, [.ref (ad 15), .ref (ad 17), .ref (ad 19), .int (nI n)])), (ad 15, .inr (4, [.ref (ad 16)])), (ad 16, .inl (kd, 60, .inr (.inr (.inr (.inl P))))), (ad 17, .inr (4, [.ref (ad 18)])), (ad 18, .inl (kd, 60, .inr (.inr (.inr (.inl V))))), (ad 19, .inr (4, [.ref (ad 20)])), (ad 20, .inl (kd, 60, .inr (.inr (.inr (.inl F))))), (ad 21, .inr (2, [.double e0, .double e1, .double e2, .double e3, .double e4])), (ad 22, .inr (5, [.int 1, .int 0, .double 0])), (ad 23, .inr (5, [.int 0, .int 0, .double 0])), (wa, .inl (kd, 20, .inr (.inr (.inr (.inl wf))))), (xa, .inl (kd, 20, .inr (.inr (.inr (.inl P))))), (ya, .inl (kd, 20, .inr (.inr (.inr (.inl V))))), (fa, .inl (kd, 20, .inr (.inr (.inr (.inl F)))))] H := hP
  have hD : va_D (fun q => s.heap.size ≤ q) [(ad 0, .inr (6, [.ref (ad 1), .ref (ad 8), .ref (ad 14), .ref (ad 21), .ref (ad 22), .ref (ad 23)])), (ad 1, .inr (3, [.ref (ad 2), .ref (ad 4), .ref (ad 6), .int (nI np)])), (ad 2, .inr (4, [.ref (ad 3)])), (ad 3, .inl (kd, 40, .inr (.inr (.inr (.inl X))))), (ad 4, .inr (4, [.ref (ad 5)])), (ad 5, .inl (kd, 40, .inr (.inr (.inr (.inl Y))))), (ad 6, .inr (4, [.ref (ad 7)])), (ad 7, .inl (kd, 40, .inr (.inr (.inr (.inl Wt))))), (ad 8, .inr (0, [.ref (ad 9), .ref (ad 11), .ref (ad 13), .int (nI bc)])), (ad 9, .inr (4, [.ref (ad 10)])), (ad 10, .inl (kd, 40, .inr (.inr (.inr (.inl BW))))), (ad 11, .inr (4, [.ref (ad 12)])), (ad 12, .inl (kd, 40, .inr (.inr (.inr (.inl BS))))), (ad 13, .inl (ki, 40, .inl BZ)), (ad 14, .inr (1, [.ref (ad 15), .ref (ad 17), .ref (ad 19), .int (nI n)])), (ad 15, .inr (4, [.ref (ad 16)])), (ad 16, .inl (kd, 60, .inr (.inr (.inr (.inl P))))), (ad 17, .inr (4, [.ref (ad 18)])), (ad 18, .inl (kd, 60, .inr (.inr (.inr (.inl V))))), (ad 19, .inr (4, [.ref (ad 20)])), (ad 20, .inl (kd, 60, .inr (.inr (.inr (.inl F))))), (ad 21, .inr (2, [.double e0, .double e1, .double e2, .double e3, .double e4])), (ad 22, .inr (5, [.int 1, .int 0, .double 0])), (ad 23, .inr (5, [.int 0, .int 0, .double 0])), (wa, .inl (kd, 20, .inr (.inr (.inr (.inl wf))))), (xa, .inl (kd, 20, .inr (.inr (.inr (.inl P))))), (ya, .inl (kd, 20, .inr (.inr (.inr (.inl V))))), (fa, .inl (kd, 20, .inr (.inr (.inr (.inl F)))))] := hD
  refine lv_aload_n hx hb dL_law_990 rfl (lv_at hl 1 rfl) ?_
  refine my_goR (v := (some (.int (nI n)))) (my_runV (bytes := cX6_knotCount) (maxL := 1) (ret := (some .int)) (n := 0) (As := []) (rest := []) S hl.1 (kk_X6_knotCount l D kd ki kz kl s.heap.size ad n) rfl ⟨rfl, rfl⟩ gL_law_X6_knotCount (by decide +kernel) rfl hcs0 (my_preR (my_C_S hC hS hz) (my_P_sub (wc := [(ad 0, .inr (6, [.ref (ad 1), .ref (ad 8), .ref (ad 14), .ref (ad 21), .ref (ad 22), .ref (ad 23)])), (ad 14, .inr (1, [.ref (ad 15), .ref (ad 17), .ref (ad 19), .int (nI n)]))]) hP [0, 14] rfl)) (va_recv hC.1 hP (ci := 6) (q0 := 0) rfl rfl) rfl rfl dL_law_991) ?_
  refine W.eq (g2 := F0 m 994 ls [.int (nI n)]) rfl ?_
  refine lv_iload_n hx hb dL_law_994 rfl (lv_at hl 2 rfl) ?_
  refine lv_icmp_ne (tgt := 1002) hx hb dL_law_995 (by decide) (fun c_995 => ?_) (fun c_995 => ?_)
  · have c_995 : ¬ n = n := fun h9 => c_995 ((nI_eq (a := n) (b := n) (by omega) (by omega)).mpr h9)
    exact absurd rfl c_995
  · have c_995 : n = n := (nI_eq (a := n) (b := n) (by omega) (by omega)).mp c_995
    refine lv_iconst (v := 1) hx hb dL_law_998 (by decide) ?_
    refine lv_goto (tgt := 1003) hx hb dL_law_999 (by decide) ?_
    refine W.widen hc9 hs9 ?_
    refine va_forget (fun q hq => hS.2.2 q hq) ?_
    exact lw_ret (d0 := s.drawn) (Drawn.sameBut.refl s.drawn lw_cs) hx hb hr hlocks dL_law_1003

set_option maxHeartbeats 4000000 in
set_option maxRecDepth 100000 in
theorem law_loop {p : Program} {e : Env} {s : State} {m : MethodId} {below : List Frame} {meth : Method} {c : Code} (l : Launch) (D : va_G) (kd ki kz kl : ClassId) (ad : Nat → Nat) (b L wa xa ya fa : Nat) (xs : Nat → Int32) (np : Nat) (X : Nat → UInt64) (Y : Nat → UInt64) (Wt : Nat → UInt64) (bc : Nat) (BW : Nat → UInt64) (BS : Nat → UInt64) (BZ : Nat → Int32) (wf : Nat → UInt64) (S : CallFix p m c cL_law 19 s #[.ref b] wsL_law RL) (hC : my_C D kd ki kz kl s.heap.size s s.heap) (hXs : va_X b L xs s s.heap) (hbl : b < s.heap.size) (hL : L ≤ 260) (hr : meth.sig.returnType = ret) (hlocks : meth.locks = false) : ∀ (f j cells slots : Nat) (n : Nat) (P : Nat → UInt64) (V : Nat → UInt64) (F : Nat → UInt64) (e0 : UInt64) (e1 : UInt64) (e2 : UInt64) (e3 : UInt64) (e4 : UInt64) (H : Heap) (locs : List Loc) (ls : Array Slot), j + f = 9 → cells ≤ 600130 → slots ≤ 7301080 → LJ j n P V F → va_P D vwCl (LWd kd ki kz kl ad wa xa ya fa np X Y Wt bc BW BS BZ wf n P V F e0 e1 e2 e3 e4) H → va_D (fun q => s.heap.size ≤ q) (LWd kd ki kz kl ad wa xa ya fa np X Y Wt bc BW BS BZ wf n P V F e0 e1 e2 e3 e4) → va_S (fun q => s.heap.size ≤ q) s.heap H locs → lv_has ls 19 [(0, .ref b), (1, .ref (ad 0)), (2, .int (nI n)), (3, .ref wa), (4, .ref xa), (5, .ref ya), (6, .ref fa), (7, .int (nI j))] → W p l e room_1 s m #[.ref b] below meth c H locs cells slots (lw_Z below #[.ref b] s) (F0 m 117 ls []) := by
  intro f
  obtain ⟨hx, hb, hml, hown, hts⟩ := id S
  induction f with
  | zero =>
    intro j cells slots n P V F e0 e1 e2 e3 e4 H locs ls hjf hc9 hs9 hLJ hP hD hS hl
    refine lv_iload hx hb dL_law_117 (lv_at hl 7 rfl) ?_
    refine lv_bipush (v := 9) hx hb dL_law_119 (by decide) ?_
    refine lv_icmp_ge (tgt := 990) hx hb dL_law_121 (by decide) (fun c_121 => ?_) (fun c_121 => ?_)
    · exact law_end l D kd ki kz kl ad b L wa xa ya fa xs np X Y Wt bc BW BS BZ wf j S hC hXs hbl hL hr hlocks n P V F e0 e1 e2 e3 e4 H locs ls hLJ.1 hc9 hs9 hP hD hS hl
    · exact absurd ((nI_leI (a := 9) (b := j) (by omega) (by omega)).mpr (by omega)) c_121
  | succ f ih =>
    intro j cells slots n P V F e0 e1 e2 e3 e4 H locs ls hjf hc9 hs9 hLJ hP hD hS hl
    refine lv_iload hx hb dL_law_117 (lv_at hl 7 rfl) ?_
    refine lv_bipush (v := 9) hx hb dL_law_119 (by decide) ?_
    refine lv_icmp_ge (tgt := 990) hx hb dL_law_121 (by decide) (fun c_121 => ?_) (fun c_121 => ?_)
    · exact absurd ((nI_leI (a := 9) (b := j) (by omega) (by omega)).mp c_121) (by omega)
    · refine lw_step l D kd ki kz kl s.heap.size ad b L wa xa ya fa xs np X Y Wt bc BW BS BZ wf j S hC hXs hbl hL ⟨hc9, hs9⟩ (fun q => s.heap.size ≤ q) (Nat.not_le.mpr hbl) (fun q h => h) (by omega) n P V F e0 e1 e2 e3 e4 H locs ls hLJ hP hD hS hl ?_
      intro n' P' V' F' e0' e1' e2' e3' e4' H locs ls hLJ hP hD hS hl
      refine lv_iinc (v := nI (j + 1)) (k := 7) (lv' := [(7, .int (nI (j + 1))), (0, .ref b), (1, .ref (ad 0)), (2, .int (nI n')), (3, .ref wa), (4, .ref xa), (5, .ref ya), (6, .ref fa)]) hx hb dL_law_984 hl rfl (nI_add j 1) (by decide) rfl (fun ls hl => ?_)
      refine lv_goto (tgt := 117) hx hb dL_law_987 (by decide) ?_
      exact ih (j + 1) cells slots n' P' V' F' e0' e1' e2' e3' e4' H locs ls (by omega) hc9 hs9 hLJ hP hD hS (lv_sub hl [1, 2, 3, 4, 5, 6, 7, 0] rfl)
