theorem l4_gt {L i : Nat} (hL : L ≤ 2048) (hi : i ≤ 4000) : (Int32.ofNat L - 4 < nI i) ↔ L < i + 4 := by
  have h1 : (Int32.ofNat L).toInt = (L : Int) := nI_toInt (n := L) (by omega)
  rw [Int32.lt_iff_toInt_lt, Int32.toInt_sub, h1, nI_toInt (by omega), show (4 : Int32).toInt = 4 by decide, Int.bmod_eq_of_le] <;> omega
theorem and31 (x : Int32) : ∃ v, v < 32 ∧ (x &&& 31) = nI v := by
  refine ⟨x.toBitVec.toNat % 32, Nat.mod_lt _ (by decide), Int32.toBitVec_inj.mp (BitVec.eq_of_toNat_eq ?_)⟩
  show (x.toBitVec &&& (31 : Int32).toBitVec).toNat = (BitVec.ofNat 32 (x.toBitVec.toNat % 32)).toNat
  rw [BitVec.toNat_and, show (31 : Int32).toBitVec.toNat = 2 ^ 5 - 1 by decide, Nat.and_two_pow_sub_one_eq_mod, BitVec.toNat_ofNat]
  omega
set_option maxHeartbeats 4000000 in
set_option maxRecDepth 100000 in
theorem law_end {p : Program} {e : Env} {s : State} {m : MethodId} {below : List Frame} {meth : Method} {c : Code} {H : Heap} {locs : List Loc} {ls : Array Slot} {cells slots : Nat} (l : Launch) (hfl : l.stackTraces = false) (D : va_G) (kd ki kz kl : ClassId) (ad am : Nat → Nat) (oa ob b L i : Nat) (xs : Nat → Int32) (n : Nat) (kn : Nat) (X : Nat → UInt64) (Y : Nat → UInt64) (Wt : Nat → UInt64) (bc : Nat) (BW : Nat → UInt64) (BS : Nat → UInt64) (BZ : Nat → Int32) (P : Nat → UInt64) (V : Nat → UInt64) (F : Nat → UInt64) (e0 : UInt64) (e1 : UInt64) (e2 : UInt64) (e3 : UInt64) (e4 : UInt64) (k1 : Nat) (a1 : UInt64) (k2 : Nat) (a2 : UInt64) (th : Int32) (AF : Nat → Int32) (FX : Nat → UInt64) (TK : Nat → Int32) (FA : Nat → UInt64) (fo : Nat → Int64) (fd : Nat → UInt64)
    (S : CallFix p m c cL_law 9 s #[.ref b] wsL_law RL) (hXs : va_X b L xs s s.heap) (hbl : b < s.heap.size) (hL : L ≤ 2048) (hr : meth.sig.returnType = ret) (hlocks : meth.locks = false) (hi4 : L < i + 4) (hi : i ≤ 4000) (hc9 : cells ≤ 601024) (hs9 : slots ≤ 7293034) (hS : va_S (fun q => s.heap.size ≤ q) s.heap H locs) (hl : lv_has ls 9 [(0, .ref b), (1, .ref (ad 0)), (2, .ref (am 0)), (3, .ref oa), (4, .ref ob), (5, .int (nI i))]) :
      W p l e room_1 s m #[.ref b] below meth c H locs cells slots (lw_Z below #[.ref b] s) (F0 m 28 ls []) := by
  obtain ⟨hx, hb, hml, hown, hts⟩ := id S
  have hbA : ¬ (fun q => s.heap.size ≤ q) b := Nat.not_le.mpr hbl
  refine lv_iload hx hb dL_law_28 (lv_at hl 5 rfl) ?_
  refine lv_aload_n hx hb dL_law_30 rfl (lv_at hl 0 rfl) ?_
  refine va_slen hx hb hXs hbl hbA hS dL_law_31 ?_
  refine lv_iconst (v := 4) hx hb dL_law_32 (by decide) ?_
  refine lv_isub hx hb dL_law_33 ?_
  refine lv_icmp_gt (tgt := 1729) hx hb dL_law_34 (by decide) (fun hc => ?_) (fun hc => ?_)
  · refine W.widen hc9 hs9 ?_
    refine va_forget (fun q hq => hS.2.2 q hq) ?_
    refine lv_iconst (v := 1) hx hb dL_law_1729 (by decide) ?_
    exact lw_ret (d0 := s.drawn) (Drawn.sameBut.refl s.drawn lw_cs) hx hb hr hlocks dL_law_1730
  · exact absurd ((l4_gt hL hi).mpr hi4) hc
set_option maxHeartbeats 4000000 in
set_option maxRecDepth 100000 in
theorem law_loop {p : Program} {e : Env} {s : State} {m : MethodId} {below : List Frame} {meth : Method} {c : Code} (l : Launch) (hfl : l.stackTraces = false) (D : va_G) (kd ki kz kl : ClassId) (ad am : Nat → Nat) (oa ob b L : Nat) (xs : Nat → Int32)
    (S : CallFix p m c cL_law 9 s #[.ref b] wsL_law RL) (hC : my_C D kd ki kz kl s.heap.size s s.heap) (hX3 : my_X3 s) (hXs : va_X b L xs s s.heap) (hbl : b < s.heap.size) (hL : L ≤ 2048) (hr : meth.sig.returnType = ret) (hlocks : meth.locks = false) :
    ∀ (f i cells slots : Nat) (n : Nat) (kn : Nat) (X : Nat → UInt64) (Y : Nat → UInt64) (Wt : Nat → UInt64) (bc : Nat) (BW : Nat → UInt64) (BS : Nat → UInt64) (BZ : Nat → Int32) (P : Nat → UInt64) (V : Nat → UInt64) (F : Nat → UInt64) (e0 : UInt64) (e1 : UInt64) (e2 : UInt64) (e3 : UInt64) (e4 : UInt64) (k1 : Nat) (a1 : UInt64) (k2 : Nat) (a2 : UInt64) (th : Int32) (AF : Nat → Int32) (FX : Nat → UInt64) (TK : Nat → Int32) (FA : Nat → UInt64) (fo : Nat → Int64) (fd : Nat → UInt64) (H : Heap) (locs : List Loc) (ls : Array Slot), L < i + 4 * f → i ≤ L + 4 → cells + f ≤ 601024 → slots + 6 * f ≤ 7293034 → LI n kn k1 k2 X Y Wt P V F a1 a2 AF FX TK FA → va_P D vwCl (LWd kd ki kz kl ad am oa ob n kn X Y Wt bc BW BS BZ P V F e0 e1 e2 e3 e4 k1 a1 k2 a2 th AF FX TK FA fo fd) H → va_D (fun q => s.heap.size ≤ q) (LWd kd ki kz kl ad am oa ob n kn X Y Wt bc BW BS BZ P V F e0 e1 e2 e3 e4 k1 a1 k2 a2 th AF FX TK FA fo fd) → va_S (fun q => s.heap.size ≤ q) s.heap H locs → lv_has ls 9 [(0, .ref b), (1, .ref (ad 0)), (2, .ref (am 0)), (3, .ref oa), (4, .ref ob), (5, .int (nI i))] →
      W p l e room_1 s m #[.ref b] below meth c H locs cells slots (lw_Z below #[.ref b] s) (F0 m 28 ls []) := by
  intro f
  induction f with
  | zero =>
    intro i cells slots n kn X Y Wt bc BW BS BZ P V F e0 e1 e2 e3 e4 k1 a1 k2 a2 th AF FX TK FA fo fd H locs ls hf hi hc9 hs9 hLI hP hD hS hl
    exact law_end l hfl D kd ki kz kl ad am oa ob b L i xs n kn X Y Wt bc BW BS BZ P V F e0 e1 e2 e3 e4 k1 a1 k2 a2 th AF FX TK FA fo fd S hXs hbl hL hr hlocks (by omega) (by omega) (by omega) (by omega) hS hl
  | succ f ih =>
    intro i cells slots n kn X Y Wt bc BW BS BZ P V F e0 e1 e2 e3 e4 k1 a1 k2 a2 th AF FX TK FA fo fd H locs ls hf hi hc9 hs9 hLI hP hD hS hl
    by_cases hi4 : L < i + 4
    · exact law_end l hfl D kd ki kz kl ad am oa ob b L i xs n kn X Y Wt bc BW BS BZ P V F e0 e1 e2 e3 e4 k1 a1 k2 a2 th AF FX TK FA fo fd S hXs hbl hL hr hlocks (by omega) (by omega) (by omega) (by omega) hS hl
    have hi : i + 4 ≤ L := by omega
    have hcs0 : cells + 1 ≤ room_1.cells ∧ slots + 6 ≤ room_1.slots := ⟨by show cells + 1 ≤ 601024; omega, by show slots + 6 ≤ 7293034; omega⟩
    have hbA : ¬ (fun q => s.heap.size ≤ q) b := Nat.not_le.mpr hbl
    obtain ⟨hx, hb, hml, hown, hts⟩ := id S
    have KG : ∀ (n' : Nat) (kn' : Nat) (X' : Nat → UInt64) (Y' : Nat → UInt64) (Wt' : Nat → UInt64) (bc' : Nat) (BW' : Nat → UInt64) (BS' : Nat → UInt64) (BZ' : Nat → Int32) (P' : Nat → UInt64) (V' : Nat → UInt64) (F' : Nat → UInt64) (e0' : UInt64) (e1' : UInt64) (e2' : UInt64) (e3' : UInt64) (e4' : UInt64) (k1' : Nat) (a1' : UInt64) (k2' : Nat) (a2' : UInt64) (th' : Int32) (AF' : Nat → Int32) (FX' : Nat → UInt64) (TK' : Nat → Int32) (FA' : Nat → UInt64) (fo' : Nat → Int64) (fd' : Nat → UInt64) (H : Heap) (locs : List Loc) (ls : Array Slot), LI n' kn' k1' k2' X' Y' Wt' P' V' F' a1' a2' AF' FX' TK' FA' → va_P D vwCl (LWd kd ki kz kl ad am oa ob n' kn' X' Y' Wt' bc' BW' BS' BZ' P' V' F' e0' e1' e2' e3' e4' k1' a1' k2' a2' th' AF' FX' TK' FA' fo' fd') H → va_D (fun q => s.heap.size ≤ q) (LWd kd ki kz kl ad am oa ob n' kn' X' Y' Wt' bc' BW' BS' BZ' P' V' F' e0' e1' e2' e3' e4' k1' a1' k2' a2' th' AF' FX' TK' FA' fo' fd') → va_S (fun q => s.heap.size ≤ q) s.heap H locs → lv_has ls 9 [(0, .ref b), (1, .ref (ad 0)), (2, .ref (am 0)), (3, .ref oa), (4, .ref ob), (5, .int (nI i))] → W p l e room_1 s m #[.ref b] below meth c H locs (cells + 1) (slots + 6) (lw_Z below #[.ref b] s) (F0 m 1723 ls []) := by
      intro n' kn' X' Y' Wt' bc' BW' BS' BZ' P' V' F' e0' e1' e2' e3' e4' k1' a1' k2' a2' th' AF' FX' TK' FA' fo' fd' H locs ls hLI hP hD hS hl
      refine lv_iinc (v := nI (i + 4)) (k := 5) (lv' := [(5, .int (nI (i + 4))), (0, .ref b), (1, .ref (ad 0)), (2, .ref (am 0)), (3, .ref oa), (4, .ref ob)]) hx hb dL_law_1723 hl rfl (nI_add i 4) (by decide) rfl (fun ls hl => ?_)
      refine lv_goto (tgt := 28) hx hb dL_law_1726 (by decide) ?_
      exact ih (i + 4) (cells + 1) (slots + 6) n' kn' X' Y' Wt' bc' BW' BS' BZ' P' V' F' e0' e1' e2' e3' e4' k1' a1' k2' a2' th' AF' FX' TK' FA' fo' fd' H locs ls (by omega) (by omega) (by omega) (by omega) hLI hP hD hS (lv_sub hl [1, 2, 3, 4, 5, 0] rfl)
    refine lv_iload hx hb dL_law_28 (lv_at hl 5 rfl) ?_
    refine lv_aload_n hx hb dL_law_30 rfl (lv_at hl 0 rfl) ?_
    refine va_slen hx hb hXs hbl hbA hS dL_law_31 ?_
    refine lv_iconst (v := 4) hx hb dL_law_32 (by decide) ?_
    refine lv_isub hx hb dL_law_33 ?_
    refine lv_icmp_gt (tgt := 1729) hx hb dL_law_34 (by decide) (fun hc => ?_) (fun hc => ?_)
    · exact absurd ((l4_gt hL (by omega)).mp hc) (by omega)
    refine lv_aload_n hx hb dL_law_37 rfl (lv_at hl 0 rfl) ?_
    refine lv_iload hx hb dL_law_38 (lv_at hl 5 rfl) ?_
    refine my_sld (k := i) hx hb hXs hbl hbA hS (by omega) hL dL_law_40 ?_
    refine lv_bipush (v := 31) hx hb dL_law_41 (by decide) ?_
    refine lv_iand hx hb dL_law_43 ?_
    obtain ⟨v, hv, hvx⟩ := and31 (xs i)
    rw [hvx]
    by_cases h0 : v = 0
    · subst h0
      refine lv_tableIn (off := 112) (tgt := 156) hx hb dL_law_44 (by decide) (by decide) (by decide) (by decide) ?_
      exact ld_0 l hfl D kd ki kz kl s.heap.size ad am oa ob b L i xs n kn X Y Wt bc BW BS BZ P V F e0 e1 e2 e3 e4 k1 a1 k2 a2 th AF FX TK FA fo fd S hC hX3 hXs hbl hL hi hcs0 (fun q => s.heap.size ≤ q) hbA (fun q h => h) hP hD hS hl hLI KG
    by_cases h1 : v = 1
    · subst h1
      refine lv_tableIn (off := 222) (tgt := 266) hx hb dL_law_44 (by decide) (by decide) (by decide) (by decide) ?_
      exact ld_1 l hfl D kd ki kz kl s.heap.size ad am oa ob b L i xs n kn X Y Wt bc BW BS BZ P V F e0 e1 e2 e3 e4 k1 a1 k2 a2 th AF FX TK FA fo fd S hC hX3 hXs hbl hL hi hcs0 (fun q => s.heap.size ≤ q) hbA (fun q h => h) hP hD hS hl hLI KG
    by_cases h2 : v = 2
    · subst h2
      refine lv_tableIn (off := 278) (tgt := 322) hx hb dL_law_44 (by decide) (by decide) (by decide) (by decide) ?_
      exact ld_2 l hfl D kd ki kz kl s.heap.size ad am oa ob b L i xs n kn X Y Wt bc BW BS BZ P V F e0 e1 e2 e3 e4 k1 a1 k2 a2 th AF FX TK FA fo fd S hC hX3 hXs hbl hL hi hcs0 (fun q => s.heap.size ≤ q) hbA (fun q h => h) hP hD hS hl hLI KG
    by_cases h3 : v = 3
    · subst h3
      refine lv_tableIn (off := 291) (tgt := 335) hx hb dL_law_44 (by decide) (by decide) (by decide) (by decide) ?_
      exact ld_3 l hfl D kd ki kz kl s.heap.size ad am oa ob b L i xs n kn X Y Wt bc BW BS BZ P V F e0 e1 e2 e3 e4 k1 a1 k2 a2 th AF FX TK FA fo fd S hC hX3 hXs hbl hL hi hcs0 (fun q => s.heap.size ≤ q) hbA (fun q h => h) hP hD hS hl hLI KG
    by_cases h4 : v = 4
    · subst h4
      refine lv_tableIn (off := 368) (tgt := 412) hx hb dL_law_44 (by decide) (by decide) (by decide) (by decide) ?_
      exact ld_4 l hfl D kd ki kz kl s.heap.size ad am oa ob b L i xs n kn X Y Wt bc BW BS BZ P V F e0 e1 e2 e3 e4 k1 a1 k2 a2 th AF FX TK FA fo fd S hC hX3 hXs hbl hL hi hcs0 (fun q => s.heap.size ≤ q) hbA (fun q h => h) hP hD hS hl hLI KG
    by_cases h5 : v = 5
    · subst h5
      refine lv_tableIn (off := 412) (tgt := 456) hx hb dL_law_44 (by decide) (by decide) (by decide) (by decide) ?_
      exact ld_5 l hfl D kd ki kz kl s.heap.size ad am oa ob b L i xs n kn X Y Wt bc BW BS BZ P V F e0 e1 e2 e3 e4 k1 a1 k2 a2 th AF FX TK FA fo fd S hC hX3 hXs hbl hL hi hcs0 (fun q => s.heap.size ≤ q) hbA (fun q h => h) hP hD hS hl hLI KG
    by_cases h6 : v = 6
    · subst h6
      refine lv_tableIn (off := 425) (tgt := 469) hx hb dL_law_44 (by decide) (by decide) (by decide) (by decide) ?_
      exact ld_6 l hfl D kd ki kz kl s.heap.size ad am oa ob b L i xs n kn X Y Wt bc BW BS BZ P V F e0 e1 e2 e3 e4 k1 a1 k2 a2 th AF FX TK FA fo fd S hC hX3 hXs hbl hL hi hcs0 (fun q => s.heap.size ≤ q) hbA (fun q h => h) hP hD hS hl hLI KG
    by_cases h7 : v = 7
    · subst h7
      refine lv_tableIn (off := 502) (tgt := 546) hx hb dL_law_44 (by decide) (by decide) (by decide) (by decide) ?_
      exact ld_7 l hfl D kd ki kz kl s.heap.size ad am oa ob b L i xs n kn X Y Wt bc BW BS BZ P V F e0 e1 e2 e3 e4 k1 a1 k2 a2 th AF FX TK FA fo fd S hC hX3 hXs hbl hL hi hcs0 (fun q => s.heap.size ≤ q) hbA (fun q h => h) hP hD hS hl hLI KG
    by_cases h8 : v = 8
    · subst h8
      refine lv_tableIn (off := 579) (tgt := 623) hx hb dL_law_44 (by decide) (by decide) (by decide) (by decide) ?_
      exact ld_8 l hfl D kd ki kz kl s.heap.size ad am oa ob b L i xs n kn X Y Wt bc BW BS BZ P V F e0 e1 e2 e3 e4 k1 a1 k2 a2 th AF FX TK FA fo fd S hC hX3 hXs hbl hL hi hcs0 (fun q => s.heap.size ≤ q) hbA (fun q h => h) hP hD hS hl hLI KG
    by_cases h9 : v = 9
    · subst h9
      refine lv_tableIn (off := 656) (tgt := 700) hx hb dL_law_44 (by decide) (by decide) (by decide) (by decide) ?_
      exact ld_9 l hfl D kd ki kz kl s.heap.size ad am oa ob b L i xs n kn X Y Wt bc BW BS BZ P V F e0 e1 e2 e3 e4 k1 a1 k2 a2 th AF FX TK FA fo fd S hC hX3 hXs hbl hL hi hcs0 (fun q => s.heap.size ≤ q) hbA (fun q h => h) hP hD hS hl hLI KG
    by_cases h10 : v = 10
    · subst h10
      refine lv_tableIn (off := 719) (tgt := 763) hx hb dL_law_44 (by decide) (by decide) (by decide) (by decide) ?_
      exact ld_10 l hfl D kd ki kz kl s.heap.size ad am oa ob b L i xs n kn X Y Wt bc BW BS BZ P V F e0 e1 e2 e3 e4 k1 a1 k2 a2 th AF FX TK FA fo fd S hC hX3 hXs hbl hL hi hcs0 (fun q => s.heap.size ≤ q) hbA (fun q h => h) hP hD hS hl hLI KG
    by_cases h11 : v = 11
    · subst h11
      refine lv_tableIn (off := 785) (tgt := 829) hx hb dL_law_44 (by decide) (by decide) (by decide) (by decide) ?_
      exact ld_11 l hfl D kd ki kz kl s.heap.size ad am oa ob b L i xs n kn X Y Wt bc BW BS BZ P V F e0 e1 e2 e3 e4 k1 a1 k2 a2 th AF FX TK FA fo fd S hC hX3 hXs hbl hL hi hcs0 (fun q => s.heap.size ≤ q) hbA (fun q h => h) hP hD hS hl hLI KG
    by_cases h12 : v = 12
    · subst h12
      refine lv_tableIn (off := 841) (tgt := 885) hx hb dL_law_44 (by decide) (by decide) (by decide) (by decide) ?_
      exact ld_12 l hfl D kd ki kz kl s.heap.size ad am oa ob b L i xs n kn X Y Wt bc BW BS BZ P V F e0 e1 e2 e3 e4 k1 a1 k2 a2 th AF FX TK FA fo fd S hC hX3 hXs hbl hL hi hcs0 (fun q => s.heap.size ≤ q) hbA (fun q h => h) hP hD hS hl hLI KG
    by_cases h13 : v = 13
    · subst h13
      refine lv_tableIn (off := 940) (tgt := 984) hx hb dL_law_44 (by decide) (by decide) (by decide) (by decide) ?_
      exact ld_13 l hfl D kd ki kz kl s.heap.size ad am oa ob b L i xs n kn X Y Wt bc BW BS BZ P V F e0 e1 e2 e3 e4 k1 a1 k2 a2 th AF FX TK FA fo fd S hC hX3 hXs hbl hL hi hcs0 (fun q => s.heap.size ≤ q) hbA (fun q h => h) hP hD hS hl hLI KG
    by_cases h14 : v = 14
    · subst h14
      refine lv_tableIn (off := 1039) (tgt := 1083) hx hb dL_law_44 (by decide) (by decide) (by decide) (by decide) ?_
      exact ld_14 l hfl D kd ki kz kl s.heap.size ad am oa ob b L i xs n kn X Y Wt bc BW BS BZ P V F e0 e1 e2 e3 e4 k1 a1 k2 a2 th AF FX TK FA fo fd S hC hX3 hXs hbl hL hi hcs0 (fun q => s.heap.size ≤ q) hbA (fun q h => h) hP hD hS hl hLI KG
    by_cases h15 : v = 15
    · subst h15
      refine lv_tableIn (off := 1102) (tgt := 1146) hx hb dL_law_44 (by decide) (by decide) (by decide) (by decide) ?_
      exact ld_15 l hfl D kd ki kz kl s.heap.size ad am oa ob b L i xs n kn X Y Wt bc BW BS BZ P V F e0 e1 e2 e3 e4 k1 a1 k2 a2 th AF FX TK FA fo fd S hC hX3 hXs hbl hL hi hcs0 (fun q => s.heap.size ≤ q) hbA (fun q h => h) hP hD hS hl hLI KG
    by_cases h16 : v = 16
    · subst h16
      refine lv_tableIn (off := 1189) (tgt := 1233) hx hb dL_law_44 (by decide) (by decide) (by decide) (by decide) ?_
      exact ld_16 l hfl D kd ki kz kl s.heap.size ad am oa ob b L i xs n kn X Y Wt bc BW BS BZ P V F e0 e1 e2 e3 e4 k1 a1 k2 a2 th AF FX TK FA fo fd S hC hX3 hXs hbl hL hi hcs0 (fun q => s.heap.size ≤ q) hbA (fun q h => h) hP hD hS hl hLI KG
    by_cases h17 : v = 17
    · subst h17
      refine lv_tableIn (off := 1276) (tgt := 1320) hx hb dL_law_44 (by decide) (by decide) (by decide) (by decide) ?_
      exact ld_17 l hfl D kd ki kz kl s.heap.size ad am oa ob b L i xs n kn X Y Wt bc BW BS BZ P V F e0 e1 e2 e3 e4 k1 a1 k2 a2 th AF FX TK FA fo fd S hC hX3 hXs hbl hL hi hcs0 (fun q => s.heap.size ≤ q) hbA (fun q h => h) hP hD hS hl hLI KG
    by_cases h18 : v = 18
    · subst h18
      refine lv_tableIn (off := 1385) (tgt := 1429) hx hb dL_law_44 (by decide) (by decide) (by decide) (by decide) ?_
      exact ld_18 l hfl D kd ki kz kl s.heap.size ad am oa ob b L i xs n kn X Y Wt bc BW BS BZ P V F e0 e1 e2 e3 e4 k1 a1 k2 a2 th AF FX TK FA fo fd S hC hX3 hXs hbl hL hi hcs0 (fun q => s.heap.size ≤ q) hbA (fun q h => h) hP hD hS hl hLI KG
    by_cases h19 : v = 19
    · subst h19
      refine lv_tableIn (off := 1472) (tgt := 1516) hx hb dL_law_44 (by decide) (by decide) (by decide) (by decide) ?_
      exact ld_19 l hfl D kd ki kz kl s.heap.size ad am oa ob b L i xs n kn X Y Wt bc BW BS BZ P V F e0 e1 e2 e3 e4 k1 a1 k2 a2 th AF FX TK FA fo fd S hC hX3 hXs hbl hL hi hcs0 (fun q => s.heap.size ≤ q) hbA (fun q h => h) hP hD hS hl hLI KG
    by_cases h20 : v = 20
    · subst h20
      refine lv_tableIn (off := 1485) (tgt := 1529) hx hb dL_law_44 (by decide) (by decide) (by decide) (by decide) ?_
      exact ld_20 l hfl D kd ki kz kl s.heap.size ad am oa ob b L i xs n kn X Y Wt bc BW BS BZ P V F e0 e1 e2 e3 e4 k1 a1 k2 a2 th AF FX TK FA fo fd S hC hX3 hXs hbl hL hi hcs0 (fun q => s.heap.size ≤ q) hbA (fun q h => h) hP hD hS hl hLI KG
    by_cases h21 : v = 21
    · subst h21
      refine lv_tableIn (off := 1498) (tgt := 1542) hx hb dL_law_44 (by decide) (by decide) (by decide) (by decide) ?_
      exact ld_21 l hfl D kd ki kz kl s.heap.size ad am oa ob b L i xs n kn X Y Wt bc BW BS BZ P V F e0 e1 e2 e3 e4 k1 a1 k2 a2 th AF FX TK FA fo fd S hC hX3 hXs hbl hL hi hcs0 (fun q => s.heap.size ≤ q) hbA (fun q h => h) hP hD hS hl hLI KG
    by_cases h22 : v = 22
    · subst h22
      refine lv_tableIn (off := 1588) (tgt := 1632) hx hb dL_law_44 (by decide) (by decide) (by decide) (by decide) ?_
      exact ld_22 l hfl D kd ki kz kl s.heap.size ad am oa ob b L i xs n kn X Y Wt bc BW BS BZ P V F e0 e1 e2 e3 e4 k1 a1 k2 a2 th AF FX TK FA fo fd S hC hX3 hXs hbl hL hi hcs0 (fun q => s.heap.size ≤ q) hbA (fun q h => h) hP hD hS hl hLI KG
    by_cases h23 : v = 23
    · subst h23
      refine lv_tableIn (off := 1665) (tgt := 1709) hx hb dL_law_44 (by decide) (by decide) (by decide) (by decide) ?_
      exact ld_23 l hfl D kd ki kz kl s.heap.size ad am oa ob b L i xs n kn X Y Wt bc BW BS BZ P V F e0 e1 e2 e3 e4 k1 a1 k2 a2 th AF FX TK FA fo fd S hC hX3 hXs hbl hL hi hcs0 (fun q => s.heap.size ≤ q) hbA (fun q h => h) hP hD hS hl hLI KG
    refine lv_tableOut (tgt := 1723) hx hb dL_law_44 (by rw [nI_toInt (by omega)]; omega) (by decide) ?_
    exact W.widen (Nat.le_add_right _ _) (Nat.le_add_right _ _) (KG n kn X Y Wt bc BW BS BZ P V F e0 e1 e2 e3 e4 k1 a1 k2 a2 th AF FX TK FA fo fd H locs ls hLI hP hD hS hl)

