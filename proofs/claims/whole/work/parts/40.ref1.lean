/-! Math.abs and Math.min of doubles: the machine runs entries of its own in their place -/
section MYM
variable {p : Program} {l : Launch} {e : Env} {R : Room} {s : State} {m : MethodId} {args : Array Value} {below : List Frame} {meth : Method} {c : Code} {H : Heap} {locs : List Loc} {cells slots : Nat} {Q : State → Prop}
variable {cc : ByteArray} {pc : Nat} {ls : Array Slot} {rest : List Value}
theorem my_mabs (hexec : p.tables.exec = Jvm.exec) (hb : c.code = cc) (hml : c.maxLocals = ls.size) {own : String} {index : Nat} {y : MethodName} {bytes : ByteArray} (hy : y = ⟨"java/lang/Math", "abs", "(D)D"⟩) (hown : s.vm.findClass own = some m.cls) (hlink : (Cond.methodLink own index y).before args s = true) (hstat : (Cond.static y).before args s = true) (hinit : (Cond.initialized y.cls).before args s = true)
    (hcode : (Cond.code y bytes 2 (some .double)).before args s = true) {a : UInt64} (ha : vf_n64 a) (hframes : 1 ≤ R.frames) (hlocals : (rest.map fun v => v.category).sum + 13 ≤ R.locals) (hcs : cells ≤ R.cells ∧ slots ≤ R.slots) (hdg : decode cc pc = .ok (.invokestatic index, 3))
    (k : W p l e R s m args below meth c H locs cells slots Q (F0 m (pc + 3) ls (.double (a &&& 0x7fffffffffffffff) :: rest))) : W p l e R s m args below meth c H locs cells slots Q (F0 m pc ls (.double a :: rest)) := by
  intro T hT X
  subst hy
  obtain ⟨mk, hnamed⟩ := Cond.code_named hcode
  obtain ⟨methS, cS, hmethS, -, -, -, -, -, -, hsigS⟩ := Cond.code_spec hnamed hcode
  have hstatic := Cond.static_spec hnamed hmethS hstat
  obtain ⟨kS, hkS, -⟩ := className_of_methodNamed hnamed
  have hinitS : kS.init = .initialized := Cond.initialized_spec (findClass_of_methodNamed hnamed) hkS hinit
  obtain ⟨vm₁, X₁, hstep₁⟩ := X.invokestatic hexec hown hlink hnamed hmethS hstatic hkS hinitS (by decide) (g := F0 m pc ls (.double a :: rest)) rfl (argsL := [.double a]) (rest := rest)
    (by have h := hsigS; rw [show parseMethodDescriptor "(D)D" = some ⟨[.double], some .double⟩ from by decide +kernel] at h; rw [← Option.some.inj h]; rfl) rfl (by rw [hb]; exact hdg)
  have hnamed₁ : (T.setVm vm₁).methodNamed? ⟨"java/lang/Math", "abs", "(D)D"⟩ = some mk := X₁.named hnamed
  have hcodeU : (Cond.code ⟨"java/lang/Math", "abs", "(D)D"⟩ bytes 2 (some .double)).before args (T.setVm vm₁) = true := Cond.tabsOnly_warm (args' := args) (T := T.setVm vm₁) X₁.warmed _ rfl hcode
  obtain ⟨methM, cM, hmethM, hcodeM', -, hlocalsM, -, hlocksM, -, hsigM⟩ := Cond.code_spec hnamed₁ hcodeU
  obtain ⟨kP, hkP, hkname⟩ := className_of_methodNamed hnamed₁
  obtain ⟨hmnM, hmdM⟩ := name_of_methodNamed hnamed₁ hmethM
  have hkP' : vm₁.classes[mk.cls]? = some kP := hkP
  have hxP : kP.methods[mk.idx]? = some methM := by simpa [Vm.method?, hkP'] using hmethM
  have hbootP : kP.loader = none := Vm.bootOf_findClass (findClass_of_methodNamed hnamed₁) hkP
  obtain ⟨t, a1, b1⟩ := k (T.setVm vm₁) hT X₁
  refine ⟨t, hstep₁ t fun acts => ?_, b1⟩
  have hsig1 : [Value.double a].length = methM.sig.parameters.length := by
    rw [show parseMethodDescriptor "(D)D" = some ⟨[.double], some .double⟩ from by decide +kernel] at hsigM; rw [← Option.some.inj hsigM]; rfl
  exact my_ownCall X₁ (g := F0 m pc ls rest) (As := [.double a]) (v := .double (a &&& 0x7fffffffffffffff)) rfl (by rw [hml]) acts hkP hxP hkname hbootP hcodeM' hlocksM (by rw [hmnM, hmdM]; exact my_rAbs_in p) hsig1 (by rw [hlocalsM]; rfl) (my_rAbs_run ha) hframes (by rw [hlocalsM]; show 2 * 0 + (rest.map fun v => v.category).sum + (2 + 11) ≤ R.locals; omega) (by rw [hb]; exact hdg) a1
theorem my_mmin (hexec : p.tables.exec = Jvm.exec) (hb : c.code = cc) (hml : c.maxLocals = ls.size) {own : String} {index : Nat} {y : MethodName} {bytes : ByteArray} (hy : y = ⟨"java/lang/Math", "min", "(DD)D"⟩) (hown : s.vm.findClass own = some m.cls) (hlink : (Cond.methodLink own index y).before args s = true) (hstat : (Cond.static y).before args s = true) (hinit : (Cond.initialized y.cls).before args s = true)
    (hcode : (Cond.code y bytes 4 (some .double)).before args s = true) {a b : UInt64} (ha : vf_n64 a) (hbn : vf_n64 b) (hframes : 1 ≤ R.frames) (hlocals : (rest.map fun v => v.category).sum + 15 ≤ R.locals) (hcs : cells ≤ R.cells ∧ slots ≤ R.slots) (hdg : decode cc pc = .ok (.invokestatic index, 3))
    (k : W p l e R s m args below meth c H locs cells slots Q (F0 m (pc + 3) ls (.double (Native.java_lang_Math.nans.pick64 false a b) :: rest))) : W p l e R s m args below meth c H locs cells slots Q (F0 m pc ls (.double b :: .double a :: rest)) := by
  intro T hT X
  subst hy
  obtain ⟨mk, hnamed⟩ := Cond.code_named hcode
  obtain ⟨methS, cS, hmethS, -, -, -, -, -, -, hsigS⟩ := Cond.code_spec hnamed hcode
  have hstatic := Cond.static_spec hnamed hmethS hstat
  obtain ⟨kS, hkS, -⟩ := className_of_methodNamed hnamed
  have hinitS : kS.init = .initialized := Cond.initialized_spec (findClass_of_methodNamed hnamed) hkS hinit
  obtain ⟨vm₁, X₁, hstep₁⟩ := X.invokestatic hexec hown hlink hnamed hmethS hstatic hkS hinitS (by decide) (g := F0 m pc ls (.double b :: .double a :: rest)) rfl (argsL := [.double a, .double b]) (rest := rest)
    (by have h := hsigS; rw [show parseMethodDescriptor "(DD)D" = some ⟨[.double, .double], some .double⟩ from by decide +kernel] at h; rw [← Option.some.inj h]; rfl) rfl (by rw [hb]; exact hdg)
  have hnamed₁ : (T.setVm vm₁).methodNamed? ⟨"java/lang/Math", "min", "(DD)D"⟩ = some mk := X₁.named hnamed
  have hcodeU : (Cond.code ⟨"java/lang/Math", "min", "(DD)D"⟩ bytes 4 (some .double)).before args (T.setVm vm₁) = true := Cond.tabsOnly_warm (args' := args) (T := T.setVm vm₁) X₁.warmed _ rfl hcode
  obtain ⟨methM, cM, hmethM, hcodeM', -, hlocalsM, -, hlocksM, -, hsigM⟩ := Cond.code_spec hnamed₁ hcodeU
  obtain ⟨kP, hkP, hkname⟩ := className_of_methodNamed hnamed₁
  obtain ⟨hmnM, hmdM⟩ := name_of_methodNamed hnamed₁ hmethM
  have hkP' : vm₁.classes[mk.cls]? = some kP := hkP
  have hxP : kP.methods[mk.idx]? = some methM := by simpa [Vm.method?, hkP'] using hmethM
  have hbootP : kP.loader = none := Vm.bootOf_findClass (findClass_of_methodNamed hnamed₁) hkP
  obtain ⟨t, a1, b1⟩ := k (T.setVm vm₁) hT X₁
  refine ⟨t, hstep₁ t fun acts => ?_, b1⟩
  have hsig1 : [Value.double a, Value.double b].length = methM.sig.parameters.length := by
    rw [show parseMethodDescriptor "(DD)D" = some ⟨[.double, .double], some .double⟩ from by decide +kernel] at hsigM; rw [← Option.some.inj hsigM]; rfl
  exact my_ownCall X₁ (g := F0 m pc ls rest) (As := [.double a, .double b]) (v := .double (Native.java_lang_Math.nans.pick64 false a b)) rfl (by rw [hml]) acts hkP hxP hkname hbootP hcodeM' hlocksM (by rw [hmnM, hmdM]; exact my_rMin_in p) hsig1 (by rw [hlocalsM]; rfl) (my_rMin_run ha hbn) hframes (by rw [hlocalsM]; show 2 * 0 + (rest.map fun v => v.category).sum + (4 + 11) ≤ R.locals; omega) (by rw [hb]; exact hdg) a1
/-- a call with much on the stack -/
def my_fitX (rm R : Room) (maxL : Nat) (rest : List Value) : Bool := Nat.ble (rm.frames + 1) R.frames && Nat.ble (16 + (maxL + 11) + rm.locals) R.locals && Nat.ble (rest.map fun v => v.category).sum 16
theorem my_fitX_spec {rm R : Room} {maxL : Nat} {rest : List Value} (h : my_fitX rm R maxL rest = true) : (rm.frames + 1 ≤ R.frames ∧ 16 + (maxL + 11) + rm.locals ≤ R.locals) ∧ (rest.map fun v => v.category).sum ≤ 16 := by
  simp only [my_fitX, Bool.and_eq_true, Nat.ble_eq] at h
  exact ⟨⟨h.1.1, h.1.2⟩, h.2⟩
theorem my_runVX {y : MethodName} {ws ws' : List Cond} {rm : Room} {bytes : ByteArray} {maxL index n nL : Nat} {ret : Option FieldType} {b : Nat} {As : List Value} {st0 : List Value} {Ts : List Cond} {own : String} {Pc : Array Value → State → Prop} {Qc : Array Value → State → Outcome → State → Prop} {free : Addr → Prop} (S : CallFix p m c cc nL s args Ts own) (hls : ls.size = nL) (hM : Met l y ws rm Pc Qc 0 0 free) (hw : ws = Cond.code y bytes maxL ret :: ws') (hrm : rm.cells = 0 ∧ rm.slots = 0) (hG : GoodIn Ts (wsV own index y.cls y ws)) (hok : my_ok y n = true) (hfit : my_fitX rm R maxL rest = true) (hcs : cells ≤ R.cells ∧ slots ≤ R.slots)
    (hpre : PreS s H Pc (.ref b :: As)) (hrecv : ∃ cell : Cell, H[b]? = some cell ∧ cell.vm.isStatics = false ∧ s.vm.findClass y.cls = some cell.cls) (hn : As.length = n) (hst : st0 = As.reverse ++ .ref b :: rest) (hdg : decode cc pc = .ok (.invokevirtual index, 3)) :
    va_Run p l e R s m args below meth c H locs cells slots 0 0 (F0 m pc ls st0) rest (Qc (Value.ref b :: As).toArray) free := by
  obtain ⟨hf, hr⟩ := my_fitX_spec hfit
  have cw := cwV n S.2.2.2.2 hG hw hrm.1 hrm.2 ⟨rfl, my_ok_spec hok⟩ (R := R) ⟨hf.1, by omega⟩
  have hK : Back l R p e below s args y 3 16 (PreOf R 0 0 Pc) (PostOf Qc 0 0 free) := by
    obtain ⟨hrc, hrs, hfr, hlo, hws, hcw, -, hini, -⟩ := cw.1
    exact back_of (bytes := bytes) (maxL := maxL) (ret := ret) hM hpre.1 hrc hrs hfr hf.2 hws hcw (fun a' U hW => word_at hW (Or.inl (by first | rfl | simp [Cond.onTables, Cond.keeps, Cond.steady])) hini)
  obtain ⟨⟨-, -, -, -, -, -, hcode, -, hy, hlen, hl⟩, hin, hse⟩ := cw
  obtain ⟨hx, hb, hml, ho, -⟩ := S
  obtain ⟨cellB, hcB, hoB, hclB⟩ := hrecv
  intro T hT X
  obtain ⟨v, vm₁, ⟨U', l2, c2, s2⟩, hW₁, X', ⟨g', mk, t, L, e1, e2, hq, h1, hL, h2, h3⟩, st⟩ := callV X hx (C := y.cls) (bytes := bytes) (maxL := maxL) (ret := ret) ho hl hin hse hcode hy hK (by rw [hT]; exact hcB) hoB hclB (g := F0 m pc ls st0) rfl (hls.trans hml.symm) (argsL := As) (rest := rest) (fun sig h => hn.trans (hlen sig h)) hst (by show 2 * 0 + _ ≤ 16; omega) (by rw [hb]; exact hdg)
    (fun vm₁ hW₁ => ⟨hcs.1, hcs.2, hpre.2 (T.setVm vm₁) hT hW₁⟩)
  dsimp only [Pt.U, Pt.locs, Pt.cells, Pt.slots] at X' e1 e2 h1 h2 h3 st
  subst h1; subst h2; subst h3
  exact ⟨v, (T.setVm vm₁).calling g' mk (Value.ref b :: As).toArray, t, U', L, hT, X', hL, e1, e2, hq, st⟩
end MYM
theorem s_min_pick {a b : UInt64} (ha : fx_p a) : Native.java_lang_Math.nans.pick64 false a b = s_min a b := by
  unfold Native.java_lang_Math.nans.pick64 s_min sp_lt
  have hs : (a >>> 63 == 1) = false := by
    refine beq_eq_false_iff_ne.mpr (fun h => ?_)
    have h2 := congrArg UInt64.toNat h
    rw [UInt64.toNat_shiftRight] at h2
    have h3 : a.toNat >>> 63 = 1 := h2
    rw [Nat.shiftRight_eq_div_pow] at h3
    unfold fx_p at ha; omega
  cases hc : FP.dcmp a b with
  | none => simp [hs]
  | some o => cases o <;> simp [hs]
/-! the reference: its fixed slopes are kept beside marks -/
def MR (kn : Nat) (F : Nat → UInt64) (AF : Nat → Int32) (FX : Nat → UInt64) : Prop :=
  (∀ k, AF k = 0 ∨ AF k = 1) ∧ ∀ k, k < kn → (F k = 13830554455654793216 ∧ AF k = 0) ∨ (¬ F k = 13830554455654793216 ∧ AF k = 1 ∧ FX k = F k)
theorem s_sh_01 {AF : Nat → Int32} (h : ∀ k, AF k = 0 ∨ AF k = 1) (i u k : Nat) : s_sh AF i u k = 0 ∨ s_sh AF i u k = 1 := by
  unfold s_sh; split
  · exact h _
  · exact h _
theorem s_rm_01 {AF : Nat → Int32} (h : ∀ k, AF k = 0 ∨ AF k = 1) (i u k : Nat) : s_rm AF i u k = 0 ∨ s_rm AF i u k = 1 := by
  unfold s_rm; split
  · exact h _
  · exact h _
theorem z_01 {x : Int32} (h : x = 0 ∨ x = 1) : vp_nar .boolean x = x := by rcases h with rfl | rfl <;> decide
/-- the magnitude by its bits -/
def s_ab (x : UInt64) : UInt64 := x &&& 0x7fffffffffffffff
theorem s_ab_nat (x : UInt64) : (s_ab x).toNat = x.toNat % 2 ^ 63 := by
  unfold s_ab
  rw [UInt64.toNat_and, show (0x7fffffffffffffff : UInt64).toNat = 2 ^ 63 - 1 by decide, Nat.and_two_pow_sub_one_eq_mod]
theorem s_ab_n {x : UInt64} (h : fx_n x) : fx_n (s_ab x) := by
  rw [fx_nb] at h ⊢; rw [s_ab_nat]; omega
theorem s_ab_k (x : UInt64) : fx_k (s_ab x) = ((fx_k x).natAbs : Int) := by
  rw [fx_k_abs, fx_k_pos (by unfold fx_p; rw [s_ab_nat]; omega), s_ab_nat]
theorem s_ab_mg {x c : UInt64} (h : fx_n x) (hc : fx_n c) : sp_lt (s_ab x) c ↔ sp_lt (s_mg x) c := by
  have h1 := fx_lt (s_ab_n h) hc
  have h2 := fx_lt (s_mg_n h) hc
  unfold sp_lt
  rw [h1, h2, s_ab_k, s_mg_k h]
  split <;> omega
/-- the lesser of two rises -/
theorem s_min_same (a : UInt64) : s_min a a = a := by unfold s_min; split <;> rfl
theorem fx_refl {a : UInt64} (h : fx_n a) : sp_eq a a := (fx_eq h h).mpr rfl
theorem fx_0 {a : UInt64} (h : fx_n a) (hm : fx_m a) (he : sp_eq a 0) : a = 0 := fx_inj (by rw [fx_k0]; exact (fx_eq0 h).mp he) hm (by unfold fx_m; decide)
set_option maxHeartbeats 4000000 in
set_option maxRecDepth 100000 in
theorem mm_isNaN (l : Launch) (D : va_G) (kd ki kz kl : ClassId) (z : Nat) (x : UInt64) (hn : fx_n x) : my_RO l D kd ki kz kl z yJxe99ae_isNaN_b9ae7 wsJxe99ae_isNaN_b9ae7 ({ frames := 0, cells := 0, slots := 0, locals := 0 }) [.double x] [] (some (.int 0)) := by
  refine my_RO_of (cc := cJxe99ae_isNaN_b9ae7) (maxL := 2) (ret := (some .boolean)) (by decide) rfl (Nat.le_of_ble_eq_true rfl) ?_
  intro p e s m below meth c S hr hlocks hC hP ls hl
  have S : CallFix p m c cJxe99ae_isNaN_b9ae7 2 s ([.double x] : List Value).toArray wsJxe99ae_isNaN_b9ae7 RJxe99ae := S
  obtain ⟨hx, hb, hml, hown, hts⟩ := id S
  have hl : lv_has ls 2 [(0, .double x)] := hl
  refine lv_dload_n hx hb dJxe99ae_isNaN_b9ae7_0 rfl (lv_at hl 0 rfl) ?_
  refine lv_dload_n hx hb dJxe99ae_isNaN_b9ae7_1 rfl (lv_at hl 0 rfl) ?_
  refine lv_dcmp hx hb dJxe99ae_isNaN_b9ae7_2 ?_
  refine lv_if_eq (tgt := 10) hx hb dJxe99ae_isNaN_b9ae7_3 (by decide) (fun c_3 => ?_) (fun c_3 => ?_)
  · have c_3 := cv_l_eq_t c_3
    refine lv_iconst (v := 0) hx hb dJxe99ae_isNaN_b9ae7_10 (by decide) ?_
    exact my_zretR hx hb hr hlocks (rfl) (rfl) dJxe99ae_isNaN_b9ae7_11
  · have c_3 := cv_l_eq_f c_3
    exact absurd (fx_refl hn) c_3

set_option maxHeartbeats 4000000 in
set_option maxRecDepth 100000 in
theorem mm_d2lb (l : Launch) (D : va_G) (kd ki kz kl : ClassId) (z : Nat) (x : UInt64) (hn : fx_n x) : my_RO l D kd ki kz kl z yJxe99ae_doubleToLongBits_ccdee wsJxe99ae_doubleToLongBits_ccdee ({ frames := 1, cells := 0, slots := 0, locals := 23 }) [.double x] [] (some (.long (UInt64.toInt64 x))) := by
  refine my_RO_of (cc := cJxe99ae_doubleToLongBits_ccdee) (maxL := 2) (ret := (some .long)) (by decide) rfl (Nat.le_of_ble_eq_true rfl) ?_
  intro p e s m below meth c S hr hlocks hC hP ls hl
  have S : CallFix p m c cJxe99ae_doubleToLongBits_ccdee 2 s ([.double x] : List Value).toArray wsJxe99ae_doubleToLongBits_ccdee RJxe99ae := S
  obtain ⟨hx, hb, hml, hown, hts⟩ := id S
  have hl : lv_has ls 2 [(0, .double x)] := hl
  refine lv_dload_n hx hb dJxe99ae_doubleToLongBits_ccdee_0 rfl (lv_at hl 0 rfl) ?_
  refine my_goR (v := (some (.int 0))) (my_runS (bytes := cJxe99ae_isNaN_b9ae7) (maxL := 2) (ret := (some .boolean)) (n := 1) (As := [.double x]) (rest := []) S hl.1 (mm_isNaN l D kd ki kz kl z x (hn)) rfl ⟨rfl, rfl⟩ gJxe99ae_doubleToLongBits_ccdee_Jxe99ae_isNaN_b9ae7 (by decide +kernel) rfl ⟨Nat.le_of_ble_eq_true rfl, Nat.le_of_ble_eq_true rfl⟩ (my_preR hC (my_P_sub (wc := []) hP [] rfl)) rfl rfl dJxe99ae_doubleToLongBits_ccdee_1) ?_
  refine W.eq (g2 := F0 m 4 ls [.int 0]) rfl ?_
  refine lv_if_ne (tgt := 12) hx hb dJxe99ae_doubleToLongBits_ccdee_4 (by decide) (fun c_4 => ?_) (fun c_4 => ?_)
  · skip
    first | exact absurd c_4 (by decide) | exact absurd (by decide) c_4
  · skip
    refine lv_dload_n hx hb dJxe99ae_doubleToLongBits_ccdee_7 rfl (lv_at hl 0 rfl) ?_
    refine vn_d2l hx hb (hml.trans hl.1.symm) hown (hts (.methodLink RJxe99ae 134 ⟨"java/lang/Double", "doubleToRawLongBits", "(D)J"⟩) (List.mem_of_getElem? (l := wsJxe99ae_doubleToLongBits_ccdee) (i := 1) rfl)) (hts (.native ⟨"java/lang/Double", "doubleToRawLongBits", "(D)J"⟩) (List.mem_of_getElem? (l := wsJxe99ae_doubleToLongBits_ccdee) (i := 2) rfl)) (hts (.static ⟨"java/lang/Double", "doubleToRawLongBits", "(D)J"⟩) (List.mem_of_getElem? (l := wsJxe99ae_doubleToLongBits_ccdee) (i := 3) rfl)) (hts (.initialized "java/lang/Double") (List.mem_of_getElem? (l := wsJxe99ae_doubleToLongBits_ccdee) (i := 4) rfl)) (by decide) (by decide) dJxe99ae_doubleToLongBits_ccdee_8 ?_
    exact my_lretR hx hb hr hlocks (rfl) dJxe99ae_doubleToLongBits_ccdee_11

set_option maxHeartbeats 4000000 in
set_option maxRecDepth 100000 in
theorem mm_isIn (l : Launch) (D : va_G) (kd ki kz kl : ClassId) (z : Nat) (x : UInt64) (lo : UInt64) (hi : UInt64) : my_RO l D kd ki kz kl z yX7_isIn wsX7_isIn ({ frames := 0, cells := 0, slots := 0, locals := 0 }) [.double x, .double lo, .double hi] [] (some (.int (if sp_ge x lo ∧ sp_le x hi then 1 else 0))) := by
  refine my_RO_of (cc := cX7_isIn) (maxL := 6) (ret := (some .boolean)) (by decide) rfl (Nat.le_of_ble_eq_true rfl) ?_
  intro p e s m below meth c S hr hlocks hC hP ls hl
  have S : CallFix p m c cX7_isIn 6 s ([.double x, .double lo, .double hi] : List Value).toArray wsX7_isIn RX7 := S
  obtain ⟨hx, hb, hml, hown, hts⟩ := id S
  have hl : lv_has ls 6 [(0, .double x), (2, .double lo), (4, .double hi)] := hl
  refine lv_dload_n hx hb dX7_isIn_0 rfl (lv_at hl 0 rfl) ?_
  refine lv_dload_n hx hb dX7_isIn_1 rfl (lv_at hl 1 rfl) ?_
  refine lv_dcmp hx hb dX7_isIn_2 ?_
  refine lv_if_lt (tgt := 17) hx hb dX7_isIn_3 (by decide) (fun c_3 => ?_) (fun c_3 => ?_)
  · have c_3 := cv_l_lt_t c_3
    refine lv_iconst (v := 0) hx hb dX7_isIn_17 (by decide) ?_
    exact my_zretR hx hb hr hlocks ((if_neg (fun h9 => c_3 h9.1)).symm) (rfl) dX7_isIn_18
  · have c_3 := cv_l_lt_f c_3
    refine lv_dload_n hx hb dX7_isIn_6 rfl (lv_at hl 0 rfl) ?_
    refine lv_dload hx hb dX7_isIn_7 (lv_at hl 2 rfl) ?_
    refine lv_dcmp hx hb dX7_isIn_9 ?_
    refine lv_if_gt (tgt := 17) hx hb dX7_isIn_10 (by decide) (fun c_10 => ?_) (fun c_10 => ?_)
    · have c_10 := cv_g_gt_t c_10
      refine lv_iconst (v := 0) hx hb dX7_isIn_17 (by decide) ?_
      exact my_zretR hx hb hr hlocks ((if_neg (fun h9 => c_10 h9.2)).symm) (rfl) dX7_isIn_18
    · have c_10 := cv_g_gt_f c_10
      refine lv_iconst (v := 1) hx hb dX7_isIn_13 (by decide) ?_
      refine lv_goto (tgt := 18) hx hb dX7_isIn_14 (by decide) ?_
      exact my_zretR hx hb hr hlocks ((if_pos ⟨c_3, c_10⟩).symm) (rfl) dX7_isIn_18

set_option maxHeartbeats 4000000 in
set_option maxRecDepth 100000 in
theorem mm_plain (l : Launch) (D : va_G) (kd ki kz kl : ClassId) (z : Nat) (x : UInt64) : my_RO l D kd ki kz kl z yX7_plain wsX7_plain ({ frames := 0, cells := 0, slots := 0, locals := 0 }) [.double x] [] (some (.double (s_st x))) := by
  refine my_RO_of (cc := cX7_plain) (maxL := 2) (ret := (some .double)) (by decide) rfl (Nat.le_of_ble_eq_true rfl) ?_
  intro p e s m below meth c S hr hlocks hC hP ls hl
  have S : CallFix p m c cX7_plain 2 s ([.double x] : List Value).toArray wsX7_plain RX7 := S
  obtain ⟨hx, hb, hml, hown, hts⟩ := id S
  have hl : lv_has ls 2 [(0, .double x)] := hl
  refine lv_dload_n hx hb dX7_plain_0 rfl (lv_at hl 0 rfl) ?_
  refine lv_ldc2d hx hb hown (hts (.constantDouble RX7 52 (13740701229962882445)) (List.mem_of_getElem? (l := wsX7_plain) (i := 1) rfl)) dX7_plain_1 ?_
  refine lv_dcmp hx hb dX7_plain_4 ?_
  refine lv_if_le (tgt := 20) hx hb dX7_plain_5 (by decide) (fun c_5 => ?_) (fun c_5 => ?_)
  · have c_5 := cv_l_le_t c_5
    refine lv_dload_n hx hb dX7_plain_20 rfl (lv_at hl 0 rfl) ?_
    exact my_dretR hx hb hr hlocks ((if_neg (fun h9 => c_5 h9.1)).symm) dX7_plain_21
  · have c_5 := cv_l_le_f c_5
    refine lv_dload_n hx hb dX7_plain_8 rfl (lv_at hl 0 rfl) ?_
    refine lv_ldc2d hx hb hown (hts (.constantDouble RX7 54 (4517329193108106637)) (List.mem_of_getElem? (l := wsX7_plain) (i := 2) rfl)) dX7_plain_9 ?_
    refine lv_dcmp hx hb dX7_plain_12 ?_
    refine lv_if_ge (tgt := 20) hx hb dX7_plain_13 (by decide) (fun c_13 => ?_) (fun c_13 => ?_)
    · have c_13 := cv_g_ge_t c_13
      refine lv_dload_n hx hb dX7_plain_20 rfl (lv_at hl 0 rfl) ?_
      exact my_dretR hx hb hr hlocks ((if_neg (fun h9 => c_13 h9.2)).symm) dX7_plain_21
    · have c_13 := cv_g_ge_f c_13
      refine lv_dconst0 hx hb dX7_plain_16 ?_
      refine my_topd (w := 0) (by decide) ?_
      refine lv_goto (tgt := 21) hx hb dX7_plain_17 (by decide) ?_
      exact my_dretR hx hb hr hlocks ((if_pos ⟨c_5, c_13⟩).symm) dX7_plain_21

theorem iw_X7_fail_X7 : ∀ w ∈ wsX70, w ∈ wsX7_fail := fun w h => List.mem_cons_of_mem _ (List.mem_append_right _ (h))
set_option maxHeartbeats 4000000 in
set_option maxRecDepth 100000 in
theorem mm_fail (l : Launch) (D : va_G) (kd ki kz kl : ClassId) (z : Nat) (am : Nat → Nat) (th : Int32) (n : Nat) (kn : Nat) (cd : Int32) : my_WR l D kd ki kz kl z yX7_fail wsX7_fail ({ frames := 0, cells := 0, slots := 0, locals := 0 }) [.ref (am 0), .int cd] [(am 0, .inr (7, [.int th, .int (nI n), .ref (am 1), .ref (am 2), .ref (am 3), .int (nI kn), .ref (am 4), .ref (am 5), .ref (am 6), .ref (am 7), .ref (am 8), .ref (am 9), .ref (am 10), .ref (am 11), .ref (am 12)]))] [(am 0, .inr (7, [.int cd, .int (nI n), .ref (am 1), .ref (am 2), .ref (am 3), .int (nI kn), .ref (am 4), .ref (am 5), .ref (am 6), .ref (am 7), .ref (am 8), .ref (am 9), .ref (am 10), .ref (am 11), .ref (am 12)]))] (some (.int 0)) := by
  refine my_WR_of (cc := cX7_fail) (maxL := 2) (ret := (some .int)) (by decide) rfl (Nat.le_of_ble_eq_true rfl) ?_
  intro p e s m below meth c S hr hlocks hC hP hD hz hS ls hl
  have S : CallFix p m c cX7_fail 2 s ([.ref (am 0), .int cd] : List Value).toArray wsX7_fail RX7 := S
  obtain ⟨hx, hb, hml, hown, hts⟩ := id S
  have hl : lv_has ls 2 [(0, .ref (am 0)), (1, .int cd)] := hl
  suffices K0 : ∀ (H : Heap) (locs : List Loc), va_P D vwCl [(am 0, .inr (7, [.int th, .int (nI n), .ref (am 1), .ref (am 2), .ref (am 3), .int (nI kn), .ref (am 4), .ref (am 5), .ref (am 6), .ref (am 7), .ref (am 8), .ref (am 9), .ref (am 10), .ref (am 11), .ref (am 12)]))] H → va_D (my_A [(am 0, .inr (7, [.int th, .int (nI n), .ref (am 1), .ref (am 2), .ref (am 3), .int (nI kn), .ref (am 4), .ref (am 5), .ref (am 6), .ref (am 7), .ref (am 8), .ref (am 9), .ref (am 10), .ref (am 11), .ref (am 12)]))]) [(am 0, .inr (7, [.int th, .int (nI n), .ref (am 1), .ref (am 2), .ref (am 3), .int (nI kn), .ref (am 4), .ref (am 5), .ref (am 6), .ref (am 7), .ref (am 8), .ref (am 9), .ref (am 10), .ref (am 11), .ref (am 12)]))] → va_S (my_A [(am 0, .inr (7, [.int th, .int (nI n), .ref (am 1), .ref (am 2), .ref (am 3), .int (nI kn), .ref (am 4), .ref (am 5), .ref (am 6), .ref (am 7), .ref (am 8), .ref (am 9), .ref (am 10), .ref (am 11), .ref (am 12)]))]) s.heap H locs → W p l e ({ frames := 0, cells := 0, slots := 0, locals := 0 }) s m ([.ref (am 0), .int cd] : List Value).toArray below meth c H locs 0 0 (my_WQ below D ([.ref (am 0), .int cd] : List Value).toArray s [(am 0, .inr (7, [.int th, .int (nI n), .ref (am 1), .ref (am 2), .ref (am 3), .int (nI kn), .ref (am 4), .ref (am 5), .ref (am 6), .ref (am 7), .ref (am 8), .ref (am 9), .ref (am 10), .ref (am 11), .ref (am 12)]))] [(am 0, .inr (7, [.int cd, .int (nI n), .ref (am 1), .ref (am 2), .ref (am 3), .int (nI kn), .ref (am 4), .ref (am 5), .ref (am 6), .ref (am 7), .ref (am 8), .ref (am 9), .ref (am 10), .ref (am 11), .ref (am 12)]))] (some (.int 0))) (F0 m 0 ls []) from K0 _ _ hP hD hS
  intro H locs hP hD hS
  refine lv_aload_n hx hb dX7_fail_0 rfl (lv_at hl 0 rfl) ?_
  refine lv_iload_n hx hb dX7_fail_1 rfl (lv_at hl 1 rfl) ?_
  refine va_put (D := D) (ci := 7) (v := .int cd) (ty := .int) (C := RX7) (T := TX7) (N := 15) hx hb hts iw_X7_fail_X7 tyX7 tyX7_ok nmX7 hown hC.1 hP hD hS 0 rfl rfl 0 (by decide) (hts (.fieldLink RX7 48 "MonotoneSplineModel" "thrown" "I") (List.mem_of_getElem? (l := wsX7_fail) (i := 1) rfl)) (fun _ h9 => h9) rfl (by decide +kernel) rfl rfl (Nat.le_of_ble_eq_true rfl) dX7_fail_2 (fun H locs hP hD hS => ?_)
  have hP : va_P D vwCl [(am 0, .inr (7, [.int cd, .int (nI n), .ref (am 1), .ref (am 2), .ref (am 3), .int (nI kn), .ref (am 4), .ref (am 5), .ref (am 6), .ref (am 7), .ref (am 8), .ref (am 9), .ref (am 10), .ref (am 11), .ref (am 12)]))] H := hP
  have hD : va_D (my_A [(am 0, .inr (7, [.int th, .int (nI n), .ref (am 1), .ref (am 2), .ref (am 3), .int (nI kn), .ref (am 4), .ref (am 5), .ref (am 6), .ref (am 7), .ref (am 8), .ref (am 9), .ref (am 10), .ref (am 11), .ref (am 12)]))]) [(am 0, .inr (7, [.int cd, .int (nI n), .ref (am 1), .ref (am 2), .ref (am 3), .int (nI kn), .ref (am 4), .ref (am 5), .ref (am 6), .ref (am 7), .ref (am 8), .ref (am 9), .ref (am 10), .ref (am 11), .ref (am 12)]))] := hD
  refine lv_iconst (v := 0) hx hb dX7_fail_5 (by decide) ?_
  exact my_iretW hx hb hr hlocks hP (rfl) hS (rfl) dX7_fail_6

theorem iw_X7_isKnot_X7 : ∀ w ∈ wsX70, w ∈ wsX7_isKnot := fun w h => List.mem_cons_of_mem _ (List.mem_append_right _ (h))
set_option maxHeartbeats 4000000 in
set_option maxRecDepth 100000 in
theorem mm_isKnot (l : Launch) (D : va_G) (kd ki kz kl : ClassId) (z : Nat) (am : Nat → Nat) (th : Int32) (n : Nat) (kn : Nat) (k : Nat) (hk : k < kn) (hn : kn ≤ 60) : my_RO l D kd ki kz kl z yX7_isKnot wsX7_isKnot ({ frames := 0, cells := 0, slots := 0, locals := 0 }) [.ref (am 0), .int (nI k)] [(am 0, .inr (7, [.int th, .int (nI n), .ref (am 1), .ref (am 2), .ref (am 3), .int (nI kn), .ref (am 4), .ref (am 5), .ref (am 6), .ref (am 7), .ref (am 8), .ref (am 9), .ref (am 10), .ref (am 11), .ref (am 12)]))] (some (.int 1)) := by
  refine my_RO_of (cc := cX7_isKnot) (maxL := 2) (ret := (some .boolean)) (by decide) rfl (Nat.le_of_ble_eq_true rfl) ?_
  intro p e s m below meth c S hr hlocks hC hP ls hl
  have S : CallFix p m c cX7_isKnot 2 s ([.ref (am 0), .int (nI k)] : List Value).toArray wsX7_isKnot RX7 := S
  obtain ⟨hx, hb, hml, hown, hts⟩ := id S
  have hl : lv_has ls 2 [(0, .ref (am 0)), (1, .int (nI k))] := hl
  refine lv_iload_n hx hb dX7_isKnot_0 rfl (lv_at hl 1 rfl) ?_
  refine lv_if_lt (tgt := 16) hx hb dX7_isKnot_1 (by decide) (fun c_1 => ?_) (fun c_1 => ?_)
  · have c_1 : k < 0 := (nI_ltI (a := k) (b := 0) (by omega) (by omega)).mp c_1
    exact absurd c_1 (Nat.not_lt_zero _)
  · have c_1 : ¬ k < 0 := fun h9 => c_1 ((nI_ltI (a := k) (b := 0) (by omega) (by omega)).mpr h9)
    refine lv_iload_n hx hb dX7_isKnot_4 rfl (lv_at hl 1 rfl) ?_
    refine lv_aload_n hx hb dX7_isKnot_5 rfl (lv_at hl 0 rfl) ?_
    refine va_get (D := D) (ci := 7) (v := .int (nI kn)) (C := RX7) (T := TX7) (N := 15) hx hb hts iw_X7_isKnot_X7 hown hC.1 hP 0 rfl rfl 5 (by decide) (hts (.fieldLink RX7 56 "MonotoneSplineModel" "knots" "I") (List.mem_of_getElem? (l := wsX7_isKnot) (i := 1) rfl)) (fun _ h9 => h9) rfl dX7_isKnot_6 ?_
    refine lv_icmp_ge (tgt := 16) hx hb dX7_isKnot_9 (by decide) (fun c_9 => ?_) (fun c_9 => ?_)
    · have c_9 : kn ≤ k := (nI_leI (a := kn) (b := k) (by omega) (by omega)).mp c_9
      exact absurd hk (by omega)
    · have c_9 : ¬ kn ≤ k := fun h9 => c_9 ((nI_leI (a := kn) (b := k) (by omega) (by omega)).mpr h9)
      refine lv_iconst (v := 1) hx hb dX7_isKnot_12 (by decide) ?_
      refine lv_goto (tgt := 17) hx hb dX7_isKnot_13 (by decide) ?_
      exact my_zretR hx hb hr hlocks (rfl) (rfl) dX7_isKnot_17

theorem iw_X7_thrown_X7 : ∀ w ∈ wsX70, w ∈ wsX7_thrown := fun w h => List.mem_cons_of_mem _ (List.mem_append_right _ (h))
set_option maxHeartbeats 4000000 in
set_option maxRecDepth 100000 in
theorem mm_thrown (l : Launch) (D : va_G) (kd ki kz kl : ClassId) (z : Nat) (am : Nat → Nat) (th : Int32) (n : Nat) (kn : Nat) : my_RO l D kd ki kz kl z yX7_thrown wsX7_thrown ({ frames := 0, cells := 0, slots := 0, locals := 0 }) [.ref (am 0)] [(am 0, .inr (7, [.int th, .int (nI n), .ref (am 1), .ref (am 2), .ref (am 3), .int (nI kn), .ref (am 4), .ref (am 5), .ref (am 6), .ref (am 7), .ref (am 8), .ref (am 9), .ref (am 10), .ref (am 11), .ref (am 12)]))] (some (.int th)) := by
  refine my_RO_of (cc := cX7_thrown) (maxL := 1) (ret := (some .int)) (by decide) rfl (Nat.le_of_ble_eq_true rfl) ?_
  intro p e s m below meth c S hr hlocks hC hP ls hl
  have S : CallFix p m c cX7_thrown 1 s ([.ref (am 0)] : List Value).toArray wsX7_thrown RX7 := S
  obtain ⟨hx, hb, hml, hown, hts⟩ := id S
  have hl : lv_has ls 1 [(0, .ref (am 0))] := hl
  refine lv_aload_n hx hb dX7_thrown_0 rfl (lv_at hl 0 rfl) ?_
  refine va_get (D := D) (ci := 7) (v := .int th) (C := RX7) (T := TX7) (N := 15) hx hb hts iw_X7_thrown_X7 hown hC.1 hP 0 rfl rfl 0 (by decide) (hts (.fieldLink RX7 48 "MonotoneSplineModel" "thrown" "I") (List.mem_of_getElem? (l := wsX7_thrown) (i := 1) rfl)) (fun _ h9 => h9) rfl dX7_thrown_1 ?_
  exact my_iretR hx hb hr hlocks (rfl) dX7_thrown_4

theorem iw_X7_movePoint_X7 : ∀ w ∈ wsX70, w ∈ wsX7_movePoint := fun w h => List.mem_cons_of_mem _ (List.mem_append_right _ (h))
set_option maxHeartbeats 4000000 in
set_option maxRecDepth 100000 in
theorem mm_movePoint (l : Launch) (D : va_G) (kd ki kz kl : ClassId) (z : Nat) (am : Nat → Nat) (th : Int32) (n : Nat) (kn : Nat) (X : Nat → UInt64) (Y : Nat → UInt64) (Wt : Nat → UInt64) (i : Nat) (j : Nat) (hi : i < 40) (hj : j < 40) : my_WR l D kd ki kz kl z yX7_movePoint wsX7_movePoint ({ frames := 0, cells := 0, slots := 0, locals := 0 }) [.ref (am 0), .int (nI i), .int (nI j)] [(am 0, .inr (7, [.int th, .int (nI n), .ref (am 1), .ref (am 2), .ref (am 3), .int (nI kn), .ref (am 4), .ref (am 5), .ref (am 6), .ref (am 7), .ref (am 8), .ref (am 9), .ref (am 10), .ref (am 11), .ref (am 12)])), (am 1, .inl (kd, 40, .inr (.inr (.inr (.inl X))))), (am 2, .inl (kd, 40, .inr (.inr (.inr (.inl Y))))), (am 3, .inl (kd, 40, .inr (.inr (.inr (.inl Wt)))))] [(am 0, .inr (7, [.int th, .int (nI n), .ref (am 1), .ref (am 2), .ref (am 3), .int (nI kn), .ref (am 4), .ref (am 5), .ref (am 6), .ref (am 7), .ref (am 8), .ref (am 9), .ref (am 10), .ref (am 11), .ref (am 12)])), (am 1, .inl (kd, 40, .inr (.inr (.inr (.inl (vf_upd X j (X i))))))), (am 2, .inl (kd, 40, .inr (.inr (.inr (.inl (vf_upd Y j (Y i))))))), (am 3, .inl (kd, 40, .inr (.inr (.inr (.inl (vf_upd Wt j (Wt i)))))))] none := by
  refine my_WR_of (cc := cX7_movePoint) (maxL := 3) (ret := none) (by decide) rfl (Nat.le_of_ble_eq_true rfl) ?_
  intro p e s m below meth c S hr hlocks hC hP hD hz hS ls hl
  have S : CallFix p m c cX7_movePoint 3 s ([.ref (am 0), .int (nI i), .int (nI j)] : List Value).toArray wsX7_movePoint RX7 := S
  obtain ⟨hx, hb, hml, hown, hts⟩ := id S
  have hl : lv_has ls 3 [(0, .ref (am 0)), (1, .int (nI i)), (2, .int (nI j))] := hl
  suffices K0 : ∀ (H : Heap) (locs : List Loc), va_P D vwCl [(am 0, .inr (7, [.int th, .int (nI n), .ref (am 1), .ref (am 2), .ref (am 3), .int (nI kn), .ref (am 4), .ref (am 5), .ref (am 6), .ref (am 7), .ref (am 8), .ref (am 9), .ref (am 10), .ref (am 11), .ref (am 12)])), (am 1, .inl (kd, 40, .inr (.inr (.inr (.inl X))))), (am 2, .inl (kd, 40, .inr (.inr (.inr (.inl Y))))), (am 3, .inl (kd, 40, .inr (.inr (.inr (.inl Wt)))))] H → va_D (my_A [(am 0, .inr (7, [.int th, .int (nI n), .ref (am 1), .ref (am 2), .ref (am 3), .int (nI kn), .ref (am 4), .ref (am 5), .ref (am 6), .ref (am 7), .ref (am 8), .ref (am 9), .ref (am 10), .ref (am 11), .ref (am 12)])), (am 1, .inl (kd, 40, .inr (.inr (.inr (.inl X))))), (am 2, .inl (kd, 40, .inr (.inr (.inr (.inl Y))))), (am 3, .inl (kd, 40, .inr (.inr (.inr (.inl Wt)))))]) [(am 0, .inr (7, [.int th, .int (nI n), .ref (am 1), .ref (am 2), .ref (am 3), .int (nI kn), .ref (am 4), .ref (am 5), .ref (am 6), .ref (am 7), .ref (am 8), .ref (am 9), .ref (am 10), .ref (am 11), .ref (am 12)])), (am 1, .inl (kd, 40, .inr (.inr (.inr (.inl X))))), (am 2, .inl (kd, 40, .inr (.inr (.inr (.inl Y))))), (am 3, .inl (kd, 40, .inr (.inr (.inr (.inl Wt)))))] → va_S (my_A [(am 0, .inr (7, [.int th, .int (nI n), .ref (am 1), .ref (am 2), .ref (am 3), .int (nI kn), .ref (am 4), .ref (am 5), .ref (am 6), .ref (am 7), .ref (am 8), .ref (am 9), .ref (am 10), .ref (am 11), .ref (am 12)])), (am 1, .inl (kd, 40, .inr (.inr (.inr (.inl X))))), (am 2, .inl (kd, 40, .inr (.inr (.inr (.inl Y))))), (am 3, .inl (kd, 40, .inr (.inr (.inr (.inl Wt)))))]) s.heap H locs → W p l e ({ frames := 0, cells := 0, slots := 0, locals := 0 }) s m ([.ref (am 0), .int (nI i), .int (nI j)] : List Value).toArray below meth c H locs 0 0 (my_WQ below D ([.ref (am 0), .int (nI i), .int (nI j)] : List Value).toArray s [(am 0, .inr (7, [.int th, .int (nI n), .ref (am 1), .ref (am 2), .ref (am 3), .int (nI kn), .ref (am 4), .ref (am 5), .ref (am 6), .ref (am 7), .ref (am 8), .ref (am 9), .ref (am 10), .ref (am 11), .ref (am 12)])), (am 1, .inl (kd, 40, .inr (.inr (.inr (.inl X))))), (am 2, .inl (kd, 40, .inr (.inr (.inr (.inl Y))))), (am 3, .inl (kd, 40, .inr (.inr (.inr (.inl Wt)))))] [(am 0, .inr (7, [.int th, .int (nI n), .ref (am 1), .ref (am 2), .ref (am 3), .int (nI kn), .ref (am 4), .ref (am 5), .ref (am 6), .ref (am 7), .ref (am 8), .ref (am 9), .ref (am 10), .ref (am 11), .ref (am 12)])), (am 1, .inl (kd, 40, .inr (.inr (.inr (.inl (vf_upd X j (X i))))))), (am 2, .inl (kd, 40, .inr (.inr (.inr (.inl (vf_upd Y j (Y i))))))), (am 3, .inl (kd, 40, .inr (.inr (.inr (.inl (vf_upd Wt j (Wt i)))))))] none) (F0 m 0 ls []) from K0 _ _ hP hD hS
  intro H locs hP hD hS
  refine lv_aload_n hx hb dX7_movePoint_0 rfl (lv_at hl 0 rfl) ?_
  refine va_get (D := D) (ci := 7) (v := .ref (am 1)) (C := RX7) (T := TX7) (N := 15) hx hb hts iw_X7_movePoint_X7 hown hC.1 hP 0 rfl rfl 2 (by decide) (hts (.fieldLink RX7 9 "MonotoneSplineModel" "xs" "[D") (List.mem_of_getElem? (l := wsX7_movePoint) (i := 1) rfl)) (fun _ h9 => h9) rfl dX7_movePoint_1 ?_
  refine lv_iload_n hx hb dX7_movePoint_4 rfl (lv_at hl 2 rfl) ?_
  refine lv_aload_n hx hb dX7_movePoint_5 rfl (lv_at hl 0 rfl) ?_
  refine va_get (D := D) (ci := 7) (v := .ref (am 1)) (C := RX7) (T := TX7) (N := 15) hx hb hts iw_X7_movePoint_X7 hown hC.1 hP 0 rfl rfl 2 (by decide) (hts (.fieldLink RX7 9 "MonotoneSplineModel" "xs" "[D") (List.mem_of_getElem? (l := wsX7_movePoint) (i := 1) rfl)) (fun _ h9 => h9) rfl dX7_movePoint_6 ?_
  refine lv_iload_n hx hb dX7_movePoint_9 rfl (lv_at hl 1 rfl) ?_
  refine my_dald (k := i) (n := 40) (f := X) hx hb hC hP 1 rfl (by omega) (by omega) dX7_movePoint_10 ?_
  refine my_dast (k := j) (n := 40) (f := X) (wx' := [(am 0, .inr (7, [.int th, .int (nI n), .ref (am 1), .ref (am 2), .ref (am 3), .int (nI kn), .ref (am 4), .ref (am 5), .ref (am 6), .ref (am 7), .ref (am 8), .ref (am 9), .ref (am 10), .ref (am 11), .ref (am 12)])), (am 1, .inl (kd, 40, .inr (.inr (.inr (.inl (vf_upd X j (X i))))))), (am 2, .inl (kd, 40, .inr (.inr (.inr (.inl Y))))), (am 3, .inl (kd, 40, .inr (.inr (.inr (.inl Wt)))))]) hx hb hC hP hD hS 1 rfl (by omega) (by omega) rfl dX7_movePoint_11 (fun H locs hP hD hS => ?_)
  refine lv_aload_n hx hb dX7_movePoint_12 rfl (lv_at hl 0 rfl) ?_
  refine va_get (D := D) (ci := 7) (v := .ref (am 2)) (C := RX7) (T := TX7) (N := 15) hx hb hts iw_X7_movePoint_X7 hown hC.1 hP 0 rfl rfl 3 (by decide) (hts (.fieldLink RX7 13 "MonotoneSplineModel" "ys" "[D") (List.mem_of_getElem? (l := wsX7_movePoint) (i := 2) rfl)) (fun _ h9 => h9) rfl dX7_movePoint_13 ?_
  refine lv_iload_n hx hb dX7_movePoint_16 rfl (lv_at hl 2 rfl) ?_
  refine lv_aload_n hx hb dX7_movePoint_17 rfl (lv_at hl 0 rfl) ?_
  refine va_get (D := D) (ci := 7) (v := .ref (am 2)) (C := RX7) (T := TX7) (N := 15) hx hb hts iw_X7_movePoint_X7 hown hC.1 hP 0 rfl rfl 3 (by decide) (hts (.fieldLink RX7 13 "MonotoneSplineModel" "ys" "[D") (List.mem_of_getElem? (l := wsX7_movePoint) (i := 2) rfl)) (fun _ h9 => h9) rfl dX7_movePoint_18 ?_
  refine lv_iload_n hx hb dX7_movePoint_21 rfl (lv_at hl 1 rfl) ?_
  refine my_dald (k := i) (n := 40) (f := Y) hx hb hC hP 2 rfl (by omega) (by omega) dX7_movePoint_22 ?_
  refine my_dast (k := j) (n := 40) (f := Y) (wx' := [(am 0, .inr (7, [.int th, .int (nI n), .ref (am 1), .ref (am 2), .ref (am 3), .int (nI kn), .ref (am 4), .ref (am 5), .ref (am 6), .ref (am 7), .ref (am 8), .ref (am 9), .ref (am 10), .ref (am 11), .ref (am 12)])), (am 1, .inl (kd, 40, .inr (.inr (.inr (.inl (vf_upd X j (X i))))))), (am 2, .inl (kd, 40, .inr (.inr (.inr (.inl (vf_upd Y j (Y i))))))), (am 3, .inl (kd, 40, .inr (.inr (.inr (.inl Wt)))))]) hx hb hC hP hD hS 2 rfl (by omega) (by omega) rfl dX7_movePoint_23 (fun H locs hP hD hS => ?_)
  refine lv_aload_n hx hb dX7_movePoint_24 rfl (lv_at hl 0 rfl) ?_
  refine va_get (D := D) (ci := 7) (v := .ref (am 3)) (C := RX7) (T := TX7) (N := 15) hx hb hts iw_X7_movePoint_X7 hown hC.1 hP 0 rfl rfl 4 (by decide) (hts (.fieldLink RX7 16 "MonotoneSplineModel" "weights" "[D") (List.mem_of_getElem? (l := wsX7_movePoint) (i := 3) rfl)) (fun _ h9 => h9) rfl dX7_movePoint_25 ?_
  refine lv_iload_n hx hb dX7_movePoint_28 rfl (lv_at hl 2 rfl) ?_
  refine lv_aload_n hx hb dX7_movePoint_29 rfl (lv_at hl 0 rfl) ?_
  refine va_get (D := D) (ci := 7) (v := .ref (am 3)) (C := RX7) (T := TX7) (N := 15) hx hb hts iw_X7_movePoint_X7 hown hC.1 hP 0 rfl rfl 4 (by decide) (hts (.fieldLink RX7 16 "MonotoneSplineModel" "weights" "[D") (List.mem_of_getElem? (l := wsX7_movePoint) (i := 3) rfl)) (fun _ h9 => h9) rfl dX7_movePoint_30 ?_
  refine lv_iload_n hx hb dX7_movePoint_33 rfl (lv_at hl 1 rfl) ?_
  refine my_dald (k := i) (n := 40) (f := Wt) hx hb hC hP 3 rfl (by omega) (by omega) dX7_movePoint_34 ?_
  refine my_dast (k := j) (n := 40) (f := Wt) (wx' := [(am 0, .inr (7, [.int th, .int (nI n), .ref (am 1), .ref (am 2), .ref (am 3), .int (nI kn), .ref (am 4), .ref (am 5), .ref (am 6), .ref (am 7), .ref (am 8), .ref (am 9), .ref (am 10), .ref (am 11), .ref (am 12)])), (am 1, .inl (kd, 40, .inr (.inr (.inr (.inl (vf_upd X j (X i))))))), (am 2, .inl (kd, 40, .inr (.inr (.inr (.inl (vf_upd Y j (Y i))))))), (am 3, .inl (kd, 40, .inr (.inr (.inr (.inl (vf_upd Wt j (Wt i)))))))]) hx hb hC hP hD hS 3 rfl (by omega) (by omega) rfl dX7_movePoint_35 (fun H locs hP hD hS => ?_)
  exact my_vretW hx hb hr hlocks hP (rfl) hS dX7_movePoint_36

theorem iw_X7_moveKnot_X7 : ∀ w ∈ wsX70, w ∈ wsX7_moveKnot := fun w h => List.mem_cons_of_mem _ (List.mem_append_right _ (h))
set_option maxHeartbeats 4000000 in
set_option maxRecDepth 100000 in
theorem mm_moveKnot (l : Launch) (D : va_G) (kd ki kz kl : ClassId) (z : Nat) (am : Nat → Nat) (th : Int32) (n : Nat) (kn : Nat) (P : Nat → UInt64) (V : Nat → UInt64) (AF : Nat → Int32) (FX : Nat → UInt64) (i : Nat) (j : Nat) (hi : i < 60) (hj : j < 60) (hA : AF i = 0 ∨ AF i = 1) : my_WR l D kd ki kz kl z yX7_moveKnot wsX7_moveKnot ({ frames := 0, cells := 0, slots := 0, locals := 0 }) [.ref (am 0), .int (nI i), .int (nI j)] [(am 0, .inr (7, [.int th, .int (nI n), .ref (am 1), .ref (am 2), .ref (am 3), .int (nI kn), .ref (am 4), .ref (am 5), .ref (am 6), .ref (am 7), .ref (am 8), .ref (am 9), .ref (am 10), .ref (am 11), .ref (am 12)])), (am 4, .inl (kd, 60, .inr (.inr (.inr (.inl P))))), (am 5, .inl (kd, 60, .inr (.inr (.inr (.inl V))))), (am 6, .inl (kz, 60, .inl AF)), (am 7, .inl (kd, 60, .inr (.inr (.inr (.inl FX)))))] [(am 0, .inr (7, [.int th, .int (nI n), .ref (am 1), .ref (am 2), .ref (am 3), .int (nI kn), .ref (am 4), .ref (am 5), .ref (am 6), .ref (am 7), .ref (am 8), .ref (am 9), .ref (am 10), .ref (am 11), .ref (am 12)])), (am 4, .inl (kd, 60, .inr (.inr (.inr (.inl (vf_upd P j (P i))))))), (am 5, .inl (kd, 60, .inr (.inr (.inr (.inl (vf_upd V j (V i))))))), (am 6, .inl (kz, 60, .inl (upd AF j (AF i)))), (am 7, .inl (kd, 60, .inr (.inr (.inr (.inl (vf_upd FX j (FX i)))))))] none := by
  refine my_WR_of (cc := cX7_moveKnot) (maxL := 3) (ret := none) (by decide) rfl (Nat.le_of_ble_eq_true rfl) ?_
  intro p e s m below meth c S hr hlocks hC hP hD hz hS ls hl
  have S : CallFix p m c cX7_moveKnot 3 s ([.ref (am 0), .int (nI i), .int (nI j)] : List Value).toArray wsX7_moveKnot RX7 := S
  obtain ⟨hx, hb, hml, hown, hts⟩ := id S
  have hl : lv_has ls 3 [(0, .ref (am 0)), (1, .int (nI i)), (2, .int (nI j))] := hl
  suffices K0 : ∀ (H : Heap) (locs : List Loc), va_P D vwCl [(am 0, .inr (7, [.int th, .int (nI n), .ref (am 1), .ref (am 2), .ref (am 3), .int (nI kn), .ref (am 4), .ref (am 5), .ref (am 6), .ref (am 7), .ref (am 8), .ref (am 9), .ref (am 10), .ref (am 11), .ref (am 12)])), (am 4, .inl (kd, 60, .inr (.inr (.inr (.inl P))))), (am 5, .inl (kd, 60, .inr (.inr (.inr (.inl V))))), (am 6, .inl (kz, 60, .inl AF)), (am 7, .inl (kd, 60, .inr (.inr (.inr (.inl FX)))))] H → va_D (my_A [(am 0, .inr (7, [.int th, .int (nI n), .ref (am 1), .ref (am 2), .ref (am 3), .int (nI kn), .ref (am 4), .ref (am 5), .ref (am 6), .ref (am 7), .ref (am 8), .ref (am 9), .ref (am 10), .ref (am 11), .ref (am 12)])), (am 4, .inl (kd, 60, .inr (.inr (.inr (.inl P))))), (am 5, .inl (kd, 60, .inr (.inr (.inr (.inl V))))), (am 6, .inl (kz, 60, .inl AF)), (am 7, .inl (kd, 60, .inr (.inr (.inr (.inl FX)))))]) [(am 0, .inr (7, [.int th, .int (nI n), .ref (am 1), .ref (am 2), .ref (am 3), .int (nI kn), .ref (am 4), .ref (am 5), .ref (am 6), .ref (am 7), .ref (am 8), .ref (am 9), .ref (am 10), .ref (am 11), .ref (am 12)])), (am 4, .inl (kd, 60, .inr (.inr (.inr (.inl P))))), (am 5, .inl (kd, 60, .inr (.inr (.inr (.inl V))))), (am 6, .inl (kz, 60, .inl AF)), (am 7, .inl (kd, 60, .inr (.inr (.inr (.inl FX)))))] → va_S (my_A [(am 0, .inr (7, [.int th, .int (nI n), .ref (am 1), .ref (am 2), .ref (am 3), .int (nI kn), .ref (am 4), .ref (am 5), .ref (am 6), .ref (am 7), .ref (am 8), .ref (am 9), .ref (am 10), .ref (am 11), .ref (am 12)])), (am 4, .inl (kd, 60, .inr (.inr (.inr (.inl P))))), (am 5, .inl (kd, 60, .inr (.inr (.inr (.inl V))))), (am 6, .inl (kz, 60, .inl AF)), (am 7, .inl (kd, 60, .inr (.inr (.inr (.inl FX)))))]) s.heap H locs → W p l e ({ frames := 0, cells := 0, slots := 0, locals := 0 }) s m ([.ref (am 0), .int (nI i), .int (nI j)] : List Value).toArray below meth c H locs 0 0 (my_WQ below D ([.ref (am 0), .int (nI i), .int (nI j)] : List Value).toArray s [(am 0, .inr (7, [.int th, .int (nI n), .ref (am 1), .ref (am 2), .ref (am 3), .int (nI kn), .ref (am 4), .ref (am 5), .ref (am 6), .ref (am 7), .ref (am 8), .ref (am 9), .ref (am 10), .ref (am 11), .ref (am 12)])), (am 4, .inl (kd, 60, .inr (.inr (.inr (.inl P))))), (am 5, .inl (kd, 60, .inr (.inr (.inr (.inl V))))), (am 6, .inl (kz, 60, .inl AF)), (am 7, .inl (kd, 60, .inr (.inr (.inr (.inl FX)))))] [(am 0, .inr (7, [.int th, .int (nI n), .ref (am 1), .ref (am 2), .ref (am 3), .int (nI kn), .ref (am 4), .ref (am 5), .ref (am 6), .ref (am 7), .ref (am 8), .ref (am 9), .ref (am 10), .ref (am 11), .ref (am 12)])), (am 4, .inl (kd, 60, .inr (.inr (.inr (.inl (vf_upd P j (P i))))))), (am 5, .inl (kd, 60, .inr (.inr (.inr (.inl (vf_upd V j (V i))))))), (am 6, .inl (kz, 60, .inl (upd AF j (AF i)))), (am 7, .inl (kd, 60, .inr (.inr (.inr (.inl (vf_upd FX j (FX i)))))))] none) (F0 m 0 ls []) from K0 _ _ hP hD hS
  intro H locs hP hD hS
  refine lv_aload_n hx hb dX7_moveKnot_0 rfl (lv_at hl 0 rfl) ?_
  refine va_get (D := D) (ci := 7) (v := .ref (am 4)) (C := RX7) (T := TX7) (N := 15) hx hb hts iw_X7_moveKnot_X7 hown hC.1 hP 0 rfl rfl 6 (by decide) (hts (.fieldLink RX7 19 "MonotoneSplineModel" "places" "[D") (List.mem_of_getElem? (l := wsX7_moveKnot) (i := 1) rfl)) (fun _ h9 => h9) rfl dX7_moveKnot_1 ?_
  refine lv_iload_n hx hb dX7_moveKnot_4 rfl (lv_at hl 2 rfl) ?_
  refine lv_aload_n hx hb dX7_moveKnot_5 rfl (lv_at hl 0 rfl) ?_
  refine va_get (D := D) (ci := 7) (v := .ref (am 4)) (C := RX7) (T := TX7) (N := 15) hx hb hts iw_X7_moveKnot_X7 hown hC.1 hP 0 rfl rfl 6 (by decide) (hts (.fieldLink RX7 19 "MonotoneSplineModel" "places" "[D") (List.mem_of_getElem? (l := wsX7_moveKnot) (i := 1) rfl)) (fun _ h9 => h9) rfl dX7_moveKnot_6 ?_
  refine lv_iload_n hx hb dX7_moveKnot_9 rfl (lv_at hl 1 rfl) ?_
  refine my_dald (k := i) (n := 60) (f := P) hx hb hC hP 1 rfl (by omega) (by omega) dX7_moveKnot_10 ?_
  refine my_dast (k := j) (n := 60) (f := P) (wx' := [(am 0, .inr (7, [.int th, .int (nI n), .ref (am 1), .ref (am 2), .ref (am 3), .int (nI kn), .ref (am 4), .ref (am 5), .ref (am 6), .ref (am 7), .ref (am 8), .ref (am 9), .ref (am 10), .ref (am 11), .ref (am 12)])), (am 4, .inl (kd, 60, .inr (.inr (.inr (.inl (vf_upd P j (P i))))))), (am 5, .inl (kd, 60, .inr (.inr (.inr (.inl V))))), (am 6, .inl (kz, 60, .inl AF)), (am 7, .inl (kd, 60, .inr (.inr (.inr (.inl FX)))))]) hx hb hC hP hD hS 1 rfl (by omega) (by omega) rfl dX7_moveKnot_11 (fun H locs hP hD hS => ?_)
  refine lv_aload_n hx hb dX7_moveKnot_12 rfl (lv_at hl 0 rfl) ?_
  refine va_get (D := D) (ci := 7) (v := .ref (am 5)) (C := RX7) (T := TX7) (N := 15) hx hb hts iw_X7_moveKnot_X7 hown hC.1 hP 0 rfl rfl 7 (by decide) (hts (.fieldLink RX7 22 "MonotoneSplineModel" "values" "[D") (List.mem_of_getElem? (l := wsX7_moveKnot) (i := 2) rfl)) (fun _ h9 => h9) rfl dX7_moveKnot_13 ?_
  refine lv_iload_n hx hb dX7_moveKnot_16 rfl (lv_at hl 2 rfl) ?_
  refine lv_aload_n hx hb dX7_moveKnot_17 rfl (lv_at hl 0 rfl) ?_
  refine va_get (D := D) (ci := 7) (v := .ref (am 5)) (C := RX7) (T := TX7) (N := 15) hx hb hts iw_X7_moveKnot_X7 hown hC.1 hP 0 rfl rfl 7 (by decide) (hts (.fieldLink RX7 22 "MonotoneSplineModel" "values" "[D") (List.mem_of_getElem? (l := wsX7_moveKnot) (i := 2) rfl)) (fun _ h9 => h9) rfl dX7_moveKnot_18 ?_
  refine lv_iload_n hx hb dX7_moveKnot_21 rfl (lv_at hl 1 rfl) ?_
  refine my_dald (k := i) (n := 60) (f := V) hx hb hC hP 2 rfl (by omega) (by omega) dX7_moveKnot_22 ?_
  refine my_dast (k := j) (n := 60) (f := V) (wx' := [(am 0, .inr (7, [.int th, .int (nI n), .ref (am 1), .ref (am 2), .ref (am 3), .int (nI kn), .ref (am 4), .ref (am 5), .ref (am 6), .ref (am 7), .ref (am 8), .ref (am 9), .ref (am 10), .ref (am 11), .ref (am 12)])), (am 4, .inl (kd, 60, .inr (.inr (.inr (.inl (vf_upd P j (P i))))))), (am 5, .inl (kd, 60, .inr (.inr (.inr (.inl (vf_upd V j (V i))))))), (am 6, .inl (kz, 60, .inl AF)), (am 7, .inl (kd, 60, .inr (.inr (.inr (.inl FX)))))]) hx hb hC hP hD hS 2 rfl (by omega) (by omega) rfl dX7_moveKnot_23 (fun H locs hP hD hS => ?_)
  refine lv_aload_n hx hb dX7_moveKnot_24 rfl (lv_at hl 0 rfl) ?_
  refine va_get (D := D) (ci := 7) (v := .ref (am 6)) (C := RX7) (T := TX7) (N := 15) hx hb hts iw_X7_moveKnot_X7 hown hC.1 hP 0 rfl rfl 8 (by decide) (hts (.fieldLink RX7 25 "MonotoneSplineModel" "areFixed" "[Z") (List.mem_of_getElem? (l := wsX7_moveKnot) (i := 3) rfl)) (fun _ h9 => h9) rfl dX7_moveKnot_25 ?_
  refine lv_iload_n hx hb dX7_moveKnot_28 rfl (lv_at hl 2 rfl) ?_
  refine lv_aload_n hx hb dX7_moveKnot_29 rfl (lv_at hl 0 rfl) ?_
  refine va_get (D := D) (ci := 7) (v := .ref (am 6)) (C := RX7) (T := TX7) (N := 15) hx hb hts iw_X7_moveKnot_X7 hown hC.1 hP 0 rfl rfl 8 (by decide) (hts (.fieldLink RX7 25 "MonotoneSplineModel" "areFixed" "[Z") (List.mem_of_getElem? (l := wsX7_moveKnot) (i := 3) rfl)) (fun _ h9 => h9) rfl dX7_moveKnot_30 ?_
  refine lv_iload_n hx hb dX7_moveKnot_33 rfl (lv_at hl 1 rfl) ?_
  refine my_zald (k := i) (n := 60) (f := AF) hx hb hC hP 3 rfl (by omega) (by omega) dX7_moveKnot_34 ?_
  refine my_zast (k := j) (n := 60) (f := AF) (wx' := [(am 0, .inr (7, [.int th, .int (nI n), .ref (am 1), .ref (am 2), .ref (am 3), .int (nI kn), .ref (am 4), .ref (am 5), .ref (am 6), .ref (am 7), .ref (am 8), .ref (am 9), .ref (am 10), .ref (am 11), .ref (am 12)])), (am 4, .inl (kd, 60, .inr (.inr (.inr (.inl (vf_upd P j (P i))))))), (am 5, .inl (kd, 60, .inr (.inr (.inr (.inl (vf_upd V j (V i))))))), (am 6, .inl (kz, 60, .inl (upd AF j (AF i)))), (am 7, .inl (kd, 60, .inr (.inr (.inr (.inl FX)))))]) hx hb hC hP hD hS 3 rfl (by omega) (by omega) (z_01 hA) rfl dX7_moveKnot_35 (fun H locs hP hD hS => ?_)
  refine lv_aload_n hx hb dX7_moveKnot_36 rfl (lv_at hl 0 rfl) ?_
  refine va_get (D := D) (ci := 7) (v := .ref (am 7)) (C := RX7) (T := TX7) (N := 15) hx hb hts iw_X7_moveKnot_X7 hown hC.1 hP 0 rfl rfl 9 (by decide) (hts (.fieldLink RX7 29 "MonotoneSplineModel" "fixed" "[D") (List.mem_of_getElem? (l := wsX7_moveKnot) (i := 4) rfl)) (fun _ h9 => h9) rfl dX7_moveKnot_37 ?_
  refine lv_iload_n hx hb dX7_moveKnot_40 rfl (lv_at hl 2 rfl) ?_
  refine lv_aload_n hx hb dX7_moveKnot_41 rfl (lv_at hl 0 rfl) ?_
  refine va_get (D := D) (ci := 7) (v := .ref (am 7)) (C := RX7) (T := TX7) (N := 15) hx hb hts iw_X7_moveKnot_X7 hown hC.1 hP 0 rfl rfl 9 (by decide) (hts (.fieldLink RX7 29 "MonotoneSplineModel" "fixed" "[D") (List.mem_of_getElem? (l := wsX7_moveKnot) (i := 4) rfl)) (fun _ h9 => h9) rfl dX7_moveKnot_42 ?_
  refine lv_iload_n hx hb dX7_moveKnot_45 rfl (lv_at hl 1 rfl) ?_
  refine my_dald (k := i) (n := 60) (f := FX) hx hb hC hP 4 rfl (by omega) (by omega) dX7_moveKnot_46 ?_
  refine my_dast (k := j) (n := 60) (f := FX) (wx' := [(am 0, .inr (7, [.int th, .int (nI n), .ref (am 1), .ref (am 2), .ref (am 3), .int (nI kn), .ref (am 4), .ref (am 5), .ref (am 6), .ref (am 7), .ref (am 8), .ref (am 9), .ref (am 10), .ref (am 11), .ref (am 12)])), (am 4, .inl (kd, 60, .inr (.inr (.inr (.inl (vf_upd P j (P i))))))), (am 5, .inl (kd, 60, .inr (.inr (.inr (.inl (vf_upd V j (V i))))))), (am 6, .inl (kz, 60, .inl (upd AF j (AF i)))), (am 7, .inl (kd, 60, .inr (.inr (.inr (.inl (vf_upd FX j (FX i)))))))]) hx hb hC hP hD hS 4 rfl (by omega) (by omega) rfl dX7_moveKnot_47 (fun H locs hP hD hS => ?_)
  exact my_vretW hx hb hr hlocks hP (rfl) hS dX7_moveKnot_48

theorem iw_X7_blockValue_X7 : ∀ w ∈ wsX70, w ∈ wsX7_blockValue := fun w h => List.mem_cons_of_mem _ (List.mem_append_right _ (h))
set_option maxHeartbeats 4000000 in
set_option maxRecDepth 100000 in
theorem mm_blockValue (l : Launch) (D : va_G) (kd ki kz kl : ClassId) (z : Nat) (am : Nat → Nat) (th : Int32) (n : Nat) (kn : Nat) (BW : Nat → UInt64) (BS : Nat → UInt64) (BZ : Nat → Int32) (k : Nat) (hk : k < 40) (hn : fx_n (s_lev BW BS k)) : my_RO l D kd ki kz kl z yX7_blockValue wsX7_blockValue ({ frames := 0, cells := 0, slots := 0, locals := 0 }) [.ref (am 0), .int (nI k)] [(am 0, .inr (7, [.int th, .int (nI n), .ref (am 1), .ref (am 2), .ref (am 3), .int (nI kn), .ref (am 4), .ref (am 5), .ref (am 6), .ref (am 7), .ref (am 8), .ref (am 9), .ref (am 10), .ref (am 11), .ref (am 12)])), (am 10, .inl (kd, 40, .inr (.inr (.inr (.inl BW))))), (am 11, .inl (kd, 40, .inr (.inr (.inr (.inl BS))))), (am 12, .inl (ki, 40, .inl BZ))] (some (.double (s_lev BW BS k))) := by
  refine my_RO_of (cc := cX7_blockValue) (maxL := 2) (ret := (some .double)) (by decide) rfl (Nat.le_of_ble_eq_true rfl) ?_
  intro p e s m below meth c S hr hlocks hC hP ls hl
  have S : CallFix p m c cX7_blockValue 2 s ([.ref (am 0), .int (nI k)] : List Value).toArray wsX7_blockValue RX7 := S
  obtain ⟨hx, hb, hml, hown, hts⟩ := id S
  have hl : lv_has ls 2 [(0, .ref (am 0)), (1, .int (nI k))] := hl
  refine lv_aload_n hx hb dX7_blockValue_0 rfl (lv_at hl 0 rfl) ?_
  refine va_get (D := D) (ci := 7) (v := .ref (am 11)) (C := RX7) (T := TX7) (N := 15) hx hb hts iw_X7_blockValue_X7 hown hC.1 hP 0 rfl rfl 13 (by decide) (hts (.fieldLink RX7 42 "MonotoneSplineModel" "blockSums" "[D") (List.mem_of_getElem? (l := wsX7_blockValue) (i := 1) rfl)) (fun _ h9 => h9) rfl dX7_blockValue_1 ?_
  refine lv_iload_n hx hb dX7_blockValue_4 rfl (lv_at hl 1 rfl) ?_
  refine my_dald (k := k) (n := 40) (f := BS) hx hb hC hP 2 rfl (by omega) (by omega) dX7_blockValue_5 ?_
  refine lv_aload_n hx hb dX7_blockValue_6 rfl (lv_at hl 0 rfl) ?_
  refine va_get (D := D) (ci := 7) (v := .ref (am 10)) (C := RX7) (T := TX7) (N := 15) hx hb hts iw_X7_blockValue_X7 hown hC.1 hP 0 rfl rfl 12 (by decide) (hts (.fieldLink RX7 39 "MonotoneSplineModel" "blockWeights" "[D") (List.mem_of_getElem? (l := wsX7_blockValue) (i := 2) rfl)) (fun _ h9 => h9) rfl dX7_blockValue_7 ?_
  refine lv_iload_n hx hb dX7_blockValue_10 rfl (lv_at hl 1 rfl) ?_
  refine my_dald (k := k) (n := 40) (f := BW) hx hb hC hP 1 rfl (by omega) (by omega) dX7_blockValue_11 ?_
  refine lv_ddiv hx hb dX7_blockValue_12 (fx_n64 (hn)) ?_
  exact my_dretR hx hb hr hlocks (rfl) dX7_blockValue_13

theorem iw_X7_width_X7 : ∀ w ∈ wsX70, w ∈ wsX7_width := fun w h => List.mem_cons_of_mem _ (List.mem_append_right _ (h))
set_option maxHeartbeats 4000000 in
set_option maxRecDepth 100000 in
theorem mm_width (l : Launch) (D : va_G) (kd ki kz kl : ClassId) (z : Nat) (am : Nat → Nat) (th : Int32) (n : Nat) (kn : Nat) (P : Nat → UInt64) (V : Nat → UInt64) (k : Nat) (hk : k + 1 < kn) (hJ : KJ kn P V) : my_RO l D kd ki kz kl z yX7_width wsX7_width ({ frames := 0, cells := 0, slots := 0, locals := 0 }) [.ref (am 0), .int (nI k)] [(am 0, .inr (7, [.int th, .int (nI n), .ref (am 1), .ref (am 2), .ref (am 3), .int (nI kn), .ref (am 4), .ref (am 5), .ref (am 6), .ref (am 7), .ref (am 8), .ref (am 9), .ref (am 10), .ref (am 11), .ref (am 12)])), (am 4, .inl (kd, 60, .inr (.inr (.inr (.inl P))))), (am 5, .inl (kd, 60, .inr (.inr (.inr (.inl V)))))] (some (.double (s_w P k))) := by
  refine my_RO_of (cc := cX7_width) (maxL := 2) (ret := (some .double)) (by decide) rfl (Nat.le_of_ble_eq_true rfl) ?_
  intro p e s m below meth c S hr hlocks hC hP ls hl
  have S : CallFix p m c cX7_width 2 s ([.ref (am 0), .int (nI k)] : List Value).toArray wsX7_width RX7 := S
  obtain ⟨hx, hb, hml, hown, hts⟩ := id S
  have hl : lv_has ls 2 [(0, .ref (am 0)), (1, .int (nI k))] := hl
  have hkn := hJ.2.1
  refine lv_aload_n hx hb dX7_width_0 rfl (lv_at hl 0 rfl) ?_
  refine va_get (D := D) (ci := 7) (v := .ref (am 4)) (C := RX7) (T := TX7) (N := 15) hx hb hts iw_X7_width_X7 hown hC.1 hP 0 rfl rfl 6 (by decide) (hts (.fieldLink RX7 19 "MonotoneSplineModel" "places" "[D") (List.mem_of_getElem? (l := wsX7_width) (i := 1) rfl)) (fun _ h9 => h9) rfl dX7_width_1 ?_
  refine lv_iload_n hx hb dX7_width_4 rfl (lv_at hl 1 rfl) ?_
  refine lv_iconst (v := 1) hx hb dX7_width_5 (by decide) ?_
  refine my_iadd (w := nI (k + 1)) hx hb dX7_width_6 (nI_add k 1) ?_
  refine my_dald (k := k + 1) (n := 60) (f := P) hx hb hC hP 1 rfl (by omega) (by omega) dX7_width_7 ?_
  refine lv_aload_n hx hb dX7_width_8 rfl (lv_at hl 0 rfl) ?_
  refine va_get (D := D) (ci := 7) (v := .ref (am 4)) (C := RX7) (T := TX7) (N := 15) hx hb hts iw_X7_width_X7 hown hC.1 hP 0 rfl rfl 6 (by decide) (hts (.fieldLink RX7 19 "MonotoneSplineModel" "places" "[D") (List.mem_of_getElem? (l := wsX7_width) (i := 1) rfl)) (fun _ h9 => h9) rfl dX7_width_9 ?_
  refine lv_iload_n hx hb dX7_width_12 rfl (lv_at hl 1 rfl) ?_
  refine my_dald (k := k) (n := 60) (f := P) hx hb hC hP 1 rfl (by omega) (by omega) dX7_width_13 ?_
  refine lv_dsub hx hb dX7_width_14 (fx_n64 ((kJ_w1 hJ hk).2.2.2)) ?_
  exact my_dretR hx hb hr hlocks (rfl) dX7_width_15

theorem iw_X7_rise_X7 : ∀ w ∈ wsX70, w ∈ wsX7_rise := fun w h => List.mem_cons_of_mem _ (List.mem_append_right _ (h))
set_option maxHeartbeats 4000000 in
set_option maxRecDepth 100000 in
theorem mm_rise (l : Launch) (D : va_G) (kd ki kz kl : ClassId) (z : Nat) (am : Nat → Nat) (th : Int32) (n : Nat) (kn : Nat) (P : Nat → UInt64) (V : Nat → UInt64) (k : Nat) (hk : k + 1 < kn) (hJ : KJ kn P V) : my_RO l D kd ki kz kl z yX7_rise wsX7_rise ({ frames := 1, cells := 0, slots := 0, locals := 21 }) [.ref (am 0), .int (nI k)] [(am 0, .inr (7, [.int th, .int (nI n), .ref (am 1), .ref (am 2), .ref (am 3), .int (nI kn), .ref (am 4), .ref (am 5), .ref (am 6), .ref (am 7), .ref (am 8), .ref (am 9), .ref (am 10), .ref (am 11), .ref (am 12)])), (am 4, .inl (kd, 60, .inr (.inr (.inr (.inl P))))), (am 5, .inl (kd, 60, .inr (.inr (.inr (.inl V)))))] (some (.double (s_r P V k))) := by
  refine my_RO_of (cc := cX7_rise) (maxL := 2) (ret := (some .double)) (by decide) rfl (Nat.le_of_ble_eq_true rfl) ?_
  intro p e s m below meth c S hr hlocks hC hP ls hl
  have S : CallFix p m c cX7_rise 2 s ([.ref (am 0), .int (nI k)] : List Value).toArray wsX7_rise RX7 := S
  obtain ⟨hx, hb, hml, hown, hts⟩ := id S
  have hl : lv_has ls 2 [(0, .ref (am 0)), (1, .int (nI k))] := hl
  have hkn := hJ.2.1
  refine lv_aload_n hx hb dX7_rise_0 rfl (lv_at hl 0 rfl) ?_
  refine va_get (D := D) (ci := 7) (v := .ref (am 5)) (C := RX7) (T := TX7) (N := 15) hx hb hts iw_X7_rise_X7 hown hC.1 hP 0 rfl rfl 7 (by decide) (hts (.fieldLink RX7 22 "MonotoneSplineModel" "values" "[D") (List.mem_of_getElem? (l := wsX7_rise) (i := 1) rfl)) (fun _ h9 => h9) rfl dX7_rise_1 ?_
  refine lv_iload_n hx hb dX7_rise_4 rfl (lv_at hl 1 rfl) ?_
  refine lv_iconst (v := 1) hx hb dX7_rise_5 (by decide) ?_
  refine my_iadd (w := nI (k + 1)) hx hb dX7_rise_6 (nI_add k 1) ?_
  refine my_dald (k := k + 1) (n := 60) (f := V) hx hb hC hP 2 rfl (by omega) (by omega) dX7_rise_7 ?_
  refine lv_aload_n hx hb dX7_rise_8 rfl (lv_at hl 0 rfl) ?_
  refine va_get (D := D) (ci := 7) (v := .ref (am 5)) (C := RX7) (T := TX7) (N := 15) hx hb hts iw_X7_rise_X7 hown hC.1 hP 0 rfl rfl 7 (by decide) (hts (.fieldLink RX7 22 "MonotoneSplineModel" "values" "[D") (List.mem_of_getElem? (l := wsX7_rise) (i := 1) rfl)) (fun _ h9 => h9) rfl dX7_rise_9 ?_
  refine lv_iload_n hx hb dX7_rise_12 rfl (lv_at hl 1 rfl) ?_
  refine my_dald (k := k) (n := 60) (f := V) hx hb hC hP 2 rfl (by omega) (by omega) dX7_rise_13 ?_
  refine lv_dsub hx hb dX7_rise_14 (fx_n64 ((kJ_dv hJ hk).2.2)) ?_
  refine lv_aload_n hx hb dX7_rise_15 rfl (lv_at hl 0 rfl) ?_
  refine lv_iload_n hx hb dX7_rise_16 rfl (lv_at hl 1 rfl) ?_
  refine my_goR (v := (some (.double (s_w P k)))) (my_runV (bytes := cX7_width) (maxL := 2) (ret := (some .double)) (n := 1) (As := [.int (nI k)]) (rest := [.double (FP.dsub (V (k + 1)) (V k))]) S hl.1 (mm_width l D kd ki kz kl z am th n kn P V k (by omega) (hJ)) rfl ⟨rfl, rfl⟩ gX7_rise_X7_width (by decide +kernel) rfl ⟨Nat.le_of_ble_eq_true rfl, Nat.le_of_ble_eq_true rfl⟩ (my_preR hC (my_P_sub (wc := [(am 0, .inr (7, [.int th, .int (nI n), .ref (am 1), .ref (am 2), .ref (am 3), .int (nI kn), .ref (am 4), .ref (am 5), .ref (am 6), .ref (am 7), .ref (am 8), .ref (am 9), .ref (am 10), .ref (am 11), .ref (am 12)])), (am 4, .inl (kd, 60, .inr (.inr (.inr (.inl P))))), (am 5, .inl (kd, 60, .inr (.inr (.inr (.inl V)))))]) hP [0, 1, 2] rfl)) (va_recv hC.1 hP (ci := 7) (q0 := 0) rfl rfl) rfl rfl dX7_rise_17) ?_
  refine W.eq (g2 := F0 m 20 ls [.double (s_w P k), .double (FP.dsub (V (k + 1)) (V k))]) rfl ?_
  refine lv_ddiv hx hb dX7_rise_20 (fx_n64 ((kJ_r hJ hk).2.2)) ?_
  exact my_dretR hx hb hr hlocks (rfl) dX7_rise_21

theorem iw_X7_freeSlope_X7 : ∀ w ∈ wsX70, w ∈ wsX7_freeSlope := fun w h => List.mem_cons_of_mem _ (List.mem_append_right _ (h))
set_option maxHeartbeats 4000000 in
set_option maxRecDepth 100000 in
theorem mm_freeEnd (l : Launch) (D : va_G) (kd ki kz kl : ClassId) (z : Nat) (am : Nat → Nat) (th : Int32) (n : Nat) (kn : Nat) (P : Nat → UInt64) (V : Nat → UInt64) (k : Nat) (hk : k = 0 ∨ k + 1 = kn) (hJ : KJ kn P V) : my_RO l D kd ki kz kl z yX7_freeSlope wsX7_freeSlope ({ frames := 2, cells := 0, slots := 0, locals := 42 }) [.ref (am 0), .int (nI k), .int 1] [(am 0, .inr (7, [.int th, .int (nI n), .ref (am 1), .ref (am 2), .ref (am 3), .int (nI kn), .ref (am 4), .ref (am 5), .ref (am 6), .ref (am 7), .ref (am 8), .ref (am 9), .ref (am 10), .ref (am 11), .ref (am 12)])), (am 4, .inl (kd, 60, .inr (.inr (.inr (.inl P))))), (am 5, .inl (kd, 60, .inr (.inr (.inr (.inl V)))))] (some (.double (s_a P V k))) := by
  refine my_RO_of (cc := cX7_freeSlope) (maxL := 11) (ret := (some .double)) (by decide) rfl (Nat.le_of_ble_eq_true rfl) ?_
  intro p e s m below meth c S hr hlocks hC hP ls hl
  have S : CallFix p m c cX7_freeSlope 11 s ([.ref (am 0), .int (nI k), .int 1] : List Value).toArray wsX7_freeSlope RX7 := S
  obtain ⟨hx, hb, hml, hown, hts⟩ := id S
  have hl : lv_has ls 11 [(0, .ref (am 0)), (1, .int (nI k)), (2, .int 1)] := hl
  have hkn := hJ.2.1
  have hkn2 := hJ.1
  refine lv_iload_n hx hb dX7_freeSlope_0 rfl (lv_at hl 2 rfl) ?_
  refine lv_if_eq (tgt := 27) hx hb dX7_freeSlope_1 (by decide) (fun c_1 => ?_) (fun c_1 => ?_)
  · skip
    first | exact absurd c_1 (by decide) | exact absurd (by decide) c_1
  · skip
    refine lv_iload_n hx hb dX7_freeSlope_4 rfl (lv_at hl 1 rfl) ?_
    refine lv_if_ne (tgt := 16) hx hb dX7_freeSlope_5 (by decide) (fun c_5 => ?_) (fun c_5 => ?_)
    · have c_5 : ¬ k = 0 := fun h9 => c_5 ((nI_eq (a := k) (b := 0) (by omega) (by omega)).mpr h9)
      refine lv_aload_n hx hb dX7_freeSlope_16 rfl (lv_at hl 0 rfl) ?_
      refine lv_aload_n hx hb dX7_freeSlope_17 rfl (lv_at hl 0 rfl) ?_
      refine va_get (D := D) (ci := 7) (v := .int (nI kn)) (C := RX7) (T := TX7) (N := 15) hx hb hts iw_X7_freeSlope_X7 hown hC.1 hP 0 rfl rfl 5 (by decide) (hts (.fieldLink RX7 56 "MonotoneSplineModel" "knots" "I") (List.mem_of_getElem? (l := wsX7_freeSlope) (i := 1) rfl)) (fun _ h9 => h9) rfl dX7_freeSlope_18 ?_
      refine lv_iconst (v := 2) hx hb dX7_freeSlope_21 (by decide) ?_
      refine my_isub (w := nI (kn - 2)) hx hb dX7_freeSlope_22 (pk_sub (a := kn) (b := 2) (by omega)) ?_
      refine my_goR (v := (some (.double (s_r P V (kn - 2))))) (my_runV (bytes := cX7_rise) (maxL := 2) (ret := (some .double)) (n := 1) (As := [.int (nI (kn - 2))]) (rest := []) S hl.1 (mm_rise l D kd ki kz kl z am th n kn P V (kn - 2) (by omega) (hJ)) rfl ⟨rfl, rfl⟩ gX7_freeSlope_X7_rise (by decide +kernel) rfl ⟨Nat.le_of_ble_eq_true rfl, Nat.le_of_ble_eq_true rfl⟩ (my_preR hC (my_P_sub (wc := [(am 0, .inr (7, [.int th, .int (nI n), .ref (am 1), .ref (am 2), .ref (am 3), .int (nI kn), .ref (am 4), .ref (am 5), .ref (am 6), .ref (am 7), .ref (am 8), .ref (am 9), .ref (am 10), .ref (am 11), .ref (am 12)])), (am 4, .inl (kd, 60, .inr (.inr (.inr (.inl P))))), (am 5, .inl (kd, 60, .inr (.inr (.inr (.inl V)))))]) hP [0, 1, 2] rfl)) (va_recv hC.1 hP (ci := 7) (q0 := 0) rfl rfl) rfl rfl dX7_freeSlope_23) ?_
      refine W.eq (g2 := F0 m 26 ls [.double (s_r P V (kn - 2))]) rfl ?_
      exact my_dretR hx hb hr hlocks (by rw [s_a, show k - 1 = kn - 2 by omega]) dX7_freeSlope_26
    · have c_5 : k = 0 := (nI_eq (a := k) (b := 0) (by omega) (by omega)).mp c_5
      refine lv_aload_n hx hb dX7_freeSlope_8 rfl (lv_at hl 0 rfl) ?_
      refine lv_iconst (v := 0) hx hb dX7_freeSlope_9 (by decide) ?_
      refine my_topi (w := nI 0) (nI_0.symm) ?_
      refine my_goR (v := (some (.double (s_r P V 0)))) (my_runV (bytes := cX7_rise) (maxL := 2) (ret := (some .double)) (n := 1) (As := [.int (nI 0)]) (rest := []) S hl.1 (mm_rise l D kd ki kz kl z am th n kn P V 0 (by omega) (hJ)) rfl ⟨rfl, rfl⟩ gX7_freeSlope_X7_rise (by decide +kernel) rfl ⟨Nat.le_of_ble_eq_true rfl, Nat.le_of_ble_eq_true rfl⟩ (my_preR hC (my_P_sub (wc := [(am 0, .inr (7, [.int th, .int (nI n), .ref (am 1), .ref (am 2), .ref (am 3), .int (nI kn), .ref (am 4), .ref (am 5), .ref (am 6), .ref (am 7), .ref (am 8), .ref (am 9), .ref (am 10), .ref (am 11), .ref (am 12)])), (am 4, .inl (kd, 60, .inr (.inr (.inr (.inl P))))), (am 5, .inl (kd, 60, .inr (.inr (.inr (.inl V)))))]) hP [0, 1, 2] rfl)) (va_recv hC.1 hP (ci := 7) (q0 := 0) rfl rfl) rfl rfl dX7_freeSlope_10) ?_
      refine W.eq (g2 := F0 m 13 ls [.double (s_r P V 0)]) rfl ?_
      refine lv_goto (tgt := 26) hx hb dX7_freeSlope_13 (by decide) ?_
      exact my_dretR hx hb hr hlocks (by rw [s_a, show k - 1 = 0 by omega]) dX7_freeSlope_26

set_option maxHeartbeats 4000000 in
set_option maxRecDepth 100000 in
theorem mm_freeMid (l : Launch) (D : va_G) (kd ki kz kl : ClassId) (z : Nat) (am : Nat → Nat) (th : Int32) (n : Nat) (kn : Nat) (P : Nat → UInt64) (V : Nat → UInt64) (k : Nat) (h0 : 0 < k) (hk : k + 1 < kn) (hJ : KJ kn P V) : my_RO l D kd ki kz kl z yX7_freeSlope wsX7_freeSlope ({ frames := 2, cells := 0, slots := 0, locals := 42 }) [.ref (am 0), .int (nI k), .int 0] [(am 0, .inr (7, [.int th, .int (nI n), .ref (am 1), .ref (am 2), .ref (am 3), .int (nI kn), .ref (am 4), .ref (am 5), .ref (am 6), .ref (am 7), .ref (am 8), .ref (am 9), .ref (am 10), .ref (am 11), .ref (am 12)])), (am 4, .inl (kd, 60, .inr (.inr (.inr (.inl P))))), (am 5, .inl (kd, 60, .inr (.inr (.inr (.inl V)))))] (some (.double (s_un P kn k (s_a P V k) (s_r P V k)))) := by
  refine my_RO_of (cc := cX7_freeSlope) (maxL := 11) (ret := (some .double)) (by decide) rfl (Nat.le_of_ble_eq_true rfl) ?_
  intro p e s m below meth c S hr hlocks hC hP ls hl
  have S : CallFix p m c cX7_freeSlope 11 s ([.ref (am 0), .int (nI k), .int 0] : List Value).toArray wsX7_freeSlope RX7 := S
  obtain ⟨hx, hb, hml, hown, hts⟩ := id S
  have hl : lv_has ls 11 [(0, .ref (am 0)), (1, .int (nI k)), (2, .int 0)] := hl
  have hkn := hJ.2.1
  have hkn2 := hJ.1
  have hv := kJ_v hJ h0 hk
  refine lv_iload_n hx hb dX7_freeSlope_0 rfl (lv_at hl 2 rfl) ?_
  refine lv_if_eq (tgt := 27) hx hb dX7_freeSlope_1 (by decide) (fun c_1 => ?_) (fun c_1 => ?_)
  · skip
    refine lv_aload_n hx hb dX7_freeSlope_27 rfl (lv_at hl 0 rfl) ?_
    refine lv_iload_n hx hb dX7_freeSlope_28 rfl (lv_at hl 1 rfl) ?_
    refine lv_iconst (v := 1) hx hb dX7_freeSlope_29 (by decide) ?_
    refine my_isub (w := nI (k - 1)) hx hb dX7_freeSlope_30 (pk_sub (a := k) (b := 1) (by omega)) ?_
    refine my_goR (v := (some (.double (s_r P V (k - 1))))) (my_runV (bytes := cX7_rise) (maxL := 2) (ret := (some .double)) (n := 1) (As := [.int (nI (k - 1))]) (rest := []) S hl.1 (mm_rise l D kd ki kz kl z am th n kn P V (k - 1) (by omega) (hJ)) rfl ⟨rfl, rfl⟩ gX7_freeSlope_X7_rise (by decide +kernel) rfl ⟨Nat.le_of_ble_eq_true rfl, Nat.le_of_ble_eq_true rfl⟩ (my_preR hC (my_P_sub (wc := [(am 0, .inr (7, [.int th, .int (nI n), .ref (am 1), .ref (am 2), .ref (am 3), .int (nI kn), .ref (am 4), .ref (am 5), .ref (am 6), .ref (am 7), .ref (am 8), .ref (am 9), .ref (am 10), .ref (am 11), .ref (am 12)])), (am 4, .inl (kd, 60, .inr (.inr (.inr (.inl P))))), (am 5, .inl (kd, 60, .inr (.inr (.inr (.inl V)))))]) hP [0, 1, 2] rfl)) (va_recv hC.1 hP (ci := 7) (q0 := 0) rfl rfl) rfl rfl dX7_freeSlope_31) ?_
    refine W.eq (g2 := F0 m 34 ls [.double (s_r P V (k - 1))]) rfl ?_
    refine lv_dstore_n (lv' := [(3, .double (s_r P V (k - 1))), (0, .ref (am 0)), (1, .int (nI k)), (2, .int 0)]) hx hb dX7_freeSlope_34 rfl hl (by decide) rfl (fun ls hl => ?_)
    refine lv_aload_n hx hb dX7_freeSlope_35 rfl (lv_at hl 1 rfl) ?_
    refine lv_iload_n hx hb dX7_freeSlope_36 rfl (lv_at hl 2 rfl) ?_
    refine my_goR (v := (some (.double (s_r P V k)))) (my_runV (bytes := cX7_rise) (maxL := 2) (ret := (some .double)) (n := 1) (As := [.int (nI k)]) (rest := []) S hl.1 (mm_rise l D kd ki kz kl z am th n kn P V k (by omega) (hJ)) rfl ⟨rfl, rfl⟩ gX7_freeSlope_X7_rise (by decide +kernel) rfl ⟨Nat.le_of_ble_eq_true rfl, Nat.le_of_ble_eq_true rfl⟩ (my_preR hC (my_P_sub (wc := [(am 0, .inr (7, [.int th, .int (nI n), .ref (am 1), .ref (am 2), .ref (am 3), .int (nI kn), .ref (am 4), .ref (am 5), .ref (am 6), .ref (am 7), .ref (am 8), .ref (am 9), .ref (am 10), .ref (am 11), .ref (am 12)])), (am 4, .inl (kd, 60, .inr (.inr (.inr (.inl P))))), (am 5, .inl (kd, 60, .inr (.inr (.inr (.inl V)))))]) hP [0, 1, 2] rfl)) (va_recv hC.1 hP (ci := 7) (q0 := 0) rfl rfl) rfl rfl dX7_freeSlope_37) ?_
    refine W.eq (g2 := F0 m 40 ls [.double (s_r P V k)]) rfl ?_
    refine lv_dstore (lv' := [(5, .double (s_r P V k)), (3, .double (s_r P V (k - 1))), (0, .ref (am 0)), (1, .int (nI k)), (2, .int 0)]) hx hb dX7_freeSlope_40 hl (by decide) rfl (fun ls hl => ?_)
    refine lv_dload_n hx hb dX7_freeSlope_42 rfl (lv_at hl 1 rfl) ?_
    refine lv_dconst0 hx hb dX7_freeSlope_43 ?_
    refine my_topd (w := 0) (by decide) ?_
    refine lv_dcmp hx hb dX7_freeSlope_44 ?_
    refine lv_if_eq (tgt := 55) hx hb dX7_freeSlope_45 (by decide) (fun c_45 => ?_) (fun c_45 => ?_)
    · have c_45 := cv_l_eq_t c_45
      refine lv_dconst0 hx hb dX7_freeSlope_55 ?_
      refine my_topd (w := 0) (by decide) ?_
      exact my_dretR hx hb hr hlocks (((if_neg (by omega)).trans (if_pos (Or.inl c_45))).symm) dX7_freeSlope_56
    · have c_45 := cv_l_eq_f c_45
      refine lv_dload hx hb dX7_freeSlope_48 (lv_at hl 0 rfl) ?_
      refine lv_dconst0 hx hb dX7_freeSlope_50 ?_
      refine my_topd (w := 0) (by decide) ?_
      refine lv_dcmp hx hb dX7_freeSlope_51 ?_
      refine lv_if_ne (tgt := 57) hx hb dX7_freeSlope_52 (by decide) (fun c_52 => ?_) (fun c_52 => ?_)
      · have c_52 := cv_l_eq_f c_52
        have hf := kJ_f hJ h0 hk (kJ_r hJ (k := k - 1) (by omega)) (kJ_r hJ hk) c_45 c_52
        refine lv_ldc2d hx hb hown (hts (.constantDouble RX7 101 (4611686018427387904)) (List.mem_of_getElem? (l := wsX7_freeSlope) (i := 2) rfl)) dX7_freeSlope_57 ?_
        refine lv_aload_n hx hb dX7_freeSlope_60 rfl (lv_at hl 2 rfl) ?_
        refine lv_iload_n hx hb dX7_freeSlope_61 rfl (lv_at hl 3 rfl) ?_
        refine my_goR (v := (some (.double (s_w P k)))) (my_runV (bytes := cX7_width) (maxL := 2) (ret := (some .double)) (n := 1) (As := [.int (nI k)]) (rest := [.double 4611686018427387904]) S hl.1 (mm_width l D kd ki kz kl z am th n kn P V k (by omega) (hJ)) rfl ⟨rfl, rfl⟩ gX7_freeSlope_X7_width (by decide +kernel) rfl ⟨Nat.le_of_ble_eq_true rfl, Nat.le_of_ble_eq_true rfl⟩ (my_preR hC (my_P_sub (wc := [(am 0, .inr (7, [.int th, .int (nI n), .ref (am 1), .ref (am 2), .ref (am 3), .int (nI kn), .ref (am 4), .ref (am 5), .ref (am 6), .ref (am 7), .ref (am 8), .ref (am 9), .ref (am 10), .ref (am 11), .ref (am 12)])), (am 4, .inl (kd, 60, .inr (.inr (.inr (.inl P))))), (am 5, .inl (kd, 60, .inr (.inr (.inr (.inl V)))))]) hP [0, 1, 2] rfl)) (va_recv hC.1 hP (ci := 7) (q0 := 0) rfl rfl) rfl rfl dX7_freeSlope_62) ?_
        refine W.eq (g2 := F0 m 65 ls [.double (s_w P k), .double 4611686018427387904]) rfl ?_
        refine lv_dmul hx hb dX7_freeSlope_65 (fx_n64 (hv.1)) ?_
        refine lv_aload_n hx hb dX7_freeSlope_66 rfl (lv_at hl 2 rfl) ?_
        refine lv_iload_n hx hb dX7_freeSlope_67 rfl (lv_at hl 3 rfl) ?_
        refine lv_iconst (v := 1) hx hb dX7_freeSlope_68 (by decide) ?_
        refine my_isub (w := nI (k - 1)) hx hb dX7_freeSlope_69 (pk_sub (a := k) (b := 1) (by omega)) ?_
        refine my_goR (v := (some (.double (s_w P (k - 1))))) (my_runV (bytes := cX7_width) (maxL := 2) (ret := (some .double)) (n := 1) (As := [.int (nI (k - 1))]) (rest := [.double (FP.dmul 4611686018427387904 (s_w P k))]) S hl.1 (mm_width l D kd ki kz kl z am th n kn P V (k - 1) (by omega) (hJ)) rfl ⟨rfl, rfl⟩ gX7_freeSlope_X7_width (by decide +kernel) rfl ⟨Nat.le_of_ble_eq_true rfl, Nat.le_of_ble_eq_true rfl⟩ (my_preR hC (my_P_sub (wc := [(am 0, .inr (7, [.int th, .int (nI n), .ref (am 1), .ref (am 2), .ref (am 3), .int (nI kn), .ref (am 4), .ref (am 5), .ref (am 6), .ref (am 7), .ref (am 8), .ref (am 9), .ref (am 10), .ref (am 11), .ref (am 12)])), (am 4, .inl (kd, 60, .inr (.inr (.inr (.inl P))))), (am 5, .inl (kd, 60, .inr (.inr (.inr (.inl V)))))]) hP [0, 1, 2] rfl)) (va_recv hC.1 hP (ci := 7) (q0 := 0) rfl rfl) rfl rfl dX7_freeSlope_70) ?_
        refine W.eq (g2 := F0 m 73 ls [.double (s_w P (k - 1)), .double (FP.dmul 4611686018427387904 (s_w P k))]) rfl ?_
        refine lv_dadd hx hb dX7_freeSlope_73 (fx_n64 (hv.2.2.1)) ?_
        refine lv_dstore (lv' := [(7, .double (FP.dadd (FP.dmul 4611686018427387904 (s_w P k)) (s_w P (k - 1)))), (5, .double (s_r P V k)), (3, .double (s_r P V (k - 1))), (0, .ref (am 0)), (1, .int (nI k)), (2, .int 0)]) hx hb dX7_freeSlope_74 hl (by decide) rfl (fun ls hl => ?_)
        refine lv_aload_n hx hb dX7_freeSlope_76 rfl (lv_at hl 3 rfl) ?_
        refine lv_iload_n hx hb dX7_freeSlope_77 rfl (lv_at hl 4 rfl) ?_
        refine my_goR (v := (some (.double (s_w P k)))) (my_runV (bytes := cX7_width) (maxL := 2) (ret := (some .double)) (n := 1) (As := [.int (nI k)]) (rest := []) S hl.1 (mm_width l D kd ki kz kl z am th n kn P V k (by omega) (hJ)) rfl ⟨rfl, rfl⟩ gX7_freeSlope_X7_width (by decide +kernel) rfl ⟨Nat.le_of_ble_eq_true rfl, Nat.le_of_ble_eq_true rfl⟩ (my_preR hC (my_P_sub (wc := [(am 0, .inr (7, [.int th, .int (nI n), .ref (am 1), .ref (am 2), .ref (am 3), .int (nI kn), .ref (am 4), .ref (am 5), .ref (am 6), .ref (am 7), .ref (am 8), .ref (am 9), .ref (am 10), .ref (am 11), .ref (am 12)])), (am 4, .inl (kd, 60, .inr (.inr (.inr (.inl P))))), (am 5, .inl (kd, 60, .inr (.inr (.inr (.inl V)))))]) hP [0, 1, 2] rfl)) (va_recv hC.1 hP (ci := 7) (q0 := 0) rfl rfl) rfl rfl dX7_freeSlope_78) ?_
        refine W.eq (g2 := F0 m 81 ls [.double (s_w P k)]) rfl ?_
        refine lv_ldc2d hx hb hown (hts (.constantDouble RX7 101 (4611686018427387904)) (List.mem_of_getElem? (l := wsX7_freeSlope) (i := 2) rfl)) dX7_freeSlope_81 ?_
        refine lv_aload_n hx hb dX7_freeSlope_84 rfl (lv_at hl 3 rfl) ?_
        refine lv_iload_n hx hb dX7_freeSlope_85 rfl (lv_at hl 4 rfl) ?_
        refine lv_iconst (v := 1) hx hb dX7_freeSlope_86 (by decide) ?_
        refine my_isub (w := nI (k - 1)) hx hb dX7_freeSlope_87 (pk_sub (a := k) (b := 1) (by omega)) ?_
        refine my_goR (v := (some (.double (s_w P (k - 1))))) (my_runV (bytes := cX7_width) (maxL := 2) (ret := (some .double)) (n := 1) (As := [.int (nI (k - 1))]) (rest := [.double 4611686018427387904, .double (s_w P k)]) S hl.1 (mm_width l D kd ki kz kl z am th n kn P V (k - 1) (by omega) (hJ)) rfl ⟨rfl, rfl⟩ gX7_freeSlope_X7_width (by decide +kernel) rfl ⟨Nat.le_of_ble_eq_true rfl, Nat.le_of_ble_eq_true rfl⟩ (my_preR hC (my_P_sub (wc := [(am 0, .inr (7, [.int th, .int (nI n), .ref (am 1), .ref (am 2), .ref (am 3), .int (nI kn), .ref (am 4), .ref (am 5), .ref (am 6), .ref (am 7), .ref (am 8), .ref (am 9), .ref (am 10), .ref (am 11), .ref (am 12)])), (am 4, .inl (kd, 60, .inr (.inr (.inr (.inl P))))), (am 5, .inl (kd, 60, .inr (.inr (.inr (.inl V)))))]) hP [0, 1, 2] rfl)) (va_recv hC.1 hP (ci := 7) (q0 := 0) rfl rfl) rfl rfl dX7_freeSlope_88) ?_
        refine W.eq (g2 := F0 m 91 ls [.double (s_w P (k - 1)), .double 4611686018427387904, .double (s_w P k)]) rfl ?_
        refine lv_dmul hx hb dX7_freeSlope_91 (fx_n64 (hv.2.1)) ?_
        refine lv_dadd hx hb dX7_freeSlope_92 (fx_n64 (hv.2.2.2.1)) ?_
        refine lv_dstore (lv' := [(9, .double (FP.dadd (s_w P k) (FP.dmul 4611686018427387904 (s_w P (k - 1))))), (7, .double (FP.dadd (FP.dmul 4611686018427387904 (s_w P k)) (s_w P (k - 1)))), (5, .double (s_r P V k)), (3, .double (s_r P V (k - 1))), (0, .ref (am 0)), (1, .int (nI k)), (2, .int 0)]) hx hb dX7_freeSlope_93 hl (by decide) rfl (fun ls hl => ?_)
        refine lv_dload hx hb dX7_freeSlope_95 (lv_at hl 1 rfl) ?_
        refine lv_dload hx hb dX7_freeSlope_97 (lv_at hl 0 rfl) ?_
        refine lv_dadd hx hb dX7_freeSlope_99 (fx_n64 (hv.2.2.2.2)) ?_
        refine lv_dload hx hb dX7_freeSlope_100 (lv_at hl 1 rfl) ?_
        refine lv_dload_n hx hb dX7_freeSlope_102 rfl (lv_at hl 3 rfl) ?_
        refine lv_ddiv hx hb dX7_freeSlope_103 (fx_n64 (hf.1)) ?_
        refine lv_dload hx hb dX7_freeSlope_104 (lv_at hl 0 rfl) ?_
        refine lv_dload hx hb dX7_freeSlope_106 (lv_at hl 2 rfl) ?_
        refine lv_ddiv hx hb dX7_freeSlope_108 (fx_n64 (hf.2.1)) ?_
        refine lv_dadd hx hb dX7_freeSlope_109 (fx_n64 (hf.2.2.1)) ?_
        refine lv_ddiv hx hb dX7_freeSlope_110 (fx_n64 (hf.2.2.2.2.1)) ?_
        exact my_dretR hx hb hr hlocks (((if_neg (by omega)).trans (if_neg (fun h9 => h9.elim c_45 c_52))).symm) dX7_freeSlope_111
      · have c_52 := cv_l_eq_t c_52
        refine lv_dconst0 hx hb dX7_freeSlope_55 ?_
        refine my_topd (w := 0) (by decide) ?_
        exact my_dretR hx hb hr hlocks (((if_neg (by omega)).trans (if_pos (Or.inr c_52))).symm) dX7_freeSlope_56
  · skip
    first | exact absurd c_1 (by decide) | exact absurd (by decide) c_1

