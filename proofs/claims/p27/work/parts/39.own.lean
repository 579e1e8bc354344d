/-! Math.abs and Math.min of doubles: the machine has an entry of its own for each and runs it in place of the bytecode. The call is walked here from the machine's step, by the base of the library alone. -/
section MYO
variable {p : Program} {l : Launch} {e : Env} {R : Room} {s : State} {m : MethodId} {args : Array Value} {below : List Frame} {meth : Method} {c : Code} {T : State} {locs : List Loc} {cells slots : Nat}
/-- the values that stand in a frame's variables, in their order -/
def my_gv (ls : Array Slot) : Array Value := (ls.toList.filterMap (fun q => match q with | .val v => some v | _ => none)).toArray
/-- the step at the frame just made: the entry runs, on the values given -/
theorem my_ownStep {tb : Tables} {S : State} {mk : MethodId} {As : List Value} {n : Nat} {r : List Frame} {k : Class} {x : Method} {row : NativeRow}
    (hF : S.frames = .java (entryFrame mk As.toArray n) :: r) (hk : S.vm.classes[mk.cls]? = some k) (hx : k.methods[mk.idx]? = some x) (hn : k.name = "java/lang/Math") (hb : k.loader = none)
    (hrow : NativeRow.find? tb.natives "java/lang/Math" x.name x.desc = some row) (hAs : (my_gv (argsToLocals As.toArray n)).extract 0 (argCount S mk) = As.toArray) :
    stepThread tb e S = afterNative e { method := mk, args := As.toArray, locked := none } r ((row.sem As.toArray).run e (S.setFrames (.native { method := mk, args := As.toArray, locked := none } :: r))) := by
  have hov : overridden tb e S (entryFrame mk As.toArray n) = some row := by
    simp [overridden, entryFrame, hk, hx, hb, hrow, hn, overriddenIn]
  have hst : stepThread tb e S = afterNative e { method := mk, args := (my_gv (argsToLocals As.toArray n)).extract 0 (argCount S mk), locked := none } r ((row.sem ((my_gv (argsToLocals As.toArray n)).extract 0 (argCount S mk))).run e (S.setFrames (.native { method := mk, args := (my_gv (argsToLocals As.toArray n)).extract 0 (argCount S mk), locked := none } :: r))) := by
    unfold stepThread
    simp only [hF, hov]
    rfl
  rw [hst, hAs]
theorem my_cut {As : List Value} {n : Nat} (h : As.length ≤ n) : (As.toArray).extract 0 n = As.toArray := by
  apply Array.toList_inj.mp
  simp [List.take_of_length_le h]
/-- the call from its invocation to the caller's next instruction -/
theorem my_ownCall (X : Stand p l e R s m args below meth c T locs cells slots) {g : JFrame} (hg : g.method = m) (hsize : g.locals.size = c.maxLocals) {mk : MethodId} {k : Class} {x : Method} {cx : Code} {As : List Value} {row : NativeRow} {v : Value} {i : Instr} {len : Nat} {t : State} (acts : List Action)
    (hk : T.vm.classes[mk.cls]? = some k) (hx : k.methods[mk.idx]? = some x) (hn : k.name = "java/lang/Math") (hb : k.loader = none) (hc : x.code = some cx) (hl : x.locks = false)
    (hrow : NativeRow.find? p.tables.natives "java/lang/Math" x.name x.desc = some row) (hpar : As.length = x.sig.parameters.length) (hgv : my_gv (argsToLocals As.toArray cx.maxLocals) = As.toArray)
    (hrun : ∀ U : State, ∃ acts2, (row.sem As.toArray).run e U = .ok (some v) U acts2)
    (hfr : 1 ≤ R.frames) (hlo : 2 * g.monitorRoom + (g.stack.map fun v => v.category).sum + (cx.maxLocals + 11) ≤ R.locals)
    (hd : decode c.code g.pc = .ok (i, len)) (hrest : Steps p.tables e below (T.setTop { g with pc := g.pc + len, stack := v :: g.stack }) t) :
    Steps p.tables e below (doInvoke e (T.setTop g) acts mk As.toArray).1 t := by
  obtain ⟨g0, hF0⟩ := X.frames_eq
  have hcur : T.cur < T.threads.size := State.cur_lt_of_frames hF0
  have hm : (T.setTop g).vm.method? mk = some x := by
    show T.vm.method? mk = some x
    simp [Vm.method?, hk, hx]
  rw [(doInvoke_java (s := T.setTop g) (e := e) (acts := acts) (args := As.toArray) hm hc hl (X.notFull hsize hfr hlo)).1]
  have hU : (T.setTop g).pushFrame (.java { method := mk, pc := 0, locals := argsToLocals As.toArray cx.maxLocals, stack := [], locked := none }) = T.setFrames (.java (entryFrame mk As.toArray cx.maxLocals) :: .java g :: below) := by
    rw [State.pushFrame, State.frames_setTop _ hF0, State.setTop_of_frames _ hF0, State.setFrames_setFrames]
    rfl
  rw [hU]
  have hF : (T.setFrames (.java (entryFrame mk As.toArray cx.maxLocals) :: .java g :: below)).frames = .java (entryFrame mk As.toArray cx.maxLocals) :: .java g :: below := State.frames_setFrames _ hcur
  refine Steps.head ⟨X.here.running, by simpa using X.here.runnable, by simpa using X.here.alone⟩ ⟨[.java (entryFrame mk As.toArray cx.maxLocals), .java g], by rw [hF]; rfl, by simp, by simp⟩ ?_
  have hcount : As.length ≤ argCount (T.setFrames (.java (entryFrame mk As.toArray cx.maxLocals) :: .java g :: below)) mk := by
    have h0 : argCount (T.setFrames (.java (entryFrame mk As.toArray cx.maxLocals) :: .java g :: below)) mk = argCount T mk := rfl
    rw [h0]
    simp [argCount, hk, hx, hpar]
  rw [my_ownStep hF (k := k) (x := x) (row := row) hk hx hn hb hrow (by rw [hgv]; exact my_cut hcount), State.setFrames_setFrames]
  obtain ⟨acts2, hr⟩ := hrun (T.setFrames (.native { method := mk, args := As.toArray, locked := none } :: .java g :: below))
  rw [hr]
  have hcode : (T.setFrames (.native { method := mk, args := As.toArray, locked := none } :: .java g :: below)).code? g.method = some c := by
    have h9 := X.here.code
    rw [hg]; rw [State.code?_eq] at h9 ⊢
    exact h9
  have hfs : handOver (T.setFrames (.native { method := mk, args := As.toArray, locked := none } :: .java g :: below)) (some v) (.java g :: below) = some (.java { g with pc := g.pc + len, stack := v :: g.stack } :: below) := by
    simp [handOver, hcode, hd, Except.toOption]
  show Steps p.tables e below (doReturn e _ acts2 (some v)).1 t
  rw [doReturn_native (f := { method := mk, args := As.toArray, locked := none }) (below := .java g :: below) (State.frames_setFrames _ hcur) rfl hfs, State.setFrames_setFrames, ← State.setTop_of_frames _ hF0]
  exact hrest
def my_rAbs : NativeRow := (NativeRow.find? Native.java_lang_Math.nans.rows "java/lang/Math" "abs" "(D)D").get (by decide +kernel)
def my_rMin : NativeRow := (NativeRow.find? Native.java_lang_Math.nans.rows "java/lang/Math" "min" "(DD)D").get (by decide +kernel)
def my_rMax : NativeRow := (NativeRow.find? Native.java_lang_Math.nans.rows "java/lang/Math" "max" "(DD)D").get (by decide +kernel)
set_option maxRecDepth 100000 in
theorem my_rAbs_in (p : Program) : NativeRow.find? p.tables.natives "java/lang/Math" "abs" "(D)D" = some my_rAbs := by cases p <;> rfl
set_option maxRecDepth 100000 in
theorem my_rMin_in (p : Program) : NativeRow.find? p.tables.natives "java/lang/Math" "min" "(DD)D" = some my_rMin := by cases p <;> rfl
set_option maxRecDepth 100000 in
theorem my_rMax_in (p : Program) : NativeRow.find? p.tables.natives "java/lang/Math" "max" "(DD)D" = some my_rMax := by cases p <;> rfl
theorem my_rAbs_run {a : UInt64} (ha : vf_n64 a) (U : State) : ∃ acts, (my_rAbs.sem #[.double a]).run e U = .ok (some (.double (a &&& 0x7fffffffffffffff))) U acts := by
  have h0 : (a &&& 0x7fffffffffffffff) &&& 0x7fffffffffffffff ≤ 0x7ff0000000000000 := by rw [UInt64.and_assoc, UInt64.and_self]; exact ha
  have h1 : my_rAbs.sem #[.double a] = (anyNaN64 (a &&& 0x7fffffffffffffff) >>= fun r => mark "nat.java_lang_Math.abs" >>= fun _ => Pure.pure (some (.double r))) := rfl
  have h2 : anyNaN64 (a &&& 0x7fffffffffffffff) = Pure.pure (a &&& 0x7fffffffffffffff) := by unfold anyNaN64; exact if_pos h0
  rw [h1, h2]
  exact ⟨_, rfl⟩
theorem my_nn {a : UInt64} (ha : vf_n64 a) : FP.dIsNaN a = false := by
  have h1 : a.toNat % 2 ^ 63 ≤ 9218868437227405312 := by
    have h2 : a &&& 0x7fffffffffffffff ≤ 0x7ff0000000000000 := ha
    rw [UInt64.le_iff_toNat_le, FP.Core.mask_toNat] at h2; exact h2
  have h3 : FP.Core.val64 a ≠ .nan := (FP.Core.ne_nan a).mpr h1
  exact decide_eq_false h3
theorem my_rMin_run {a b : UInt64} (ha : vf_n64 a) (hb : vf_n64 b) (U : State) : ∃ acts, (my_rMin.sem #[.double a, .double b]).run e U = .ok (some (.double (Native.java_lang_Math.nans.pick64 false a b))) U acts := by
  have h1 : my_rMin.sem #[.double a, .double b] = (do
      let r ← if FP.dIsNaN a then anyNaN64 a else if FP.dIsNaN b then anyNaN64 b else Pure.pure (Native.java_lang_Math.nans.pick64 false a b)
      mark "nat.java_lang_Math.min"
      Pure.pure (some (.double r))) := rfl
  rw [h1]
  simp only [my_nn ha, my_nn hb, Bool.false_eq_true, if_false, ite_false]
  exact ⟨_, rfl⟩
theorem my_rMax_run {a b : UInt64} (ha : vf_n64 a) (hb : vf_n64 b) (U : State) : ∃ acts, (my_rMax.sem #[.double a, .double b]).run e U = .ok (some (.double (Native.java_lang_Math.nans.pick64 true a b))) U acts := by
  have h1 : my_rMax.sem #[.double a, .double b] = (do
      let r ← if FP.dIsNaN a then anyNaN64 a else if FP.dIsNaN b then anyNaN64 b else Pure.pure (Native.java_lang_Math.nans.pick64 true a b)
      mark "nat.java_lang_Math.max"
      Pure.pure (some (.double r))) := rfl
  rw [h1]
  simp only [my_nn ha, my_nn hb, Bool.false_eq_true, if_false, ite_false]
  exact ⟨_, rfl⟩
end MYO
/-! Math.abs and Math.min of doubles: the machine runs entries of its own in their place -/
section MYM
variable {p : Program} {l : Launch} {e : Env} {R : Room} {s : State} {m : MethodId} {args : Array Value} {below : List Frame} {meth : Method} {c : Code} {H : Heap} {locs : List Loc} {cells slots : Nat} {Q : State → Prop}
variable {cc : ByteArray} {pc : Nat} {ls : Array Slot} {rest : List Value}
theorem my_mabs (hexec : p.tables.exec = Jvm.exec) (hb : c.code = cc) (hml : c.maxLocals = ls.size) {own : String} {index : Nat} {y : MethodName} {bytes : ByteArray} (hy : y = ⟨"java/lang/Math", "abs", "(D)D"⟩) (hown : s.vm.findClass own = some m.cls) (hlink : (Cond.methodLink own index y).before args s = true) (hstat : (Cond.static y).before args s = true) (hinit : (Cond.initialized y.cls).before args s = true)
    (hcode : (Cond.code y bytes 2 (some .double)).before args s = true) {a : UInt64} (ha : vf_n64 a) (hframes : 1 ≤ R.frames) (hlocals : (rest.map fun v => v.category).sum + 13 ≤ R.locals) (hcs : cells ≤ R.cells ∧ slots ≤ R.slots) (hdg : decode cc pc = .ok (.invokestatic index, 3))
    (k : W p l e R s m args below meth c H locs cells slots Q (F0 m (pc + 3) ls (.double (a &&& 0x7fffffffffffffff) :: rest))) : W p l e R s m args below meth c H locs cells slots Q (F0 m pc ls (.double a :: rest)) := by
  intro T hT X
  subst hy
  obtain ⟨mk, hnamed⟩ := Cond.code_named hcode
  obtain ⟨methS, cS, hmethS, -, -, -, -, -, -, hsigS⟩ := Cond.code_spec hnamed hcode
  have hstatic := Cond.static_spec hnamed hmethS hstat
  obtain ⟨kS, hkS, -⟩ := className_of_methodNamed hnamed
  have hinitS : kS.init = .initialized := Cond.initialized_spec (findClass_of_methodNamed hnamed) hkS hinit
  obtain ⟨vm₁, X₁, hstep₁⟩ := X.invokestatic hexec hown hlink hnamed hmethS hstatic hkS hinitS (by decide) (g := F0 m pc ls (.double a :: rest)) rfl (argsL := [.double a]) (rest := rest)
    (by have h := hsigS; rw [show parseMethodDescriptor "(D)D" = some ⟨[.double], some .double⟩ from by decide +kernel] at h; rw [← Option.some.inj h]; rfl) rfl (by rw [hb]; exact hdg)
  have hnamed₁ : (T.setVm vm₁).methodNamed? ⟨"java/lang/Math", "abs", "(D)D"⟩ = some mk := X₁.named hnamed
  have hcodeU : (Cond.code ⟨"java/lang/Math", "abs", "(D)D"⟩ bytes 2 (some .double)).before args (T.setVm vm₁) = true := Cond.tabsOnly_warm (args' := args) (T := T.setVm vm₁) X₁.warmed _ rfl hcode
  obtain ⟨methM, cM, hmethM, hcodeM', -, hlocalsM, -, hlocksM, -, hsigM⟩ := Cond.code_spec hnamed₁ hcodeU
  obtain ⟨kP, hkP, hkname⟩ := className_of_methodNamed hnamed₁
  obtain ⟨hmnM, hmdM⟩ := name_of_methodNamed hnamed₁ hmethM
  have hkP' : vm₁.classes[mk.cls]? = some kP := hkP
  have hxP : kP.methods[mk.idx]? = some methM := by simpa [Vm.method?, hkP'] using hmethM
  have hbootP : kP.loader = none := Vm.bootOf_findClass (findClass_of_methodNamed hnamed₁) hkP
  obtain ⟨t, a1, b1⟩ := k (T.setVm vm₁) hT X₁
  refine ⟨t, hstep₁ t fun acts => ?_, b1⟩
  have hsig1 : [Value.double a].length = methM.sig.parameters.length := by
    rw [show parseMethodDescriptor "(D)D" = some ⟨[.double], some .double⟩ from by decide +kernel] at hsigM; rw [← Option.some.inj hsigM]; rfl
  exact my_ownCall X₁ (g := F0 m pc ls rest) (As := [.double a]) (v := .double (a &&& 0x7fffffffffffffff)) rfl (by rw [hml]) acts hkP hxP hkname hbootP hcodeM' hlocksM (by rw [hmnM, hmdM]; exact my_rAbs_in p) hsig1 (by rw [hlocalsM]; rfl) (my_rAbs_run ha) hframes (by rw [hlocalsM]; show 2 * 0 + (rest.map fun v => v.category).sum + (2 + 11) ≤ R.locals; omega) (by rw [hb]; exact hdg) a1
theorem my_mmin (hexec : p.tables.exec = Jvm.exec) (hb : c.code = cc) (hml : c.maxLocals = ls.size) {own : String} {index : Nat} {y : MethodName} {bytes : ByteArray} (hy : y = ⟨"java/lang/Math", "min", "(DD)D"⟩) (hown : s.vm.findClass own = some m.cls) (hlink : (Cond.methodLink own index y).before args s = true) (hstat : (Cond.static y).before args s = true) (hinit : (Cond.initialized y.cls).before args s = true)
    (hcode : (Cond.code y bytes 4 (some .double)).before args s = true) {a b : UInt64} (ha : vf_n64 a) (hbn : vf_n64 b) (hframes : 1 ≤ R.frames) (hlocals : (rest.map fun v => v.category).sum + 15 ≤ R.locals) (hcs : cells ≤ R.cells ∧ slots ≤ R.slots) (hdg : decode cc pc = .ok (.invokestatic index, 3))
    (k : W p l e R s m args below meth c H locs cells slots Q (F0 m (pc + 3) ls (.double (Native.java_lang_Math.nans.pick64 false a b) :: rest))) : W p l e R s m args below meth c H locs cells slots Q (F0 m pc ls (.double b :: .double a :: rest)) := by
  intro T hT X
  subst hy
  obtain ⟨mk, hnamed⟩ := Cond.code_named hcode
  obtain ⟨methS, cS, hmethS, -, -, -, -, -, -, hsigS⟩ := Cond.code_spec hnamed hcode
  have hstatic := Cond.static_spec hnamed hmethS hstat
  obtain ⟨kS, hkS, -⟩ := className_of_methodNamed hnamed
  have hinitS : kS.init = .initialized := Cond.initialized_spec (findClass_of_methodNamed hnamed) hkS hinit
  obtain ⟨vm₁, X₁, hstep₁⟩ := X.invokestatic hexec hown hlink hnamed hmethS hstatic hkS hinitS (by decide) (g := F0 m pc ls (.double b :: .double a :: rest)) rfl (argsL := [.double a, .double b]) (rest := rest)
    (by have h := hsigS; rw [show parseMethodDescriptor "(DD)D" = some ⟨[.double, .double], some .double⟩ from by decide +kernel] at h; rw [← Option.some.inj h]; rfl) rfl (by rw [hb]; exact hdg)
  have hnamed₁ : (T.setVm vm₁).methodNamed? ⟨"java/lang/Math", "min", "(DD)D"⟩ = some mk := X₁.named hnamed
  have hcodeU : (Cond.code ⟨"java/lang/Math", "min", "(DD)D"⟩ bytes 4 (some .double)).before args (T.setVm vm₁) = true := Cond.tabsOnly_warm (args' := args) (T := T.setVm vm₁) X₁.warmed _ rfl hcode
  obtain ⟨methM, cM, hmethM, hcodeM', -, hlocalsM, -, hlocksM, -, hsigM⟩ := Cond.code_spec hnamed₁ hcodeU
  obtain ⟨kP, hkP, hkname⟩ := className_of_methodNamed hnamed₁
  obtain ⟨hmnM, hmdM⟩ := name_of_methodNamed hnamed₁ hmethM
  have hkP' : vm₁.classes[mk.cls]? = some kP := hkP
  have hxP : kP.methods[mk.idx]? = some methM := by simpa [Vm.method?, hkP'] using hmethM
  have hbootP : kP.loader = none := Vm.bootOf_findClass (findClass_of_methodNamed hnamed₁) hkP
  obtain ⟨t, a1, b1⟩ := k (T.setVm vm₁) hT X₁
  refine ⟨t, hstep₁ t fun acts => ?_, b1⟩
  have hsig1 : [Value.double a, Value.double b].length = methM.sig.parameters.length := by
    rw [show parseMethodDescriptor "(DD)D" = some ⟨[.double, .double], some .double⟩ from by decide +kernel] at hsigM; rw [← Option.some.inj hsigM]; rfl
  exact my_ownCall X₁ (g := F0 m pc ls rest) (As := [.double a, .double b]) (v := .double (Native.java_lang_Math.nans.pick64 false a b)) rfl (by rw [hml]) acts hkP hxP hkname hbootP hcodeM' hlocksM (by rw [hmnM, hmdM]; exact my_rMin_in p) hsig1 (by rw [hlocalsM]; rfl) (my_rMin_run ha hbn) hframes (by rw [hlocalsM]; show 2 * 0 + (rest.map fun v => v.category).sum + (4 + 11) ≤ R.locals; omega) (by rw [hb]; exact hdg) a1
theorem my_mmax (hexec : p.tables.exec = Jvm.exec) (hb : c.code = cc) (hml : c.maxLocals = ls.size) {own : String} {index : Nat} {y : MethodName} {bytes : ByteArray} (hy : y = ⟨"java/lang/Math", "max", "(DD)D"⟩) (hown : s.vm.findClass own = some m.cls) (hlink : (Cond.methodLink own index y).before args s = true) (hstat : (Cond.static y).before args s = true) (hinit : (Cond.initialized y.cls).before args s = true)
    (hcode : (Cond.code y bytes 4 (some .double)).before args s = true) {a b : UInt64} (ha : vf_n64 a) (hbn : vf_n64 b) (hframes : 1 ≤ R.frames) (hlocals : (rest.map fun v => v.category).sum + 15 ≤ R.locals) (hcs : cells ≤ R.cells ∧ slots ≤ R.slots) (hdg : decode cc pc = .ok (.invokestatic index, 3))
    (k : W p l e R s m args below meth c H locs cells slots Q (F0 m (pc + 3) ls (.double (Native.java_lang_Math.nans.pick64 true a b) :: rest))) : W p l e R s m args below meth c H locs cells slots Q (F0 m pc ls (.double b :: .double a :: rest)) := by
  intro T hT X
  subst hy
  obtain ⟨mk, hnamed⟩ := Cond.code_named hcode
  obtain ⟨methS, cS, hmethS, -, -, -, -, -, -, hsigS⟩ := Cond.code_spec hnamed hcode
  have hstatic := Cond.static_spec hnamed hmethS hstat
  obtain ⟨kS, hkS, -⟩ := className_of_methodNamed hnamed
  have hinitS : kS.init = .initialized := Cond.initialized_spec (findClass_of_methodNamed hnamed) hkS hinit
  obtain ⟨vm₁, X₁, hstep₁⟩ := X.invokestatic hexec hown hlink hnamed hmethS hstatic hkS hinitS (by decide) (g := F0 m pc ls (.double b :: .double a :: rest)) rfl (argsL := [.double a, .double b]) (rest := rest)
    (by have h := hsigS; rw [show parseMethodDescriptor "(DD)D" = some ⟨[.double, .double], some .double⟩ from by decide +kernel] at h; rw [← Option.some.inj h]; rfl) rfl (by rw [hb]; exact hdg)
  have hnamed₁ : (T.setVm vm₁).methodNamed? ⟨"java/lang/Math", "max", "(DD)D"⟩ = some mk := X₁.named hnamed
  have hcodeU : (Cond.code ⟨"java/lang/Math", "max", "(DD)D"⟩ bytes 4 (some .double)).before args (T.setVm vm₁) = true := Cond.tabsOnly_warm (args' := args) (T := T.setVm vm₁) X₁.warmed _ rfl hcode
  obtain ⟨methM, cM, hmethM, hcodeM', -, hlocalsM, -, hlocksM, -, hsigM⟩ := Cond.code_spec hnamed₁ hcodeU
  obtain ⟨kP, hkP, hkname⟩ := className_of_methodNamed hnamed₁
  obtain ⟨hmnM, hmdM⟩ := name_of_methodNamed hnamed₁ hmethM
  have hkP' : vm₁.classes[mk.cls]? = some kP := hkP
  have hxP : kP.methods[mk.idx]? = some methM := by simpa [Vm.method?, hkP'] using hmethM
  have hbootP : kP.loader = none := Vm.bootOf_findClass (findClass_of_methodNamed hnamed₁) hkP
  obtain ⟨t, a1, b1⟩ := k (T.setVm vm₁) hT X₁
  refine ⟨t, hstep₁ t fun acts => ?_, b1⟩
  have hsig1 : [Value.double a, Value.double b].length = methM.sig.parameters.length := by
    rw [show parseMethodDescriptor "(DD)D" = some ⟨[.double, .double], some .double⟩ from by decide +kernel] at hsigM; rw [← Option.some.inj hsigM]; rfl
  exact my_ownCall X₁ (g := F0 m pc ls rest) (As := [.double a, .double b]) (v := .double (Native.java_lang_Math.nans.pick64 true a b)) rfl (by rw [hml]) acts hkP hxP hkname hbootP hcodeM' hlocksM (by rw [hmnM, hmdM]; exact my_rMax_in p) hsig1 (by rw [hlocalsM]; rfl) (my_rMax_run ha hbn) hframes (by rw [hlocalsM]; show 2 * 0 + (rest.map fun v => v.category).sum + (4 + 11) ≤ R.locals; omega) (by rw [hb]; exact hdg) a1
/-- a call with much on the stack -/
def my_fitX (rm R : Room) (maxL : Nat) (rest : List Value) : Bool := Nat.ble (rm.frames + 1) R.frames && Nat.ble (16 + (maxL + 11) + rm.locals) R.locals && Nat.ble (rest.map fun v => v.category).sum 16
theorem my_fitX_spec {rm R : Room} {maxL : Nat} {rest : List Value} (h : my_fitX rm R maxL rest = true) : (rm.frames + 1 ≤ R.frames ∧ 16 + (maxL + 11) + rm.locals ≤ R.locals) ∧ (rest.map fun v => v.category).sum ≤ 16 := by
  simp only [my_fitX, Bool.and_eq_true, Nat.ble_eq] at h
  exact ⟨⟨h.1.1, h.1.2⟩, h.2⟩
theorem my_runVX {y : MethodName} {ws ws' : List Cond} {rm : Room} {bytes : ByteArray} {maxL index n nL : Nat} {ret : Option FieldType} {b : Nat} {As : List Value} {st0 : List Value} {Ts : List Cond} {own : String} {Pc : Array Value → State → Prop} {Qc : Array Value → State → Outcome → State → Prop} {free : Addr → Prop} (S : CallFix p m c cc nL s args Ts own) (hls : ls.size = nL) (hM : Met l y ws rm Pc Qc 0 0 free) (hw : ws = Cond.code y bytes maxL ret :: ws') (hrm : rm.cells = 0 ∧ rm.slots = 0) (hG : GoodIn Ts (wsV own index y.cls y ws)) (hok : my_ok y n = true) (hfit : my_fitX rm R maxL rest = true) (hcs : cells ≤ R.cells ∧ slots ≤ R.slots)
    (hpre : PreS s H Pc (.ref b :: As)) (hrecv : ∃ cell : Cell, H[b]? = some cell ∧ cell.vm.isStatics = false ∧ s.vm.findClass y.cls = some cell.cls) (hn : As.length = n) (hst : st0 = As.reverse ++ .ref b :: rest) (hdg : decode cc pc = .ok (.invokevirtual index, 3)) :
    va_Run p l e R s m args below meth c H locs cells slots 0 0 (F0 m pc ls st0) rest (Qc (Value.ref b :: As).toArray) free := by
  obtain ⟨hf, hr⟩ := my_fitX_spec hfit
  have cw := cwV n S.2.2.2.2 hG hw hrm.1 hrm.2 ⟨rfl, my_ok_spec hok⟩ (R := R) ⟨hf.1, by omega⟩
  have hK : Back l R p e below s args y 3 16 (PreOf R 0 0 Pc) (PostOf Qc 0 0 free) := by
    obtain ⟨hrc, hrs, hfr, hlo, hws, hcw, -, hini, -⟩ := cw.1
    exact back_of (bytes := bytes) (maxL := maxL) (ret := ret) hM hpre.1 hrc hrs hfr hf.2 hws hcw (fun a' U hW => word_at hW (Or.inl (by first | rfl | simp [Cond.onTables, Cond.keeps, Cond.steady])) hini)
  obtain ⟨⟨-, -, -, -, -, -, hcode, -, hy, hlen, hl⟩, hin, hse⟩ := cw
  obtain ⟨hx, hb, hml, ho, -⟩ := S
  obtain ⟨cellB, hcB, hoB, hclB⟩ := hrecv
  intro T hT X
  obtain ⟨v, vm₁, ⟨U', l2, c2, s2⟩, hW₁, X', ⟨g', mk, t, L, e1, e2, hq, h1, hL, h2, h3⟩, st⟩ := callV X hx (C := y.cls) (bytes := bytes) (maxL := maxL) (ret := ret) ho hl hin hse hcode hy hK (by rw [hT]; exact hcB) hoB hclB (g := F0 m pc ls st0) rfl (hls.trans hml.symm) (argsL := As) (rest := rest) (fun sig h => hn.trans (hlen sig h)) hst (by show 2 * 0 + _ ≤ 16; omega) (by rw [hb]; exact hdg)
    (fun vm₁ hW₁ => ⟨hcs.1, hcs.2, hpre.2 (T.setVm vm₁) hT hW₁⟩)
  dsimp only [Pt.U, Pt.locs, Pt.cells, Pt.slots] at X' e1 e2 h1 h2 h3 st
  subst h1; subst h2; subst h3
  exact ⟨v, (T.setVm vm₁).calling g' mk (Value.ref b :: As).toArray, t, U', L, hT, X', hL, e1, e2, hq, st⟩
end MYM
theorem s_min_pick {a b : UInt64} (ha : fx_p a) : Native.java_lang_Math.nans.pick64 false a b = s_min a b := by
  unfold Native.java_lang_Math.nans.pick64 s_min sp_lt
  have hs : (a >>> 63 == 1) = false := by
    refine beq_eq_false_iff_ne.mpr (fun h => ?_)
    have h2 := congrArg UInt64.toNat h
    rw [UInt64.toNat_shiftRight] at h2
    have h3 : a.toNat >>> 63 = 1 := h2
    rw [Nat.shiftRight_eq_div_pow] at h3
    unfold fx_p at ha; omega
  cases hc : FP.dcmp a b with
  | none => simp [hs]
  | some o => cases o <;> simp [hs]
def s_max (a b : UInt64) : UInt64 := if sp_gt a b then a else b
theorem s_max_pick {a b : UInt64} (na : fx_n a) (nb : fx_n b) (ma : fx_m a) (mb : fx_m b) : Native.java_lang_Math.nans.pick64 true a b = s_max a b := by
  unfold Native.java_lang_Math.nans.pick64 s_max sp_gt
  rcases Int.lt_trichotomy (fx_k a) (fx_k b) with h | h | h
  · have h1 := (fx_lt na nb).mpr h
    rw [h1]; simp
  · have h1 := (fx_eq na nb).mpr h
    have h2 := fx_inj h ma mb
    subst h2
    rw [h1]; simp
  · have h1 := (fx_gt na nb).mpr h
    rw [h1]; simp
theorem s_min_pick2 {a b : UInt64} (na : fx_n a) (nb : fx_n b) (ma : fx_m a) (mb : fx_m b) : Native.java_lang_Math.nans.pick64 false a b = s_min a b := by
  unfold Native.java_lang_Math.nans.pick64 s_min sp_lt
  rcases Int.lt_trichotomy (fx_k a) (fx_k b) with h | h | h
  · have h1 := (fx_lt na nb).mpr h
    rw [h1]; simp
  · have h1 := (fx_eq na nb).mpr h
    have h2 := fx_inj h ma mb
    subst h2
    rw [h1]; simp
  · have h1 := (fx_gt na nb).mpr h
    rw [h1]; simp
/-- the magnitude by its bits -/
def s_ab (x : UInt64) : UInt64 := x &&& 0x7fffffffffffffff
theorem s_ab_nat (x : UInt64) : (s_ab x).toNat = x.toNat % 2 ^ 63 := by
  unfold s_ab
  rw [UInt64.toNat_and, show (0x7fffffffffffffff : UInt64).toNat = 2 ^ 63 - 1 by decide, Nat.and_two_pow_sub_one_eq_mod]
theorem s_ab_n {x : UInt64} (h : fx_n x) : fx_n (s_ab x) := by
  rw [fx_nb] at h ⊢; rw [s_ab_nat]; omega
theorem s_ab_k (x : UInt64) : fx_k (s_ab x) = ((fx_k x).natAbs : Int) := by
  rw [fx_k_abs, fx_k_pos (by unfold fx_p; rw [s_ab_nat]; omega), s_ab_nat]
theorem s_ab_mg {x c : UInt64} (h : fx_n x) (hc : fx_n c) : sp_lt (s_ab x) c ↔ sp_lt (s_mg x) c := by
  have h1 := fx_lt (s_ab_n h) hc
  have h2 := fx_lt (s_mg_n h) hc
  unfold sp_lt
  rw [h1, h2, s_ab_k, s_mg_k h]
  split <;> omega
theorem fx_refl {a : UInt64} (h : fx_n a) : sp_eq a a := (fx_eq h h).mpr rfl
/-! a method that reads the script too: contracts beside the world -/
abbrev my_RX (l : Launch) (D : va_G) (kd ki kz kl : ClassId) (z : Nat) (y : MethodName) (ws : List Cond) (rm : Room) (av : List Value) (b L : Nat) (xs : Nat → Int32) (v : Option Value) : Prop :=
  Met l y ws rm (va_Pc av (fun U => my_C D kd ki kz kl z U U.heap ∧ va_X b L xs U U.heap ∧ b < U.heap.size)) (fun _ st o t => o = .returned v ∧ t.heap = st.heap) 0 0 (fun _ => False)
theorem my_RX_of {l : Launch} {D : va_G} {kd ki kz kl : ClassId} {z : Nat} {y : MethodName} {ws ws' : List Cond} {rm : Room} {av : List Value} {b L : Nat} {xs : Nat → Int32} {v : Option Value} {cc : ByteArray} {maxL : Nat} {ret : Option FieldType}
    (hy : plainName y.cls = true) (hw : ws = Cond.code y cc maxL ret :: ws') (hn : (lg_sl av).length ≤ maxL)
    (body : ∀ (p : Program) (e : Env) (s : State) (m : MethodId) (below : List Frame) (meth : Method) (c : Code), CallFix p m c cc maxL s av.toArray ws y.cls → meth.sig.returnType = ret → meth.locks = false → my_C D kd ki kz kl z s s.heap → va_X b L xs s s.heap → b < s.heap.size → ∀ ls : Array Slot, lv_has ls maxL (lv_args 0 av) →
      W p l e rm s m av.toArray below meth c s.heap [] 0 0 (my_RQ below av.toArray s v) (F0 m 0 ls [])) : my_RX l D kd ki kz kl z y ws rm av b L xs v := by
  refine Met.ofW (cc := cc) (maxL := maxL) (ret := ret) hy hw ?_
  intro p e s m args below meth c s₁ B hml hv
  obtain ⟨rfl, hC, hX, hbl⟩ := hv
  have hts := atoms_spec (ws := ws) B.pre
  have hl := lv_entry av (n := maxL) hn
  rw [lg_entry_eq]
  exact body p e s m below meth c ⟨B.exec, B.bytes, hml, findClass_of_methodNamed B.named, hts⟩ B.returns B.notSynchronized hC hX hbl _ hl
abbrev my_WX (l : Launch) (D : va_G) (kd ki kz kl : ClassId) (z : Nat) (y : MethodName) (ws : List Cond) (rm : Room) (av : List Value) (wc w1 : va_W) (b L : Nat) (xs : Nat → Int32) (v : Option Value) : Prop :=
  Met l y ws rm (va_Pc av (fun U => my_C D kd ki kz kl z U U.heap ∧ va_P D vwCl wc U.heap ∧ va_D (fun q => z ≤ q) wc ∧ va_X b L xs U U.heap ∧ b < U.heap.size ∧ ¬ z ≤ b)) (fun _ st o t => o = .returned v ∧ va_P D vwCl w1 t.heap ∧ va_F (my_A wc) st t) 0 0 (my_A wc)
theorem my_WX_of {l : Launch} {D : va_G} {kd ki kz kl : ClassId} {z : Nat} {y : MethodName} {ws ws' : List Cond} {rm : Room} {av : List Value} {wc w1 : va_W} {b L : Nat} {xs : Nat → Int32} {v : Option Value} {cc : ByteArray} {maxL : Nat} {ret : Option FieldType}
    (hy : plainName y.cls = true) (hw : ws = Cond.code y cc maxL ret :: ws') (hn : (lg_sl av).length ≤ maxL)
    (body : ∀ (p : Program) (e : Env) (s : State) (m : MethodId) (below : List Frame) (meth : Method) (c : Code), CallFix p m c cc maxL s av.toArray ws y.cls → meth.sig.returnType = ret → meth.locks = false → my_C D kd ki kz kl z s s.heap → va_P D vwCl wc s.heap → va_D (my_A wc) wc → (∀ q, my_A wc q → z ≤ q) → va_S (my_A wc) s.heap s.heap [] → va_X b L xs s s.heap → b < s.heap.size → ¬ my_A wc b → ∀ ls : Array Slot, lv_has ls maxL (lv_args 0 av) →
      W p l e rm s m av.toArray below meth c s.heap [] 0 0 (my_WQ below D av.toArray s wc w1 v) (F0 m 0 ls [])) : my_WX l D kd ki kz kl z y ws rm av wc w1 b L xs v := by
  refine Met.ofW (cc := cc) (maxL := maxL) (ret := ret) hy hw ?_
  intro p e s m args below meth c s₁ B hml hv
  obtain ⟨rfl, hC, hP, hD, hX, hbl, hbz⟩ := hv
  have hts := atoms_spec (ws := ws) B.pre
  have hl := lv_entry av (n := maxL) hn
  rw [lg_entry_eq]
  have hz : ∀ q, my_A wc q → z ≤ q := fun q hq => by
    obtain ⟨e9, he, rfl⟩ := List.mem_map.mp hq
    obtain ⟨k, hk⟩ := List.getElem?_of_mem he
    exact hD.2 k e9 hk
  refine body p e s m below meth c ⟨B.exec, B.bytes, hml, findClass_of_methodNamed B.named, hts⟩ B.returns B.notSynchronized hC hP ⟨hD.1, fun k q hk => ?_⟩ hz va_S.rf hX hbl (fun h => hbz (hz b h)) _ hl
  exact List.mem_map.mpr ⟨q, List.mem_of_getElem? hk, rfl⟩
section MYX
variable {p : Program} {l : Launch} {e : Env} {R : Room} {s : State} {m : MethodId} {args : Array Value} {below : List Frame} {meth : Method} {c : Code} {H : Heap} {locs : List Loc} {cells slots : Nat} {Q : State → Prop}
variable {D : va_G} {kd ki kz kl : ClassId} {z : Nat} {cc : ByteArray} {nL pc : Nat} {ls : Array Slot} {st0 rest : List Value} {own : String} {A : Nat → Prop} {H0 : Heap} {wc : va_W}
theorem my_preX {As : List Value} {b L : Nat} {xs : Nat → Int32} (hC : my_C D kd ki kz kl z s H) (hX : va_X b L xs s H) (hb : b < H.size) : PreS s H (va_Pc As (fun U => my_C D kd ki kz kl z U U.heap ∧ va_X b L xs U U.heap ∧ b < U.heap.size)) As :=
  ⟨fun _ U _ _ q => ⟨q.1, my_C_calling q.2.1, va_X.moved (u := U) (Vm.Alike.refl U.vm) q.2.2.1, q.2.2.2⟩, fun U hU hW => ⟨rfl, by rw [hU]; exact my_C_warm hW hC, by rw [hU]; exact va_X.moved hW.alike hX, by rw [hU]; exact hb⟩⟩
theorem my_preXW {As : List Value} {b L : Nat} {xs : Nat → Int32} (hC : my_C D kd ki kz kl z s H) (hP : va_P D vwCl wc H) (hD : va_D (fun q => z ≤ q) wc) (hX : va_X b L xs s H) (hb : b < H.size) (hbz : ¬ z ≤ b) : PreS s H (va_Pc As (fun U => my_C D kd ki kz kl z U U.heap ∧ va_P D vwCl wc U.heap ∧ va_D (fun q => z ≤ q) wc ∧ va_X b L xs U U.heap ∧ b < U.heap.size ∧ ¬ z ≤ b)) As :=
  ⟨fun _ U _ _ q => ⟨q.1, my_C_calling q.2.1, q.2.2.1, q.2.2.2.1, va_X.moved (u := U) (Vm.Alike.refl U.vm) q.2.2.2.2.1, q.2.2.2.2.2⟩, fun U hU hW => ⟨rfl, by rw [hU]; exact my_C_warm hW hC, by rw [hU]; exact hP, hD, by rw [hU]; exact va_X.moved hW.alike hX, by rw [hU]; exact hb, hbz⟩⟩
theorem my_XS {b L : Nat} {xs : Nat → Int32} (hX : va_X b L xs s H0) (hbl : b < H0.size) (hbA : ¬ A b) (hS : va_S A H0 H locs) : va_X b L xs s H := hX.kept (hS.2.1 b hbl hbA)
theorem my_bS {b : Nat} (hbl : b < H0.size) (hS : va_S A H0 H locs) : b < H.size := Nat.lt_of_lt_of_le hbl hS.1
theorem my_sld (hexec : p.tables.exec = Jvm.exec) (hb : c.code = cc) {b L k : Nat} {xs : Nat → Int32} (hX : va_X b L xs s H0) (hbl : b < H0.size) (hbA : ¬ A b) (hS : va_S A H0 H locs) (hk : k < L) (hL : L < 2 ^ 31) (hdg : decode cc pc = .ok (.iaload, 1))
    (kk : W p l e R s m args below meth c H locs cells slots Q (F0 m (pc + 1) ls (.int (xs k) :: rest))) : W p l e R s m args below meth c H locs cells slots Q (F0 m pc ls (.int (nI k) :: .ref b :: rest)) :=
  va_sld hexec hb hX hbl hbA hS (vp_in_nI hk hL) hdg (by rw [nI_clamp (by omega)]; exact kk)
end MYX

