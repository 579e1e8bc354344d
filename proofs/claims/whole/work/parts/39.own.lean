/-! Math.abs and Math.min of doubles: the machine has an entry of its own for each and runs it in place of the bytecode. The call is walked here from the machine's step, by the base of the library alone. -/
section MYO
variable {p : Program} {l : Launch} {e : Env} {R : Room} {s : State} {m : MethodId} {args : Array Value} {below : List Frame} {meth : Method} {c : Code} {T : State} {locs : List Loc} {cells slots : Nat}
/-- the values that stand in a frame's variables, in their order -/
def my_gv (ls : Array Slot) : Array Value := (ls.toList.filterMap (fun q => match q with | .val v => some v | _ => none)).toArray
/-- the step at the frame just made: the entry runs, on the values given -/
theorem my_ownStep {tb : Tables} {S : State} {mk : MethodId} {As : List Value} {n : Nat} {r : List Frame} {k : Class} {x : Method} {row : NativeRow}
    (hF : S.frames = .java (entryFrame mk As.toArray n) :: r) (hk : S.vm.classes[mk.cls]? = some k) (hx : k.methods[mk.idx]? = some x) (hn : k.name = "java/lang/Math") (hb : k.loader = none)
    (hrow : NativeRow.find? tb.natives "java/lang/Math" x.name x.desc = some row) (hAs : (my_gv (argsToLocals As.toArray n)).extract 0 (argCount S mk) = As.toArray) :
    stepThread tb e S = afterNative e { method := mk, args := As.toArray, locked := none } r ((row.sem As.toArray).run e (S.setFrames (.native { method := mk, args := As.toArray, locked := none } :: r))) := by
  have hov : overridden tb e S (entryFrame mk As.toArray n) = some row := by
    simp [overridden, entryFrame, hk, hx, hb, hrow, hn, overriddenIn]
  have hst : stepThread tb e S = afterNative e { method := mk, args := (my_gv (argsToLocals As.toArray n)).extract 0 (argCount S mk), locked := none } r ((row.sem ((my_gv (argsToLocals As.toArray n)).extract 0 (argCount S mk))).run e (S.setFrames (.native { method := mk, args := (my_gv (argsToLocals As.toArray n)).extract 0 (argCount S mk), locked := none } :: r))) := by
    unfold stepThread
    simp only [hF, hov]
    rfl
  rw [hst, hAs]
theorem my_cut {As : List Value} {n : Nat} (h : As.length ≤ n) : (As.toArray).extract 0 n = As.toArray := by
  apply Array.toList_inj.mp
  simp [List.take_of_length_le h]
/-- the call from its invocation to the caller's next instruction -/
theorem my_ownCall (X : Stand p l e R s m args below meth c T locs cells slots) {g : JFrame} (hg : g.method = m) (hsize : g.locals.size = c.maxLocals) {mk : MethodId} {k : Class} {x : Method} {cx : Code} {As : List Value} {row : NativeRow} {v : Value} {i : Instr} {len : Nat} {t : State} (acts : List Action)
    (hk : T.vm.classes[mk.cls]? = some k) (hx : k.methods[mk.idx]? = some x) (hn : k.name = "java/lang/Math") (hb : k.loader = none) (hc : x.code = some cx) (hl : x.locks = false)
    (hrow : NativeRow.find? p.tables.natives "java/lang/Math" x.name x.desc = some row) (hpar : As.length = x.sig.parameters.length) (hgv : my_gv (argsToLocals As.toArray cx.maxLocals) = As.toArray)
    (hrun : ∀ U : State, ∃ acts2, (row.sem As.toArray).run e U = .ok (some v) U acts2)
    (hfr : 1 ≤ R.frames) (hlo : 2 * g.monitorRoom + (g.stack.map fun v => v.category).sum + (cx.maxLocals + 11) ≤ R.locals)
    (hd : decode c.code g.pc = .ok (i, len)) (hrest : Steps p.tables e below (T.setTop { g with pc := g.pc + len, stack := v :: g.stack }) t) :
    Steps p.tables e below (doInvoke e (T.setTop g) acts mk As.toArray).1 t := by
  obtain ⟨g0, hF0⟩ := X.frames_eq
  have hcur : T.cur < T.threads.size := State.cur_lt_of_frames hF0
  have hm : (T.setTop g).vm.method? mk = some x := by
    show T.vm.method? mk = some x
    simp [Vm.method?, hk, hx]
  rw [(doInvoke_java (s := T.setTop g) (e := e) (acts := acts) (args := As.toArray) hm hc hl (X.notFull hsize hfr hlo)).1]
  have hU : (T.setTop g).pushFrame (.java { method := mk, pc := 0, locals := argsToLocals As.toArray cx.maxLocals, stack := [], locked := none }) = T.setFrames (.java (entryFrame mk As.toArray cx.maxLocals) :: .java g :: below) := by
    rw [State.pushFrame, State.frames_setTop _ hF0, State.setTop_of_frames _ hF0, State.setFrames_setFrames]
    rfl
  rw [hU]
  have hF : (T.setFrames (.java (entryFrame mk As.toArray cx.maxLocals) :: .java g :: below)).frames = .java (entryFrame mk As.toArray cx.maxLocals) :: .java g :: below := State.frames_setFrames _ hcur
  refine Steps.head ⟨X.here.running, by simpa using X.here.runnable, by simpa using X.here.alone⟩ ⟨[.java (entryFrame mk As.toArray cx.maxLocals), .java g], by rw [hF]; rfl, by simp, by simp⟩ ?_
  have hcount : As.length ≤ argCount (T.setFrames (.java (entryFrame mk As.toArray cx.maxLocals) :: .java g :: below)) mk := by
    have h0 : argCount (T.setFrames (.java (entryFrame mk As.toArray cx.maxLocals) :: .java g :: below)) mk = argCount T mk := rfl
    rw [h0]
    simp [argCount, hk, hx, hpar]
  rw [my_ownStep hF (k := k) (x := x) (row := row) hk hx hn hb hrow (by rw [hgv]; exact my_cut hcount), State.setFrames_setFrames]
  obtain ⟨acts2, hr⟩ := hrun (T.setFrames (.native { method := mk, args := As.toArray, locked := none } :: .java g :: below))
  rw [hr]
  have hcode : (T.setFrames (.native { method := mk, args := As.toArray, locked := none } :: .java g :: below)).code? g.method = some c := by
    have h9 := X.here.code
    rw [hg]; rw [State.code?_eq] at h9 ⊢
    exact h9
  have hfs : handOver (T.setFrames (.native { method := mk, args := As.toArray, locked := none } :: .java g :: below)) (some v) (.java g :: below) = some (.java { g with pc := g.pc + len, stack := v :: g.stack } :: below) := by
    simp [handOver, hcode, hd, Except.toOption]
  show Steps p.tables e below (doReturn e _ acts2 (some v)).1 t
  rw [doReturn_native (f := { method := mk, args := As.toArray, locked := none }) (below := .java g :: below) (State.frames_setFrames _ hcur) rfl hfs, State.setFrames_setFrames, ← State.setTop_of_frames _ hF0]
  exact hrest
def my_rAbs : NativeRow := (NativeRow.find? Native.java_lang_Math.nans.rows "java/lang/Math" "abs" "(D)D").get (by decide +kernel)
def my_rMin : NativeRow := (NativeRow.find? Native.java_lang_Math.nans.rows "java/lang/Math" "min" "(DD)D").get (by decide +kernel)
set_option maxRecDepth 100000 in
theorem my_rAbs_in (p : Program) : NativeRow.find? p.tables.natives "java/lang/Math" "abs" "(D)D" = some my_rAbs := by cases p <;> rfl
set_option maxRecDepth 100000 in
theorem my_rMin_in (p : Program) : NativeRow.find? p.tables.natives "java/lang/Math" "min" "(DD)D" = some my_rMin := by cases p <;> rfl
theorem my_rAbs_run {a : UInt64} (ha : vf_n64 a) (U : State) : ∃ acts, (my_rAbs.sem #[.double a]).run e U = .ok (some (.double (a &&& 0x7fffffffffffffff))) U acts := by
  have h0 : (a &&& 0x7fffffffffffffff) &&& 0x7fffffffffffffff ≤ 0x7ff0000000000000 := by rw [UInt64.and_assoc, UInt64.and_self]; exact ha
  have h1 : my_rAbs.sem #[.double a] = (anyNaN64 (a &&& 0x7fffffffffffffff) >>= fun r => mark "nat.java_lang_Math.abs" >>= fun _ => Pure.pure (some (.double r))) := rfl
  have h2 : anyNaN64 (a &&& 0x7fffffffffffffff) = Pure.pure (a &&& 0x7fffffffffffffff) := by unfold anyNaN64; exact if_pos h0
  rw [h1, h2]
  exact ⟨_, rfl⟩
theorem my_nn {a : UInt64} (ha : vf_n64 a) : FP.dIsNaN a = false := by
  have h1 : a.toNat % 2 ^ 63 ≤ 9218868437227405312 := by
    have h2 : a &&& 0x7fffffffffffffff ≤ 0x7ff0000000000000 := ha
    rw [UInt64.le_iff_toNat_le, FP.Core.mask_toNat] at h2; exact h2
  have h3 : FP.Core.val64 a ≠ .nan := (FP.Core.ne_nan a).mpr h1
  exact decide_eq_false h3
theorem my_rMin_run {a b : UInt64} (ha : vf_n64 a) (hb : vf_n64 b) (U : State) : ∃ acts, (my_rMin.sem #[.double a, .double b]).run e U = .ok (some (.double (Native.java_lang_Math.nans.pick64 false a b))) U acts := by
  have h1 : my_rMin.sem #[.double a, .double b] = (do
      let r ← if FP.dIsNaN a then anyNaN64 a else if FP.dIsNaN b then anyNaN64 b else Pure.pure (Native.java_lang_Math.nans.pick64 false a b)
      mark "nat.java_lang_Math.min"
      Pure.pure (some (.double r))) := rfl
  rw [h1]
  simp only [my_nn ha, my_nn hb, Bool.false_eq_true, if_false, ite_false]
  exact ⟨_, rfl⟩
end MYO

