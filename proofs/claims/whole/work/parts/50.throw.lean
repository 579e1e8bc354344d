/-! what throws: the world stays, one thing more lies in the heap -/
abbrev my_XC (E : String) : String → State → State → Prop := fun E' st t => E' = E ∧ va_F (fun _ => False) st t
abbrev my_TX (l : Launch) (D : va_G) (kd ki kz kl : ClassId) (z : Nat) (y : MethodName) (ws : List Cond) (rm : Room) (av : List Value) (wc : va_W) (E : String) : Prop :=
  vx_Met l y ws rm (va_Pc av (fun U => my_C D kd ki kz kl z U U.heap ∧ va_P D vwCl wc U.heap)) (fun _ _ _ _ => False) (my_XC E) 1 6 (fun _ => False)
abbrev my_TQ (below : List Frame) (args : Array Value) (s : State) (E : String) : State → Prop := vx_MQ below (fun _ _ _ _ => False) (my_XC E) args s 1 6 (fun _ => False)
theorem my_TX_of {l : Launch} {D : va_G} {kd ki kz kl : ClassId} {z : Nat} {y : MethodName} {ws ws' : List Cond} {rm : Room} {av : List Value} {wc : va_W} {E : String} {cc : ByteArray} {maxL : Nat} {ret : Option FieldType}
    (hy : plainName y.cls = true) (hw : ws = Cond.code y cc maxL ret :: ws') (hn : (lg_sl av).length ≤ maxL)
    (body : ∀ (p : Program) (e : Env) (s : State) (m : MethodId) (below : List Frame) (meth : Method) (c : Code), CallFix p m c cc maxL s av.toArray ws y.cls → meth.sig.returnType = ret → meth.locks = false → (∀ x ∈ c.exceptionTable.toList, False) → my_C D kd ki kz kl z s s.heap → va_P D vwCl wc s.heap → ∀ ls : Array Slot, lv_has ls maxL (lv_args 0 av) →
      W p l e rm s m av.toArray below meth c s.heap [] 0 0 (my_TQ below av.toArray s E) (F0 m 0 ls [])) : my_TX l D kd ki kz kl z y ws rm av wc E := by
  refine vx_ofW (cc := cc) (maxL := maxL) (ret := ret) hy hw ?_
  intro p e s m args below meth c s₁ B hml hno hv
  obtain ⟨rfl, hC, hP⟩ := hv
  have hts := atoms_spec (ws := ws) B.pre
  have hl := lv_entry av (n := maxL) hn
  rw [lg_entry_eq]
  exact body p e s m below meth c ⟨B.exec, B.bytes, hml, findClass_of_methodNamed B.named, hts⟩ B.returns B.notSynchronized hno hC hP _ hl
def my_bad (E : String) : List Cond := [.castable E E, .declares ⟨"java/lang/RuntimeException", "<init>", "(Ljava/lang/String;)V"⟩, .declares ⟨"java/lang/Exception", "<init>", "(Ljava/lang/String;)V"⟩, .declares ⟨"java/lang/Throwable", "<init>", "(Ljava/lang/String;)V"⟩]
section MYT
variable {p : Program} {l : Launch} {e : Env} {R : Room} {s : State} {m : MethodId} {args : Array Value} {below : List Frame} {meth : Method} {c : Code} {H : Heap} {locs : List Loc} {cells slots : Nat} {Q : State → Prop}
variable {D : va_G} {kd ki kz kl : ClassId} {z : Nat} {cc : ByteArray} {nL pc : Nat} {ls : Array Slot} {st0 rest : List Value} {Ts : List Cond} {own : String}
variable {y : MethodName} {ws ws' : List Cond} {rm : Room} {bytes : ByteArray} {maxL index n : Nat} {ret : Option FieldType} {wc : va_W} {b : Nat} {As : List Value} {E : String}
/-- an exception's words but those of the heap -/
theorem my_hat {own : String} {ic : Nat} {names : List String} (hC : my_C D kd ki kz kl z s s.heap) (hcast : (Cond.castable E E) ∈ my_nest) (h1 : ∀ w ∈ (vx_atS own ic E names).filter goodWord, w.before args s = true) (h2 : ∀ w ∈ (vx_atS own ic E names).filter (fun w => !goodWord w), w ∈ my_bad E) : ∀ w ∈ vx_atS own ic E names, w.before args s = true :=
  vx_hat h1 h2 (vx_c (va_Nw.use (w := Cond.castable E E) rfl (hC.2.1 _ hcast)) (vx_c (va_Nw.use (w := .declares ⟨"java/lang/RuntimeException", "<init>", "(Ljava/lang/String;)V"⟩) rfl (hC.2.1 _ (List.mem_of_getElem? (l := my_nest) (i := 23) rfl)))
    (vx_c (va_Nw.use (w := .declares ⟨"java/lang/Exception", "<init>", "(Ljava/lang/String;)V"⟩) rfl (hC.2.1 _ (List.mem_of_getElem? (l := my_nest) (i := 24) rfl))) (vx_c (va_Nw.use (w := .declares ⟨"java/lang/Throwable", "<init>", "(Ljava/lang/String;)V"⟩) rfl (hC.2.1 _ (List.mem_of_getElem? (l := my_nest) (i := 25) rfl))) vx_n))))
theorem my_throwS {ik is ic : Nat} {text : String} {names : List String} (S : CallFix p m c cc nL s args Ts RX6) (hls : ls.size = nL) (hfl : l.stackTraces = false) (hno : ∀ x ∈ c.exceptionTable.toList, False) (hlocks : meth.locks = false) (hC : my_C D kd ki kz kl z s s.heap)
    (hcls : Bundle.fit E = true) (hnames : ∀ n ∈ names, Bundle.fit n = true) (hk : Cond.classLink RX6 ik E ∈ Ts) (hini : Cond.initialized E ∈ Ts) (hstr : (is, text) ∈ my_strs) (hgw : ∀ w ∈ (vx_atS RX6 ic E names).filter goodWord, w ∈ Ts) (hcast : (Cond.castable E E) ∈ my_nest)
    (h2 : ∀ w ∈ (vx_atS RX6 ic E names).filter (fun w => !goodWord w), w ∈ my_bad E) (hgood : ∀ w ∈ Cond.classLink RX6 ik E :: Cond.initialized E :: vx_atS RX6 ic E names, vx_ot w = true)
    (d0 : decode cc pc = .ok (.new ik, 3)) (d3 : decode cc (pc + 3) = .ok (.dup, 1)) (d4 : decode cc (pc + 4) = .ok (.ldc is, 2)) (d6 : decode cc (pc + 6) = .ok (.invokespecial ic, 3)) (d9 : decode cc (pc + 9) = .ok (.athrow, 1))
    (hR : names.length + 3 < R.frames ∧ 13 * (names.length + 1) + 43 ≤ R.locals ∧ 1 ≤ R.cells ∧ 6 ≤ R.slots) :
    W p l e R s m args below meth c s.heap [] 0 0 (my_TQ below args s E) (F0 m pc ls []) := by
  obtain ⟨hx, hb, hml, hown, hts⟩ := S
  obtain ⟨sa, hsa⟩ := hC.2.2.2.2.2 _ hstr
  exact vx_throwS (A := fun q => z ≤ q) hx hb hfl hown hcls hnames (hts _ hk) (hts _ hini) hsa (my_hat hC hcast (fun w hw => hts w (hgw w hw)) h2) hgood hC.2.2.2.1 hC.2.2.2.2.1 va_S.rf (hls.trans hml.symm) d0 d3 d4 d6 d9 (fun x hx => (hno x hx).elim)
    hR.1 (by show 0 + _ ≤ _; omega) (by omega) (by omega) hlocks (fun t _ h1 h2 => ⟨rfl, h1, fun q hq _ => h2 q hq⟩) (fun z hz => absurd hz List.not_mem_nil) (by omega) (by omega)
theorem my_throwSW {ik is ic : Nat} {text : String} {names : List String} (S : CallFix p m c cc nL s args Ts RX6) (hls : ls.size = nL) (hfl : l.stackTraces = false) (hno : ∀ x ∈ c.exceptionTable.toList, False) (hlocks : meth.locks = false) (hC : my_C D kd ki kz kl z s s.heap)
    (hcls : Bundle.fit E = true) (hnames : ∀ n ∈ names, Bundle.fit n = true) (hk : Cond.classLink RX6 ik E ∈ Ts) (hini : Cond.initialized E ∈ Ts) (hstr : (is, text) ∈ my_strs) (hgw : ∀ w ∈ (vx_atS RX6 ic E names).filter goodWord, w ∈ Ts) (hcast : (Cond.castable E E) ∈ my_nest)
    (h2 : ∀ w ∈ (vx_atS RX6 ic E names).filter (fun w => !goodWord w), w ∈ my_bad E) (hgood : ∀ w ∈ Cond.classLink RX6 ik E :: Cond.initialized E :: vx_atS RX6 ic E names, vx_ot w = true)
    (d0 : decode cc pc = .ok (.new ik, 3)) (d3 : decode cc (pc + 3) = .ok (.dup, 1)) (d4 : decode cc (pc + 4) = .ok (.ldc_w is, 3)) (d7 : decode cc (pc + 7) = .ok (.invokespecial ic, 3)) (d10 : decode cc (pc + 10) = .ok (.athrow, 1))
    (hR : names.length + 3 < R.frames ∧ 13 * (names.length + 1) + 43 ≤ R.locals ∧ 1 ≤ R.cells ∧ 6 ≤ R.slots) :
    W p l e R s m args below meth c s.heap [] 0 0 (my_TQ below args s E) (F0 m pc ls []) := by
  obtain ⟨hx, hb, hml, hown, hts⟩ := S
  obtain ⟨sa, hsa⟩ := hC.2.2.2.2.2 _ hstr
  exact vx_throwSW (A := fun q => z ≤ q) hx hb hfl hown hcls hnames (hts _ hk) (hts _ hini) hsa (my_hat hC hcast (fun w hw => hts w (hgw w hw)) h2) hgood hC.2.2.2.1 hC.2.2.2.2.1 va_S.rf (hls.trans hml.symm) d0 d3 d4 d7 d10 (fun x hx => (hno x hx).elim)
    hR.1 (by show 0 + _ ≤ _; omega) (by omega) (by omega) hlocks (fun t _ h1 h2 => ⟨rfl, h1, fun q hq _ => h2 q hq⟩) (fun z hz => absurd hz List.not_mem_nil) (by omega) (by omega)
def my_fitT (rm R : Room) (maxL : Nat) (rest : List Value) : Bool := my_fit rm R maxL rest && (Nat.ble 1 R.cells && Nat.ble 6 R.slots)
theorem my_fitT_spec (h : my_fitT rm R maxL rest = true) : ((rm.frames + 1 ≤ R.frames ∧ 8 + (maxL + 11) + rm.locals ≤ R.locals) ∧ (rest.map fun v => v.category).sum ≤ 8) ∧ 1 ≤ R.cells ∧ 6 ≤ R.slots := by
  simp only [my_fitT, Bool.and_eq_true, Nat.ble_eq] at h
  exact ⟨my_fit_spec h.1, h.2.1, h.2.2⟩
theorem my_runT {Pc : Array Value → State → Prop} {XC : String → State → State → Prop} {free : Addr → Prop} {Qc : Array Value → State → Outcome → State → Prop} (S : CallFix p m c cc nL s args Ts own) (hls : ls.size = nL) (hM : vx_Met l y ws rm Pc Qc XC 1 6 free) (hw : ws = Cond.code y bytes maxL ret :: ws') (hrm : rm.cells = 1 ∧ rm.slots = 6) (hG : GoodIn Ts (wsV own index y.cls y ws)) (hok : my_ok y n = true) (hfit : my_fitT rm R maxL rest = true)
    (hpre : PreS s H Pc (.ref b :: As)) (hrecv : ∃ cell : Cell, H[b]? = some cell ∧ cell.vm.isStatics = false ∧ s.vm.findClass y.cls = some cell.cls) (hn : As.length = n) (hst : st0 = As.reverse ++ .ref b :: rest) (hdg : decode cc pc = .ok (.invokevirtual index, 3)) :
    vx_Run p l e R s m args below meth c H locs 0 0 1 6 (F0 m pc ls st0) rest (Qc (Value.ref b :: As).toArray) XC free :=
  vx_runV S hM (cwV n S.2.2.2.2 hG hw hrm.1 hrm.2 ⟨rfl, my_ok_spec hok⟩ (my_fitT_spec hfit).1.1) ⟨hpre.1, hrecv, hpre.2⟩ rfl hn hls hst (lv_room (my_fitT_spec hfit).1.2) hdg ⟨by have := (my_fitT_spec hfit).2.1; omega, by have := (my_fitT_spec hfit).2.2; omega⟩
theorem my_runTS {Pc : Array Value → State → Prop} {XC : String → State → State → Prop} {free : Addr → Prop} {Qc : Array Value → State → Outcome → State → Prop} (S : CallFix p m c cc nL s args Ts own) (hls : ls.size = nL) (hM : vx_Met l y ws rm Pc Qc XC 1 6 free) (hw : ws = Cond.code y bytes maxL ret :: ws') (hrm : rm.cells = 1 ∧ rm.slots = 6) (hG : GoodIn Ts (va_wsS own index y ws)) (hok : my_ok y n = true) (hfit : my_fitT rm R maxL rest = true)
    (hpre : PreS s H Pc As) (hn : As.length = n) (hst : st0 = As.reverse ++ rest) (hdg : decode cc pc = .ok (.invokestatic index, 3)) :
    vx_Run p l e R s m args below meth c H locs 0 0 1 6 (F0 m pc ls st0) rest (Qc As.toArray) XC free :=
  vx_runS S hM (va_cwS n S.2.2.2.2 hG hw hrm.1 hrm.2 (my_ok_spec hok) (my_fitT_spec hfit).1.1) hpre rfl hn hls hst (lv_room (my_fitT_spec hfit).1.2) hdg ⟨by have := (my_fitT_spec hfit).2.1; omega, by have := (my_fitT_spec hfit).2.2; omega⟩
/-- it goes on to the caller -/
theorem my_goX (hr : vx_Run p l e R s m args below meth c s.heap [] 0 0 1 6 (F0 m pc ls st0) rest (fun _ _ _ => False) (my_XC E) (fun _ => False)) (hno : ∀ x ∈ c.exceptionTable.toList, False) (hlocks : meth.locks = false) :
    W p l e R s m args below meth c s.heap [] 0 0 (my_TQ below args s E) (F0 m pc ls st0) := by
  intro T hT X
  rcases hr T hT X with ⟨v, st₀, t, T', L, h0, X', hL, e1, e2, hf, st⟩ | ⟨q, st₀, t, T', L, E9, ce, h0, X', hL, e1, e2, ⟨hE, hF⟩, hce, hcv, hcl, st⟩
  · exact hf.elim
  · obtain ⟨t9, a1, b1⟩ := vx_out (Qc := fun _ _ _ _ => False) (XC := my_XC E) (mc := 1) (ms := 6) (free := fun _ => False) (pc := pc) (ls := ls) (rest := rest) (fun x hx => (hno x hx).elim) hlocks (H := T'.heap) (E := E9) (ce := ce) (q := q) (by rw [e1]; exact hce) hcv hcl (fun t9 ht9 _ => ⟨hE, by
      unfold va_F at hF ⊢
      rw [h0] at hF
      rw [ht9, e1]; exact hF⟩) (fun z9 hz9 => hL z9 (by simpa using hz9)) (Nat.le_refl _) (Nat.le_refl _) T' rfl X'
    exact ⟨t9, st.trans a1, b1⟩
end MYT
