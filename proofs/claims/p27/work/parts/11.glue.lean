/-! the words of the tables that no list of words carries: members of nest mates, casts of the exceptions to themselves -/
def my_nest : List Cond := [.methodLinkNest "MonotoneSpline" 9 ⟨"MonotoneSpline$Points", "<init>", "()V"⟩ "MonotoneSpline", .fieldLinkNest "MonotoneSpline" 100 "MonotoneSpline$Points" "places" "LMonotoneSpline$Row;" "MonotoneSpline", .fieldLinkNest "MonotoneSpline" 115 "MonotoneSpline$Points" "heights" "LMonotoneSpline$Row;" "MonotoneSpline", .fieldLinkNest "MonotoneSpline" 118 "MonotoneSpline$Points" "weights" "LMonotoneSpline$Row;" "MonotoneSpline", .fieldLinkNest "MonotoneSpline" 80 "MonotoneSpline$Points" "count" "I" "MonotoneSpline", .methodLinkNest "MonotoneSpline" 18 ⟨"MonotoneSpline$Blocks", "<init>", "()V"⟩ "MonotoneSpline", .fieldLinkNest "MonotoneSpline" 125 "MonotoneSpline$Blocks" "count" "I" "MonotoneSpline", .methodLinkNest "MonotoneSpline" 25 ⟨"MonotoneSpline$Knots", "<init>", "()V"⟩ "MonotoneSpline", .fieldLinkNest "MonotoneSpline" 146 "MonotoneSpline$Knots" "places" "LMonotoneSpline$Row;" "MonotoneSpline", .fieldLinkNest "MonotoneSpline" 147 "MonotoneSpline$Knots" "heights" "LMonotoneSpline$Row;" "MonotoneSpline", .fieldLinkNest "MonotoneSpline" 198 "MonotoneSpline$Knots" "fixedSlopes" "LMonotoneSpline$Row;" "MonotoneSpline", .fieldLinkNest "MonotoneSpline" 136 "MonotoneSpline$Knots" "count" "I" "MonotoneSpline", .methodLinkNest "MonotoneSpline" 32 ⟨"MonotoneSpline$Piece", "<init>", "()V"⟩ "MonotoneSpline", .methodLinkNest "MonotoneSpline$Blocks" 45 ⟨"MonotoneSpline", "ratio", "(DD)D"⟩ "MonotoneSpline", .methodLinkNest "MonotoneSpline$Knots" 49 ⟨"MonotoneSpline", "ratio", "(DD)D"⟩ "MonotoneSpline", .methodLinkNest "MonotoneSpline$Piece" 23 ⟨"MonotoneSpline", "ratio", "(DD)D"⟩ "MonotoneSpline", .methodLinkNest "MonotoneSpline$Knots" 42 ⟨"MonotoneSpline", "isFrom", "(DDD)Z"⟩ "MonotoneSpline", .methodLinkNest "MonotoneSpline$Points" 34 ⟨"MonotoneSpline", "magnitude", "(D)D"⟩ "MonotoneSpline", .castable "java/lang/IllegalArgumentException" "java/lang/IllegalArgumentException", .castable "java/lang/IllegalStateException" "java/lang/IllegalStateException", .castable "java/lang/IndexOutOfBoundsException" "java/lang/IndexOutOfBoundsException", .declares ⟨"java/lang/RuntimeException", "<init>", "(Ljava/lang/String;)V"⟩, .declares ⟨"java/lang/Exception", "<init>", "(Ljava/lang/String;)V"⟩, .declares ⟨"java/lang/Throwable", "<init>", "(Ljava/lang/String;)V"⟩]
def my_N (U : State) : Prop := ∀ w ∈ my_nest, va_Nw w U
theorem my_nest_ot : ∀ w ∈ my_nest, w.onTables = true := by decide +kernel
theorem my_N_same {u U : State} (h : u.vm = U.vm) (hn : my_N u) : my_N U := fun w hw => va_Nw.same (my_nest_ot w hw) h (hn w hw)
theorem my_N_warm {s U : State} (hW : s.WarmedH U.vm) (h : my_N s) : my_N U := by
  have a0 := va_Nw.warmM hW (h _ (List.mem_of_getElem? (l := my_nest) (i := 0) rfl))
  have a1 := va_Nw.warmF hW (h _ (List.mem_of_getElem? (l := my_nest) (i := 1) rfl))
  have a2 := va_Nw.warmF hW (h _ (List.mem_of_getElem? (l := my_nest) (i := 2) rfl))
  have a3 := va_Nw.warmF hW (h _ (List.mem_of_getElem? (l := my_nest) (i := 3) rfl))
  have a4 := va_Nw.warmF hW (h _ (List.mem_of_getElem? (l := my_nest) (i := 4) rfl))
  have a5 := va_Nw.warmM hW (h _ (List.mem_of_getElem? (l := my_nest) (i := 5) rfl))
  have a6 := va_Nw.warmF hW (h _ (List.mem_of_getElem? (l := my_nest) (i := 6) rfl))
  have a7 := va_Nw.warmM hW (h _ (List.mem_of_getElem? (l := my_nest) (i := 7) rfl))
  have a8 := va_Nw.warmF hW (h _ (List.mem_of_getElem? (l := my_nest) (i := 8) rfl))
  have a9 := va_Nw.warmF hW (h _ (List.mem_of_getElem? (l := my_nest) (i := 9) rfl))
  have a10 := va_Nw.warmF hW (h _ (List.mem_of_getElem? (l := my_nest) (i := 10) rfl))
  have a11 := va_Nw.warmF hW (h _ (List.mem_of_getElem? (l := my_nest) (i := 11) rfl))
  have a12 := va_Nw.warmM hW (h _ (List.mem_of_getElem? (l := my_nest) (i := 12) rfl))
  have a13 := va_Nw.warmM hW (h _ (List.mem_of_getElem? (l := my_nest) (i := 13) rfl))
  have a14 := va_Nw.warmM hW (h _ (List.mem_of_getElem? (l := my_nest) (i := 14) rfl))
  have a15 := va_Nw.warmM hW (h _ (List.mem_of_getElem? (l := my_nest) (i := 15) rfl))
  have a16 := va_Nw.warmM hW (h _ (List.mem_of_getElem? (l := my_nest) (i := 16) rfl))
  have a17 := va_Nw.warmM hW (h _ (List.mem_of_getElem? (l := my_nest) (i := 17) rfl))
  have a18 := va_Nw.warmC hW (h _ (List.mem_of_getElem? (l := my_nest) (i := 18) rfl))
  have a19 := va_Nw.warmC hW (h _ (List.mem_of_getElem? (l := my_nest) (i := 19) rfl))
  have a20 := va_Nw.warmC hW (h _ (List.mem_of_getElem? (l := my_nest) (i := 20) rfl))
  have a21 := va_Nw.warmD hW (h _ (List.mem_of_getElem? (l := my_nest) (i := 21) rfl))
  have a22 := va_Nw.warmD hW (h _ (List.mem_of_getElem? (l := my_nest) (i := 22) rfl))
  have a23 := va_Nw.warmD hW (h _ (List.mem_of_getElem? (l := my_nest) (i := 23) rfl))
  exact List.forall_mem_cons.mpr ⟨a0, List.forall_mem_cons.mpr ⟨a1, List.forall_mem_cons.mpr ⟨a2, List.forall_mem_cons.mpr ⟨a3, List.forall_mem_cons.mpr ⟨a4, List.forall_mem_cons.mpr ⟨a5, List.forall_mem_cons.mpr ⟨a6, List.forall_mem_cons.mpr ⟨a7, List.forall_mem_cons.mpr ⟨a8, List.forall_mem_cons.mpr ⟨a9, List.forall_mem_cons.mpr ⟨a10, List.forall_mem_cons.mpr ⟨a11, List.forall_mem_cons.mpr ⟨a12, List.forall_mem_cons.mpr ⟨a13, List.forall_mem_cons.mpr ⟨a14, List.forall_mem_cons.mpr ⟨a15, List.forall_mem_cons.mpr ⟨a16, List.forall_mem_cons.mpr ⟨a17, List.forall_mem_cons.mpr ⟨a18, List.forall_mem_cons.mpr ⟨a19, List.forall_mem_cons.mpr ⟨a20, List.forall_mem_cons.mpr ⟨a21, List.forall_mem_cons.mpr ⟨a22, List.forall_mem_cons.mpr ⟨a23, fun _ h9 => absurd h9 List.not_mem_nil⟩⟩⟩⟩⟩⟩⟩⟩⟩⟩⟩⟩⟩⟩⟩⟩⟩⟩⟩⟩⟩⟩⟩⟩
/-! the texts of the exceptions -/
def my_strs : List (Nat × String) := [(110, "there are fewer than 2 points"), (262, "there is no such knot"), (158, "x is not between the first and the last knot"), (166, "there is a knot less than 0.0001 away"), (168, "there are 60 knots"), (183, "the first and the last knot stay"), (186, "a value is from -1000000 to 1000000"), (188, "the knot before has a greater value"), (190, "the knot behind has a smaller value"), (196, "a slope is from 0 to 1000000"), (267, "x is not from the first knot to the last one"), (63, "x and y are from -1000000 to 1000000"), (72, "a weight is from 0.001 to 1000"), (78, "there is a point less than 0.001 away"), (86, "there are 40 points")]
def my_R (U : State) : Prop := ∀ q ∈ my_strs, ∃ a, vk_R RX6 q.1 q.2 a U
theorem my_R_same {u U : State} (h : U.vm = u.vm) (hn : my_R u) : my_R U := fun q hq => (hn q hq).elim (fun a ha => ⟨a, vk_R.same h ha⟩)
theorem my_R_warm {s U : State} (hW : s.WarmedH U.vm) (hn : my_R s) : my_R U := fun q hq => (hn q hq).elim (fun a ha => ⟨a, vk_R.warm hW ha⟩)
/-! the context: the classes and array classes, the words above, the statics that are read; z: the cells from z on are the run's own -/
abbrev my_tys (kd ki kz kl : ClassId) : List (ClassId × FieldType) := [(kd, .double), (ki, .int)]
def my_C (D : va_G) (kd ki kz kl : ClassId) (z : Nat) (U : State) (H : Heap) : Prop :=
  va_K D vwCl (my_tys kd ki kz kl) U ∧ my_N U ∧ va_Z "java/lang/Math" "negativeZeroDoubleBits" "J" (.long (-9223372036854775808)) (fun q => z ≤ q) U H ∧
  vx_Zq Bundle.tN "UNASSIGNED_STACK" Bundle.steD (fun q => z ≤ q) U H ∧ vx_Zq Bundle.tN "SUPPRESSED_SENTINEL" Bundle.listD (fun q => z ≤ q) U H ∧ my_R U
theorem my_C_kept {D : va_G} {kd ki kz kl : ClassId} {z : Nat} {U : State} {H H1 : Heap} (h : my_C D kd ki kz kl z U H) (hq : ∀ a : Nat, a < H.size → ¬ z ≤ a → H1[a]? = H[a]?) : my_C D kd ki kz kl z U H1 :=
  ⟨h.1, h.2.1, h.2.2.1.kept hq, h.2.2.2.1.kept hq, h.2.2.2.2.1.kept hq, h.2.2.2.2.2⟩
theorem my_C_warm {D : va_G} {kd ki kz kl : ClassId} {z : Nat} {s U : State} {H : Heap} (hW : s.WarmedH U.vm) (h : my_C D kd ki kz kl z s H) : my_C D kd ki kz kl z U H :=
  ⟨va_K.moved hW.alike h.1, my_N_warm hW h.2.1, va_Z.moved hW.alike h.2.2.1, vx_Zq.moved hW.alike h.2.2.2.1, vx_Zq.moved hW.alike h.2.2.2.2.1, my_R_warm hW h.2.2.2.2.2⟩
theorem my_C_calling {D : va_G} {kd ki kz kl : ClassId} {z : Nat} {U : State} {H : Heap} {g : JFrame} {mk : MethodId} {a : Array Value} (h : my_C D kd ki kz kl z U H) : my_C D kd ki kz kl z (U.calling g mk a) H :=
  ⟨va_K.moved (u := U) (Vm.Alike.refl U.vm) h.1, my_N_same (u := U) rfl h.2.1, va_Z.moved (u := U) (Vm.Alike.refl U.vm) h.2.2.1, vx_Zq.moved (u := U) (Vm.Alike.refl U.vm) h.2.2.2.1, vx_Zq.moved (u := U) (Vm.Alike.refl U.vm) h.2.2.2.2.1, my_R_same (u := U) rfl h.2.2.2.2.2⟩
theorem my_C_S {D : va_G} {kd ki kz kl : ClassId} {z : Nat} {s : State} {A : Nat → Prop} {H0 H : Heap} {locs : List Loc} (h : my_C D kd ki kz kl z s H0) (hS : va_S A H0 H locs) (hA : ∀ q, A q → z ≤ q) : my_C D kd ki kz kl z s H :=
  my_C_kept h (fun a h1 h2 => hS.2.1 a h1 (fun h3 => h2 (hA a h3)))
/-! a method that only reads -/
abbrev my_RO (l : Launch) (D : va_G) (kd ki kz kl : ClassId) (z : Nat) (y : MethodName) (ws : List Cond) (rm : Room) (av : List Value) (wc : va_W) (v : Option Value) : Prop :=
  Met l y ws rm (va_Pc av (fun U => my_C D kd ki kz kl z U U.heap ∧ va_P D vwCl wc U.heap)) (fun _ st o t => o = .returned v ∧ t.heap = st.heap) 0 0 (fun _ => False)
/-- its end -/
abbrev my_RQ (below : List Frame) (args : Array Value) (s : State) (v : Option Value) : State → Prop := MQ below (fun _ st o t => o = .returned v ∧ t.heap = st.heap) args s 0 0 (fun _ => False)
theorem my_RO_of {l : Launch} {D : va_G} {kd ki kz kl : ClassId} {z : Nat} {y : MethodName} {ws ws' : List Cond} {rm : Room} {av : List Value} {wc : va_W} {v : Option Value} {cc : ByteArray} {maxL : Nat} {ret : Option FieldType}
    (hy : plainName y.cls = true) (hw : ws = Cond.code y cc maxL ret :: ws') (hn : (lg_sl av).length ≤ maxL)
    (body : ∀ (p : Program) (e : Env) (s : State) (m : MethodId) (below : List Frame) (meth : Method) (c : Code), CallFix p m c cc maxL s av.toArray ws y.cls → meth.sig.returnType = ret → meth.locks = false → my_C D kd ki kz kl z s s.heap → va_P D vwCl wc s.heap → ∀ ls : Array Slot, lv_has ls maxL (lv_args 0 av) →
      W p l e rm s m av.toArray below meth c s.heap [] 0 0 (my_RQ below av.toArray s v) (F0 m 0 ls [])) : my_RO l D kd ki kz kl z y ws rm av wc v := by
  refine Met.ofW (cc := cc) (maxL := maxL) (ret := ret) hy hw ?_
  intro p e s m args below meth c s₁ B hml hv
  obtain ⟨rfl, hC, hP⟩ := hv
  have hts := atoms_spec (ws := ws) B.pre
  have hl := lv_entry av (n := maxL) hn
  rw [lg_entry_eq]
  exact body p e s m below meth c ⟨B.exec, B.bytes, hml, findClass_of_methodNamed B.named, hts⟩ B.returns B.notSynchronized hC hP _ hl
/-! a method that writes cells of its world, and makes none -/
def my_A (ws : va_W) : Nat → Prop := fun q => q ∈ ws.map (fun e => e.1)
abbrev my_WR (l : Launch) (D : va_G) (kd ki kz kl : ClassId) (z : Nat) (y : MethodName) (ws : List Cond) (rm : Room) (av : List Value) (wc w1 : va_W) (v : Option Value) : Prop :=
  Met l y ws rm (va_Pc av (fun U => my_C D kd ki kz kl z U U.heap ∧ va_P D vwCl wc U.heap ∧ va_D (fun q => z ≤ q) wc)) (fun _ st o t => o = .returned v ∧ va_P D vwCl w1 t.heap ∧ va_F (my_A wc) st t) 0 0 (my_A wc)
abbrev my_WQ (below : List Frame) (D : va_G) (args : Array Value) (s : State) (wc w1 : va_W) (v : Option Value) : State → Prop := MQ below (fun _ st o t => o = .returned v ∧ va_P D vwCl w1 t.heap ∧ va_F (my_A wc) st t) args s 0 0 (my_A wc)
theorem my_WR_of {l : Launch} {D : va_G} {kd ki kz kl : ClassId} {z : Nat} {y : MethodName} {ws ws' : List Cond} {rm : Room} {av : List Value} {wc w1 : va_W} {v : Option Value} {cc : ByteArray} {maxL : Nat} {ret : Option FieldType}
    (hy : plainName y.cls = true) (hw : ws = Cond.code y cc maxL ret :: ws') (hn : (lg_sl av).length ≤ maxL)
    (body : ∀ (p : Program) (e : Env) (s : State) (m : MethodId) (below : List Frame) (meth : Method) (c : Code), CallFix p m c cc maxL s av.toArray ws y.cls → meth.sig.returnType = ret → meth.locks = false → my_C D kd ki kz kl z s s.heap → va_P D vwCl wc s.heap → va_D (my_A wc) wc → (∀ q, my_A wc q → z ≤ q) → va_S (my_A wc) s.heap s.heap [] → ∀ ls : Array Slot, lv_has ls maxL (lv_args 0 av) →
      W p l e rm s m av.toArray below meth c s.heap [] 0 0 (my_WQ below D av.toArray s wc w1 v) (F0 m 0 ls [])) : my_WR l D kd ki kz kl z y ws rm av wc w1 v := by
  refine Met.ofW (cc := cc) (maxL := maxL) (ret := ret) hy hw ?_
  intro p e s m args below meth c s₁ B hml hv
  obtain ⟨rfl, hC, hP, hD⟩ := hv
  have hts := atoms_spec (ws := ws) B.pre
  have hl := lv_entry av (n := maxL) hn
  rw [lg_entry_eq]
  refine body p e s m below meth c ⟨B.exec, B.bytes, hml, findClass_of_methodNamed B.named, hts⟩ B.returns B.notSynchronized hC hP ⟨hD.1, fun k q hk => ?_⟩ (fun q hq => ?_) va_S.rf _ hl
  · exact List.mem_map.mpr ⟨q, List.mem_of_getElem? hk, rfl⟩
  · obtain ⟨e9, he, rfl⟩ := List.mem_map.mp hq
    obtain ⟨k, hk⟩ := List.getElem?_of_mem he
    exact hD.2 k e9 hk
/-! a world with some cells new -/
def my_upd (ws : va_W) : List Nat → va_W → va_W
  | i :: is, e :: es => my_upd (ws.set i e) is es
  | _, _ => ws
theorem my_upd_get {is : List Nat} {es : va_W} : ∀ {ws : va_W} {k : Nat} {q : Nat × va_E}, (my_upd ws is es)[k]? = some q → (∃ j : Nat, is[j]? = some k ∧ es[j]? = some q) ∨ (k ∉ is.take es.length ∧ ws[k]? = some q) := by
  induction is generalizing es with
  | nil => intro ws k q h; exact Or.inr ⟨by simp, by cases es <;> exact h⟩
  | cons i is ih =>
    intro ws k q h
    cases es with
    | nil => exact Or.inr ⟨by simp, h⟩
    | cons e es =>
      rcases ih (ws := ws.set i e) h with ⟨j, h1, h2⟩ | ⟨h1, h2⟩
      · exact Or.inl ⟨j + 1, by simpa using h1, by simpa using h2⟩
      · by_cases hk : k = i
        · subst hk
          have hlt : k < ws.length := by
            have := (List.getElem?_eq_some_iff.mp h2).1
            simpa using this
          rw [List.getElem?_set_self hlt] at h2
          exact Or.inl ⟨0, by simp, by simpa using h2⟩
        · rw [List.getElem?_set_ne (Ne.symm hk)] at h2
          refine Or.inr ⟨?_, h2⟩
          simp only [List.length_cons, List.take_succ_cons, List.mem_cons, not_or]
          exact ⟨hk, h1⟩
theorem my_join {D : va_G} {A : Nat → Prop} {ws wc w1 ws' : va_W} {H H1 : Heap} (hP : va_P D vwCl ws H) (hD : va_D A ws) (is : List Nat) (hC : is.map (fun i => ws[i]?) = wc.map some) (ha : w1.map (fun e => e.1) = wc.map (fun e => e.1)) (hk : ∀ q : Nat, q < H.size → ¬ my_A wc q → H1[q]? = H[q]?) (hP1 : va_P D vwCl w1 H1) (hu : my_upd ws is w1 = ws') : va_P D vwCl ws' H1 ∧ va_D A ws' := by
  subst hu
  have hlen : w1.length = wc.length := by
    have := congrArg List.length ha
    simpa using this
  have hlen2 : is.length = wc.length := by
    have := congrArg List.length hC
    simpa using this
  have hin : ∀ {j i : Nat}, is[j]? = some i → ∃ q, ws[i]? = some q ∧ wc[j]? = some q := by
    intro j i h
    have h1 : (is.map (fun i => ws[i]?))[j]? = some ws[i]? := by rw [List.getElem?_map, h]; rfl
    rw [hC, List.getElem?_map] at h1
    cases h2 : wc[j]? with
    | none => rw [h2] at h1; cases h1
    | some q => rw [h2] at h1; exact ⟨q, (Option.some.inj h1).symm, rfl⟩
  have hadr : ∀ {j : Nat} {q q1 : Nat × va_E}, wc[j]? = some q → w1[j]? = some q1 → q1.1 = q.1 := by
    intro j q q1 h1 h2
    have h3 : (w1.map (fun e => e.1))[j]? = some q1.1 := by rw [List.getElem?_map, h2]; rfl
    rw [ha, List.getElem?_map, h1] at h3
    exact (Option.some.inj h3).symm
  have key : ∀ (k : Nat) (q : Nat × va_E), (my_upd ws is w1)[k]? = some q → ∃ q0, ws[k]? = some q0 ∧ q.1 = q0.1 := by
    intro k q h
    rcases my_upd_get h with ⟨j, h1, h2⟩ | ⟨-, h2⟩
    · obtain ⟨q0, h3, h4⟩ := hin h1
      exact ⟨q0, h3, hadr h4 h2⟩
    · exact ⟨q, h2, rfl⟩
  refine ⟨fun k q h => ?_, ⟨fun i j p q hi hj hpq => ?_, fun k q h => ?_⟩⟩
  · rcases my_upd_get h with ⟨j, h1, h2⟩ | ⟨h1, h2⟩
    · exact hP1 j q h2
    · refine (hP k q h2).kept (hk q.1 (hP k q h2).lt (fun hA => ?_))
      obtain ⟨e9, he, heq⟩ := List.mem_map.mp hA
      obtain ⟨j, hj⟩ := List.getElem?_of_mem he
      have hj2 : j < is.length := by rw [hlen2]; exact (List.getElem?_eq_some_iff.mp hj).1
      obtain ⟨q0, h3, h4⟩ := hin (List.getElem?_eq_getElem hj2)
      rw [hj] at h4
      cases h4
      have := hD.1 k is[j] q e9 h2 h3 heq.symm
      refine h1 ?_
      rw [this, List.take_of_length_le (by omega)]
      exact List.getElem_mem hj2
  · obtain ⟨p0, h1, h2⟩ := key i p hi
    obtain ⟨q0, h3, h4⟩ := key j q hj
    exact hD.1 i j p0 q0 h1 h3 (by rw [← h2, ← h4, hpq])
  · obtain ⟨q0, h1, h2⟩ := key k q h
    rw [h2]; exact hD.2 k q0 h1
theorem my_A_sub {ws wc : va_W} {A : Nat → Prop} (hD : va_D A ws) (is : List Nat) (hC : is.map (fun i => ws[i]?) = wc.map some) : ∀ q, my_A wc q → A q := by
  intro q hq
  obtain ⟨e9, he, rfl⟩ := List.mem_map.mp hq
  obtain ⟨j, hj⟩ := List.getElem?_of_mem he
  have h1 : (wc.map some)[j]? = some (some e9) := by rw [List.getElem?_map, hj]; rfl
  rw [← hC, List.getElem?_map] at h1
  cases h2 : is[j]? with
  | none => rw [h2] at h1; cases h1
  | some i => rw [h2] at h1; exact hD.2 i e9 (Option.some.inj h1)
theorem my_D_sub {ws wc : va_W} {A B : Nat → Prop} (hD : va_D A ws) (hAB : ∀ q, A q → B q) (is : List Nat) (hn : va_nd is = true) (hC : is.map (fun i => ws[i]?) = wc.map some) : va_D B wc := (va_D.sub hD is hn hC).weaken (fun _ _ _ h => hAB _ h)
theorem my_P_sub {D : va_G} {ws wc : va_W} {H : Heap} (hP : va_P D vwCl ws H) (is : List Nat) (hC : is.map (fun i => ws[i]?) = wc.map some) : va_P D vwCl wc H := by
  intro j q hj
  have h1 : (wc.map some)[j]? = some (some q) := by rw [List.getElem?_map, hj]; rfl
  rw [← hC, List.getElem?_map] at h1
  cases h2 : is[j]? with
  | none => rw [h2] at h1; cases h1
  | some i => rw [h2] at h1; exact hP i q (Option.some.inj h1)
/-! calls -/
section MYC
variable {p : Program} {l : Launch} {e : Env} {R : Room} {s : State} {m : MethodId} {args : Array Value} {below : List Frame} {meth : Method} {c : Code} {H : Heap} {locs : List Loc} {cells slots : Nat} {Q : State → Prop}
variable {D : va_G} {kd ki kz kl : ClassId} {z : Nat} {cc : ByteArray} {nL pc : Nat} {ls : Array Slot} {st0 rest : List Value} {Ts : List Cond} {own : String}
variable {y : MethodName} {ws ws' : List Cond} {rm : Room} {bytes : ByteArray} {maxL index n : Nat} {ret : Option FieldType} {wc w1 wx wx' : va_W} {v : Option Value} {b : Nat} {As : List Value} {A : Nat → Prop} {H0 : Heap}
theorem my_blindR {av : List Value} {wc : va_W} : FrameBlind (va_Pc av (fun U => my_C D kd ki kz kl z U U.heap ∧ va_P D vwCl wc U.heap)) := fun _ _ _ _ q => ⟨q.1, my_C_calling q.2.1, q.2.2⟩
theorem my_blindW {av : List Value} {wc : va_W} {B : Nat → Prop} : FrameBlind (va_Pc av (fun U => my_C D kd ki kz kl z U U.heap ∧ va_P D vwCl wc U.heap ∧ va_D B wc)) := fun _ _ _ _ q => ⟨q.1, my_C_calling q.2.1, q.2.2.1, q.2.2.2⟩
theorem my_preR {As : List Value} (hC : my_C D kd ki kz kl z s H) (hP : va_P D vwCl wc H) : PreS s H (va_Pc As (fun U => my_C D kd ki kz kl z U U.heap ∧ va_P D vwCl wc U.heap)) As :=
  ⟨my_blindR, fun U hU hW => ⟨rfl, by rw [hU]; exact my_C_warm hW hC, by rw [hU]; exact hP⟩⟩
theorem my_preW {As : List Value} (hC : my_C D kd ki kz kl z s H) (hP : va_P D vwCl wc H) (hD : va_D (fun q => z ≤ q) wc) : PreS s H (va_Pc As (fun U => my_C D kd ki kz kl z U U.heap ∧ va_P D vwCl wc U.heap ∧ va_D (fun q => z ≤ q) wc)) As :=
  ⟨my_blindW, fun U hU hW => ⟨rfl, by rw [hU]; exact my_C_warm hW hC, by rw [hU]; exact hP, hD⟩⟩
/-- behind a call that only read -/
theorem my_goR (hr : va_Run p l e R s m args below meth c H locs cells slots 0 0 (F0 m pc ls st0) rest (fun st o t => o = .returned v ∧ t.heap = st.heap) (fun _ => False))
    (k : W p l e R s m args below meth c H locs cells slots Q (F0 m (pc + 3) ls (v.toList ++ rest))) : W p l e R s m args below meth c H locs cells slots Q (F0 m pc ls st0) := by
  intro T hT X
  obtain ⟨v9, st₀, t, T', L, h0, X', hL, e1, e2, ⟨hv, hh⟩, st⟩ := hr T hT X
  cases hv
  obtain ⟨t2, a1, b1⟩ := k T' (by rw [e1, hh, h0]) (Stand.forget X' (fun q h => (hL q h).elim))
  exact ⟨t2, st t2 a1, b1⟩
/-- behind a call that wrote -/
theorem my_goW (hr : va_Run p l e R s m args below meth c H locs cells slots 0 0 (F0 m pc ls st0) rest (fun st o t => o = .returned v ∧ va_P D vwCl w1 t.heap ∧ va_F (my_A wc) st t) (my_A wc))
    (hP : va_P D vwCl wx H) (hD : va_D A wx) (hS : va_S A H0 H locs) (is : List Nat) (hC : is.map (fun i => wx[i]?) = wc.map some) (ha : w1.map (fun e => e.1) = wc.map (fun e => e.1)) (hu : my_upd wx is w1 = wx')
    (k : ∀ (H : Heap) (locs : List Loc), va_P D vwCl wx' H → va_D A wx' → va_S A H0 H locs → W p l e R s m args below meth c H locs cells slots Q (F0 m (pc + 3) ls (v.toList ++ rest))) : W p l e R s m args below meth c H locs cells slots Q (F0 m pc ls st0) := by
  intro T hT X
  obtain ⟨v9, st₀, t, T', L, h0, X', hL, e1, e2, ⟨hv, hp1, hF⟩, st⟩ := hr T hT X
  cases hv
  unfold va_F at hF
  rw [h0] at hF
  rw [← e1] at hp1 hF
  have hAs := my_A_sub hD is hC
  obtain ⟨j1, j2⟩ := my_join hP hD is hC ha hF.2 hp1 hu
  obtain ⟨t2, a1, b1⟩ := k T'.heap (locs ++ L) j1 j2 ⟨Nat.le_trans hS.1 hF.1, fun q h1 h2 => by rw [hF.2 q (Nat.lt_of_lt_of_le h1 hS.1) (fun h3 => h2 (hAs q h3))]; exact hS.2.1 q h1 h2, fun q hq => by
    rcases List.mem_append.mp hq with h | h
    · exact hS.2.2 q h
    · exact hAs _ (hL q h)⟩ T' rfl X'
  exact ⟨t2, st t2 a1, b1⟩
/-- what is decided of a callee's name -/
def my_ok (y : MethodName) (n : Nat) : Bool := decide (y.cls ≠ "java/lang/invoke/MethodHandle") && decide (y.cls ≠ "java/lang/invoke/VarHandle") && decide ((parseMethodDescriptor y.desc).map (fun d => d.parameters.length) = some n)
theorem my_ok_spec (h : my_ok y n = true) : y.cls ≠ "java/lang/invoke/MethodHandle" ∧ y.cls ≠ "java/lang/invoke/VarHandle" ∧ (parseMethodDescriptor y.desc).map (fun d => d.parameters.length) = some n := by
  simp only [my_ok, Bool.and_eq_true, decide_eq_true_eq] at h
  exact ⟨h.1.1, h.1.2, h.2⟩
def my_fit (rm R : Room) (maxL : Nat) (rest : List Value) : Bool := Nat.ble (rm.frames + 1) R.frames && Nat.ble (8 + (maxL + 11) + rm.locals) R.locals && Nat.ble (rest.map fun v => v.category).sum 8
theorem my_fit_spec (h : my_fit rm R maxL rest = true) : (rm.frames + 1 ≤ R.frames ∧ 8 + (maxL + 11) + rm.locals ≤ R.locals) ∧ (rest.map fun v => v.category).sum ≤ 8 := by
  simp only [my_fit, Bool.and_eq_true, Nat.ble_eq] at h
  exact ⟨⟨h.1.1, h.1.2⟩, h.2⟩
-- what is called: an instance's method, found by its class
theorem my_runV {Pc : Array Value → State → Prop} {Qc : Array Value → State → Outcome → State → Prop} {free : Addr → Prop} (S : CallFix p m c cc nL s args Ts own) (hls : ls.size = nL) (hM : Met l y ws rm Pc Qc 0 0 free) (hw : ws = Cond.code y bytes maxL ret :: ws') (hrm : rm.cells = 0 ∧ rm.slots = 0) (hG : GoodIn Ts (wsV own index y.cls y ws)) (hok : my_ok y n = true) (hfit : my_fit rm R maxL rest = true) (hcs : cells ≤ R.cells ∧ slots ≤ R.slots)
    (hpre : PreS s H Pc (.ref b :: As)) (hrecv : ∃ cell : Cell, H[b]? = some cell ∧ cell.vm.isStatics = false ∧ s.vm.findClass y.cls = some cell.cls) (hn : As.length = n) (hst : st0 = As.reverse ++ .ref b :: rest) (hdg : decode cc pc = .ok (.invokevirtual index, 3)) :
    va_Run p l e R s m args below meth c H locs cells slots 0 0 (F0 m pc ls st0) rest (Qc (Value.ref b :: As).toArray) free :=
  va_runV S hM (cwV n S.2.2.2.2 hG hw hrm.1 hrm.2 ⟨rfl, my_ok_spec hok⟩ (my_fit_spec hfit).1) ⟨hpre.1, hrecv, hpre.2⟩ rfl hn hls hst (lv_room (my_fit_spec hfit).2) hdg hcs
-- a class's method of the own class
theorem my_runS {Pc : Array Value → State → Prop} {Qc : Array Value → State → Outcome → State → Prop} {free : Addr → Prop} (S : CallFix p m c cc nL s args Ts own) (hls : ls.size = nL) (hM : Met l y ws rm Pc Qc 0 0 free) (hw : ws = Cond.code y bytes maxL ret :: ws') (hrm : rm.cells = 0 ∧ rm.slots = 0) (hG : GoodIn Ts (va_wsS own index y ws)) (hok : my_ok y n = true) (hfit : my_fit rm R maxL rest = true) (hcs : cells ≤ R.cells ∧ slots ≤ R.slots)
    (hpre : PreS s H Pc As) (hn : As.length = n) (hst : st0 = As.reverse ++ rest) (hdg : decode cc pc = .ok (.invokestatic index, 3)) :
    va_Run p l e R s m args below meth c H locs cells slots 0 0 (F0 m pc ls st0) rest (Qc As.toArray) free :=
  va_runS S hM (va_cwS n S.2.2.2.2 hG hw hrm.1 hrm.2 (my_ok_spec hok) (my_fit_spec hfit).1) hpre rfl hn hls hst (lv_room (my_fit_spec hfit).2) hdg hcs
-- a class's private method of a nest mate
theorem my_runSN {host : String} {Pc : Array Value → State → Prop} {Qc : Array Value → State → Outcome → State → Prop} {free : Addr → Prop} (S : CallFix p m c cc nL s args Ts own) (hls : ls.size = nL) (hM : Met l y ws rm Pc Qc 0 0 free) (hw : ws = Cond.code y bytes maxL ret :: ws') (hrm : rm.cells = 0 ∧ rm.slots = 0) (hG : GoodIn Ts ws) (hl : va_Nw (.methodLinkNest own index y host) s) (hini : Cond.initialized y.cls ∈ Ts) (hstat : Cond.static y ∈ Ts) (hok : my_ok y n = true) (hfit : my_fit rm R maxL rest = true) (hcs : cells ≤ R.cells ∧ slots ≤ R.slots)
    (hpre : PreS s H Pc As) (hn : As.length = n) (hst : st0 = As.reverse ++ rest) (hdg : decode cc pc = .ok (.invokestatic index, 3)) :
    va_Run p l e R s m args below meth c H locs cells slots 0 0 (F0 m pc ls st0) rest (Qc As.toArray) free :=
  va_runSN S hM ⟨va_cnB n S.2.2.2.2 hG hw hrm.1 hrm.2 hl (S.2.2.2.2 _ hini) (my_ok_spec hok) (my_fit_spec hfit).1, S.2.2.2.2 _ hstat, trivial⟩ hpre rfl hn hls hst (lv_room (my_fit_spec hfit).2) hdg hcs
/-! numbers under other names -/
theorem my_iadd (hexec : p.tables.exec = Jvm.exec) (hb : c.code = cc) {x y w : Int32} (hdg : decode cc pc = .ok (.iadd, 1)) (hv : x + y = w) (k : W p l e R s m args below meth c H locs cells slots Q (F0 m (pc + 1) ls (.int w :: rest))) : W p l e R s m args below meth c H locs cells slots Q (F0 m pc ls (.int y :: .int x :: rest)) := lv_iadd hexec hb hdg (by rw [hv]; exact k)
theorem my_isub (hexec : p.tables.exec = Jvm.exec) (hb : c.code = cc) {x y w : Int32} (hdg : decode cc pc = .ok (.isub, 1)) (hv : x - y = w) (k : W p l e R s m args below meth c H locs cells slots Q (F0 m (pc + 1) ls (.int w :: rest))) : W p l e R s m args below meth c H locs cells slots Q (F0 m pc ls (.int y :: .int x :: rest)) := lv_isub hexec hb hdg (by rw [hv]; exact k)
theorem my_topd {x w : UInt64} (hv : x = w) (k : W p l e R s m args below meth c H locs cells slots Q (F0 m pc ls (.double w :: rest))) : W p l e R s m args below meth c H locs cells slots Q (F0 m pc ls (.double x :: rest)) := by rw [hv]; exact k
theorem my_topi {x w : Int32} (hv : x = w) (k : W p l e R s m args below meth c H locs cells slots Q (F0 m pc ls (.int w :: rest))) : W p l e R s m args below meth c H locs cells slots Q (F0 m pc ls (.int x :: rest)) := by rw [hv]; exact k
theorem my_topl {x w : Int64} (hv : x = w) (k : W p l e R s m args below meth c H locs cells slots Q (F0 m pc ls (.long w :: rest))) : W p l e R s m args below meth c H locs cells slots Q (F0 m pc ls (.long x :: rest)) := by rw [hv]; exact k
/-! arrays, at natural places -/
theorem my_dald (hexec : p.tables.exec = Jvm.exec) (hb : c.code = cc) (hC : my_C D kd ki kz kl z s s.heap) (hP : va_P D vwCl wx H) (q0 : Nat) {a n k : Nat} {f : Nat → UInt64} (ha : wx[q0]? = some (a, .inl (kd, n, .inr (.inr (.inr (.inl f)))))) (hk : k < n) (hn : n < 2 ^ 31) (hdg : decode cc pc = .ok (.daload, 1))
    (kk : W p l e R s m args below meth c H locs cells slots Q (F0 m (pc + 1) ls (.double (f k) :: rest))) : W p l e R s m args below meth c H locs cells slots Q (F0 m pc ls (.int (nI k) :: .ref a :: rest)) :=
  va_dald hexec hb hC.1 hP q0 0 ha rfl (vp_in_nI hk hn) hdg (by rw [nI_clamp (Nat.lt_trans hk hn)]; exact kk)
theorem my_iald (hexec : p.tables.exec = Jvm.exec) (hb : c.code = cc) (hC : my_C D kd ki kz kl z s s.heap) (hP : va_P D vwCl wx H) (q0 : Nat) {a n k : Nat} {f : Nat → Int32} (ha : wx[q0]? = some (a, .inl (ki, n, .inl f))) (hk : k < n) (hn : n < 2 ^ 31) (hdg : decode cc pc = .ok (.iaload, 1))
    (kk : W p l e R s m args below meth c H locs cells slots Q (F0 m (pc + 1) ls (.int (f k) :: rest))) : W p l e R s m args below meth c H locs cells slots Q (F0 m pc ls (.int (nI k) :: .ref a :: rest)) :=
  va_iald hexec hb hC.1 hP q0 1 ha rfl (vp_in_nI hk hn) hdg (by rw [nI_clamp (Nat.lt_trans hk hn)]; exact kk)
theorem my_dast (hexec : p.tables.exec = Jvm.exec) (hb : c.code = cc) (hC : my_C D kd ki kz kl z s s.heap) (hP : va_P D vwCl wx H) (hD : va_D A wx) (hS : va_S A H0 H locs) (q0 : Nat) {a n k : Nat} {f : Nat → UInt64} {x : UInt64} (ha : wx[q0]? = some (a, .inl (kd, n, .inr (.inr (.inr (.inl f)))))) (hk : k < n) (hn : n < 2 ^ 31) (hu : wx.set q0 (a, .inl (kd, n, .inr (.inr (.inr (.inl (vf_upd f k x)))))) = wx') (hdg : decode cc pc = .ok (.dastore, 1))
    (kk : ∀ (H : Heap) (locs : List Loc), va_P D vwCl wx' H → va_D A wx' → va_S A H0 H locs → W p l e R s m args below meth c H locs cells slots Q (F0 m (pc + 1) ls rest)) : W p l e R s m args below meth c H locs cells slots Q (F0 m pc ls (.double x :: .int (nI k) :: .ref a :: rest)) :=
  va_dast hexec hb hC.1 hP hD hS q0 0 ha rfl (vp_in_nI hk hn) hdg (fun H1 L1 h1 h2 h3 => kk H1 L1 (by rw [nI_clamp (Nat.lt_trans hk hn), hu] at h1; exact h1) (by rw [nI_clamp (Nat.lt_trans hk hn), hu] at h2; exact h2) h3)
theorem my_iast (hexec : p.tables.exec = Jvm.exec) (hb : c.code = cc) (hC : my_C D kd ki kz kl z s s.heap) (hP : va_P D vwCl wx H) (hD : va_D A wx) (hS : va_S A H0 H locs) (q0 : Nat) {a n k : Nat} {f : Nat → Int32} {x : Int32} (ha : wx[q0]? = some (a, .inl (ki, n, .inl f))) (hk : k < n) (hn : n < 2 ^ 31) (hu : wx.set q0 (a, .inl (ki, n, .inl (upd f k x))) = wx') (hdg : decode cc pc = .ok (.iastore, 1))
    (kk : ∀ (H : Heap) (locs : List Loc), va_P D vwCl wx' H → va_D A wx' → va_S A H0 H locs → W p l e R s m args below meth c H locs cells slots Q (F0 m (pc + 1) ls rest)) : W p l e R s m args below meth c H locs cells slots Q (F0 m pc ls (.int x :: .int (nI k) :: .ref a :: rest)) :=
  va_iast hexec hb hC.1 hP hD hS q0 1 ha rfl (vp_in_nI hk hn) hdg (fun H1 L1 h1 h2 h3 => kk H1 L1 (by rw [nI_clamp (Nat.lt_trans hk hn), hu] at h1; exact h1) (by rw [nI_clamp (Nat.lt_trans hk hn), hu] at h2; exact h2) h3)
/-! ends -/
theorem my_dretR (hexec : p.tables.exec = Jvm.exec) (hb : c.code = cc) (hr : meth.sig.returnType = some .double) (hlocks : meth.locks = false) {x w : UInt64} (hv : x = w) (hdg : decode cc pc = .ok (.dreturn, 1)) : W p l e R s m args below meth c s.heap [] 0 0 (my_RQ below args s (some (.double w))) (F0 m pc ls [.double x]) :=
  W.dret (v := x) hexec hb hr (fun t ht hW => ⟨by rw [hv], ht⟩) (fun q hq => absurd hq List.not_mem_nil) hdg hlocks
theorem my_iretR (hexec : p.tables.exec = Jvm.exec) (hb : c.code = cc) (hr : meth.sig.returnType = some .int) (hlocks : meth.locks = false) {x w : Int32} (hv : x = w) (hdg : decode cc pc = .ok (.ireturn, 1)) : W p l e R s m args below meth c s.heap [] 0 0 (my_RQ below args s (some (.int w))) (F0 m pc ls [.int x]) :=
  W.iret (v := x) hexec hb hr (fun t ht hW => ⟨by rw [hv], ht⟩) (fun q hq => absurd hq List.not_mem_nil) hdg hlocks
theorem my_lretR (hexec : p.tables.exec = Jvm.exec) (hb : c.code = cc) (hr : meth.sig.returnType = some .long) (hlocks : meth.locks = false) {x w : Int64} (hv : x = w) (hdg : decode cc pc = .ok (.lreturn, 1)) : W p l e R s m args below meth c s.heap [] 0 0 (my_RQ below args s (some (.long w))) (F0 m pc ls [.long x]) :=
  W.lret (v := x) hexec hb hr (fun t ht hW => ⟨by rw [hv], ht⟩) (fun q hq => absurd hq List.not_mem_nil) hdg hlocks
theorem my_vretR (hexec : p.tables.exec = Jvm.exec) (hb : c.code = cc) (hr : meth.sig.returnType = none) (hlocks : meth.locks = false) (hdg : decode cc pc = .ok (.return_, 1)) : W p l e R s m args below meth c s.heap [] 0 0 (my_RQ below args s none) (F0 m pc ls []) :=
  W.vret hexec hb hr (fun t ht hW => ⟨rfl, ht⟩) (fun q hq => absurd hq List.not_mem_nil) hdg hlocks
theorem my_vretW (hexec : p.tables.exec = Jvm.exec) (hb : c.code = cc) (hr : meth.sig.returnType = none) (hlocks : meth.locks = false) (hP : va_P D vwCl wx H) (hw : wx = w1) (hS : va_S (my_A wc) s.heap H locs) (hdg : decode cc pc = .ok (.return_, 1)) : W p l e R s m args below meth c H locs 0 0 (my_WQ below D args s wc w1 none) (F0 m pc ls []) :=
  W.vret hexec hb hr (fun t ht hW => ⟨rfl, by rw [ht, ← hw]; exact hP, hS.F ht⟩) hS.2.2 hdg hlocks
theorem my_iretW (hexec : p.tables.exec = Jvm.exec) (hb : c.code = cc) (hr : meth.sig.returnType = some .int) (hlocks : meth.locks = false) (hP : va_P D vwCl wx H) (hw : wx = w1) (hS : va_S (my_A wc) s.heap H locs) {x w : Int32} (hv : x = w) (hdg : decode cc pc = .ok (.ireturn, 1)) : W p l e R s m args below meth c H locs 0 0 (my_WQ below D args s wc w1 (some (.int w))) (F0 m pc ls [.int x]) :=
  W.iret (v := x) hexec hb hr (fun t ht hW => ⟨by rw [hv], by rw [ht, ← hw]; exact hP, hS.F ht⟩) hS.2.2 hdg hlocks
theorem my_dretW (hexec : p.tables.exec = Jvm.exec) (hb : c.code = cc) (hr : meth.sig.returnType = some .double) (hlocks : meth.locks = false) (hP : va_P D vwCl wx H) (hw : wx = w1) (hS : va_S (my_A wc) s.heap H locs) {x w : UInt64} (hv : x = w) (hdg : decode cc pc = .ok (.dreturn, 1)) : W p l e R s m args below meth c H locs 0 0 (my_WQ below D args s wc w1 (some (.double w))) (F0 m pc ls [.double x]) :=
  W.dret (v := x) hexec hb hr (fun t ht hW => ⟨by rw [hv], by rw [ht, ← hw]; exact hP, hS.F ht⟩) hS.2.2 hdg hlocks
theorem my_lretW (hexec : p.tables.exec = Jvm.exec) (hb : c.code = cc) (hr : meth.sig.returnType = some .long) (hlocks : meth.locks = false) (hP : va_P D vwCl wx H) (hw : wx = w1) (hS : va_S (my_A wc) s.heap H locs) {x w : Int64} (hv : x = w) (hdg : decode cc pc = .ok (.lreturn, 1)) : W p l e R s m args below meth c H locs 0 0 (my_WQ below D args s wc w1 (some (.long w))) (F0 m pc ls [.long x]) :=
  W.lret (v := x) hexec hb hr (fun t ht hW => ⟨by rw [hv], by rw [ht, ← hw]; exact hP, hS.F ht⟩) hS.2.2 hdg hlocks
theorem my_zretR (hexec : p.tables.exec = Jvm.exec) (hb : c.code = cc) (hr : meth.sig.returnType = some .boolean) (hlocks : meth.locks = false) {x w : Int32} (hv : x = w) (hn : narrow .boolean (.int x) = .int x) (hdg : decode cc pc = .ok (.ireturn, 1)) : W p l e R s m args below meth c s.heap [] 0 0 (my_RQ below args s (some (.int w))) (F0 m pc ls [.int x]) :=
  W.zret (v := x) hexec hb hr hn (fun t ht hW => ⟨by rw [hv], ht⟩) (fun q hq => absurd hq List.not_mem_nil) hdg hlocks
theorem my_zretW (hexec : p.tables.exec = Jvm.exec) (hb : c.code = cc) (hr : meth.sig.returnType = some .boolean) (hlocks : meth.locks = false) (hP : va_P D vwCl wx H) (hw : wx = w1) (hS : va_S (my_A wc) s.heap H locs) {x w : Int32} (hv : x = w) (hn : narrow .boolean (.int x) = .int x) (hdg : decode cc pc = .ok (.ireturn, 1)) : W p l e R s m args below meth c H locs 0 0 (my_WQ below D args s wc w1 (some (.int w))) (F0 m pc ls [.int x]) :=
  W.zret (v := x) hexec hb hr hn (fun t ht hW => ⟨by rw [hv], by rw [ht, ← hw]; exact hP, hS.F ht⟩) hS.2.2 hdg hlocks
theorem my_aretR {rt : String} (hexec : p.tables.exec = Jvm.exec) (hb : c.code = cc) (hr : meth.sig.returnType = some (.object rt)) (hlocks : meth.locks = false) {x w : Nat} (hv : x = w) (hdg : decode cc pc = .ok (.areturn, 1)) : W p l e R s m args below meth c s.heap [] 0 0 (my_RQ below args s (some (.ref w))) (F0 m pc ls [.ref x]) :=
  W.aret (v := .ref x) hexec hb hr (Or.inl ⟨rt, rfl⟩) (Or.inr ⟨x, rfl⟩) (fun t ht hW => ⟨by rw [hv], ht⟩) (fun q hq => absurd hq List.not_mem_nil) hdg hlocks
theorem my_dec {a : Nat} (h : 0 < a) : nI a + Int32.ofInt (-1) = nI (a - 1) := sb_m1 h
end MYC
/-! what a comparison of doubles leaves on the stack, looked at by a branch -/
abbrev sp_lt (x y : UInt64) : Prop := FP.dcmp x y = some .lt
abbrev sp_gt (x y : UInt64) : Prop := FP.dcmp x y = some .gt
abbrev sp_eq (x y : UInt64) : Prop := FP.dcmp x y = some .eq
abbrev sp_ge (x y : UInt64) : Prop := FP.dcmp x y = some .gt ∨ FP.dcmp x y = some .eq
abbrev sp_le (x y : UInt64) : Prop := FP.dcmp x y = some .lt ∨ FP.dcmp x y = some .eq
theorem cv_g_ge_t {x y : UInt64} (h : 0 ≤ Op.cmpValue (FP.dcmp x y) .g) : ¬ FP.dcmp x y = some .lt := by
  generalize FP.dcmp x y = o at h ⊢
  revert h
  cases o with
  | none => decide
  | some o => cases o <;> decide
theorem cv_g_ge_f {x y : UInt64} (h : ¬ 0 ≤ Op.cmpValue (FP.dcmp x y) .g) : FP.dcmp x y = some .lt := by
  generalize FP.dcmp x y = o at h ⊢
  revert h
  cases o with
  | none => decide
  | some o => cases o <;> decide
theorem cv_g_lt_t {x y : UInt64} (h : Op.cmpValue (FP.dcmp x y) .g < 0) : FP.dcmp x y = some .lt := by
  generalize FP.dcmp x y = o at h ⊢
  revert h
  cases o with
  | none => decide
  | some o => cases o <;> decide
theorem cv_g_lt_f {x y : UInt64} (h : ¬ Op.cmpValue (FP.dcmp x y) .g < 0) : ¬ FP.dcmp x y = some .lt := by
  generalize FP.dcmp x y = o at h ⊢
  revert h
  cases o with
  | none => decide
  | some o => cases o <;> decide
theorem cv_l_le_t {x y : UInt64} (h : Op.cmpValue (FP.dcmp x y) .l ≤ 0) : ¬ FP.dcmp x y = some .gt := by
  generalize FP.dcmp x y = o at h ⊢
  revert h
  cases o with
  | none => decide
  | some o => cases o <;> decide
theorem cv_l_le_f {x y : UInt64} (h : ¬ Op.cmpValue (FP.dcmp x y) .l ≤ 0) : FP.dcmp x y = some .gt := by
  generalize FP.dcmp x y = o at h ⊢
  revert h
  cases o with
  | none => decide
  | some o => cases o <;> decide
theorem cv_l_gt_t {x y : UInt64} (h : 0 < Op.cmpValue (FP.dcmp x y) .l) : FP.dcmp x y = some .gt := by
  generalize FP.dcmp x y = o at h ⊢
  revert h
  cases o with
  | none => decide
  | some o => cases o <;> decide
theorem cv_l_gt_f {x y : UInt64} (h : ¬ 0 < Op.cmpValue (FP.dcmp x y) .l) : ¬ FP.dcmp x y = some .gt := by
  generalize FP.dcmp x y = o at h ⊢
  revert h
  cases o with
  | none => decide
  | some o => cases o <;> decide
theorem cv_l_lt_t {x y : UInt64} (h : Op.cmpValue (FP.dcmp x y) .l < 0) : ¬ (FP.dcmp x y = some .gt ∨ FP.dcmp x y = some .eq) := by
  generalize FP.dcmp x y = o at h ⊢
  revert h
  cases o with
  | none => decide
  | some o => cases o <;> decide
theorem cv_l_lt_f {x y : UInt64} (h : ¬ Op.cmpValue (FP.dcmp x y) .l < 0) : (FP.dcmp x y = some .gt ∨ FP.dcmp x y = some .eq) := by
  generalize FP.dcmp x y = o at h ⊢
  revert h
  cases o with
  | none => decide
  | some o => cases o <;> decide
theorem cv_l_ge_t {x y : UInt64} (h : 0 ≤ Op.cmpValue (FP.dcmp x y) .l) : (FP.dcmp x y = some .gt ∨ FP.dcmp x y = some .eq) := by
  generalize FP.dcmp x y = o at h ⊢
  revert h
  cases o with
  | none => decide
  | some o => cases o <;> decide
theorem cv_l_ge_f {x y : UInt64} (h : ¬ 0 ≤ Op.cmpValue (FP.dcmp x y) .l) : ¬ (FP.dcmp x y = some .gt ∨ FP.dcmp x y = some .eq) := by
  generalize FP.dcmp x y = o at h ⊢
  revert h
  cases o with
  | none => decide
  | some o => cases o <;> decide
theorem cv_g_gt_t {x y : UInt64} (h : 0 < Op.cmpValue (FP.dcmp x y) .g) : ¬ (FP.dcmp x y = some .lt ∨ FP.dcmp x y = some .eq) := by
  generalize FP.dcmp x y = o at h ⊢
  revert h
  cases o with
  | none => decide
  | some o => cases o <;> decide
theorem cv_g_gt_f {x y : UInt64} (h : ¬ 0 < Op.cmpValue (FP.dcmp x y) .g) : (FP.dcmp x y = some .lt ∨ FP.dcmp x y = some .eq) := by
  generalize FP.dcmp x y = o at h ⊢
  revert h
  cases o with
  | none => decide
  | some o => cases o <;> decide
theorem cv_g_le_t {x y : UInt64} (h : Op.cmpValue (FP.dcmp x y) .g ≤ 0) : (FP.dcmp x y = some .lt ∨ FP.dcmp x y = some .eq) := by
  generalize FP.dcmp x y = o at h ⊢
  revert h
  cases o with
  | none => decide
  | some o => cases o <;> decide
theorem cv_g_le_f {x y : UInt64} (h : ¬ Op.cmpValue (FP.dcmp x y) .g ≤ 0) : ¬ (FP.dcmp x y = some .lt ∨ FP.dcmp x y = some .eq) := by
  generalize FP.dcmp x y = o at h ⊢
  revert h
  cases o with
  | none => decide
  | some o => cases o <;> decide
theorem cv_l_eq_t {x y : UInt64} (h : Op.cmpValue (FP.dcmp x y) .l = 0) : FP.dcmp x y = some .eq := by
  generalize FP.dcmp x y = o at h ⊢
  revert h
  cases o with
  | none => decide
  | some o => cases o <;> decide
theorem cv_l_eq_f {x y : UInt64} (h : ¬ Op.cmpValue (FP.dcmp x y) .l = 0) : ¬ FP.dcmp x y = some .eq := by
  generalize FP.dcmp x y = o at h ⊢
  revert h
  cases o with
  | none => decide
  | some o => cases o <;> decide
theorem cv_g_eq_t {x y : UInt64} (h : Op.cmpValue (FP.dcmp x y) .g = 0) : FP.dcmp x y = some .eq := by
  generalize FP.dcmp x y = o at h ⊢
  revert h
  cases o with
  | none => decide
  | some o => cases o <;> decide
theorem cv_g_eq_f {x y : UInt64} (h : ¬ Op.cmpValue (FP.dcmp x y) .g = 0) : ¬ FP.dcmp x y = some .eq := by
  generalize FP.dcmp x y = o at h ⊢
  revert h
  cases o with
  | none => decide
  | some o => cases o <;> decide

