/-! the law's steps -/
section MYL
variable {p : Program} {l : Launch} {e : Env} {R : Room} {s : State} {m : MethodId} {args : Array Value} {below : List Frame} {meth : Method} {c : Code} {H : Heap} {locs : List Loc} {cells slots : Nat} {Q : State → Prop}
variable {D : va_G} {kd ki kz kl : ClassId} {z : Nat} {cc : ByteArray} {nL pc : Nat} {ls : Array Slot} {st0 rest : List Value} {Ts : List Cond} {own : String} {A : Nat → Prop} {H0 : Heap} {wx wc : va_W}
variable {y : MethodName} {ws ws' : List Cond} {rm : Room} {bytes : ByteArray} {maxL index n mc ms : Nat} {ret : Option FieldType} {As : List Value} {hh : List (Nat × Nat × Nat × Nat)}
theorem my_runSW {Pc : Array Value → State → Prop} {Qc : Array Value → State → Outcome → State → Prop} {free : Addr → Prop} (S : CallFix p m c cc nL s args Ts own) (hls : ls.size = nL) (hM : Met l y ws rm Pc Qc mc ms free) (hw : ws = Cond.codeWith y bytes maxL ret hh :: ws') (hrm : rm.cells = mc ∧ rm.slots = ms) (hG : GoodIn Ts (va_wsS own index y ws)) (hok : my_ok y n = true) (hfit : my_fit rm R maxL rest = true) (hcs : cells + mc ≤ R.cells ∧ slots + ms ≤ R.slots)
    (hpre : PreS s H Pc As) (hn : As.length = n) (hst : st0 = As.reverse ++ rest) (hdg : decode cc pc = .ok (.invokestatic index, 3)) :
    va_Run p l e R s m args below meth c H locs cells slots mc ms (F0 m pc ls st0) rest (Qc As.toArray) free :=
  vx_runSW S hM (vx_cwSW n S.2.2.2.2 hG hw hrm.1 hrm.2 (my_ok_spec hok) (my_fit_spec hfit).1) hpre rfl hn hls hst (lv_room (my_fit_spec hfit).2) hdg hcs
theorem my_preX {As : List Value} (hC : my_C D kd ki kz kl z s H) (hX : my_X3 s) (hP : va_P D vwCl wc H) : PreS s H (va_Pc As (fun U => my_C D kd ki kz kl z U U.heap ∧ my_X3 U ∧ va_P D vwCl wc U.heap)) As :=
  ⟨fun _ U _ _ q => ⟨q.1, my_C_calling q.2.1, my_X3.moved (u := U) (Vm.Alike.refl U.vm) q.2.2.1, q.2.2.2⟩, fun U hU hW => ⟨rfl, by rw [hU]; exact my_C_warm hW hC, my_X3.moved hW.alike hX, by rw [hU]; exact hP⟩⟩
/-- behind a call that threw and caught -/
theorem my_goK {cd : Int32} (hr : va_Run p l e R s m args below meth c H locs cells slots 1 6 (F0 m pc ls st0) rest (fun st o t => o = .returned (some (.int cd)) ∧ va_F (fun _ => False) st t) (fun _ => False))
    (hP : va_P D vwCl wx H) (hS : va_S A H0 H locs)
    (k : ∀ (H : Heap) (locs : List Loc), va_P D vwCl wx H → va_S A H0 H locs → W p l e R s m args below meth c H locs (cells + 1) (slots + 6) Q (F0 m (pc + 3) ls (.int cd :: rest))) : W p l e R s m args below meth c H locs cells slots Q (F0 m pc ls st0) := by
  intro T hT X
  obtain ⟨v9, st₀, t, T', L, h0, X', hL, e1, e2, ⟨hv, hF⟩, st⟩ := hr T hT X
  cases hv
  unfold va_F at hF
  rw [h0, ← e1] at hF
  obtain ⟨t2, a1, b1⟩ := k T'.heap (locs ++ L) (hP.kept (fun k x hx => hF.2 x.1 ((hP k x hx).lt) (fun h9 => h9))) ⟨Nat.le_trans hS.1 hF.1, fun q h1 h2 => (hF.2 q (Nat.lt_of_lt_of_le h1 hS.1) (fun h9 => h9)).trans (hS.2.1 q h1 h2), fun q hq => by
    rcases List.mem_append.mp hq with h | h
    · exact hS.2.2 q h
    · exact (hL q h).elim⟩ T' rfl X'
  exact ⟨t2, st t2 a1, b1⟩
theorem my_sld (hexec : p.tables.exec = Jvm.exec) (hb : c.code = cc) {b L k : Nat} {xs : Nat → Int32} (hX : va_X b L xs s H0) (hbl : b < H0.size) (hbA : ¬ A b) (hS : va_S A H0 H locs) (hk : k < L) (hL : L ≤ 2048) (hdg : decode cc pc = .ok (.iaload, 1))
    (kk : W p l e R s m args below meth c H locs cells slots Q (F0 m (pc + 1) ls (.int (xs k) :: rest))) : W p l e R s m args below meth c H locs cells slots Q (F0 m pc ls (.int (nI k) :: .ref b :: rest)) :=
  va_sld hexec hb hX hbl hbA hS (vp_in_nI hk (by omega)) hdg (by rw [nI_clamp (by omega)]; exact kk)
end MYL
/-! a world with some cells new, place by place -/
def my_lk (k : Nat) : List Nat → va_W → Option (Nat × va_E)
  | i :: is, e :: es => bif Nat.beq i k then some e else my_lk k is es
  | _, _ => none
def my_up2 : Nat → va_W → List Nat → va_W → va_W
  | _, [], _, _ => []
  | k, x :: xs, is, es => (my_lk k is es).getD x :: my_up2 (k + 1) xs is es
theorem my_lk_some {k : Nat} {is : List Nat} {es : va_W} {e : Nat × va_E} (h : my_lk k is es = some e) : ∃ j : Nat, is[j]? = some k ∧ es[j]? = some e := by
  induction is generalizing es with
  | nil => cases es <;> exact absurd h (by simp [my_lk])
  | cons i is ih =>
    cases es with
    | nil => exact absurd h (by simp [my_lk])
    | cons e9 es =>
      rw [my_lk] at h
      by_cases hi : i = k
      · subst hi
        rw [show Nat.beq i i = true from Nat.beq_refl i, cond_true] at h
        exact ⟨0, rfl, h⟩
      · rw [show Nat.beq i k = false from by rw [← Bool.not_eq_true]; exact fun h9 => hi (Nat.eq_of_beq_eq_true h9), cond_false] at h
        obtain ⟨j, h1, h2⟩ := ih h
        exact ⟨j + 1, h1, h2⟩
theorem my_lk_none {k : Nat} {is : List Nat} {es : va_W} (h : my_lk k is es = none) : k ∉ is.take es.length := by
  induction is generalizing es with
  | nil => simp
  | cons i is ih =>
    cases es with
    | nil => simp
    | cons e9 es =>
      rw [my_lk] at h
      by_cases hi : i = k
      · subst hi
        rw [show Nat.beq i i = true from Nat.beq_refl i, cond_true] at h
        cases h
      · rw [show Nat.beq i k = false from by rw [← Bool.not_eq_true]; exact fun h9 => hi (Nat.eq_of_beq_eq_true h9), cond_false] at h
        simp only [List.length_cons, List.take_succ_cons, List.mem_cons, not_or]
        exact ⟨Ne.symm hi, ih h⟩
theorem my_up2_get {xs : va_W} {is : List Nat} {es : va_W} : ∀ {k0 k : Nat} {q : Nat × va_E}, (my_up2 k0 xs is es)[k]? = some q → (∃ j : Nat, is[j]? = some (k0 + k) ∧ es[j]? = some q) ∨ ((k0 + k) ∉ is.take es.length ∧ xs[k]? = some q) := by
  induction xs with
  | nil => intro k0 k q h; simp [my_up2] at h
  | cons x xs ih =>
    intro k0 k q h
    rw [my_up2] at h
    cases k with
    | zero =>
      simp only [List.getElem?_cons_zero, Option.some.injEq] at h
      cases hk : my_lk k0 is es with
      | none => rw [hk] at h; exact Or.inr ⟨my_lk_none hk, by rw [← h]; rfl⟩
      | some e9 => rw [hk] at h; obtain ⟨j, h1, h2⟩ := my_lk_some hk; exact Or.inl ⟨j, h1, by rw [h2, ← h]; rfl⟩
    | succ k =>
      rw [List.getElem?_cons_succ] at h
      have := ih h
      rw [show k0 + 1 + k = k0 + (k + 1) by omega] at this
      exact this
theorem my_join2 {D : va_G} {A : Nat → Prop} {ws wc w1 ws' : va_W} {H H1 : Heap} (hP : va_P D vwCl ws H) (hD : va_D A ws) (is : List Nat) (hC : is.map (fun i => ws[i]?) = wc.map some) (ha : w1.map (fun e => e.1) = wc.map (fun e => e.1)) (hk : ∀ q : Nat, q < H.size → ¬ my_A wc q → H1[q]? = H[q]?) (hP1 : va_P D vwCl w1 H1) (hu : my_up2 0 ws is w1 = ws') : va_P D vwCl ws' H1 ∧ va_D A ws' := by
  subst hu
  have hlen : w1.length = wc.length := by
    have := congrArg List.length ha
    simpa using this
  have hlen2 : is.length = wc.length := by
    have := congrArg List.length hC
    simpa using this
  have hin : ∀ {j i : Nat}, is[j]? = some i → ∃ q, ws[i]? = some q ∧ wc[j]? = some q := by
    intro j i h
    have h1 : (is.map (fun i => ws[i]?))[j]? = some ws[i]? := by rw [List.getElem?_map, h]; rfl
    rw [hC, List.getElem?_map] at h1
    cases h2 : wc[j]? with
    | none => rw [h2] at h1; cases h1
    | some q => rw [h2] at h1; exact ⟨q, (Option.some.inj h1).symm, rfl⟩
  have hadr : ∀ {j : Nat} {q q1 : Nat × va_E}, wc[j]? = some q → w1[j]? = some q1 → q1.1 = q.1 := by
    intro j q q1 h1 h2
    have h3 : (w1.map (fun e => e.1))[j]? = some q1.1 := by rw [List.getElem?_map, h2]; rfl
    rw [ha, List.getElem?_map, h1] at h3
    exact (Option.some.inj h3).symm
  have key : ∀ (k : Nat) (q : Nat × va_E), (my_up2 0 ws is w1)[k]? = some q → ∃ q0, ws[k]? = some q0 ∧ q.1 = q0.1 := by
    intro k q h
    rcases my_up2_get h with ⟨j, h1, h2⟩ | ⟨-, h2⟩
    · rw [Nat.zero_add] at h1
      obtain ⟨q0, h3, h4⟩ := hin h1
      exact ⟨q0, h3, hadr h4 h2⟩
    · exact ⟨q, h2, rfl⟩
  refine ⟨fun k q h => ?_, ⟨fun i j p q hi hj hpq => ?_, fun k q h => ?_⟩⟩
  · rcases my_up2_get h with ⟨j, h1, h2⟩ | ⟨h1, h2⟩
    · exact hP1 j q h2
    · rw [Nat.zero_add] at h1
      refine (hP k q h2).kept (hk q.1 (hP k q h2).lt (fun hA => ?_))
      obtain ⟨e9, he, heq⟩ := List.mem_map.mp hA
      obtain ⟨j, hj⟩ := List.getElem?_of_mem he
      have hj2 : j < is.length := by rw [hlen2]; exact (List.getElem?_eq_some_iff.mp hj).1
      obtain ⟨q0, h3, h4⟩ := hin (List.getElem?_eq_getElem hj2)
      rw [hj] at h4
      cases h4
      have := hD.1 k is[j] q e9 h2 h3 heq.symm
      refine h1 ?_
      rw [this, List.take_of_length_le (by omega)]
      exact List.getElem_mem hj2
  · obtain ⟨p0, h1, h2⟩ := key i p hi
    obtain ⟨q0, h3, h4⟩ := key j q hj
    exact hD.1 i j p0 q0 h1 h3 (by rw [← h2, ← h4, hpq])
  · obtain ⟨q0, h1, h2⟩ := key k q h
    rw [h2]; exact hD.2 k q0 h1
theorem my_goW2 {p : Program} {l : Launch} {e : Env} {R : Room} {s : State} {m : MethodId} {args : Array Value} {below : List Frame} {meth : Method} {c : Code} {H : Heap} {locs : List Loc} {cells slots : Nat} {Q : State → Prop} {D : va_G} {pc : Nat} {ls : Array Slot} {st0 rest : List Value} {wc w1 wx wx' : va_W} {v : Option Value} {A : Nat → Prop} {H0 : Heap}
    (hr : va_Run p l e R s m args below meth c H locs cells slots 0 0 (F0 m pc ls st0) rest (fun st o t => o = .returned v ∧ va_P D vwCl w1 t.heap ∧ va_F (my_A wc) st t) (my_A wc))
    (hP : va_P D vwCl wx H) (hD : va_D A wx) (hS : va_S A H0 H locs) (is : List Nat) (hC : is.map (fun i => wx[i]?) = wc.map some) (ha : w1.map (fun e => e.1) = wc.map (fun e => e.1)) (hu : my_up2 0 wx is w1 = wx')
    (k : ∀ (H : Heap) (locs : List Loc), va_P D vwCl wx' H → va_D A wx' → va_S A H0 H locs → W p l e R s m args below meth c H locs cells slots Q (F0 m (pc + 3) ls (v.toList ++ rest))) : W p l e R s m args below meth c H locs cells slots Q (F0 m pc ls st0) := by
  intro T hT X
  obtain ⟨v9, st₀, t, T', L, h0, X', hL, e1, e2, ⟨hv, hp1, hF⟩, st⟩ := hr T hT X
  cases hv
  unfold va_F at hF
  rw [h0] at hF
  rw [← e1] at hp1 hF
  have hAs := my_A_sub hD is hC
  obtain ⟨j1, j2⟩ := my_join2 hP hD is hC ha hF.2 hp1 hu
  obtain ⟨t2, a1, b1⟩ := k T'.heap (locs ++ L) j1 j2 ⟨Nat.le_trans hS.1 hF.1, fun q h1 h2 => by rw [hF.2 q (Nat.lt_of_lt_of_le h1 hS.1) (fun h3 => h2 (hAs q h3))]; exact hS.2.1 q h1 h2, fun q hq => by
    rcases List.mem_append.mp hq with h | h
    · exact hS.2.2 q h
    · exact hAs _ (hL q h)⟩ T' rfl X'
  exact ⟨t2, st t2 a1, b1⟩

