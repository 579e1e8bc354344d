/-! a world with some cells new, place by place -/
def my_lk (k : Nat) : List Nat → va_W → Option (Nat × va_E)
  | i :: is, e :: es => bif Nat.beq i k then some e else my_lk k is es
  | _, _ => none
def my_up2 : Nat → va_W → List Nat → va_W → va_W
  | _, [], _, _ => []
  | k, x :: xs, is, es => (my_lk k is es).getD x :: my_up2 (k + 1) xs is es
theorem my_lk_some {k : Nat} {is : List Nat} {es : va_W} {e : Nat × va_E} (h : my_lk k is es = some e) : ∃ j : Nat, is[j]? = some k ∧ es[j]? = some e := by
  induction is generalizing es with
  | nil => cases es <;> exact absurd h (by simp [my_lk])
  | cons i is ih =>
    cases es with
    | nil => exact absurd h (by simp [my_lk])
    | cons e9 es =>
      rw [my_lk] at h
      by_cases hi : i = k
      · subst hi
        rw [show Nat.beq i i = true from Nat.beq_refl i, cond_true] at h
        exact ⟨0, rfl, h⟩
      · rw [show Nat.beq i k = false from by rw [← Bool.not_eq_true]; exact fun h9 => hi (Nat.eq_of_beq_eq_true h9), cond_false] at h
        obtain ⟨j, h1, h2⟩ := ih h
        exact ⟨j + 1, h1, h2⟩
theorem my_lk_none {k : Nat} {is : List Nat} {es : va_W} (h : my_lk k is es = none) : k ∉ is.take es.length := by
  induction is generalizing es with
  | nil => simp
  | cons i is ih =>
    cases es with
    | nil => simp
    | cons e9 es =>
      rw [my_lk] at h
      by_cases hi : i = k
      · subst hi
        rw [show Nat.beq i i = true from Nat.beq_refl i, cond_true] at h
        cases h
      · rw [show Nat.beq i k = false from by rw [← Bool.not_eq_true]; exact fun h9 => hi (Nat.eq_of_beq_eq_true h9), cond_false] at h
        simp only [List.length_cons, List.take_succ_cons, List.mem_cons, not_or]
        exact ⟨Ne.symm hi, ih h⟩
theorem my_up2_get {xs : va_W} {is : List Nat} {es : va_W} : ∀ {k0 k : Nat} {q : Nat × va_E}, (my_up2 k0 xs is es)[k]? = some q → (∃ j : Nat, is[j]? = some (k0 + k) ∧ es[j]? = some q) ∨ ((k0 + k) ∉ is.take es.length ∧ xs[k]? = some q) := by
  induction xs with
  | nil => intro k0 k q h; simp [my_up2] at h
  | cons x xs ih =>
    intro k0 k q h
    rw [my_up2] at h
    cases k with
    | zero =>
      simp only [List.getElem?_cons_zero, Option.some.injEq] at h
      cases hk : my_lk k0 is es with
      | none => rw [hk] at h; exact Or.inr ⟨my_lk_none hk, by rw [← h]; rfl⟩
      | some e9 => rw [hk] at h; obtain ⟨j, h1, h2⟩ := my_lk_some hk; exact Or.inl ⟨j, h1, by rw [h2, ← h]; rfl⟩
    | succ k =>
      rw [List.getElem?_cons_succ] at h
      have := ih h
      rw [show k0 + 1 + k = k0 + (k + 1) by omega] at this
      exact this
theorem my_join2 {D : va_G} {A : Nat → Prop} {ws wc w1 ws' : va_W} {H H1 : Heap} (hP : va_P D vwCl ws H) (hD : va_D A ws) (is : List Nat) (hC : is.map (fun i => ws[i]?) = wc.map some) (ha : w1.map (fun e => e.1) = wc.map (fun e => e.1)) (hk : ∀ q : Nat, q < H.size → ¬ my_A wc q → H1[q]? = H[q]?) (hP1 : va_P D vwCl w1 H1) (hu : my_up2 0 ws is w1 = ws') : va_P D vwCl ws' H1 ∧ va_D A ws' := by
  subst hu
  have hlen : w1.length = wc.length := by
    have := congrArg List.length ha
    simpa using this
  have hlen2 : is.length = wc.length := by
    have := congrArg List.length hC
    simpa using this
  have hin : ∀ {j i : Nat}, is[j]? = some i → ∃ q, ws[i]? = some q ∧ wc[j]? = some q := by
    intro j i h
    have h1 : (is.map (fun i => ws[i]?))[j]? = some ws[i]? := by rw [List.getElem?_map, h]; rfl
    rw [hC, List.getElem?_map] at h1
    cases h2 : wc[j]? with
    | none => rw [h2] at h1; cases h1
    | some q => rw [h2] at h1; exact ⟨q, (Option.some.inj h1).symm, rfl⟩
  have hadr : ∀ {j : Nat} {q q1 : Nat × va_E}, wc[j]? = some q → w1[j]? = some q1 → q1.1 = q.1 := by
    intro j q q1 h1 h2
    have h3 : (w1.map (fun e => e.1))[j]? = some q1.1 := by rw [List.getElem?_map, h2]; rfl
    rw [ha, List.getElem?_map, h1] at h3
    exact (Option.some.inj h3).symm
  have key : ∀ (k : Nat) (q : Nat × va_E), (my_up2 0 ws is w1)[k]? = some q → ∃ q0, ws[k]? = some q0 ∧ q.1 = q0.1 := by
    intro k q h
    rcases my_up2_get h with ⟨j, h1, h2⟩ | ⟨-, h2⟩
    · rw [Nat.zero_add] at h1
      obtain ⟨q0, h3, h4⟩ := hin h1
      exact ⟨q0, h3, hadr h4 h2⟩
    · exact ⟨q, h2, rfl⟩
  refine ⟨fun k q h => ?_, ⟨fun i j p q hi hj hpq => ?_, fun k q h => ?_⟩⟩
  · rcases my_up2_get h with ⟨j, h1, h2⟩ | ⟨h1, h2⟩
    · exact hP1 j q h2
    · rw [Nat.zero_add] at h1
      refine (hP k q h2).kept (hk q.1 (hP k q h2).lt (fun hA => ?_))
      obtain ⟨e9, he, heq⟩ := List.mem_map.mp hA
      obtain ⟨j, hj⟩ := List.getElem?_of_mem he
      have hj2 : j < is.length := by rw [hlen2]; exact (List.getElem?_eq_some_iff.mp hj).1
      obtain ⟨q0, h3, h4⟩ := hin (List.getElem?_eq_getElem hj2)
      rw [hj] at h4
      cases h4
      have := hD.1 k is[j] q e9 h2 h3 heq.symm
      refine h1 ?_
      rw [this, List.take_of_length_le (by omega)]
      exact List.getElem_mem hj2
  · obtain ⟨p0, h1, h2⟩ := key i p hi
    obtain ⟨q0, h3, h4⟩ := key j q hj
    exact hD.1 i j p0 q0 h1 h3 (by rw [← h2, ← h4, hpq])
  · obtain ⟨q0, h1, h2⟩ := key k q h
    rw [h2]; exact hD.2 k q0 h1
theorem my_goW2 {p : Program} {l : Launch} {e : Env} {R : Room} {s : State} {m : MethodId} {args : Array Value} {below : List Frame} {meth : Method} {c : Code} {H : Heap} {locs : List Loc} {cells slots : Nat} {Q : State → Prop} {D : va_G} {pc : Nat} {ls : Array Slot} {st0 rest : List Value} {wc w1 wx wx' : va_W} {v : Option Value} {A : Nat → Prop} {H0 : Heap}
    (hr : va_Run p l e R s m args below meth c H locs cells slots 0 0 (F0 m pc ls st0) rest (fun st o t => o = .returned v ∧ va_P D vwCl w1 t.heap ∧ va_F (my_A wc) st t) (my_A wc))
    (hP : va_P D vwCl wx H) (hD : va_D A wx) (hS : va_S A H0 H locs) (is : List Nat) (hC : is.map (fun i => wx[i]?) = wc.map some) (ha : w1.map (fun e => e.1) = wc.map (fun e => e.1)) (hu : my_up2 0 wx is w1 = wx')
    (k : ∀ (H : Heap) (locs : List Loc), va_P D vwCl wx' H → va_D A wx' → va_S A H0 H locs → W p l e R s m args below meth c H locs cells slots Q (F0 m (pc + 3) ls (v.toList ++ rest))) : W p l e R s m args below meth c H locs cells slots Q (F0 m pc ls st0) := by
  intro T hT X
  obtain ⟨v9, st₀, t, T', L, h0, X', hL, e1, e2, ⟨hv, hp1, hF⟩, st⟩ := hr T hT X
  cases hv
  unfold va_F at hF
  rw [h0] at hF
  rw [← e1] at hp1 hF
  have hAs := my_A_sub hD is hC
  obtain ⟨j1, j2⟩ := my_join2 hP hD is hC ha hF.2 hp1 hu
  obtain ⟨t2, a1, b1⟩ := k T'.heap (locs ++ L) j1 j2 ⟨Nat.le_trans hS.1 hF.1, fun q h1 h2 => by rw [hF.2 q (Nat.lt_of_lt_of_le h1 hS.1) (fun h3 => h2 (hAs q h3))]; exact hS.2.1 q h1 h2, fun q hq => by
    rcases List.mem_append.mp hq with h | h
    · exact hS.2.2 q h
    · exact hAs _ (hL q h)⟩ T' rfl X'
  exact ⟨t2, st t2 a1, b1⟩

theorem kk_insL (l : Launch) (D : va_G) (kd ki kz kl : ClassId) (z : Nat) (ad : Nat → Nat) (kn : Nat) (P : Nat → UInt64) (V : Nat → UInt64) (F : Nat → UInt64) (x : UInt64) (e0 : UInt64) (e1 : UInt64) (e2 : UInt64) (e3 : UInt64) (e4 : UInt64) (hst : s_st x = x) (hI : KI kn P V F) (hnx : fx_n x) (hxB : fx_B 1168 x) (h1 : 0 < kn ∧ sp_gt x (P 0) ∧ sp_lt x (P (kn - 1))) (h2 : ¬ sp_lt (FP.dsub x (P (s_pc P kn x))) 4547007122018943789) (h3 : ¬ sp_lt (FP.dsub (P (s_pc P kn x + 1)) x) 4547007122018943789) (hk6 : kn < 60) : my_WR l D kd ki kz kl z yX6_insertKnot wsX6_insertKnot ({ frames := 5, cells := 0, slots := 0, locals := 121 }) [.ref (ad 0), .double x] [(ad 0, .inr (6, [.ref (ad 1), .ref (ad 8), .ref (ad 14), .ref (ad 21), .ref (ad 22), .ref (ad 23)])), (ad 14, .inr (1, [.ref (ad 15), .ref (ad 17), .ref (ad 19), .int (nI kn)])), (ad 15, .inr (4, [.ref (ad 16)])), (ad 16, .inl (kd, 60, .inr (.inr (.inr (.inl P))))), (ad 17, .inr (4, [.ref (ad 18)])), (ad 18, .inl (kd, 60, .inr (.inr (.inr (.inl V))))), (ad 19, .inr (4, [.ref (ad 20)])), (ad 20, .inl (kd, 60, .inr (.inr (.inr (.inl F))))), (ad 21, .inr (2, [.double e0, .double e1, .double e2, .double e3, .double e4]))] [(ad 0, .inr (6, [.ref (ad 1), .ref (ad 8), .ref (ad 14), .ref (ad 21), .ref (ad 22), .ref (ad 23)])), (ad 14, .inr (1, [.ref (ad 15), .ref (ad 17), .ref (ad 19), .int (nI (kn + 1))])), (ad 15, .inr (4, [.ref (ad 16)])), (ad 16, .inl (kd, 60, .inr (.inr (.inr (.inl (s_ins P (s_pc P kn x + 1) kn x)))))), (ad 17, .inr (4, [.ref (ad 18)])), (ad 18, .inl (kd, 60, .inr (.inr (.inr (.inl (s_ins V (s_pc P kn x + 1) kn (s_within (V (s_pc P kn x)) (V (s_pc P kn x + 1)) (s_hk P V F kn (s_pc P kn x) x)))))))), (ad 19, .inr (4, [.ref (ad 20)])), (ad 20, .inl (kd, 60, .inr (.inr (.inr (.inl (s_ins F (s_pc P kn x + 1) kn (if sp_lt (s_tk P V F kn (s_pc P kn x) x) 0 then 0 else s_tk P V F kn (s_pc P kn x) x))))))), (ad 21, .inr (2, [.double (P (s_pc P kn x)), .double (V (s_pc P kn x)), .double (s_s P V F kn (s_pc P kn x)), .double (s_pk P V F kn (s_pc P kn x)), .double (s_qk P V F kn (s_pc P kn x))]))] (some (.int (nI (s_pc P kn x + 1)))) := by
  have h := kk_X6_insertKnot l D kd ki kz kl z ad kn P V F x e0 e1 e2 e3 e4 hI hnx (by rw [hst]; exact hxB) (by rw [hst]; exact h1) (by rw [hst]; exact h2) (by rw [hst]; exact h3) hk6
  rw [hst] at h
  exact h
theorem kk_setL (l : Launch) (D : va_G) (kd ki kz kl : ClassId) (z : Nat) (ad : Nat → Nat) (kn : Nat) (P : Nat → UInt64) (V : Nat → UInt64) (F : Nat → UInt64) (k : Nat) (y : UInt64) (hst : s_st y = y) (hny : fx_n y) (hk : k < kn) (hn : kn ≤ 60) (h1 : sp_ge y 13920209183539462144 ∧ sp_le y 4696837146684686336) (h2 : 0 < k → ¬ sp_lt y (V (k - 1))) (h3 : k + 1 < kn → ¬ sp_gt y (V (k + 1))) : my_WR l D kd ki kz kl z yX6_setKnotValue wsX6_setKnotValue ({ frames := 2, cells := 0, slots := 0, locals := 42 }) [.ref (ad 0), .int (nI k), .double y] [(ad 0, .inr (6, [.ref (ad 1), .ref (ad 8), .ref (ad 14), .ref (ad 21), .ref (ad 22), .ref (ad 23)])), (ad 14, .inr (1, [.ref (ad 15), .ref (ad 17), .ref (ad 19), .int (nI kn)])), (ad 15, .inr (4, [.ref (ad 16)])), (ad 16, .inl (kd, 60, .inr (.inr (.inr (.inl P))))), (ad 17, .inr (4, [.ref (ad 18)])), (ad 18, .inl (kd, 60, .inr (.inr (.inr (.inl V))))), (ad 19, .inr (4, [.ref (ad 20)])), (ad 20, .inl (kd, 60, .inr (.inr (.inr (.inl F)))))] [(ad 0, .inr (6, [.ref (ad 1), .ref (ad 8), .ref (ad 14), .ref (ad 21), .ref (ad 22), .ref (ad 23)])), (ad 14, .inr (1, [.ref (ad 15), .ref (ad 17), .ref (ad 19), .int (nI kn)])), (ad 15, .inr (4, [.ref (ad 16)])), (ad 16, .inl (kd, 60, .inr (.inr (.inr (.inl P))))), (ad 17, .inr (4, [.ref (ad 18)])), (ad 18, .inl (kd, 60, .inr (.inr (.inr (.inl (vf_upd V k y)))))), (ad 19, .inr (4, [.ref (ad 20)])), (ad 20, .inl (kd, 60, .inr (.inr (.inr (.inl F)))))] (some (.double (V k))) := by
  have h := kk_X6_setKnotValue l D kd ki kz kl z ad kn P V F k y hny hk hn (by rw [hst]; exact h1) (by rw [hst]; exact h2) (by rw [hst]; exact h3)
  rw [hst] at h
  exact h
theorem kk_fixL (l : Launch) (D : va_G) (kd ki kz kl : ClassId) (z : Nat) (ad : Nat → Nat) (kn : Nat) (P : Nat → UInt64) (V : Nat → UInt64) (F : Nat → UInt64) (k : Nat) (t : UInt64) (hst : s_st t = t) (hnt : fx_n t) (hk : k < kn) (hI : KI kn P V (vf_upd F k t)) (h1 : sp_ge t 0 ∧ sp_le t 4696837146684686336) : my_WR l D kd ki kz kl z yX6_fixSlope wsX6_fixSlope ({ frames := 4, cells := 0, slots := 0, locals := 100 }) [.ref (ad 0), .int (nI k), .double t] [(ad 0, .inr (6, [.ref (ad 1), .ref (ad 8), .ref (ad 14), .ref (ad 21), .ref (ad 22), .ref (ad 23)])), (ad 14, .inr (1, [.ref (ad 15), .ref (ad 17), .ref (ad 19), .int (nI kn)])), (ad 15, .inr (4, [.ref (ad 16)])), (ad 16, .inl (kd, 60, .inr (.inr (.inr (.inl P))))), (ad 17, .inr (4, [.ref (ad 18)])), (ad 18, .inl (kd, 60, .inr (.inr (.inr (.inl V))))), (ad 19, .inr (4, [.ref (ad 20)])), (ad 20, .inl (kd, 60, .inr (.inr (.inr (.inl F)))))] [(ad 0, .inr (6, [.ref (ad 1), .ref (ad 8), .ref (ad 14), .ref (ad 21), .ref (ad 22), .ref (ad 23)])), (ad 14, .inr (1, [.ref (ad 15), .ref (ad 17), .ref (ad 19), .int (nI kn)])), (ad 15, .inr (4, [.ref (ad 16)])), (ad 16, .inl (kd, 60, .inr (.inr (.inr (.inl P))))), (ad 17, .inr (4, [.ref (ad 18)])), (ad 18, .inl (kd, 60, .inr (.inr (.inr (.inl V))))), (ad 19, .inr (4, [.ref (ad 20)])), (ad 20, .inl (kd, 60, .inr (.inr (.inr (.inl (vf_upd F k t))))))] (some (.double (s_s P V (vf_upd F k t) kn k))) := by
  have h := kk_X6_fixSlope l D kd ki kz kl z ad kn P V F k t hnt hk (by rw [hst]; exact hI) (by rw [hst]; exact h1)
  rw [hst] at h
  exact h
def LWd (kd ki kz kl : ClassId) (ad : Nat → Nat) (wa xa ya fa : Nat) (np : Nat) (X : Nat → UInt64) (Y : Nat → UInt64) (Wt : Nat → UInt64) (bc : Nat) (BW : Nat → UInt64) (BS : Nat → UInt64) (BZ : Nat → Int32) (wf : Nat → UInt64) (n : Nat) (P : Nat → UInt64) (V : Nat → UInt64) (F : Nat → UInt64) (e0 : UInt64) (e1 : UInt64) (e2 : UInt64) (e3 : UInt64) (e4 : UInt64) : va_W := [(ad 0, .inr (6, [.ref (ad 1), .ref (ad 8), .ref (ad 14), .ref (ad 21), .ref (ad 22), .ref (ad 23)])), (ad 1, .inr (3, [.ref (ad 2), .ref (ad 4), .ref (ad 6), .int (nI np)])), (ad 2, .inr (4, [.ref (ad 3)])), (ad 3, .inl (kd, 40, .inr (.inr (.inr (.inl X))))), (ad 4, .inr (4, [.ref (ad 5)])), (ad 5, .inl (kd, 40, .inr (.inr (.inr (.inl Y))))), (ad 6, .inr (4, [.ref (ad 7)])), (ad 7, .inl (kd, 40, .inr (.inr (.inr (.inl Wt))))), (ad 8, .inr (0, [.ref (ad 9), .ref (ad 11), .ref (ad 13), .int (nI bc)])), (ad 9, .inr (4, [.ref (ad 10)])), (ad 10, .inl (kd, 40, .inr (.inr (.inr (.inl BW))))), (ad 11, .inr (4, [.ref (ad 12)])), (ad 12, .inl (kd, 40, .inr (.inr (.inr (.inl BS))))), (ad 13, .inl (ki, 40, .inl BZ)), (ad 14, .inr (1, [.ref (ad 15), .ref (ad 17), .ref (ad 19), .int (nI n)])), (ad 15, .inr (4, [.ref (ad 16)])), (ad 16, .inl (kd, 60, .inr (.inr (.inr (.inl P))))), (ad 17, .inr (4, [.ref (ad 18)])), (ad 18, .inl (kd, 60, .inr (.inr (.inr (.inl V))))), (ad 19, .inr (4, [.ref (ad 20)])), (ad 20, .inl (kd, 60, .inr (.inr (.inr (.inl F))))), (ad 21, .inr (2, [.double e0, .double e1, .double e2, .double e3, .double e4])), (ad 22, .inr (5, [.int 1, .int 0, .double 0])), (ad 23, .inr (5, [.int 0, .int 0, .double 0])), (wa, .inl (kd, 20, .inr (.inr (.inr (.inl wf))))), (xa, .inl (kd, 20, .inr (.inr (.inr (.inl P))))), (ya, .inl (kd, 20, .inr (.inr (.inr (.inl V))))), (fa, .inl (kd, 20, .inr (.inr (.inr (.inl F)))))]
