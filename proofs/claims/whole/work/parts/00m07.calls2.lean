/-! returns and calls -/
section MRet
variable {d : Nat} {y : MethodName} {cc : ByteArray} {nL : Nat} {ret : Option FieldType} {X0 : MX} {Ω : Nat → MS → Prop} {pc : Nat} {ls : ML} {N : NN} {X : MX}
theorem m_retQ {D : va_G} {g : m_g4} {α α0 : Nat → Nat} {A : Nat → Prop} {s : State} {H : Heap} {locs : List Loc} {v : Option MV} {n : Nat} {args : Array Value} (hS : va_S A s.heap H locs) (hRL : m_RL D g α N X A H) (hα : ∀ o, o < n → α o = α0 o) (hv : ∀ x, v = some x → m_cv (xn X) x) : ∀ t : State, t.heap = H → s.WarmedH t.vm → m_Qc D g α0 A v n N X args s (.returned (v.map (m_rv α))) t :=
  fun t ht _ => ⟨⟨α, hα, rfl, hv, by rw [ht]; exact hRL⟩, hS.F ht⟩
theorem s_iret {x : Int} (hΩ : m_Gd d y cc nL ret X0 (some (.inl x)) N X Ω) (hd : decode cc pc = .ok (.ireturn, 1)) (hr : ret = some .int) : Ω pc (ls, [.inl x], N, X) := by
  obtain ⟨p, l, e, R, s, m, args, below, meth, c, D, g, A, α0, ⟨hx, hb, -, -, -, -, -, -, hlk, -⟩, hret, rfl⟩ := hΩ
  refine ⟨Nat.le_refl _, Nat.le_refl _, fun α H locs L hr' => ?_⟩
  obtain ⟨r1, r2, r3, r4, r5, r6, r7⟩ := hr'
  dsimp only at r1 r2 r3 r4 r5 r6 r7 ⊢
  exact W.iret hx hb (hret.trans hr) (m_retQ (v := some (.inl x)) r3 r4 r5 (fun z hz => by cases hz; exact (m_c1 r7).1)) r3.2.2 hd hlk
theorem s_zret {x : Int} (hΩ : m_Gd d y cc nL ret X0 (some (.inl x)) N X Ω) (hd : decode cc pc = .ok (.ireturn, 1)) (hr : ret = some .boolean) (hz : 0 ≤ x ∧ x ≤ 1) : Ω pc (ls, [.inl x], N, X) := by
  obtain ⟨p, l, e, R, s, m, args, below, meth, c, D, g, A, α0, ⟨hx, hb, -, -, -, -, -, -, hlk, -⟩, hret, rfl⟩ := hΩ
  refine ⟨Nat.le_refl _, Nat.le_refl _, fun α H locs L hr' => ?_⟩
  obtain ⟨r1, r2, r3, r4, r5, r6, r7⟩ := hr'
  dsimp only at r1 r2 r3 r4 r5 r6 r7 ⊢
  exact W.zret hx hb (hret.trans hr) (m_znar (α := α) hz) (m_retQ (v := some (.inl x)) r3 r4 r5 (fun z hz => by cases hz; exact (m_c1 r7).1)) r3.2.2 hd hlk
theorem s_lret {x : Int} (hΩ : m_Gd d y cc nL ret X0 (some (.inr (.inl x))) N X Ω) (hd : decode cc pc = .ok (.lreturn, 1)) (hr : ret = some .long) : Ω pc (ls, [.inr (.inl x)], N, X) := by
  obtain ⟨p, l, e, R, s, m, args, below, meth, c, D, g, A, α0, ⟨hx, hb, -, -, -, -, -, -, hlk, -⟩, hret, rfl⟩ := hΩ
  refine ⟨Nat.le_refl _, Nat.le_refl _, fun α H locs L hr' => ?_⟩
  obtain ⟨r1, r2, r3, r4, r5, r6, r7⟩ := hr'
  dsimp only at r1 r2 r3 r4 r5 r6 r7 ⊢
  exact W.lret hx hb (hret.trans hr) (m_retQ (v := some (.inr (.inl x))) r3 r4 r5 (fun z hz => by cases hz; exact (m_c1 r7).1)) r3.2.2 hd hlk
theorem s_aret {r : Nat} {C : String} (hΩ : m_Gd d y cc nL ret X0 (some (.inr (.inr r))) N X Ω) (hd : decode cc pc = .ok (.areturn, 1)) (hr : ret = some (.object C)) : Ω pc (ls, [.inr (.inr r)], N, X) := by
  obtain ⟨p, l, e, R, s, m, args, below, meth, c, D, g, A, α0, ⟨hx, hb, -, -, -, -, -, -, hlk, -⟩, hret, rfl⟩ := hΩ
  refine ⟨Nat.le_refl _, Nat.le_refl _, fun α H locs L hr' => ?_⟩
  obtain ⟨r1, r2, r3, r4, r5, r6, r7⟩ := hr'
  dsimp only at r1 r2 r3 r4 r5 r6 r7 ⊢
  exact W.aret hx hb (hret.trans hr) (Or.inl ⟨_, rfl⟩) (m_rr α r) (m_retQ (v := some (.inr (.inr r))) r3 r4 r5 (fun z hz => by cases hz; exact (m_c1 r7).1)) r3.2.2 hd hlk
theorem s_vret (hΩ : m_Gd d y cc nL ret X0 none N X Ω) (hd : decode cc pc = .ok (.return_, 1)) (hr : ret = none) : Ω pc (ls, [], N, X) := by
  obtain ⟨p, l, e, R, s, m, args, below, meth, c, D, g, A, α0, ⟨hx, hb, -, -, -, -, -, -, hlk, -⟩, hret, rfl⟩ := hΩ
  refine ⟨Nat.le_refl _, Nat.le_refl _, fun α H locs L hr' => ?_⟩
  obtain ⟨r1, r2, r3, r4, r5, r6, r7⟩ := hr'
  dsimp only at r1 r2 r3 r4 r5 r6 r7 ⊢
  exact W.vret hx hb (hret.trans hr) (m_retQ (v := none) r3 r4 r5 (fun z hz => by cases hz)) r3.2.2 hd hlk
end MRet
section MCall
variable {d : Nat} {own nm : String} {cc : ByteArray} {nL n0 s0 nF sF : Nat} {Ω : Nat → MS → Prop} {pc : Nat} {ls : ML} {st : List MV} {N N' : NN} {X X' : MX} {y : MethodName} {cc' : ByteArray} {nL' idx n : Nat} {ret : Option FieldType} {args : List MV} {v : Option MV}
/-- what a call needs of the tables, but the link -/
def m_CW (y : MethodName) (cc' : ByteArray) (nL' : Nat) (ret : Option FieldType) (n : Nat) : Prop := Cond.initialized y.cls ∈ lw_g ∧ Cond.code y cc' nL' ret ∈ lw_g ∧ (y.cls ≠ "java/lang/invoke/MethodHandle" ∧ y.cls ≠ "java/lang/invoke/VarHandle" ∧ (parseMethodDescriptor y.desc).map (fun d => d.parameters.length) = some n) ∧ nL' ≤ 150
def m_CV (own : String) (idx : Nat) (y : MethodName) : Prop := Cond.methodLink own idx y ∈ lw_g ∧ Cond.instanceMethod y ∈ lw_g ∧ Cond.selects y.cls y y ∈ lw_g
def m_CS (own : String) (idx : Nat) (y : MethodName) : Prop := Cond.methodLink own idx y ∈ lw_g ∧ Cond.static y ∈ lw_g
def m_CI (own : String) (idx : Nat) (y : MethodName) : Prop := Cond.methodLink own idx y ∈ lw_g ∧ Cond.instanceMethod y ∈ lw_g ∧ y.name = "<init>"
theorem m_Pc_blind {D : va_G} {g : m_g4} {α : Nat → Nat} {sz : Nat} : FrameBlind (m_Pc D g α sz args N X) := by
  intro a U g' mk q
  obtain ⟨q0, q1, q2, q3, q4⟩ := q
  exact ⟨q0, q1, q2, va_K.moved (u := U) (U := U.calling g' mk a) (Vm.Alike.refl U.vm) q3, m_Ex.warm (s := U) (U := U.calling g' mk a) (State.WarmedH.refl U) q4⟩
/-- the walk behind a call that came back -/
theorem m_back {p : Program} {l : Launch} {e : Env} {R : Room} {s : State} {m : MethodId} {sargs : Array Value} {below : List Frame} {meth : Method} {c : Code} {Q : State → Prop} {D : va_G} {g : m_g4} {A : Nat → Prop} {α α0 : Nat → Nat} {H : Heap} {locs : List Loc} {L : Array Slot} {st1 : List MV} {av : Array Value}
    (hn : xn X ≤ xn X') (hs : xs X ≤ xs X')
    (k3 : ∀ (α : Nat → Nat) (H : Heap) (locs : List Loc) (L : Array Slot), m_Rp s D g A α0 n0 s0 nL α H locs L (ls, v.toList ++ st, N', X') → W p l e R s m sargs below meth c H locs (xn X' - n0) (xs X' - s0) Q (F0 m (pc + 3) L ((v.toList ++ st).map (m_rv α))))
    (hA : ∀ q, s.heap.size ≤ q → A q) (r1 : n0 ≤ xn X) (r2 : s0 ≤ xs X) (r3 : va_S A s.heap H locs) (r4 : m_RL D g α N X A H) (r5 : ∀ o, o < n0 → α o = α0 o) (r6 : m_LR α (xn X) nL ls L) (r7 : ∀ x ∈ st, m_cv (xn X) x)
    (hr : va_Run p l e R s m sargs below meth c H locs (xn X - n0) (xs X - s0) (xn X' - xn X) (xs X' - xs X) (F0 m pc L (st1.map (m_rv α))) (st.map (m_rv α)) (m_Qc D g α (va_A (m_ws g α N X) H.size) v (xn X) N' X' av) (va_A (m_ws g α N X) H.size)) :
    W p l e R s m sargs below meth c H locs (xn X - n0) (xs X - s0) Q (F0 m pc L (st1.map (m_rv α))) := by
  have hF : ∀ q, va_A (m_ws g α N X) H.size q → A q := by
    intro q h
    rcases h with ⟨k, e', h⟩ | h
    · exact r4.2.2.2.2.2.2 k (q, e') h
    · exact hA q (Nat.le_trans r3.1 h)
  intro T hT XX
  obtain ⟨v0, st₀, t, T', L', h0, X'', hL', e1, e2, ⟨⟨α', ha', hv', hcv', hRL'⟩, hz, hk⟩, stp⟩ := hr T hT XX
  cases hv'
  rw [h0] at hz hk
  have hrv : ∀ x, m_cv (xn X) x → m_rv α' x = m_rv α x := by
    intro x hx
    match x, hx with
    | .inl _, _ => rfl
    | .inr (.inl _), _ => rfl
    | .inr (.inr r), hx =>
      show (if r = 0 then Value.null else .ref (α' r)) = if r = 0 then Value.null else .ref (α r)
      rw [ha' r hx]
  have hmap : st.map (m_rv α') = st.map (m_rv α) := List.map_congr_left fun x hx => hrv x (r7 x hx)
  have hS' : va_S A s.heap T'.heap (locs ++ L') := by
    refine ⟨Nat.le_trans r3.1 (by rw [e1]; exact hz), fun q h1 h2 => ?_, fun q hq => ?_⟩
    · rw [e1, hk q (Nat.lt_of_lt_of_le h1 r3.1) (fun z => h2 (hF q z))]
      exact r3.2.1 q h1 h2
    · rcases List.mem_append.mp hq with h | h
      · exact r3.2.2 q h
      · exact hF _ (hL' q h)
  have hW := k3 α' T'.heap (locs ++ L') L ⟨by show n0 ≤ xn X'; omega, by show s0 ≤ xs X'; omega, hS', by
    rw [e1]
    exact ⟨hRL'.1, hRL'.2.1, hRL'.2.2.1, hRL'.2.2.2.1, hRL'.2.2.2.2.1, hRL'.2.2.2.2.2.weaken (fun k q _ h => hF q.1 h)⟩, fun o ho => (ha' o (by omega)).trans (r5 o ho), ⟨r6.1, r6.2.1, fun i x hx => ⟨by rw [hrv x (r6.2.2 i x hx).2]; exact (r6.2.2 i x hx).1, m_cv_mono hn (r6.2.2 i x hx).2⟩⟩, fun x hx => by
    rcases List.mem_append.mp hx with h | h
    · exact hcv' x (by cases v with
        | none => cases h
        | some z => rw [List.mem_singleton.mp h])
    · exact m_cv_mono hn (r7 x h)⟩
  rw [show xn X' - n0 = xn X - n0 + (xn X' - xn X) by omega, show xs X' - s0 = xs X - s0 + (xs X' - xs X) by omega, List.map_append, hmap] at hW
  have hv2 : (v.map (m_rv α')).toList = v.toList.map (m_rv α') := by cases v <;> rfl
  obtain ⟨t2, a1, b1⟩ := hW T' rfl X''
  refine ⟨t2, stp t2 ?_, b1⟩
  rw [hv2]
  exact a1
theorem s_callV (hΩ : m_G d own nm cc nL n0 s0 nF sF Ω) {d' o ci : Nat} {T : u_T} {N0 : Nat} (hdd : d' + 1 ≤ d) (hd : decode cc pc = .ok (.invokevirtual idx, 3)) (hw : m_CV own idx y) (hcw : m_CW y cc' nL' ret n) (hn : args.length = n) (hc : vwCl[ci]? = some (y.cls, T, N0)) (hK : (xK X o).1 = ci + 5) (hcs : m_cs st ≤ 8) {st1 : List MV} (hst : args.reverse ++ .inr (.inr o) :: st = st1) (hC : m_Call d' y cc' nL' ret (.inr (.inr o) :: args) N X v N' X') (kk : Ω (pc + 3) (ls, v.toList ++ st, N', X')) : Ω pc (ls, st1, N, X) := by
  subst hst
  obtain ⟨p, l, e, R, s, m, sargs, below, meth, c, Q, D, g, A, α0, ⟨hx, hb, hml, hown, hts, hKK, hA, hnm, -, hRf, hRl, hRc, hRs, h3, hEx⟩, rfl⟩ := hΩ
  obtain ⟨w1, w2, w3⟩ := hw
  obtain ⟨c1, c2, c3, c4⟩ := hcw
  obtain ⟨hC1, hC2, hC3⟩ := hC
  obtain ⟨k1, k2, k3⟩ := kk
  dsimp only at k1 k2
  refine ⟨by show xn X ≤ nF; omega, by show xs X ≤ sF; omega, fun α H locs L hr => ?_⟩
  obtain ⟨r1, r2, r3, r4, r5, r6, r7⟩ := hr
  dsimp only at r1 r2 r3 r4 r5 r6 r7 ⊢
  obtain ⟨a1, a2, a3⟩ := r4.at (o := o) (by rw [hK]; omega)
  rw [m_ce_obj hK] at a3
  have hcva : ∀ a ∈ (.inr (.inr o) :: args : List MV), m_cv (xn X) a := fun a ha => r7 a (by
    rcases List.mem_cons.mp ha with rfl | ha
    · exact List.mem_append_right _ List.mem_cons_self
    · exact List.mem_append_left _ (List.mem_reverse.mpr ha))
  have hF : ∀ q, va_A (m_ws g α N X) H.size q → A q := by
    intro q h
    rcases h with ⟨k, e', h⟩ | h
    · exact r4.2.2.2.2.2.2 k (q, e') h
    · exact hA q (Nat.le_trans r3.1 h)
  have hEx' : m_Ex α (va_A (m_ws g α N X) H.size) s H := (((hEx.at (r5 1 (by omega)) (r5 2 (by omega))).kept r3.2.1).narrow hF)
  have hro : m_rv α (.inr (.inr o)) = .ref (α o) := m_ro a1
  have hg := lw_g_GoodInC c2
  refine m_back (st1 := args.reverse ++ .inr (.inr o) :: st) (av := (Value.ref (α o) :: args.map (m_rv α)).toArray) hC1 hC2 k3 hA r1 r2 r3 r4 r5 r6 (fun x hx => r7 x (List.mem_append_right _ (List.mem_cons_of_mem _ hx))) ?_
  refine va_runV (As := args.map (m_rv α)) (rest := st.map (m_rv α)) (b := α o) (C := y.cls) ⟨hx, hb, hml, hown, hts⟩ (hC3 l D g α H.size hcva) ⟨callB_of n hts hg rfl rfl rfl (hts _ c1) (hts _ w1) c3 ⟨by show d' + 1 ≤ R.frames; omega, by show 8 + (nL' + 11) + 200 * d' ≤ R.locals; omega⟩, hts _ w2, hts _ w3⟩ ⟨m_Pc_blind, va_recv hKK r4.2.2.2.2.1 hc a3, fun U hU hW => ⟨by rw [List.map_cons, hro], by rw [hU], by rw [hU]; exact ⟨r4.1, r4.2.1, r4.2.2.1, r4.2.2.2.1, r4.2.2.2.2.1, r4.2.2.2.2.2.weaken (fun _ _ _ _ => trivial)⟩, va_K.moved hW.alike hKK, by rw [hU]; exact hEx'.warm hW⟩⟩ rfl (by rw [List.length_map]; exact hn) r6.1 (by show (args.reverse ++ .inr (.inr o) :: st).map (m_rv α) = _; rw [List.map_append, List.map_cons, List.map_reverse, hro]) (lv_room (by rw [m_cs_eq]; exact hcs)) hd ⟨by omega, by omega⟩
theorem s_callS (hΩ : m_G d own nm cc nL n0 s0 nF sF Ω) {d' : Nat} (hdd : d' + 1 ≤ d) (hd : decode cc pc = .ok (.invokestatic idx, 3)) (hw : m_CS own idx y) (hcw : m_CW y cc' nL' ret n) (hn : args.length = n) (hcs : m_cs st ≤ 8) {st1 : List MV} (hst : args.reverse ++ st = st1) (hC : m_Call d' y cc' nL' ret args N X v N' X') (kk : Ω (pc + 3) (ls, v.toList ++ st, N', X')) : Ω pc (ls, st1, N, X) := by
  subst hst
  obtain ⟨p, l, e, R, s, m, sargs, below, meth, c, Q, D, g, A, α0, ⟨hx, hb, hml, hown, hts, hKK, hA, hnm, -, hRf, hRl, hRc, hRs, h3, hEx⟩, rfl⟩ := hΩ
  obtain ⟨w1, w2⟩ := hw
  obtain ⟨c1, c2, c3, c4⟩ := hcw
  obtain ⟨hC1, hC2, hC3⟩ := hC
  obtain ⟨k1, k2, k3⟩ := kk
  dsimp only at k1 k2
  refine ⟨by show xn X ≤ nF; omega, by show xs X ≤ sF; omega, fun α H locs L hr => ?_⟩
  obtain ⟨r1, r2, r3, r4, r5, r6, r7⟩ := hr
  dsimp only at r1 r2 r3 r4 r5 r6 r7 ⊢
  have hcva : ∀ a ∈ args, m_cv (xn X) a := fun a ha => r7 a (List.mem_append_left _ (List.mem_reverse.mpr ha))
  have hF : ∀ q, va_A (m_ws g α N X) H.size q → A q := by
    intro q h
    rcases h with ⟨k, e', h⟩ | h
    · exact r4.2.2.2.2.2.2 k (q, e') h
    · exact hA q (Nat.le_trans r3.1 h)
  have hEx' : m_Ex α (va_A (m_ws g α N X) H.size) s H := (((hEx.at (r5 1 (by omega)) (r5 2 (by omega))).kept r3.2.1).narrow hF)
  have hg := lw_g_GoodInC c2
  refine m_back (st1 := args.reverse ++ st) (av := (args.map (m_rv α)).toArray) hC1 hC2 k3 hA r1 r2 r3 r4 r5 r6 (fun x hx => r7 x (List.mem_append_right _ hx)) ?_
  exact va_runS (As := args.map (m_rv α)) (rest := st.map (m_rv α)) ⟨hx, hb, hml, hown, hts⟩ (hC3 l D g α H.size hcva) ⟨callB_of n hts hg rfl rfl rfl (hts _ c1) (hts _ w1) c3 ⟨by show d' + 1 ≤ R.frames; omega, by show 8 + (nL' + 11) + 200 * d' ≤ R.locals; omega⟩, hts _ w2⟩ ⟨m_Pc_blind, fun U hU hW => ⟨rfl, by rw [hU], by rw [hU]; exact ⟨r4.1, r4.2.1, r4.2.2.1, r4.2.2.2.1, r4.2.2.2.2.1, r4.2.2.2.2.2.weaken (fun _ _ _ _ => trivial)⟩, va_K.moved hW.alike hKK, by rw [hU]; exact hEx'.warm hW⟩⟩ rfl (by rw [List.length_map]; exact hn) r6.1 (by show (args.reverse ++ st).map (m_rv α) = _; rw [List.map_append, List.map_reverse]) (lv_room (by rw [m_cs_eq]; exact hcs)) hd ⟨by omega, by omega⟩
theorem s_callI (hΩ : m_G d own nm cc nL n0 s0 nF sF Ω) {d' o : Nat} (hdd : d' + 1 ≤ d) (ho : 3 ≤ o) (hd : decode cc pc = .ok (.invokespecial idx, 3)) (hw : m_CI own idx y) (hcw : m_CW y cc' nL' none n) (hn : args.length = n) (hcs : m_cs st ≤ 8) {st1 : List MV} (hst : args.reverse ++ .inr (.inr o) :: st = st1) (hC : m_Call d' y cc' nL' none (.inr (.inr o) :: args) N X v N' X') (kk : Ω (pc + 3) (ls, v.toList ++ st, N', X')) : Ω pc (ls, st1, N, X) := by
  subst hst
  obtain ⟨p, l, e, R, s, m, sargs, below, meth, c, Q, D, g, A, α0, ⟨hx, hb, hml, hown, hts, hKK, hA, hnm, -, hRf, hRl, hRc, hRs, h3, hEx⟩, rfl⟩ := hΩ
  obtain ⟨w1, w2, w3⟩ := hw
  obtain ⟨c1, c2, c3, c4⟩ := hcw
  obtain ⟨hC1, hC2, hC3⟩ := hC
  obtain ⟨k1, k2, k3⟩ := kk
  dsimp only at k1 k2
  refine ⟨by show xn X ≤ nF; omega, by show xs X ≤ sF; omega, fun α H locs L hr => ?_⟩
  obtain ⟨r1, r2, r3, r4, r5, r6, r7⟩ := hr
  dsimp only at r1 r2 r3 r4 r5 r6 r7 ⊢
  have hcva : ∀ a ∈ (.inr (.inr o) :: args : List MV), m_cv (xn X) a := fun a ha => r7 a (by
    rcases List.mem_cons.mp ha with rfl | ha
    · exact List.mem_append_right _ List.mem_cons_self
    · exact List.mem_append_left _ (List.mem_reverse.mpr ha))
  have hF : ∀ q, va_A (m_ws g α N X) H.size q → A q := by
    intro q h
    rcases h with ⟨k, e', h⟩ | h
    · exact r4.2.2.2.2.2.2 k (q, e') h
    · exact hA q (Nat.le_trans r3.1 h)
  have hEx' : m_Ex α (va_A (m_ws g α N X) H.size) s H := (((hEx.at (r5 1 (by omega)) (r5 2 (by omega))).kept r3.2.1).narrow hF)
  have hro : m_rv α (.inr (.inr o)) = .ref (α o) := m_ro ho
  have hg := lw_g_GoodInC c2
  refine m_back (st1 := args.reverse ++ .inr (.inr o) :: st) (av := (Value.ref (α o) :: args.map (m_rv α)).toArray) hC1 hC2 k3 hA r1 r2 r3 r4 r5 r6 (fun x hx => r7 x (List.mem_append_right _ (List.mem_cons_of_mem _ hx))) ?_
  exact va_runI (As := args.map (m_rv α)) (rest := st.map (m_rv α)) (b := α o) ⟨hx, hb, hml, hown, hts⟩ (hC3 l D g α H.size hcva) ⟨callB_of n hts hg rfl rfl rfl (hts _ c1) (hts _ w1) c3 ⟨by show d' + 1 ≤ R.frames; omega, by show 8 + (nL' + 11) + 200 * d' ≤ R.locals; omega⟩, w3, hts _ w2⟩ ⟨m_Pc_blind, fun U hU hW => ⟨by rw [List.map_cons, hro], by rw [hU], by rw [hU]; exact ⟨r4.1, r4.2.1, r4.2.2.1, r4.2.2.2.1, r4.2.2.2.2.1, r4.2.2.2.2.2.weaken (fun _ _ _ _ => trivial)⟩, va_K.moved hW.alike hKK, by rw [hU]; exact hEx'.warm hW⟩⟩ rfl (by rw [List.length_map]; exact hn) r6.1 (by show (args.reverse ++ .inr (.inr o) :: st).map (m_rv α) = _; rw [List.map_append, List.map_cons, List.map_reverse, hro]) (lv_room (by rw [m_cs_eq]; exact hcs)) hd ⟨by omega, by omega⟩
theorem s_callIN (hΩ : m_G d own nm cc nL n0 s0 nF sF Ω) {d' o : Nat} {host : String} (hdd : d' + 1 ≤ d) (ho : 3 ≤ o) (hd : decode cc pc = .ok (.invokespecial idx, 3)) (hw : (own, idx, y, host) ∈ m_nest ∧ Cond.instanceMethod y ∈ lw_g ∧ y.name = "<init>") (hcw : m_CW y cc' nL' none n) (hn : args.length = n) (hcs : m_cs st ≤ 8) {st1 : List MV} (hst : args.reverse ++ .inr (.inr o) :: st = st1) (hC : m_Call d' y cc' nL' none (.inr (.inr o) :: args) N X v N' X') (kk : Ω (pc + 3) (ls, v.toList ++ st, N', X')) : Ω pc (ls, st1, N, X) := by
  subst hst
  obtain ⟨p, l, e, R, s, m, sargs, below, meth, c, Q, D, g, A, α0, ⟨hx, hb, hml, hown, hts, hKK, hA, hnm, -, hRf, hRl, hRc, hRs, h3, hEx⟩, rfl⟩ := hΩ
  obtain ⟨w1, w2, w3⟩ := hw
  obtain ⟨c1, c2, c3, c4⟩ := hcw
  obtain ⟨hC1, hC2, hC3⟩ := hC
  obtain ⟨k1, k2, k3⟩ := kk
  dsimp only at k1 k2
  refine ⟨by show xn X ≤ nF; omega, by show xs X ≤ sF; omega, fun α H locs L hr => ?_⟩
  obtain ⟨r1, r2, r3, r4, r5, r6, r7⟩ := hr
  dsimp only at r1 r2 r3 r4 r5 r6 r7 ⊢
  have hcva : ∀ a ∈ (.inr (.inr o) :: args : List MV), m_cv (xn X) a := fun a ha => r7 a (by
    rcases List.mem_cons.mp ha with rfl | ha
    · exact List.mem_append_right _ List.mem_cons_self
    · exact List.mem_append_left _ (List.mem_reverse.mpr ha))
  have hF : ∀ q, va_A (m_ws g α N X) H.size q → A q := by
    intro q h
    rcases h with ⟨k, e', h⟩ | h
    · exact r4.2.2.2.2.2.2 k (q, e') h
    · exact hA q (Nat.le_trans r3.1 h)
  have hEx' : m_Ex α (va_A (m_ws g α N X) H.size) s H := (((hEx.at (r5 1 (by omega)) (r5 2 (by omega))).kept r3.2.1).narrow hF)
  have hro : m_rv α (.inr (.inr o)) = .ref (α o) := m_ro ho
  have hg := lw_g_GoodInC c2
  refine m_back (st1 := args.reverse ++ .inr (.inr o) :: st) (av := (Value.ref (α o) :: args.map (m_rv α)).toArray) hC1 hC2 k3 hA r1 r2 r3 r4 r5 r6 (fun x hx => r7 x (List.mem_append_right _ (List.mem_cons_of_mem _ hx))) ?_
  exact va_runIN (As := args.map (m_rv α)) (rest := st.map (m_rv α)) (b := α o) (host := host) ⟨hx, hb, hml, hown, hts⟩ (hC3 l D g α H.size hcva) ⟨va_cnB n hts hg rfl rfl rfl (hEx.2.1 _ w1) (hts _ c1) c3 ⟨by show d' + 1 ≤ R.frames; omega, by show 8 + (nL' + 11) + 200 * d' ≤ R.locals; omega⟩, w3, hts _ w2⟩ ⟨m_Pc_blind, fun U hU hW => ⟨by rw [List.map_cons, hro], by rw [hU], by rw [hU]; exact ⟨r4.1, r4.2.1, r4.2.2.1, r4.2.2.2.1, r4.2.2.2.2.1, r4.2.2.2.2.2.weaken (fun _ _ _ _ => trivial)⟩, va_K.moved hW.alike hKK, by rw [hU]; exact hEx'.warm hW⟩⟩ rfl (by rw [List.length_map]; exact hn) r6.1 (by show (args.reverse ++ .inr (.inr o) :: st).map (m_rv α) = _; rw [List.map_append, List.map_cons, List.map_reverse, hro]) (lv_room (by rw [m_cs_eq]; exact hcs)) hd ⟨by omega, by omega⟩
end MCall
