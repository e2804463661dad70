/-! calls, returns, the entry; what the JDK does for us -/
def m_cs : List MV → Nat
  | [] => 0
  | v :: r => (if m_c1b v = true then 1 else 2) + m_cs r
theorem m_cs_eq (α : Nat → Nat) : ∀ st : List MV, ((st.map (m_rv α)).map fun v => v.category).sum = m_cs st
  | [] => rfl
  | v :: r => by
    have ih := m_cs_eq α r
    simp only [List.map_cons, List.sum_cons, m_cs, ih]
    cases h : m_c1b v with
    | true => rw [m_cat h, if_pos rfl]
    | false => rw [m_cat2 h, if_neg (by decide)]
theorem m_Ex.warm {α : Nat → Nat} {A : Nat → Prop} {s U : State} {H : Heap} (hW : s.WarmedH U.vm) (h : m_Ex α A s H) : m_Ex α A U H := by
  obtain ⟨h1, h2, h3, h4, h5, ⟨av, h6⟩, h7, h8⟩ := h
  exact ⟨h1.moved hW.alike, fun q hq => va_Nw.warmM hW (h2 q hq), h3.moved hW.alike, h4.moved hW.alike, h5.warm hW, ⟨av, h6.moved hW.alike⟩, h7.moved hW.alike, h8.moved hW.alike⟩
theorem m_Ex.kept {α : Nat → Nat} {A : Nat → Prop} {U : State} {H H1 : Heap} (h : m_Ex α A U H) (hq : ∀ a : Nat, a < H.size → ¬ A a → H1[a]? = H[a]?) : m_Ex α A U H1 := by
  obtain ⟨h1, h2, h3, h4, h5, ⟨av, h6⟩, h7, h8⟩ := h
  exact ⟨h1, h2, h3.kept hq, h4.kept hq, h5, ⟨av, h6.kept hq⟩, h7.kept hq, h8.kept hq⟩
theorem m_Ex.narrow {α : Nat → Nat} {A B : Nat → Prop} {U : State} {H : Heap} (h : m_Ex α A U H) (hAB : ∀ q, B q → A q) : m_Ex α B U H := by
  obtain ⟨h1, h2, h3, h4, h5, ⟨av, h6⟩, h7, h8⟩ := h
  exact ⟨h1, h2, h3.narrow hAB, h4.narrow hAB, h5, ⟨av, h6.narrow hAB⟩, h7.narrow hAB, h8.narrow hAB⟩
theorem m_Ex.at {α β : Nat → Nat} {A : Nat → Prop} {U : State} {H : Heap} (h : m_Ex α A U H) (h1 : β 1 = α 1) (h2 : β 2 = α 2) : m_Ex β A U H := by
  unfold m_Ex at h ⊢
  rw [h1, h2]; exact h
def m_rm (d mc ms : Nat) : Room := { frames := d, cells := mc, slots := ms, locals := 200 * d }
def m_Pc (D : va_G) (g : m_g4) (α : Nat → Nat) (sz : Nat) (args : List MV) (N : NN) (X : MX) : Array Value → State → Prop :=
  va_Pc (args.map (m_rv α)) (fun U => U.heap.size = sz ∧ m_RL D g α N X (fun _ => True) U.heap ∧ va_K D vwCl (m_tys g) U ∧ m_Ex α (va_A (m_ws g α N X) sz) U U.heap)
def m_Qc (D : va_G) (g : m_g4) (α : Nat → Nat) (A : Nat → Prop) (v : Option MV) (n : Nat) (N' : NN) (X' : MX) : Array Value → State → Outcome → State → Prop := fun _ st oc t =>
  (∃ α' : Nat → Nat, (∀ o, o < n → α' o = α o) ∧ oc = .returned (v.map (m_rv α')) ∧ (∀ x, v = some x → m_cv (xn X') x) ∧ m_RL D g α' N' X' A t.heap) ∧ va_F A st t
def m_Call (d : Nat) (y : MethodName) (cc : ByteArray) (nL : Nat) (ret : Option FieldType) (args : List MV) (N : NN) (X : MX) (v : Option MV) (N' : NN) (X' : MX) : Prop :=
  xn X ≤ xn X' ∧ xs X ≤ xs X' ∧ ∀ (l : Launch) (D : va_G) (g : m_g4) (α : Nat → Nat) (sz : Nat), (∀ a ∈ args, m_cv (xn X) a) →
    Met l y (.code y cc nL ret :: lw_g) (m_rm d (xn X' - xn X) (xs X' - xs X)) (m_Pc D g α sz args N X) (m_Qc D g α (va_A (m_ws g α N X) sz) v (xn X) N' X') (xn X' - xn X) (xs X' - xs X) (va_A (m_ws g α N X) sz)
def m_Gd (d : Nat) (y : MethodName) (cc : ByteArray) (nL : Nat) (ret : Option FieldType) (X0 : MX) (v : Option MV) (N' : NN) (X' : MX) (Ω : Nat → MS → Prop) : Prop :=
  ∃ (p : Program) (l : Launch) (e : Env) (R : Room) (s : State) (m : MethodId) (args : Array Value) (below : List Frame) (meth : Method) (c : Code) (D : va_G) (g : m_g4) (A : Nat → Prop) (α0 : Nat → Nat),
    m_Cx p R s m args meth c D g A α0 d y.cls y.name cc nL (xn X0) (xs X0) (xn X') (xs X') ∧ meth.sig.returnType = ret ∧ Ω = m_At p l e R s m args below meth c (MQ below (m_Qc D g α0 A v (xn X0) N' X') args s (xn X' - xn X0) (xs X' - xs X0) A) D g A α0 (xn X0) (xs X0) (xn X') (xs X') nL
theorem m_Gd.G {d : Nat} {y : MethodName} {cc : ByteArray} {nL : Nat} {ret : Option FieldType} {X0 X' : MX} {v : Option MV} {N' : NN} {Ω : Nat → MS → Prop} (h : m_Gd d y cc nL ret X0 v N' X' Ω) : m_G d y.cls y.name cc nL (xn X0) (xs X0) (xn X') (xs X') Ω := by
  obtain ⟨p, l, e, R, s, m, args, below, meth, c, D, g, A, α0, h1, -, h3⟩ := h
  exact ⟨p, l, e, R, s, m, args, below, meth, c, _, D, g, A, α0, h1, h3⟩
def m_en : List MV → ML
  | [] => []
  | .inr (.inl x) :: r => some (.inr (.inl x)) :: none :: m_en r
  | .inl x :: r => some (.inl x) :: m_en r
  | .inr (.inr x) :: r => some (.inr (.inr x)) :: m_en r
def m_pad (n : Nat) (l : ML) : ML := l ++ List.replicate (n - l.length) none
theorem m_en_args (α : Nat → Nat) : ∀ (args : List MV) (k i : Nat) (v : MV), (m_en args)[i]? = some (some v) → (k + i, m_rv α v) ∈ lv_args k (args.map (m_rv α)) ∧ v ∈ args
  | [], k, i, v, h => by cases h
  | .inl x :: r, k, i, v, h => by
    show (k + i, m_rv α v) ∈ (k, m_rv α (.inl x)) :: lv_args (if (m_rv α (.inl x)).category = 2 then k + 2 else k + 1) (r.map (m_rv α)) ∧ _
    rw [m_cat (v := .inl x) rfl, if_neg (by decide)]
    cases i with
    | zero => cases h; exact ⟨List.mem_cons_self, List.mem_cons_self⟩
    | succ i =>
      have := m_en_args α r (k + 1) i v h
      exact ⟨List.mem_cons_of_mem _ (by rw [show k + (i + 1) = k + 1 + i by omega]; exact this.1), List.mem_cons_of_mem _ this.2⟩
  | .inr (.inr x) :: r, k, i, v, h => by
    show (k + i, m_rv α v) ∈ (k, m_rv α (.inr (.inr x))) :: lv_args (if (m_rv α (.inr (.inr x))).category = 2 then k + 2 else k + 1) (r.map (m_rv α)) ∧ _
    rw [m_cat (v := .inr (.inr x)) rfl, if_neg (by decide)]
    cases i with
    | zero => cases h; exact ⟨List.mem_cons_self, List.mem_cons_self⟩
    | succ i =>
      have := m_en_args α r (k + 1) i v h
      exact ⟨List.mem_cons_of_mem _ (by rw [show k + (i + 1) = k + 1 + i by omega]; exact this.1), List.mem_cons_of_mem _ this.2⟩
  | .inr (.inl x) :: r, k, i, v, h => by
    show (k + i, m_rv α v) ∈ (k, m_rv α (.inr (.inl x))) :: lv_args (if (m_rv α (.inr (.inl x))).category = 2 then k + 2 else k + 1) (r.map (m_rv α)) ∧ _
    rw [m_cat2 (v := .inr (.inl x)) rfl, if_pos rfl]
    match i, h with
    | 0, h => cases h; exact ⟨List.mem_cons_self, List.mem_cons_self⟩
    | 1, h => cases h
    | i + 2, h =>
      have := m_en_args α r (k + 2) i v h
      exact ⟨List.mem_cons_of_mem _ (by rw [show k + (i + 2) = k + 2 + i by omega]; exact this.1), List.mem_cons_of_mem _ this.2⟩
theorem m_en_len (α : Nat → Nat) : ∀ args : List MV, (lg_sl (args.map (m_rv α))).length = (m_en args).length
  | [] => rfl
  | .inl x :: r => by
    have ih := m_en_len α r
    unfold lg_sl at ih ⊢
    rw [List.map_cons, List.flatMap_cons, List.length_append, ih, m_cat (v := .inl x) rfl, if_neg (by decide)]
    show 1 + _ = (m_en r).length + 1
    omega
  | .inr (.inr x) :: r => by
    have ih := m_en_len α r
    unfold lg_sl at ih ⊢
    rw [List.map_cons, List.flatMap_cons, List.length_append, ih, m_cat (v := .inr (.inr x)) rfl, if_neg (by decide)]
    show 1 + _ = (m_en r).length + 1
    omega
  | .inr (.inl x) :: r => by
    have ih := m_en_len α r
    unfold lg_sl at ih ⊢
    rw [List.map_cons, List.flatMap_cons, List.length_append, ih, m_cat2 (v := .inr (.inl x)) rfl, if_pos rfl]
    show 2 + _ = (m_en r).length + 1 + 1
    omega
theorem m_pad_get {n i : Nat} {l : ML} {v : MV} (h : (m_pad n l)[i]? = some (some v)) : l[i]? = some (some v) := by
  unfold m_pad at h
  by_cases hi : i < l.length
  · rwa [List.getElem?_append_left hi] at h
  · rw [List.getElem?_append_right (by omega), List.getElem?_replicate] at h
    split at h <;> cases h
/-- A METHOD: its contract out of its body from pc 0 -/
theorem m_mk {d : Nat} {y : MethodName} {cc : ByteArray} {nL : Nat} {ret : Option FieldType} {args : List MV} {N N' : NN} {X X' : MX} {v : Option MV} {ls0 : ML} (hy : plainName y.cls = true) (hen : m_pad nL (m_en args) = ls0) (hlen : (m_en args).length ≤ nL) (hn : xn X ≤ xn X') (hs : xs X ≤ xs X')
    (body : ∀ Ω, m_Gd d y cc nL ret X v N' X' Ω → Ω 0 (ls0, [], N, X)) : m_Call d y cc nL ret args N X v N' X' := by
  refine ⟨hn, hs, fun l D g α sz hcv => ?_⟩
  refine Met.ofW (cc := cc) (maxL := nL) (ret := ret) hy rfl ?_
  intro p e s m av below meth c s₁ B hml hv
  obtain ⟨rfl, hsz, hRL, hK, hEx⟩ := hv
  subst hsz
  have hts := atoms_spec (ws := .code y cc nL ret :: lw_g) B.pre
  have hD := hRL.2.2.2.2.2.self (sz := s.heap.size)
  have hA : ∀ q : Nat, s.heap.size ≤ q → va_A (m_ws g α N X) s.heap.size q := fun q h => Or.inr h
  have h3 : 3 ≤ xn X := hRL.1
  have hb := body _ ⟨p, l, e, m_rm d (xn X' - xn X) (xs X' - xs X), s, m, (args.map (m_rv α)).toArray, below, meth, c, D, g, va_A (m_ws g α N X) s.heap.size, α, ⟨B.exec, B.bytes, hml, findClass_of_methodNamed B.named, fun w hw => hts w (List.mem_cons_of_mem _ hw), hK, hA, (name_of_methodNamed B.named B.method).1, B.notSynchronized, Nat.le_refl _, Nat.le_refl _, Nat.le_refl _, Nat.le_refl _, h3, hEx⟩, B.returns, rfl⟩
  obtain ⟨-, -, hb3⟩ := hb
  have hl := lv_entry (args.map (m_rv α)) (n := nL) (by rw [m_en_len]; exact hlen)
  have hW := hb3 α s.heap [] ((lg_sl (args.map (m_rv α)) ++ List.replicate (nL - (lg_sl (args.map (m_rv α))).length) Slot.unset).toArray) ⟨Nat.le_refl _, Nat.le_refl _, va_S.rf, ⟨hRL.1, hRL.2.1, hRL.2.2.1, hRL.2.2.2.1, hRL.2.2.2.2.1, hD⟩, fun _ _ => rfl, ⟨hl.1, hl.2.1, fun i x hx => by
    dsimp only at hx
    rw [← hen] at hx
    have hm := m_en_args α args 0 i x (m_pad_get hx)
    rw [Nat.zero_add] at hm
    exact ⟨hl.2.2 _ hm.1, hcv x hm.2⟩⟩, fun _ h => by cases h⟩
  dsimp only at hW
  rw [Nat.sub_self, Nat.sub_self] at hW
  rw [lg_entry_eq]
  exact hW
