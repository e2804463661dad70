/-! THE LAW'S OWN LEVEL: the script is no cell of ours, it stands in local 0 -/
abbrev LV : Type := (Nat → Nat) → List (Nat × Value)
abbrev LT : Type := LV → Nat → List MV → NN → MX → Prop
section LA
variable (p : Program) (l : Launch) (e : Jvm.Env) (s : State) (m : MethodId) (b : Nat) (below : List Frame) (meth : Method) (c : Code) (Q : State → Prop) (D : va_G) (g : m_g4) (α0 : Nat → Nat)
def lA (lv : LV) (pc : Nat) (st : List MV) (N : NN) (X : MX) : Prop :=
  xn X ≤ 600003 ∧ xs X ≤ 7302250 ∧ ∀ (α : Nat → Nat) (H : Heap) (locs : List Loc) (L : Array Slot), va_S (fun q => s.heap.size ≤ q) s.heap H locs → m_RL D g α N X (fun q => s.heap.size ≤ q) H → (∀ o, o < 3 → α o = α0 o) → lv_has L 4 (lv α) → (∀ v ∈ st, m_cv (xn X) v) → W p l e room_1 s m #[Value.ref b] below meth c H locs (xn X - 3) (xs X) Q (F0 m pc L (st.map (m_rv α)))
def lC (Ln : Nat) (xv : Nat → Int32) : Prop := p.tables.exec = Jvm.exec ∧ c.code = code ∧ c.maxLocals = 4 ∧ s.vm.findClass RL = some m.cls ∧ (∀ w ∈ lw_g, w.before #[Value.ref b] s = true) ∧ va_K D vwCl (m_tys g) s ∧ va_X b Ln xv s s.heap ∧ b < s.heap.size ∧ Ln ≤ 3072 ∧ m_Ex α0 (fun q => s.heap.size ≤ q) s s.heap
end LA
def lG (b Ln : Nat) (xv : Nat → Int32) (Λ : LT) : Prop :=
  ∃ (p : Program) (l : Launch) (e : Jvm.Env) (s : State) (m : MethodId) (below : List Frame) (meth : Method) (c : Code) (Q : State → Prop) (D : va_G) (g : m_g4) (α0 : Nat → Nat), lC p s m b c D g α0 Ln xv ∧ Λ = lA p l e s m b below meth c Q D g α0
theorem lv_hs {L : Array Slot} {n : Nat} {l l' : List (Nat × Value)} (h : lv_has L n l) (hs : ∀ q ∈ l', q ∈ l) : lv_has L n l' := ⟨h.1, h.2.1, fun q hq => h.2.2 q (hs q hq)⟩
section LR
variable {b Ln : Nat} {xv : Nat → Int32} {Λ : LT} {lv lv' : LV} {pc : Nat} {st : List MV} {N N' : NN} {X X' : MX}
theorem l_weak (hΛ : lG b Ln xv Λ) (h : ∀ α, ∀ q ∈ lv' α, q ∈ lv α) (k : Λ lv' pc st N X) : Λ lv pc st N X := by
  obtain ⟨p, l, e, s, m, below, meth, c, Q, D, g, α0, -, rfl⟩ := hΛ
  obtain ⟨k1, k2, k3⟩ := k
  exact ⟨k1, k2, fun α H locs L hS hR hα hL hc => k3 α H locs L hS hR hα (lv_hs hL (h α)) hc⟩
theorem l_stk (hΛ : lG b Ln xv Λ) {pc' : Nat} {st1 st' : List MV} (k : Λ lv pc' st' N X) (hcv : (∀ v ∈ st1, m_cv (xn X) v) → ∀ v ∈ st', m_cv (xn X) v)
    (hW : ∀ {p : Program} {l : Launch} {e : Jvm.Env} {R : Room} {s : State} {m : MethodId} {args : Array Value} {below : List Frame} {meth : Method} {c : Code} {H : Heap} {locs : List Loc} {cells slots : Nat} {Q : State → Prop} {L : Array Slot} (α : Nat → Nat), (∀ v ∈ st1, m_cv (xn X) v) → lv_has L 4 (lv α) → p.tables.exec = Jvm.exec → c.code = code → W p l e R s m args below meth c H locs cells slots Q (F0 m pc' L (st'.map (m_rv α))) → W p l e R s m args below meth c H locs cells slots Q (F0 m pc L (st1.map (m_rv α)))) : Λ lv pc st1 N X := by
  obtain ⟨p, l, e, s, m, below, meth, c, Q, D, g, α0, ⟨hx, hb, -⟩, rfl⟩ := hΛ
  obtain ⟨k1, k2, k3⟩ := k
  exact ⟨k1, k2, fun α H locs L hS hR hα hL hc => hW α hc hL hx hb (k3 α H locs L hS hR hα hL (hcv hc))⟩
theorem l_stk2 (hΛ : lG b Ln xv Λ) {pc1 pc2 : Nat} {st1 st' : List MV} {P : Prop} (k1 : P → Λ lv pc1 st' N X) (k2 : ¬ P → Λ lv pc2 st' N X) (hcv : (∀ v ∈ st1, m_cv (xn X) v) → ∀ v ∈ st', m_cv (xn X) v)
    (hW : ∀ {p : Program} {l : Launch} {e : Jvm.Env} {R : Room} {s : State} {m : MethodId} {args : Array Value} {below : List Frame} {meth : Method} {c : Code} {H : Heap} {locs : List Loc} {cells slots : Nat} {Q : State → Prop} {L : Array Slot} (α : Nat → Nat), (∀ v ∈ st1, m_cv (xn X) v) → p.tables.exec = Jvm.exec → c.code = code → (P → W p l e R s m args below meth c H locs cells slots Q (F0 m pc1 L (st'.map (m_rv α)))) → (¬ P → W p l e R s m args below meth c H locs cells slots Q (F0 m pc2 L (st'.map (m_rv α)))) → W p l e R s m args below meth c H locs cells slots Q (F0 m pc L (st1.map (m_rv α)))) : Λ lv pc st1 N X := by
  obtain ⟨p, l, e, s, m, below, meth, c, Q, D, g, α0, ⟨hx, hb, -⟩, rfl⟩ := hΛ
  have h12 : xn X ≤ 600003 ∧ xs X ≤ 7302250 := by
    by_cases hP : P
    · exact ⟨(k1 hP).1, (k1 hP).2.1⟩
    · exact ⟨(k2 hP).1, (k2 hP).2.1⟩
  exact ⟨h12.1, h12.2, fun α H locs L hS hR hα hL hc => hW α hc hx hb (fun hP => (k1 hP).2.2 α H locs L hS hR hα hL (hcv hc)) (fun hP => (k2 hP).2.2 α H locs L hS hR hα hL (hcv hc))⟩
theorem l_iconst (hΛ : lG b Ln xv Λ) {n : Int} (hd : decode code pc = .ok (.iconst n, 1)) (hn : -2147483648 ≤ n ∧ n ≤ 2147483647) (k : Λ lv (pc + 1) (.inl n :: st) N X) : Λ lv pc st N X :=
  l_stk hΛ k (fun h => m_cp hn h) (fun α _ _ hx hb k => lv_iconst hx hb hd rfl k)
theorem l_bipush (hΛ : lG b Ln xv Λ) {n : Int} (hd : decode code pc = .ok (.bipush n, 2)) (hv : (Int8.ofInt n).toInt32 = Int32.ofInt n) (hn : -2147483648 ≤ n ∧ n ≤ 2147483647) (k : Λ lv (pc + 2) (.inl n :: st) N X) : Λ lv pc st N X :=
  l_stk hΛ k (fun h => m_cp hn h) (fun α _ _ hx hb k => lv_bipush hx hb hd hv k)
theorem l_isub (hΛ : lG b Ln xv Λ) {x y : Int} (hd : decode code pc = .ok (.isub, 1)) (k : Λ lv (pc + 1) (.inl (m_w (x - y)) :: st) N X) : Λ lv pc (.inl y :: .inl x :: st) N X :=
  l_stk hΛ k (fun h => m_cp (m_cv_w _ _) (m_c1 (m_c1 h).2).2) (fun α _ _ hx hb k => lv_isub hx hb hd (by simpa only [List.map_cons, m_rv, m_w_of, Int32.ofInt_sub] using k))
theorem l_iand (hΛ : lG b Ln xv Λ) {x y : Int} (hd : decode code pc = .ok (.iand, 1)) (k : Λ lv (pc + 1) (.inl (m_and x y) :: st) N X) : Λ lv pc (.inl y :: .inl x :: st) N X :=
  l_stk hΛ k (fun h => m_cp (m_cv_i _ _) (m_c1 (m_c1 h).2).2) (fun α _ _ hx hb k => lv_iand hx hb hd (by simpa only [List.map_cons, m_rv, m_and, Int32.ofInt_toInt] using k))
theorem l_goto (hΛ : lG b Ln xv Λ) {off : Int} (tgt : Nat) (hd : decode code pc = .ok (.goto off, 3)) (ht : (pc : Int) + off = (tgt : Int)) (k : Λ lv tgt st N X) : Λ lv pc st N X :=
  l_stk hΛ k (fun h => h) (fun α _ _ hx hb k => lv_goto hx hb hd ht k)
theorem l_dup (hΛ : lG b Ln xv Λ) {a : MV} (hd : decode code pc = .ok (.dup, 1)) (ha : m_c1b a = true) (k : Λ lv (pc + 1) (a :: a :: st) N X) : Λ lv pc (a :: st) N X :=
  l_stk hΛ k (fun h => m_cp (m_c1 h).1 h) (fun α _ _ hx hb k => lv_dup hx hb hd (m_cat ha) k)
theorem l_icmp_eq (hΛ : lG b Ln xv Λ) {x y : Int} {off : Int} (tgt : Nat) (hd : decode code pc = .ok (.if_icmp .eq off, 3)) (ht : (pc : Int) + off = (tgt : Int)) (k1 : x = y → Λ lv tgt st N X) (k2 : ¬ x = y → Λ lv (pc + 3) st N X) : Λ lv pc (.inl y :: .inl x :: st) N X :=
  l_stk2 hΛ k1 k2 (P := x = y) (fun h => (m_c1 (m_c1 h).2).2) (fun α hc hx hb k1 k2 => lv_icmp_eq hx hb hd ht (fun q => k1 ((m_eq (m_c1 (m_c1 hc).2).1 (m_c1 hc).1).mp q)) (fun q => k2 (fun z => q ((m_eq (m_c1 (m_c1 hc).2).1 (m_c1 hc).1).mpr z))))
theorem l_icmp_gt (hΛ : lG b Ln xv Λ) {x y : Int} {off : Int} (tgt : Nat) (hd : decode code pc = .ok (.if_icmp .gt off, 3)) (ht : (pc : Int) + off = (tgt : Int)) (k1 : y < x → Λ lv tgt st N X) (k2 : ¬ y < x → Λ lv (pc + 3) st N X) : Λ lv pc (.inl y :: .inl x :: st) N X :=
  l_stk2 hΛ k1 k2 (P := y < x) (fun h => (m_c1 (m_c1 h).2).2) (fun α hc hx hb k1 k2 => lv_icmp_gt hx hb hd ht (fun q => k1 ((m_lt (m_c1 hc).1 (m_c1 (m_c1 hc).2).1).mp q)) (fun q => k2 (fun z => q ((m_lt (m_c1 hc).1 (m_c1 (m_c1 hc).2).1).mpr z))))
theorem l_tableIn (hΛ : lG b Ln xv Λ) {x dflt lo hi : Int} {offs : Array Int} {len : Nat} {off : Int} (tgt : Nat) (hd : decode code pc = .ok (.tableswitch dflt lo hi offs, len)) (h1 : ¬ x < lo) (h2 : ¬ hi < x) (ho : offs[(x - lo).toNat]? = some off) (ht : (pc : Int) + off = (tgt : Int)) (k : Λ lv tgt st N X) : Λ lv pc (.inl x :: st) N X :=
  l_stk hΛ k (fun h => (m_c1 h).2) (fun α hc _ hx hb k => lv_tableIn hx hb hd (by rw [m_toInt (m_c1 hc).1]; exact h1) (by rw [m_toInt (m_c1 hc).1]; exact h2) (by rw [m_toInt (m_c1 hc).1]; exact ho) ht k)
theorem l_tableOut (hΛ : lG b Ln xv Λ) {x dflt lo hi : Int} {offs : Array Int} {len : Nat} (tgt : Nat) (hd : decode code pc = .ok (.tableswitch dflt lo hi offs, len)) (h : x < lo ∨ hi < x) (ht : (pc : Int) + dflt = (tgt : Int)) (k : Λ lv tgt st N X) : Λ lv pc (.inl x :: st) N X :=
  l_stk hΛ k (fun h => (m_c1 h).2) (fun α hc _ hx hb k => lv_tableOut hx hb hd (by rw [m_toInt (m_c1 hc).1]; exact h) ht k)
/-! locals -/
theorem l_aload (hΛ : lG b Ln xv Λ) {j : Fin 4} {o : Nat} (hd : decode code pc = .ok (.aload_n j, 1)) (ho : 3 ≤ o ∧ o < xn X) (hl : ∀ α, ((j : Nat), Value.ref (α o)) ∈ lv α) (k : Λ lv (pc + 1) (.inr (.inr o) :: st) N X) : Λ lv pc st N X :=
  l_stk hΛ k (fun h => m_cp ho.2 h) (fun α _ hL hx hb k => by
    rw [List.map_cons, m_ro ho.1] at k
    exact lv_aload_n hx hb hd rfl (hL.2.2 _ (hl α)) k)
theorem l_iload (hΛ : lG b Ln xv Λ) {j : Fin 4} {x : Int} (hd : decode code pc = .ok (.iload_n j, 1)) (hx : -2147483648 ≤ x ∧ x ≤ 2147483647) (hl : ∀ α, ((j : Nat), Value.int (Int32.ofInt x)) ∈ lv α) (k : Λ lv (pc + 1) (.inl x :: st) N X) : Λ lv pc st N X :=
  l_stk hΛ k (fun h => m_cp hx h) (fun α _ hL hx hb k => lv_iload_n hx hb hd rfl (hL.2.2 _ (hl α)) k)
theorem l_astore (hΛ : lG b Ln xv Λ) {j : Fin 4} {o : Nat} (hd : decode code pc = .ok (.astore_n j, 1)) (ho : 3 ≤ o) (hl : ∀ α, ((j : Nat), Value.ref (α o)) :: (lv α).filter (fun q => !(q.1 == (j : Nat)) && !(q.1 + 1 == (j : Nat) && q.2.category == 2)) = lv' α) (k : Λ lv' (pc + 1) st N X) : Λ lv pc (.inr (.inr o) :: st) N X := by
  obtain ⟨p, l, e, s, m, below, meth, c, Q, D, g, α0, ⟨hx, hb, -⟩, rfl⟩ := hΛ
  obtain ⟨k1, k2, k3⟩ := k
  refine ⟨k1, k2, fun α H locs L hS hR hα hL hc => ?_⟩
  rw [List.map_cons, m_ro ho]
  exact lv_astore_n hx hb hd rfl hL j.isLt (hl α) (fun L' h' => k3 α H locs L' hS hR hα h' (m_c1 hc).2)
theorem l_istore (hΛ : lG b Ln xv Λ) {j : Fin 4} {x : Int} (hd : decode code pc = .ok (.istore_n j, 1)) (hl : ∀ α, ((j : Nat), Value.int (Int32.ofInt x)) :: (lv α).filter (fun q => !(q.1 == (j : Nat)) && !(q.1 + 1 == (j : Nat) && q.2.category == 2)) = lv' α) (k : Λ lv' (pc + 1) st N X) : Λ lv pc (.inl x :: st) N X := by
  obtain ⟨p, l, e, s, m, below, meth, c, Q, D, g, α0, ⟨hx, hb, -⟩, rfl⟩ := hΛ
  obtain ⟨k1, k2, k3⟩ := k
  refine ⟨k1, k2, fun α H locs L hS hR hα hL hc => ?_⟩
  exact lv_istore_n hx hb hd rfl hL j.isLt (hl α) (fun L' h' => k3 α H locs L' hS hR hα h' (m_c1 hc).2)
theorem l_iinc (hΛ : lG b Ln xv Λ) {i k0 : Nat} {n x : Int} (hd : decode code pc = .ok (.iinc i n, 3)) (hn : i < 4) (hk : ∀ α, (lv α)[k0]? = some (i, Value.int (Int32.ofInt x))) (hl : ∀ α, (i, Value.int (Int32.ofInt (m_w (x + n)))) :: (lv α).filter (fun q => !(q.1 == i) && !(q.1 + 1 == i && q.2.category == 2)) = lv' α) (k : Λ lv' (pc + 3) st N X) : Λ lv pc st N X := by
  obtain ⟨p, l, e, s, m, below, meth, c, Q, D, g, α0, ⟨hx, hb, -⟩, rfl⟩ := hΛ
  obtain ⟨k1, k2, k3⟩ := k
  refine ⟨k1, k2, fun α H locs L hS hR hα hL hc => ?_⟩
  exact lv_iinc (v := Int32.ofInt (m_w (x + n))) hx hb hd hL (hk α) (by rw [m_w_of, Int32.ofInt_add]) hn (hl α) (fun L' h' => k3 α H locs L' hS hR hα h' hc)
/-! the script -/
theorem l_len (hΛ : lG b Ln xv Λ) (hd0 : decode code pc = .ok (.aload_n 0, 1)) (hd1 : decode code (pc + 1) = .ok (.arraylength, 1)) (hl : ∀ α, (0, Value.ref b) ∈ lv α) (k : Λ lv (pc + 2) (.inl (Ln : Int) :: st) N X) : Λ lv pc st N X := by
  obtain ⟨p, l, e, s, m, below, meth, c, Q, D, g, α0, ⟨hx, hb, -, -, -, -, hX, hbl, hLn, -⟩, rfl⟩ := hΛ
  obtain ⟨k1, k2, k3⟩ := k
  refine ⟨k1, k2, fun α H locs L hS hR hα hL hc => ?_⟩
  refine lv_aload_n hx hb hd0 rfl (hL.2.2 _ (hl α)) ?_
  refine va_slen hx hb hX hbl (Nat.not_le.mpr hbl) hS hd1 ?_
  exact k3 α H locs L hS hR hα hL (m_cp (show m_cv (xn X) (.inl (Ln : Int)) from ⟨by omega, by omega⟩) hc)
theorem l_at (hΛ : lG b Ln xv Λ) {x : Int} (hx0 : 0 ≤ x) (hx1 : x < (Ln : Int)) (hd : decode code pc = .ok (.iaload, 1)) {p : Program} {l : Launch} {e : Jvm.Env} {s : State} {m : MethodId} {below : List Frame} {meth : Method} {c : Code} {Q : State → Prop} {D : va_G} {g : m_g4} {α0 : Nat → Nat} (hC : lC p s m b c D g α0 Ln xv) {H : Heap} {locs : List Loc} {cells slots : Nat} {L : Array Slot} {rest : List Value} (hS : va_S (fun q => s.heap.size ≤ q) s.heap H locs)
    (k : W p l e room_1 s m #[Value.ref b] below meth c H locs cells slots Q (F0 m (pc + 1) L (.int (xv x.toNat) :: rest))) : W p l e room_1 s m #[Value.ref b] below meth c H locs cells slots Q (F0 m pc L (.int (Int32.ofInt x) :: .ref b :: rest)) := by
  obtain ⟨hx, hb, -, -, -, -, hX, hbl, hLn, -⟩ := hC
  have hc : -2147483648 ≤ x ∧ x ≤ 2147483647 := ⟨by omega, by omega⟩
  refine va_sld hx hb hX hbl (Nat.not_le.mpr hbl) hS (m_in hc hx0 (by omega)) hd ?_
  rw [m_clamp hc]
  exact k
theorem l_sel (hΛ : lG b Ln xv Λ) {x : Int} (hx0 : 0 ≤ x) (hx1 : x < (Ln : Int)) (hd0 : decode code pc = .ok (.aload_n 0, 1)) (hd1 : decode code (pc + 1) = .ok (.iload_n 3, 1)) (hd2 : decode code (pc + 2) = .ok (.iaload, 1)) (hl : ∀ α, (0, Value.ref b) ∈ lv α) (hl3 : ∀ α, (3, Value.int (Int32.ofInt x)) ∈ lv α) (k : Λ lv (pc + 3) (.inl (xv x.toNat).toInt :: st) N X) : Λ lv pc st N X := by
  have hΛ' := hΛ
  obtain ⟨p, l, e, s, m, below, meth, c, Q, D, g, α0, hC, rfl⟩ := hΛ'
  obtain ⟨k1, k2, k3⟩ := k
  refine ⟨k1, k2, fun α H locs L hS hR hα hL hc => ?_⟩
  refine lv_aload_n hC.1 hC.2.1 hd0 rfl (hL.2.2 _ (hl α)) ?_
  refine lv_iload_n hC.1 hC.2.1 hd1 rfl (hL.2.2 _ (hl3 α)) ?_
  refine l_at hΛ hx0 hx1 hd2 hC hS ?_
  have hW := k3 α H locs L hS hR hα hL (m_cp (m_cv_i _ _) hc)
  rw [List.map_cons, show m_rv α (.inl (xv x.toNat).toInt) = .int (xv x.toNat) by show Value.int (Int32.ofInt _) = _; rw [Int32.ofInt_toInt]] at hW
  exact hW
theorem l_arg (hΛ : lG b Ln xv Λ) {x j : Int} (hx0 : 0 ≤ x) (hj : 0 ≤ j) (hx1 : x + j < (Ln : Int)) (hd0 : decode code pc = .ok (.aload_n 0, 1)) (hd1 : decode code (pc + 1) = .ok (.iload_n 3, 1)) (hd2 : decode code (pc + 2) = .ok (.iconst j, 1)) (hd3 : decode code (pc + 3) = .ok (.iadd, 1)) (hd4 : decode code (pc + 4) = .ok (.iaload, 1)) (hl : ∀ α, (0, Value.ref b) ∈ lv α) (hl3 : ∀ α, (3, Value.int (Int32.ofInt x)) ∈ lv α) (k : Λ lv (pc + 5) (.inl (xv (x + j).toNat).toInt :: st) N X) : Λ lv pc st N X := by
  have hΛ' := hΛ
  obtain ⟨p, l, e, s, m, below, meth, c, Q, D, g, α0, hC, rfl⟩ := hΛ'
  obtain ⟨k1, k2, k3⟩ := k
  refine ⟨k1, k2, fun α H locs L hS hR hα hL hc => ?_⟩
  refine lv_aload_n hC.1 hC.2.1 hd0 rfl (hL.2.2 _ (hl α)) ?_
  refine lv_iload_n hC.1 hC.2.1 hd1 rfl (hL.2.2 _ (hl3 α)) ?_
  refine lv_iconst hC.1 hC.2.1 hd2 rfl ?_
  refine lv_iadd hC.1 hC.2.1 hd3 ?_
  rw [← Int32.ofInt_add]
  refine l_at hΛ (show 0 ≤ x + j by omega) hx1 hd4 hC hS ?_
  have hW := k3 α H locs L hS hR hα hL (m_cp (m_cv_i _ _) hc)
  rw [List.map_cons, show m_rv α (.inl (xv (x + j).toNat).toInt) = .int (xv (x + j).toNat) by show Value.int (Int32.ofInt _) = _; rw [Int32.ofInt_toInt]] at hW
  exact hW
/-! calls -/
theorem l_back {p : Program} {l : Launch} {e : Jvm.Env} {s : State} {m : MethodId} {sargs : Array Value} {below : List Frame} {meth : Method} {c : Code} {Q : State → Prop} {D : va_G} {g : m_g4} {α α0 : Nat → Nat} {H : Heap} {locs : List Loc} {L : Array Slot} {st1 : List MV} {av : Array Value} {v : Option MV}
    (hn : xn X ≤ xn X') (hs : xs X ≤ xs X') (hlv : ∀ α', (∀ o, o < xn X → α' o = α o) → lv α' = lv α)
    (k3 : ∀ (α : Nat → Nat) (H : Heap) (locs : List Loc) (L : Array Slot), va_S (fun q => s.heap.size ≤ q) s.heap H locs → m_RL D g α N' X' (fun q => s.heap.size ≤ q) H → (∀ o, o < 3 → α o = α0 o) → lv_has L 4 (lv α) → (∀ x ∈ v.toList ++ st, m_cv (xn X') x) → W p l e room_1 s m sargs below meth c H locs (xn X' - 3) (xs X') Q (F0 m (pc + 3) L ((v.toList ++ st).map (m_rv α))))
    (r3 : va_S (fun q => s.heap.size ≤ q) s.heap H locs) (r4 : m_RL D g α N X (fun q => s.heap.size ≤ q) H) (r5 : ∀ o, o < 3 → α o = α0 o) (r6 : lv_has L 4 (lv α)) (r7 : ∀ x ∈ st, m_cv (xn X) x)
    (hr : va_Run p l e room_1 s m sargs below meth c H locs (xn X - 3) (xs X) (xn X' - xn X) (xs X' - xs X) (F0 m pc L (st1.map (m_rv α))) (st.map (m_rv α)) (m_Qc D g α (va_A (m_ws g α N X) H.size) v (xn X) N' X' av) (va_A (m_ws g α N X) H.size)) :
    W p l e room_1 s m sargs below meth c H locs (xn X - 3) (xs X) Q (F0 m pc L (st1.map (m_rv α))) := by
  have h3 := r4.1
  have hF : ∀ q, va_A (m_ws g α N X) H.size q → s.heap.size ≤ q := by
    intro q h
    rcases h with ⟨k, e', h⟩ | h
    · exact r4.2.2.2.2.2.2 k (q, e') h
    · exact Nat.le_trans r3.1 h
  intro T hT XX
  obtain ⟨v0, st₀, t, T', L', h0, X'', hL', e1, e2, ⟨⟨α', ha', hv', hcv', hRL'⟩, hz, hk⟩, stp⟩ := hr T hT XX
  cases hv'
  rw [h0] at hz hk
  have hrv : ∀ x, m_cv (xn X) x → m_rv α' x = m_rv α x := by
    intro x hx
    match x, hx with
    | .inl _, _ => rfl
    | .inr (.inl _), _ => rfl
    | .inr (.inr r), hx =>
      show (if r = 0 then Value.null else .ref (α' r)) = if r = 0 then Value.null else .ref (α r)
      rw [ha' r hx]
  have hmap : st.map (m_rv α') = st.map (m_rv α) := List.map_congr_left fun x hx => hrv x (r7 x hx)
  have hS' : va_S (fun q => s.heap.size ≤ q) s.heap T'.heap (locs ++ L') := by
    refine ⟨Nat.le_trans r3.1 (by rw [e1]; exact hz), fun q h1 h2 => ?_, fun q hq => ?_⟩
    · rw [e1, hk q (Nat.lt_of_lt_of_le h1 r3.1) (fun z => h2 (hF q z))]
      exact r3.2.1 q h1 h2
    · rcases List.mem_append.mp hq with h | h
      · exact r3.2.2 q h
      · exact hF _ (hL' q h)
  have hW := k3 α' T'.heap (locs ++ L') L hS' (by
    rw [e1]
    exact ⟨hRL'.1, hRL'.2.1, hRL'.2.2.1, hRL'.2.2.2.1, hRL'.2.2.2.2.1, hRL'.2.2.2.2.2.weaken (fun k q _ h => hF q.1 h)⟩) (fun o ho => (ha' o (by omega)).trans (r5 o ho)) (by rw [hlv α' ha']; exact r6) (fun x hx => by
    rcases List.mem_append.mp hx with h | h
    · exact hcv' x (by cases v with
        | none => cases h
        | some z => rw [List.mem_singleton.mp h])
    · exact m_cv_mono hn (r7 x h))
  rw [show xn X' - 3 = xn X - 3 + (xn X' - xn X) by omega, show xs X' = xs X + (xs X' - xs X) by omega, List.map_append, hmap] at hW
  have hv2 : (v.map (m_rv α')).toList = v.toList.map (m_rv α') := by cases v <;> rfl
  obtain ⟨t2, a1, b1⟩ := hW T' rfl X''
  refine ⟨t2, stp t2 ?_, b1⟩
  rw [hv2]
  exact a1
theorem l_callV (hΛ : lG b Ln xv Λ) {y : MethodName} {cc' : ByteArray} {nL' idx n : Nat} {ret : Option FieldType} {args : List MV} {v : Option MV} {d' o ci : Nat} {T : u_T} {N0 : Nat} (hdd : d' ≤ 300) (hd : decode code pc = .ok (.invokevirtual idx, 3)) (hw : m_CV RL idx y) (hcw : m_CW y cc' nL' ret n) (hn : args.length = n) (hc : vwCl[ci]? = some (y.cls, T, N0)) (hK : (xK X o).1 = ci + 5) (hcs : m_cs st ≤ 8) (hlv : ∀ α α', (∀ o, o < xn X → α' o = α o) → lv α' = lv α) {st1 : List MV} (hst : args.reverse ++ .inr (.inr o) :: st = st1) (hC : m_Call d' y cc' nL' ret (.inr (.inr o) :: args) N X v N' X') (kk : Λ lv (pc + 3) (v.toList ++ st) N' X') : Λ lv pc st1 N X := by
  subst hst
  obtain ⟨p, l, e, s, m, below, meth, c, Q, D, g, α0, ⟨hx, hb, hml, hown, hts, hKK, hXs, hbl, hLn, hEx⟩, rfl⟩ := hΛ
  obtain ⟨w1, w2, w3⟩ := hw
  obtain ⟨c1, c2, c3, c4⟩ := hcw
  obtain ⟨hC1, hC2, hC3⟩ := hC
  obtain ⟨k1, k2, k3⟩ := kk
  refine ⟨by omega, by omega, fun α H locs L r3 r4 r5 r6 r7 => ?_⟩
  obtain ⟨a1, a2, a3⟩ := r4.at (o := o) (by rw [hK]; omega)
  rw [m_ce_obj hK] at a3
  have h3 := r4.1
  have hcva : ∀ a ∈ (.inr (.inr o) :: args : List MV), m_cv (xn X) a := fun a ha => r7 a (by
    rcases List.mem_cons.mp ha with rfl | ha
    · exact List.mem_append_right _ List.mem_cons_self
    · exact List.mem_append_left _ (List.mem_reverse.mpr ha))
  have hF : ∀ q, va_A (m_ws g α N X) H.size q → s.heap.size ≤ q := by
    intro q h
    rcases h with ⟨k, e', h⟩ | h
    · exact r4.2.2.2.2.2.2 k (q, e') h
    · exact Nat.le_trans r3.1 h
  have hEx' : m_Ex α (va_A (m_ws g α N X) H.size) s H := (((hEx.at (r5 1 (by omega)) (r5 2 (by omega))).kept r3.2.1).narrow hF)
  have hro : m_rv α (.inr (.inr o)) = .ref (α o) := m_ro a1
  have hg := lw_g_GoodInC c2
  refine l_back (lv := lv) (st1 := args.reverse ++ .inr (.inr o) :: st) (av := (Value.ref (α o) :: args.map (m_rv α)).toArray) hC1 hC2 (hlv α) k3 r3 r4 r5 r6 (fun x hx => r7 x (List.mem_append_right _ (List.mem_cons_of_mem _ hx))) ?_
  refine va_runV (As := args.map (m_rv α)) (rest := st.map (m_rv α)) (b := α o) (C := y.cls) ⟨hx, hb, hml, hown, hts⟩ (hC3 l D g α H.size hcva) ⟨callB_of n hts hg rfl rfl rfl (hts _ c1) (hts _ w1) c3 ⟨by show d' + 1 ≤ 2048; omega, by show 8 + (nL' + 11) + 200 * d' ≤ 84000; omega⟩, hts _ w2, hts _ w3⟩ ⟨m_Pc_blind, va_recv hKK r4.2.2.2.2.1 hc a3, fun U hU hW => ⟨by rw [List.map_cons, hro], by rw [hU], by rw [hU]; exact ⟨r4.1, r4.2.1, r4.2.2.1, r4.2.2.2.1, r4.2.2.2.2.1, r4.2.2.2.2.2.weaken (fun _ _ _ _ => trivial)⟩, va_K.moved hW.alike hKK, by rw [hU]; exact hEx'.warm hW⟩⟩ rfl (by rw [List.length_map]; exact hn) r6.1 (by show (args.reverse ++ .inr (.inr o) :: st).map (m_rv α) = _; rw [List.map_append, List.map_cons, List.map_reverse, hro]) (lv_room (by rw [m_cs_eq]; exact hcs)) hd ⟨by show xn X - 3 + (xn X' - xn X) ≤ 600000; omega, by show xs X + (xs X' - xs X) ≤ 7302250; omega⟩
theorem l_callI (hΛ : lG b Ln xv Λ) {y : MethodName} {cc' : ByteArray} {nL' idx n : Nat} {args : List MV} {v : Option MV} {d' o : Nat} (hdd : d' ≤ 300) (ho : 3 ≤ o) (hd : decode code pc = .ok (.invokespecial idx, 3)) (hw : m_CI RL idx y) (hcw : m_CW y cc' nL' none n) (hn : args.length = n) (hcs : m_cs st ≤ 8) (hlv : ∀ α α', (∀ o, o < xn X → α' o = α o) → lv α' = lv α) {st1 : List MV} (hst : args.reverse ++ .inr (.inr o) :: st = st1) (hC : m_Call d' y cc' nL' none (.inr (.inr o) :: args) N X v N' X') (kk : Λ lv (pc + 3) (v.toList ++ st) N' X') : Λ lv pc st1 N X := by
  subst hst
  obtain ⟨p, l, e, s, m, below, meth, c, Q, D, g, α0, ⟨hx, hb, hml, hown, hts, hKK, hXs, hbl, hLn, hEx⟩, rfl⟩ := hΛ
  obtain ⟨w1, w2, w3⟩ := hw
  obtain ⟨c1, c2, c3, c4⟩ := hcw
  obtain ⟨hC1, hC2, hC3⟩ := hC
  obtain ⟨k1, k2, k3⟩ := kk
  refine ⟨by omega, by omega, fun α H locs L r3 r4 r5 r6 r7 => ?_⟩
  have h3 := r4.1
  have hcva : ∀ a ∈ (.inr (.inr o) :: args : List MV), m_cv (xn X) a := fun a ha => r7 a (by
    rcases List.mem_cons.mp ha with rfl | ha
    · exact List.mem_append_right _ List.mem_cons_self
    · exact List.mem_append_left _ (List.mem_reverse.mpr ha))
  have hF : ∀ q, va_A (m_ws g α N X) H.size q → s.heap.size ≤ q := by
    intro q h
    rcases h with ⟨k, e', h⟩ | h
    · exact r4.2.2.2.2.2.2 k (q, e') h
    · exact Nat.le_trans r3.1 h
  have hEx' : m_Ex α (va_A (m_ws g α N X) H.size) s H := (((hEx.at (r5 1 (by omega)) (r5 2 (by omega))).kept r3.2.1).narrow hF)
  have hro : m_rv α (.inr (.inr o)) = .ref (α o) := m_ro ho
  have hg := lw_g_GoodInC c2
  refine l_back (lv := lv) (st1 := args.reverse ++ .inr (.inr o) :: st) (av := (Value.ref (α o) :: args.map (m_rv α)).toArray) hC1 hC2 (hlv α) k3 r3 r4 r5 r6 (fun x hx => r7 x (List.mem_append_right _ (List.mem_cons_of_mem _ hx))) ?_
  exact va_runI (As := args.map (m_rv α)) (rest := st.map (m_rv α)) (b := α o) ⟨hx, hb, hml, hown, hts⟩ (hC3 l D g α H.size hcva) ⟨callB_of n hts hg rfl rfl rfl (hts _ c1) (hts _ w1) c3 ⟨by show d' + 1 ≤ 2048; omega, by show 8 + (nL' + 11) + 200 * d' ≤ 84000; omega⟩, w3, hts _ w2⟩ ⟨m_Pc_blind, fun U hU hW => ⟨by rw [List.map_cons, hro], by rw [hU], by rw [hU]; exact ⟨r4.1, r4.2.1, r4.2.2.1, r4.2.2.2.1, r4.2.2.2.2.1, r4.2.2.2.2.2.weaken (fun _ _ _ _ => trivial)⟩, va_K.moved hW.alike hKK, by rw [hU]; exact hEx'.warm hW⟩⟩ rfl (by rw [List.length_map]; exact hn) r6.1 (by show (args.reverse ++ .inr (.inr o) :: st).map (m_rv α) = _; rw [List.map_append, List.map_cons, List.map_reverse, hro]) (lv_room (by rw [m_cs_eq]; exact hcs)) hd ⟨by show xn X - 3 + (xn X' - xn X) ≤ 600000; omega, by show xs X + (xs X' - xs X) ≤ 7302250; omega⟩
theorem l_new (hΛ : lG b Ln xv Λ) {idx ci n : Nat} {C : String} {T : u_T} (hd : decode code pc = .ok (.new idx, 3)) (hc : vwCl[ci]? = some (C, T, n)) (hin : ∀ w ∈ u_ws C T n, w ∈ lw_g) (hnf : m_nf ci = n) (hty : ∀ j, j < n → parseFieldDescriptor (T j).2.2.1 = some (m_ty ci j)) (htk : ∀ j, j < n → m_tok (m_ty ci j) = true) (h1 : Cond.classLink RL idx C ∈ lw_g) (h2 : Cond.instantiable C n ∈ lw_g) (h3 : Cond.initialized C ∈ lw_g) (hlv : ∀ α α', (∀ o, o < xn X → α' o = α o) → lv α' = lv α)
    (kk : Λ lv (pc + 3) (.inr (.inr (xn X)) :: st) (m_nN N (xn X)) (m_nX X (ci + 5, 0) n)) : Λ lv pc st N X := by
  obtain ⟨p, l, e, s, m, below, meth, c, Q, D, g, α0, ⟨hx, hb, hml, hown, hts, hKK, hXs, hbl, hLn, hEx⟩, rfl⟩ := hΛ
  obtain ⟨k1, k2, k3⟩ := kk
  have k1 : xn X + 1 ≤ 600003 := k1
  have k2 : xs X + n ≤ 7302250 := k2
  refine ⟨by omega, by omega, fun α H locs L r3 r4 r5 r6 r7 => ?_⟩
  have x3 := r4.1
  have ecell : ∀ q, m_ce g (fun a => if a = xn X then q else α a) (m_nN N (xn X)) (m_nX X (ci + 5, 0) n) (xn X) = .inr (ci, (List.range n).map fun j => m_fv α (m_ty ci j) 0 0) := fun q => by
    rw [m_ce_obj (ci := ci) (by show (if xn X = xn X then (ci + 5, 0) else xK X (xn X)).1 = _; rw [if_pos rfl]), hnf]
    refine congrArg (fun z => (Sum.inr (ci, z) : va_E)) (List.map_congr_left fun j _ => ?_)
    show m_fv _ _ (if xn X = xn X then 0 else N (xn X) j) (if xn X = xn X then 0 else xR X (xn X) j) = _
    rw [if_pos rfl, if_pos rfl]
    exact m_fv_up (by omega)
  refine va_new (fs := (List.range n).map fun j => m_fv α (m_ty ci j) 0 0) hx hb hts hin (m_ty ci) hty hown (hts _ h1) (hts _ h2) (hts _ h3) hKK r4.2.2.2.2.1 r4.2.2.2.2.2 r3 (fun q h => h) hc (fun j hj => ?_) (by show xn X - 3 + 1 ≤ 600000; omega) (by show xs X + n ≤ 7302250; omega) hd (fun q H1 hP1 hD1 hS1 => ?_)
  · unfold vp_V
    rw [List.getD_eq_getElem?_getD, m_fget hj]
    exact m_def _ (m_tok_or (htk j hj))
  · rw [← ecell q] at hP1 hD1
    have hW := k3 (fun a => if a = xn X then q else α a) H1 locs L hS1 (r4.new (by simp) hP1 hD1) (fun o ho => by show (if o = xn X then q else α o) = α0 o; rw [if_neg (by omega)]; exact r5 o ho) (by rw [hlv α _ (fun o ho => if_neg (by omega))]; exact r6) (m_cp (Nat.lt_succ_self _) (fun v hv => m_cv_mono (Nat.le_succ _) (r7 v hv)))
    rw [show xn (m_nX X (ci + 5, 0) n) - 3 = xn X - 3 + 1 by show xn X + 1 - 3 = _; omega, show xs (m_nX X (ci + 5, 0) n) = xs X + n from rfl, List.map_cons, m_map_up r7] at hW
    rw [show m_rv (fun a => if a = xn X then q else α a) (.inr (.inr (xn X))) = .ref q by show (if xn X = 0 then Value.null else .ref (if xn X = xn X then q else α (xn X))) = _; rw [if_neg (by have := r4.1; omega), if_pos rfl]] at hW
    exact hW
end LR
