/-! fields and arrays of the small machine -/
theorem m_up_ne {N : NN} {o k a b : Nat} {x : Int} (h : a ≠ o) : m_up N o k x a b = N a b := if_neg h
theorem m_up_same (N : NN) (o k : Nat) (x : Int) : m_up N o k x o k = x := by unfold m_up; rw [if_pos rfl, if_pos rfl]
theorem m_up_off {N : NN} {o k b : Nat} {x : Int} (h : b ≠ k) : m_up N o k x o b = N o b := by unfold m_up; rw [if_pos rfl, if_neg h]
def m_FL (own : String) (idx ci k : Nat) (fin : Bool) : Prop := ∃ (C : String) (T : u_T) (n : Nat), vwCl[ci]? = some (C, T, n) ∧ (∀ w ∈ u_ws C T n, w ∈ lw_g) ∧ k < n ∧ m_nf ci = n ∧ Cond.fieldLink own idx (T k).1 (T k).2.1 (T k).2.2.1 ∈ lw_g
  ∧ (∀ j, j < n → parseFieldDescriptor (T j).2.2.1 = some (m_ty ci j)) ∧ (∀ a, a < n → ∀ b, b < n → a ≠ b → (T a).2.1 ≠ (T b).2.1) ∧ (T k).2.2.2 = fin ∧ (fin = true → (T k).1 = own)
theorem m_ce_obj {g : m_g4} {α : Nat → Nat} {N : NN} {X : MX} {o ci : Nat} (h : (xK X o).1 = ci + 5) : m_ce g α N X o = .inr (ci, (List.range (m_nf ci)).map fun j => m_fv α (m_ty ci j) (N o j) (xR X o j)) := by unfold m_ce; rw [h]
theorem m_ce_1 {g : m_g4} {α : Nat → Nat} {N : NN} {X : MX} {o n : Nat} (h : xK X o = (1, n)) : m_ce g α N X o = .inl (g.1, n, .inl fun j => Int32.ofInt (N o j)) := by unfold m_ce; rw [h]
theorem m_ce_2 {g : m_g4} {α : Nat → Nat} {N : NN} {X : MX} {o n : Nat} (h : xK X o = (2, n)) : m_ce g α N X o = .inl (g.2.1, n, .inr (.inl fun j => Int64.ofInt (N o j))) := by unfold m_ce; rw [h]
theorem m_ce_3 {g : m_g4} {α : Nat → Nat} {N : NN} {X : MX} {o n : Nat} (h : xK X o = (3, n)) : m_ce g α N X o = .inl (g.2.2.1, n, .inl fun j => Int32.ofInt (N o j)) := by unfold m_ce; rw [h]
theorem m_ce_4 {g : m_g4} {α : Nat → Nat} {N : NN} {X : MX} {o n : Nat} (h : xK X o = (4, n)) : m_ce g α N X o = .inl (g.2.2.2, n, .inr (.inr (.inr (.inr fun j => if (N o j).toNat = 0 then none else some (α (N o j).toNat))))) := by unfold m_ce; rw [h]
theorem m_ce_off {g : m_g4} {α : Nat → Nat} {N N' : NN} {X X' : MX} {q : Nat} (hN : ∀ j, N' q j = N q j) (hK : xK X' q = xK X q) (hR : ∀ j, xR X' q j = xR X q j) : m_ce g α N' X' q = m_ce g α N X q := by
  unfold m_ce
  rw [hK]
  simp only [hN, hR]
theorem m_et_obj {X : MX} {o ci j : Nat} (h : (xK X o).1 = ci + 5) : m_et X o j = m_ty ci j := by unfold m_et; rw [h]
theorem m_et_1 {X : MX} {o j n : Nat} (h : xK X o = (1, n)) : m_et X o j = .int := by unfold m_et; rw [h]
theorem m_et_2 {X : MX} {o j n : Nat} (h : xK X o = (2, n)) : m_et X o j = .long := by unfold m_et; rw [h]
theorem m_et_3 {X : MX} {o j n : Nat} (h : xK X o = (3, n)) : m_et X o j = .boolean := by unfold m_et; rw [h]
theorem m_et_4 {X : MX} {o j n : Nat} (h : xK X o = (4, n)) : m_et X o j = .object "" := by unfold m_et; rw [h]
theorem m_fget {n k : Nat} {f : Nat → Value} (hk : k < n) : ((List.range n).map f)[k]? = some (f k) := by
  rw [List.getElem?_map, List.getElem?_range hk]; rfl
theorem m_fset {n k : Nat} {f f' : Nat → Value} (h : ∀ j, j ≠ k → f' j = f j) : ((List.range n).map f).set k (f' k) = (List.range n).map f' := by
  apply List.ext_getElem?
  intro i
  by_cases hi : i < n
  · rw [List.getElem?_map (f := f'), List.getElem?_range hi]
    by_cases hik : i = k
    · subst hik
      rw [List.getElem?_set_self (by simpa using hi)]; rfl
    · rw [List.getElem?_set_ne (fun q => hik q.symm), List.getElem?_map, List.getElem?_range hi]
      show some (f i) = some (f' i)
      rw [h i hik]
  · rw [List.getElem?_eq_none (by simpa using hi), List.getElem?_eq_none (by simpa using hi)]
/-- a place of a cell gets a number: the picture behind it -/
theorem m_RL.put {D : va_G} {g : m_g4} {α : Nat → Nat} {N N' : NN} {X X' : MX} {A : Nat → Prop} {H H1 : Heap} {o k : Nat} (h : m_RL D g α N X A H) (hk : (xK X o).1 ≠ 0) (hN : ∀ a b, a ≠ o → N' a b = N a b) (hNo : ∀ b, b ≠ k → N' o b = N o b) (hcr : m_cr (xn X) (m_et X o k) (N' o k)) (hX : X'.2 = X.2) (hR : ∀ a b, a ≠ o → xR X' a b = xR X a b) (hR2 : ∀ a b, xR X' a b < xn X)
    (hP : va_P D vwCl ((m_ws g α N X).set (o - 3) (α o, m_ce g α N' X' o)) H1) (hD : va_D A ((m_ws g α N X).set (o - 3) (α o, m_ce g α N' X' o))) : m_RL D g α N' X' A H1 := by
  obtain ⟨q1, q2, -⟩ := h.at hk
  obtain ⟨XR, XT⟩ := X
  obtain ⟨XR', XT'⟩ := X'
  cases hX
  have e : (m_ws g α N (XR, XT)).set (o - 3) (α o, m_ce g α N' (XR', XT) o) = m_ws g α N' (XR', XT) := m_ws_set (X := (XR, XT)) (X' := (XR', XT)) q1 q2 rfl (fun q hq => m_ce_off (fun j => hN q j hq) rfl (fun j => hR q j hq))
  rw [e] at hP hD
  refine ⟨h.1, h.2.1, fun a b => ?_, hR2, hP, hD⟩
  show m_cr (xn (XR, XT)) (m_et (XR, XT) a b) (N' a b)
  by_cases ha : a = o
  · subst ha
    by_cases hb : b = k
    · subst hb; exact hcr
    · rw [hNo b hb]; exact h.2.2.1 a b
  · rw [hN a b ha]; exact h.2.2.1 a b
section MH
variable {d : Nat} {own nm : String} {cc : ByteArray} {nL n0 s0 nF sF : Nat} {Ω : Nat → MS → Prop} {pc : Nat} {ls : ML} {st : List MV} {N : NN} {X : MX}
theorem s_getf (hΩ : m_G d own nm cc nL n0 s0 nF sF Ω) {o idx ci k : Nat} {fin : Bool} {v : MV} (hd : decode cc pc = .ok (.getfield idx, 3)) (hf : m_FL own idx ci k fin) (hK : (xK X o).1 = ci + 5) (hv : ∀ α, m_rv α v = m_fv α (m_ty ci k) (N o k) (xR X o k)) (hcv : m_cr (xn X) (m_ty ci k) (N o k) → xR X o k < xn X → m_cv (xn X) v)
    (k : Ω (pc + 3) (ls, v :: st, N, X)) : Ω pc (ls, .inr (.inr o) :: st, N, X) := by
  obtain ⟨p, l, e, R, s, m, args, below, meth, c, Q, D, g, A, α0, ⟨hx, hb, -, hown, hts, hKK, -⟩, rfl⟩ := hΩ
  obtain ⟨C, T, n, f1, f2, f3, f4, f5, -⟩ := hf
  obtain ⟨k1, k2, k3⟩ := k
  refine ⟨k1, k2, fun α H locs L hr => ?_⟩
  obtain ⟨r1, r2, r3, r4, r5, r6, r7⟩ := hr
  dsimp only at r1 r2 r3 r4 r5 r6 r7 ⊢
  have hk0 : (xK X o).1 ≠ 0 := by rw [hK]; omega
  obtain ⟨a1, a2, a3⟩ := r4.at hk0
  rw [m_ce_obj hK] at a3
  have ho : m_rv α (.inr (.inr o)) = .ref (α o) := by show (if o = 0 then Value.null else .ref (α o)) = _; rw [if_neg (by omega)]
  have hc' : m_cv (xn X) v := hcv (by have := r4.2.2.1 o k; rwa [m_et_obj hK] at this) (r4.2.2.2.1 o k)
  have hW := k3 α H locs L ⟨r1, r2, r3, r4, r5, r6, m_cp hc' (m_c1 r7).2⟩
  show W _ _ _ _ _ _ _ _ _ _ _ _ _ _ _ (F0 m pc L (m_rv α (.inr (.inr o)) :: st.map (m_rv α)))
  rw [ho]
  exact va_get hx hb hts f2 hown hKK r4.2.2.2.2.1 (o - 3) a3 f1 k f3 (hts _ f5) (fun x h => h) (m_fget (by rw [f4]; exact f3) |>.trans (by rw [← hv α])) hd hW
theorem s_geti (hΩ : m_G d own nm cc nL n0 s0 nF sF Ω) {o idx ci k : Nat} {fin : Bool} (hd : decode cc pc = .ok (.getfield idx, 3)) (hf : m_FL own idx ci k fin) (hK : (xK X o).1 = ci + 5) (ht : m_ty ci k = .int) (k : Ω (pc + 3) (ls, .inl (N o k) :: st, N, X)) : Ω pc (ls, .inr (.inr o) :: st, N, X) :=
  s_getf hΩ hd hf hK (fun α => by rw [ht]; rfl) (fun h _ => by rw [ht] at h; exact h) k
theorem s_getz (hΩ : m_G d own nm cc nL n0 s0 nF sF Ω) {o idx ci k : Nat} {fin : Bool} (hd : decode cc pc = .ok (.getfield idx, 3)) (hf : m_FL own idx ci k fin) (hK : (xK X o).1 = ci + 5) (ht : m_ty ci k = .boolean) (k : Ω (pc + 3) (ls, .inl (N o k) :: st, N, X)) : Ω pc (ls, .inr (.inr o) :: st, N, X) :=
  s_getf hΩ hd hf hK (fun α => by rw [ht]; rfl) (fun h _ => by rw [ht] at h; exact ⟨by have := h.1; omega, by have := h.2; omega⟩) k
theorem s_getl (hΩ : m_G d own nm cc nL n0 s0 nF sF Ω) {o idx ci k : Nat} {fin : Bool} (hd : decode cc pc = .ok (.getfield idx, 3)) (hf : m_FL own idx ci k fin) (hK : (xK X o).1 = ci + 5) (ht : m_ty ci k = .long) (k : Ω (pc + 3) (ls, .inr (.inl (N o k)) :: st, N, X)) : Ω pc (ls, .inr (.inr o) :: st, N, X) :=
  s_getf hΩ hd hf hK (fun α => by rw [ht]; rfl) (fun h _ => by rw [ht] at h; exact h) k
def m_isr (t : FieldType) : Bool := match t with
  | .object _ => true
  | .array _ => true
  | _ => false
theorem m_isr_fv {α : Nat → Nat} {t : FieldType} {x : Int} {r : Nat} (h : m_isr t = true) : m_fv α t x r = if r = 0 then Value.null else .ref (α r) := by
  cases t <;> first | rfl | (cases h)
theorem s_getr (hΩ : m_G d own nm cc nL n0 s0 nF sF Ω) {o idx ci k r : Nat} {fin : Bool} (hd : decode cc pc = .ok (.getfield idx, 3)) (hf : m_FL own idx ci k fin) (hK : (xK X o).1 = ci + 5) (ht : m_isr (m_ty ci k) = true) (hr : xR X o k = r) (k : Ω (pc + 3) (ls, .inr (.inr r) :: st, N, X)) : Ω pc (ls, .inr (.inr o) :: st, N, X) :=
  s_getf hΩ hd hf hK (fun α => by rw [m_isr_fv ht, hr]; rfl) (fun _ h => by rw [hr] at h; exact h) k
theorem s_putf (hΩ : m_G d own nm cc nL n0 s0 nF sF Ω) {o idx ci k : Nat} {v : MV} {N' : NN} {fin : Bool} {XR' : Nat → Nat → Nat} (hd : decode cc pc = .ok (.putfield idx, 3)) (hf : m_FL own idx ci k fin) (hfin : fin = true → nm = "<init>") (hK : (xK X o).1 = ci + 5)
    (hv : ∀ α, m_rv α v = m_fv α (m_ty ci k) (N' o k) (XR' o k)) (hn : ∀ α, narrow (m_ty ci k) (m_rv α v) = m_rv α v) (hfit : ∀ α, fits (m_ty ci k) (m_rv α v) = true) (hcr : m_cv (xn X) v → m_cr (xn X) (m_ty ci k) (N' o k) ∨ (N' o k = N o k)) (hNa : ∀ a b, a ≠ o → N' a b = N a b) (hNb : ∀ b, b ≠ k → N' o b = N o b) (hRa : ∀ a b, a ≠ o → XR' a b = xR X a b) (hRb : ∀ b, b ≠ k → XR' o b = xR X o b) (hRc : m_cv (xn X) v → XR' o k < xn X ∨ XR' o k = xR X o k)
    (kk : Ω (pc + 3) (ls, st, N', (XR', X.2))) : Ω pc (ls, v :: .inr (.inr o) :: st, N, X) := by
  obtain ⟨p, l, e, R, s, m, args, below, meth, c, Q, D, g, A, α0, ⟨hx, hb, -, hown, hts, hKK, hA, hnm, -⟩, rfl⟩ := hΩ
  obtain ⟨C, T, n, f1, f2, f3, f4, f5, f6, f7, f8, f9⟩ := hf
  obtain ⟨k1, k2, k3⟩ := kk
  refine ⟨k1, k2, fun α H locs L hr => ?_⟩
  obtain ⟨r1, r2, r3, r4, r5, r6, r7⟩ := hr
  dsimp only at r1 r2 r3 r4 r5 r6 r7 ⊢
  have hk0 : (xK X o).1 ≠ 0 := by rw [hK]; omega
  obtain ⟨a1, a2, a3⟩ := r4.at hk0
  rw [m_ce_obj hK] at a3
  have ho : m_rv α (.inr (.inr o)) = .ref (α o) := by show (if o = 0 then Value.null else .ref (α o)) = _; rw [if_neg (by omega)]
  show W _ _ _ _ _ _ _ _ _ _ _ _ _ _ _ (F0 m pc L (m_rv α v :: m_rv α (.inr (.inr o)) :: st.map (m_rv α)))
  rw [ho]
  have hset : ((List.range (m_nf ci)).map fun j => m_fv α (m_ty ci j) (N o j) (xR X o j)).set k (m_rv α v) = (List.range (m_nf ci)).map fun j => m_fv α (m_ty ci j) (N' o j) (XR' o j) := by
    rw [hv α]
    exact m_fset (f := fun j => m_fv α (m_ty ci j) (N o j) (xR X o j)) (f' := fun j => m_fv α (m_ty ci j) (N' o j) (XR' o j)) (fun j hj => by simp only [hNb j hj, hRb j hj])
  have hcv := (m_c1 r7).1
  have hend : ∀ (H1 : Heap) (locs1 : List Loc), va_P D vwCl ((m_ws g α N X).set (o - 3) (α o, .inr (ci, ((List.range (m_nf ci)).map fun j => m_fv α (m_ty ci j) (N o j) (xR X o j)).set k (m_rv α v)))) H1 → va_D A ((m_ws g α N X).set (o - 3) (α o, .inr (ci, ((List.range (m_nf ci)).map fun j => m_fv α (m_ty ci j) (N o j) (xR X o j)).set k (m_rv α v)))) → va_S A s.heap H1 locs1 → W p l e R s m args below meth c H1 locs1 (xn X - n0) (xs X - s0) Q (F0 m (pc + 3) L (st.map (m_rv α))) := by
    intro H1 locs1 hP1 hD1 hS1
    have e1 : m_ce g α N' (XR', X.2) o = .inr (ci, ((List.range (m_nf ci)).map fun j => m_fv α (m_ty ci j) (N o j) (xR X o j)).set k (m_rv α v)) := by rw [hset]; exact m_ce_obj (X := (XR', X.2)) hK
    rw [← e1] at hP1 hD1
    refine k3 α H1 locs1 L ⟨r1, r2, hS1, r4.put (X' := (XR', X.2)) hk0 hNa hNb ?_ rfl hRa ?_ hP1 hD1, r5, r6, (m_c1 (m_c1 r7).2).2⟩
    · show m_cr (xn X) (m_et X o k) (N' o k)
      rw [m_et_obj hK]
      rcases hcr hcv with h | h
      · exact h
      · rw [h]; have := r4.2.2.1 o k; rwa [m_et_obj hK] at this
    · intro a b
      by_cases ha : a = o
      · subst ha
        by_cases hb : b = k
        · subst hb
          rcases hRc hcv with h | h
          · exact h
          · rw [show xR (XR', X.2) a b = xR X a b from h]; exact r4.2.2.2.1 a b
        · rw [show xR (XR', X.2) a b = xR X a b from hRb b hb]; exact r4.2.2.2.1 a b
      · rw [show xR (XR', X.2) a b = xR X a b from hRa a b ha]; exact r4.2.2.2.1 a b
  cases fin with
  | false => exact va_put hx hb hts f2 (m_ty ci) f6 f7 hown hKK r4.2.2.2.2.1 r4.2.2.2.2.2 r3 (o - 3) a3 f1 k f3 (hts _ f5) (fun x h => h) f8 (f6 k f3) (hn α) (hfit α) (by rw [List.length_map, List.length_range, f4]; exact f3) hd hend
  | true => exact va_putF hx hb hts f2 (m_ty ci) f6 f7 hown hKK r4.2.2.2.2.1 r4.2.2.2.2.2 r3 (o - 3) a3 f1 k f3 (hts _ f5) (fun x h => h) f8 (by rw [hnm]; exact hfin rfl) (f9 rfl) (f6 k f3) (hn α) (hfit α) (by rw [List.length_map, List.length_range, f4]; exact f3) hd hend
theorem s_puti (hΩ : m_G d own nm cc nL n0 s0 nF sF Ω) {o idx ci k : Nat} {x : Int} {fin : Bool} (hd : decode cc pc = .ok (.putfield idx, 3)) (hf : m_FL own idx ci k fin) (hfin : fin = true → nm = "<init>") (hK : (xK X o).1 = ci + 5) (ht : m_ty ci k = .int) (kk : Ω (pc + 3) (ls, st, m_up N o k x, X)) : Ω pc (ls, .inl x :: .inr (.inr o) :: st, N, X) :=
  s_putf (N' := m_up N o k x) (XR' := X.1) hΩ hd hf hfin hK (fun α => by rw [ht, m_up_same]; rfl) (fun α => by rw [ht]; rfl) (fun α => by rw [ht]; rfl) (fun h => Or.inl (by rw [ht, m_up_same]; exact h)) (fun a b h => m_up_ne h) (fun b h => m_up_off h) (fun _ _ _ => rfl) (fun _ _ => rfl) (fun _ => Or.inr rfl) kk
theorem s_putl (hΩ : m_G d own nm cc nL n0 s0 nF sF Ω) {o idx ci k : Nat} {x : Int} {fin : Bool} (hd : decode cc pc = .ok (.putfield idx, 3)) (hf : m_FL own idx ci k fin) (hfin : fin = true → nm = "<init>") (hK : (xK X o).1 = ci + 5) (ht : m_ty ci k = .long) (kk : Ω (pc + 3) (ls, st, m_up N o k x, X)) : Ω pc (ls, .inr (.inl x) :: .inr (.inr o) :: st, N, X) :=
  s_putf (N' := m_up N o k x) (XR' := X.1) hΩ hd hf hfin hK (fun α => by rw [ht, m_up_same]; rfl) (fun α => by rw [ht]; rfl) (fun α => by rw [ht]; rfl) (fun h => Or.inl (by rw [ht, m_up_same]; exact h)) (fun a b h => m_up_ne h) (fun b h => m_up_off h) (fun _ _ _ => rfl) (fun _ _ => rfl) (fun _ => Or.inr rfl) kk
theorem m_zval {x : Int} (h : 0 ≤ x ∧ x ≤ 1) : x = 0 ∨ x = 1 := by omega
theorem m_znar {α : Nat → Nat} {x : Int} (h : 0 ≤ x ∧ x ≤ 1) : narrow .boolean (m_rv α (.inl x)) = m_rv α (.inl x) := by
  show narrow .boolean (.int (Int32.ofInt x)) = .int (Int32.ofInt x)
  rcases m_zval h with rfl | rfl <;> decide +kernel
theorem m_zfit {α : Nat → Nat} {x : Int} (h : 0 ≤ x ∧ x ≤ 1) : fits .boolean (m_rv α (.inl x)) = true := by
  show fits .boolean (.int (Int32.ofInt x)) = true
  rcases m_zval h with rfl | rfl <;> decide +kernel
theorem s_putz (hΩ : m_G d own nm cc nL n0 s0 nF sF Ω) {o idx ci k : Nat} {x : Int} {fin : Bool} (hd : decode cc pc = .ok (.putfield idx, 3)) (hf : m_FL own idx ci k fin) (hfin : fin = true → nm = "<init>") (hK : (xK X o).1 = ci + 5) (ht : m_ty ci k = .boolean) (hz : 0 ≤ x ∧ x ≤ 1) (kk : Ω (pc + 3) (ls, st, m_up N o k x, X)) : Ω pc (ls, .inl x :: .inr (.inr o) :: st, N, X) :=
  s_putf (N' := m_up N o k x) (XR' := X.1) hΩ hd hf hfin hK (fun α => by rw [ht, m_up_same]; rfl) (fun α => by rw [ht]; exact m_znar hz) (fun α => by rw [ht]; exact m_zfit hz) (fun h => Or.inl (by rw [ht, m_up_same]; exact hz)) (fun a b h => m_up_ne h) (fun b h => m_up_off h) (fun _ _ _ => rfl) (fun _ _ => rfl) (fun _ => Or.inr rfl) kk
def m_upR (R : Nat → Nat → Nat) (o k r : Nat) : Nat → Nat → Nat := fun a b => if a = o then (if b = k then r else R a b) else R a b
theorem m_rr (α : Nat → Nat) (r : Nat) : m_rv α (.inr (.inr r)) = .null ∨ ∃ a, m_rv α (.inr (.inr r)) = .ref a := by
  by_cases h : r = 0
  · exact Or.inl (if_pos h)
  · exact Or.inr ⟨α r, if_neg h⟩
theorem m_rnar {α : Nat → Nat} {r : Nat} {t : FieldType} (h : m_isr t = true) : narrow t (m_rv α (.inr (.inr r))) = m_rv α (.inr (.inr r)) := by
  rcases m_rr α r with e | ⟨a, e⟩ <;> rw [e] <;> cases t <;> first | rfl | (cases h)
theorem m_rfit {α : Nat → Nat} {r : Nat} {t : FieldType} (h : m_isr t = true) : fits t (m_rv α (.inr (.inr r))) = true := by
  rcases m_rr α r with e | ⟨a, e⟩ <;> rw [e] <;> cases t <;> first | rfl | (cases h)
theorem s_putr (hΩ : m_G d own nm cc nL n0 s0 nF sF Ω) {o idx ci k r : Nat} {fin : Bool} (hd : decode cc pc = .ok (.putfield idx, 3)) (hf : m_FL own idx ci k fin) (hfin : fin = true → nm = "<init>") (hK : (xK X o).1 = ci + 5) (ht : m_isr (m_ty ci k) = true) (kk : Ω (pc + 3) (ls, st, N, (m_upR X.1 o k r, X.2))) : Ω pc (ls, .inr (.inr r) :: .inr (.inr o) :: st, N, X) :=
  s_putf (N' := N) (XR' := m_upR X.1 o k r) hΩ hd hf hfin hK (fun α => by rw [m_isr_fv ht]; unfold m_upR; rw [if_pos rfl, if_pos rfl]; rfl) (fun α => m_rnar ht) (fun α => m_rfit ht) (fun h => Or.inr rfl) (fun a b h => rfl) (fun b h => rfl) (fun a b h => by unfold m_upR; rw [if_neg h]) (fun b h => by unfold m_upR; rw [if_pos rfl, if_neg h]) (fun h => Or.inl (by unfold m_upR; rw [if_pos rfl, if_pos rfl]; exact h)) kk
end MH
