/-! THE SMALL MACHINE: ints, longs as Int, references as ids; a heap as numbers by (id, place), references by (id, place), kinds and lengths by id -/
abbrev ML : Type := List (Option MV)
abbrev MS : Type := ML × List MV × MH
def m_rv (α : Nat → Nat) : MV → Value
  | .inl x => .int (Int32.ofInt x)
  | .inr (.inl x) => .long (Int64.ofInt x)
  | .inr (.inr r) => if r = 0 then .null else .ref (α r)
def m_cr (n : Nat) (t : FieldType) (x : Int) : Prop := match t with
  | .int => -2147483648 ≤ x ∧ x ≤ 2147483647
  | .long => -9223372036854775808 ≤ x ∧ x ≤ 9223372036854775807
  | .boolean => 0 ≤ x ∧ x ≤ 1
  | _ => x.toNat < n
def m_cv (n : Nat) : MV → Prop
  | .inl x => -2147483648 ≤ x ∧ x ≤ 2147483647
  | .inr (.inl x) => -9223372036854775808 ≤ x ∧ x ≤ 9223372036854775807
  | .inr (.inr r) => r < n
def m_ty (c k : Nat) : FieldType := match c with
  | 0 => tyX0 k
  | 1 => tyX1 k
  | 2 => tyX2 k
  | 3 => tyX3 k
  | 4 => tyX4 k
  | 5 => tyX5 k
  | 6 => tyX6 k
  | 7 => tyX7 k
  | 8 => tyX8 k
  | 9 => tyX9 k
  | 10 => tyX10 k
  | 11 => tyX11 k
  | _ => tyX12 k
def m_nf (c : Nat) : Nat := match c with
  | 0 => 3
  | 1 => 6
  | 2 => 3
  | 3 => 8
  | 4 => 4
  | 5 => 11
  | 6 => 9
  | 7 => 8
  | 8 => 5
  | 9 => 9
  | 10 => 3
  | 11 => 15
  | _ => 73
def m_fv (α : Nat → Nat) (t : FieldType) (x : Int) (r : Nat) : Value := match t with
  | .int => .int (Int32.ofInt x)
  | .boolean => .int (Int32.ofInt x)
  | .long => .long (Int64.ofInt x)
  | _ => if r = 0 then .null else .ref (α r)
abbrev m_g4 : Type := ClassId × ClassId × ClassId × ClassId
def m_ce (g : m_g4) (α : Nat → Nat) (N : NN) (X : MX) (o : Nat) : va_E := match (xK X o).1 with
  | 0 => .inr (0, [])
  | 1 => .inl (g.1, (xK X o).2, .inl fun j => Int32.ofInt (N o j))
  | 2 => .inl (g.2.1, (xK X o).2, .inr (.inl fun j => Int64.ofInt (N o j)))
  | 3 => .inl (g.2.2.1, (xK X o).2, .inl fun j => Int32.ofInt (N o j))
  | 4 => .inl (g.2.2.2, (xK X o).2, .inr (.inr (.inr (.inr fun j => if (N o j).toNat = 0 then none else some (α (N o j).toNat)))))
  | k + 5 => .inr (k, (List.range (m_nf k)).map fun j => m_fv α (m_ty k j) (N o j) (xR X o j))
def m_et (X : MX) (o j : Nat) : FieldType := match (xK X o).1 with
  | 0 => .object ""
  | 1 => .int
  | 2 => .long
  | 3 => .boolean
  | 4 => .object ""
  | k + 5 => m_ty k j
def m_tys (g : m_g4) : List (ClassId × FieldType) := [(g.1, .int), (g.2.1, .long), (g.2.2.1, .boolean), (g.2.2.2, .object RX8)]
def m_ws (g : m_g4) (α : Nat → Nat) (N : NN) (X : MX) : va_W := (List.range (xn X - 3)).map fun i => (α (i + 3), m_ce g α N X (i + 3))
def m_RL (D : va_G) (g : m_g4) (α : Nat → Nat) (N : NN) (X : MX) (A : Nat → Prop) (H : Heap) : Prop :=
  3 ≤ xn X ∧ (∀ o, (3 ≤ o ∧ o < xn X) ↔ (xK X o).1 ≠ 0) ∧ (∀ o j, m_cr (xn X) (m_et X o j) (N o j)) ∧ (∀ o k, xR X o k < xn X) ∧ va_P D vwCl (m_ws g α N X) H ∧ va_D A (m_ws g α N X)
def m_LR (α : Nat → Nat) (n nL : Nat) (ls : ML) (L : Array Slot) : Prop := L.size = nL ∧ lv_wf L ∧ ∀ (i : Nat) (v : MV), ls[i]? = some (some v) → L[i]? = some (.val (m_rv α v)) ∧ m_cv n v
def m_txt : String := "worth keeps bars if or and not give to wait times good base keep given giver year herald mood goods done last grain holder owed"
def m_nest : List (String × Nat × MethodName × String) := [("GiftDuel", 24, ⟨"GiftDuel$Past", "<init>", "()V"⟩, "GiftDuel"), ("GiftDuel", 31, ⟨"GiftDuel$Reader", "<init>", "()V"⟩, "GiftDuel"), ("GiftDuel", 38, ⟨"GiftDuel$Judge", "<init>", "()V"⟩, "GiftDuel"), ("GiftDuel$Orders", 20, ⟨"GiftDuel$Past", "<init>", "()V"⟩, "GiftDuel"), ("GiftDuel", 77, ⟨"GiftDuel$Ways", "<init>", "()V"⟩, "GiftDuel")]
/-- what the machine holds beside our cells: TENS, the text of the words, the nest words -/
def m_Ex (α : Nat → Nat) (A : Nat → Prop) (U : State) (H : Heap) : Prop :=
  va_AO RX8 U ∧ (∀ q ∈ m_nest, va_Nw (.methodLinkNest q.1 q.2.1 q.2.2.1 q.2.2.2) U) ∧ va_Z RX12 "TENS" "[I" (.ref (α 2)) A U H ∧ va_T .int (α 2) 6 (fun j => .int (Int32.ofInt (m_tens j))) A U H
  ∧ vk_R RX5 91 m_txt (α 1) U ∧ (∃ av : Nat, vk_S 1 [127] [m_byt] (fun _ => α 1) (fun _ => av) A U H) ∧ va_Z "java/lang/String" "COMPACT_STRINGS" "Z" (.int 1) A U H ∧ va_Zq "jdk/internal/util/Preconditions" "SIOOBE_FORMATTER" "Ljava/util/function/BiFunction;" A U H
section MA
variable (p : Program) (l : Launch) (e : Env) (R : Room) (s : State) (m : MethodId) (args : Array Value) (below : List Frame) (meth : Method) (c : Code) (Q : State → Prop) (D : va_G) (g : m_g4) (A : Nat → Prop) (α0 : Nat → Nat)
def m_Rp (n0 s0 nL : Nat) (α : Nat → Nat) (H : Heap) (locs : List Loc) (L : Array Slot) (ms : MS) : Prop :=
  n0 ≤ xn ms.2.2.2 ∧ s0 ≤ xs ms.2.2.2 ∧ va_S A s.heap H locs ∧ m_RL D g α ms.2.2.1 ms.2.2.2 A H ∧ (∀ o, o < n0 → α o = α0 o) ∧ m_LR α (xn ms.2.2.2) nL ms.1 L ∧ ∀ v ∈ ms.2.1, m_cv (xn ms.2.2.2) v
def m_At (n0 s0 nF sF nL : Nat) (pc : Nat) (ms : MS) : Prop :=
  xn ms.2.2.2 ≤ nF ∧ xs ms.2.2.2 ≤ sF ∧ ∀ (α : Nat → Nat) (H : Heap) (locs : List Loc) (L : Array Slot), m_Rp s D g A α0 n0 s0 nL α H locs L ms →
    W p l e R s m args below meth c H locs (xn ms.2.2.2 - n0) (xs ms.2.2.2 - s0) Q (F0 m pc L (ms.2.1.map (m_rv α)))
def m_Cx (d : Nat) (own nm : String) (cc : ByteArray) (nL n0 s0 nF sF : Nat) : Prop :=
  p.tables.exec = Jvm.exec ∧ c.code = cc ∧ c.maxLocals = nL ∧ s.vm.findClass own = some m.cls ∧ (∀ w ∈ lw_g, w.before args s = true) ∧ va_K D vwCl (m_tys g) s ∧ (∀ q, s.heap.size ≤ q → A q) ∧ meth.name = nm ∧ meth.locks = false
  ∧ d ≤ R.frames ∧ 200 * d ≤ R.locals ∧ nF - n0 ≤ R.cells ∧ sF - s0 ≤ R.slots ∧ 3 ≤ n0 ∧ m_Ex α0 A s s.heap
end MA
def m_G (d : Nat) (own nm : String) (cc : ByteArray) (nL n0 s0 nF sF : Nat) (Ω : Nat → MS → Prop) : Prop :=
  ∃ (p : Program) (l : Launch) (e : Env) (R : Room) (s : State) (m : MethodId) (args : Array Value) (below : List Frame) (meth : Method) (c : Code) (Q : State → Prop) (D : va_G) (g : m_g4) (A : Nat → Prop) (α0 : Nat → Nat),
    m_Cx p R s m args meth c D g A α0 d own nm cc nL n0 s0 nF sF ∧ Ω = m_At p l e R s m args below meth c Q D g A α0 n0 s0 nF sF nL
/-! numbers -/
theorem m_w_of (x : Int) : Int32.ofInt (m_w x) = Int32.ofInt x := by unfold m_w; exact Int32.ofInt_toInt _
theorem m_wl_of (x : Int) : Int64.ofInt (m_wl x) = Int64.ofInt x := by unfold m_wl; exact Int64.ofInt_toInt _
theorem m_cv_i (n : Nat) (x : Int32) : m_cv n (.inl x.toInt) := by
  have h1 := x.le_toInt; have h2 := x.toInt_lt
  exact ⟨by simpa using h1, by show x.toInt ≤ 2147483647; have : x.toInt < 2147483648 := by simpa using h2
                               omega⟩
theorem m_cv_l (n : Nat) (x : Int64) : m_cv n (.inr (.inl x.toInt)) := by
  have h1 := x.le_toInt; have h2 := x.toInt_lt
  exact ⟨by simpa using h1, by show x.toInt ≤ 9223372036854775807; have : x.toInt < 9223372036854775808 := by simpa using h2
                               omega⟩
theorem m_cv_w (n : Nat) (x : Int) : m_cv n (.inl (m_w x)) := m_cv_i n _
theorem m_cv_wl (n : Nat) (x : Int) : m_cv n (.inr (.inl (m_wl x))) := m_cv_l n _
theorem m_toInt {x : Int} (h : -2147483648 ≤ x ∧ x ≤ 2147483647) : (Int32.ofInt x).toInt = x := Int32.toInt_ofInt_of_le (by simpa using h.1) (by have := h.2; show x < 2 ^ 31; omega)
theorem m_toIntl {x : Int} (h : -9223372036854775808 ≤ x ∧ x ≤ 9223372036854775807) : (Int64.ofInt x).toInt = x := Int64.toInt_ofInt_of_le (by simpa using h.1) (by have := h.2; show x < 2 ^ 63; omega)
theorem m_w_id {x : Int} (h : -2147483648 ≤ x ∧ x ≤ 2147483647) : m_w x = x := m_toInt h
theorem m_wl_id {x : Int} (h : -9223372036854775808 ≤ x ∧ x ≤ 9223372036854775807) : m_wl x = x := m_toIntl h
theorem m_lt {x y : Int} (hx : m_cv 0 (.inl x)) (hy : m_cv 0 (.inl y)) : Int32.ofInt x < Int32.ofInt y ↔ x < y := by rw [Int32.lt_iff_toInt_lt, m_toInt hx, m_toInt hy]
theorem m_le {x y : Int} (hx : m_cv 0 (.inl x)) (hy : m_cv 0 (.inl y)) : Int32.ofInt x ≤ Int32.ofInt y ↔ x ≤ y := by rw [Int32.le_iff_toInt_le, m_toInt hx, m_toInt hy]
theorem m_eq {x y : Int} (hx : m_cv 0 (.inl x)) (hy : m_cv 0 (.inl y)) : Int32.ofInt x = Int32.ofInt y ↔ x = y := by rw [← Int32.toInt_inj, m_toInt hx, m_toInt hy]
theorem m_clamp {x : Int} (h : -2147483648 ≤ x ∧ x ≤ 2147483647) : (Int32.ofInt x).toNatClampNeg = x.toNat := Int32.toNatClampNeg_ofInt_of_le (by simpa using h.1) (by have := h.2; show x < 2 ^ 31; omega)
theorem m_in {x : Int} {n : Nat} (h : -2147483648 ≤ x ∧ x ≤ 2147483647) (h0 : 0 ≤ x) (h1 : x.toNat < n) : vp_in (Int32.ofInt x) n := by
  intro q
  rcases q with q | q
  · rw [show (0 : Int32) = Int32.ofInt 0 from rfl, m_lt h ⟨by decide, by decide⟩] at q
    omega
  · rw [m_clamp h] at q
    omega
theorem m_cv_mono {n n' : Nat} (h : n ≤ n') : ∀ {v : MV}, m_cv n v → m_cv n' v
  | .inl _, hv => hv
  | .inr (.inl _), hv => hv
  | .inr (.inr _), hv => Nat.lt_of_lt_of_le hv h
/-! cells -/
theorem m_ws_get {g : m_g4} {α : Nat → Nat} {N : NN} {X : MX} {o : Nat} (h1 : 3 ≤ o) (h2 : o < xn X) : (m_ws g α N X)[o - 3]? = some (α o, m_ce g α N X o) := by
  unfold m_ws
  rw [List.getElem?_map, List.getElem?_range (by omega)]
  simp [show o - 3 + 3 = o by omega]
theorem m_ws_len {g : m_g4} {α : Nat → Nat} {N : NN} {X : MX} : (m_ws g α N X).length = xn X - 3 := by simp [m_ws]
theorem m_ws_set {g : m_g4} {α : Nat → Nat} {N N' : NN} {X X' : MX} {o : Nat} (h1 : 3 ≤ o) (h2 : o < xn X) (hn : xn X' = xn X) (he : ∀ q, q ≠ o → m_ce g α N' X' q = m_ce g α N X q) : (m_ws g α N X).set (o - 3) (α o, m_ce g α N' X' o) = m_ws g α N' X' := by
  apply List.ext_getElem?
  intro i
  by_cases hi : i < xn X - 3
  · have e1 : (m_ws g α N' X')[i]? = some (α (i + 3), m_ce g α N' X' (i + 3)) := by
      have := m_ws_get (g := g) (α := α) (N := N') (X := X') (o := i + 3) (by omega) (by omega)
      simpa using this
    have e2 : (m_ws g α N X)[i]? = some (α (i + 3), m_ce g α N X (i + 3)) := by
      have := m_ws_get (g := g) (α := α) (N := N) (X := X) (o := i + 3) (by omega) (by omega)
      simpa using this
    rw [e1]
    by_cases hio : i = o - 3
    · subst hio
      rw [List.getElem?_set_self (by rw [m_ws_len]; omega)]
      simp [show o - 3 + 3 = o by omega]
    · rw [List.getElem?_set_ne (fun q => hio q.symm), e2, he (i + 3) (by omega)]
  · rw [List.getElem?_eq_none (by rw [List.length_set, m_ws_len]; omega), List.getElem?_eq_none (by rw [m_ws_len]; omega)]
theorem m_ws_push {g : m_g4} {α α' : Nat → Nat} {N N' : NN} {X X' : MX} (h3 : 3 ≤ xn X) (hn : xn X' = xn X + 1) (ha : ∀ q, q < xn X → α' q = α q) (he : ∀ q, q < xn X → m_ce g α' N' X' q = m_ce g α N X q) : m_ws g α' N' X' = m_ws g α N X ++ [(α' (xn X), m_ce g α' N' X' (xn X))] := by
  unfold m_ws
  rw [hn, show xn X + 1 - 3 = (xn X - 3) + 1 by omega, List.range_succ, List.map_append]
  congr 1
  · apply List.map_congr_left
    intro i hi
    have := List.mem_range.mp hi
    rw [ha _ (by omega), he _ (by omega)]
  · simp [show xn X - 3 + 3 = xn X by omega]
theorem m_RL.at {D : va_G} {g : m_g4} {α : Nat → Nat} {N : NN} {X : MX} {A : Nat → Prop} {H : Heap} (h : m_RL D g α N X A H) {o : Nat} (hk : (xK X o).1 ≠ 0) : 3 ≤ o ∧ o < xn X ∧ (m_ws g α N X)[o - 3]? = some (α o, m_ce g α N X o) := by
  obtain ⟨a, b⟩ := (h.2.1 o).mpr hk
  exact ⟨a, b, m_ws_get a b⟩
