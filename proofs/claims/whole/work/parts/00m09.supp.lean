/-! loops; guards; the cells that stand from the start on -/
def m_sub : ML → ML → Prop
  | [], _ => True
  | none :: a, _ :: b => m_sub a b
  | some v :: a, some w :: b => v = w ∧ m_sub a b
  | _, _ => False
theorem m_sub_get : ∀ {a b : ML}, m_sub a b → ∀ (i : Nat) (v : MV), a[i]? = some (some v) → b[i]? = some (some v)
  | [], _, _, i, v, h => by cases h
  | none :: a, [], hs, i, v, h => hs.elim
  | none :: a, w :: b, hs, i, v, h => by
    cases i with
    | zero => cases h
    | succ i => exact m_sub_get (a := a) (b := b) hs i v h
  | some x :: a, [], hs, i, v, h => hs.elim
  | some x :: a, none :: b, hs, i, v, h => hs.elim
  | some x :: a, some w :: b, hs, i, v, h => by
    obtain ⟨e, hs⟩ := hs
    subst e
    cases i with
    | zero => exact h
    | succ i => exact m_sub_get (a := a) (b := b) hs i v h
theorem m_k1 {X : MX} {o : Nat} (h : (xK X o).1 = 1) : xK X o = (1, (xK X o).2) := Prod.ext h rfl
theorem m_k1f {X : MX} {o n : Nat} (h : xK X o = (1, n)) : (xK X o).1 = 1 := by rw [h]
def SKl : List (Nat × Nat) := [(0, 0), (0, 0), (0, 0), (16, 0), (15, 0), (1, 266), (4, 6), (15, 0), (1, 266), (4, 6), (15, 0), (1, 266), (4, 6), (9, 0), (1, 3056), (1, 16), (10, 0), (1, 400), (1, 401), (1, 401), (1, 401), (13, 0), (1, 400), (1, 400), (1, 96), (7, 0), (1, 9), (1, 32), (1, 5), (5, 0), (15, 0), (1, 266), (4, 6), (8, 0), (15, 0), (1, 266), (4, 6), (9, 0), (1, 3056), (1, 16), (1, 32), (1, 32), (6, 0), (1, 12), (1, 12), (1, 12), (1, 2), (1, 2), (12, 0), (1, 10), (1, 10), (1, 90), (1, 9), (14, 0), (1, 36), (1, 36), (1, 6), (1, 6), (11, 0), (3, 576), (1, 384), (1, 16), (1, 4), (1, 7), (17, 0), (1, 7), (1, 5670), (1, 11340), (3, 2), (1, 4860), (1, 16), (1, 4320), (1, 16), (1, 400), (1, 96), (1, 400), (1, 400), (1, 400), (1, 400), (2, 9), (2, 7), (2, 13), (2, 13), (2, 400), (1, 12), (1, 12), (1, 12), (3, 4096), (1, 2), (1, 100), (1, 10), (1, 90), (1, 5), (1, 6), (1, 6), (1, 6), (1, 6), (3, 576), (1, 16), (1, 3), (1, 3), (1, 3), (1, 96), (1, 42)]
def SRl : List (List Nat) := [[], [], [], [4, 7, 10, 13, 16, 25, 29, 33, 42, 48, 53, 58, 63, 0, 0], [5, 6, 0], [], [], [8, 9, 0], [], [], [11, 12, 0], [], [], [14, 15, 0, 0], [], [], [17, 18, 19, 20, 21, 0, 0, 0, 0, 0, 0], [], [], [], [], [22, 23, 24, 0, 0], [], [], [], [26, 27, 28], [], [], [], [25, 30, 0], [31, 32, 0], [], [], [29, 34, 37, 40, 41, 0, 0, 0], [35, 36, 0], [], [], [38, 39, 0, 0], [], [], [], [], [25, 43, 44, 45, 46, 47], [], [], [], [], [], [25, 49, 50, 51, 52, 0, 0, 0], [], [], [], [], [54, 55, 56, 57, 0, 0, 0, 0, 0], [], [], [], [], [25, 59, 60, 61, 62, 0, 0, 0, 0], [], [], [], [], [], [0, 0, 65, 66, 67, 68, 69, 70, 0, 71, 72, 0, 73, 0, 0, 0, 0, 0, 0, 0, 0, 0, 74, 0, 75, 76, 0, 77, 78, 0, 0, 79, 80, 0, 81, 82, 83, 0, 0, 0, 0, 84, 85, 86, 87, 88, 89, 90, 91, 92, 93, 94, 95, 0, 0, 0, 0, 0, 96, 97, 98, 99, 100, 101, 0, 102, 0, 0, 0, 0, 0, 103, 0], [], [], [], [], [], [], [], [], [], [], [], [], [], [], [], [], [], [], [], [], [], [], [], [], [], [], [], [], [], [], [], [], [], [], [], [], [], [], []]
def SK (o : Nat) : Nat × Nat := SKl.getD o (0, 0)
def SR (o k : Nat) : Nat := (SRl.getD o []).getD k 0
def m_Sk (X : MX) : Prop := 104 ≤ xn X ∧ (∀ o, o < 104 → xK X o = SK o) ∧ ∀ o k, o < 104 → xR X o k = SR o k
theorem sk_K {X : MX} (h : m_Sk X) (o : Nat) {k n : Nat} (e : (Nat.blt o 104, SK o) = (true, k, n)) : xK X o = (k, n) := by
  have h1 : Nat.blt o 104 = true := congrArg (fun q => q.1) e
  rw [h.2.1 o (Nat.le_of_ble_eq_true h1)]
  exact congrArg (fun q => q.2) e
theorem sk_k {X : MX} (h : m_Sk X) (o : Nat) {k : Nat} (e : (Nat.blt o 104, (SK o).1) = (true, k)) : (xK X o).1 = k := by
  have h1 : Nat.blt o 104 = true := congrArg (fun q => q.1) e
  rw [h.2.1 o (Nat.le_of_ble_eq_true h1)]
  exact congrArg (fun q => q.2) e
theorem sk_R {X : MX} (h : m_Sk X) (o k : Nat) {r : Nat} (e : (Nat.blt o 104, SR o k) = (true, r)) : xR X o k = r := by
  have h1 : Nat.blt o 104 = true := congrArg (fun q => q.1) e
  rw [h.2.2 o k (Nat.le_of_ble_eq_true h1)]
  exact congrArg (fun q => q.2) e
theorem sk_W4 {X : MX} (h : m_Sk X) : m_isW X 4 := ⟨sk_k h 4 rfl, sk_R h 4 0 rfl, sk_R h 4 1 rfl, sk_K h 5 rfl, sk_K h 6 rfl⟩
theorem sk_W7 {X : MX} (h : m_Sk X) : m_isW X 7 := ⟨sk_k h 7 rfl, sk_R h 7 0 rfl, sk_R h 7 1 rfl, sk_K h 8 rfl, sk_K h 9 rfl⟩
theorem sk_W10 {X : MX} (h : m_Sk X) : m_isW X 10 := ⟨sk_k h 10 rfl, sk_R h 10 0 rfl, sk_R h 10 1 rfl, sk_K h 11 rfl, sk_K h 12 rfl⟩
theorem sk_W30 {X : MX} (h : m_Sk X) : m_isW X 30 := ⟨sk_k h 30 rfl, sk_R h 30 0 rfl, sk_R h 30 1 rfl, sk_K h 31 rfl, sk_K h 32 rfl⟩
theorem sk_W34 {X : MX} (h : m_Sk X) : m_isW X 34 := ⟨sk_k h 34 rfl, sk_R h 34 0 rfl, sk_R h 34 1 rfl, sk_K h 35 rfl, sk_K h 36 rfl⟩
theorem sk_P13 {X : MX} (h : m_Sk X) : m_isP X 13 := ⟨sk_k h 13 rfl, sk_R h 13 0 rfl, sk_R h 13 1 rfl, sk_K h 14 rfl, sk_K h 15 rfl⟩
theorem sk_P37 {X : MX} (h : m_Sk X) : m_isP X 37 := ⟨sk_k h 37 rfl, sk_R h 37 0 rfl, sk_R h 37 1 rfl, sk_K h 38 rfl, sk_K h 39 rfl⟩
theorem sk_T21 {X : MX} (h : m_Sk X) : m_isT X 21 := ⟨sk_k h 21 rfl, sk_R h 21 0 rfl, sk_R h 21 1 rfl, sk_R h 21 2 rfl, sk_k h 22 rfl, sk_k h 23 rfl, sk_k h 24 rfl⟩
section MW
variable {d : Nat} {own nm : String} {cc : ByteArray} {nL n0 s0 nF sF : Nat} {Ω : Nat → MS → Prop} {pc : Nat} {ls : ML} {st : List MV} {N : NN} {X : MX}
theorem m_weak {ls1 : ML} (hG : m_G d own nm cc nL n0 s0 nF sF Ω) (hs : m_sub ls1 ls) (kk : Ω pc (ls1, st, N, X)) : Ω pc (ls, st, N, X) := by
  obtain ⟨p, l, e, R, s, m, args, below, meth, c, Q, D, g, A, α0, -, rfl⟩ := hG
  obtain ⟨k1, k2, k3⟩ := kk
  refine ⟨k1, k2, fun α H locs L hr => ?_⟩
  obtain ⟨r1, r2, r3, r4, r5, r6, r7⟩ := hr
  exact k3 α H locs L ⟨r1, r2, r3, r4, r5, ⟨r6.1, r6.2.1, fun i v h => r6.2.2 i v (m_sub_get hs i v h)⟩, r7⟩
theorem s_ialdj (hΩ : m_G d own nm cc nL n0 s0 nF sF Ω) {o n j : Nat} {i : Int} (hd : decode cc pc = .ok (.iaload, 1)) (hK : xK X o = (1, n)) (hi : 0 ≤ i ∧ i < (n : Int)) (hj : i.toNat = j) (kk : Ω (pc + 1) (ls, .inl (N o j) :: st, N, X)) : Ω pc (ls, .inl i :: .inr (.inr o) :: st, N, X) := by
  subst hj; exact s_iald hΩ hd hK hi kk
theorem s_laldj (hΩ : m_G d own nm cc nL n0 s0 nF sF Ω) {o n j : Nat} {i : Int} (hd : decode cc pc = .ok (.laload, 1)) (hK : xK X o = (2, n)) (hi : 0 ≤ i ∧ i < (n : Int)) (hj : i.toNat = j) (kk : Ω (pc + 1) (ls, .inr (.inl (N o j)) :: st, N, X)) : Ω pc (ls, .inl i :: .inr (.inr o) :: st, N, X) := by
  subst hj; exact s_lald hΩ hd hK hi kk
theorem s_zaldj (hΩ : m_G d own nm cc nL n0 s0 nF sF Ω) {o n j : Nat} {i : Int} (hd : decode cc pc = .ok (.baload, 1)) (hK : xK X o = (3, n)) (hi : 0 ≤ i ∧ i < (n : Int)) (hj : i.toNat = j) (kk : Ω (pc + 1) (ls, .inl (N o j) :: st, N, X)) : Ω pc (ls, .inl i :: .inr (.inr o) :: st, N, X) := by
  subst hj; exact s_zald hΩ hd hK hi kk
theorem s_aaldj (hΩ : m_G d own nm cc nL n0 s0 nF sF Ω) {o n j : Nat} {i : Int} (hd : decode cc pc = .ok (.aaload, 1)) (hK : xK X o = (4, n)) (hi : 0 ≤ i ∧ i < (n : Int)) (hj : i.toNat = j) (kk : Ω (pc + 1) (ls, .inr (.inr (N o j).toNat) :: st, N, X)) : Ω pc (ls, .inl i :: .inr (.inr o) :: st, N, X) := by
  subst hj; exact s_aald hΩ hd hK hi kk
theorem s_iastj (hΩ : m_G d own nm cc nL n0 s0 nF sF Ω) {o n j : Nat} {i x : Int} (hd : decode cc pc = .ok (.iastore, 1)) (hK : xK X o = (1, n)) (hi : 0 ≤ i ∧ i < (n : Int)) (hj : i.toNat = j) (kk : Ω (pc + 1) (ls, st, m_up N o j x, X)) : Ω pc (ls, .inl x :: .inl i :: .inr (.inr o) :: st, N, X) := by
  subst hj; exact s_iast hΩ hd hK hi kk
theorem s_lastj (hΩ : m_G d own nm cc nL n0 s0 nF sF Ω) {o n j : Nat} {i x : Int} (hd : decode cc pc = .ok (.lastore, 1)) (hK : xK X o = (2, n)) (hi : 0 ≤ i ∧ i < (n : Int)) (hj : i.toNat = j) (kk : Ω (pc + 1) (ls, st, m_up N o j x, X)) : Ω pc (ls, .inr (.inl x) :: .inl i :: .inr (.inr o) :: st, N, X) := by
  subst hj; exact s_last hΩ hd hK hi kk
theorem s_zastj (hΩ : m_G d own nm cc nL n0 s0 nF sF Ω) {o n j : Nat} {i x : Int} (hd : decode cc pc = .ok (.bastore, 1)) (hK : xK X o = (3, n)) (hi : 0 ≤ i ∧ i < (n : Int)) (hj : i.toNat = j) (hz : 0 ≤ x ∧ x ≤ 1) (kk : Ω (pc + 1) (ls, st, m_up N o j x, X)) : Ω pc (ls, .inl x :: .inl i :: .inr (.inr o) :: st, N, X) := by
  subst hj; exact s_zast hΩ hd hK hi hz kk
theorem s_alen1j (hΩ : m_G d own nm cc nL n0 s0 nF sF Ω) {o n : Nat} {v : Int} (hd : decode cc pc = .ok (.arraylength, 1)) (hK : xK X o = (1, n)) (hn : (n : Int) ≤ 2147483647) (hv : (n : Int) = v) (kk : Ω (pc + 1) (ls, .inl v :: st, N, X)) : Ω pc (ls, .inr (.inr o) :: st, N, X) := by
  subst hv; exact s_alen1 hΩ hd hK hn kk
theorem s_alen3j (hΩ : m_G d own nm cc nL n0 s0 nF sF Ω) {o n : Nat} {v : Int} (hd : decode cc pc = .ok (.arraylength, 1)) (hK : xK X o = (3, n)) (hn : (n : Int) ≤ 2147483647) (hv : (n : Int) = v) (kk : Ω (pc + 1) (ls, .inl v :: st, N, X)) : Ω pc (ls, .inr (.inr o) :: st, N, X) := by
  subst hv; exact s_alen3 hΩ hd hK hn kk
theorem s_aastj (hΩ : m_G d own nm cc nL n0 s0 nF sF Ω) {o n r j : Nat} {i : Int} (hd : decode cc pc = .ok (.aastore, 1)) (hK : xK X o = (4, n)) (hi : 0 ≤ i ∧ i < (n : Int)) (hj : i.toNat = j) (hr : r = 0 ∨ (xK X r).1 = 13) (kk : Ω (pc + 1) (ls, st, m_up N o j (r : Int), X)) : Ω pc (ls, .inr (.inr r) :: .inl i :: .inr (.inr o) :: st, N, X) := by
  subst hj; exact s_aast hΩ hd hK hi hr kk
end MW
theorem lk_tens : Cond.fieldLink RX12 527 RX12 "TENS" "[I" ∈ lw_g := lw_g_at 2046 (by decide +kernel) rfl
theorem lk_max_s : Cond.static Lib.Math.max.name ∈ lw_g := lw_g_at 216 (by decide +kernel) rfl
theorem lk_max_c : Cond.code Lib.Math.max.name Lib.Math.max.code 2 (some .int) ∈ lw_g := lw_g_at 217 (by decide +kernel) rfl
theorem lk_min_s : Cond.static Lib.Math.min.name ∈ lw_g := lw_g_at 594 (by decide +kernel) rfl
theorem lk_min_c : Cond.code Lib.Math.min.name Lib.Math.min.code 2 (some .int) ∈ lw_g := lw_g_at 595 (by decide +kernel) rfl
theorem lk_math : Cond.initialized "java/lang/Math" ∈ lw_g := lw_g_at 136 (by decide +kernel) rfl
theorem lk_sys : Cond.initialized "java/lang/System" ∈ lw_g := lw_g_at 149 (by decide +kernel) rfl
theorem lk_cpy_n : Cond.native arraycopyName ∈ lw_g := lw_g_at 870 (by decide +kernel) rfl
theorem lk_cpy_s : Cond.static arraycopyName ∈ lw_g := lw_g_at 869 (by decide +kernel) rfl
