/-! cells made by constructors: X as two lists -/
def lX (KL : List (Nat × Nat)) (RL : List (List Nat)) (s : Nat) : MX := (fun o k => (RL.getD o []).getD k 0, fun o => KL.getD o (0, 0), KL.length, s)
def rowS (r : Nat) : Nat → List Nat → List Nat
  | 0, l => r :: l.drop 1
  | k + 1, l => l.headD 0 :: rowS r k (l.drop 1)
theorem getD_app1 {α : Type} (l : List α) (x d : α) (a : Nat) : (l ++ [x]).getD a d = if a = l.length then x else l.getD a d := by
  rw [List.getD_eq_getElem?_getD, List.getD_eq_getElem?_getD]
  rcases Nat.lt_trichotomy a l.length with h | h | h
  · rw [List.getElem?_append_left h, if_neg (by omega)]
  · rw [h, List.getElem?_append_right (Nat.le_refl _), Nat.sub_self, if_pos rfl]; rfl
  · rw [if_neg (by omega), List.getElem?_eq_none (by rw [List.length_append]; show l.length + 1 ≤ a; omega), List.getElem?_eq_none (by omega)]
theorem getD_drop1 (l : List Nat) (j : Nat) : (l.drop 1).getD j 0 = l.getD (j + 1) 0 := by cases l <;> rfl
theorem rowS_getD (r : Nat) : ∀ (k : Nat) (l : List Nat) (j : Nat), (rowS r k l).getD j 0 = if j = k then r else l.getD j 0
  | 0, l, 0 => by rw [if_pos rfl]; rfl
  | 0, l, j + 1 => by
    rw [if_neg (by omega)]
    show (l.drop 1).getD j 0 = _
    exact getD_drop1 l j
  | k + 1, l, 0 => by
    rw [if_neg (by omega)]
    show l.headD 0 = l.getD 0 0
    cases l <;> rfl
  | k + 1, l, j + 1 => by
    show (rowS r k (l.drop 1)).getD j 0 = _
    rw [rowS_getD r k (l.drop 1) j, getD_drop1]
    by_cases h : j = k
    · rw [if_pos h, if_pos (by omega)]
    · rw [if_neg h, if_neg (by omega)]
theorem lX_new {KL : List (Nat × Nat)} {RL : List (List Nat)} {kd : Nat × Nat} {s sz : Nat} (h : KL.length = RL.length) : m_nX (lX KL RL s) kd sz = lX (KL ++ [kd]) (RL ++ [[]]) (s + sz) := by
  have e1 : (fun a b => if a = KL.length then 0 else (RL.getD a []).getD b 0) = fun o k => ((RL ++ [[]]).getD o []).getD k 0 := by
    funext a b
    rw [getD_app1, ← h]
    by_cases c : a = KL.length
    · rw [if_pos c, if_pos c]; rfl
    · rw [if_neg c, if_neg c]
  have e2 : (fun a => if a = KL.length then kd else KL.getD a (0, 0)) = fun o => (KL ++ [kd]).getD o (0, 0) := by
    funext a
    rw [getD_app1]
  have e3 : (KL ++ [kd]).length = KL.length + 1 := by rw [List.length_append]; rfl
  show ((fun a b => if a = KL.length then 0 else (RL.getD a []).getD b 0), (fun a => if a = KL.length then kd else KL.getD a (0, 0)), KL.length + 1, s + sz) = (_, _, _, _)
  rw [e1, e2, e3]
theorem lX_upR {KL : List (Nat × Nat)} {RL : List (List Nat)} {o k r s : Nat} (h : o < RL.length) : (m_upR (lX KL RL s).1 o k r, (lX KL RL s).2) = lX KL (RL.set o (rowS r k (RL.getD o []))) s := by
  have e1 : m_upR (fun o k => (RL.getD o []).getD k 0) o k r = fun a b => ((RL.set o (rowS r k (RL.getD o []))).getD a []).getD b 0 := by
    funext a b
    unfold m_upR
    by_cases c : a = o
    · rw [if_pos c, c]
      rw [show (RL.set o (rowS r k (RL.getD o []))).getD o [] = rowS r k (RL.getD o []) by rw [List.getD_eq_getElem?_getD, List.getElem?_set_self h]; rfl, rowS_getD]
    · rw [if_neg c]
      rw [show (RL.set o (rowS r k (RL.getD o []))).getD a [] = RL.getD a [] by rw [List.getD_eq_getElem?_getD, List.getElem?_set_ne (fun q => c q.symm), ← List.getD_eq_getElem?_getD]]
  show (m_upR (fun o k => (RL.getD o []).getD k 0) o k r, _) = _
  rw [e1]
  rfl
theorem nN_0 {N : NN} {n : Nat} (hz : ∀ j, N n j = 0) : m_nN N n = N := funext fun a => funext fun b => by
  unfold m_nN
  by_cases h : a = n
  · rw [if_pos h, h, hz]
  · rw [if_neg h]
theorem up_0 {N : NN} {o k : Nat} (h : N o k = 0) : m_up N o k 0 = N := funext fun a => funext fun b => by
  unfold m_up
  by_cases c : a = o
  · rw [if_pos c]
    by_cases e : b = k
    · rw [if_pos e, c, e, h]
    · rw [if_neg e]
  · rw [if_neg c]
section NR
variable {d : Nat} {own nm : String} {cc : ByteArray} {nL n0 s0 nF sF : Nat} {Ω : Nat → MS → Prop} {pc : Nat} {ls : ML} {st : List MV} {N : NN} {KL KL' : List (Nat × Nat)} {RL RL' : List (List Nat)} {s s' n : Nat}
theorem n_newI (hΩ : m_G d own nm cc nL n0 s0 nF sF Ω) {kI : Int} (k : Nat) (hd : decode cc pc = .ok (.newarray .int, 2)) (hkI : kI = (k : Int)) (hk : k ≤ 20000) (h1 : Cond.arrayClass .int ∈ lw_g) (hn : KL.length = n) (hr : RL.length = n) (hz : ∀ j, N n j = 0) (hK : KL ++ [(1, k)] = KL') (hR : RL ++ [[]] = RL') (hs : s + k = s') (kk : Ω (pc + 2) (ls, .inr (.inr n) :: st, N, lX KL' RL' s')) : Ω pc (ls, .inl kI :: st, N, lX KL RL s) := by
  subst hkI; subst hn; subst hK; subst hR; subst hs
  refine s_newI hΩ hd ⟨by omega, by omega⟩ h1 ?_
  show Ω (pc + 2) (ls, .inr (.inr KL.length) :: st, m_nN N KL.length, m_nX (lX KL RL s) (1, ((k : Int)).toNat) ((k : Int)).toNat)
  rw [nN_0 hz, Int.toNat_natCast, lX_new hr.symm]
  exact kk
theorem n_newJ (hΩ : m_G d own nm cc nL n0 s0 nF sF Ω) {kI : Int} (k : Nat) (hd : decode cc pc = .ok (.newarray .long, 2)) (hkI : kI = (k : Int)) (hk : k ≤ 20000) (h1 : Cond.arrayClass .long ∈ lw_g) (hn : KL.length = n) (hr : RL.length = n) (hz : ∀ j, N n j = 0) (hK : KL ++ [(2, k)] = KL') (hR : RL ++ [[]] = RL') (hs : s + k = s') (kk : Ω (pc + 2) (ls, .inr (.inr n) :: st, N, lX KL' RL' s')) : Ω pc (ls, .inl kI :: st, N, lX KL RL s) := by
  subst hkI; subst hn; subst hK; subst hR; subst hs
  refine s_newJ hΩ hd ⟨by omega, by omega⟩ h1 ?_
  show Ω (pc + 2) (ls, .inr (.inr KL.length) :: st, m_nN N KL.length, m_nX (lX KL RL s) (2, ((k : Int)).toNat) ((k : Int)).toNat)
  rw [nN_0 hz, Int.toNat_natCast, lX_new hr.symm]
  exact kk
theorem n_newZ (hΩ : m_G d own nm cc nL n0 s0 nF sF Ω) {kI : Int} (k : Nat) (hd : decode cc pc = .ok (.newarray .boolean, 2)) (hkI : kI = (k : Int)) (hk : k ≤ 20000) (h1 : Cond.arrayClass .boolean ∈ lw_g) (hn : KL.length = n) (hr : RL.length = n) (hz : ∀ j, N n j = 0) (hK : KL ++ [(3, k)] = KL') (hR : RL ++ [[]] = RL') (hs : s + k = s') (kk : Ω (pc + 2) (ls, .inr (.inr n) :: st, N, lX KL' RL' s')) : Ω pc (ls, .inl kI :: st, N, lX KL RL s) := by
  subst hkI; subst hn; subst hK; subst hR; subst hs
  refine s_newZ hΩ hd ⟨by omega, by omega⟩ h1 ?_
  show Ω (pc + 2) (ls, .inr (.inr KL.length) :: st, m_nN N KL.length, m_nX (lX KL RL s) (3, ((k : Int)).toNat) ((k : Int)).toNat)
  rw [nN_0 hz, Int.toNat_natCast, lX_new hr.symm]
  exact kk
theorem n_newT (hΩ : m_G d own nm cc nL n0 s0 nF sF Ω) {kI : Int} (k : Nat) {idx : Nat} (hd : decode cc pc = .ok (.anewarray idx, 3)) (hkI : kI = (k : Int)) (hk : k ≤ 20000) (h1 : Cond.classLink own idx RX8 ∈ lw_g) (hn : KL.length = n) (hr : RL.length = n) (hz : ∀ j, N n j = 0) (hK : KL ++ [(4, k)] = KL') (hR : RL ++ [[]] = RL') (hs : s + k = s') (kk : Ω (pc + 3) (ls, .inr (.inr n) :: st, N, lX KL' RL' s')) : Ω pc (ls, .inl kI :: st, N, lX KL RL s) := by
  subst hkI; subst hn; subst hK; subst hR; subst hs
  refine s_newT hΩ hd ⟨by omega, by omega⟩ h1 ?_
  show Ω (pc + 3) (ls, .inr (.inr KL.length) :: st, m_nN N KL.length, m_nX (lX KL RL s) (4, ((k : Int)).toNat) ((k : Int)).toNat)
  rw [nN_0 hz, Int.toNat_natCast, lX_new hr.symm]
  exact kk
theorem n_new (hΩ : m_G d own nm cc nL n0 s0 nF sF Ω) {idx ci nf : Nat} {C : String} {T : u_T} (hd : decode cc pc = .ok (.new idx, 3)) (hc : vwCl[ci]? = some (C, T, nf)) (hin : ∀ w ∈ u_ws C T nf, w ∈ lw_g) (hnf : m_nf ci = nf) (hty : ∀ j, j < nf → parseFieldDescriptor (T j).2.2.1 = some (m_ty ci j)) (htk : ∀ j, j < nf → m_tok (m_ty ci j) = true) (h1 : Cond.classLink own idx C ∈ lw_g) (h2 : Cond.instantiable C nf ∈ lw_g) (h3 : Cond.initialized C ∈ lw_g) (hn : KL.length = n) (hr : RL.length = n) (hz : ∀ j, N n j = 0) (hK : KL ++ [(ci + 5, 0)] = KL') (hR : RL ++ [[]] = RL') (hs : s + nf = s') (kk : Ω (pc + 3) (ls, .inr (.inr n) :: st, N, lX KL' RL' s')) : Ω pc (ls, st, N, lX KL RL s) := by
  subst hn; subst hK; subst hR; subst hs
  refine s_new hΩ hd hc hin hnf hty htk h1 h2 h3 ?_
  show Ω (pc + 3) (ls, .inr (.inr KL.length) :: st, m_nN N KL.length, m_nX (lX KL RL s) (ci + 5, 0) nf)
  rw [nN_0 hz, lX_new hr.symm]
  exact kk
theorem n_putr (hΩ : m_G d own nm cc nL n0 s0 nF sF Ω) {o idx ci k r : Nat} {fin : Bool} (hd : decode cc pc = .ok (.putfield idx, 3)) (hf : m_FL own idx ci k fin) (hfin : fin = true → nm = "<init>") (hK : (KL.getD o (0, 0)).1 = ci + 5) (ht : m_isr (m_ty ci k) = true) (ho : o < RL.length) (hR : RL.set o (rowS r k (RL.getD o [])) = RL') (kk : Ω (pc + 3) (ls, st, N, lX KL RL' s)) : Ω pc (ls, .inr (.inr r) :: .inr (.inr o) :: st, N, lX KL RL s) := by
  subst hR
  refine s_putr hΩ hd hf hfin hK ht ?_
  rw [lX_upR ho]
  exact kk
theorem n_put0 (hΩ : m_G d own nm cc nL n0 s0 nF sF Ω) {X : MX} {o idx ci k : Nat} {fin : Bool} (hd : decode cc pc = .ok (.putfield idx, 3)) (hf : m_FL own idx ci k fin) (hfin : fin = true → nm = "<init>") (hK : (xK X o).1 = ci + 5) (ht : m_ty ci k = .int) (h0 : N o k = 0) (kk : Ω (pc + 3) (ls, st, N, X)) : Ω pc (ls, .inl 0 :: .inr (.inr o) :: st, N, X) := by
  refine s_puti hΩ hd hf hfin hK ht ?_
  rw [up_0 h0]; exact kk
theorem n_put0z (hΩ : m_G d own nm cc nL n0 s0 nF sF Ω) {X : MX} {o idx ci k : Nat} {fin : Bool} (hd : decode cc pc = .ok (.putfield idx, 3)) (hf : m_FL own idx ci k fin) (hfin : fin = true → nm = "<init>") (hK : (xK X o).1 = ci + 5) (ht : m_ty ci k = .boolean) (h0 : N o k = 0) (kk : Ω (pc + 3) (ls, st, N, X)) : Ω pc (ls, .inl 0 :: .inr (.inr o) :: st, N, X) := by
  refine s_putz hΩ hd hf hfin hK ht ⟨by omega, by omega⟩ ?_
  rw [up_0 h0]; exact kk
theorem n_put0l (hΩ : m_G d own nm cc nL n0 s0 nF sF Ω) {X : MX} {o idx ci k : Nat} {fin : Bool} (hd : decode cc pc = .ok (.putfield idx, 3)) (hf : m_FL own idx ci k fin) (hfin : fin = true → nm = "<init>") (hK : (xK X o).1 = ci + 5) (ht : m_ty ci k = .long) (h0 : N o k = 0) (kk : Ω (pc + 3) (ls, st, N, X)) : Ω pc (ls, .inr (.inl 0) :: .inr (.inr o) :: st, N, X) := by
  refine s_putl hΩ hd hf hfin hK ht ?_
  rw [up_0 h0]; exact kk
end NR
