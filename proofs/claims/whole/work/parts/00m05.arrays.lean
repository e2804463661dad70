/-! arrays of the small machine, and what is new -/
section MAr
variable {d : Nat} {own nm : String} {cc : ByteArray} {nL n0 s0 nF sF : Nat} {Ω : Nat → MS → Prop} {pc : Nat} {ls : ML} {st : List MV} {N : NN} {X : MX}
theorem m_ro {α : Nat → Nat} {o : Nat} (h : 3 ≤ o) : m_rv α (.inr (.inr o)) = .ref (α o) := by show (if o = 0 then Value.null else .ref (α o)) = _; rw [if_neg (by omega)]
theorem m_lt32 {i : Int} {n : Nat} (h : 0 ≤ i ∧ i < (n : Int)) : i.toNat < n := by omega
theorem s_iald (hΩ : m_G d own nm cc nL n0 s0 nF sF Ω) {o n : Nat} {i : Int} (hd : decode cc pc = .ok (.iaload, 1)) (hK : xK X o = (1, n)) (hi : 0 ≤ i ∧ i < (n : Int)) (kk : Ω (pc + 1) (ls, .inl (N o i.toNat) :: st, N, X)) : Ω pc (ls, .inl i :: .inr (.inr o) :: st, N, X) := by
  obtain ⟨p, l, e, R, s, m, args, below, meth, c, Q, D, g, A, α0, ⟨hx, hb, -, hown, hts, hKK, hA, hnm, -, -, -, hRc, hRs, -⟩, rfl⟩ := hΩ
  obtain ⟨k1, k2, k3⟩ := kk
  refine ⟨k1, k2, fun α H locs L hr => ?_⟩
  obtain ⟨r1, r2, r3, r4, r5, r6, r7⟩ := hr
  dsimp only at r1 r2 r3 r4 r5 r6 r7 ⊢
  obtain ⟨a1, a2, a3⟩ := r4.at (o := o) (by rw [hK]; simp)
  rw [m_ce_1 hK] at a3
  have hi32 := (m_c1 r7).1
  have hW := k3 α H locs L ⟨r1, r2, r3, r4, r5, r6, m_cp (by have := r4.2.2.1 o i.toNat; rw [m_et_1 hK] at this; exact this) (m_c1 (m_c1 r7).2).2⟩
  show W _ _ _ _ _ _ _ _ _ _ _ _ _ _ _ (F0 m pc L (m_rv α (.inl i) :: m_rv α (.inr (.inr o)) :: st.map (m_rv α)))
  rw [m_ro a1]
  exact va_iald hx hb hKK r4.2.2.2.2.1 (o - 3) 0 a3 rfl (m_in hi32 hi.1 (m_lt32 hi)) hd (by rw [m_clamp hi32]; exact hW)
theorem s_lald (hΩ : m_G d own nm cc nL n0 s0 nF sF Ω) {o n : Nat} {i : Int} (hd : decode cc pc = .ok (.laload, 1)) (hK : xK X o = (2, n)) (hi : 0 ≤ i ∧ i < (n : Int)) (kk : Ω (pc + 1) (ls, .inr (.inl (N o i.toNat)) :: st, N, X)) : Ω pc (ls, .inl i :: .inr (.inr o) :: st, N, X) := by
  obtain ⟨p, l, e, R, s, m, args, below, meth, c, Q, D, g, A, α0, ⟨hx, hb, -, hown, hts, hKK, hA, hnm, -, -, -, hRc, hRs, -⟩, rfl⟩ := hΩ
  obtain ⟨k1, k2, k3⟩ := kk
  refine ⟨k1, k2, fun α H locs L hr => ?_⟩
  obtain ⟨r1, r2, r3, r4, r5, r6, r7⟩ := hr
  dsimp only at r1 r2 r3 r4 r5 r6 r7 ⊢
  obtain ⟨a1, a2, a3⟩ := r4.at (o := o) (by rw [hK]; simp)
  rw [m_ce_2 hK] at a3
  have hi32 := (m_c1 r7).1
  have hW := k3 α H locs L ⟨r1, r2, r3, r4, r5, r6, m_cp (by have := r4.2.2.1 o i.toNat; rw [m_et_2 hK] at this; exact this) (m_c1 (m_c1 r7).2).2⟩
  show W _ _ _ _ _ _ _ _ _ _ _ _ _ _ _ (F0 m pc L (m_rv α (.inl i) :: m_rv α (.inr (.inr o)) :: st.map (m_rv α)))
  rw [m_ro a1]
  exact va_lald hx hb hKK r4.2.2.2.2.1 (o - 3) 1 a3 rfl (m_in hi32 hi.1 (m_lt32 hi)) hd (by rw [m_clamp hi32]; exact hW)
theorem s_zald (hΩ : m_G d own nm cc nL n0 s0 nF sF Ω) {o n : Nat} {i : Int} (hd : decode cc pc = .ok (.baload, 1)) (hK : xK X o = (3, n)) (hi : 0 ≤ i ∧ i < (n : Int)) (kk : Ω (pc + 1) (ls, .inl (N o i.toNat) :: st, N, X)) : Ω pc (ls, .inl i :: .inr (.inr o) :: st, N, X) := by
  obtain ⟨p, l, e, R, s, m, args, below, meth, c, Q, D, g, A, α0, ⟨hx, hb, -, hown, hts, hKK, hA, hnm, -, -, -, hRc, hRs, -⟩, rfl⟩ := hΩ
  obtain ⟨k1, k2, k3⟩ := kk
  refine ⟨k1, k2, fun α H locs L hr => ?_⟩
  obtain ⟨r1, r2, r3, r4, r5, r6, r7⟩ := hr
  dsimp only at r1 r2 r3 r4 r5 r6 r7 ⊢
  obtain ⟨a1, a2, a3⟩ := r4.at (o := o) (by rw [hK]; simp)
  rw [m_ce_3 hK] at a3
  have hi32 := (m_c1 r7).1
  have hW := k3 α H locs L ⟨r1, r2, r3, r4, r5, r6, m_cp (by have := r4.2.2.1 o i.toNat; rw [m_et_3 hK] at this; exact ⟨by have := this.1; omega, by have := this.2; omega⟩) (m_c1 (m_c1 r7).2).2⟩
  show W _ _ _ _ _ _ _ _ _ _ _ _ _ _ _ (F0 m pc L (m_rv α (.inl i) :: m_rv α (.inr (.inr o)) :: st.map (m_rv α)))
  rw [m_ro a1]
  exact va_zald hx hb hKK r4.2.2.2.2.1 (o - 3) 2 a3 rfl (m_in hi32 hi.1 (m_lt32 hi)) hd (by rw [m_clamp hi32]; exact hW)
theorem s_aald (hΩ : m_G d own nm cc nL n0 s0 nF sF Ω) {o n : Nat} {i : Int} (hd : decode cc pc = .ok (.aaload, 1)) (hK : xK X o = (4, n)) (hi : 0 ≤ i ∧ i < (n : Int)) (kk : Ω (pc + 1) (ls, .inr (.inr (N o i.toNat).toNat) :: st, N, X)) : Ω pc (ls, .inl i :: .inr (.inr o) :: st, N, X) := by
  obtain ⟨p, l, e, R, s, m, args, below, meth, c, Q, D, g, A, α0, ⟨hx, hb, -, hown, hts, hKK, hA, hnm, -, -, -, hRc, hRs, -⟩, rfl⟩ := hΩ
  obtain ⟨k1, k2, k3⟩ := kk
  refine ⟨k1, k2, fun α H locs L hr => ?_⟩
  obtain ⟨r1, r2, r3, r4, r5, r6, r7⟩ := hr
  dsimp only at r1 r2 r3 r4 r5 r6 r7 ⊢
  obtain ⟨a1, a2, a3⟩ := r4.at (o := o) (by rw [hK]; simp)
  rw [m_ce_4 hK] at a3
  have hi32 := (m_c1 r7).1
  have hW := k3 α H locs L ⟨r1, r2, r3, r4, r5, r6, m_cp (by have := r4.2.2.1 o i.toNat; rw [m_et_4 hK] at this; exact this) (m_c1 (m_c1 r7).2).2⟩
  show W _ _ _ _ _ _ _ _ _ _ _ _ _ _ _ (F0 m pc L (m_rv α (.inl i) :: m_rv α (.inr (.inr o)) :: st.map (m_rv α)))
  rw [m_ro a1]
  exact va_aldq hx hb hKK r4.2.2.2.2.1 (o - 3) 3 a3 rfl (m_in hi32 hi.1 (m_lt32 hi)) hd (by
    rw [m_clamp hi32]
    have e1 : va_rf (if (N o i.toNat).toNat = 0 then none else some (α (N o i.toNat).toNat)) = m_rv α (.inr (.inr (N o i.toNat).toNat)) := by
      show _ = (if (N o i.toNat).toNat = 0 then Value.null else .ref (α (N o i.toNat).toNat))
      split <;> rfl
    rw [e1]; exact hW)
theorem s_iast (hΩ : m_G d own nm cc nL n0 s0 nF sF Ω) {o n : Nat} {i x : Int} (hd : decode cc pc = .ok (.iastore, 1)) (hK : xK X o = (1, n)) (hi : 0 ≤ i ∧ i < (n : Int)) (kk : Ω (pc + 1) (ls, st, m_up N o i.toNat x, X)) : Ω pc (ls, .inl x :: .inl i :: .inr (.inr o) :: st, N, X) := by
  obtain ⟨p, l, e, R, s, m, args, below, meth, c, Q, D, g, A, α0, ⟨hx, hb, -, hown, hts, hKK, hA, hnm, -, -, -, hRc, hRs, -⟩, rfl⟩ := hΩ
  obtain ⟨k1, k2, k3⟩ := kk
  refine ⟨k1, k2, fun α H locs L hr => ?_⟩
  obtain ⟨r1, r2, r3, r4, r5, r6, r7⟩ := hr
  dsimp only at r1 r2 r3 r4 r5 r6 r7 ⊢
  have hk0 : (xK X o).1 ≠ 0 := by rw [hK]; simp
  obtain ⟨a1, a2, a3⟩ := r4.at hk0
  rw [m_ce_1 hK] at a3
  have hi32 := (m_c1 (m_c1 r7).2).1
  show W _ _ _ _ _ _ _ _ _ _ _ _ _ _ _ (F0 m pc L (m_rv α (.inl x) :: m_rv α (.inl i) :: m_rv α (.inr (.inr o)) :: st.map (m_rv α)))
  rw [m_ro a1]
  refine va_iast hx hb hKK r4.2.2.2.2.1 r4.2.2.2.2.2 r3 (o - 3) 0 a3 rfl (m_in hi32 hi.1 (m_lt32 hi)) hd (fun H1 locs1 hP1 hD1 hS1 => ?_)
  have e1 : m_ce g α (m_up N o i.toNat x) X o = .inl (g.1, n, .inl (upd (fun j => Int32.ofInt (N o j)) (Int32.ofInt i).toNatClampNeg (Int32.ofInt x))) := by rw [m_ce_1 hK]; congr 4; funext j; rw [m_clamp hi32]; unfold upd m_up; by_cases hj : j = i.toNat <;> simp [hj]
  rw [← e1] at hP1 hD1
  exact k3 α H1 locs1 L ⟨r1, r2, hS1, r4.put (N' := m_up N o i.toNat x) (k := i.toNat) (X' := X) hk0 (fun a b h => m_up_ne h) (fun b h => m_up_off h) (by rw [m_et_1 hK, m_up_same]; exact (m_c1 r7).1) rfl (fun _ _ _ => rfl) r4.2.2.2.1 hP1 hD1, r5, r6, (m_c1 (m_c1 (m_c1 r7).2).2).2⟩
theorem s_last (hΩ : m_G d own nm cc nL n0 s0 nF sF Ω) {o n : Nat} {i x : Int} (hd : decode cc pc = .ok (.lastore, 1)) (hK : xK X o = (2, n)) (hi : 0 ≤ i ∧ i < (n : Int)) (kk : Ω (pc + 1) (ls, st, m_up N o i.toNat x, X)) : Ω pc (ls, .inr (.inl x) :: .inl i :: .inr (.inr o) :: st, N, X) := by
  obtain ⟨p, l, e, R, s, m, args, below, meth, c, Q, D, g, A, α0, ⟨hx, hb, -, hown, hts, hKK, hA, hnm, -, -, -, hRc, hRs, -⟩, rfl⟩ := hΩ
  obtain ⟨k1, k2, k3⟩ := kk
  refine ⟨k1, k2, fun α H locs L hr => ?_⟩
  obtain ⟨r1, r2, r3, r4, r5, r6, r7⟩ := hr
  dsimp only at r1 r2 r3 r4 r5 r6 r7 ⊢
  have hk0 : (xK X o).1 ≠ 0 := by rw [hK]; simp
  obtain ⟨a1, a2, a3⟩ := r4.at hk0
  rw [m_ce_2 hK] at a3
  have hi32 := (m_c1 (m_c1 r7).2).1
  show W _ _ _ _ _ _ _ _ _ _ _ _ _ _ _ (F0 m pc L (m_rv α (.inr (.inl x)) :: m_rv α (.inl i) :: m_rv α (.inr (.inr o)) :: st.map (m_rv α)))
  rw [m_ro a1]
  refine va_last hx hb hKK r4.2.2.2.2.1 r4.2.2.2.2.2 r3 (o - 3) 1 a3 rfl (m_in hi32 hi.1 (m_lt32 hi)) hd (fun H1 locs1 hP1 hD1 hS1 => ?_)
  have e1 : m_ce g α (m_up N o i.toNat x) X o = .inl (g.2.1, n, .inr (.inl (vp_updL (fun j => Int64.ofInt (N o j)) (Int32.ofInt i).toNatClampNeg (Int64.ofInt x)))) := by rw [m_ce_2 hK]; congr 5; funext j; rw [m_clamp hi32]; unfold vp_updL m_up; by_cases hj : j = i.toNat <;> simp [hj]
  rw [← e1] at hP1 hD1
  exact k3 α H1 locs1 L ⟨r1, r2, hS1, r4.put (N' := m_up N o i.toNat x) (k := i.toNat) (X' := X) hk0 (fun a b h => m_up_ne h) (fun b h => m_up_off h) (by rw [m_et_2 hK, m_up_same]; exact (m_c1 r7).1) rfl (fun _ _ _ => rfl) r4.2.2.2.1 hP1 hD1, r5, r6, (m_c1 (m_c1 (m_c1 r7).2).2).2⟩
theorem m_znar2 {x : Int} (h : 0 ≤ x ∧ x ≤ 1) : vp_nar .boolean (Int32.ofInt x) = Int32.ofInt x := by
  rcases m_zval h with rfl | rfl <;> decide +kernel
theorem s_zast (hΩ : m_G d own nm cc nL n0 s0 nF sF Ω) {o n : Nat} {i x : Int} (hd : decode cc pc = .ok (.bastore, 1)) (hK : xK X o = (3, n)) (hi : 0 ≤ i ∧ i < (n : Int)) (hz : 0 ≤ x ∧ x ≤ 1) (kk : Ω (pc + 1) (ls, st, m_up N o i.toNat x, X)) : Ω pc (ls, .inl x :: .inl i :: .inr (.inr o) :: st, N, X) := by
  obtain ⟨p, l, e, R, s, m, args, below, meth, c, Q, D, g, A, α0, ⟨hx, hb, -, hown, hts, hKK, hA, hnm, -, -, -, hRc, hRs, -⟩, rfl⟩ := hΩ
  obtain ⟨k1, k2, k3⟩ := kk
  refine ⟨k1, k2, fun α H locs L hr => ?_⟩
  obtain ⟨r1, r2, r3, r4, r5, r6, r7⟩ := hr
  dsimp only at r1 r2 r3 r4 r5 r6 r7 ⊢
  have hk0 : (xK X o).1 ≠ 0 := by rw [hK]; simp
  obtain ⟨a1, a2, a3⟩ := r4.at hk0
  rw [m_ce_3 hK] at a3
  have hi32 := (m_c1 (m_c1 r7).2).1
  show W _ _ _ _ _ _ _ _ _ _ _ _ _ _ _ (F0 m pc L (m_rv α (.inl x) :: m_rv α (.inl i) :: m_rv α (.inr (.inr o)) :: st.map (m_rv α)))
  rw [m_ro a1]
  refine va_zast hx hb hKK r4.2.2.2.2.1 r4.2.2.2.2.2 r3 (o - 3) 2 a3 rfl (m_in hi32 hi.1 (m_lt32 hi)) hd (fun H1 locs1 hP1 hD1 hS1 => ?_)
  have e1 : m_ce g α (m_up N o i.toNat x) X o = .inl (g.2.2.1, n, .inl (upd (fun j => Int32.ofInt (N o j)) (Int32.ofInt i).toNatClampNeg (vp_nar .boolean (Int32.ofInt x)))) := by rw [m_ce_3 hK]; congr 4; funext j; rw [m_clamp hi32, m_znar2 hz]; unfold upd m_up; by_cases hj : j = i.toNat <;> simp [hj]
  rw [← e1] at hP1 hD1
  exact k3 α H1 locs1 L ⟨r1, r2, hS1, r4.put (N' := m_up N o i.toNat x) (k := i.toNat) (X' := X) hk0 (fun a b h => m_up_ne h) (fun b h => m_up_off h) (by rw [m_et_3 hK, m_up_same]; exact hz) rfl (fun _ _ _ => rfl) r4.2.2.2.1 hP1 hD1, r5, r6, (m_c1 (m_c1 (m_c1 r7).2).2).2⟩
theorem s_aast (hΩ : m_G d own nm cc nL n0 s0 nF sF Ω) {o n r : Nat} {i : Int} (hd : decode cc pc = .ok (.aastore, 1)) (hK : xK X o = (4, n)) (hi : 0 ≤ i ∧ i < (n : Int)) (hr : r = 0 ∨ (xK X r).1 = 13) (kk : Ω (pc + 1) (ls, st, m_up N o i.toNat (r : Int), X)) : Ω pc (ls, .inr (.inr r) :: .inl i :: .inr (.inr o) :: st, N, X) := by
  obtain ⟨p, l, e, R, s, m, args, below, meth, c, Q, D, g, A, α0, ⟨hx, hb, -, hown, hts, hKK, hA, hnm, -, -, -, hRc, hRs, -⟩, rfl⟩ := hΩ
  obtain ⟨k1, k2, k3⟩ := kk
  refine ⟨k1, k2, fun α H locs L hr => ?_⟩
  obtain ⟨r1, r2, r3, r4, r5, r6, r7⟩ := hr
  dsimp only at r1 r2 r3 r4 r5 r6 r7 ⊢
  have hk0 : (xK X o).1 ≠ 0 := by rw [hK]; simp
  obtain ⟨a1, a2, a3⟩ := r4.at hk0
  rw [m_ce_4 hK] at a3
  have hi32 := (m_c1 (m_c1 r7).2).1
  have hrn : r < xn X := (m_c1 r7).1
  have e0 : ∀ j, (if (m_up N o i.toNat (r : Int) o j).toNat = 0 then none else some (α (m_up N o i.toNat (r : Int) o j).toNat)) = va_up (fun j => if (N o j).toNat = 0 then none else some (α (N o j).toNat)) i.toNat (if r = 0 then none else some (α r)) j := by
    intro j
    unfold va_up
    by_cases hj : j = i.toNat
    · subst hj; rw [m_up_same, if_pos rfl, Int.toNat_natCast]
    · rw [m_up_off hj, if_neg hj]
  have e1 : m_ce g α (m_up N o i.toNat (r : Int)) X o = .inl (g.2.2.2, n, .inr (.inr (.inr (.inr (va_up (fun j => if (N o j).toNat = 0 then none else some (α (N o j).toNat)) (Int32.ofInt i).toNatClampNeg (if r = 0 then none else some (α r))))))) := by
    rw [m_ce_4 hK, m_clamp hi32]
    exact congrArg (fun f => (Sum.inl (g.2.2.2, n, .inr (.inr (.inr (.inr f)))) : va_E)) (funext e0)
  have hend : ∀ (H1 : Heap) (locs1 : List Loc), va_P D vwCl ((m_ws g α N X).set (o - 3) (α o, m_ce g α (m_up N o i.toNat (r : Int)) X o)) H1 → va_D A ((m_ws g α N X).set (o - 3) (α o, m_ce g α (m_up N o i.toNat (r : Int)) X o)) → va_S A s.heap H1 locs1 → W p l e R s m args below meth c H1 locs1 (xn X - n0) (xs X - s0) Q (F0 m (pc + 1) L (st.map (m_rv α))) := fun H1 locs1 hP1 hD1 hS1 =>
    k3 α H1 locs1 L ⟨r1, r2, hS1, r4.put (N' := m_up N o i.toNat (r : Int)) (k := i.toNat) (X' := X) hk0 (fun a b h => m_up_ne h) (fun b h => m_up_off h) (by rw [m_et_4 hK, m_up_same]; show ((r : Int)).toNat < xn X; rw [Int.toNat_natCast]; exact hrn) rfl (fun _ _ _ => rfl) r4.2.2.2.1 hP1 hD1, r5, r6, (m_c1 (m_c1 (m_c1 r7).2).2).2⟩
  rw [e1] at hend
  show W _ _ _ _ _ _ _ _ _ _ _ _ _ _ _ (F0 m pc L ((if r = 0 then Value.null else .ref (α r)) :: m_rv α (.inl i) :: m_rv α (.inr (.inr o)) :: st.map (m_rv α)))
  rw [m_ro a1]
  by_cases hr0 : r = 0
  · rw [if_pos hr0] at hend ⊢
    exact va_astqN hx hb hKK r4.2.2.2.2.1 r4.2.2.2.2.2 r3 (o - 3) 3 (C := RX8) a3 rfl (m_in hi32 hi.1 (m_lt32 hi)) hd hend
  · rw [if_neg hr0] at hend ⊢
    have hK8 : (xK X r).1 = 8 + 5 := hr.resolve_left hr0
    obtain ⟨b1, b2, b3⟩ := r4.at (o := r) (by rw [hK8]; simp)
    rw [m_ce_obj hK8] at b3
    exact va_astq hx hb hKK r4.2.2.2.2.1 r4.2.2.2.2.2 r3 (o - 3) 3 (r - 3) 8 (r := (RX8, TX8, 5)) a3 rfl b3 rfl (m_in hi32 hi.1 (m_lt32 hi)) hd hend
theorem s_alen1 (hΩ : m_G d own nm cc nL n0 s0 nF sF Ω) {o n : Nat} (hd : decode cc pc = .ok (.arraylength, 1)) (hK : xK X o = (1, n)) (hn : (n : Int) ≤ 2147483647) (kk : Ω (pc + 1) (ls, .inl (n : Int) :: st, N, X)) : Ω pc (ls, .inr (.inr o) :: st, N, X) := by
  obtain ⟨p, l, e, R, s, m, args, below, meth, c, Q, D, g, A, α0, ⟨hx, hb, -, hown, hts, hKK, hA, hnm, -, -, -, hRc, hRs, -⟩, rfl⟩ := hΩ
  obtain ⟨k1, k2, k3⟩ := kk
  refine ⟨k1, k2, fun α H locs L hr => ?_⟩
  obtain ⟨r1, r2, r3, r4, r5, r6, r7⟩ := hr
  dsimp only at r1 r2 r3 r4 r5 r6 r7 ⊢
  obtain ⟨a1, a2, a3⟩ := r4.at (o := o) (by rw [hK]; simp)
  rw [m_ce_1 hK] at a3
  have hW := k3 α H locs L ⟨r1, r2, r3, r4, r5, r6, m_cp (⟨by omega, hn⟩) (m_c1 r7).2⟩
  show W _ _ _ _ _ _ _ _ _ _ _ _ _ _ _ (F0 m pc L (m_rv α (.inr (.inr o)) :: st.map (m_rv α)))
  rw [m_ro a1]
  exact va_alen hx hb hKK r4.2.2.2.2.1 (o - 3) 0 a3 rfl (v := Int32.ofInt (n : Int)) rfl hd hW
theorem s_alen3 (hΩ : m_G d own nm cc nL n0 s0 nF sF Ω) {o n : Nat} (hd : decode cc pc = .ok (.arraylength, 1)) (hK : xK X o = (3, n)) (hn : (n : Int) ≤ 2147483647) (kk : Ω (pc + 1) (ls, .inl (n : Int) :: st, N, X)) : Ω pc (ls, .inr (.inr o) :: st, N, X) := by
  obtain ⟨p, l, e, R, s, m, args, below, meth, c, Q, D, g, A, α0, ⟨hx, hb, -, hown, hts, hKK, hA, hnm, -, -, -, hRc, hRs, -⟩, rfl⟩ := hΩ
  obtain ⟨k1, k2, k3⟩ := kk
  refine ⟨k1, k2, fun α H locs L hr => ?_⟩
  obtain ⟨r1, r2, r3, r4, r5, r6, r7⟩ := hr
  dsimp only at r1 r2 r3 r4 r5 r6 r7 ⊢
  obtain ⟨a1, a2, a3⟩ := r4.at (o := o) (by rw [hK]; simp)
  rw [m_ce_3 hK] at a3
  have hW := k3 α H locs L ⟨r1, r2, r3, r4, r5, r6, m_cp (⟨by omega, hn⟩) (m_c1 r7).2⟩
  show W _ _ _ _ _ _ _ _ _ _ _ _ _ _ _ (F0 m pc L (m_rv α (.inr (.inr o)) :: st.map (m_rv α)))
  rw [m_ro a1]
  exact va_alen hx hb hKK r4.2.2.2.2.1 (o - 3) 2 a3 rfl (v := Int32.ofInt (n : Int)) rfl hd hW
def m_nN (N : NN) (n : Nat) : NN := fun a b => if a = n then 0 else N a b
def m_nX (X : MX) (kd : Nat × Nat) (sz : Nat) : MX := (fun a b => if a = xn X then 0 else xR X a b, fun a => if a = xn X then kd else xK X a, xn X + 1, xs X + sz)
theorem m_rv_up {α : Nat → Nat} {n q : Nat} : ∀ {v : MV}, m_cv n v → m_rv (fun a => if a = n then q else α a) v = m_rv α v
  | .inl _, _ => rfl
  | .inr (.inl _), _ => rfl
  | .inr (.inr r), h => by
    show (if r = 0 then Value.null else .ref (if r = n then q else α r)) = if r = 0 then Value.null else .ref (α r)
    have h1 : ¬ r = n := Nat.ne_of_lt h
    rw [if_neg h1]
theorem m_map_up {α : Nat → Nat} {n q : Nat} {st : List MV} (h : ∀ v ∈ st, m_cv n v) : st.map (m_rv (fun a => if a = n then q else α a)) = st.map (m_rv α) := List.map_congr_left fun v hv => m_rv_up (h v hv)
theorem m_LR_up {α : Nat → Nat} {n q : Nat} {ls : ML} {L : Array Slot} (h : m_LR α n nL ls L) : m_LR (fun a => if a = n then q else α a) (n + 1) nL ls L := ⟨h.1, h.2.1, fun i v hv => ⟨by rw [m_rv_up (h.2.2 i v hv).2]; exact (h.2.2 i v hv).1, m_cv_mono (Nat.le_succ n) (h.2.2 i v hv).2⟩⟩
theorem m_cr_mono {n n' : Nat} {t : FieldType} {x : Int} (h : n ≤ n') (hx : m_cr n t x) : m_cr n' t x := by
  unfold m_cr at hx ⊢
  cases t <;> first | exact hx | exact Nat.lt_of_lt_of_le hx h
theorem m_cr_0 {n : Nat} {t : FieldType} (h : 0 < n) : m_cr n t 0 := by
  unfold m_cr
  cases t <;> first | exact ⟨by decide, by decide⟩ | exact h
theorem m_fv_up {α : Nat → Nat} {n q : Nat} {t : FieldType} {x : Int} {r : Nat} (h : r < n) : m_fv (fun a => if a = n then q else α a) t x r = m_fv α t x r := by
  have h1 : ¬ r = n := Nat.ne_of_lt h
  unfold m_fv
  cases t <;> first | rfl | (simp only [if_neg h1])
/-- the cells that were there, behind a new one -/
theorem m_ce_new {g : m_g4} {D : va_G} {α : Nat → Nat} {N : NN} {X : MX} {A : Nat → Prop} {H : Heap} {kd : Nat × Nat} {sz q a : Nat} (h : m_RL D g α N X A H) (ha : a < xn X) : m_ce g (fun a => if a = xn X then q else α a) (m_nN N (xn X)) (m_nX X kd sz) a = m_ce g α N X a := by
  have hne : ¬ a = xn X := Nat.ne_of_lt ha
  have eN : ∀ j, m_nN N (xn X) a j = N a j := fun j => if_neg hne
  have eR : ∀ j, xR (m_nX X kd sz) a j = xR X a j := fun j => if_neg hne
  have eK : xK (m_nX X kd sz) a = xK X a := if_neg hne
  unfold m_ce
  rw [eK]
  simp only [eN, eR]
  have h4 : (xK X a).1 = 4 → ∀ j, (N a j).toNat < xn X := fun hk j => by
    have := h.2.2.1 a j
    rw [show m_et X a j = .object "" by unfold m_et; rw [hk]] at this
    exact this
  have hRr : ∀ j, xR X a j < xn X := fun j => h.2.2.2.1 a j
  split
  · rfl
  · rfl
  · rfl
  · rfl
  · next hk =>
    have h5 := h4 hk
    congr 7
    funext j
    have h6 : ¬ (N a j).toNat = xn X := Nat.ne_of_lt (h5 j)
    rw [if_neg h6]
  · next k hk =>
    congr 2
    apply List.map_congr_left
    intro j _
    exact m_fv_up (hRr j)
theorem m_RL.new {g : m_g4} {D : va_G} {α : Nat → Nat} {N : NN} {X : MX} {A : Nat → Prop} {H H1 : Heap} {kd : Nat × Nat} {sz q : Nat} (h : m_RL D g α N X A H) (hkd : kd.1 ≠ 0) (hP : va_P D vwCl (m_ws g α N X ++ [(q, m_ce g (fun a => if a = xn X then q else α a) (m_nN N (xn X)) (m_nX X kd sz) (xn X))]) H1) (hD : va_D A (m_ws g α N X ++ [(q, m_ce g (fun a => if a = xn X then q else α a) (m_nN N (xn X)) (m_nX X kd sz) (xn X))])) : m_RL D g (fun a => if a = xn X then q else α a) (m_nN N (xn X)) (m_nX X kd sz) A H1 := by
  have e : m_ws g (fun a => if a = xn X then q else α a) (m_nN N (xn X)) (m_nX X kd sz) = m_ws g α N X ++ [(q, m_ce g (fun a => if a = xn X then q else α a) (m_nN N (xn X)) (m_nX X kd sz) (xn X))] := by
    have := m_ws_push (g := g) (α := α) (α' := fun a => if a = xn X then q else α a) (N := N) (N' := m_nN N (xn X)) (X := X) (X' := m_nX X kd sz) h.1 rfl (fun a ha => if_neg (Nat.ne_of_lt ha)) (fun a ha => m_ce_new h ha)
    rw [this]
    simp only [if_true]
  rw [← e] at hP hD
  have hn3 := h.1
  refine ⟨Nat.le_succ_of_le h.1, fun o => ?_, fun o j => ?_, fun o k => ?_, hP, hD⟩
  · show (3 ≤ o ∧ o < xn X + 1) ↔ (if o = xn X then kd else xK X o).1 ≠ 0
    by_cases ho : o = xn X
    · rw [if_pos ho]
      exact ⟨fun _ => hkd, fun _ => ⟨by omega, by omega⟩⟩
    · rw [if_neg ho, ← h.2.1 o]
      constructor <;> intro q <;> omega
  · show m_cr (xn X + 1) (m_et (m_nX X kd sz) o j) (if o = xn X then 0 else N o j)
    by_cases ho : o = xn X
    · rw [if_pos ho]; exact m_cr_0 (Nat.succ_pos _)
    · rw [if_neg ho]
      have : m_et (m_nX X kd sz) o j = m_et X o j := by unfold m_et; rw [show xK (m_nX X kd sz) o = xK X o from if_neg ho]
      rw [this]
      exact m_cr_mono (Nat.le_succ _) (h.2.2.1 o j)
  · show (if o = xn X then 0 else xR X o k) < xn X + 1
    split
    · exact Nat.succ_pos _
    · exact Nat.lt_succ_of_lt (h.2.2.2.1 o k)
theorem m_def {α : Nat → Nat} (t : FieldType) (h : t = .int ∨ t = .long ∨ t = .boolean ∨ m_isr t = true) : defaultValue t = m_fv α t 0 0 := by
  cases t <;> first | rfl | (rcases h with h | h | h | h <;> cases h)
def m_tok (t : FieldType) : Bool := match t with
  | .int => true
  | .long => true
  | .boolean => true
  | .object _ => true
  | .array _ => true
  | _ => false
theorem m_tok_or {t : FieldType} (h : m_tok t = true) : t = .int ∨ t = .long ∨ t = .boolean ∨ m_isr t = true := by
  cases t <;> first | (cases h; done) | simp [m_isr]
theorem s_new (hΩ : m_G d own nm cc nL n0 s0 nF sF Ω) {idx ci n : Nat} {C : String} {T : u_T} (hd : decode cc pc = .ok (.new idx, 3)) (hc : vwCl[ci]? = some (C, T, n)) (hin : ∀ w ∈ u_ws C T n, w ∈ lw_g) (hnf : m_nf ci = n) (hty : ∀ j, j < n → parseFieldDescriptor (T j).2.2.1 = some (m_ty ci j)) (htk : ∀ j, j < n → m_tok (m_ty ci j) = true) (h1 : Cond.classLink own idx C ∈ lw_g) (h2 : Cond.instantiable C n ∈ lw_g) (h3 : Cond.initialized C ∈ lw_g)
    (kk : Ω (pc + 3) (ls, .inr (.inr (xn X)) :: st, m_nN N (xn X), m_nX X (ci + 5, 0) n)) : Ω pc (ls, st, N, X) := by
  obtain ⟨p, l, e, R, s, m, args, below, meth, c, Q, D, g, A, α0, ⟨hx, hb, -, hown, hts, hKK, hA, hnm, -, -, -, hRc, hRs, -⟩, rfl⟩ := hΩ
  obtain ⟨k1, k2, k3⟩ := kk
  have k1 : xn X + 1 ≤ nF := k1
  have k2 : xs X + n ≤ sF := k2
  refine ⟨by show xn X ≤ nF; omega, by show xs X ≤ sF; omega, fun α H locs L hr => ?_⟩
  obtain ⟨r1, r2, r3, r4, r5, r6, r7⟩ := hr
  dsimp only at r1 r2 r3 r4 r5 r6 r7 ⊢
  have ecell : ∀ q, m_ce g (fun a => if a = xn X then q else α a) (m_nN N (xn X)) (m_nX X (ci + 5, 0) n) (xn X) = .inr (ci, (List.range n).map fun j => m_fv α (m_ty ci j) 0 0) := fun q => by
    rw [m_ce_obj (ci := ci) (by show (if xn X = xn X then (ci + 5, 0) else xK X (xn X)).1 = _; rw [if_pos rfl]), hnf]
    congr 2
    apply List.map_congr_left
    intro j _
    show m_fv _ _ (if xn X = xn X then 0 else N (xn X) j) (if xn X = xn X then 0 else xR X (xn X) j) = _
    rw [if_pos rfl, if_pos rfl]
    exact m_fv_up (by have := r4.1; omega)
  refine va_new (fs := (List.range n).map fun j => m_fv α (m_ty ci j) 0 0) hx hb hts hin (m_ty ci) hty hown (hts _ h1) (hts _ h2) (hts _ h3) hKK r4.2.2.2.2.1 r4.2.2.2.2.2 r3 hA hc (fun j hj => ?_) (by omega) (by omega) hd (fun q H1 hP1 hD1 hS1 => ?_)
  · unfold vp_V
    rw [List.getD_eq_getElem?_getD, m_fget hj]
    exact m_def _ (m_tok_or (htk j hj))
  · rw [← ecell q] at hP1 hD1
    have hW := k3 (fun a => if a = xn X then q else α a) H1 locs L ⟨by show n0 ≤ xn X + 1; omega, by show s0 ≤ xs X + n; omega, hS1, r4.new (by simp) hP1 hD1, fun o ho => by show (if o = xn X then q else α o) = α0 o; rw [if_neg (by omega)]; exact r5 o ho, m_LR_up r6, m_cp (Nat.lt_succ_self _) (fun v hv => m_cv_mono (Nat.le_succ _) (r7 v hv))⟩
    dsimp only at hW
    rw [show xn (m_nX X (ci + 5, 0) n) - n0 = xn X - n0 + 1 by show xn X + 1 - n0 = _; omega, show xs (m_nX X (ci + 5, 0) n) - s0 = xs X - s0 + n by show xs X + n - s0 = _; omega, List.map_cons, m_map_up r7] at hW
    rw [show m_rv (fun a => if a = xn X then q else α a) (.inr (.inr (xn X))) = .ref q by show (if xn X = 0 then Value.null else .ref (if xn X = xn X then q else α (xn X))) = _; rw [if_neg (by have := r4.1; omega), if_pos rfl]] at hW
    exact hW
theorem s_newI (hΩ : m_G d own nm cc nL n0 s0 nF sF Ω) {k : Int} (hd : decode cc pc = .ok (.newarray .int, 2)) (hk : 0 ≤ k ∧ k ≤ 20000) (h1 : Cond.arrayClass .int ∈ lw_g)
    (kk : Ω (pc + 2) (ls, .inr (.inr (xn X)) :: st, m_nN N (xn X), m_nX X (1, k.toNat) k.toNat)) : Ω pc (ls, .inl k :: st, N, X) := by
  obtain ⟨p, l, e, R, s, m, args, below, meth, c, Q, D, g, A, α0, ⟨hx, hb, -, hown, hts, hKK, hA, hnm, -, -, -, hRc, hRs, -⟩, rfl⟩ := hΩ
  obtain ⟨k1, k2, k3⟩ := kk
  have k1 : xn X + 1 ≤ nF := k1
  have k2 : xs X + k.toNat ≤ sF := k2
  refine ⟨by show xn X ≤ nF; omega, by show xs X ≤ sF; omega, fun α H locs L hr => ?_⟩
  obtain ⟨r1, r2, r3, r4, r5, r6, r7⟩ := hr
  dsimp only at r1 r2 r3 r4 r5 r6 r7 ⊢
  have r7' := (m_c1 r7).2
  have hk32 := (m_c1 r7).1
  refine va_newa (atype := .int) (ty := .int) (N' := k.toNat) (a0 := (k.toNat, .inl fun _ => 0)) hx hb (hts _ h1) rfl hKK r4.2.2.2.2.1 r4.2.2.2.2.2 r3 hA (fun cA => rfl) (fun q => ?_) (m_clamp hk32) (by show k.toNat * 4 ≤ 536870912; omega) (by omega) (by omega) hd (fun q cA H1 hK1 hP1 hD1 hS1 => ?_)
  · rw [show (0 : Int32) = Int32.ofInt 0 from rfl, m_lt hk32 ⟨by decide, by decide⟩] at q
    omega
  · have hcA : cA = g.1 := by
      have a1 := (hK1.2 4 (cA, .int) rfl).2
      have a2 := (hKK.2 0 (g.1, .int) rfl).2
      exact Option.some.inj (a1.symm.trans a2)
    subst hcA
    have ecell : m_ce g (fun a => if a = xn X then q else α a) (m_nN N (xn X)) (m_nX X (1, k.toNat) k.toNat) (xn X) = .inl (g.1, (k.toNat, .inl fun _ => 0)) := by
      rw [m_ce_1 (n := k.toNat) (by show (if xn X = xn X then (1, k.toNat) else xK X (xn X)) = _; rw [if_pos rfl])]
      have e0 : ∀ j, m_nN N (xn X) (xn X) j = 0 := fun j => if_pos rfl
      simp only [e0]
      rfl
    rw [← ecell] at hP1 hD1
    have hW := k3 (fun a => if a = xn X then q else α a) H1 locs L ⟨by show n0 ≤ xn X + 1; omega, by show s0 ≤ xs X + k.toNat; omega, hS1, r4.new (by simp) hP1 hD1, fun o ho => by show (if o = xn X then q else α o) = α0 o; rw [if_neg (by omega)]; exact r5 o ho, m_LR_up r6, m_cp (Nat.lt_succ_self _) (fun v hv => m_cv_mono (Nat.le_succ _) (r7' v hv))⟩
    dsimp only at hW
    rw [show xn (m_nX X (1, k.toNat) k.toNat) - n0 = xn X - n0 + 1 by show xn X + 1 - n0 = _; omega, show xs (m_nX X (1, k.toNat) k.toNat) - s0 = xs X - s0 + k.toNat by show xs X + k.toNat - s0 = _; omega, List.map_cons, m_map_up r7'] at hW
    rw [show m_rv (fun a => if a = xn X then q else α a) (.inr (.inr (xn X))) = .ref q by show (if xn X = 0 then Value.null else .ref (if xn X = xn X then q else α (xn X))) = _; rw [if_neg (by have := r4.1; omega), if_pos rfl]] at hW
    exact hW
theorem s_newJ (hΩ : m_G d own nm cc nL n0 s0 nF sF Ω) {k : Int} (hd : decode cc pc = .ok (.newarray .long, 2)) (hk : 0 ≤ k ∧ k ≤ 20000) (h1 : Cond.arrayClass .long ∈ lw_g)
    (kk : Ω (pc + 2) (ls, .inr (.inr (xn X)) :: st, m_nN N (xn X), m_nX X (2, k.toNat) k.toNat)) : Ω pc (ls, .inl k :: st, N, X) := by
  obtain ⟨p, l, e, R, s, m, args, below, meth, c, Q, D, g, A, α0, ⟨hx, hb, -, hown, hts, hKK, hA, hnm, -, -, -, hRc, hRs, -⟩, rfl⟩ := hΩ
  obtain ⟨k1, k2, k3⟩ := kk
  have k1 : xn X + 1 ≤ nF := k1
  have k2 : xs X + k.toNat ≤ sF := k2
  refine ⟨by show xn X ≤ nF; omega, by show xs X ≤ sF; omega, fun α H locs L hr => ?_⟩
  obtain ⟨r1, r2, r3, r4, r5, r6, r7⟩ := hr
  dsimp only at r1 r2 r3 r4 r5 r6 r7 ⊢
  have r7' := (m_c1 r7).2
  have hk32 := (m_c1 r7).1
  refine va_newa (atype := .long) (ty := .long) (N' := k.toNat) (a0 := (k.toNat, .inr (.inl fun _ => 0))) hx hb (hts _ h1) rfl hKK r4.2.2.2.2.1 r4.2.2.2.2.2 r3 hA (fun cA => rfl) (fun q => ?_) (m_clamp hk32) (by show k.toNat * 8 ≤ 536870912; omega) (by omega) (by omega) hd (fun q cA H1 hK1 hP1 hD1 hS1 => ?_)
  · rw [show (0 : Int32) = Int32.ofInt 0 from rfl, m_lt hk32 ⟨by decide, by decide⟩] at q
    omega
  · have hcA : cA = g.2.1 := by
      have a1 := (hK1.2 4 (cA, .long) rfl).2
      have a2 := (hKK.2 1 (g.2.1, .long) rfl).2
      exact Option.some.inj (a1.symm.trans a2)
    subst hcA
    have ecell : m_ce g (fun a => if a = xn X then q else α a) (m_nN N (xn X)) (m_nX X (2, k.toNat) k.toNat) (xn X) = .inl (g.2.1, (k.toNat, .inr (.inl fun _ => 0))) := by
      rw [m_ce_2 (n := k.toNat) (by show (if xn X = xn X then (2, k.toNat) else xK X (xn X)) = _; rw [if_pos rfl])]
      have e0 : ∀ j, m_nN N (xn X) (xn X) j = 0 := fun j => if_pos rfl
      simp only [e0]
      rfl
    rw [← ecell] at hP1 hD1
    have hW := k3 (fun a => if a = xn X then q else α a) H1 locs L ⟨by show n0 ≤ xn X + 1; omega, by show s0 ≤ xs X + k.toNat; omega, hS1, r4.new (by simp) hP1 hD1, fun o ho => by show (if o = xn X then q else α o) = α0 o; rw [if_neg (by omega)]; exact r5 o ho, m_LR_up r6, m_cp (Nat.lt_succ_self _) (fun v hv => m_cv_mono (Nat.le_succ _) (r7' v hv))⟩
    dsimp only at hW
    rw [show xn (m_nX X (2, k.toNat) k.toNat) - n0 = xn X - n0 + 1 by show xn X + 1 - n0 = _; omega, show xs (m_nX X (2, k.toNat) k.toNat) - s0 = xs X - s0 + k.toNat by show xs X + k.toNat - s0 = _; omega, List.map_cons, m_map_up r7'] at hW
    rw [show m_rv (fun a => if a = xn X then q else α a) (.inr (.inr (xn X))) = .ref q by show (if xn X = 0 then Value.null else .ref (if xn X = xn X then q else α (xn X))) = _; rw [if_neg (by have := r4.1; omega), if_pos rfl]] at hW
    exact hW
theorem s_newZ (hΩ : m_G d own nm cc nL n0 s0 nF sF Ω) {k : Int} (hd : decode cc pc = .ok (.newarray .boolean, 2)) (hk : 0 ≤ k ∧ k ≤ 20000) (h1 : Cond.arrayClass .boolean ∈ lw_g)
    (kk : Ω (pc + 2) (ls, .inr (.inr (xn X)) :: st, m_nN N (xn X), m_nX X (3, k.toNat) k.toNat)) : Ω pc (ls, .inl k :: st, N, X) := by
  obtain ⟨p, l, e, R, s, m, args, below, meth, c, Q, D, g, A, α0, ⟨hx, hb, -, hown, hts, hKK, hA, hnm, -, -, -, hRc, hRs, -⟩, rfl⟩ := hΩ
  obtain ⟨k1, k2, k3⟩ := kk
  have k1 : xn X + 1 ≤ nF := k1
  have k2 : xs X + k.toNat ≤ sF := k2
  refine ⟨by show xn X ≤ nF; omega, by show xs X ≤ sF; omega, fun α H locs L hr => ?_⟩
  obtain ⟨r1, r2, r3, r4, r5, r6, r7⟩ := hr
  dsimp only at r1 r2 r3 r4 r5 r6 r7 ⊢
  have r7' := (m_c1 r7).2
  have hk32 := (m_c1 r7).1
  refine va_newa (atype := .boolean) (ty := .boolean) (N' := k.toNat) (a0 := (k.toNat, .inl fun _ => 0)) hx hb (hts _ h1) rfl hKK r4.2.2.2.2.1 r4.2.2.2.2.2 r3 hA (fun cA => rfl) (fun q => ?_) (m_clamp hk32) (by show k.toNat * 1 ≤ 536870912; omega) (by omega) (by omega) hd (fun q cA H1 hK1 hP1 hD1 hS1 => ?_)
  · rw [show (0 : Int32) = Int32.ofInt 0 from rfl, m_lt hk32 ⟨by decide, by decide⟩] at q
    omega
  · have hcA : cA = g.2.2.1 := by
      have a1 := (hK1.2 4 (cA, .boolean) rfl).2
      have a2 := (hKK.2 2 (g.2.2.1, .boolean) rfl).2
      exact Option.some.inj (a1.symm.trans a2)
    subst hcA
    have ecell : m_ce g (fun a => if a = xn X then q else α a) (m_nN N (xn X)) (m_nX X (3, k.toNat) k.toNat) (xn X) = .inl (g.2.2.1, (k.toNat, .inl fun _ => 0)) := by
      rw [m_ce_3 (n := k.toNat) (by show (if xn X = xn X then (3, k.toNat) else xK X (xn X)) = _; rw [if_pos rfl])]
      have e0 : ∀ j, m_nN N (xn X) (xn X) j = 0 := fun j => if_pos rfl
      simp only [e0]
      rfl
    rw [← ecell] at hP1 hD1
    have hW := k3 (fun a => if a = xn X then q else α a) H1 locs L ⟨by show n0 ≤ xn X + 1; omega, by show s0 ≤ xs X + k.toNat; omega, hS1, r4.new (by simp) hP1 hD1, fun o ho => by show (if o = xn X then q else α o) = α0 o; rw [if_neg (by omega)]; exact r5 o ho, m_LR_up r6, m_cp (Nat.lt_succ_self _) (fun v hv => m_cv_mono (Nat.le_succ _) (r7' v hv))⟩
    dsimp only at hW
    rw [show xn (m_nX X (3, k.toNat) k.toNat) - n0 = xn X - n0 + 1 by show xn X + 1 - n0 = _; omega, show xs (m_nX X (3, k.toNat) k.toNat) - s0 = xs X - s0 + k.toNat by show xs X + k.toNat - s0 = _; omega, List.map_cons, m_map_up r7'] at hW
    rw [show m_rv (fun a => if a = xn X then q else α a) (.inr (.inr (xn X))) = .ref q by show (if xn X = 0 then Value.null else .ref (if xn X = xn X then q else α (xn X))) = _; rw [if_neg (by have := r4.1; omega), if_pos rfl]] at hW
    exact hW
end MAr
