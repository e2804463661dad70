/-! calls that only ask, the rest of the simple ones -/
theorem i10 {α : Sort _} {a b : α} : (if (1 : Int) = 0 then a else b) = b := if_neg (by omega)
theorem i00 {α : Sort _} {a b : α} : (if (0 : Int) = 0 then a else b) = a := if_pos rfl
section RO2
variable {X : MX} {N : NN} {B : Int}
theorem ref_debtsOf {r : Nat → Int} {l : Int} (hr : ∀ i, i < 270 → N 66 i = r i) (h0 : 0 ≤ l) (h1 : l ≤ 5) : f_X12_debtsOf X N l = some (owesS r l) := by
  have H : Ok (lp (fun s : Int × Int × Int => b_X12_debtsOf_4 X N s.1 s.2.1 s.2.2) (l, 0, 0)) (fun o => o = owesS r l) := by
    refine ok_up (fun i s => s = (l, sm (fun f => if rd r l f = -1 then 0 else 1) i.toNat, i)) 6 (i0 := 0) ?_ ?_ (by omega) rfl
    · intro i s a0 a1 e
      subst e
      have hb := owes_b r l i.toNat (by omega)
      have hi : ((i.toNat : Nat) : Int) = i := by omega
      have e1 : N 66 (141 + 2 * (6 * l + i)).toNat = rd r l i := hr _ (by omega)
      simp only [b_X12_debtsOf_4, f_X12_debtsOf_l4_j30, ref_debtAt (X := X) (N := N) h0 h1 a0 (show i ≤ 5 by omega), Option.bind_some]
      rw [if_pos a1, gdp (by omega), e1]
      have es : sm (fun f : Nat => if rd r l f = -1 then (0 : Int) else 1) (i + 1).toNat = sm (fun f : Nat => if rd r l f = -1 then (0 : Int) else 1) i.toNat + (if rd r l i = -1 then 0 else 1) := by
        rw [show (i + 1).toNat = i.toNat + 1 by omega, sm_s, hi]
      by_cases c : rd r l i = -1
      · rw [if_pos c]
        refine ok_ret ?_
        show _ = _
        rw [es, if_pos c, w_id (by omega) (by omega), w_id (by omega) (by omega)]
      · rw [if_neg c]
        refine ok_ret ?_
        show _ = _
        rw [es, if_neg c, w_id (by omega) (by omega), w_id (by omega) (by omega)]
    · intro s e
      subst e
      simp only [b_X12_debtsOf_4]
      rw [if_neg (by omega)]
      exact ok_ret rfl
  obtain ⟨a, e, q⟩ := H
  unfold f_X12_debtsOf
  rw [e, Option.bind_some, q]
theorem ref_allDebts {r : Nat → Int} (hr : ∀ i, i < 270 → N 66 i = r i) : f_X12_allDebts X N = some (sm (fun l => owesS r l) 6) := by
  have H : Ok (lp (fun s : Int × Int => b_X12_allDebts_4 X N s.1 s.2) (0, 0)) (fun o => o = sm (fun l => owesS r l) 6) := by
    refine ok_up (fun i s => s = (sm (fun l => owesS r l) i.toNat, i)) 6 (i0 := 0) ?_ ?_ (by omega) rfl
    · intro i s a0 a1 e
      subst e
      have hb := sm_b (f := fun l : Nat => owesS r l) (B := 6) (n := i.toNat) (fun k _ => owes_b r k 6 (by omega))
      have hc := owes_b r i 6 (by omega)
      change 0 ≤ owesS r i ∧ owesS r i ≤ 6 at hc
      have hi : ((i.toNat : Nat) : Int) = i := by omega
      simp only [b_X12_allDebts_4, ref_debtsOf hr a0 (show i ≤ 5 by omega), Option.bind_some]
      rw [if_pos a1]
      refine ok_ret ?_
      show _ = _
      rw [show (i + 1).toNat = i.toNat + 1 by omega, sm_s, hi, w_id (by omega) (by omega), w_id (by omega) (by omega)]
    · intro s e
      subst e
      simp only [b_X12_allDebts_4]
      rw [if_neg (by omega)]
      exact ok_ret rfl
  obtain ⟨a, e, q⟩ := H
  unfold f_X12_allDebts
  rw [e, Option.bind_some, q]
theorem sim_debt (h : Inv X N B) (a f k : Int) : Ok (f_X11_debt X N a f k) (fun v => Ok (f_X12_debt X N a f k) (fun p => p.1 = v ∧ Inv X p.2 B)) := by
  have h' := h
  obtain ⟨hX, ⟨r, lw⟩, im, un, tp, cn, rp, hC, hM⟩ := h'
  have hW : CW X N 4 B r lw := hC.1
  have hV := hW.2.1
  have v0 := hV.1
  have hM1 : MW (m_up N 64 0 0) B r lw := (minv_npr hM npr_0).1
  have hI := inv_npr h (npr_0 (x := 0))
  unfold f_X11_debt f_X11_debt_j35 f_X12_debt f_X12_debt_j31 f_X12_debt_j64
  dsimp only
  rw [c_isLord hW.1, c_isLord hW.1, ref_isLord hM1.1 hV, ref_isLord hM1.1 hV, Option.bind_some, Option.bind_some, Option.bind_some, Option.bind_some]
  by_cases c : 0 ≤ a ∧ a < r 0
  case neg =>
    rw [if_neg c, i00, i00]
    exact ok_ret (ok_ret ⟨rfl, hI⟩)
  rw [if_pos c, i10, i10]
  by_cases d : 0 ≤ f ∧ f < r 0
  case neg =>
    rw [if_neg d, i00, i00]
    exact ok_ret (ok_ret ⟨rfl, hI⟩)
  rw [if_pos d, i10, i10, c_worthOwed hW.1 c.1 (by omega) d.1 (by omega), c_since hW.1 c.1 (by omega) d.1 (by omega), ref_in, ref_debtAt c.1 (by omega) d.1 (by omega), Option.bind_some, Option.bind_some, Option.bind_some, Option.bind_some, Option.bind_some]
  have e1 : m_up N 64 0 0 66 (141 + 2 * (6 * a + f)).toNat = rd r a f := hM1.1 _ (by omega)
  rw [e1]
  by_cases k1 : 0 ≤ k ∧ k ≤ 1
  case neg =>
    rw [if_neg k1, if_pos rfl, if_neg (show ¬ k = 0 by omega), if_neg (show ¬ k = 1 by omega)]
    by_cases z : rd r a f = -1
    · rw [if_pos z]; exact ok_ret (ok_ret ⟨rfl, hI⟩)
    · rw [if_neg z]; exact ok_ret (ok_ret ⟨rfl, hI⟩)
  rw [if_pos k1, i10]
  simp (disch := omega) only [w_id (x := 141 + 2 * (6 * a + f) + k), gdp]
  by_cases z : rd r a f = -1
  · rw [if_pos z, if_pos z]; exact ok_ret (ok_ret ⟨rfl, hI⟩)
  rw [if_neg z, if_neg z]
  by_cases k0 : k = 0
  · subst k0
    rw [if_pos rfl]
    refine ok_ret (ok_ret ⟨?_, hI⟩)
    show m_up N 64 0 0 66 (141 + 2 * (6 * a + f) + 0).toNat = rd r a f
    rw [Int.add_zero]; exact e1
  · have k2 : k = 1 := by omega
    subst k2
    rw [if_neg (by omega), if_pos rfl]
    exact ok_ret (ok_ret ⟨hM1.1 _ (by omega), hI⟩)
theorem sim_owed (h : Inv X N B) (l k : Int) : Ok (f_X11_owed X N l k) (fun v => Ok (f_X12_owed X N l k) (fun p => p.1 = v ∧ Inv X p.2 B)) := by
  have h' := h
  obtain ⟨hX, ⟨r, lw⟩, im, un, tp, cn, rp, hC, hM⟩ := h'
  have hW : CW X N 4 B r lw := hC.1
  have hV := hW.2.1
  have v0 := hV.1
  have hM1 : MW (m_up N 64 0 0) B r lw := (minv_npr hM npr_0).1
  have hI := inv_npr h (npr_0 (x := 0))
  unfold f_X11_owed f_X12_owed f_X12_owed_j23 f_X12_owed_j102
  dsimp only
  rw [c_isLord hW.1, ref_isLord hM1.1 hV, Option.bind_some, Option.bind_some]
  by_cases c : 0 ≤ l ∧ l < r 0
  case neg =>
    rw [if_neg c, i00, i00]
    exact ok_ret (ok_ret ⟨rfl, hI⟩)
  rw [if_pos c, i10, i10, c_standingAgainst hW.1 c.1 (by omega), c_greatest hW.1 c.1 (by omega), ref_in, Option.bind_some, Option.bind_some, Option.bind_some]
  by_cases k1 : 0 ≤ k ∧ k ≤ 1
  case neg =>
    rw [if_neg k1, if_pos rfl, if_neg (show ¬ k = 0 by omega), if_neg (show ¬ k = 1 by omega)]
    exact ok_ret (ok_ret ⟨rfl, hI⟩)
  rw [if_pos k1, i10]
  revert hM1 hI
  generalize m_up N 64 0 0 = M
  intro hM1 hI
  have H : Ok (lp (fun s : NN × Int × Int × Int × Int × Int => b_X12_owed_33 X s.1 s.2.1 s.2.2.1 s.2.2.2.1 s.2.2.2.2.1 s.2.2.2.2.2) (M, l, k, -1, -1, 0)) (fun o => o = (M, l, k, (topS r l 6).2)) := by
    refine ok_up (fun i s => s = (M, l, k, (topS r l i.toNat).2, (topS r l i.toNat).1, i)) 6 (i0 := 0) ?_ ?_ (by omega) rfl
    · intro i s a0 a1 e
      subst e
      have hi : ((i.toNat : Nat) : Int) = i := by omega
      have e1 : M 66 (141 + 2 * (6 * l + i)).toNat = rd r l i := hM1.1 _ (by omega)
      simp only [b_X12_owed_33, f_X12_owed_l33_j66, f_X12_owed_l33_j81, ref_debtAt (X := X) (N := M) c.1 (show l ≤ 5 by omega) a0 (show i ≤ 5 by omega), Option.bind_some]
      rw [if_pos a1, gdp (by omega), w_id (by omega) (by omega)]
      simp only [e1]
      have es : topS r l (i + 1).toNat = if (topS r l i.toNat).1 < rd r l i then (rd r l i, i) else topS r l i.toNat := by
        rw [show (i + 1).toNat = i.toNat + 1 by omega, topS, hi]
      by_cases c : (topS r l i.toNat).1 < rd r l i
      · rw [if_pos c, if_pos c]
        refine ok_ret ?_
        show _ = _
        rw [es, if_pos c]
      · rw [if_neg c, if_neg c]
        refine ok_ret ?_
        show _ = _
        rw [es, if_neg c]
    · intro s e
      subst e
      simp only [b_X12_owed_33]
      rw [if_neg (by omega)]
      exact ok_ret rfl
  obtain ⟨o, eo, po⟩ := H
  rw [eo, Option.bind_some, po]
  dsimp only
  rw [ref_debtsOf hM1.1 c.1 (by omega), Option.bind_some]
  by_cases k0 : k = 0
  · rw [if_pos k0, if_pos k0]
    exact ok_ret (ok_ret ⟨rfl, hI⟩)
  · rw [if_neg k0, if_neg k0, if_pos (by omega)]
    exact ok_ret (ok_ret ⟨rfl, hI⟩)
theorem sim_drawn (h : Inv X N B) (l k : Int) : Ok (f_X11_drawn X N l k) (fun v => Ok (f_X12_drawn X N l k) (fun p => p.1 = v ∧ Inv X p.2 B)) := by
  have h' := h
  obtain ⟨hX, ⟨r, lw⟩, im, un, tp, cn, rp, hC, hM⟩ := h'
  have hD : CDr N rp := hC.2.2.2.2.2.2
  have hMD : MDr (m_up N 64 0 0) rp := (minv_npr hM npr_0).2.2.2.2.2.1
  have hI := inv_npr h (npr_0 (x := 0))
  have v0 := hD.2.1
  unfold f_X11_drawn f_X11_drawn_j26 f_X12_drawn f_X12_drawn_j47 f_X12_drawn_j48 f_X0_latestDrawn
  dsimp only
  rw [hMD.1, wl_id (by omega) (by omega), ref_in, c_isLord (w := 30) hD.1, ref_in, Option.bind_some, Option.bind_some, Option.bind_some, Option.bind_some]
  by_cases c : 0 ≤ l ∧ l < rp 0
  case neg =>
    rw [if_neg c, if_pos rfl, if_neg (show ¬ (0 ≤ l ∧ l ≤ rp 0 - 1) by omega), if_pos rfl]
    exact ok_ret (ok_ret ⟨rfl, hI⟩)
  rw [if_pos c, if_neg (by omega), if_pos (show 0 ≤ l ∧ l ≤ rp 0 - 1 by omega), i10]
  obtain ⟨d1, d2⟩ := hMD.2 l.toNat (by omega)
  have hl : ((l.toNat : Nat) : Int) = l := by omega
  rw [hl] at d1 d2
  unfold f_X10_seenOf f_X10_seenOf_j16 f_X10_seenOf_j31
  rw [c_held (w := 30) hD.1 hD.2, Option.bind_some]
  by_cases kk : 0 ≤ k ∧ k ≤ 6
  case neg =>
    rw [if_neg kk, if_pos rfl, if_neg (show ¬ k = 6 by omega)]
    by_cases k0 : k < 0
    · rw [if_pos k0]; exact ok_ret (ok_ret ⟨rfl, hI⟩)
    · rw [if_neg k0, if_pos (by omega)]; exact ok_ret (ok_ret ⟨rfl, hI⟩)
  rw [if_pos kk, i10, if_neg (show ¬ k < 0 by omega)]
  simp (disch := omega) only [w_id (x := 7 * l), w_id (x := 7 * l + k), gdp]
  by_cases k6 : k = 6
  · rw [if_pos (show 5 < k by omega), if_pos k6, Option.bind_some]
    refine ok_ret (ok_ret ⟨?_, hI⟩)
    show m_up N 64 0 0 103 (7 * l + k).toNat = heldS rp l
    rw [show (7 * l + k).toNat = 7 * l.toNat + 6 by omega]; exact d2
  · rw [if_neg (show ¬ 5 < k by omega), c_lordAt (w := 30) hD.1 c.1 (by omega) (by omega) (by omega), Option.bind_some, Option.bind_some]
    refine ok_ret (ok_ret ⟨?_, hI⟩)
    show m_up N 64 0 0 103 (7 * l + k).toNat = rl rp l k
    have := d1 k.toNat (by omega)
    rw [show (7 * l + k).toNat = 7 * l.toNat + k.toNat by omega, this, show ((k.toNat : Nat) : Int) = k by omega]
theorem sim_count (h : Inv X N B) (k : Int) : Ok (f_X11_count X N k) (fun v => Ok (f_X12_count X N k) (fun p => p.1 = v ∧ Inv X p.2 B)) := by
  have h' := h
  obtain ⟨hX, ⟨r, lw⟩, im, un, tp, cn, rp, hC, hM⟩ := h'
  have hW : CW X N 4 B r lw := hC.1
  have hM1 := minv_npr hM (npr_0 (x := 0))
  have hr : ∀ i, i < 270 → m_up N 64 0 0 66 i = r i := hM1.1.1
  have hI := inv_npr h (npr_0 (x := 0))
  obtain ⟨-, -, -, c4, c5, c6, -⟩ := hC
  obtain ⟨-, -, m3, m4, m5, -⟩ := hM1
  unfold f_X11_count f_X12_count f_X12_count_j199 f_X4_size f_X5_length
  dsimp only
  rw [c_within, c_within, ref_in, c_standing hW.1, c_inForce hW.1, ref_allDebts hr, hr 0 (by omega), hr 1 (by omega), hr 2 (by omega), hr 3 (by omega), hr 4 (by omega), hr 5 (by omega), m3.1, m4.1, m5.2.1 1 (by omega) (by omega), m5.2.1 2 (by omega) (by omega), m5.2.1 3 (by omega) (by omega), m5.2.1 5 (by omega) (by omega), m5.2.1 6 (by omega) (by omega), c4.1, c5.1, c6.2.1 1 (by omega) (by omega), c6.2.1 2 (by omega) (by omega), c6.2.1 3 (by omega) (by omega), c6.2.1 5 (by omega) (by omega), c6.2.1 6 (by omega) (by omega)]
  simp only [Option.bind_some]
  by_cases a : 0 ≤ k ∧ k ≤ 4
  · rw [if_pos a, i10, c_many hW.1 a.1 a.2, Option.bind_some]
    refine ok_ret ?_
    rcases (show k = 0 ∨ k = 1 ∨ k = 2 ∨ k = 3 ∨ k = 4 by omega) with e | e | e | e | e <;> subst e <;> exact ok_ret ⟨rfl, hI⟩
  rw [if_neg a, if_pos rfl]
  by_cases b : 14 ≤ k ∧ k ≤ 16
  · rw [if_pos b, i10, w_id (x := k - 14) (by omega) (by omega), c_term hW.1 (by omega) (by omega), Option.bind_some]
    rw [w_id (x := 6 + k) (by omega) (by omega), w_id (x := 6 + k - 14) (by omega) (by omega), gdp (show 0 ≤ 6 + k - 14 ∧ 6 + k - 14 < 5670 by omega), hr _ (by omega)]
    refine ok_ret ?_
    rcases (show k = 14 ∨ k = 15 ∨ k = 16 by omega) with e | e | e <;> subst e <;> exact ok_ret ⟨rfl, hI⟩
  rw [if_neg b, if_pos rfl]
  by_cases d : 5 ≤ k ∧ k ≤ 13
  · rcases (show k = 5 ∨ k = 6 ∨ k = 7 ∨ k = 8 ∨ k = 9 ∨ k = 10 ∨ k = 11 ∨ k = 12 ∨ k = 13 by omega) with e | e | e | e | e | e | e | e | e <;> subst e <;> exact ok_ret (ok_ret ⟨rfl, hI⟩)
  · simp only [i00, if_neg (show ¬ k = 0 by omega), if_neg (show ¬ k = 1 by omega), if_neg (show ¬ k = 2 by omega), if_neg (show ¬ k = 3 by omega), if_neg (show ¬ k = 4 by omega), if_neg (show ¬ k = 5 by omega), if_neg (show ¬ k = 6 by omega), if_neg (show ¬ k = 7 by omega), if_neg (show ¬ k = 8 by omega), if_neg (show ¬ k = 9 by omega), if_neg (show ¬ k = 10 by omega), if_neg (show ¬ k = 11 by omega), if_neg (show ¬ k = 12 by omega), if_neg (show ¬ k = 13 by omega)]
    exact ok_ret (ok_ret ⟨rfl, hI⟩)
theorem sim_status (h : Inv X N B) : Ok (f_X11_status X N) (fun v => Ok (f_X12_status X N) (fun p => p.1 = v ∧ Inv X p.2 B)) := by
  have h' := h
  obtain ⟨hX, ⟨r, lw⟩, im, un, tp, cn, rp, hC, hM⟩ := h'
  have hM1 := minv_npr hM (npr_0 (x := 0))
  exact ok_ret (ok_ret ⟨hM1.2.2.2.2.1.1.trans hC.2.2.2.2.2.1.1.symm, inv_npr h npr_0⟩)
theorem sim_dross (h : Inv X N B) : Ok (f_X11_dross X N) (fun v => Ok (f_X12_dross X N) (fun p => p.1 = v ∧ Inv X p.2 B)) := by
  have h' := h
  obtain ⟨hX, ⟨r, lw⟩, im, un, tp, cn, rp, hC, hM⟩ := h'
  have hM1 := minv_npr hM (npr_0 (x := 0))
  exact ok_ret (ok_ret ⟨hM1.2.2.2.2.1.2.2.1.trans hC.2.2.2.2.2.1.2.2.1.symm, inv_npr h npr_0⟩)
theorem sim_fault (h : Inv X N B) : Ok (f_X11_fault X N) (fun v => Ok (f_X12_fault X N) (fun p => p.1 = v ∧ Inv X p.2 B)) := by
  have h' := h
  obtain ⟨hX, ⟨r, lw⟩, im, un, tp, cn, rp, hC, hM⟩ := h'
  have hM1 := minv_npr hM (npr_0 (x := 0))
  exact ok_ret (ok_ret ⟨hM1.2.2.2.2.1.2.2.2.1.trans hC.2.2.2.2.2.1.2.2.2.1.symm, inv_npr h npr_0⟩)
theorem sim_stopped (h : Inv X N B) : Ok (f_X11_stopped X N) (fun v => Ok (f_X12_stopped X N) (fun p => p.1 = v ∧ Inv X p.2 B)) := by
  have h' := h
  obtain ⟨hX, ⟨r, lw⟩, im, un, tp, cn, rp, hC, hM⟩ := h'
  have hM1 := minv_npr hM (npr_0 (x := 0))
  exact ok_ret (ok_ret ⟨hM1.2.2.2.2.1.2.2.2.2.trans hC.2.2.2.2.2.1.2.2.2.2.symm, inv_npr h npr_0⟩)
end RO2
