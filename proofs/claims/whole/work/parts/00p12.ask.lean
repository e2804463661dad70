/-! calls that only ask: of, at, asks, debt, owed, drawn, count, status, dross, fault, stopped -/
def npr (o k : Nat) : Prop := ¬ pC o k ∧ ¬ pM o k
theorem inv_npr {X : MX} {N N' : NN} {B : Int} (h : Inv X N B) (hf : Fr npr N N') : Inv X N' B := by
  obtain ⟨hX, q, im, un, tp, cn, rp, hC, hM⟩ := h
  exact ⟨hX, q, im, un, tp, cn, rp, cinv_eq hC fun o k p => hf o k fun z => z.1 p, minv_eq hM fun o k p => hf o k fun z => z.2 p⟩
theorem npr_J {N N' : NN} (h : Fr frJ N N') : Fr npr N N' := fr_mono h fun o k q => by unfold frJ at q; unfold npr pC pM; omega
theorem npr_M {N N' : NN} (h : Fr frM N N') : Fr npr N N' := fr_mono h fun o k q => by unfold frM at q; unfold npr pC pM; omega
theorem npr_0 {N : NN} {x : Int} : Fr npr N (m_up N 64 0 x) := fr_up fr_rfl (by unfold npr pC pM; omega)
theorem sim_ro {X : MX} {N : NN} {B v : Int} {x : Option (Int × NN)} {y : NN → Option (Int × NN)} (h : Inv X N B) (hc : Ok x (fun o => o.1 = v ∧ Fr npr N o.2)) (hm : ∀ M, Fr npr N M → Ok (y M) (fun o => o.1 = v ∧ Fr npr M o.2)) : Sim X N B x y := by
  refine ok_mono hc ?_
  rintro ⟨a, M⟩ ⟨e, f⟩
  refine ok_mono (hm M f) ?_
  rintro ⟨b, M'⟩ ⟨e', f'⟩
  exact ⟨e'.trans e.symm, inv_npr h (fr_tr f f')⟩
section RO
variable {X : MX} {N : NN} {B : Int}
theorem minv_npr {N' : NN} {q : Wd} {im : Nat → Option Wd} {un : Un} {tp : Tp} {cn rp : Nat → Int} (h : MInv N B q im un tp cn rp) (hf : Fr npr N N') : MInv N' B q im un tp cn rp := minv_eq h fun o k p => hf o k fun z => z.2 p
theorem xok26 (h : XOK X) : m_Sk26 X := ⟨h.1, h.2.1⟩
theorem sim_of (h : Inv X N B) (l k : Int) : Sim X N B (f_X11_of X N l k) (fun M => f_X12_of X M l k) := by
  have h' := h
  obtain ⟨hX, ⟨r, lw⟩, im, un, tp, cn, rp, hC, hM⟩ := h'
  have hW : CW X N 4 B r lw := hC.1
  have hV := hW.2.1
  have v0 := hV.1
  have v6 := hV.2.2.2.2.2.2.1
  refine sim_ro (v := if 0 ≤ l ∧ l < r 0 then (if 0 ≤ k ∧ k ≤ 5 then rl r l k else if k = 6 then heldS r l else if k = 7 then costsS r lw l (r 6) else -1) else -1) h ?_ ?_
  · unfold f_X11_of
    refine ok_bd (c_isLord hW.1) ?_
    by_cases c : 0 ≤ l ∧ l < r 0
    case neg =>
      rw [if_neg c, if_neg c, if_pos rfl]
      exact ok_ret ⟨rfl, fr_rfl⟩
    rw [if_pos c, if_pos c, if_neg (by omega)]
    by_cases c7 : k = 7
    · rw [if_pos c7]
      refine ok_bd (c_term hW.1 (by omega) (by omega)) ?_
      refine ok_bind (c_upkeep (y := r (6 + 0 : Int).toNat) (Or.inl rfl) (xok26 hX) hW c.1 (by omega) ⟨v6.1, Int.le_trans v6.2 (by omega)⟩) ?_
      rintro ⟨v, N1⟩ ⟨p1, p2⟩
      refine ok_ret ⟨?_, npr_J p2⟩
      rw [if_neg (by omega), if_neg (by omega), if_pos c7]
      exact p1
    · rw [if_neg c7]
      unfold f_X10_seenOf f_X10_seenOf_j16 f_X10_seenOf_j31
      by_cases c0 : k < 0
      · rw [if_pos c0, if_neg (by omega), if_neg (by omega), if_neg (by omega), if_neg c7]
        exact ok_ret ⟨rfl, fr_rfl⟩
      · rw [if_neg c0]
        by_cases c5 : 5 < k
        · rw [if_pos c5]
          by_cases c6 : k = 6
          · rw [if_pos c6, c_held hW.1 hV, if_neg (by omega), if_pos c6]
            exact ok_ret ⟨rfl, fr_rfl⟩
          · rw [if_neg c6, if_neg (by omega), if_neg c6, if_neg c7]
            exact ok_ret ⟨rfl, fr_rfl⟩
        · rw [if_neg c5, c_lordAt hW.1 c.1 (by omega) (by omega) (by omega), if_pos (by omega)]
          exact ok_ret ⟨rfl, fr_rfl⟩
  · intro M hf
    have hM1 : MW (m_up M 64 0 0) B r lw := (minv_npr hM (fr_tr hf npr_0)).1
    unfold f_X12_of f_X12_of_j25 f_X12_of_j65
    dsimp only
    refine ok_bd (ref_isLord hM1.1 hV) ?_
    by_cases c : 0 ≤ l ∧ l < r 0
    case neg =>
      rw [if_neg c, if_neg c, if_pos rfl]
      exact ok_ret ⟨rfl, npr_0⟩
    rw [if_pos c, if_pos c, if_neg (by omega)]
    refine ok_bd ref_in ?_
    by_cases c7 : 0 ≤ k ∧ k ≤ 7
    case neg =>
      rw [if_neg c7, if_pos rfl, if_neg (by omega), if_neg (by omega), if_neg (by omega)]
      exact ok_ret ⟨rfl, npr_0⟩
    rw [if_pos c7, if_neg (by omega)]
    by_cases c6 : k < 6
    · rw [if_pos c6, if_pos (by omega)]
      refine ok_bd (ref_ofLord hM1.1 c.1 (by omega) (by omega) (by omega)) ?_
      exact ok_ret ⟨rfl, npr_0⟩
    rw [if_neg c6, if_neg (show ¬ (0 ≤ k ∧ k ≤ 5) by omega)]
    by_cases e6 : k = 6
    · rw [if_pos e6, if_pos e6]
      refine ok_bd (ref_held hM1.1 hV) ?_
      exact ok_ret ⟨rfl, npr_0⟩
    · rw [if_neg e6, if_neg e6, if_pos (by omega)]
      refine ok_bd (ref_year hM1.1) ?_
      refine ok_bind (ref_costs hM1 c.1 (by omega) (by omega)) ?_
      rintro ⟨v, N1⟩ ⟨p1, p2⟩
      exact ok_ret ⟨p1, fr_tr npr_0 (npr_M p2)⟩
theorem sim_at (h : Inv X N B) (g k : Int) : Sim X N B (f_X11_at X N g k) (fun M => f_X12_at X M g k) := by
  have h' := h
  obtain ⟨hX, ⟨r, lw⟩, im, un, tp, cn, rp, hC, hM⟩ := h'
  have hW : CW X N 4 B r lw := hC.1
  have hV := hW.2.1
  have v0 := hV.1
  have v1 := hV.2.1
  have v6 := hV.2.2.2.2.2.2.1
  refine sim_ro (v := if 0 ≤ g ∧ g < r 1 then (if 0 ≤ k ∧ k ≤ 4 then rg r g k else if k = 5 then costS r lw g (rg r g 0) (r 6) else -1) else -1) h ?_ ?_
  · unfold f_X11_at f_X11_at_j20
    refine ok_bd (c_isGood hW.1) ?_
    by_cases c : 0 ≤ g ∧ g < r 1
    case neg =>
      rw [if_neg c, if_neg c, if_pos rfl]
      exact ok_ret ⟨rfl, fr_rfl⟩
    have vg := hV.2.2.2.2.2.2.2.2.2.2.1 g c.1 c.2
    rw [if_pos c, if_pos c, if_neg (by omega)]
    refine ok_bd c_within ?_
    by_cases c7 : 0 ≤ k ∧ k ≤ 5
    case neg =>
      rw [if_neg c7, if_pos rfl, if_neg (by omega), if_neg (by omega)]
      exact ok_ret ⟨rfl, fr_rfl⟩
    rw [if_pos c7, if_neg (by omega)]
    by_cases c5 : k = 5
    · rw [if_pos c5, if_neg (by omega), if_pos c5]
      refine ok_bd (c_goodAt hW.1 c.1 (by omega) (by omega) (by omega)) ?_
      refine ok_bd (c_term hW.1 (by omega) (by omega)) ?_
      refine ok_bind (c_costs (y := r (6 + 0 : Int).toNat) (Or.inl rfl) (xok26 hX) hW c.1 c.2 (by omega) ⟨v6.1, Int.le_trans v6.2 (by omega)⟩) ?_
      rintro ⟨v, N1⟩ ⟨p1, p2⟩
      exact ok_ret ⟨p1, npr_J p2⟩
    · rw [if_neg c5, if_pos (by omega)]
      refine ok_bd (c_goodAt hW.1 c.1 (by omega) (by omega) (by omega)) ?_
      exact ok_ret ⟨rfl, fr_rfl⟩
  · intro M hf
    have hM1 : MW (m_up M 64 0 0) B r lw := (minv_npr hM (fr_tr hf npr_0)).1
    unfold f_X12_at f_X12_at_j25 f_X12_at_j56
    dsimp only
    refine ok_bd (ref_isGood hM1.1 hV) ?_
    by_cases c : 0 ≤ g ∧ g < r 1
    case neg =>
      rw [if_neg c, if_neg c, if_pos rfl]
      exact ok_ret ⟨rfl, npr_0⟩
    have vg := hV.2.2.2.2.2.2.2.2.2.2.1 g c.1 c.2
    rw [if_pos c, if_pos c, if_neg (by omega)]
    refine ok_bd ref_in ?_
    by_cases c7 : 0 ≤ k ∧ k ≤ 5
    case neg =>
      rw [if_neg c7, if_pos rfl, if_neg (by omega), if_neg (by omega)]
      exact ok_ret ⟨rfl, npr_0⟩
    rw [if_pos c7, if_neg (by omega)]
    by_cases c5 : k < 5
    · rw [if_pos c5, if_pos (by omega)]
      refine ok_bd (ref_ofGood hM1.1 c.1 (by omega) (by omega) (by omega)) ?_
      exact ok_ret ⟨rfl, npr_0⟩
    · rw [if_neg c5, if_neg (by omega), if_pos (by omega)]
      refine ok_bd (ref_ofGood hM1.1 c.1 (by omega) (by omega) (by omega)) ?_
      refine ok_bd (ref_year hM1.1) ?_
      refine ok_bind (ref_costOf hM1 c.1 c.2 (by omega) (by omega)) ?_
      rintro ⟨v, N1⟩ ⟨p1, p2⟩
      exact ok_ret ⟨p1, fr_tr npr_0 (npr_M p2)⟩
theorem sim_asks (h : Inv X N B) (g to k : Int) : Sim X N B (f_X11_asks X N g to k) (fun M => f_X12_asks X M g to k) := by
  have h' := h
  obtain ⟨hX, ⟨r, lw⟩, im, un, tp, cn, rp, hC, hM⟩ := h'
  have hW : CW X N 4 B r lw := hC.1
  have hV := hW.2.1
  have v0 := hV.1
  have v1 := hV.2.1
  have v6 := hV.2.2.2.2.2.2.1
  refine sim_ro (v := if 0 ≤ g ∧ g < r 1 then (if 0 ≤ to ∧ to < r 0 then (if rg r g 0 = to then -1 else if k = 0 then worthS r lw g (rg r g 0) to else if k = 1 then (if barS r lw g (rg r g 0) to then 1 else 0) else if k = 2 then (if rg r g 1 = rg r g 0 then 0 else 1) else -1) else -1) else -1) h ?_ ?_
  · unfold f_X11_asks f_X11_asks_j22 f_X11_asks_j111 f_X11_asks_j131
    refine ok_bd (c_isGood hW.1) ?_
    by_cases c : 0 ≤ g ∧ g < r 1
    case neg =>
      rw [if_neg c, if_neg c, if_pos rfl]
      exact ok_ret ⟨rfl, fr_rfl⟩
    have vg := hV.2.2.2.2.2.2.2.2.2.2.1 g c.1 c.2
    rw [if_pos c, if_pos c, if_neg (by omega)]
    refine ok_bd (c_isLord hW.1) ?_
    by_cases d : 0 ≤ to ∧ to < r 0
    case neg =>
      rw [if_neg d, if_neg d, if_pos rfl]
      exact ok_ret ⟨rfl, fr_rfl⟩
    rw [if_pos d, if_pos d, if_neg (by omega)]
    refine ok_bd (c_goodAt hW.1 c.1 (by omega) (by omega) (by omega)) ?_
    by_cases e : rg r g 0 = to
    · rw [if_pos e, if_pos e]
      exact ok_ret ⟨rfl, fr_rfl⟩
    rw [if_neg e, if_neg e]
    by_cases k0 : k = 0
    · rw [if_pos k0, if_pos k0]
      refine ok_bind (c_worth (Or.inl rfl) (xok26 hX) hW c.1 c.2 (by omega) (by omega)) ?_
      rintro ⟨v, N1⟩ ⟨p1, p2⟩
      exact ok_ret ⟨p1, npr_J p2⟩
    rw [if_neg k0, if_neg k0]
    by_cases k1 : k = 1
    · rw [if_pos k1, if_pos k1]
      refine ok_bind (c_bars (Or.inl rfl) (xok26 hX) hW c.1 c.2 (by omega) (by omega)) ?_
      rintro ⟨v, N1⟩ ⟨p1, p2⟩
      dsimp only at p1 p2 ⊢
      rw [p1]
      cases barS r lw g (rg r g 0) to with
      | true => exact ok_ret ⟨rfl, npr_J p2⟩
      | false => exact ok_ret ⟨rfl, npr_J p2⟩
    rw [if_neg k1, if_neg k1]
    by_cases k2 : k = 2
    · rw [if_pos k2, if_pos k2]
      refine ok_bd (c_goodAt hW.1 c.1 (by omega) (by omega) (by omega)) ?_
      by_cases o : rg r g 1 = rg r g 0
      · rw [if_pos o, if_pos o]; exact ok_ret ⟨rfl, fr_rfl⟩
      · rw [if_neg o, if_neg o]; exact ok_ret ⟨rfl, fr_rfl⟩
    · rw [if_neg k2, if_neg k2]; exact ok_ret ⟨rfl, fr_rfl⟩
  · intro M hf
    have hM1 : MW (m_up M 64 0 0) B r lw := (minv_npr hM (fr_tr hf npr_0)).1
    unfold f_X12_asks f_X12_asks_j43 f_X12_asks_j108
    dsimp only
    refine ok_bd (ref_isGood hM1.1 hV) ?_
    by_cases c : 0 ≤ g ∧ g < r 1
    case neg =>
      rw [if_neg c, if_neg c, if_pos rfl]
      exact ok_ret ⟨rfl, npr_0⟩
    have vg := hV.2.2.2.2.2.2.2.2.2.2.1 g c.1 c.2
    rw [if_pos c, if_pos c, if_neg (by omega)]
    refine ok_bd (ref_isLord hM1.1 hV) ?_
    by_cases d : 0 ≤ to ∧ to < r 0
    case neg =>
      rw [if_neg d, if_neg d, if_pos rfl]
      exact ok_ret ⟨rfl, npr_0⟩
    rw [if_pos d, if_pos d, if_neg (by omega)]
    refine ok_bd (ref_ofGood hM1.1 c.1 (by omega) (by omega) (by omega)) ?_
    by_cases e : rg r g 0 = to
    · rw [if_pos e, if_pos e]
      exact ok_ret ⟨rfl, npr_0⟩
    rw [if_neg e, if_neg e]
    refine ok_bd ref_in ?_
    by_cases kk : 0 ≤ k ∧ k ≤ 2
    case neg =>
      rw [if_neg kk, if_pos rfl, if_neg (by omega), if_neg (by omega), if_neg (by omega)]
      exact ok_ret ⟨rfl, npr_0⟩
    rw [if_pos kk, if_neg (by omega)]
    refine ok_bd (ref_ofGood hM1.1 c.1 (by omega) (by omega) (by omega)) ?_
    by_cases k0 : k = 0
    · rw [if_pos k0, if_pos k0]
      refine ok_bind (ref_worthOf hM1 c.1 c.2 (by omega) (by omega)) ?_
      rintro ⟨v, N1⟩ ⟨p1, p2⟩
      exact ok_ret ⟨p1, fr_tr npr_0 (npr_M p2)⟩
    rw [if_neg k0, if_neg k0]
    by_cases k1 : k = 1
    · rw [if_pos k1, if_pos k1]
      refine ok_bind (ref_isBarred hM1 c.1 c.2 (by omega) (by omega)) ?_
      rintro ⟨v, N1⟩ ⟨p1, p2⟩
      dsimp only at p1 p2 ⊢
      rw [p1]
      cases barS r lw g (rg r g 0) to with
      | true => exact ok_ret ⟨rfl, fr_tr npr_0 (npr_M p2)⟩
      | false => exact ok_ret ⟨rfl, fr_tr npr_0 (npr_M p2)⟩
    rw [if_neg k1, if_neg k1, if_pos (by omega)]
    refine ok_bd (ref_ofGood hM1.1 c.1 (by omega) (by omega) (by omega)) ?_
    by_cases o : rg r g 1 = rg r g 0
    · rw [if_pos o.symm, if_pos o]; exact ok_ret ⟨rfl, npr_0⟩
    · rw [if_neg (fun z => o z.symm), if_neg o]; exact ok_ret ⟨rfl, npr_0⟩
end RO
