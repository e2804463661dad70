/-! ruinedIn of the reference; ruin -/
def dearS (d : Nat → Int) (s : Int) (y : Nat) (n : Nat) : Int := sm (fun k => if bit s k = 0 then 0 else d (9 * k + y - 1)) n
def cySet (c d : Nat → Int) (s : Int) : Nat → Int := fun y => c y + (if y < 10 then dearS d s y 10 else 0)
section RI
variable {X : MX} {N : NN} {B : Int} {r : Nat → Int} {lw : Nat → Law}
theorem dear_b {d : Nat → Int} {s : Int} {y : Nat} (hd : ∀ j, 0 ≤ d j ∧ d j ≤ 99) (n : Nat) (hn : n ≤ 10) : 0 ≤ dearS d s y n ∧ dearS d s y n ≤ 990 := by
  have := sm_b (f := fun k : Nat => if bit s k = 0 then 0 else d (9 * k + y - 1)) (B := 99) (n := n) (fun k _ => by have := hd (9 * k + y - 1); split <;> omega)
  unfold dearS
  omega
theorem ref_ruinedIn {l n s : Int} {c d : Nat → Int} (hr : ∀ i, i < 270 → N 66 i = r i) (hV : Vr B r) (h0 : 0 ≤ l) (h1 : l ≤ 5) (n0 : 1 ≤ n) (n1 : n ≤ 99) (s0 : 0 ≤ s) (s1 : s ≤ 1023)
    (hc : ∀ y : Nat, 1 ≤ y → (y : Int) ≤ n → N 89 y = c y) (hcb : ∀ y, 0 ≤ c y ∧ c y ≤ 1584) (hd : ∀ j, 0 ≤ d j ∧ d j ≤ 99) (hD : ∀ k y : Nat, k < 10 → 1 ≤ y → y < 10 → (y : Int) ≤ n → bit s k ≠ 0 → N 91 (9 * k + y - 1) = d (9 * k + y - 1)) :
    f_X12_ruinedIn X N l n s = some (fallY (rl r l 1) (cySet c d s) (rl r l 0) n.toNat) := by
  have vl := hV.2.2.2.2.2.2.2.2.2.1 l h0 h1
  have cb : ∀ y, 0 ≤ cySet c d s y ∧ cySet c d s y ≤ 2574 := by
    intro y
    have a := hcb y
    have b := dear_b (s := s) (y := y) hd 10 (by omega)
    unfold cySet
    split <;> omega
  generalize hcy : cySet c d s = cy at cb
  have IN : ∀ (y : Nat) (g : Int), 1 ≤ y → (y : Int) ≤ n → lp (fun z : Int × Int × Int × Int × Int × Int × Int => b_X12_ruinedIn_29 X N z.1 z.2.1 z.2.2.1 z.2.2.2.1 z.2.2.2.2.1 z.2.2.2.2.2.1 z.2.2.2.2.2.2) (l, n, s, g, (y : Int), N 89 ((y : Int)).toNat, 0) = some (l, n, s, g, (y : Int), cy y) := by
    intro y g y1 y2
    rw [Int.toNat_natCast, hc y y1 y2]
    by_cases y10 : y < 10
    · have H : Ok (lp (fun z : Int × Int × Int × Int × Int × Int × Int => b_X12_ruinedIn_29 X N z.1 z.2.1 z.2.2.1 z.2.2.2.1 z.2.2.2.2.1 z.2.2.2.2.2.1 z.2.2.2.2.2.2) (l, n, s, g, (y : Int), c y, 0)) (fun o => o = (l, n, s, g, (y : Int), cy y)) := by
        refine ok_up (fun i z => z = (l, n, s, g, (y : Int), c y + dearS d s y i.toNat, i)) 10 (i0 := 0) ?_ ?_ (by omega) (by show _ = (l, n, s, g, (y : Int), c y + dearS d s y 0, 0); unfold dearS; rw [sm_0, Int.add_zero])
        · intro i z a0 a1 e
          subst e
          obtain ⟨k, rfl⟩ := Int.eq_ofNat_of_zero_le a0
          rw [Int.toNat_natCast, show ((k : Int) + 1).toNat = k + 1 by omega]
          have es : dearS d s y (k + 1) = dearS d s y k + (if bit s k = 0 then 0 else d (9 * k + y - 1)) := rfl
          have b1 := dear_b (s := s) (y := y) hd k (by omega)
          have b2 := hcb y
          have b3 := hd (9 * k + y - 1)
          dsimp only
          unfold b_X12_ruinedIn_29 f_X12_ruinedIn_l29_j73
          rw [if_pos a1, if_pos (by omega)]
          refine ok_bd (ref_is s0 (by omega) (by omega) (by omega)) ?_
          simp (disch := omega) only [w_id (x := 9 * (k : Int)), w_id (x := 9 * (k : Int) + (y : Int)), w_id (x := 9 * (k : Int) + (y : Int) - 1), w_id (x := (k : Int) + 1), gdp]
          by_cases b : bit s k = 0
          · rw [if_pos b, w_id (by omega) (by omega)]
            refine ok_ret ?_
            rw [es, if_pos b, Int.add_zero, Int.add_zero]
          · rw [if_neg b, show (9 * (k : Int) + (y : Int) - 1).toNat = 9 * k + y - 1 by omega, hD k y (by omega) y1 y10 y2 b, w_id (by omega) (by omega)]
            refine ok_ret ?_
            rw [es, if_neg b, Int.add_assoc]
        · intro z e
          subst e
          dsimp only
          unfold b_X12_ruinedIn_29
          rw [if_neg (by omega)]
          refine ok_ret ?_
          rw [← hcy]
          unfold cySet
          rw [if_pos y10]
          rfl
      obtain ⟨o, eo, po⟩ := H
      rw [eo, po]
    · refine lp_end ?_
      show b_X12_ruinedIn_29 X N l n s g (y : Int) (c y) 0 = _
      unfold b_X12_ruinedIn_29
      rw [if_pos (by omega), if_neg (by omega), ← hcy]
      unfold cySet
      rw [if_neg y10, Int.add_zero]
  have H : Ok (lp (fun z : Int × Int × Int × Int × Int => b_X12_ruinedIn_11 X N z.1 z.2.1 z.2.2.1 z.2.2.2.1 z.2.2.2.2) (l, n, s, rl r l 0, 1)) (fun o => (o = .inl () ∧ fallY (rl r l 1) cy (rl r l 0) n.toNat = -1) ∨ (o = .inr (fallY (rl r l 1) cy (rl r l 0) n.toNat) ∧ 0 ≤ fallY (rl r l 1) cy (rl r l 0) n.toNat)) := by
    refine ok_up (fun i z => z = (l, n, s, stoS (rl r l 1) cy (rl r l 0) i.toNat, i + 1) ∧ fallY (rl r l 1) cy (rl r l 0) i.toNat = -1) n (i0 := 0) ?_ ?_ (by omega) ⟨rfl, rfl⟩
    · rintro i z a0 a1 ⟨rfl, hF⟩
      obtain ⟨m, rfl⟩ := Int.eq_ofNat_of_zero_le a0
      rw [Int.toNat_natCast] at hF ⊢
      have hs := fallY_sto m vl.1 hF
      have hcm := cb (m + 1)
      have hs2 : stoS (rl r l 1) cy (rl r l 0) m ≤ 9999 := by
        cases m with
        | zero => exact vl.2.1
        | succ m => rw [stoS]; have := cb (m + 1); omega
      dsimp only
      unfold b_X12_ruinedIn_11
      rw [if_neg (by omega), gdp (by omega), show ((m : Int) + 1) = ((m + 1 : Nat) : Int) by omega, IN (m + 1) _ (by omega) (by omega), Option.bind_some]
      dsimp only
      refine ok_bd (ref_ofLord hr h0 h1 (by omega) (by omega)) ?_
      refine ok_bd (ref_within (by omega) (by omega) (by omega)) ?_
      rw [w_id (x := stoS (rl r l 1) cy (rl r l 0) m + rl r l 1) (by omega) (by omega)]
      have es : stoS (rl r l 1) cy (rl r l 0) (m + 1) = max 0 (min 9999 (stoS (rl r l 1) cy (rl r l 0) m + rl r l 1)) - cy (m + 1) := by rw [stoS]; omega
      have e1 : m_w (max 0 (min 9999 (stoS (rl r l 1) cy (rl r l 0) m + rl r l 1)) - cy (m + 1)) = stoS (rl r l 1) cy (rl r l 0) (m + 1) := by rw [es]; exact w_id (by omega) (by omega)
      rw [e1, w_id (x := ((m + 1 : Nat) : Int) + 1) (by omega) (by omega)]
      by_cases dd : stoS (rl r l 1) cy (rl r l 0) (m + 1) < 0
      · rw [if_pos dd]
        have f1 : fallY (rl r l 1) cy (rl r l 0) (m + 1) = ((m + 1 : Nat) : Int) := by rw [fallY, if_neg (by omega), if_pos dd]
        have f2 := fallY_mono (h := rl r l 1) (c := cy) (s := rl r l 0) (m := m + 1) (by rw [f1]; omega) n.toNat (by omega)
        exact ok_ret (Or.inr ⟨by rw [f2, f1], by rw [f2, f1]; omega⟩)
      · rw [if_neg dd]
        refine ok_ret ⟨rfl, ?_⟩
        show fallY (rl r l 1) cy (rl r l 0) (((m + 1 : Nat) : Int)).toNat = -1
        rw [Int.toNat_natCast, fallY, if_neg (by omega), if_neg dd]
    · rintro z ⟨rfl, hF⟩
      dsimp only
      unfold b_X12_ruinedIn_11
      rw [if_pos (by omega)]
      exact ok_ret (Or.inl ⟨rfl, hF⟩)
  unfold f_X12_ruinedIn
  rw [ref_ofLord hr h0 h1 (by omega) (by omega), Option.bind_some]
  obtain ⟨o, eo, po⟩ := H
  rw [eo, Option.bind_some]
  rcases po with ⟨rfl, p⟩ | ⟨rfl, p⟩
  · rw [p]
  · rfl
theorem sim_ruin (h : Inv X N B) (l n : Int) : Sim X N B (f_X11_ruin X N l n) (fun M => f_X12_ruin X M l n) := by
  have h' := h
  obtain ⟨hX, ⟨r, lw⟩, im, un, tp, cn, rp, hC, hM⟩ := h'
  have hW : CW X N 4 B r lw := hC.1
  have hV := hW.2.1
  have v0 := hV.1
  have v6 := hV.2.2.2.2.2.2.1
  refine sim_ro (v := if (0 ≤ l ∧ l < r 0) ∧ (1 ≤ n ∧ n ≤ 99) then (if rl r l 2 = 0 then (if 0 ≤ fallY (rl r l 1) (fun y => costsS r lw l (r 6 + y)) (rl r l 0) n.toNat then r 6 + fallY (rl r l 1) (fun y => costsS r lw l (r 6 + y)) (rl r l 0) n.toNat else -1) else -1) else -1) h ?_ ?_
  · unfold f_X11_ruin f_X11_ruin_j21
    refine ok_bd (c_isLord hW.1) ?_
    by_cases c : 0 ≤ l ∧ l < r 0
    case neg =>
      rw [if_neg c, i00, if_neg (fun z => c z.1)]
      exact ok_ret ⟨rfl, fr_rfl⟩
    rw [if_pos c, i10]
    refine ok_bd c_within ?_
    by_cases d : 1 ≤ n ∧ n ≤ 99
    case neg =>
      rw [if_neg d, i00, if_neg (fun z => d z.2)]
      exact ok_ret ⟨rfl, fr_rfl⟩
    rw [if_pos d, i10, if_pos ⟨c, d⟩]
    refine ok_bind (c_fallOf hX hW c.1 c.2 d.1 d.2) ?_
    rintro ⟨v, N1⟩ ⟨p1, p2⟩
    exact ok_ret ⟨p1, npr_J p2⟩
  · intro M hf
    have hM1 : MW (m_up M 64 0 0) B r lw := (minv_npr hM (fr_tr hf npr_0)).1
    unfold f_X12_ruin f_X12_ruin_j35 f_X12_ruin_j66
    try dsimp only
    refine ok_bd (ref_isLord hM1.1 hV) ?_
    by_cases c : 0 ≤ l ∧ l < r 0
    case neg =>
      rw [if_neg c, i00, if_neg (fun z => c z.1)]
      exact ok_ret ⟨rfl, npr_0⟩
    rw [if_pos c, i10]
    refine ok_bd ref_in ?_
    by_cases d : 1 ≤ n ∧ n ≤ 99
    case neg =>
      rw [if_neg d, i00, if_neg (fun z => d z.2)]
      exact ok_ret ⟨rfl, npr_0⟩
    rw [if_pos d, i10, if_pos ⟨c, d⟩]
    have vl := hV.2.2.2.2.2.2.2.2.2.1 l c.1 (by omega)
    refine ok_bd (ref_ofLord hM1.1 c.1 (by omega) (by omega) (by omega)) ?_
    by_cases e : rl r l 2 = 1
    · rw [if_pos e, if_neg (by omega)]
      exact ok_ret ⟨rfl, npr_0⟩
    rw [if_neg e, if_pos (show rl r l 2 = 0 by omega)]
    refine ok_bind (ref_layYears hM1 c.1 (by omega) d.1 d.2) ?_
    intro M2 ⟨p1, p2, p3⟩
    have f2 : Fr npr M M2 := fr_tr npr_0 (fr_mono p3 fun o k z => by unfold frY frM at z; unfold npr pC pM; omega)
    have b0 : ∀ k : Int, bit 0 k = 0 := by intro k; unfold bit; simp
    have ec : fallY (rl r l 1) (cySet (fun y => costsS r lw l (r 6 + y)) (fun _ => 0) 0) (rl r l 0) n.toNat = fallY (rl r l 1) (fun y => costsS r lw l (r 6 + y)) (rl r l 0) n.toNat := by
      refine (fallY_c _ fun y _ _ => ?_).1
      unfold cySet dearS
      have : sm (fun k : Nat => if bit 0 k = 0 then (0 : Int) else 0) 10 = 0 := by simp [sm]
      split
      · rw [this, Int.add_zero]
      · rw [Int.add_zero]
    refine ok_bd (ref_ruinedIn (c := fun y => costsS r lw l (r 6 + y)) (d := fun _ => 0) p2.1 hV c.1 (by omega) d.1 d.2 (by omega) (by omega) p1 (fun y => costsS_b hV lw l (r 6 + y) (r 1).toNat (by have := hV.2.1; omega)) (fun j => by omega) (fun k y _ _ _ _ z => (z (b0 k)).elim)) ?_
    rw [ec]
    have fb := fallY_b (rl r l 1) (fun y => costsS r lw l (r 6 + y)) (rl r l 0) n.toNat
    generalize fallY (rl r l 1) (fun y => costsS r lw l (r 6 + y)) (rl r l 0) n.toNat = F at fb ⊢
    by_cases g : F = -1
    · rw [if_pos g, if_neg (by omega)]
      exact ok_ret ⟨rfl, f2⟩
    · rw [if_neg g, if_pos (by omega)]
      refine ok_bd (ref_year p2.1) ?_
      rw [w_id (by omega) (by omega)]
      exact ok_ret ⟨rfl, f2⟩
end RI
