/-! ruin -/
/-- the store ahead of year y (on paper), and when it falls: costs c y of each year, harvest h -/
def stoS (h : Int) (c : Nat → Int) (s : Int) : Nat → Int
  | 0 => s
  | y + 1 => min 9999 (stoS h c s y + h) - c (y + 1)
/-- the first of the years 1 .. n in which it falls, or -1 -/
def fallY (h : Int) (c : Nat → Int) (s : Int) : Nat → Int
  | 0 => -1
  | y + 1 => if 0 ≤ fallY h c s y then fallY h c s y else if stoS h c s (y + 1) < 0 then ((y + 1 : Nat) : Int) else -1
theorem fallY_b (h : Int) (c : Nat → Int) (s : Int) : ∀ n, -1 ≤ fallY h c s n ∧ fallY h c s n ≤ n
  | 0 => by simp [fallY]
  | n + 1 => by
    have := fallY_b h c s n
    rw [fallY]
    split
    · omega
    · split <;> omega
theorem fallY_mono {h : Int} {c : Nat → Int} {s : Int} {m : Nat} (hm : 0 ≤ fallY h c s m) : ∀ n, m ≤ n → fallY h c s n = fallY h c s m := by
  intro n hn
  induction hn with
  | refl => rfl
  | step _ ih => rw [fallY, if_pos (by omega), ih]
theorem fallY_sto {h : Int} {c : Nat → Int} {s : Int} : ∀ n, 0 ≤ s → fallY h c s n = -1 → 0 ≤ stoS h c s n
  | 0, hs, _ => hs
  | n + 1, hs, e => by
    rw [fallY] at e
    by_cases a : 0 ≤ fallY h c s n
    · rw [if_pos a] at e; omega
    · rw [if_neg a] at e
      by_cases b : stoS h c s (n + 1) < 0
      · rw [if_pos b] at e; omega
      · omega
theorem fallY_c {h : Int} {c c' : Nat → Int} {s : Int} : ∀ n, (∀ y, 1 ≤ y → y ≤ n → c y = c' y) → fallY h c s n = fallY h c' s n ∧ stoS h c s n = stoS h c' s n
  | 0, _ => ⟨rfl, rfl⟩
  | n + 1, e => by
    obtain ⟨a, b⟩ := fallY_c n fun y p q => e y p (by omega)
    have e1 := e (n + 1) (by omega) (by omega)
    have s1 : stoS h c s (n + 1) = stoS h c' s (n + 1) := by rw [stoS, stoS, b, e1]
    exact ⟨by rw [fallY, fallY, a, s1], s1⟩
section RN
variable {X : MX} {N : NN} {B : Int} {r : Nat → Int} {lw : Nat → Law}
theorem c_fallOf {l n : Int} (hX : XOK X) (hW : CW X N 4 B r lw) (h0 : 0 ≤ l) (h1 : l < r 0) (n0 : 1 ≤ n) (n1 : n ≤ 99) : Ok (f_X7_fallOf X 4 N l n) (fun o => o.1 = (if rl r l 2 = 0 then (if 0 ≤ fallY (rl r l 1) (fun y => costsS r lw l (r 6 + y)) (rl r l 0) n.toNat then r 6 + fallY (rl r l 1) (fun y => costsS r lw l (r 6 + y)) (rl r l 0) n.toNat else -1) else -1) ∧ Fr frJ N o.2) := by
  have hV := hW.2.1
  have v0 := hV.1
  have v6 := hV.2.2.2.2.2.2.1
  have vl := hV.2.2.2.2.2.2.2.2.2.1 l h0 (by omega)
  unfold f_X7_fallOf
  refine ok_bd (c_isRuined hW.1 h0 (by omega)) ?_
  by_cases c : rl r l 2 = 0
  case neg =>
    rw [if_neg c, if_neg c, if_neg (by omega)]
    exact ok_ret ⟨rfl, fr_rfl⟩
  rw [if_pos c, if_pos c, i00]
  refine ok_bd (c_lordAt hW.1 h0 (by omega) (by omega) (by omega)) ?_
  refine ok_bd (c_term hW.1 (by omega) (by omega)) ?_
  rw [show r (6 + 0 : Int).toNat = r 6 from rfl, w_id (x := r 6 + 1) (by omega) (by omega)]
  generalize hc : (fun y : Nat => costsS r lw l (r 6 + y)) = cy
  have hcb : ∀ y, 0 ≤ cy y ∧ cy y ≤ 1584 := by
    intro y
    rw [← hc]
    exact costsS_b hV lw l (r 6 + y) (r 1).toNat (by have := hV.2.1; omega)
  have H : Ok (lp (fun s : NN × Int × Int × Int × Int × Int => b_X7_fallOf_31 X 4 s.1 s.2.1 s.2.2.1 s.2.2.2.1 s.2.2.2.2.1 s.2.2.2.2.2) (N, l, n, rl r l 0, r 6, r 6 + 1))
      (fun o => (∃ M, o = .inl M ∧ fallY (rl r l 1) cy (rl r l 0) n.toNat = -1 ∧ Fr frJ N M) ∨ (∃ M, o = .inr (M, r 6 + fallY (rl r l 1) cy (rl r l 0) n.toNat) ∧ 0 ≤ fallY (rl r l 1) cy (rl r l 0) n.toNat ∧ Fr frJ N M)) := by
    refine ok_up (fun i s => ∃ M, s = (M, l, n, stoS (rl r l 1) cy (rl r l 0) i.toNat, r 6, r 6 + 1 + i) ∧ fallY (rl r l 1) cy (rl r l 0) i.toNat = -1 ∧ Fr frJ N M) n (i0 := 0) ?_ ?_ (by omega) ⟨N, by rw [Int.add_zero]; rfl, rfl, fr_rfl⟩
    · rintro i s a0 a1 ⟨M, rfl, hF, hf⟩
      obtain ⟨m, rfl⟩ := Int.eq_ofNat_of_zero_le a0
      rw [Int.toNat_natCast] at hF ⊢
      have hs := fallY_sto m vl.1 hF
      have hs2 : stoS (rl r l 1) cy (rl r l 0) m ≤ 9999 := by
        cases m with
        | zero => exact vl.2.1
        | succ m => rw [stoS]; have := hcb (m + 1); omega
      have hC := cw_J (Or.inl rfl) hW hf
      have hcm := hcb (m + 1)
      have ec : costsS r lw l (r 6 + 1 + (m : Int)) = cy (m + 1) := by rw [← hc]; dsimp only; congr 1; omega
      dsimp only
      unfold b_X7_fallOf_31
      rw [w_id (x := r 6 + n) (by omega) (by omega), if_neg (by omega)]
      refine ok_bd (c_lordAt hC.1 h0 (by omega) (by omega) (by omega)) ?_
      refine ok_bind (c_upkeep (Or.inl rfl) (xok26 hX) hC h0 (by omega) (by omega)) ?_
      rintro ⟨v, M2⟩ ⟨p1, p2⟩
      dsimp only at p1 p2 ⊢
      rw [ec] at p1
      subst p1
      rw [w_id (x := stoS (rl r l 1) cy (rl r l 0) m + rl r l 1) (by omega) (by omega), min_id, w_id (x := min 9999 (stoS (rl r l 1) cy (rl r l 0) m + rl r l 1) - cy (m + 1)) (by omega) (by omega), w_id (x := r 6 + 1 + (m : Int) + 1) (by omega) (by omega)]
      have es : stoS (rl r l 1) cy (rl r l 0) (m + 1) = min 9999 (stoS (rl r l 1) cy (rl r l 0) m + rl r l 1) - cy (m + 1) := rfl
      have en : ((m : Int) + 1).toNat = m + 1 := by omega
      rw [← es]
      by_cases d : stoS (rl r l 1) cy (rl r l 0) (m + 1) < 0
      · rw [if_pos d]
        have f1 : fallY (rl r l 1) cy (rl r l 0) (m + 1) = ((m + 1 : Nat) : Int) := by rw [fallY, if_neg (by omega), if_pos d]
        have f2 := fallY_mono (h := rl r l 1) (c := cy) (s := rl r l 0) (m := m + 1) (by rw [f1]; omega) n.toNat (by omega)
        refine ok_ret (Or.inr ⟨M2, ?_, by rw [f2, f1]; omega, fr_tr hf p2⟩)
        rw [f2, f1]
        congr 2
        omega
      · rw [if_neg d]
        refine ok_ret ⟨M2, by rw [en, show r 6 + 1 + ((m : Int) + 1) = r 6 + 1 + (m : Int) + 1 by omega], ?_, fr_tr hf p2⟩
        rw [en, fallY, if_neg (by omega), if_neg d]
    · rintro s ⟨M, rfl, hF, hf⟩
      dsimp only
      unfold b_X7_fallOf_31
      rw [w_id (x := r 6 + n) (by omega) (by omega), if_pos (by omega)]
      exact ok_ret (Or.inl ⟨M, rfl, hF, hf⟩)
  refine ok_bind H ?_
  rintro o (⟨M, rfl, p1, p2⟩ | ⟨M, rfl, p1, p2⟩)
  · refine ok_ret ⟨?_, p2⟩
    rw [if_neg (by omega)]
  · refine ok_ret ⟨?_, p2⟩
    rw [if_pos p1]
def frY (o k : Nat) : Prop := frM o k ∨ o = 89
theorem ref_layYears {l n : Int} (hM : MW N B r lw) (h0 : 0 ≤ l) (h1 : l ≤ 5) (n0 : 1 ≤ n) (n1 : n ≤ 99) : Ok (f_X12_layYears X N l n) (fun N' => (∀ y : Nat, 1 ≤ y → (y : Int) ≤ n → N' 89 y = costsS r lw l (r 6 + y)) ∧ MW N' B r lw ∧ Fr frY N N') := by
  have hV := hM.2.1
  have v6 := hV.2.2.2.2.2.2.1
  have H : Ok (lp (fun s : NN × Int × Int × Int => b_X12_layYears_2 X s.1 s.2.1 s.2.2.1 s.2.2.2) (N, l, n, 1)) (fun N' => (∀ y : Nat, 1 ≤ y → (y : Int) ≤ n → N' 89 y = costsS r lw l (r 6 + y)) ∧ MW N' B r lw ∧ Fr frY N N') := by
    refine ok_up (fun i s => ∃ M, s = (M, l, n, i) ∧ (∀ y : Nat, 1 ≤ y → (y : Int) < i → M 89 y = costsS r lw l (r 6 + y)) ∧ MW M B r lw ∧ Fr frY N M) (n + 1) (i0 := 1) ?_ ?_ (by omega) ⟨N, rfl, fun y p q => by omega, hM, fr_rfl⟩
    · rintro i s a0 a1 ⟨M, rfl, hy, hM', hf⟩
      obtain ⟨m, rfl⟩ := Int.eq_ofNat_of_zero_le (show 0 ≤ i by omega)
      dsimp only
      unfold b_X12_layYears_2
      rw [if_neg (by omega)]
      refine ok_bd (ref_year hM'.1) ?_
      rw [w_id (x := r 6 + (m : Int)) (by omega) (by omega)]
      refine ok_bind (ref_costs hM' h0 h1 (by omega)) ?_
      rintro ⟨v, M2⟩ ⟨p1, p2⟩
      dsimp only at p1 p2 ⊢
      rw [gdp (by omega), Int.toNat_natCast, w_id (by omega) (by omega)]
      refine ok_ret ⟨_, rfl, fun y q1 q2 => ?_, mw_eq (mw_M hM' p2) (up_of (by omega)) (up_o (by omega)), fr_up (fr_tr hf (fr_mono p2 fun o k z => Or.inl z)) (Or.inr rfl)⟩
      rw [up_a]
      by_cases e : y = m
      · rw [if_pos e, p1, e]
      · rw [if_neg e, p2 89 y (by unfold frM; omega)]; exact hy y q1 (by omega)
    · rintro s ⟨M, rfl, hy, hM', hf⟩
      dsimp only
      unfold b_X12_layYears_2
      rw [if_pos (by omega)]
      exact ok_ret ⟨fun y p q => hy y p (by omega), hM', hf⟩
  unfold f_X12_layYears
  refine ok_bind H ?_
  intro N' p
  exact ok_ret p
end RN
