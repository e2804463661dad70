/-! the class: what a world answers -/
section CWO
variable {X : MX} {N : NN} {w : Nat} {r : Nat → Int}
theorem c_term {k : Int} (h : Rw (N (w + 1)) r) (h0 : 0 ≤ k) (h1 : k ≤ 2) : f_X10_term X N w k = some (r (6 + k).toNat) := by
  unfold f_X10_term
  rw [gdp (by omega), h.1 k h0 h1]
theorem c_many {k : Int} (h : Rw (N (w + 1)) r) (h0 : 0 ≤ k) (h1 : k ≤ 4) : f_X10_many X N w k = some (r k.toNat) := by
  simp (disch := omega) only [f_X10_many, w_id, gdp]
  rw [h.2.2.2.2.2.1 k h0 h1]
theorem c_lordAt {l k : Int} (h : Rw (N (w + 1)) r) (h0 : 0 ≤ l) (h1 : l ≤ 5) (h2 : 0 ≤ k) (h3 : k ≤ 5) : f_X10_lordAt X N w l k = some (rl r l k) := by
  simp (disch := omega) only [f_X10_lordAt, w_id, gdp]
  rw [h.2.1 l k h0 h1 h2 h3]
theorem c_goodAt {g k : Int} (h : Rw (N (w + 1)) r) (h0 : 0 ≤ g) (h1 : g ≤ 15) (h2 : 0 ≤ k) (h3 : k ≤ 4) : f_X10_goodAt X N w g k = some (rg r g k) := by
  simp (disch := omega) only [f_X10_goodAt, w_id, gdp]
  rw [h.2.2.1 g k h0 h1 h2 h3]
theorem c_worthOwed {a f : Int} (h : Rw (N (w + 1)) r) (h0 : 0 ≤ a) (h1 : a ≤ 5) (h2 : 0 ≤ f) (h3 : f ≤ 5) : f_X10_worthOwed X N w a f = some (rd r a f) := by
  simp (disch := omega) only [f_X10_worthOwed, w_id, gdp]
  rw [h.2.2.2.1 a f h0 h1 h2 h3]
theorem c_since {a f : Int} (h : Rw (N (w + 1)) r) (h0 : 0 ≤ a) (h1 : a ≤ 5) (h2 : 0 ≤ f) (h3 : f ≤ 5) : f_X10_since X N w a f = some (rs r a f) := by
  simp (disch := omega) only [f_X10_since, w_id, gdp]
  rw [h.2.2.2.2.1 a f h0 h1 h2 h3]
theorem c_inForce (h : Rw (N (w + 1)) r) : f_X10_inForce X N w = some (r 5) := by
  unfold f_X10_inForce
  rw [h.2.2.2.2.2.2.1]
theorem c_toldHolder {g : Int} (h : Rw (N (w + 1)) r) (h0 : 0 ≤ g) (h1 : g ≤ 15) : f_X10_toldHolder X N w g = some (if g < r 1 then rg r g 5 else -1) := by
  simp (disch := omega) only [f_X10_toldHolder, w_id, gdp]
  rw [h.2.2.2.2.2.2.2.1 g h0 h1]
theorem c_price {g : Int} (h : Rw (N (w + 1)) r) (h0 : 0 ≤ g) (h1 : g ≤ 4) : f_X10_price X N w g = some (rh r g) := by
  simp (disch := omega) only [f_X10_price, w_id, gdp]
  rw [h.2.2.2.2.2.2.2.2.1 g h0 h1]
theorem c_roadAt {i k : Int} (h : Rw (N (w + 1)) r) (h0 : 0 ≤ i) (h1 : i ≤ 11) (h2 : 0 ≤ k) (h3 : k ≤ 3) : f_X10_roadAt X N w i k = some (rr r i k) := by
  simp (disch := omega) only [f_X10_roadAt, w_id, gdp]
  rw [h.2.2.2.2.2.2.2.2.2 i k h0 h1 h2 h3]
theorem c_isLord {l : Int} (h : Rw (N (w + 1)) r) : f_X10_isLord X N w l = some (if 0 ≤ l ∧ l < r 0 then 1 else 0) := by
  have e : N (w + 1) 191 = r 0 := h.2.2.2.2.2.1 0 (by omega) (by omega)
  unfold f_X10_isLord f_X10_isLord_j20 f_X10_isLord_j21
  rw [e]
  by_cases h0 : l < 0
  · rw [if_pos h0, if_pos (by omega), if_neg (by omega)]
  · rw [if_neg h0]
    by_cases h1 : l < r 0
    · rw [if_pos h1, if_pos (by omega), if_pos (by omega)]
    · rw [if_neg h1, if_pos (by omega), if_neg (by omega)]
theorem c_isGood {l : Int} (h : Rw (N (w + 1)) r) : f_X10_isGood X N w l = some (if 0 ≤ l ∧ l < r 1 then 1 else 0) := by
  have e : N (w + 1) 192 = r 1 := h.2.2.2.2.2.1 1 (by omega) (by omega)
  unfold f_X10_isGood f_X10_isGood_j20 f_X10_isGood_j21
  rw [e]
  by_cases h0 : l < 0
  · rw [if_pos h0, if_pos (by omega), if_neg (by omega)]
  · rw [if_neg h0]
    by_cases h1 : l < r 1
    · rw [if_pos h1, if_pos (by omega), if_pos (by omega)]
    · rw [if_neg h1, if_pos (by omega), if_neg (by omega)]
theorem c_isRuined {l : Int} (h : Rw (N (w + 1)) r) (h0 : 0 ≤ l) (h1 : l ≤ 5) : f_X10_isRuined X N w l = some (if rl r l 2 = 0 then 0 else 1) := by
  simp (disch := omega) only [f_X10_isRuined, f_X10_isRuined_j21, w_id, gdp]
  rw [h.2.1 l 2 h0 h1 (by omega) (by omega)]
  split
  · rfl
  · rfl
theorem c_isOwnedAndHeld {g l : Int} (h : Rw (N (w + 1)) r) (h0 : 0 ≤ g) (h1 : g ≤ 15) : f_X10_isOwnedAndHeld X N w g l = some (if rg r g 0 = l ∧ rg r g 1 = l then 1 else 0) := by
  simp (disch := omega) only [f_X10_isOwnedAndHeld, f_X10_isOwnedAndHeld_j35, f_X10_isOwnedAndHeld_j36, w_id, gdp]
  rw [h.2.2.1 g 0 h0 h1 (by omega) (by omega), h.2.2.1 g 1 h0 h1 (by omega) (by omega)]
  by_cases a : rg r g 0 = l
  · rw [if_pos a]
    by_cases b : rg r g 1 = l
    · rw [if_pos b, if_pos ⟨a, b⟩]
    · rw [if_neg b, if_neg fun q => b q.2]
  · rw [if_neg a, if_neg fun q => a q.1]
theorem c_held {B : Int} {l : Int} (h : Rw (N (w + 1)) r) (hV : Vr B r) : f_X10_held X N w l = some (heldS r l) := by
  have hn := hV.2.1
  have H : Ok (lp (fun s : Int × Int × Int => b_X10_held_4 X N w s.1 s.2.1 s.2.2) (l, 0, 0)) (fun o => o = heldS r l) := by
    refine ok_up (fun i s => s = (l, sm (fun g => if rg r g 0 = l then 1 else 0) i.toNat, i)) (r 1) (i0 := 0) ?_ ?_ hn.1 rfl
    · intro i s h0 h1 e
      subst e
      have hb := sm_b (f := fun g : Nat => if rg r g 0 = l then (1 : Int) else 0) (B := 1) (n := i.toNat) (fun k _ => by split <;> omega)
      have hi : ((i.toNat : Nat) : Int) = i := by omega
      simp only [b_X10_held_4, f_X10_held_l4_j26, c_many h (k := 1) (by omega) (by omega), c_goodAt h h0 (by omega) (k := 0) (by omega) (by omega), Option.bind_some]
      rw [if_pos (by exact h1)]
      have es : sm (fun g : Nat => if rg r g 0 = l then (1 : Int) else 0) (i + 1).toNat = sm (fun g : Nat => if rg r g 0 = l then (1 : Int) else 0) i.toNat + (if rg r i 0 = l then 1 else 0) := by
        rw [show (i + 1).toNat = i.toNat + 1 by omega, sm_s, hi]
      by_cases c : rg r i 0 = l
      · rw [if_pos c]
        refine ok_ret ?_
        show _ = _
        rw [es, if_pos c, w_id (by omega) (by omega), w_id (by omega) (by omega)]
      · rw [if_neg c]
        refine ok_ret ?_
        show _ = _
        rw [es, if_neg c, w_id (by omega) (by omega), Int.add_zero]
    · intro s e
      subst e
      simp only [b_X10_held_4, c_many h (k := 1) (by omega) (by omega), Option.bind_some]
      rw [if_neg (by show ¬ r 1 < r 1; omega)]
      exact ok_ret rfl
  obtain ⟨a, e, q⟩ := H
  unfold f_X10_held
  rw [e, Option.bind_some, q]
/-- how many challenges stand against a lord -/
def owesS (r : Nat → Int) (l : Int) : Int := sm (fun f => if rd r l f = -1 then 0 else 1) 6
theorem owes_b (r : Nat → Int) (l : Int) (n : Nat) (hn : n ≤ 6) : 0 ≤ sm (fun f => if rd r l f = -1 then (0 : Int) else 1) n ∧ sm (fun f => if rd r l f = -1 then (0 : Int) else 1) n ≤ 6 := by
  have := sm_b (f := fun f : Nat => if rd r l f = -1 then (0 : Int) else 1) (B := 1) (n := n) (fun k _ => by split <;> omega)
  omega
theorem c_standingAgainst {l : Int} (h : Rw (N (w + 1)) r) (h0 : 0 ≤ l) (h1 : l ≤ 5) : f_X10_standingAgainst X N w l = some (owesS r l) := by
  have H : Ok (lp (fun s : Int × Int × Int => b_X10_standingAgainst_4 X N w s.1 s.2.1 s.2.2) (l, 0, 0)) (fun o => o = owesS r l) := by
    refine ok_up (fun i s => s = (l, sm (fun f => if rd r l f = -1 then 0 else 1) i.toNat, i)) 6 (i0 := 0) ?_ ?_ (by omega) rfl
    · intro i s a0 a1 e
      subst e
      have hb := owes_b r l i.toNat (by omega)
      have hi : ((i.toNat : Nat) : Int) = i := by omega
      simp only [b_X10_standingAgainst_4, f_X10_standingAgainst_l4_j23, c_worthOwed h h0 h1 a0 (show i ≤ 5 by omega), Option.bind_some]
      rw [if_pos a1]
      have es : sm (fun f : Nat => if rd r l f = -1 then (0 : Int) else 1) (i + 1).toNat = sm (fun f : Nat => if rd r l f = -1 then (0 : Int) else 1) i.toNat + (if rd r l i = -1 then 0 else 1) := by
        rw [show (i + 1).toNat = i.toNat + 1 by omega, sm_s, hi]
      by_cases c : rd r l i = -1
      · rw [if_pos c]
        refine ok_ret ?_
        show _ = _
        rw [es, if_pos c, w_id (by omega) (by omega), Int.add_zero]
      · rw [if_neg c]
        refine ok_ret ?_
        show _ = _
        rw [es, if_neg c, w_id (by omega) (by omega), w_id (by omega) (by omega)]
    · intro s e
      subst e
      simp only [b_X10_standingAgainst_4]
      rw [if_neg (by omega)]
      exact ok_ret rfl
  obtain ⟨a, e, q⟩ := H
  unfold f_X10_standingAgainst
  rw [e, Option.bind_some, q]
theorem c_standing (h : Rw (N (w + 1)) r) : f_X10_standing X N w = some (sm (fun l => owesS r l) 6) := by
  have H : Ok (lp (fun s : Int × Int => b_X10_standing_4 X N w s.1 s.2) (0, 0)) (fun o => o = sm (fun l => owesS r l) 6) := by
    refine ok_up (fun i s => s = (sm (fun l => owesS r l) i.toNat, i)) 6 (i0 := 0) ?_ ?_ (by omega) rfl
    · intro i s a0 a1 e
      subst e
      have hb := sm_b (f := fun l : Nat => owesS r l) (B := 6) (n := i.toNat) (fun k _ => owes_b r k 6 (by omega))
      have hc := owes_b r i 6 (by omega)
      change 0 ≤ owesS r i ∧ owesS r i ≤ 6 at hc
      have hi : ((i.toNat : Nat) : Int) = i := by omega
      simp only [b_X10_standing_4, c_standingAgainst h a0 (show i ≤ 5 by omega), Option.bind_some]
      rw [if_pos a1]
      refine ok_ret ?_
      show _ = _
      rw [show (i + 1).toNat = i.toNat + 1 by omega, sm_s, hi, w_id (by omega) (by omega), w_id (by omega) (by omega)]
    · intro s e
      subst e
      simp only [b_X10_standing_4]
      rw [if_neg (by omega)]
      exact ok_ret rfl
  obtain ⟨a, e, q⟩ := H
  unfold f_X10_standing
  rw [e, Option.bind_some, q]
/-- the best so far: (of most worth, whose it is) -/
def topS (r : Nat → Int) (l : Int) : Nat → Int × Int
  | 0 => (-1, -1)
  | k + 1 => if (topS r l k).1 < rd r l k then (rd r l k, (k : Int)) else topS r l k
theorem c_greatest {l : Int} (h : Rw (N (w + 1)) r) (h0 : 0 ≤ l) (h1 : l ≤ 5) : f_X10_greatestCreditor X N w l = some (topS r l 6).2 := by
  have H : Ok (lp (fun s : Int × Int × Int × Int => b_X10_greatestCreditor_7 X N w s.1 s.2.1 s.2.2.1 s.2.2.2) (l, -1, -1, 0)) (fun o => o = (topS r l 6).2) := by
    refine ok_up (fun i s => s = (l, (topS r l i.toNat).2, (topS r l i.toNat).1, i)) 6 (i0 := 0) ?_ ?_ (by omega) rfl
    · intro i s a0 a1 e
      subst e
      have hi : ((i.toNat : Nat) : Int) = i := by omega
      simp only [b_X10_greatestCreditor_7, f_X10_greatestCreditor_l7_j36, c_worthOwed h h0 h1 a0 (show i ≤ 5 by omega), Option.bind_some]
      rw [if_pos a1]
      have es : topS r l (i + 1).toNat = if (topS r l i.toNat).1 < rd r l i then (rd r l i, i) else topS r l i.toNat := by
        rw [show (i + 1).toNat = i.toNat + 1 by omega, topS, hi]
      by_cases c : (topS r l i.toNat).1 < rd r l i
      · rw [if_pos c]
        refine ok_ret ?_
        show _ = _
        rw [es, if_pos c, w_id (by omega) (by omega)]
      · rw [if_neg c]
        refine ok_ret ?_
        show _ = _
        rw [es, if_neg c, w_id (by omega) (by omega)]
    · intro s e
      subst e
      simp only [b_X10_greatestCreditor_7]
      rw [if_neg (by omega)]
      exact ok_ret rfl
  obtain ⟨a, e, q⟩ := H
  unfold f_X10_greatestCreditor
  rw [e, Option.bind_some, q]
end CWO
