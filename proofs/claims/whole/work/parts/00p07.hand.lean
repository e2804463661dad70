/-! gifts: on both sides the row changes alike -/
theorem ru_id {r : Nat → Int} {i v : Int} (h : r i.toNat = v) : ru r i v = r := by
  funext j
  unfold ru
  split
  · rename_i e; rw [e, h]
  · rfl
theorem ru_comm {r : Nat → Int} {i j v w : Int} (h : i.toNat ≠ j.toNat) : ru (ru r i v) j w = ru (ru r j w) i v := by
  funext k
  unfold ru
  by_cases a : k = j.toNat
  · rw [if_pos a, if_neg (by omega), if_pos a]
  · rw [if_neg a]
    by_cases b : k = i.toNat
    · rw [if_pos b, if_pos b]
    · rw [if_neg b, if_neg b, if_neg a]
def frW (w o k : Nat) : Prop := o = w + 1
def frD (w o k : Nat) : Prop := o = w + 1 ∨ o = 26 ∨ o = 27
def frN (o k : Nat) : Prop := (o = 66 ∧ k < 270) ∨ o = 81 ∨ o = 83 ∨ (o = 64 ∧ (k = 33 ∨ k = 37 ∨ k = 38 ∨ k = 39))
section HD
variable {X : MX} {N : NN} {w : Nat} {B B' : Int} {r : Nat → Int} {lw : Nat → Law}
theorem cw_set {r' : Nat → Int} {i v : Int} (hw : w < 100) (h : CW X N w B r lw) (hR : Rw (ru (N (w + 1)) i v) r') (hV : Vr B' r') (hB : B' ≤ 1000000) (h4 : r' 4 = r 4) : CW X (m_up N (w + 1) i.toNat v) w B' r' lw := by
  obtain ⟨h1, h2, h3, h5⟩ := h
  refine ⟨by rw [up_ru]; exact hR, hV, hB, fun j hj => ?_⟩
  rw [up_of (by omega)]
  have q := h5 j (by omega)
  exact ts_mono q (fun o _ _ => ⟨rfl, rfl⟩) (fun o a b => up_of (by have := q.1; omega))
theorem mw_set {i v : Int} (h : MW N B r lw) (h0 : 0 ≤ i) (h1 : i < 270) (hV : Vr B' (ru r i v)) (hB : B' ≤ 1000000) (h4 : i ≠ 4) : MW (m_up N 66 i.toNat v) B' (ru r i v) lw := by
  obtain ⟨a, b, c, d, e⟩ := h
  refine ⟨ru_hr a, hV, hB, by rw [up_o (by omega)]; exact d, fun j hj => ?_⟩
  have q := e j (by rw [ru_ne (by omega)] at hj; exact hj)
  have e2 : (fun k => m_up N 66 i.toNat v 66 (270 + 900 * j + k)) = (fun k => N 66 (270 + 900 * j + k)) := by
    funext k
    exact up_k (by omega)
  rw [e2]
  exact q
theorem c_setGood {g k v : Int} (hw : w < 100) (h : CW X N w B r lw) (h0 : 0 ≤ g) (h1 : g ≤ 15) (h2 : 0 ≤ k) (h3 : k ≤ 4) (hV : Vr B' (ru r (45 + 6 * g + k) v)) (hB : B' ≤ 1000000) : Ok (f_X10_setGood X w N g k v) (fun N' => CW X N' w B' (ru r (45 + 6 * g + k) v) lw ∧ Fr (frW w) N N') := by
  simp (disch := omega) only [f_X10_setGood, w_id, gdp]
  exact ok_ret ⟨cw_set hw h (rw_good h.1 h0 h1 h2 h3) hV hB (ru_ne (by omega)), fr_up fr_rfl rfl⟩
theorem c_setLord {l k v : Int} (hw : w < 100) (h : CW X N w B r lw) (h0 : 0 ≤ l) (h1 : l ≤ 5) (h2 : 0 ≤ k) (h3 : k ≤ 5) (hV : Vr B' (ru r (9 + 6 * l + k) v)) (hB : B' ≤ 1000000) : Ok (f_X10_setLord X w N l k v) (fun N' => CW X N' w B' (ru r (9 + 6 * l + k) v) lw ∧ Fr (frW w) N N') := by
  simp (disch := omega) only [f_X10_setLord, w_id, gdp]
  exact ok_ret ⟨cw_set hw h (rw_lord h.1 h0 h1 h2 h3) hV hB (ru_ne (by omega)), fr_up fr_rfl rfl⟩
theorem c_oneMoreOf {l k : Int} (hw : w < 100) (h : CW X N w B r lw) (h0 : 0 ≤ l) (h1 : l ≤ 5) (h2 : 3 ≤ k) (h3 : k ≤ 5) : Ok (f_X10_oneMoreOf X w N l k) (fun N' => CW X N' w B (ru r (9 + 6 * l + k) (m_w (rl r l k + 1))) lw ∧ Fr (frW w) N N') := by
  simp (disch := omega) only [f_X10_oneMoreOf, w_id (x := l * 6), w_id (x := 3 + l * 6), w_id (x := 3 + l * 6 + k), gdp]
  rw [h.1.2.1 l k h0 h1 (by omega) h3]
  exact ok_ret ⟨cw_set hw h (rw_lord h.1 h0 h1 (by omega) h3) (vr_foul h.2.1 h0 h1 h2 h3) h.2.2.1 (ru_ne (by omega)), fr_up fr_rfl rfl⟩
theorem c_setTerm {k v : Int} (hw : w < 100) (h : CW X N w B r lw) (h0 : 0 ≤ k) (h1 : k ≤ 2) (hV : Vr B' (ru r (6 + k) v)) (hB : B' ≤ 1000000) : Ok (f_X10_setTerm X w N k v) (fun N' => CW X N' w B' (ru r (6 + k) v) lw ∧ Fr (frW w) N N') := by
  simp (disch := omega) only [f_X10_setTerm, gdp]
  exact ok_ret ⟨cw_set hw h (rw_term h.1 h0 h1) hV hB (ru_ne (by omega)), fr_up fr_rfl rfl⟩
theorem c_settle {a f : Int} (hw : w < 100) (h : CW X N w B r lw) (h0 : 0 ≤ a) (h1 : a ≤ 5) (h2 : 0 ≤ f) (h3 : f ≤ 5) : Ok (f_X10_settle X w N a f) (fun N' => CW X N' w B (ru r (141 + 2 * (6 * a + f)) (-1)) lw ∧ Fr (frW w) N N') := by
  simp (disch := omega) only [f_X10_settle, w_id, gdp]
  exact ok_ret ⟨cw_set hw h (rw_debt h.1 h0 h1 h2 h3) (vr_debt h.2.1 h0 h1 h2 h3 (Or.inl rfl)) h.2.2.1 (ru_ne (by omega)), fr_up fr_rfl rfl⟩
theorem c_stand {a f v y : Int} (hw : w < 100) (h : CW X N w B r lw) (h0 : 0 ≤ a) (h1 : a ≤ 5) (h2 : 0 ≤ f) (h3 : f ≤ 5) (hv : 0 ≤ v ∧ v ≤ 999 ∧ a < r 0 ∧ f < r 0 ∧ a ≠ f) (hy : 0 ≤ y ∧ y ≤ 999) : Ok (f_X10_stand X w N a f v y) (fun N' => CW X N' w B (ru (ru r (141 + 2 * (6 * a + f) + 1) y) (141 + 2 * (6 * a + f)) v) lw ∧ Fr (frW w) N N') := by
  simp (disch := omega) only [f_X10_stand, w_id, gdp]
  have e0 : ru r (141 + 2 * (6 * a + f)) v 0 = r 0 := ru_ne (by omega)
  have h2' : CW X (m_up N (w + 1) (119 + a * 6 + f).toNat v) w B (ru r (141 + 2 * (6 * a + f)) v) lw := cw_set hw h (rw_debt h.1 h0 h1 h2 h3) (vr_debt h.2.1 h0 h1 h2 h3 (Or.inr hv)) h.2.2.1 (ru_ne (by omega))
  refine ok_ret ⟨?_, fr_up (fr_up fr_rfl (show frW w (w + 1) _ from rfl)) (show frW w (w + 1) _ from rfl)⟩
  rw [ru_comm (by omega)]
  exact cw_set hw h2' (rw_since h2'.1 h0 h1 h2 h3) (vr_since h2'.2.1 h0 h1 h2 h3 hy) h2'.2.2.1 (ru_ne (by omega))
/-- a challenge by a gift of worth v -/
def chalS (r : Nat → Int) (gv to v : Int) : Nat → Int :=
  if rd r gv to ≠ -1 ∧ v ≤ rd r gv to then r
  else if rd (ru r (141 + 2 * (6 * gv + to)) (-1)) to gv = -1 then ru (ru (ru r (141 + 2 * (6 * gv + to)) (-1)) (141 + 2 * (6 * to + gv) + 1) (r 6)) (141 + 2 * (6 * to + gv)) v
  else ru (ru r (141 + 2 * (6 * gv + to)) (-1)) (141 + 2 * (6 * to + gv)) (max v (rd (ru r (141 + 2 * (6 * gv + to)) (-1)) to gv))
def handS (r : Nat → Int) (lw : Nat → Law) (g to : Int) : Nat → Int :=
  let r2 := ru (ru r (45 + 6 * g + 0) to) (45 + 6 * g + 4) (rg r g 4 + 1)
  if rg r g 1 = rg r g 0 then chalS r2 (rg r g 0) to (worthS r lw g (rg r g 0) to) else ru r2 (9 + 6 * rg r g 0 + 3) (m_w (rl r2 (rg r g 0) 3 + 1))
def canS (r : Nat → Int) (lw : Nat → Law) (g to : Int) : Prop := rg r g 0 ≠ to ∧ rl r (rg r g 0) 2 = 0 ∧ rl r to 2 = 0 ∧ barS r lw g (rg r g 0) to = false
theorem c_chal27 {gv to v : Int} (hw : w < 100) (h : CW X N w B r lw) (h0 : 0 ≤ gv) (h1 : gv < r 0) (h2 : 0 ≤ to) (h3 : to < r 0) (hne : gv ≠ to) (hv : 0 ≤ v ∧ v ≤ 999) :
    Ok (f_X0_challenge_j27 X w N gv to v) (fun N' => CW X N' w B (if rd r to gv = -1 then ru (ru r (141 + 2 * (6 * to + gv) + 1) (r 6)) (141 + 2 * (6 * to + gv)) v else ru r (141 + 2 * (6 * to + gv)) (max v (rd r to gv))) lw ∧ Fr (frW w) N N') := by
  have v0 := h.2.1.1
  have v6 := h.2.1.2.2.2.2.2.2.1
  have vd := h.2.1.2.2.2.2.2.2.2.2.2.2.2.1 to gv h2 (by omega) h0 (by omega)
  unfold f_X0_challenge_j27
  refine ok_bd (c_worthOwed h.1 h2 (by omega) h0 (by omega)) ?_
  by_cases c : rd r to gv = -1
  · rw [if_pos c, if_pos c]
    refine ok_bd (c_term h.1 (by omega) (by omega)) ?_
    refine ok_bind (c_stand (B := B) (y := r (6 + 0 : Int).toNat) hw h h2 (by omega) h0 (by omega) ⟨hv.1, hv.2, h3, h1, fun e => hne e.symm⟩ v6) ?_
    intro N' p
    exact ok_ret p
  · rw [if_neg c, if_neg c]
    refine ok_bd (c_since h.1 h2 (by omega) h0 (by omega)) ?_
    rw [max_id]
    refine ok_bind (c_stand (B := B) hw h h2 (by omega) h0 (by omega) ⟨by omega, by omega, h3, h1, fun e => hne e.symm⟩ ⟨vd.2.2.1, vd.2.2.2.1⟩) ?_
    intro N' p
    refine ok_ret ⟨?_, p.2⟩
    have q := p.1
    rw [ru_id (r := r) (i := 141 + 2 * (6 * to + gv) + 1) (v := rs r to gv) rfl, Int.max_comm] at q
    exact q
theorem c_challenge {gv to v : Int} (hw : w < 100) (h : CW X N w B r lw) (h0 : 0 ≤ gv) (h1 : gv < r 0) (h2 : 0 ≤ to) (h3 : to < r 0) (hne : gv ≠ to) (hv : 0 ≤ v ∧ v ≤ 999) :
    Ok (f_X0_challenge X w N gv to v) (fun N' => CW X N' w B (chalS r gv to v) lw ∧ Fr (frW w) N N') := by
  have v0 := h.2.1.1
  unfold f_X0_challenge
  refine ok_bd (c_worthOwed h.1 h0 (by omega) h2 (by omega)) ?_
  unfold chalS
  by_cases c : rd r gv to = -1
  · rw [if_pos c, if_neg (fun q => q.1 c), ru_id (r := r) (i := 141 + 2 * (6 * gv + to)) c]
    exact c_chal27 hw h h0 h1 h2 h3 hne hv
  · rw [if_neg c]
    by_cases c2 : rd r gv to < v
    · rw [if_pos c2, if_neg (by omega)]
      refine ok_bind (c_settle hw h h0 (by omega) h2 (by omega)) ?_
      intro N1 ⟨p1, p2⟩
      have e0 : ru r (141 + 2 * (6 * gv + to)) (-1) 0 = r 0 := ru_ne (by omega)
      have e6 : ru r (141 + 2 * (6 * gv + to)) (-1) 6 = r 6 := ru_ne (by omega)
      refine ok_mono (c_chal27 hw p1 h0 (by rw [e0]; exact h1) h2 (by rw [e0]; exact h3) hne hv) ?_
      intro N' ⟨q1, q2⟩
      rw [e6] at q1
      exact ⟨q1, fr_tr p2 q2⟩
    · rw [if_neg c2, if_pos ⟨c, by omega⟩]
      exact ok_ret ⟨h, fr_rfl⟩
theorem c_mayGive {g to : Int} (hw : w = 4 ∨ w = 30) (hsk : m_Sk26 X) (h : CW X N w B r lw) (h0 : 0 ≤ g) (h1 : g < r 1) (h2 : 0 ≤ to) (h3 : to < r 0) : Ok (f_X0_mayGive X w N g to) (fun o => ((canS r lw g to ∧ o.1 = 1) ∨ (¬ canS r lw g to ∧ o.1 = 0)) ∧ Fr frJ N o.2) := by
  have hV := h.2.1
  have v0 := hV.1
  have v1 := hV.2.1
  have vg := hV.2.2.2.2.2.2.2.2.2.2.1 g h0 h1
  unfold f_X0_mayGive f_X0_mayGive_j50 f_X0_mayGive_j51
  refine ok_bd (c_goodAt h.1 h0 (by omega) (by omega) (by omega)) ?_
  by_cases c1 : rg r g 0 = to
  · rw [if_pos c1]
    exact ok_ret ⟨Or.inr ⟨fun q => q.1 c1, rfl⟩, fr_rfl⟩
  rw [if_neg c1]
  refine ok_bd (c_isRuined h.1 vg.1 (by omega)) ?_
  by_cases c2 : rl r (rg r g 0) 2 = 0
  case neg =>
    rw [if_neg c2, if_neg (by omega)]
    exact ok_ret ⟨Or.inr ⟨fun q => c2 q.2.1, rfl⟩, fr_rfl⟩
  rw [if_pos c2, if_pos rfl]
  refine ok_bd (c_isRuined h.1 h2 (by omega)) ?_
  by_cases c3 : rl r to 2 = 0
  case neg =>
    rw [if_neg c3, if_neg (by omega)]
    exact ok_ret ⟨Or.inr ⟨fun q => c3 q.2.2.1, rfl⟩, fr_rfl⟩
  rw [if_pos c3, if_pos rfl]
  refine ok_bind (c_bars hw hsk h h0 h1 (by omega) (by omega)) ?_
  rintro ⟨z, N'⟩ ⟨p1, p2⟩
  dsimp only at p1 p2 ⊢
  cases hb : barS r lw g (rg r g 0) to with
  | true =>
    rw [hb, if_pos rfl] at p1
    rw [p1, if_neg (by omega)]
    exact ok_ret ⟨Or.inr ⟨fun q => (by have := q.2.2.2; rw [hb] at this; cases this), rfl⟩, p2⟩
  | false =>
    rw [hb, if_neg (by simp)] at p1
    rw [p1, if_pos rfl]
    exact ok_ret ⟨Or.inl ⟨⟨c1, c2, c3, hb⟩, rfl⟩, p2⟩
theorem c_hand {g to : Int} (hw : w = 4 ∨ w = 30) (hsk : m_Sk26 X) (h : CW X N w B r lw) (hB : B + 1 ≤ 1000000) (h0 : 0 ≤ g) (h1 : g < r 1) (h2 : 0 ≤ to) (h3 : to < r 0) (hne : rg r g 0 ≠ to) : Ok (f_X0_hand X w N g to) (fun o => o.1 = worthS r lw g (rg r g 0) to ∧ CW X o.2 w (B + 1) (handS r lw g to) lw ∧ Fr (frD w) N o.2) := by
  have hV := h.2.1
  have v0 := hV.1
  have v1 := hV.2.1
  have vg := hV.2.2.2.2.2.2.2.2.2.2.1 g h0 h1
  have hwb := worthS_b r lw g (rg r g 0) to
  have hw1 : w < 100 := by omega
  unfold f_X0_hand f_X0_hand_j73
  refine ok_bd (c_goodAt h.1 h0 (by omega) (by omega) (by omega)) ?_
  refine ok_bind (c_worth hw hsk h h0 h1 (by omega) (by omega)) ?_
  rintro ⟨z, N1⟩ ⟨p1, p2⟩
  dsimp only at p1 p2 ⊢
  subst p1
  have hC1 := cw_J hw h p2
  have f1 : Fr (frD w) N N1 := fr_mono p2 fun o k q => Or.inr q
  refine ok_bind (c_setGood (B' := B) hw1 hC1 h0 (by omega) (by omega) (by omega) (vr_holder hV h0 (by omega) (fun _ => ⟨h2, h3⟩)) h.2.2.1) ?_
  intro N2 ⟨hC2, g2⟩
  have f2 : Fr (frD w) N N2 := fr_tr f1 (fr_mono g2 fun o k q => Or.inl q)
  refine ok_bd (c_goodAt hC2.1 h0 (by omega) (by omega) (by omega)) ?_
  have e4 : rg (ru r (45 + 6 * g + 0) to) g 4 = rg r g 4 := ru_ne (by omega)
  rw [e4, w_id (by omega) (by omega)]
  have q1 : ru r (45 + 6 * g + 0) to 1 = r 1 := ru_ne (by omega)
  refine ok_bind (c_setGood (B' := B + 1) hw1 hC2 h0 (by omega) (by omega) (by omega) (vr_given (vr_B hC2.2.1 (by omega)) h0 (by omega) (fun _ => ⟨by omega, by omega⟩)) hB) ?_
  intro N3 ⟨hC3, g3⟩
  have f3 : Fr (frD w) N N3 := fr_tr f2 (fr_mono g3 fun o k q => Or.inl q)
  refine ok_bd (c_goodAt hC3.1 h0 (by omega) (by omega) (by omega)) ?_
  have e1 : rg (ru (ru r (45 + 6 * g + 0) to) (45 + 6 * g + 4) (rg r g 4 + 1)) g 1 = rg r g 1 := by
    unfold rg
    rw [ru_ne (by omega), ru_ne (by omega)]
  have e0 : ru (ru r (45 + 6 * g + 0) to) (45 + 6 * g + 4) (rg r g 4 + 1) 0 = r 0 := by rw [ru_ne (by omega), ru_ne (by omega)]
  rw [e1]
  unfold handS
  by_cases c : rg r g 1 = rg r g 0
  · rw [if_pos c, if_pos c]
    refine ok_bind (c_challenge hw1 hC3 vg.1 (by rw [e0]; exact vg.2.1) h2 (by rw [e0]; exact h3) hne hwb) ?_
    intro N4 ⟨hC4, g4⟩
    exact ok_ret ⟨rfl, hC4, fr_tr f3 (fr_mono g4 fun o k q => Or.inl q)⟩
  · rw [if_neg c, if_neg c]
    refine ok_bind (c_oneMoreOf hw1 hC3 vg.1 (by omega) (by omega) (by omega)) ?_
    intro N4 ⟨hC4, g4⟩
    exact ok_ret ⟨rfl, hC4, fr_tr f3 (fr_mono g4 fun o k q => Or.inl q)⟩
/-! the reference's gift -/
theorem frN_M {N' : NN} (h : Fr frM N N') : Fr frN N N' := fr_mono h fun o k q => Or.inr q
theorem frN_up {N' : NN} {k : Nat} {x : Int} (h : Fr frN N N') (hk : k < 270) : Fr frN N (m_up N' 66 k x) := fr_up h (Or.inl ⟨rfl, hk⟩)
theorem ref_debtAt {a f : Int} (h0 : 0 ≤ a) (h1 : a ≤ 5) (h2 : 0 ≤ f) (h3 : f ≤ 5) : f_X12_debtAt X N a f = some (141 + 2 * (6 * a + f)) := by
  simp (disch := omega) only [f_X12_debtAt, w_id]
theorem ref_gift190 {a f v : Int} (h : MW N B r lw) (h0 : 0 ≤ a) (h1 : a < r 0) (h2 : 0 ≤ f) (h3 : f < r 0) (hne : a ≠ f) (hv : 0 ≤ v ∧ v ≤ 999) :
    Ok (f_X12_gift_j190 X N v (141 + 2 * (6 * a + f))) (fun o => o.1 = v ∧ MW o.2 B (ru r (141 + 2 * (6 * a + f)) (max v (rd r a f))) lw ∧ Fr frN N o.2) := by
  have v0 := h.2.1.1
  have vd := h.2.1.2.2.2.2.2.2.2.2.2.2.2.1 a f h0 (by omega) h2 (by omega)
  have e : N 66 (141 + 2 * (6 * a + f)).toNat = rd r a f := h.1 _ (by omega)
  unfold f_X12_gift_j190 f_X12_gift_j220
  simp (disch := omega) only [gdp]
  rw [e]
  by_cases c : rd r a f < v
  · rw [if_pos c, show max v (rd r a f) = v by omega]
    exact ok_ret ⟨rfl, mw_set h (by omega) (by omega) (vr_debt h.2.1 h0 (by omega) h2 (by omega) (Or.inr ⟨hv.1, hv.2, h1, h3, hne⟩)) h.2.2.1 (by omega), frN_up fr_rfl (by omega)⟩
  · rw [if_neg c, show max v (rd r a f) = rd r a f by omega]
    exact ok_ret ⟨rfl, mw_set h (by omega) (by omega) (vr_debt h.2.1 h0 (by omega) h2 (by omega) (Or.inr ⟨by omega, by omega, h1, h3, hne⟩)) h.2.2.1 (by omega), frN_up fr_rfl (by omega)⟩
theorem ref_gift158 {gv to v : Int} (h : MW N B r lw) (h0 : 0 ≤ gv) (h1 : gv < r 0) (h2 : 0 ≤ to) (h3 : to < r 0) (hne : gv ≠ to) (hv : 0 ≤ v ∧ v ≤ 999) :
    Ok (f_X12_gift_j158 X N v (141 + 2 * (6 * gv + to)) (141 + 2 * (6 * to + gv))) (fun o => o.1 = v ∧ MW o.2 B (if rd (ru r (141 + 2 * (6 * gv + to)) (-1)) to gv = -1 then ru (ru (ru r (141 + 2 * (6 * gv + to)) (-1)) (141 + 2 * (6 * to + gv) + 1) (r 6)) (141 + 2 * (6 * to + gv)) v
  else ru (ru r (141 + 2 * (6 * gv + to)) (-1)) (141 + 2 * (6 * to + gv)) (max v (rd (ru r (141 + 2 * (6 * gv + to)) (-1)) to gv))) lw ∧ Fr frN N o.2) := by
  have v0 := h.2.1.1
  have v6 := h.2.1.2.2.2.2.2.2.1
  have hM1 : MW (m_up N 66 (141 + 2 * (6 * gv + to)).toNat (-1)) B (ru r (141 + 2 * (6 * gv + to)) (-1)) lw := mw_set h (by omega) (by omega) (vr_debt h.2.1 h0 (by omega) h2 (by omega) (Or.inl rfl)) h.2.2.1 (by omega)
  have f1 : Fr frN N (m_up N 66 (141 + 2 * (6 * gv + to)).toNat (-1)) := frN_up fr_rfl (by omega)
  unfold f_X12_gift_j158
  rw [gdp (by omega)]
  dsimp only
  rw [gdp (by omega)]
  revert hM1 f1
  generalize m_up N 66 (141 + 2 * (6 * gv + to)).toNat (-1) = N1
  intro hM1 f1
  have e0 : ru r (141 + 2 * (6 * gv + to)) (-1) 0 = r 0 := ru_ne (by omega)
  have e6 : ru r (141 + 2 * (6 * gv + to)) (-1) 6 = r 6 := ru_ne (by omega)
  have e : N1 66 (141 + 2 * (6 * to + gv)).toNat = rd (ru r (141 + 2 * (6 * gv + to)) (-1)) to gv := hM1.1 _ (by omega)
  rw [e]
  by_cases c : rd (ru r (141 + 2 * (6 * gv + to)) (-1)) to gv = -1
  · rw [if_pos c, if_pos c]
    refine ok_bd (ref_year hM1.1) ?_
    rw [w_id (by omega) (by omega), gdp (by omega), e6]
    have hM2 : MW (m_up N1 66 (141 + 2 * (6 * to + gv) + 1).toNat (r 6)) B (ru (ru r (141 + 2 * (6 * gv + to)) (-1)) (141 + 2 * (6 * to + gv) + 1) (r 6)) lw := mw_set hM1 (by omega) (by omega) (vr_since hM1.2.1 h2 (by omega) h0 (by omega) v6) hM1.2.2.1 (by omega)
    have f2 : Fr frN N (m_up N1 66 (141 + 2 * (6 * to + gv) + 1).toNat (r 6)) := frN_up f1 (by omega)
    have e0' : ru (ru r (141 + 2 * (6 * gv + to)) (-1)) (141 + 2 * (6 * to + gv) + 1) (r 6) 0 = r 0 := by rw [ru_ne (by omega), e0]
    refine ok_mono (ref_gift190 hM2 h2 (by rw [e0']; exact h3) h0 (by rw [e0']; exact h1) (fun q => hne q.symm) hv) ?_
    rintro ⟨z, N'⟩ ⟨p1, p2, p3⟩
    have em : rd (ru (ru r (141 + 2 * (6 * gv + to)) (-1)) (141 + 2 * (6 * to + gv) + 1) (r 6)) to gv = -1 := by
      refine Eq.trans ?_ c
      unfold rd
      rw [ru_ne (r := ru r (141 + 2 * (6 * gv + to)) (-1)) (by omega)]
    rw [em, show max v (-1) = v by omega] at p2
    exact ⟨p1, p2, fr_tr f2 p3⟩
  · rw [if_neg c, if_neg c]
    refine ok_mono (ref_gift190 hM1 h2 (by rw [e0]; exact h3) h0 (by rw [e0]; exact h1) (fun q => hne q.symm) hv) ?_
    rintro ⟨z, N'⟩ ⟨p1, p2, p3⟩
    exact ⟨p1, p2, fr_tr f1 p3⟩
theorem ref_gift {g to : Int} (h : MW N B r lw) (hB : B + 1 ≤ 1000000) (h0 : 0 ≤ g) (h1 : g < r 1) (h2 : 0 ≤ to) (h3 : to < r 0) : Ok (f_X12_gift X N g to) (fun o => ((canS r lw g to ∧ o.1 = worthS r lw g (rg r g 0) to ∧ MW o.2 (B + 1) (handS r lw g to) lw) ∨ (¬ canS r lw g to ∧ o.1 = -3 ∧ MW o.2 B r lw)) ∧ Fr frN N o.2) := by
  have hV := h.2.1
  have v0 := hV.1
  have v1 := hV.2.1
  have vg := hV.2.2.2.2.2.2.2.2.2.2.1 g h0 h1
  have vl := hV.2.2.2.2.2.2.2.2.2.1 to h2 (by omega)
  have vl2 := hV.2.2.2.2.2.2.2.2.2.1 (rg r g 0) vg.1 (by omega)
  have hwb := worthS_b r lw g (rg r g 0) to
  unfold f_X12_gift f_X12_gift_j42
  refine ok_bd (ref_ofGood h.1 h0 (by omega) (by omega) (by omega)) ?_
  by_cases c1 : rg r g 0 = to
  · rw [if_pos c1]
    exact ok_ret ⟨Or.inr ⟨fun q => q.1 c1, rfl, h⟩, fr_rfl⟩
  rw [if_neg c1]
  refine ok_bd (ref_ofLord h.1 vg.1 (by omega) (by omega) (by omega)) ?_
  by_cases c2 : rl r (rg r g 0) 2 = 1
  · rw [if_pos c2]
    exact ok_ret ⟨Or.inr ⟨fun q => by have := q.2.1; omega, rfl, h⟩, fr_rfl⟩
  rw [if_neg c2]
  refine ok_bd (ref_ofLord h.1 h2 (by omega) (by omega) (by omega)) ?_
  by_cases c3 : rl r to 2 = 1
  · rw [if_pos c3]
    exact ok_ret ⟨Or.inr ⟨fun q => by have := q.2.2.1; omega, rfl, h⟩, fr_rfl⟩
  rw [if_neg c3]
  refine ok_bind (ref_isBarred h h0 h1 (by omega) (by omega)) ?_
  rintro ⟨z, N1⟩ ⟨p1, p2⟩
  dsimp only at p1 p2 ⊢
  have hM1 := mw_M h p2
  cases hb : barS r lw g (rg r g 0) to with
  | true =>
    rw [hb, if_pos rfl] at p1
    rw [p1, if_neg (by omega)]
    exact ok_ret ⟨Or.inr ⟨fun q => (by have := q.2.2.2; rw [hb] at this; cases this), rfl, hM1⟩, frN_M p2⟩
  | false =>
    rw [hb, if_neg (by simp)] at p1
    rw [p1, if_pos rfl]
    have can : canS r lw g to := ⟨c1, by omega, by omega, hb⟩
    refine ok_bind (ref_worthOf hM1 h0 h1 (by omega) (by omega)) ?_
    rintro ⟨z2, N2⟩ ⟨p3, p4⟩
    dsimp only at p3 p4 ⊢
    subst p3
    have hM2 := mw_M hM1 p4
    have f2 : Fr frN N N2 := frN_M (fr_tr p2 p4)
    simp (disch := omega) only [w_id (x := 6 * g), w_id (x := 45 + 6 * g), w_id (x := 45 + 6 * g + 0), w_id (x := 45 + 6 * g + 4), gdp]
    have hM3 : MW (m_up N2 66 (45 + 6 * g + 0).toNat to) B (ru r (45 + 6 * g + 0) to) lw := mw_set hM2 (by omega) (by omega) (vr_holder hV h0 (by omega) (fun _ => ⟨h2, h3⟩)) h.2.2.1 (by omega)
    have f3 : Fr frN N (m_up N2 66 (45 + 6 * g + 0).toNat to) := frN_up f2 (by omega)
    revert hM3 f3
    generalize m_up N2 66 (45 + 6 * g + 0).toNat to = N3
    intro hM3 f3
    have e4 : N3 66 (45 + 6 * g + 4).toNat = rg r g 4 := by
      rw [hM3.1 _ (by omega)]
      exact ru_ne (by omega)
    rw [e4, w_id (by omega) (by omega)]
    have q1 : ru r (45 + 6 * g + 0) to 1 = r 1 := ru_ne (by omega)
    have hM4 : MW (m_up N3 66 (45 + 6 * g + 4).toNat (rg r g 4 + 1)) (B + 1) (ru (ru r (45 + 6 * g + 0) to) (45 + 6 * g + 4) (rg r g 4 + 1)) lw := mw_set hM3 (by omega) (by omega) (vr_given (vr_B hM3.2.1 (by omega)) h0 (by omega) (fun _ => ⟨by omega, by omega⟩)) hB (by omega)
    have f4 : Fr frN N (m_up N3 66 (45 + 6 * g + 4).toNat (rg r g 4 + 1)) := frN_up f3 (by omega)
    revert hM4 f4
    generalize m_up N3 66 (45 + 6 * g + 4).toNat (rg r g 4 + 1) = N4
    intro hM4 f4
    refine ok_bd (ref_ofGood hM4.1 h0 (by omega) (by omega) (by omega)) ?_
    have e1 : rg (ru (ru r (45 + 6 * g + 0) to) (45 + 6 * g + 4) (rg r g 4 + 1)) g 1 = rg r g 1 := by
      unfold rg
      rw [ru_ne (by omega), ru_ne (by omega)]
    have e0 : ru (ru r (45 + 6 * g + 0) to) (45 + 6 * g + 4) (rg r g 4 + 1) 0 = r 0 := by rw [ru_ne (by omega), ru_ne (by omega)]
    rw [e1]
    have eh : handS r lw g to = (if rg r g 1 = rg r g 0 then chalS (ru (ru r (45 + 6 * g + 0) to) (45 + 6 * g + 4) (rg r g 4 + 1)) (rg r g 0) to (worthS r lw g (rg r g 0) to) else ru (ru (ru r (45 + 6 * g + 0) to) (45 + 6 * g + 4) (rg r g 4 + 1)) (9 + 6 * rg r g 0 + 3) (m_w (rl (ru (ru r (45 + 6 * g + 0) to) (45 + 6 * g + 4) (rg r g 4 + 1)) (rg r g 0) 3 + 1))) := rfl
    rw [eh]
    by_cases c : rg r g 1 = rg r g 0
    · rw [if_pos c, if_pos c]
      refine ok_bd (ref_debtAt vg.1 (by omega) h2 (by omega)) ?_
      refine ok_bd (ref_debtAt h2 (by omega) vg.1 (by omega)) ?_
      simp (disch := omega) only [gdp]
      revert hM4 e0
      generalize ru (ru r (45 + 6 * g + 0) to) (45 + 6 * g + 4) (rg r g 4 + 1) = r4
      intro hM4 e0
      have ed : N4 66 (141 + 2 * (6 * rg r g 0 + to)).toNat = rd r4 (rg r g 0) to := hM4.1 _ (by omega)
      rw [ed]
      unfold chalS
      have K := ref_gift158 (X := X) hM4 vg.1 (by rw [e0]; exact vg.2.1) h2 (by rw [e0]; exact h3) c1 hwb
      by_cases d : rd r4 (rg r g 0) to = -1
      · rw [if_pos d, if_neg (fun q => q.1 d)]
        refine ok_mono K ?_
        rintro ⟨z, N'⟩ ⟨k1, k2, k3⟩
        exact ⟨Or.inl ⟨can, k1, k2⟩, fr_tr f4 k3⟩
      · rw [if_neg d]
        by_cases d2 : rd r4 (rg r g 0) to < worthS r lw g (rg r g 0) to
        · rw [if_pos d2, if_neg (by omega)]
          refine ok_mono K ?_
          rintro ⟨z, N'⟩ ⟨k1, k2, k3⟩
          exact ⟨Or.inl ⟨can, k1, k2⟩, fr_tr f4 k3⟩
        · rw [if_neg d2, if_pos ⟨d, by omega⟩]
          exact ok_ret ⟨Or.inl ⟨can, rfl, hM4⟩, f4⟩
    · rw [if_neg c, if_neg c]
      simp (disch := omega) only [w_id (x := 6 * rg r g 0), w_id (x := 9 + 6 * rg r g 0), w_id (x := 9 + 6 * rg r g 0 + 3), gdp]
      have ed : N4 66 (9 + 6 * rg r g 0 + 3).toNat = rl (ru (ru r (45 + 6 * g + 0) to) (45 + 6 * g + 4) (rg r g 4 + 1)) (rg r g 0) 3 := hM4.1 _ (by omega)
      rw [ed]
      refine ok_ret ⟨Or.inl ⟨can, rfl, ?_⟩, frN_up f4 (by omega)⟩
      exact mw_set hM4 (by omega) (by omega) (vr_foul hM4.2.1 vg.1 (by omega) (by omega) (by omega)) hB (by omega)
end HD
