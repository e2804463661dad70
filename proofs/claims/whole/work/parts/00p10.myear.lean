/-! the reference: a year passes -/
section MY
variable {X : MX} {N : NN} {B : Int} {r : Nat → Int} {lw : Nat → Law}
theorem ref_drop {a1 l : Int} (h : MW N B r lw) (h0 : 0 ≤ l) (h1 : l ≤ 5) : Ok (lp (fun s : NN × Int × Int × Int => b_X12_wait1_144 X s.1 s.2.1 s.2.2.1 s.2.2.2) (N, a1, l, 0)) (fun o => o.2 = (a1, l) ∧ MW o.1 B (dropK r l 6) lw ∧ Fr frN N o.1) := by
  refine ok_up (fun i s => ∃ M, s = (M, a1, l, i) ∧ MW M B (dropK r l i.toNat) lw ∧ Fr frN N M) 6 (i0 := 0) ?_ ?_ (by omega) ⟨N, rfl, h, fr_rfl⟩
  · rintro i s a0 b1 ⟨M, rfl, hM, hf⟩
    have hi : ((i.toNat : Nat) : Int) = i := by omega
    dsimp only
    unfold b_X12_wait1_144
    rw [if_pos b1]
    refine ok_bd (ref_debtAt h0 h1 a0 (by omega)) ?_
    rw [gdp (by omega)]
    dsimp only
    have hM1 : MW (m_up M 66 (141 + 2 * (6 * l + i)).toNat (-1)) B (ru (dropK r l i.toNat) (141 + 2 * (6 * l + i)) (-1)) lw := mw_set hM (by omega) (by omega) (vr_debt hM.2.1 h0 h1 a0 (by omega) (Or.inl rfl)) hM.2.2.1 (by omega)
    refine ok_bd (ref_debtAt a0 (by omega) h0 h1) ?_
    rw [gdp (by omega)]
    refine ok_ret ⟨_, by rw [w_id (by omega) (by omega)], ?_, frN_up (frN_up hf (by omega)) (by omega)⟩
    rw [show (i + 1).toNat = i.toNat + 1 by omega, dropK, hi]
    exact mw_set hM1 (by omega) (by omega) (vr_debt hM1.2.1 a0 (by omega) h0 h1 (Or.inl rfl)) hM1.2.2.1 (by omega)
  · rintro s ⟨M, rfl, hM, hf⟩
    dsimp only
    unfold b_X12_wait1_144
    rw [if_neg (by omega)]
    exact ok_ret ⟨rfl, hM, hf⟩
theorem ref_year62 {b l z n : Int} (h : MW N B r lw) (h0 : 0 ≤ l) (h1 : l ≤ 5) (hy : r 6 ≤ 999) (hz : z = (if bit b l = 1 then 0 else rl r l 1)) (hn : 0 ≤ n ∧ n ≤ 6) :
    Ok (f_X12_wait1_l15_j62 X N n l (9 + 6 * l) (rl r l 0) z) (fun o => ∃ N', o = .inl (N', n + fallS r lw b l, l + 1) ∧ MW N' B (lordS r lw b l) lw ∧ Fr frN N N') := by
  have hV := h.2.1
  have vl := hV.2.2.2.2.2.2.2.2.2.1 l h0 h1
  have v6 := hV.2.2.2.2.2.2.1
  have hb := has_b (b := b) hV h0 h1
  have hc := costsS_b hV lw l (r 6) (r 1).toNat (by have := hV.2.1; omega)
  change 0 ≤ costsS r lw l (r 6) ∧ costsS r lw l (r 6) ≤ 1584 at hc
  have ez : max 0 (min 9999 (m_w (rl r l 0 + z))) = hasS r b l := by
    rw [hz, w_id (by split <;> omega) (by split <;> omega)]
    unfold hasS
    split <;> omega
  have ew : m_w (l + 1) = l + 1 := w_id (by omega) (by omega)
  unfold f_X12_wait1_l15_j62
  refine ok_bd (ref_within (by omega) (by omega) (by omega)) ?_
  rw [ez]
  refine ok_bd (ref_year h.1) ?_
  refine ok_bind (ref_costs h h0 h1 (by omega)) ?_
  rintro ⟨v, N1⟩ ⟨p1, p2⟩
  dsimp only at p1 p2 ⊢
  subst p1
  have hM1 := mw_M h p2
  have f1 : Fr frN N N1 := frN_M p2
  unfold f_X12_wait1_l15_j105 f_X12_wait1_l15_j130 f_X12_wait1_l15_j181 lordS
  have ei : (9 + 6 * l).toNat = (9 + 6 * l + 0).toNat := by omega
  by_cases c : hasS r b l < costsS r lw l (r 6)
  · rw [if_pos c, if_pos c, if_pos c, gdp (by omega), ei]
    dsimp only
    have hM2 : MW (m_up N1 66 (9 + 6 * l + 0).toNat 0) B (ru r (9 + 6 * l + 0) 0) lw := mw_set hM1 (by omega) (by omega) (vr_grain hV h0 h1 (by omega) (by omega)) h.2.2.1 (by omega)
    have f2 : Fr frN N (m_up N1 66 (9 + 6 * l + 0).toNat 0) := frN_up f1 (by omega)
    revert hM2 f2
    generalize m_up N1 66 (9 + 6 * l + 0).toNat 0 = N2
    intro hM2 f2
    rw [if_pos c, w_id (x := 9 + 6 * l + 2) (by omega) (by omega)]
    simp (disch := omega) only [gdp]
    have e2 : N2 66 (9 + 6 * l + 2).toNat = rl r l 2 := by
      rw [hM2.1 _ (by omega)]
      exact ru_ne (by omega)
    rw [e2]
    have hM3 : MW (m_up N2 66 (9 + 6 * l + 2).toNat 1) B (ru (ru r (9 + 6 * l + 0) 0) (9 + 6 * l + 2) 1) lw := mw_set hM2 (by omega) (by omega) (vr_ruin hM2.2.1 h0 h1 (by omega) (by omega)) h.2.2.1 (by omega)
    have f3 : Fr frN N (m_up N2 66 (9 + 6 * l + 2).toNat 1) := frN_up f2 (by omega)
    have K : ∀ d : Int, d = fallS r lw b l → Ok (Option.bind (lp (fun s : NN × Int × Int × Int => b_X12_wait1_144 X s.1 s.2.1 s.2.2.1 s.2.2.2) (m_up N2 66 (9 + 6 * l + 2).toNat 1, m_w (n + d), l, 0)) (fun o25 => some (Sum.inl (α := NN × Int × Int) (β := NN × Int) (o25.1, o25.2.1, m_w (o25.2.2 + 1))))) (fun o => ∃ N', o = .inl (N', n + fallS r lw b l, l + 1) ∧ MW N' B (dropK (ru (ru r (9 + 6 * l + 0) 0) (9 + 6 * l + 2) 1) l 6) lw ∧ Fr frN N N') := by
      intro d hd
      have hd1 : 0 ≤ d ∧ d ≤ 1 := by rw [hd]; unfold fallS; split <;> omega
      refine ok_bind (ref_drop hM3 h0 h1) ?_
      rintro ⟨M, q⟩ ⟨q1, q2, q3⟩
      dsimp only at q1 q2 q3 ⊢
      subst q1
      refine ok_ret ⟨M, ?_, q2, fr_tr f3 q3⟩
      dsimp only
      rw [ew, w_id (by omega) (by omega), hd]
    by_cases c2 : rl r l 2 = 0
    · rw [if_pos c2]
      exact K 1 (by unfold fallS; rw [if_pos ⟨c, c2⟩])
    · rw [if_neg c2]
      exact K 0 (by unfold fallS; rw [if_neg (fun q => c2 q.2)])
  · rw [if_neg c, if_neg c, if_neg c, gdp (by omega), ei, w_id (x := hasS r b l - costsS r lw l (r 6)) (by omega) (by omega)]
    rw [if_neg c, ew]
    refine ok_ret ⟨_, ?_, mw_set hM1 (by omega) (by omega) (vr_grain hV h0 h1 (by omega) (by omega)) h.2.2.1 (by omega), frN_up f1 (by omega)⟩
    unfold fallS
    rw [if_neg (fun q => c q.1), Int.add_zero n]
theorem ref_lose1 {k n : Int} (h : MW N B r lw) (h0 : 0 ≤ k) (h1 : k < 36) : Ok (b_X12_wait1_189 X N n k) (fun o => ∃ N', o = .inl (N', n, k + 1) ∧ MW N' B (loseS r ((k.toNat / 6 : Nat) : Int) ((k.toNat % 6 : Nat) : Int)) lw ∧ Fr frN N N') := by
  obtain ⟨j, rfl⟩ := Int.eq_ofNat_of_zero_le h0
  have hV := h.2.1
  have v6 := hV.2.2.2.2.2.2.1
  have v7 := hV.2.2.2.2.2.2.2.1
  have ea : (((j : Int).toNat / 6 : Nat) : Int) = (j : Int) / 6 := by omega
  have ef : (((j : Int).toNat % 6 : Nat) : Int) = (j : Int) % 6 := by omega
  rw [ea, ef]
  have a0 : 0 ≤ (j : Int) / 6 ∧ (j : Int) / 6 ≤ 5 := by omega
  have f0 : 0 ≤ (j : Int) % 6 ∧ (j : Int) % 6 ≤ 5 := by omega
  have ek : (141 + 2 * (j : Int)) = 141 + 2 * (6 * ((j : Int) / 6) + (j : Int) % 6) := by omega
  have ed : m_div (j : Int) 6 = (j : Int) / 6 := div_id (by omega) (by omega) (by omega) (by omega)
  have er : m_rem (j : Int) 6 = (j : Int) % 6 := rem_id (by omega) (by omega) (by omega) (by omega)
  have ew : m_w ((j : Int) + 1) = (j : Int) + 1 := w_id (by omega) (by omega)
  have eR : m_w (141 + m_w (2 * (j : Int))) = 141 + 2 * (6 * ((j : Int) / 6) + (j : Int) % 6) := by
    rw [w_id (x := 2 * (j : Int)) (by omega) (by omega), w_id (by omega) (by omega), ek]
  unfold b_X12_wait1_189 f_X12_wait1_l189_j285
  rw [if_pos h1, ed, er, eR, ew]
  generalize (j : Int) / 6 = a at a0 ⊢
  generalize (j : Int) % 6 = f at f0 ⊢
  have vd := hV.2.2.2.2.2.2.2.2.2.2.2.1 a f a0.1 a0.2 f0.1 f0.2
  have e1 : N 66 (141 + 2 * (6 * a + f)).toNat = rd r a f := h.1 _ (by omega)
  rw [gdp (by omega), e1]
  unfold loseS
  by_cases c : rd r a f = -1
  · rw [if_pos c, if_neg (fun q => q.1 c)]
    exact ok_ret ⟨N, rfl, h, fr_rfl⟩
  rw [if_neg c]
  refine ok_bd (ref_year h.1) ?_
  have e2 : N 66 (141 + 2 * (6 * a + f) + 1).toNat = rs r a f := h.1 _ (by omega)
  have e7 : N 66 7 = r 7 := h.1 7 (by omega)
  rw [w_id (x := 141 + 2 * (6 * a + f) + 1) (by omega) (by omega), gdp (by omega), e2, e7, w_id (x := r 6 - rs r a f) (by omega) (by omega)]
  by_cases c2 : r 6 - rs r a f < r 7
  · rw [if_pos c2, if_neg (by omega)]
    exact ok_ret ⟨N, rfl, h, fr_rfl⟩
  have hc : rd r a f ≠ -1 ∧ rs r a f ≤ r 6 - r 7 := ⟨c, by omega⟩
  rw [if_neg c2, if_pos hc]
  simp (disch := omega) only [w_id (x := 6 * a), w_id (x := 9 + 6 * a), w_id (x := 9 + 6 * a + 4), w_id (x := 6 * f), w_id (x := 9 + 6 * f), w_id (x := 9 + 6 * f + 5), gdp]
  have e4 : N 66 (9 + 6 * a + 4).toNat = rl r a 4 := h.1 _ (by omega)
  rw [e4]
  have hM1 : MW (m_up N 66 (9 + 6 * a + 4).toNat (m_w (rl r a 4 + 1))) B (ru r (9 + 6 * a + 4) (m_w (rl r a 4 + 1))) lw := mw_set h (by omega) (by omega) (vr_foul hV a0.1 a0.2 (by omega) (by omega)) h.2.2.1 (by omega)
  have f1 : Fr frN N (m_up N 66 (9 + 6 * a + 4).toNat (m_w (rl r a 4 + 1))) := frN_up fr_rfl (by omega)
  revert hM1 f1
  generalize m_up N 66 (9 + 6 * a + 4).toNat (m_w (rl r a 4 + 1)) = N1
  intro hM1 f1
  have e5 : N1 66 (9 + 6 * f + 5).toNat = rl (ru r (9 + 6 * a + 4) (m_w (rl r a 4 + 1))) f 5 := hM1.1 _ (by omega)
  rw [e5]
  have hM2 : MW (m_up N1 66 (9 + 6 * f + 5).toNat (m_w (rl (ru r (9 + 6 * a + 4) (m_w (rl r a 4 + 1))) f 5 + 1))) B (ru (ru r (9 + 6 * a + 4) (m_w (rl r a 4 + 1))) (9 + 6 * f + 5) (m_w (rl (ru r (9 + 6 * a + 4) (m_w (rl r a 4 + 1))) f 5 + 1))) lw := mw_set hM1 (by omega) (by omega) (vr_foul hM1.2.1 f0.1 f0.2 (by omega) (by omega)) h.2.2.1 (by omega)
  refine ok_ret ⟨_, rfl, mw_set hM2 (by omega) (by omega) (vr_debt hM2.2.1 a0.1 a0.2 f0.1 f0.2 (Or.inl rfl)) h.2.2.1 (by omega), frN_up (frN_up f1 (by omega)) (by omega)⟩
theorem ref_wait1 {b : Int} (h : MW N B r lw) (hb : 0 ≤ b ∧ b ≤ 63) (hbar : N 64 40 = b) (hy : r 6 ≤ 998) : Ok (f_X12_wait1 X N) (fun o => o.1 = (waitS r lw b).2 ∧ MW o.2 B (waitS r lw b).1 lw ∧ Fr frN N o.2) := by
  have hV := h.2.1
  have v0 := hV.1
  have v6 := hV.2.2.2.2.2.2.1
  have e6 : N 66 6 = r 6 := h.1 6 (by omega)
  unfold f_X12_wait1
  rw [e6, w_id (x := r 6 + 1) (by omega) (by omega)]
  dsimp only
  have hM1 : MW (m_up N 66 (6 : Int).toNat (r 6 + 1)) B (ru r 6 (r 6 + 1)) lw := mw_set h (by omega) (by omega) (vr_6 hV (by omega) (by omega)) h.2.2.1 (by omega)
  have f1 : Fr frN N (m_up N 66 (6 : Int).toNat (r 6 + 1)) := frN_up fr_rfl (by omega)
  change MW (m_up N 66 6 (r 6 + 1)) B (ru r 6 (r 6 + 1)) lw at hM1
  change Fr frN N (m_up N 66 6 (r 6 + 1)) at f1
  have H : Ok (lp (fun s : NN × Int × Int => b_X12_wait1_15 X s.1 s.2.1 s.2.2) (m_up N 66 6 (r 6 + 1), 0, 0)) (fun o => o.2 = (yearK r lw b (r 0).toNat).2 ∧ MW o.1 B (yearK r lw b (r 0).toNat).1 lw ∧ Fr frN N o.1) := by
    refine ok_up (fun i s => ∃ M, s = (M, (yearK r lw b i.toNat).2, i) ∧ MW M B (yearK r lw b i.toNat).1 lw ∧ Fr frN N M) (r 0) (i0 := 0) ?_ ?_ v0.1 ⟨_, rfl, hM1, f1⟩
    · rintro i s a0 a1 ⟨M, rfl, hM, hf⟩
      have hi : ((i.toNat : Nat) : Int) = i := by omega
      obtain ⟨y1, y2, y3, y4, y5⟩ := year_vr (lw := lw) (b := b) hV hy i.toNat (by omega)
      have z0 : M 66 0 = r 0 := (hM.1 0 (by omega)).trans (y2.1 0 (by omega))
      have zb : M 64 40 = b := (hf 64 40 (by unfold frN; omega)).trans hbar
      have ek : yearK r lw b (i + 1).toNat = (lordS (yearK r lw b i.toNat).1 lw b i, (yearK r lw b i.toNat).2 + fallS (yearK r lw b i.toNat).1 lw b i) := by
        rw [show (i + 1).toNat = i.toNat + 1 by omega, yearK, hi]
      dsimp only
      unfold b_X12_wait1_15
      simp (disch := omega) only [z0, w_id (x := 6 * i), w_id (x := 9 + 6 * i), w_id (x := 9 + 6 * i + 1), gdp]
      rw [if_pos a1, zb]
      refine ok_bd (ref_is hb.1 (by omega) a0 (by omega)) ?_
      have eg : M 66 (9 + 6 * i).toNat = rl (yearK r lw b i.toNat).1 i 0 := by
        rw [hM.1 _ (by omega)]
        unfold rl
        rw [Int.add_zero]
      have eh : M 66 (9 + 6 * i + 1).toNat = rl (yearK r lw b i.toNat).1 i 1 := hM.1 _ (by omega)
      rw [eg, eh]
      by_cases c : bit b i = 0
      · rw [if_pos c]
        refine ok_mono (ref_year62 (b := b) hM a0 (by omega) (by rw [y3]; omega) (by rw [if_neg (by omega)]) (by omega)) ?_
        rintro o ⟨M2, rfl, q1, q2⟩
        refine ⟨M2, ?_, ?_, fr_tr hf q2⟩
        · rw [ek]
        · rw [ek]; exact q1
      · rw [if_neg c]
        have c1 : bit b i = 1 := by have := bit_01 b i; omega
        refine ok_mono (ref_year62 (b := b) hM a0 (by omega) (by rw [y3]; omega) (by rw [if_pos c1]) (by omega)) ?_
        rintro o ⟨M2, rfl, q1, q2⟩
        refine ⟨M2, ?_, ?_, fr_tr hf q2⟩
        · rw [ek]
        · rw [ek]; exact q1
    · rintro s ⟨M, rfl, hM, hf⟩
      have z0 : M 66 0 = r 0 := (hM.1 0 (by omega)).trans ((year_vr (lw := lw) (b := b) hV hy (r 0).toNat (by omega)).2.1.1 0 (by omega))
      dsimp only
      unfold b_X12_wait1_15
      rw [z0, if_neg (by omega)]
      exact ok_ret ⟨rfl, hM, hf⟩
  refine ok_bind H ?_
  rintro ⟨M, n⟩ ⟨q1, q2, q3⟩
  dsimp only at q1 q2 q3 ⊢
  have H2 : Ok (lp (fun s : NN × Int × Int => b_X12_wait1_189 X s.1 s.2.1 s.2.2) (M, n, 0)) (fun o => o.2 = n ∧ MW o.1 B (losK (yearK r lw b (r 0).toNat).1 36) lw ∧ Fr frN N o.1) := by
    refine ok_up (fun i s => ∃ M', s = (M', n, i) ∧ MW M' B (losK (yearK r lw b (r 0).toNat).1 i.toNat) lw ∧ Fr frN N M') 36 (i0 := 0) ?_ ?_ (by omega) ⟨M, rfl, q2, q3⟩
    · rintro i s a0 a1 ⟨M', rfl, hM, hf⟩
      dsimp only
      refine ok_mono (ref_lose1 hM a0 a1) ?_
      rintro o ⟨M2, rfl, p1, p2⟩
      refine ⟨M2, rfl, ?_, fr_tr hf p2⟩
      rw [show (i + 1).toNat = i.toNat + 1 by omega, losK]
      exact p1
    · rintro s ⟨M', rfl, hM, hf⟩
      dsimp only
      unfold b_X12_wait1_189
      rw [if_neg (by omega)]
      exact ok_ret ⟨rfl, hM, hf⟩
  refine ok_bind H2 ?_
  rintro ⟨M', n'⟩ ⟨p1, p2, p3⟩
  dsimp only at p1 p2 p3 ⊢
  unfold waitS
  generalize losK (yearK r lw b (r 0).toNat).1 36 = R at p2 ⊢
  exact ok_ret ⟨p1.trans q1, p2, p3⟩
end MY
