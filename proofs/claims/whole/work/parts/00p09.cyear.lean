/-! the class: a year passes -/
section CY
variable {X : MX} {N : NN} {w : Nat} {B : Int} {r : Nat → Int} {lw : Nat → Law}
theorem frD_W {N N' : NN} (h : Fr (frW w) N N') : Fr (frD w) N N' := fr_mono h fun o k q => Or.inl q
theorem c_dropAllOf {l : Int} (hw : w < 100) (h : CW X N w B r lw) (h0 : 0 ≤ l) (h1 : l ≤ 5) : Ok (f_X0_dropAllOf X w N l) (fun N' => CW X N' w B (dropK r l 6) lw ∧ Fr (frW w) N N') := by
  have v0 := h.2.1.1
  have H : Ok (lp (fun s : NN × Int × Int => b_X0_dropAllOf_2 X w s.1 s.2.1 s.2.2) (N, l, 0)) (fun N' => CW X N' w B (dropK r l 6) lw ∧ Fr (frW w) N N') := by
    refine ok_up (fun i s => ∃ N', s = (N', l, i) ∧ CW X N' w B (dropK r l i.toNat) lw ∧ Fr (frW w) N N') (r 0) (i0 := 0) ?_ ?_ v0.1 ⟨N, rfl, h, fr_rfl⟩
    · rintro i s a0 a1 ⟨N', rfl, hC, hf⟩
      have hi : ((i.toNat : Nat) : Int) = i := by omega
      have e0 : dropK r l i.toNat 0 = r 0 := (drop_vr h.2.1 h0 h1 i.toNat (by omega)).2.1.1 0 (by omega)
      dsimp only
      unfold b_X0_dropAllOf_2
      refine ok_bd (c_many hC.1 (by omega) (by omega)) ?_
      rw [show dropK r l i.toNat (0 : Int).toNat = r 0 from e0, if_pos a1]
      refine ok_bind (c_settle hw hC h0 h1 a0 (by omega)) ?_
      intro N1 ⟨p1, p2⟩
      refine ok_bind (c_settle hw p1 a0 (by omega) h0 h1) ?_
      intro N2 ⟨p3, p4⟩
      refine ok_ret ⟨N2, by rw [w_id (by omega) (by omega)], ?_, fr_tr hf (fr_tr p2 p4)⟩
      rw [show (i + 1).toNat = i.toNat + 1 by omega, dropK, hi]
      exact p3
    · rintro s ⟨N', rfl, hC, hf⟩
      have e0 : dropK r l (r 0).toNat 0 = r 0 := (drop_vr h.2.1 h0 h1 (r 0).toNat (by omega)).2.1.1 0 (by omega)
      dsimp only
      unfold b_X0_dropAllOf_2
      refine ok_bd (c_many hC.1 (by omega) (by omega)) ?_
      rw [show dropK r l (r 0).toNat (0 : Int).toNat = r 0 from e0, if_neg (by omega)]
      refine ok_ret ⟨?_, hf⟩
      rw [drop_all h.2.1 h0 h1 (6 - (r 0).toNat) (r 0).toNat (by omega) (by omega)]
      exact hC
  unfold f_X0_dropAllOf
  refine ok_bind H ?_
  intro N' p
  exact ok_ret p
theorem c_lose1 {a f : Int} (hw : w < 100) (h : CW X N w B r lw) (h0 : 0 ≤ a) (h1 : a ≤ 5) (h2 : 0 ≤ f) (h3 : f ≤ 5) (h4 : f < r 0) :
    Ok (b_X0_loseOld_13 X w N (r 6 - r 7) a f) (fun o => ∃ N', o = .inl (N', r 6 - r 7, a, f + 1) ∧ CW X N' w B (loseS r a f) lw ∧ Fr (frW w) N N') := by
  have ew : m_w (f + 1) = f + 1 := w_id (by omega) (by omega)
  unfold b_X0_loseOld_13 f_X0_loseOld_l13_j60
  refine ok_bd (c_many h.1 (by omega) (by omega)) ?_
  rw [if_pos (by exact h4)]
  refine ok_bd (c_worthOwed h.1 h0 h1 h2 h3) ?_
  unfold loseS
  by_cases c : rd r a f = -1
  · rw [if_pos c, if_neg (fun q => q.1 c), ew]
    exact ok_ret ⟨N, rfl, h, fr_rfl⟩
  rw [if_neg c]
  refine ok_bd (c_since h.1 h0 h1 h2 h3) ?_
  by_cases c2 : r 6 - r 7 < rs r a f
  · rw [if_pos c2, if_neg (by omega), ew]
    exact ok_ret ⟨N, rfl, h, fr_rfl⟩
  rw [if_neg c2, if_pos ⟨c, by omega⟩, ew]
  refine ok_bind (c_oneMoreOf hw h h0 h1 (by omega) (by omega)) ?_
  intro N1 ⟨p1, p2⟩
  refine ok_bind (c_oneMoreOf hw p1 h2 h3 (by omega) (by omega)) ?_
  intro N2 ⟨p3, p4⟩
  refine ok_bind (c_settle hw p3 h0 h1 h2 h3) ?_
  intro N3 ⟨p5, p6⟩
  exact ok_ret ⟨N3, rfl, p5, fr_tr p2 (fr_tr p4 p6)⟩
theorem c_loseOld (hw : w < 100) (h : CW X N w B r lw) : Ok (f_X0_loseOld X w N (r 6 - r 7)) (fun N' => CW X N' w B (losK r 36) lw ∧ Fr (frW w) N N') := by
  have v0 := h.2.1.1
  have H : Ok (lp (fun s : NN × Int × Int => b_X0_loseOld_2 X w s.1 s.2.1 s.2.2) (N, r 6 - r 7, 0)) (fun N' => CW X N' w B (losK r 36) lw ∧ Fr (frW w) N N') := by
    refine ok_up (fun i s => ∃ N', s = (N', r 6 - r 7, i) ∧ CW X N' w B (losK r (6 * i.toNat)) lw ∧ Fr (frW w) N N') (r 0) (i0 := 0) ?_ ?_ v0.1 ⟨N, rfl, h, fr_rfl⟩
    · rintro i s a0 a1 ⟨N', rfl, hC, hf⟩
      have hi : ((i.toNat : Nat) : Int) = i := by omega
      have e0 : losK r (6 * i.toNat) 0 = r 0 := (los_vr h.2.1 (6 * i.toNat) (by omega)).2.1.1 0 (by omega)
      dsimp only
      unfold b_X0_loseOld_2
      refine ok_bd (c_many hC.1 (by omega) (by omega)) ?_
      rw [show losK r (6 * i.toNat) (0 : Int).toNat = r 0 from e0, if_pos a1]
      have H2 : Ok (lp (fun s : NN × Int × Int × Int => b_X0_loseOld_13 X w s.1 s.2.1 s.2.2.1 s.2.2.2) (N', r 6 - r 7, i, 0)) (fun o => o.2 = (r 6 - r 7, i) ∧ CW X o.1 w B (losK r (6 * i.toNat + 6)) lw ∧ Fr (frW w) N o.1) := by
        refine ok_up (fun f s => ∃ M, s = (M, r 6 - r 7, i, f) ∧ CW X M w B (losK r (6 * i.toNat + f.toNat)) lw ∧ Fr (frW w) N M) (r 0) (i0 := 0) ?_ ?_ v0.1 ⟨N', rfl, hC, hf⟩
        · rintro f s b0 b1 ⟨M, rfl, hM, hg⟩
          have hv := los_vr h.2.1 (6 * i.toNat + f.toNat) (by omega)
          have z0 : losK r (6 * i.toNat + f.toNat) 0 = r 0 := hv.2.1.1 0 (by omega)
          have z7 : losK r (6 * i.toNat + f.toNat) 7 = r 7 := hv.2.1.2.1
          have z6 : losK r (6 * i.toNat + f.toNat) 6 = r 6 := hv.2.2
          have q := c_lose1 (a := i) (f := f) hw hM a0 (by omega) b0 (by omega) (by rw [z0]; exact b1)
          rw [z6, z7] at q
          dsimp only
          refine ok_mono q ?_
          rintro o ⟨M2, rfl, q1, q2⟩
          refine ⟨M2, rfl, ?_, fr_tr hg q2⟩
          rw [show 6 * i.toNat + (f + 1).toNat = (6 * i.toNat + f.toNat) + 1 by omega, losK, show (6 * i.toNat + f.toNat) / 6 = i.toNat by omega, show (6 * i.toNat + f.toNat) % 6 = f.toNat by omega, hi, show ((f.toNat : Nat) : Int) = f by omega]
          exact q1
        · rintro s ⟨M, rfl, hM, hg⟩
          have z0 : losK r (6 * i.toNat + (r 0).toNat) 0 = r 0 := (los_vr h.2.1 (6 * i.toNat + (r 0).toNat) (by omega)).2.1.1 0 (by omega)
          dsimp only
          unfold b_X0_loseOld_13
          refine ok_bd (c_many hM.1 (by omega) (by omega)) ?_
          rw [show losK r (6 * i.toNat + (r 0).toNat) (0 : Int).toNat = r 0 from z0, if_neg (by omega)]
          refine ok_ret ⟨rfl, ?_, hg⟩
          rw [los_row h.2.1 (a := i.toNat) (by omega) (6 - (r 0).toNat) (r 0).toNat (by omega) (by omega)]
          exact hM
      refine ok_bind H2 ?_
      rintro ⟨M, q⟩ ⟨q1, q2, q3⟩
      dsimp only at q1 q2 q3 ⊢
      subst q1
      refine ok_ret ⟨M, by rw [w_id (by omega) (by omega)], ?_, q3⟩
      rw [show 6 * (i + 1).toNat = 6 * i.toNat + 6 by omega]
      exact q2
    · rintro s ⟨N', rfl, hC, hf⟩
      have e0 : losK r (6 * (r 0).toNat) 0 = r 0 := (los_vr h.2.1 (6 * (r 0).toNat) (by omega)).2.1.1 0 (by omega)
      dsimp only
      unfold b_X0_loseOld_2
      refine ok_bd (c_many hC.1 (by omega) (by omega)) ?_
      rw [show losK r (6 * (r 0).toNat) (0 : Int).toNat = r 0 from e0, if_neg (by omega)]
      refine ok_ret ⟨?_, hf⟩
      rw [los_all h.2.1 (36 - 6 * (r 0).toNat) (6 * (r 0).toNat) (by omega) (by omega)]
      exact hC
  unfold f_X0_loseOld
  refine ok_bind H ?_
  intro N' p
  exact ok_ret p
theorem cw_D {N' : NN} {r' : Nat → Int} (hw : w = 4 ∨ w = 30) (h : CW X N w B r' lw) (hf : Fr frJ N N') : CW X N' w B r' lw := cw_J hw h hf
theorem c_year51 {b l z n y : Int} (hw : w = 4 ∨ w = 30) (hsk : m_Sk26 X) (h : CW X N w B r lw) (h0 : 0 ≤ l) (h1 : l ≤ 5) (hy : r 6 = y) (hy2 : y ≤ 1000) (hz : z = (if bit b l = 1 then 0 else rl r l 1)) (hn : 0 ≤ n ∧ n ≤ 6) :
    Ok (f_X0_passYear_l20_j51 X w N b y n l z) (fun o => ∃ N', o = .inl (N', b, y, n + fallS r lw b l, l + 1) ∧ CW X N' w B (lordS r lw b l) lw ∧ Fr (frD w) N N') := by
  have hV := h.2.1
  have vl := hV.2.2.2.2.2.2.2.2.2.1 l h0 h1
  have v6 := hV.2.2.2.2.2.2.1
  have hb := has_b (b := b) hV h0 h1
  have hc := costsS_b hV lw l (r 6) (r 1).toNat (by have := hV.2.1; omega)
  change 0 ≤ costsS r lw l (r 6) ∧ costsS r lw l (r 6) ≤ 1584 at hc
  have hw1 : w < 100 := by omega
  have ez : m_min 9999 (m_w (rl r l 0 + z)) = hasS r b l := by
    rw [min_id, hz]
    unfold hasS
    rw [w_id (by split <;> omega) (by split <;> omega)]
  have ew : m_w (l + 1) = l + 1 := w_id (by omega) (by omega)
  unfold f_X0_passYear_l20_j51 f_X0_passYear_l20_j121 f_X0_passYear_l20_j138
  refine ok_bd (c_lordAt h.1 h0 h1 (by omega) (by omega)) ?_
  refine ok_bind (c_upkeep (y := y) hw hsk h h0 h1 (by omega)) ?_
  rintro ⟨v, N1⟩ ⟨p1, p2⟩
  dsimp only at p1 p2 ⊢
  rw [← hy] at p1
  subst p1
  have hC1 := cw_J hw h p2
  have f1 : Fr (frD w) N N1 := fr_mono p2 fun o k q => Or.inr q
  rw [ez, w_id (x := hasS r b l - costsS r lw l (r 6)) (by omega) (by omega), max_id]
  have em : max 0 (hasS r b l - costsS r lw l (r 6)) = (if hasS r b l < costsS r lw l (r 6) then 0 else hasS r b l - costsS r lw l (r 6)) := by split <;> omega
  rw [em]
  refine ok_bind (c_setLord (B' := B) hw1 hC1 h0 h1 (by omega) (by omega) (vr_grain hV h0 h1 (by split <;> omega) (by split <;> omega)) h.2.2.1) ?_
  intro N2 ⟨hC2, g2⟩
  have f2 : Fr (frD w) N N2 := fr_tr f1 (frD_W g2)
  unfold lordS
  by_cases c : hasS r b l < costsS r lw l (r 6)
  · rw [if_pos (by omega)]
    rw [if_pos c] at hC2 ⊢
    refine ok_bd (c_isRuined hC2.1 h0 h1) ?_
    have e2 : rl (ru r (9 + 6 * l + 0) 0) l 2 = rl r l 2 := ru_ne (by omega)
    rw [e2]
    have K : ∀ d : Int, d = fallS r lw b l → Ok (Option.bind (f_X10_setLord X w N2 l 2 1) (fun o13 => Option.bind (f_X0_dropAllOf X w o13 l) (fun o14 => some (Sum.inl (α := NN × Int × Int × Int × Int) (β := NN × Int × Int) (o14, b, y, m_w (n + d), m_w (l + 1)))))) (fun o => ∃ N', o = .inl (N', b, y, n + fallS r lw b l, l + 1) ∧ CW X N' w B (dropK (ru (ru r (9 + 6 * l + 0) 0) (9 + 6 * l + 2) 1) l 6) lw ∧ Fr (frD w) N N') := by
      intro d hd
      have hd1 : 0 ≤ d ∧ d ≤ 1 := by rw [hd]; unfold fallS; split <;> omega
      refine ok_bind (c_setLord (B' := B) hw1 hC2 h0 h1 (by omega) (by omega) (vr_ruin hC2.2.1 h0 h1 (by omega) (by omega)) h.2.2.1) ?_
      intro N3 ⟨hC3, g3⟩
      refine ok_bind (c_dropAllOf hw1 hC3 h0 h1) ?_
      intro N4 ⟨hC4, g4⟩
      refine ok_ret ⟨N4, ?_, hC4, fr_tr f2 (frD_W (fr_tr g3 g4))⟩
      rw [ew, w_id (by omega) (by omega), hd]
    by_cases c2 : rl r l 2 = 0
    · rw [if_pos c2, if_pos rfl, if_pos c]
      exact K 1 (by unfold fallS; rw [if_pos ⟨c, c2⟩])
    · rw [if_neg c2, if_neg (by omega), if_pos c]
      exact K 0 (by unfold fallS; rw [if_neg (fun q => c2 q.2)])
  · rw [if_neg (by omega)]
    rw [if_neg c] at hC2 ⊢
    rw [if_neg c]
    refine ok_ret ⟨N2, ?_, hC2, f2⟩
    rw [ew]
    unfold fallS
    rw [if_neg (fun q => c q.1), Int.add_zero n]
theorem c_passYear {b : Int} (hw : w = 4 ∨ w = 30) (hsk : m_Sk26 X) (h : CW X N w B r lw) (hb : 0 ≤ b ∧ b ≤ 63) (hy : r 6 ≤ 998) : Ok (f_X0_passYear X w N b) (fun o => o.1 = (waitS r lw b).2 ∧ CW X o.2 w B (waitS r lw b).1 lw ∧ Fr (frD w) N o.2) := by
  have hV := h.2.1
  have v0 := hV.1
  have v6 := hV.2.2.2.2.2.2.1
  have hw1 : w < 100 := by omega
  unfold f_X0_passYear
  refine ok_bd (c_term h.1 (by omega) (by omega)) ?_
  rw [show r (6 + 0 : Int).toNat = r 6 from rfl, w_id (x := r 6 + 1) (by omega) (by omega)]
  refine ok_bind (c_setTerm (B' := B) hw1 h (by omega) (by omega) (vr_6 hV (by omega) (by omega)) h.2.2.1) ?_
  intro N1 ⟨hC1, g1⟩
  have f1 : Fr (frD w) N N1 := frD_W g1
  have H : Ok (lp (fun s : NN × Int × Int × Int × Int => b_X0_passYear_20 X w s.1 s.2.1 s.2.2.1 s.2.2.2.1 s.2.2.2.2) (N1, b, r 6 + 1, 0, 0)) (fun o => o.2 = (r 6 + 1, (yearK r lw b (r 0).toNat).2) ∧ CW X o.1 w B (yearK r lw b (r 0).toNat).1 lw ∧ Fr (frD w) N o.1) := by
    refine ok_up (fun i s => ∃ M, s = (M, b, r 6 + 1, (yearK r lw b i.toNat).2, i) ∧ CW X M w B (yearK r lw b i.toNat).1 lw ∧ Fr (frD w) N M) (r 0) (i0 := 0) ?_ ?_ v0.1 ⟨N1, rfl, hC1, f1⟩
    · rintro i s a0 a1 ⟨M, rfl, hM, hf⟩
      have hi : ((i.toNat : Nat) : Int) = i := by omega
      obtain ⟨y1, y2, y3, y4, y5⟩ := year_vr (lw := lw) (b := b) hV hy i.toNat (by omega)
      have z0 : (yearK r lw b i.toNat).1 0 = r 0 := y2.1 0 (by omega)
      have ek : yearK r lw b (i + 1).toNat = (lordS (yearK r lw b i.toNat).1 lw b i, (yearK r lw b i.toNat).2 + fallS (yearK r lw b i.toNat).1 lw b i) := by
        rw [show (i + 1).toNat = i.toNat + 1 by omega, yearK, hi]
      dsimp only
      unfold b_X0_passYear_20
      refine ok_bd (c_many hM.1 (by omega) (by omega)) ?_
      rw [show (yearK r lw b i.toNat).1 (0 : Int).toNat = r 0 from z0, if_pos a1, bit_id hb.1 (by omega) a0 (by omega)]
      by_cases c : bit b i = 1
      · rw [if_pos c]
        refine ok_mono (c_year51 (b := b) (z := 0) (y := r 6 + 1) hw hsk hM a0 (by omega) y3 (by omega) (by rw [if_pos c]) (by omega)) ?_
        rintro o ⟨M2, rfl, q1, q2⟩
        refine ⟨M2, ?_, ?_, fr_tr hf q2⟩
        · rw [ek]
        · rw [ek]; exact q1
      · rw [if_neg c]
        refine ok_bd (c_lordAt hM.1 a0 (by omega) (by omega) (by omega)) ?_
        refine ok_mono (c_year51 (b := b) (z := rl (yearK r lw b i.toNat).1 i 1) (y := r 6 + 1) hw hsk hM a0 (by omega) y3 (by omega) (by rw [if_neg c]) (by omega)) ?_
        rintro o ⟨M2, rfl, q1, q2⟩
        refine ⟨M2, ?_, ?_, fr_tr hf q2⟩
        · rw [ek]
        · rw [ek]; exact q1
    · rintro s ⟨M, rfl, hM, hf⟩
      have z0 : (yearK r lw b (r 0).toNat).1 0 = r 0 := (year_vr (lw := lw) (b := b) hV hy (r 0).toNat (by omega)).2.1.1 0 (by omega)
      dsimp only
      unfold b_X0_passYear_20
      refine ok_bd (c_many hM.1 (by omega) (by omega)) ?_
      rw [show (yearK r lw b (r 0).toNat).1 (0 : Int).toNat = r 0 from z0, if_neg (by omega)]
      exact ok_ret ⟨rfl, hM, hf⟩
  refine ok_bind H ?_
  rintro ⟨M, q⟩ ⟨q1, q2, q3⟩
  dsimp only at q1 q2 q3 ⊢
  subst q1
  obtain ⟨y1, y2, y3, y4, y5⟩ := year_vr (lw := lw) (b := b) hV hy (r 0).toNat (by omega)
  have z7 := y1.2.2.2.2.2.2.2.1
  refine ok_bd (c_term q2.1 (by omega) (by omega)) ?_
  dsimp only
  have e7 : m_w (r 6 + 1 - (yearK r lw b (r 0).toNat).1 (6 + 1 : Int).toNat) = (yearK r lw b (r 0).toNat).1 6 - (yearK r lw b (r 0).toNat).1 7 := by
    rw [y3]
    show m_w (r 6 + 1 - (yearK r lw b (r 0).toNat).1 7) = r 6 + 1 - (yearK r lw b (r 0).toNat).1 7
    exact w_id (by omega) (by omega)
  rw [e7]
  refine ok_bind (c_loseOld hw1 q2) ?_
  intro M2 ⟨q4, q5⟩
  unfold waitS
  generalize losK (yearK r lw b (r 0).toNat).1 36 = R at q4 ⊢
  exact ok_ret ⟨rfl, q4, fr_tr q3 (frD_W q5)⟩
end CY
