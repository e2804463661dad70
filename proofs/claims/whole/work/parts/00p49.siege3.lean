/-! siege: what the class gathers, whole -/
section SI2
variable {X : MX} {N : NN} {B : Int} {r : Nat → Int} {lw : Nat → Law}
theorem ds_fr {N' : NN} {n : Nat} {L : List Nat} {W : Nat → Int} {C : Nat → Nat → Int} (h : DS N n L W C) (hf : Fr (fun o _ => o = 26 ∨ o = 27) N N') : DS N' n L W C := by
  refine ⟨by rw [hf 48 5 (by omega)]; exact h.1, fun i g q => ?_⟩
  have := h.2 i g q
  refine ⟨by rw [hf 49 _ (by omega)]; exact this.1, by rw [hf 50 _ (by omega)]; exact this.2.1, fun y hy => by rw [hf 51 _ (by omega)]; exact this.2.2 y hy⟩
theorem c_si77 {l t : Int} {n m : Nat} (hX : XOK X) (hW : CW X N 4 B r lw) (t0 : 0 ≤ t) (t1 : t < r 0) (l0 : 0 ≤ l) (l1 : l < r 0) (hn : n ≤ 9) (hm : r 1 = (m : Int)) (e5 : N 48 5 = 0) :
    Ok (lp (fun s => b_X7_gather_77 X 4 s.1 s.2.1 s.2.2.1 s.2.2.2.1 s.2.2.2.2.1 s.2.2.2.2.2.1 s.2.2.2.2.2.2) (N, l, t, (n : Int), r 6, 0, 0)) (fun M => DS M n ((hC 10 (ownB r l) m).filter (fun g => !barS r lw g l t)) (fun g => worthS r lw g l t) (fun g y => costS r lw g t (r 6 + 1 + y)) ∧ Fr (fun o k => o = 26 ∨ o = 27 ∨ (o = 48 ∧ k = 5) ∨ o = 49 ∨ o = 50 ∨ o = 51) N M) := by
  have hV := hW.2.1
  have v0 := hV.1
  have v1 := hV.2.1
  have v6 := hV.2.2.2.2.2.2.1
  have cwf : ∀ {M : NN}, Fr (fun o k => o = 26 ∨ o = 27 ∨ (o = 48 ∧ k = 5) ∨ o = 49 ∨ o = 50 ∨ o = 51) N M → CW X M 4 B r lw := fun hf => cw_fr hW hf fun o k q => by omega
  refine ok_up (fun i z => ∃ M, z = (M, l, t, (n : Int), r 6, ((hC 10 (ownB r l) i.toNat).length : Int), i) ∧ DS M n ((hC 10 (ownB r l) i.toNat).filter (fun g => !barS r lw g l t)) (fun g => worthS r lw g l t) (fun g y => costS r lw g t (r 6 + 1 + y)) ∧ Fr (fun o k => o = 26 ∨ o = 27 ∨ (o = 48 ∧ k = 5) ∨ o = 49 ∨ o = 50 ∨ o = 51) N M) (m : Int) (i0 := 0) ?_ ?_ (by omega) ⟨N, rfl, ⟨e5, fun i g q => (by cases q)⟩, fr_rfl⟩
  · rintro i z a0 a1 ⟨M, rfl, hD, hf⟩
    obtain ⟨k, rfl⟩ := Int.eq_ofNat_of_zero_le a0
    rw [Int.toNat_natCast] at hD ⊢
    rw [show ((k : Int) + 1).toNat = k + 1 by omega]
    have hWM := cwf hf
    dsimp only
    unfold b_X7_gather_77 f_X7_gather_l77_j213
    refine ok_bd (c_many hWM.1 (by omega) (by omega)) ?_
    rw [show r (1 : Int).toNat = m from hm, if_pos a1]
    have hll := hC_len (c := 10) (p := ownB r l) k
    by_cases c6 : (hC 10 (ownB r l) k).length < 10
    case neg =>
      rw [if_neg (by omega)]
      refine ok_ret ?_
      dsimp only
      rw [hC_stop c6 m (by omega)]
      exact ⟨hD, hf⟩
    rw [if_pos (by omega)]
    refine ok_bd (c_isOwnedAndHeld hWM.1 (by omega) (by omega)) ?_
    by_cases c : rg r k 0 = l ∧ rg r k 1 = l
    case neg =>
      rw [if_neg c, i00, w_id (by omega) (by omega)]
      refine ok_ret ⟨M, ?_, ?_, hf⟩
      · rw [hC, if_neg (fun z => c (of_decide_eq_true z.1))]
      · rw [hC, if_neg (fun z => c (of_decide_eq_true z.1))]; exact hD
    rw [if_pos c, i10]
    have eL : hC 10 (ownB r l) (k + 1) = hC 10 (ownB r l) k ++ [k] := by rw [hC, if_pos ⟨decide_eq_true c, c6⟩]
    rw [eL, List.filter_append]
    generalize hHL : hC 10 (ownB r l) k = L at *
    refine ok_bind (c_bars (Or.inl rfl) (xok26 hX) hWM (by omega) (by omega) (by omega) (by omega)) ?_
    rintro ⟨z, M2⟩ ⟨p1, p2⟩
    dsimp only at p1 p2 ⊢
    have hf2 : Fr (fun o k => o = 26 ∨ o = 27 ∨ (o = 48 ∧ k = 5) ∨ o = 49 ∨ o = 50 ∨ o = 51) N M2 := fr_tr hf (fr_mono p2 fun o k q => by unfold frJ at q; omega)
    have hD2 := ds_fr hD p2
    subst p1
    have lf := List.length_filter_le (fun g : Nat => !barS r lw g l t) L
    generalize hU : L.filter (fun g : Nat => !barS r lw g l t) = U at *
    cases hb : barS r lw k l t with
    | true =>
      rw [if_pos rfl, i10, w_id (by omega) (by omega), w_id (by omega) (by omega)]
      refine ok_ret ⟨M2, ?_, ?_, hf2⟩
      · rw [List.length_append]; rfl
      · rw [show [k].filter (fun g : Nat => !barS r lw g l t) = [] by simp [hb], List.append_nil]; exact hD2
    | false =>
      rw [if_neg (show ¬ false = true by decide), i00]
      simp (disch := omega) only [hD2.1, gdp, Int.toNat_natCast]
      have f3 : Fr (fun o k => o = 26 ∨ o = 27 ∨ (o = 48 ∧ k = 5) ∨ o = 49 ∨ o = 50 ∨ o = 51) N (m_up M2 49 U.length (k : Int)) := fr_up hf2 (by omega)
      refine ok_bind (c_worth (Or.inl rfl) (xok26 hX) (cwf f3) (by omega) (by omega) (by omega) (by omega)) ?_
      rintro ⟨wv, M4⟩ ⟨q1, q2⟩
      dsimp only at q1 q2 ⊢
      have f4 : Fr (fun o k => o = 26 ∨ o = 27 ∨ (o = 48 ∧ k = 5) ∨ o = 49 ∨ o = 50 ∨ o = 51) N M4 := fr_tr f3 (fr_mono q2 fun o k q => by unfold frJ at q; omega)
      have e48 : (m_up M2 49 U.length (k : Int)) 48 5 = (U.length : Int) := by rw [up_o (by omega)]; exact hD2.1
      simp (disch := omega) only [e48, gdp, Int.toNat_natCast]
      have f5 : Fr (fun o k => o = 26 ∨ o = 27 ∨ (o = 48 ∧ k = 5) ∨ o = 49 ∨ o = 50 ∨ o = 51) N (m_up M4 50 U.length wv) := fr_up f4 (by omega)
      have e48' : (m_up M4 50 U.length wv) 48 5 = (U.length : Int) := by rw [up_o (by omega), q2 48 5 (by unfold frJ; omega)]; exact e48
      refine ok_bind (c_si157 (u := U.length) hX (cwf f5) t0 t1 (by omega) hn (by omega) rfl e48') ?_
      rintro o ⟨M6, rfl, u1, u2⟩
      dsimp only
      have f6 : Fr (fun o k => o = 26 ∨ o = 27 ∨ (o = 48 ∧ k = 5) ∨ o = 49 ∨ o = 50 ∨ o = 51) N M6 := fr_tr f5 (fr_mono u2 fun o k q => by omega)
      have e48'' : M6 48 5 = (U.length : Int) := by rw [u2 48 5 (by omega)]; exact e48'
      rw [e48'', w_id (x := (U.length : Int) + 1) (by omega) (by omega), w_id (x := (L.length : Int) + 1) (by omega) (by omega), w_id (x := (k : Int) + 1) (by omega) (by omega)]
      refine ok_ret ⟨_, by rw [List.length_append]; rfl, ?_, fr_up f6 (by omega)⟩
      rw [show [k].filter (fun g : Nat => !barS r lw g l t) = [k] by simp [hb]]
      refine ⟨by rw [up_s, List.length_append]; rfl, fun i g q => ?_⟩
      have a49 : (m_up M6 48 5 ((U.length : Int) + 1)) 49 i = if i = U.length then (k : Int) else M2 49 i := by
        rw [up_o (by omega), u2 49 _ (by omega), up_o (by omega), q2 49 _ (by unfold frJ; omega), up_a]
      have a50 : (m_up M6 48 5 ((U.length : Int) + 1)) 50 i = if i = U.length then wv else M2 50 i := by
        rw [up_o (by omega), u2 50 _ (by omega), up_a, q2 50 _ (by unfold frJ; omega), up_o (by omega)]
      rw [a49, a50]
      rcases app_g q with q' | ⟨q', q''⟩
      · have := get_lt q'
        have ne : ¬ i = U.length := by omega
        rw [if_neg ne, if_neg ne]
        have hd := hD2.2 i g q'
        refine ⟨hd.1, hd.2.1, fun y hy => ?_⟩
        rw [up_o (by omega), u2 51 _ (by omega), up_o (by omega), q2 51 _ (by unfold frJ; omega), up_o (by omega)]
        exact hd.2.2 y hy
      · subst q' q''
        rw [if_pos rfl, if_pos rfl]
        refine ⟨rfl, q1, fun y hy => ?_⟩
        rw [up_o (by omega)]
        exact u1 y hy
  · rintro z ⟨M, rfl, hD, hf⟩
    have hWM := cwf hf
    dsimp only
    unfold b_X7_gather_77
    refine ok_bd (c_many hWM.1 (by omega) (by omega)) ?_
    rw [show r (1 : Int).toNat = m from hm, if_neg (by omega)]
    rw [Int.toNat_natCast] at hD
    exact ok_ret ⟨hD, hf⟩
theorem c_siGather {l t : Int} {n : Nat} (hX : XOK X) (hW : CW X N 4 B r lw) (t0 : 0 ≤ t) (t1 : t < r 0) (l0 : 0 ≤ l) (l1 : l < r 0) (hn : n ≤ 9) :
    Ok (f_X7_gather X 4 N l t (n : Int)) (fun M => DS M n ((hC 10 (ownB r l) (r 1).toNat).filter (fun g => !barS r lw g l t)) (fun g => worthS r lw g l t) (fun g y => costS r lw g t (r 6 + 1 + y)) ∧ M 48 6 = rl r t 0 ∧ M 48 7 = rl r t 1 ∧ (∀ y : Nat, y < n → M 52 y = costsS r lw t (r 6 + 1 + y)) ∧ Fr frS N M) := by
  have hV := hW.2.1
  have v0 := hV.1
  have v1 := hV.2.1
  have v6 := hV.2.2.2.2.2.2.1
  unfold f_X7_gather
  refine ok_bd (c_term hW.1 (by omega) (by omega)) ?_
  refine ok_bd (c_lordAt hW.1 (by omega) (by omega) (by omega) (by omega)) ?_
  have f1 : Fr frS N (m_up N 48 6 (rl r t 0)) := fr_up fr_rfl (by unfold frS; omega)
  refine ok_bd (c_lordAt (cw_S hW f1).1 (by omega) (by omega) (by omega) (by omega)) ?_
  have f2 : Fr frS N (m_up (m_up N 48 6 (rl r t 0)) 48 7 (rl r t 1)) := fr_up f1 (by unfold frS; omega)
  have e6 : (m_up (m_up N 48 6 (rl r t 0)) 48 7 (rl r t 1)) 48 6 = rl r t 0 := by rw [up_k (by omega), up_s]
  have e7 : (m_up (m_up N 48 6 (rl r t 0)) 48 7 (rl r t 1)) 48 7 = rl r t 1 := by rw [up_s]
  rw [show r (6 + (0 : Int)).toNat = r 6 from rfl]
  revert f2 e6 e7
  try dsimp only
  generalize (m_up (m_up N 48 6 (rl r t 0)) 48 7 (rl r t 1)) = N5
  intro f2 e6 e7
  have H1 : Ok (lp (fun s => b_X7_gather_30 X 4 s.1 s.2.1 s.2.2.1 s.2.2.2.1 s.2.2.2.2.1 s.2.2.2.2.2) (N5, l, t, (n : Int), r 6, 0)) (fun o => ∃ M, o = (M, l, t, (n : Int), r 6) ∧ (∀ y : Nat, y < n → M 52 y = costsS r lw t (r 6 + 1 + y)) ∧ Fr (fun o _ => o = 26 ∨ o = 27 ∨ o = 52) N5 M) := by
    refine ok_up (fun i z => ∃ M, z = (M, l, t, (n : Int), r 6, i) ∧ (∀ y : Nat, (y : Int) < i → M 52 y = costsS r lw t (r 6 + 1 + y)) ∧ Fr (fun o _ => o = 26 ∨ o = 27 ∨ o = 52) N5 M) (n : Int) (i0 := 0) ?_ ?_ (by omega) ⟨N5, rfl, fun y h => by omega, fr_rfl⟩
    · rintro i z a0 a1 ⟨M, rfl, hj, hf⟩
      obtain ⟨k, rfl⟩ := Int.eq_ofNat_of_zero_le a0
      have hWM : CW X M 4 B r lw := cw_fr (cw_S hW f2) hf fun o k q => by omega
      dsimp only
      unfold b_X7_gather_30
      rw [if_pos a1, w_id (x := r 6 + 1) (by omega) (by omega), w_id (x := r 6 + 1 + (k : Int)) (by omega) (by omega)]
      refine ok_bind (c_upkeep (Or.inl rfl) (xok26 hX) hWM (by omega) (by omega) (by omega)) ?_
      rintro ⟨cv, M2⟩ ⟨p1, p2⟩
      dsimp only at p1 p2 ⊢
      rw [gdp (by omega), Int.toNat_natCast, w_id (x := (k : Int) + 1) (by omega) (by omega)]
      refine ok_ret ⟨_, rfl, fun y q => ?_, fr_up (fr_tr hf (fr_mono p2 fun o k q => by unfold frJ at q; omega)) (by omega)⟩
      rw [up_a]
      by_cases e : y = k
      · rw [if_pos e, p1, e]
      · rw [if_neg e, p2 52 _ (by unfold frJ; omega)]; exact hj y (by omega)
    · rintro z ⟨M, rfl, hj, hf⟩
      dsimp only
      unfold b_X7_gather_30
      rw [if_neg (by omega)]
      exact ok_ret ⟨M, rfl, fun y h => hj y (by omega), hf⟩
  refine ok_bind H1 ?_
  rintro o ⟨M, rfl, g1, g2⟩
  dsimp only
  have f3 : Fr frS N M := fr_tr f2 (fr_mono g2 fun o k q => by unfold frS; omega)
  have f4 : Fr frS N (m_up M 48 5 0) := fr_up f3 (by unfold frS; omega)
  obtain ⟨m, hm⟩ := Int.eq_ofNat_of_zero_le v1.1
  rw [show (r 1).toNat = m by omega]
  refine ok_bind (c_si77 hX (cw_S hW f4) t0 t1 l0 l1 hn hm (by rw [up_s])) ?_
  rintro M7 ⟨k1, k2⟩
  refine ok_ret ⟨k1, ?_, ?_, fun y hy => ?_, fr_tr f4 (fr_mono k2 fun o k q => by unfold frS; omega)⟩
  · rw [k2 48 6 (by omega), up_k (by omega), g2 48 6 (by omega)]; exact e6
  · rw [k2 48 7 (by omega), up_k (by omega), g2 48 7 (by omega)]; exact e7
  · rw [k2 52 y (by omega), up_o (by omega)]; exact g1 y hy
end SI2
