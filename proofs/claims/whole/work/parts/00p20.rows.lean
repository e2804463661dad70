/-! row -/
def canGd (r : Nat → Int) (h b k : Int) : Bool := decide ((0 ≤ b ∧ b ≤ 99) ∧ (0 ≤ k ∧ k ≤ 20) ∧ (0 ≤ h ∧ h < r 0) ∧ r 1 < 16)
theorem canGd_t {r : Nat → Int} {h b k : Int} (c : canGd r h b k = true) : canG r h b k := by unfold canGd at c; unfold canG; exact of_decide_eq_true c
theorem canGd_f {r : Nat → Int} {h b k : Int} (c : canGd r h b k = false) : ¬ canG r h b k := by unfold canGd at c; unfold canG; exact of_decide_eq_false c
def rowK (t : Tp) (r : Nat → Int) : Nat → (Nat → Int) × Int × Int
  | 0 => (r, 0, 0)
  | i + 1 => if 3 * i + 3 ≤ t.1 ∧ canGd (rowK t r i).1 (t.2 (3 * i)) (t.2 (3 * i + 1)) (t.2 (3 * i + 2)) = true
    then (goodS (rowK t r i).1 (t.2 (3 * i)) (t.2 (3 * i + 1)) (t.2 (3 * i + 2)), (rowK t r i).2.1 + 1, (rowK t r i).2.2)
    else ((rowK t r i).1, (rowK t r i).2.1, (rowK t r i).2.2 + 1)
section RW
variable {X : MX} {N : NN} {B : Int} {r : Nat → Int} {lw : Nat → Law} {t : Tp}
theorem rowK_b (t : Tp) (r : Nat → Int) : ∀ i, 0 ≤ (rowK t r i).2.1 ∧ (rowK t r i).2.1 ≤ i ∧ 0 ≤ (rowK t r i).2.2 ∧ (rowK t r i).2.2 ≤ i
  | 0 => by simp [rowK]
  | i + 1 => by
    have := rowK_b t r i
    rw [rowK]
    split <;> (dsimp only; omega)
theorem c_byteAt {p : Int} (h : CTp N t) (hV : TV t) (h0 : 0 ≤ p) (h1 : p < (t.1 : Int)) : f_X5_byteAt X N p = some (t.2 p.toNat) := by
  have := hV.1
  unfold f_X5_byteAt f_X5_byteAt_j21 f_X5_byteAt_j22
  rw [if_neg (by omega), h.1, if_pos h1, gdp (by omega), h.2 _ (by omega)]
theorem c_comes {h b k : Int} (hW : CW X N 4 B r lw) (hB : 0 ≤ B) (h0 : 0 ≤ b) (h1 : 0 ≤ k) : Ok (f_X11_comes X N h b k) (fun o => ((canG r h b k ∧ o.1 = 1 ∧ CW X o.2 4 B (goodS r h b k) lw) ∨ (¬ canG r h b k ∧ o.1 = 0 ∧ CW X o.2 4 B r lw)) ∧ Fr (fun o _ => o = 5) N o.2) := by
  unfold f_X11_comes f_X11_comes_j40 f_X11_comes_j41 f_X11_comes_j59
  rw [c_isLord hW.1, Option.bind_some, c_many hW.1 (by omega) (by omega), Option.bind_some]
  have F : ¬ canG r h b k → Ok (if (0 : Int) = 0 then (if 0 ≤ (0 : Int) ∧ (0 : Int) ≤ 1 then some ((0 : Int), N) else none) else Option.bind (f_X10_addGood X 4 N h b k) (fun o7 => if 0 ≤ (0 : Int) ∧ (0 : Int) ≤ 1 then some ((0 : Int), o7.2) else none)) (fun o => ((canG r h b k ∧ o.1 = 1 ∧ CW X o.2 4 B (goodS r h b k) lw) ∨ (¬ canG r h b k ∧ o.1 = 0 ∧ CW X o.2 4 B r lw)) ∧ Fr (fun o _ => o = 5) N o.2) := by
    intro z
    rw [i00, if_pos (by omega)]
    exact ok_ret ⟨Or.inr ⟨z, rfl, hW⟩, fr_rfl⟩
  by_cases c3 : 0 ≤ h ∧ h < r 0
  case neg => rw [if_neg c3]; exact ok_pos rfl (F fun z => c3 z.2.2.1)
  rw [if_pos c3]
  refine ok_neg (by omega) ?_
  by_cases c1 : 99 < b
  · rw [if_pos c1]; exact F fun z => by have := z.1; omega
  rw [if_neg c1]
  by_cases c2 : 20 < k
  · rw [if_pos c2]; exact F fun z => by have := z.2.1; omega
  rw [if_neg c2]
  by_cases c4 : r 1 < 16
  case neg => rw [if_neg (show ¬ r (1 : Int).toNat < 16 from c4)]; exact F fun z => c4 z.2.2.2
  rw [if_pos (show r (1 : Int).toNat < 16 from c4), i10]
  have can : canG r h b k := ⟨by omega, by omega, c3, c4⟩
  refine ok_bind (c_addGood hW hB can) ?_
  rintro ⟨v, N1⟩ ⟨p1, p2, p3⟩
  rw [if_pos (by omega)]
  exact ok_ret ⟨Or.inl ⟨can, rfl, p2⟩, p3⟩
theorem c_rows (hW : CW X N 4 B r lw) (hB : 0 ≤ B) (hT : CTp N t) (hV : TV t) (hd : N 3 14 = 0) :
    Ok (lp (fun s : NN × Int × Int × Int => b_X11_row_35 X s.1 s.2.1 s.2.2.1 s.2.2.2) (N, (t.1 : Int), 0, 0)) (fun o => o.2 = (rowK t r ((t.1 + 2) / 3)).2.1 ∧ CW X o.1 4 B (rowK t r ((t.1 + 2) / 3)).1 lw ∧ o.1 3 14 = (rowK t r ((t.1 + 2) / 3)).2.2 ∧ Fr (fun o k => o = 5 ∨ (o = 3 ∧ k = 14)) N o.1) := by
  have hv := hV.1
  refine ok_up (fun i s => ∃ M, s = (M, (t.1 : Int), (rowK t r i.toNat).2.1, 3 * i) ∧ CW X M 4 B (rowK t r i.toNat).1 lw ∧ M 3 14 = (rowK t r i.toNat).2.2 ∧ Fr (fun o k => o = 5 ∨ (o = 3 ∧ k = 14)) N M) (((t.1 + 2) / 3 : Nat) : Int) (i0 := 0) ?_ ?_ (by omega) ⟨N, rfl, hW, hd, fr_rfl⟩
  · rintro i s a0 a1 ⟨M, rfl, hM, hD, hf⟩
    obtain ⟨n, rfl⟩ := Int.eq_ofNat_of_zero_le a0
    have hb := rowK_b t r n
    have en : ((n : Int)).toNat = n := by omega
    rw [en] at hM hD ⊢
    have hTM : CTp M t := ctp_eq hT (hf 16 5 (by omega)) (fr_of hf 17 fun k => by omega)
    have e3 : m_w (3 * (n : Int) + 3) = 3 * ((n : Int) + 1) := by rw [w_id (by omega) (by omega)]; omega
    have ek : ((n : Int) + 1).toNat = n + 1 := by omega
    dsimp only
    unfold b_X11_row_35 f_X11_row_l35_j88 f_X11_row_l35_j98
    rw [if_pos (by omega), e3, ek]
    by_cases c : (t.1 : Int) < 3 * ((n : Int) + 1)
    · rw [if_pos c, hD, w_id (by omega) (by omega)]
      have er : rowK t r (n + 1) = ((rowK t r n).1, (rowK t r n).2.1, (rowK t r n).2.2 + 1) := by rw [rowK, if_neg (by omega)]
      refine ok_ret ⟨_, by rw [er], ?_, by rw [er]; exact up_s, fr_up hf (Or.inr ⟨rfl, rfl⟩)⟩
      rw [er]
      exact cw_eq hM (up_of (by omega)) (up_of (by omega)) (fun o p => up_of (by omega))
    · rw [if_neg c]
      refine ok_bd (c_byteAt hTM hV (by omega) (by omega)) ?_
      rw [w_id (x := 3 * (n : Int) + 1) (by omega) (by omega), w_id (x := 3 * (n : Int) + 2) (by omega) (by omega)]
      refine ok_bd (c_byteAt hTM hV (by omega) (by omega)) ?_
      refine ok_bd (c_byteAt hTM hV (by omega) (by omega)) ?_
      rw [show (3 * (n : Int)).toNat = 3 * n by omega, show (3 * (n : Int) + 1).toNat = 3 * n + 1 by omega, show (3 * (n : Int) + 2).toNat = 3 * n + 2 by omega]
      refine ok_bind (c_comes hM hB (hV.2 _ (by omega)).1 (hV.2 _ (by omega)).1) ?_
      rintro ⟨z, M2⟩ ⟨p1, p2⟩
      dsimp only at p1 p2 ⊢
      have hD2 : M2 3 14 = (rowK t r n).2.2 := (p2 3 14 (by omega)).trans hD
      have f2 : Fr (fun o k => o = 5 ∨ (o = 3 ∧ k = 14)) N M2 := fr_tr hf (fr_mono p2 fun o k z => Or.inl z)
      rcases p1 with ⟨g1, g2, g3⟩ | ⟨g1, g2, g3⟩
      · rw [if_neg (by omega), w_id (by omega) (by omega)]
        have er : rowK t r (n + 1) = (goodS (rowK t r n).1 (t.2 (3 * n)) (t.2 (3 * n + 1)) (t.2 (3 * n + 2)), (rowK t r n).2.1 + 1, (rowK t r n).2.2) := by rw [rowK, if_pos ⟨by omega, decide_eq_true g1⟩]
        exact ok_ret ⟨M2, by rw [er], by rw [er]; exact g3, by rw [er]; exact hD2, f2⟩
      · rw [if_pos g2, hD2, w_id (by omega) (by omega)]
        have er : rowK t r (n + 1) = ((rowK t r n).1, (rowK t r n).2.1, (rowK t r n).2.2 + 1) := by rw [rowK, if_neg (fun z => g1 (canGd_t z.2))]
        refine ok_ret ⟨_, by rw [er], ?_, by rw [er]; exact up_s, fr_up f2 (Or.inr ⟨rfl, rfl⟩)⟩
        rw [er]
        exact cw_eq g3 (up_of (by omega)) (up_of (by omega)) (fun o p => up_of (by omega))
  · rintro s ⟨M, rfl, hM, hD, hf⟩
    dsimp only
    unfold b_X11_row_35
    rw [if_neg (by omega)]
    rw [show ((((t.1 + 2) / 3 : Nat) : Int)).toNat = (t.1 + 2) / 3 by omega] at hM hD ⊢
    exact ok_ret ⟨rfl, hM, hD, hf⟩
theorem ref_rows (hW : MW N B r lw) (hB : 0 ≤ B) (hT : ∀ j, j < t.1 → N 73 j = t.2 j) (hV : TV t) (hd : N 64 11 = 0) :
    Ok (lp (fun s : NN × Int × Int × Int => b_X12_row_35 X s.1 s.2.1 s.2.2.1 s.2.2.2) (N, (t.1 : Int), 0, 0)) (fun o => o.2 = (rowK t r ((t.1 + 2) / 3)).2.1 ∧ MW o.1 B (rowK t r ((t.1 + 2) / 3)).1 lw ∧ o.1 64 11 = (rowK t r ((t.1 + 2) / 3)).2.2 ∧ Fr (fun o k => o = 66 ∨ (o = 64 ∧ k = 11)) N o.1) := by
  have hv := hV.1
  refine ok_up (fun i s => ∃ M, s = (M, (t.1 : Int), (rowK t r i.toNat).2.1, 3 * i) ∧ MW M B (rowK t r i.toNat).1 lw ∧ M 64 11 = (rowK t r i.toNat).2.2 ∧ Fr (fun o k => o = 66 ∨ (o = 64 ∧ k = 11)) N M) (((t.1 + 2) / 3 : Nat) : Int) (i0 := 0) ?_ ?_ (by omega) ⟨N, rfl, hW, hd, fr_rfl⟩
  · rintro i s a0 a1 ⟨M, rfl, hM, hD, hf⟩
    obtain ⟨n, rfl⟩ := Int.eq_ofNat_of_zero_le a0
    have hb := rowK_b t r n
    have en : ((n : Int)).toNat = n := by omega
    rw [en] at hM hD ⊢
    have hTM : ∀ j, j < t.1 → M 73 j = t.2 j := fun j hj => (hf 73 j (by omega)).trans (hT j hj)
    have e3 : m_w (3 * (n : Int) + 3) = 3 * ((n : Int) + 1) := by rw [w_id (by omega) (by omega)]; omega
    have ek : ((n : Int) + 1).toNat = n + 1 := by omega
    dsimp only
    unfold b_X12_row_35 f_X12_row_l35_j82 f_X12_row_l35_j92
    rw [if_pos (by omega), e3, ek, w_id (x := 3 * (n : Int) + 2) (by omega) (by omega)]
    by_cases c : 3 * (n : Int) + 2 < (t.1 : Int)
    · rw [if_pos c, w_id (x := 3 * (n : Int) + 1) (by omega) (by omega)]
      simp (disch := omega) only [gdp]
      rw [show (3 * (n : Int)).toNat = 3 * n by omega, show (3 * (n : Int) + 1).toNat = 3 * n + 1 by omega, show (3 * (n : Int) + 2).toNat = 3 * n + 2 by omega, hTM _ (by omega), hTM _ (by omega), hTM _ (by omega)]
      refine ok_bind (ref_good1 hM hB) ?_
      rintro ⟨z, M2⟩ ⟨p1, p2⟩
      dsimp only at p1 p2 ⊢
      have v1 := hM.2.1.2.1
      have hD2 : M2 64 11 = (rowK t r n).2.2 := (p2 64 11 (by omega)).trans hD
      have f2 : Fr (fun o k => o = 66 ∨ (o = 64 ∧ k = 11)) N M2 := fr_tr hf (fr_mono p2 fun o k z => Or.inl z)
      rcases p1 with ⟨g1, g2, g3⟩ | ⟨g1, g2, g3⟩
      · rw [if_neg (by omega), w_id (by omega) (by omega)]
        have er : rowK t r (n + 1) = (goodS (rowK t r n).1 (t.2 (3 * n)) (t.2 (3 * n + 1)) (t.2 (3 * n + 2)), (rowK t r n).2.1 + 1, (rowK t r n).2.2) := by rw [rowK, if_pos ⟨by omega, decide_eq_true g1⟩]
        exact ok_ret ⟨M2, by rw [er], by rw [er]; exact g3, by rw [er]; exact hD2, f2⟩
      · have zn : z < 0 := by rw [g2]; split <;> (try split) <;> omega
        rw [if_pos zn, hD2, w_id (by omega) (by omega)]
        have er : rowK t r (n + 1) = ((rowK t r n).1, (rowK t r n).2.1, (rowK t r n).2.2 + 1) := by rw [rowK, if_neg (fun z => g1 (canGd_t z.2))]
        refine ok_ret ⟨_, by rw [er], ?_, by rw [er]; exact up_s, fr_up f2 (Or.inr ⟨rfl, rfl⟩)⟩
        rw [er]
        subst g3
        exact mw_eq hM (up_of (by omega)) (up_k (by omega))
    · rw [if_neg c, hD, w_id (by omega) (by omega)]
      have er : rowK t r (n + 1) = ((rowK t r n).1, (rowK t r n).2.1, (rowK t r n).2.2 + 1) := by rw [rowK, if_neg (by omega)]
      refine ok_ret ⟨_, by rw [er], ?_, by rw [er]; exact up_s, fr_up hf (Or.inr ⟨rfl, rfl⟩)⟩
      rw [er]
      exact mw_eq hM (up_of (by omega)) (up_k (by omega))
  · rintro s ⟨M, rfl, hM, hD, hf⟩
    dsimp only
    unfold b_X12_row_35
    rw [if_neg (by omega)]
    rw [show ((((t.1 + 2) / 3 : Nat) : Int)).toNat = (t.1 + 2) / 3 by omega] at hM hD ⊢
    exact ok_ret ⟨rfl, hM, hD, hf⟩
theorem sim_row (h : Inv X N B) (hB : 0 ≤ B) : Sim X N B (f_X11_row X N) (fun M => f_X12_row X M) := by
  obtain ⟨hX, ⟨r, lw⟩, im, un, t, cn, rp, hC, hM⟩ := h
  have hT : CTp N t := hC.2.2.2.2.1
  have hV : TV t := hM.2.2.2.2.2.2.2.2
  unfold f_X11_row f_X5_length f_X12_row
  rw [hT.1, Option.bind_some]
  by_cases c : (t.1 : Int) = 0
  · refine sim_mk (v := -6) hX hM (B' := B) ?_ (fun M hM => ?_) (q' := (r, lw)) (im' := im) (un' := un) (tp' := (0, t.2)) (cn' := rfu cn (-6)) (rp' := rp)
    · rw [if_pos c]
      refine ok_mono (cs_refuse hC (by omega) (by omega)) ?_
      rintro o ⟨o1, o2, o3⟩
      have et : t = (0, t.2) := by rw [← show t.1 = 0 by omega]
      rw [← et]
      exact ⟨o1, o2, o3⟩
    · have hM1 := minv_0 (x := 0) hM
      try dsimp only
      rw [hM1.2.2.2.1.1, if_pos c]
      have f : Fr fr73 (m_up M 64 0 0) (m_up (m_up M 64 0 0) 64 13 0) := fr_up fr_rfl (Or.inr ⟨rfl, rfl⟩)
      refine ok_mono (ms_refuse (minv_tp hM1 (mtp_cut (n := 0) hM1.2.2.2.1 (by omega)) (tv_cut hV (by omega)) f) (by omega) (by omega)) ?_
      rintro p ⟨p1, p2, p3⟩
      exact ⟨p1, p2, fr_tr nC_0 (fr_tr (nC_73 f) p3)⟩
  generalize hK : rowK t r ((t.1 + 2) / 3) = K
  have hKb := rowK_b t r ((t.1 + 2) / 3)
  rw [hK] at hKb
  refine sim_mk (v := K.2.1) hX hM (B' := B) ?_ (fun M hM => ?_) (q' := (K.1, lw)) (im' := im) (un' := (0, un.2)) (tp' := (0, t.2)) (cn' := ru (ru cn 7 K.2.2) 0 0) (rp' := rp)
  · rw [if_neg c]
    refine ok_bd (a := m_up N 13 3 0) rfl ?_
    have hC1 := cinv_clear hC
    have hW4 : CW X (m_up (m_up N 13 3 0) 3 14 0) 4 B r lw := cw_eq hC1.1 (up_of (by omega)) (up_of (by omega)) (fun o p => up_of (by omega))
    have hT4 : CTp (m_up (m_up N 13 3 0) 3 14 0) t := ctp_eq hC1.2.2.2.2.1 (up_o (by omega)) (up_of (by omega))
    dsimp only
    refine ok_bind (c_rows hW4 hB hT4 hV up_s) ?_
    rintro ⟨M, v⟩ ⟨p1, p2, p3, p4⟩
    dsimp only at p1 p2 p3 p4 ⊢
    rw [hK] at p1 p2 p3
    have f1 : Fr (fun o k => o = 5 ∨ (o = 3 ∧ k = 14)) (m_up N 13 3 0) M := fr_tr (fr_up fr_rfl (Or.inr ⟨rfl, rfl⟩)) p4
    have z : ∀ o, o ≠ 5 → o ≠ 3 → M o = m_up N 13 3 0 o := fun o q q' => fr_of f1 o fun k => by omega
    obtain ⟨a, b, cc, d, e, f, g⟩ := hC1
    have hC2 : CInv X M B (K.1, lw) im (0, un.2) t (ru cn 7 K.2.2) rp := by
      refine ⟨p2, lwf_eq b (z _ (by omega) (by omega)), cim_eq cc (fun o q q' => z o (by omega) (by omega)) (fun o q => z o (by omega) (by omega)), cun_eq d (z _ (by omega) (by omega)) (z _ (by omega) (by omega)) (z _ (by omega) (by omega)), ctp_eq e (by rw [z 16 (by omega) (by omega)]) (z _ (by omega) (by omega)), ⟨?_, fun k k1 k2 => ?_, ?_, ?_, ?_⟩, cdr_eq g (z _ (by omega) (by omega))⟩
      · rw [ru_ne (by omega)]; exact (f1 3 13 (by omega)).trans f.1
      · rw [ru_ne (by omega), z 63 (by omega) (by omega)]; exact f.2.1 k k1 k2
      · rw [ru_eq (by omega)]; exact p3
      · rw [ru_ne (by omega), z 16 (by omega) (by omega)]; exact f.2.2.2.1
      · rw [ru_ne (by omega), z 33 (by omega) (by omega)]; exact f.2.2.2.2
    refine ok_bd (a := m_up M 16 5 0) rfl ?_
    have f2 : Fr fr17 M (m_up M 16 5 0) := fr_up fr_rfl (Or.inr ⟨rfl, rfl⟩)
    rw [p1]
    refine ok_mono (cs_accept (cinv_tp hC2 (ctp_cut (n := 0) hC2.2.2.2.2.1 (by omega)) f2)) ?_
    rintro o ⟨o1, o2, o3⟩
    exact ⟨o1, o2, fr_tr (fr_up fr_rfl (by unfold notM pM; omega)) (fr_tr (fr_mono f1 fun o k z => by unfold notM pM; omega) (fr_tr (nM_17 f2) o3))⟩
  · have hM1 := minv_0 (x := 0) hM
    try dsimp only
    rw [hM1.2.2.2.1.1, if_neg c]
    have f : Fr fr73 (m_up M 64 0 0) (m_up (m_up M 64 0 0) 64 13 0) := fr_up fr_rfl (Or.inr ⟨rfl, rfl⟩)
    have hM2 := minv_tp hM1 (mtp_cut (n := 0) hM1.2.2.2.1 (by omega)) (tv_cut hV (by omega)) f
    have hT1 := hM1.2.2.2.1
    have hW4 : MW (m_up (m_up (m_up M 64 0 0) 64 13 0) 64 11 0) B r lw := mw_eq hM2.1 (up_of (by omega)) (up_k (by omega))
    refine ok_bind (ref_rows (t := t) hW4 hB (fun j hj => by rw [up_o (by omega), up_o (by omega)]; exact hT1.2 j hj) hV up_s) ?_
    rintro ⟨M3, v⟩ ⟨p1, p2, p3, p4⟩
    dsimp only at p1 p2 p3 p4 ⊢
    rw [hK] at p1 p2 p3
    have f1 : Fr (fun o k => o = 66 ∨ (o = 64 ∧ k = 11)) (m_up (m_up M 64 0 0) 64 13 0) M3 := fr_tr (fr_up fr_rfl (Or.inr ⟨rfl, rfl⟩)) p4
    have z : ∀ o, o ≠ 66 → o ≠ 64 → M3 o = m_up (m_up M 64 0 0) 64 13 0 o := fun o q q' => fr_of f1 o fun k => by omega
    have y : ∀ k, k ≠ 11 → M3 64 k = m_up (m_up M 64 0 0) 64 13 0 64 k := fun k q => f1 64 k (by omega)
    obtain ⟨a, b, cc, d, e, f', g, u, tt⟩ := hM2
    have cn3 : MCn M3 (ru cn 7 K.2.2) := by
      refine ⟨?_, fun k k1 k2 => ?_, ?_, ?_, ?_⟩
      · rw [ru_ne (by omega)]; exact (y 1 (by omega)).trans e.1
      · rw [ru_ne (by omega), z 65 (by omega) (by omega)]; exact e.2.1 k k1 k2
      · rw [ru_eq (by omega)]; exact p3
      · rw [ru_ne (by omega)]; exact (y 18 (by omega)).trans e.2.2.2.1
      · rw [ru_ne (by omega)]; exact (y 68 (by omega)).trans e.2.2.2.2
    rw [p1, ref_settledP cn3 (by omega), Option.bind_some]
    refine ok_ret ⟨rfl, minv_1 (B := B) ?_, nC_64 (nC_64 (fr_tr nC_0 (fr_tr (nC_73 f) (fr_mono f1 fun o k z => by unfold notC pC; omega))))⟩
    have z8 : ∀ o, o ≠ 66 → o ≠ 64 → m_up M3 64 8 0 o = m_up (m_up M 64 0 0) 64 13 0 o := fun o q q' => by rw [up_of q']; exact z o q q'
    have y8 : ∀ k, k ≠ 11 → k ≠ 8 → m_up M3 64 8 0 64 k = m_up (m_up M 64 0 0) 64 13 0 64 k := fun k q q' => by rw [up_k q']; exact y k q
    exact ⟨mw_eq p2 (up_of (by omega)) (up_k (by omega)), mim_eq b (z8 _ (by omega) (by omega)) (z8 _ (by omega) (by omega)), ⟨up_s, fun i hi => by cases hi⟩, mtp_eq d (y8 _ (by omega) (by omega)) (z8 _ (by omega) (by omega)), mcn_eq cn3 (up_k (by omega)) (up_of (by omega)) (up_k (by omega)) (up_k (by omega)) (up_k (by omega)), mdr_eq f' (y8 _ (by omega) (by omega)) (z8 _ (by omega) (by omega)), mkn_eq g (z8 _ (by omega) (by omega)) (z8 _ (by omega) (by omega)), ⟨by show 0 ≤ 16; omega, fun i hi => by cases hi⟩, tt⟩
end RW
