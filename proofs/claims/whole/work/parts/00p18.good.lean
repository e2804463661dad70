/-! lord, good, row -/
def goodS (r : Nat → Int) (h b k : Int) : Nat → Int :=
  ru (ru (ru (ru (ru (ru (ru r (45 + 6 * r 1 + 0) h) (45 + 6 * r 1 + 1) h) (45 + 6 * r 1 + 2) b) (45 + 6 * r 1 + 3) k) (45 + 6 * r 1 + 4) 0) (45 + 6 * r 1 + 5) (-1)) 1 (r 1 + 1)
def canG (r : Nat → Int) (h b k : Int) : Prop := (0 ≤ b ∧ b ≤ 99) ∧ (0 ≤ k ∧ k ≤ 20) ∧ (0 ≤ h ∧ h < r 0) ∧ r 1 < 16
def lordN (r : Nat → Int) (g h : Int) : Nat → Int :=
  ru (ru (ru (ru (ru (ru (ru r (9 + 6 * r 0 + 0) g) (9 + 6 * r 0 + 1) h) (9 + 6 * r 0 + 2) 0) (9 + 6 * r 0 + 3) 0) (9 + 6 * r 0 + 4) 0) (9 + 6 * r 0 + 5) 0) 0 (r 0 + 1)
section GD
variable {X : MX} {N : NN} {B : Int} {r : Nat → Int} {lw : Nat → Law}
theorem goodS_ne {h b k : Int} {j : Nat} (h1 : 0 ≤ r 1) (hj : j ≠ 1) (hj2 : j < 45) : goodS r h b k j = r j := by
  unfold goodS
  rw [ru_ne (by omega), ru_ne (by omega), ru_ne (by omega), ru_ne (by omega), ru_ne (by omega), ru_ne (by omega), ru_ne (by omega)]
theorem goodS_vr {h b k : Int} (hV : Vr B r) (hB : 0 ≤ B) (hc : canG r h b k) : Vr B (goodS r h b k) := by
  obtain ⟨c1, c2, c3, c4⟩ := hc
  have v1 := hV.2.1
  have R : ∀ (s : Nat → Int) (i v : Int), i ≠ 1 → 0 ≤ i → s 1 = r 1 → ru s i v 1 = r 1 := fun s i v p q e => by rw [ru_ne (by omega)]; exact e
  have w0 := vr_holder (v := h) hV (g := r 1) (by omega) (by omega) (fun q => by omega)
  have z0 := R r (45 + 6 * r 1 + 0) h (by omega) (by omega) rfl
  have w1 := vr_owner (v := h) w0 (g := r 1) (by omega) (by omega) (fun q => by omega)
  have z1 := R _ (45 + 6 * r 1 + 1) h (by omega) (by omega) z0
  have w2 := vr_base (v := b) w1 (g := r 1) (by omega) (by omega) (fun q => by omega)
  have z2 := R _ (45 + 6 * r 1 + 2) b (by omega) (by omega) z1
  have w3 := vr_keep (v := k) w2 (g := r 1) (by omega) (by omega) (fun q => by omega)
  have z3 := R _ (45 + 6 * r 1 + 3) k (by omega) (by omega) z2
  have w4 := vr_given (v := 0) w3 (g := r 1) (by omega) (by omega) (fun q => by omega)
  have z4 := R _ (45 + 6 * r 1 + 4) 0 (by omega) (by omega) z3
  have w5 := vr_told (v := -1) w4 (g := r 1) (by omega) (by omega) (fun q => by omega)
  have z5 := R _ (45 + 6 * r 1 + 5) (-1) (by omega) (by omega) z4
  unfold goodS
  refine vr_1 w5 (by rw [z5]) (by omega) ?_
  rw [z5]
  unfold rg
  rw [ru_ne (j := 0) (by omega), ru_ne (j := 0) (by omega), ru_ne (j := 0) (by omega), ru_ne (j := 0) (by omega), ru_ne (j := 0) (by omega), ru_ne (j := 0) (by omega)]
  rw [ru_eq (j := (45 + 6 * r 1 + 5).toNat) rfl]
  rw [ru_ne (j := (45 + 6 * r 1 + 4).toNat) (i := 45 + 6 * r 1 + 5) (by omega), ru_eq (j := (45 + 6 * r 1 + 4).toNat) rfl]
  rw [ru_ne (j := (45 + 6 * r 1 + 3).toNat) (i := 45 + 6 * r 1 + 5) (by omega), ru_ne (j := (45 + 6 * r 1 + 3).toNat) (i := 45 + 6 * r 1 + 4) (by omega), ru_eq (j := (45 + 6 * r 1 + 3).toNat) rfl]
  rw [ru_ne (j := (45 + 6 * r 1 + 2).toNat) (i := 45 + 6 * r 1 + 5) (by omega), ru_ne (j := (45 + 6 * r 1 + 2).toNat) (i := 45 + 6 * r 1 + 4) (by omega), ru_ne (j := (45 + 6 * r 1 + 2).toNat) (i := 45 + 6 * r 1 + 3) (by omega), ru_eq (j := (45 + 6 * r 1 + 2).toNat) rfl]
  rw [ru_ne (j := (45 + 6 * r 1 + 1).toNat) (i := 45 + 6 * r 1 + 5) (by omega), ru_ne (j := (45 + 6 * r 1 + 1).toNat) (i := 45 + 6 * r 1 + 4) (by omega), ru_ne (j := (45 + 6 * r 1 + 1).toNat) (i := 45 + 6 * r 1 + 3) (by omega), ru_ne (j := (45 + 6 * r 1 + 1).toNat) (i := 45 + 6 * r 1 + 2) (by omega), ru_eq (j := (45 + 6 * r 1 + 1).toNat) rfl]
  rw [ru_ne (j := (45 + 6 * r 1 + 0).toNat) (i := 45 + 6 * r 1 + 5) (by omega), ru_ne (j := (45 + 6 * r 1 + 0).toNat) (i := 45 + 6 * r 1 + 4) (by omega), ru_ne (j := (45 + 6 * r 1 + 0).toNat) (i := 45 + 6 * r 1 + 3) (by omega), ru_ne (j := (45 + 6 * r 1 + 0).toNat) (i := 45 + 6 * r 1 + 2) (by omega), ru_ne (j := (45 + 6 * r 1 + 0).toNat) (i := 45 + 6 * r 1 + 1) (by omega), ru_eq (j := (45 + 6 * r 1 + 0).toNat) rfl]
  omega
theorem c_addGood {h b k : Int} (hW : CW X N 4 B r lw) (hB : 0 ≤ B) (hc : canG r h b k) : Ok (f_X10_addGood X 4 N h b k) (fun o => o.1 = r 1 ∧ CW X o.2 4 B (goodS r h b k) lw ∧ Fr (fun o _ => o = 5) N o.2) := by
  have hV := hW.2.1
  have v1 := hV.2.1
  have c4 := hc.2.2.2
  have e1 : N 5 192 = r 1 := hW.1.2.2.2.2.2.1 1 (by omega) (by omega)
  unfold f_X10_addGood
  simp (disch := omega) only [e1, w_id, gdp]
  have f1 : Fr (fun o _ => o = 5) N (m_up (m_up (m_up (m_up (m_up (m_up N (4 + 1) 192 (r 1 + 1)) (4 + 1) (39 + r 1 * 5 + 0).toNat h) (4 + 1) (39 + r 1 * 5 + 1).toNat h) (4 + 1) (39 + r 1 * 5 + 2).toNat b) (4 + 1) (39 + r 1 * 5 + 3).toNat k) (4 + 1) (39 + r 1 * 5 + 4).toNat 0) := fr5 (fr5 (fr5 (fr5 (fr5 (fr5 fr_rfl)))))
  refine ok_ret ⟨rfl, cw_cells (by omega) hW f1 ?_ (goodS_vr hV hB hc) hW.2.2.1 (goodS_ne (by omega) (by omega) (by omega)), f1⟩
  try dsimp only
  rw [up_ru, up_ru, up_ru, up_ru, up_ru, up_ruN, ru_comm (i := ((192 : Nat) : Int)) (j := 39 + r 1 * 5 + 0) (by omega), ru_comm (i := ((192 : Nat) : Int)) (j := 39 + r 1 * 5 + 1) (by omega), ru_comm (i := ((192 : Nat) : Int)) (j := 39 + r 1 * 5 + 2) (by omega), ru_comm (i := ((192 : Nat) : Int)) (j := 39 + r 1 * 5 + 3) (by omega), ru_comm (i := ((192 : Nat) : Int)) (j := 39 + r 1 * 5 + 4) (by omega)]
  have R := rw_good (v := 0) (rw_good (v := k) (rw_good (v := b) (rw_good (v := h) (rw_good (v := h) hW.1 (g := r 1) (k := 0) (by omega) (by omega) (by omega) (by omega)) (g := r 1) (k := 1) (by omega) (by omega) (by omega) (by omega)) (g := r 1) (k := 2) (by omega) (by omega) (by omega) (by omega)) (g := r 1) (k := 3) (by omega) (by omega) (by omega) (by omega)) (g := r 1) (k := 4) (by omega) (by omega) (by omega) (by omega)
  have e : ru (ru (ru (ru (ru r (45 + 6 * r 1 + 0) h) (45 + 6 * r 1 + 1) h) (45 + 6 * r 1 + 2) b) (45 + 6 * r 1 + 3) k) (45 + 6 * r 1 + 4) 0 1 = r 1 := by
    rw [ru_ne (by omega), ru_ne (by omega), ru_ne (by omega), ru_ne (by omega), ru_ne (by omega)]
  have R2 := rw_more (v := r 1 + 1) R (by rw [e]; omega) (by rw [e]; omega) (by rw [e])
  rw [e] at R2
  exact R2
theorem ref_good1 {h b k : Int} (hM : MW N B r lw) (hB : 0 ≤ B) : Ok (f_X12_good1 X N h b k) (fun o => ((canG r h b k ∧ o.1 = r 1 ∧ MW o.2 B (goodS r h b k) lw) ∨ (¬ canG r h b k ∧ o.1 = (if (0 ≤ b ∧ b ≤ 99) ∧ (0 ≤ k ∧ k ≤ 20) then (if 0 ≤ h ∧ h < r 0 then -5 else -2) else -1) ∧ o.2 = N)) ∧ Fr (fun o _ => o = 66) N o.2) := by
  have hV := hM.2.1
  have v1 := hV.2.1
  have e1 : N 66 1 = r 1 := hM.1 1 (by omega)
  unfold f_X12_good1 f_X12_good1_j24
  rw [ref_in, ref_in, Option.bind_some, Option.bind_some, ref_isLord hM.1 hV, Option.bind_some, e1]
  by_cases c1 : 0 ≤ b ∧ b ≤ 99
  case neg =>
    rw [if_neg c1, i00]
    exact ok_ret ⟨Or.inr ⟨fun z => c1 z.1, by rw [if_neg (fun z => c1 z.1)], rfl⟩, fr_rfl⟩
  rw [if_pos c1, i10]
  by_cases c2 : 0 ≤ k ∧ k ≤ 20
  case neg =>
    rw [if_neg c2, i00]
    exact ok_ret ⟨Or.inr ⟨fun z => c2 z.2.1, by rw [if_neg (fun z => c2 z.2)], rfl⟩, fr_rfl⟩
  rw [if_pos c2, i10]
  by_cases c3 : 0 ≤ h ∧ h < r 0
  case neg =>
    rw [if_neg c3, i00]
    exact ok_ret ⟨Or.inr ⟨fun z => c3 z.2.2.1, by rw [if_pos ⟨c1, c2⟩, if_neg c3], rfl⟩, fr_rfl⟩
  rw [if_pos c3, i10]
  by_cases c4 : r 1 = 16
  · rw [if_pos c4]
    exact ok_ret ⟨Or.inr ⟨fun z => by have := z.2.2.2; omega, by rw [if_pos ⟨c1, c2⟩, if_pos c3], rfl⟩, fr_rfl⟩
  rw [if_neg c4]
  have can : canG r h b k := ⟨c1, c2, c3, by omega⟩
  have ei : (45 + 6 * r 1).toNat = (45 + 6 * r 1 + 0).toNat := by omega
  simp (disch := omega) only [w_id (x := 6 * r 1), w_id (x := 45 + 6 * r 1), w_id (x := 45 + 6 * r 1 + 1), w_id (x := 45 + 6 * r 1 + 2), w_id (x := 45 + 6 * r 1 + 3), w_id (x := 45 + 6 * r 1 + 4), w_id (x := 45 + 6 * r 1 + 5), gdp]
  rw [ei, up_k (by omega), up_k (by omega), up_k (by omega), up_k (by omega), up_k (by omega), up_k (by omega), e1, w_id (x := r 1 + 1) (by omega) (by omega)]
  refine ok_ret ⟨Or.inl ⟨can, rfl, ?_⟩, fr66 (fr66 (fr66 (fr66 (fr66 (fr66 (fr66 fr_rfl))))))⟩
  refine mw_cells hM ?_ (goodS_vr hV hB can) hM.2.2.1 (goodS_ne (by omega) (by omega) (by omega)) (by simp (disch := omega) only [up_o]) (fun j hj => by simp (disch := omega) only [up_k])
  exact ru_hr (i := 1) (ru_hr (ru_hr (ru_hr (ru_hr (ru_hr (ru_hr hM.1))))))
theorem sim_good (h : Inv X N B) (hB : 0 ≤ B) (a b k : Int) : Sim X N B (f_X11_good X N a b k) (fun M => f_X12_good X M a b k) := by
  obtain ⟨hX, ⟨r, lw⟩, im, un, tp, cn, rp, hC, hM⟩ := h
  have hW : CW X N 4 B r lw := hC.1
  have hV := hW.2.1
  have v1 := hV.2.1
  have RM : ∀ (v : Int), v < 0 → -6 ≤ v → ∀ M, MInv M B (r, lw) im un tp cn rp → Ok (f_X12_settled X (m_up M 64 0 0) v) (fun p => p.1 = v ∧ MInv p.2 B (r, lw) im un tp (rfu cn v) rp ∧ Fr notC M p.2) := by
    intro v v0 v6 M hM
    have hM1 := minv_0 (x := 0) hM
    unfold f_X12_settled f_X12_settled_j13
    rw [if_pos v0]
    have e : m_up (m_up M 64 0 0) 64 8 (m_up M 64 0 0 64 8) = m_up M 64 0 0 := by
      funext o k
      unfold m_up
      by_cases a : o = 64
      · subst a
        by_cases b : k = 8
        · subst b; rfl
        · simp [b]
      · simp [a]
    try dsimp only
    rw [e]
    refine ok_mono (ms_refuse hM1 v0 v6) ?_
    rintro p ⟨p1, p2, p3⟩
    exact ⟨p1, p2, fr_tr nC_0 p3⟩
  unfold f_X11_good f_X11_good_j20 f_X12_good
  rw [c_within, c_within, Option.bind_some, Option.bind_some, c_isLord hW.1, Option.bind_some, c_many hW.1 (by omega) (by omega), Option.bind_some]
  by_cases c : canG r a b k
  · obtain ⟨c1, c2, c3, c4⟩ := id c
    refine sim_mk (v := r 1) hX hM (B' := B) ?_ (fun M hM => ?_) (q' := (goodS r a b k, lw)) (im' := im) (un' := (0, un.2)) (tp' := tp) (cn' := ru cn 0 0) (rp' := rp)
    · rw [if_pos c1, i10, if_pos c2, i10, if_pos c3, i10, if_pos (show r (1 : Int).toNat < 16 from c4)]
      refine ok_bd (a := m_up N 13 3 0) rfl ?_
      have hC1 := cinv_clear hC
      refine ok_bind (c_addGood hC1.1 hB c) ?_
      rintro ⟨v, N1⟩ ⟨p1, p2, p3⟩
      dsimp only at p1 p2 p3 ⊢
      subst p1
      refine ok_mono (cs_accept (cinv_world hC1 p2 (Int.le_refl _) p3)) ?_
      rintro o ⟨o1, o2, o3⟩
      exact ⟨o1, o2, fr_tr (fr_up fr_rfl (by unfold notM pM; omega)) (fr_tr (nM_5 p3) o3)⟩
    · have hM1 := minv_0 (x := 0) hM
      have hW1 : MW (m_up M 64 0 0) B r lw := hM1.1
      try dsimp only
      refine ok_bind (ref_good1 hW1 hB) ?_
      rintro ⟨v, M1⟩ ⟨p1, p2⟩
      dsimp only at p1 p2 ⊢
      rcases p1 with ⟨-, p3, p4⟩ | ⟨p3, -⟩
      case inr => exact (p3 c).elim
      subst p3
      have cn1 : MCn M1 cn := by
        have z : ∀ o, o ≠ 66 → M1 o = m_up M 64 0 0 o := fun o p => fr_of p2 o fun k => p
        exact mcn_eq hM1.2.2.2.2.1 (by rw [z 64 (by omega)]) (z _ (by omega)) (by rw [z 64 (by omega)]) (by rw [z 64 (by omega)]) (by rw [z 64 (by omega)])
      rw [ref_settledP cn1 (by omega), Option.bind_some]
      refine ok_ret ⟨rfl, minv_1 (minv_wc hM1 (mw_eq p4 (up_of (by omega)) (up_k (by omega))) up_s ?_), nC_64 (nC_64 (fr_tr nC_0 (fr_mono p2 fun o k z => by unfold notC pC; omega)))⟩
      exact fr_up (fr_mono p2 fun o k z => Or.inl z) (Or.inr ⟨rfl, rfl⟩)
  · have K : ∀ v : Int, v < 0 → -6 ≤ v → v = (if (0 ≤ b ∧ b ≤ 99) ∧ (0 ≤ k ∧ k ≤ 20) then (if 0 ≤ a ∧ a < r 0 then -5 else -2) else -1) → ∀ M, MInv M B (r, lw) im un tp cn rp → Ok (Option.bind (f_X12_good1 X (m_up M 64 0 0) a b k) (fun o2 => Option.bind (f_X12_settled X o2.2 o2.1) (fun o3 => some (o3.1, o3.2)))) (fun p => p.1 = v ∧ MInv p.2 B (r, lw) im un tp (rfu cn v) rp ∧ Fr notC M p.2) := by
      intro v v0 v6 hv M hM
      have hW1 : MW (m_up M 64 0 0) B r lw := (minv_0 hM).1
      refine ok_bind (ref_good1 hW1 hB) ?_
      rintro ⟨w, M1⟩ ⟨p1, p2⟩
      dsimp only at p1 p2 ⊢
      rcases p1 with ⟨p3, -⟩ | ⟨-, p3, p4⟩
      · exact (c p3).elim
      · rw [p3, p4, ← hv]
        refine ok_bind (RM v v0 v6 M hM) ?_
        rintro p ⟨p1, p2, p3⟩
        exact ok_ret ⟨p1, p2, p3⟩
    by_cases c1 : 0 ≤ b ∧ b ≤ 99
    case neg =>
      refine sim_mk (v := -1) hX hM (B' := B) ?_ (K (-1) (by omega) (by omega) (by rw [if_neg (fun z => c1 z.1)])) (q' := (r, lw)) (im' := im) (un' := un) (tp' := tp) (cn' := rfu cn (-1)) (rp' := rp)
      rw [if_neg c1, i00]; exact cs_refuse hC (by omega) (by omega)
    rw [if_pos c1, i10]
    by_cases c2 : 0 ≤ k ∧ k ≤ 20
    case neg =>
      refine sim_mk (v := -1) hX hM (B' := B) ?_ (K (-1) (by omega) (by omega) (by rw [if_neg (fun z => c2 z.2)])) (q' := (r, lw)) (im' := im) (un' := un) (tp' := tp) (cn' := rfu cn (-1)) (rp' := rp)
      rw [if_neg c2, i00]; exact cs_refuse hC (by omega) (by omega)
    rw [if_pos c2, i10]
    by_cases c3 : 0 ≤ a ∧ a < r 0
    case neg =>
      refine sim_mk (v := -2) hX hM (B' := B) ?_ (K (-2) (by omega) (by omega) (by rw [if_pos ⟨c1, c2⟩, if_neg c3])) (q' := (r, lw)) (im' := im) (un' := un) (tp' := tp) (cn' := rfu cn (-2)) (rp' := rp)
      rw [if_neg c3, i00]; exact cs_refuse hC (by omega) (by omega)
    rw [if_pos c3, i10]
    have c4 : ¬ r 1 < 16 := fun z => c ⟨c1, c2, c3, z⟩
    refine sim_mk (v := -5) hX hM (B' := B) ?_ (K (-5) (by omega) (by omega) (by rw [if_pos ⟨c1, c2⟩, if_pos c3])) (q' := (r, lw)) (im' := im) (un' := un) (tp' := tp) (cn' := rfu cn (-5)) (rp' := rp)
    rw [if_neg (show ¬ r (1 : Int).toNat < 16 from c4)]; exact cs_refuse hC (by omega) (by omega)
end GD
