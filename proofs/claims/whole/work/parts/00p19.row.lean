/-! lord; row -/
section LR
variable {X : MX} {N : NN} {B : Int} {r : Nat → Int} {lw : Nat → Law}
theorem lordN_ne {g h : Int} {j : Nat} (h0 : 0 ≤ r 0) (hj : j ≠ 0) (hj2 : j < 9 ∨ 45 ≤ j) (h5 : r 0 ≤ 5) : lordN r g h j = r j := by
  unfold lordN
  rw [ru_ne (by omega), ru_ne (by omega), ru_ne (by omega), ru_ne (by omega), ru_ne (by omega), ru_ne (by omega), ru_ne (by omega)]
theorem lordN_vr {g h : Int} (hV : Vr B r) (h5 : r 0 ≤ 5) (hg : 0 ≤ g ∧ g ≤ 9999) (hh : 0 ≤ h ∧ h ≤ 99) : Vr B (lordN r g h) := by
  have v0 := hV.1
  have w0 := vr_grain (v := g) hV (l := r 0) (by omega) (by omega) hg.1 hg.2
  have w1 := vr_harvest (v := h) w0 (l := r 0) (by omega) (by omega) hh.1 hh.2
  have w2 := vr_ruin (v := 0) w1 (l := r 0) (by omega) (by omega) (by omega) (by omega)
  have w3 := vr_foul (v := 0) w2 (l := r 0) (k := 3) (by omega) (by omega) (by omega) (by omega)
  have w4 := vr_foul (v := 0) w3 (l := r 0) (k := 4) (by omega) (by omega) (by omega) (by omega)
  have w5 := vr_foul (v := 0) w4 (l := r 0) (k := 5) (by omega) (by omega) (by omega) (by omega)
  unfold lordN
  refine vr_0 w5 ?_ (by omega)
  rw [ru_ne (by omega), ru_ne (by omega), ru_ne (by omega), ru_ne (by omega), ru_ne (by omega), ru_ne (by omega)]
  omega
/-- Arrays.fill of a part -/
theorem c_fill {o n : Nat} {a b v : Int} (hk : xK X o = (1, n)) (hn : n ≤ 1000000) (h0 : 0 ≤ a) (h1 : a ≤ b) (h2 : b ≤ (n : Int)) : Ok (f_J7_fill_fda19 X o N a b v) (fun N' => (∀ j : Nat, N' o j = if a ≤ (j : Int) ∧ (j : Int) < b then v else N o j) ∧ Fr (fun o' _ => o' = o) N N') := by
  unfold f_J7_fill_fda19 f_J7_rangeCheck_23922
  rw [hk]
  dsimp only
  rw [gdp (by omega), if_neg (by omega), if_neg (by omega), if_neg (by omega), Option.bind_some]
  have H : Ok (lp (fun s : NN × Int × Int × Int => b_J7_fill_fda19_10 X o s.1 s.2.1 s.2.2.1 s.2.2.2) (N, b, v, a)) (fun N' => (∀ j : Nat, N' o j = if a ≤ (j : Int) ∧ (j : Int) < b then v else N o j) ∧ Fr (fun o' _ => o' = o) N N') := by
    refine ok_up (fun i s => ∃ M, s = (M, b, v, i) ∧ (∀ j : Nat, M o j = if a ≤ (j : Int) ∧ (j : Int) < i then v else N o j) ∧ Fr (fun o' _ => o' = o) N M) b (i0 := a) ?_ ?_ h1 ⟨N, rfl, fun j => by rw [if_neg (by omega)], fr_rfl⟩
    · rintro i s a0 a1 ⟨M, rfl, hM, hf⟩
      dsimp only
      unfold b_J7_fill_fda19_10
      rw [hk, if_pos a1]
      dsimp only
      rw [gdp (by omega)]
      refine ok_ret ⟨_, by rw [w_id (by omega) (by omega)], fun j => ?_, fr_up hf rfl⟩
      rw [up_a]
      by_cases e : j = i.toNat
      · rw [if_pos e, if_pos (by omega)]
      · rw [if_neg e, hM]
        by_cases c : a ≤ (j : Int) ∧ (j : Int) < i
        · rw [if_pos c, if_pos (by omega)]
        · rw [if_neg c, if_neg (by omega)]
    · rintro s ⟨M, rfl, hM, hf⟩
      dsimp only
      unfold b_J7_fill_fda19_10
      rw [if_neg (by omega)]
      exact ok_ret ⟨hM, hf⟩
  refine ok_bind H ?_
  intro N' p
  exact ok_ret p
theorem c_addLord {g h : Int} (hX : XOK X) (hW : CW X N 4 B r lw) (h5 : r 0 ≤ 5) (hg : 0 ≤ g ∧ g ≤ 9999) (hh : 0 ≤ h ∧ h ≤ 99) : Ok (f_X10_addLord X 4 N g h) (fun o => o.1 = r 0 ∧ CW X o.2 4 B (lordN r g h) lw ∧ Fr (fun o _ => o = 5) N o.2) := by
  have hV := hW.2.1
  have v0 := hV.1
  have e1 : N 5 191 = r 0 := hW.1.2.2.2.2.2.1 0 (by omega) (by omega)
  unfold f_X10_addLord
  rw [show N (4 + 1) 191 = r 0 from e1, w_id (x := r 0 * 6) (by omega) (by omega), w_id (x := 3 + r 0 * 6) (by omega) (by omega), w_id (x := 3 + r 0 * 6 + 6) (by omega) (by omega), w_id (x := 3 + r 0 * 6 + 0) (by omega) (by omega), w_id (x := 3 + r 0 * 6 + 1) (by omega) (by omega), w_id (x := r 0 + 1) (by omega) (by omega)]
  dsimp only
  refine ok_bind (c_fill (n := 266) hX.2.2.2.2.2.2.2.2.1 (by omega) (by omega) (by omega) (by omega)) ?_
  intro N1 ⟨p1, p2⟩
  rw [gdp (by omega), gdp (by omega)]
  have f1 : Fr (fun o _ => o = 5) N (m_up (m_up N1 (4 + 1) (3 + r 0 * 6 + 0).toNat g) (4 + 1) (3 + r 0 * 6 + 1).toNat h) := fr5 (fr5 (fr_tr (fr5 fr_rfl) p2))
  refine ok_ret ⟨rfl, cw_cells (by omega) hW f1 ?_ (lordN_vr hV h5 hg hh) hW.2.2.1 (lordN_ne (by omega) (by omega) (by omega) h5), f1⟩
  have R := rw_many (k := 0) (v := r 0 + 1) (rw_lord (v := 0) (rw_lord (v := 0) (rw_lord (v := 0) (rw_lord (v := 0) (rw_lord (v := h) (rw_lord (v := g) hW.1 (l := r 0) (k := 0) (by omega) (by omega) (by omega) (by omega)) (l := r 0) (k := 1) (by omega) (by omega) (by omega) (by omega)) (l := r 0) (k := 2) (by omega) (by omega) (by omega) (by omega)) (l := r 0) (k := 3) (by omega) (by omega) (by omega) (by omega)) (l := r 0) (k := 4) (by omega) (by omega) (by omega) (by omega)) (l := r 0) (k := 5) (by omega) (by omega) (by omega) (by omega)) (by omega) (by omega) (by omega)
  dsimp only
  have e : m_up (m_up N1 (4 + 1) (3 + r 0 * 6 + 0).toNat g) (4 + 1) (3 + r 0 * 6 + 1).toNat h (4 + 1) = ru (ru (ru (ru (ru (ru (ru (N (4 + 1)) (3 + r 0 * 6 + 0) g) (3 + r 0 * 6 + 1) h) (3 + r 0 * 6 + 2) 0) (3 + r 0 * 6 + 3) 0) (3 + r 0 * 6 + 4) 0) (3 + r 0 * 6 + 5) 0) (191 + 0) (r 0 + 1) := by
    funext j
    rw [up_ru, up_ru]
    have q := p1 j
    rw [up_a] at q
    by_cases a1 : j = (3 + r 0 * 6 + 1).toNat
    · rw [ru_eq a1, ru_ne (by omega), ru_ne (by omega), ru_ne (by omega), ru_ne (by omega), ru_ne (by omega), ru_eq a1]
    rw [ru_ne (i := 3 + r 0 * 6 + 1) a1]
    by_cases a0 : j = (3 + r 0 * 6 + 0).toNat
    · rw [ru_eq a0, ru_ne (by omega), ru_ne (by omega), ru_ne (by omega), ru_ne (by omega), ru_ne (by omega), ru_ne (by omega), ru_eq a0]
    rw [ru_ne (i := 3 + r 0 * 6 + 0) a0]
    refine q.trans ?_
    by_cases a2 : 3 + r 0 * 6 ≤ (j : Int) ∧ (j : Int) < 3 + r 0 * 6 + 6
    · rw [if_pos a2, ru_ne (i := 191 + 0) (by omega)]
      rcases (show j = (3 + r 0 * 6 + 2).toNat ∨ j = (3 + r 0 * 6 + 3).toNat ∨ j = (3 + r 0 * 6 + 4).toNat ∨ j = (3 + r 0 * 6 + 5).toNat by omega) with z | z | z | z
      · rw [ru_ne (by omega), ru_ne (by omega), ru_ne (by omega), ru_eq z]
      · rw [ru_ne (by omega), ru_ne (by omega), ru_eq z]
      · rw [ru_ne (by omega), ru_eq z]
      · rw [ru_eq z]
    · rw [if_neg a2]
      by_cases a3 : j = 191
      · rw [if_pos a3, ru_eq (by omega)]
      · rw [if_neg a3, ru_ne (by omega), ru_ne (by omega), ru_ne (by omega), ru_ne (by omega), ru_ne (by omega), ru_ne (by omega), ru_ne (by omega)]
  rw [e]
  exact R
theorem sim_lord (h : Inv X N B) (g k : Int) : Sim X N B (f_X11_lord X N g k) (fun M => f_X12_lord X M g k) := by
  obtain ⟨hX, ⟨r, lw⟩, im, un, tp, cn, rp, hC, hM⟩ := h
  have hW : CW X N 4 B r lw := hC.1
  have hV := hW.2.1
  have v0 := hV.1
  unfold f_X11_lord f_X11_lord_j21 f_X12_lord f_X12_lord_j29
  rw [c_within, c_within, Option.bind_some, Option.bind_some, c_many hW.1 (by omega) (by omega), Option.bind_some]
  by_cases c1 : (0 ≤ g ∧ g ≤ 9999) ∧ (0 ≤ k ∧ k ≤ 99)
  case neg =>
    refine sim_mk (v := -1) hX hM (B' := B) ?_ (fun M hM => ?_) (q' := (r, lw)) (im' := im) (un' := un) (tp' := tp) (cn' := rfu cn (-1)) (rp' := rp)
    · have K := cs_refuse (v := -1) hC (by omega) (by omega)
      by_cases x1 : 0 ≤ g ∧ g ≤ 9999
      · rw [if_pos x1, i10, if_neg (show ¬ (0 ≤ k ∧ k ≤ 99) by omega), i00]; exact K
      · rw [if_neg x1, i00]; exact K
    · have K := ms_ref0 (X := X) (v := -1) hM (by omega) (by omega)
      try dsimp only
      rw [ref_in, ref_in, Option.bind_some, Option.bind_some]
      by_cases x1 : 0 ≤ g ∧ g ≤ 9999
      · rw [if_pos x1, i10, if_neg (show ¬ (0 ≤ k ∧ k ≤ 99) by omega), i00]; exact K
      · rw [if_neg x1, i00]; exact K
  obtain ⟨x1, x2⟩ := c1
  rw [if_pos x1, i10, if_pos x2, i10]
  by_cases c2 : r 0 < 6
  case neg =>
    refine sim_mk (v := -5) hX hM (B' := B) ?_ (fun M hM => ?_) (q' := (r, lw)) (im' := im) (un' := un) (tp' := tp) (cn' := rfu cn (-5)) (rp' := rp)
    · rw [if_neg (show ¬ r (0 : Int).toNat < 6 from c2)]; exact cs_refuse hC (by omega) (by omega)
    · have hM1 : MW (m_up M 64 0 0) B r lw := (minv_0 hM).1
      try dsimp only
      rw [ref_in, ref_in, Option.bind_some, Option.bind_some, if_pos x1, i10, if_pos x2, i10, hM1.1 0 (by omega), if_pos (show r 0 = 6 by omega)]
      exact ms_ref0 hM (by omega) (by omega)
  refine sim_mk (v := r 0) hX hM (B' := B) ?_ (fun M hM => ?_) (q' := (lordN r g k, lw)) (im' := im) (un' := (0, un.2)) (tp' := tp) (cn' := ru cn 0 0) (rp' := rp)
  · rw [if_pos (show r (0 : Int).toNat < 6 from c2)]
    refine ok_bd (a := m_up N 13 3 0) rfl ?_
    have hC1 := cinv_clear hC
    refine ok_bind (c_addLord hX hC1.1 (show r 0 ≤ 5 by omega) x1 x2) ?_
    rintro ⟨v, N1⟩ ⟨p1, p2, p3⟩
    dsimp only at p1 p2 p3 ⊢
    subst p1
    refine ok_mono (cs_accept (cinv_world hC1 p2 (Int.le_refl _) p3)) ?_
    rintro o ⟨o1, o2, o3⟩
    exact ⟨o1, o2, fr_tr (fr_up fr_rfl (by unfold notM pM; omega)) (fr_tr (nM_5 p3) o3)⟩
  · have hM1 := minv_0 (x := 0) hM
    have hW1 : MW (m_up M 64 0 0) B r lw := hM1.1
    have e0 : m_up M 64 0 0 66 0 = r 0 := hW1.1 0 (by omega)
    try dsimp only
    rw [ref_in, ref_in, Option.bind_some, Option.bind_some, if_pos x1, i10, if_pos x2, i10, e0, if_neg (show ¬ r 0 = 6 by omega)]
    have ei : (9 + 6 * r 0).toNat = (9 + 6 * r 0 + 0).toNat := by omega
    simp (disch := omega) only [w_id (x := 6 * r 0), w_id (x := 9 + 6 * r 0), w_id (x := 9 + 6 * r 0 + 1), gdp]
    rw [ei]
    have S : ∀ (M1 : NN) (a5 : Int), 2 ≤ a5 → a5 ≤ 5 → b_X12_lord_85 X M1 (r 0) (9 + 6 * r 0) a5 = some (.inl (m_up M1 66 (9 + 6 * r 0 + a5).toNat 0, r 0, 9 + 6 * r 0, a5 + 1)) := by
      intro M1 a5 q1 q2
      unfold b_X12_lord_85
      rw [if_pos (by omega), w_id (by omega) (by omega), gdp (by omega), w_id (by omega) (by omega)]
    have E : ∀ (M1 : NN), b_X12_lord_85 X M1 (r 0) (9 + 6 * r 0) (5 + 1) = some (.inr (M1, r 0)) := by
      intro M1
      unfold b_X12_lord_85
      rw [if_neg (by omega)]
    generalize hM8 : m_up (m_up (m_up M 64 0 0) 66 (9 + 6 * r 0 + 0).toNat g) 66 (9 + 6 * r 0 + 1).toNat k = M8
    rw [lp_next (s := (M8, r 0, 9 + 6 * r 0, 2)) (S M8 2 (by omega) (by omega)), lp_next (s := (_, r 0, 9 + 6 * r 0, 2 + 1)) (S _ 3 (by omega) (by omega)), lp_next (s := (_, r 0, 9 + 6 * r 0, 3 + 1)) (S _ 4 (by omega) (by omega)), lp_next (s := (_, r 0, 9 + 6 * r 0, 4 + 1)) (S _ 5 (by omega) (by omega)), lp_end (s := (_, r 0, 9 + 6 * r 0, 5 + 1)) (E _), Option.bind_some]
    subst hM8
    dsimp only
    rw [up_k (by omega), up_k (by omega), up_k (by omega), up_k (by omega), up_k (by omega), up_k (by omega), e0, w_id (x := r 0 + 1) (by omega) (by omega)]
    have p1 : MW (m_up (m_up (m_up (m_up (m_up (m_up (m_up (m_up M 64 0 0) 66 (9 + 6 * r 0 + 0).toNat g) 66 (9 + 6 * r 0 + 1).toNat k) 66 (9 + 6 * r 0 + 2).toNat 0) 66 (9 + 6 * r 0 + 3).toNat 0) 66 (9 + 6 * r 0 + 4).toNat 0) 66 (9 + 6 * r 0 + 5).toNat 0) 66 0 (r 0 + 1)) B (lordN r g k) lw :=
      mw_cells hW1 (ru_hr (i := 0) (ru_hr (ru_hr (ru_hr (ru_hr (ru_hr (ru_hr hW1.1))))))) (lordN_vr hV (by omega) x1 x2) hW.2.2.1 (lordN_ne (by omega) (by omega) (by omega) (by omega)) (by simp (disch := omega) only [up_o]) (fun j hj => by simp (disch := omega) only [up_k])
    have f1 : Fr (fun o _ => o = 66) (m_up M 64 0 0) (m_up (m_up (m_up (m_up (m_up (m_up (m_up (m_up M 64 0 0) 66 (9 + 6 * r 0 + 0).toNat g) 66 (9 + 6 * r 0 + 1).toNat k) 66 (9 + 6 * r 0 + 2).toNat 0) 66 (9 + 6 * r 0 + 3).toNat 0) 66 (9 + 6 * r 0 + 4).toNat 0) 66 (9 + 6 * r 0 + 5).toNat 0) 66 0 (r 0 + 1)) := fr66 (fr66 (fr66 (fr66 (fr66 (fr66 (fr66 fr_rfl))))))
    revert p1 f1
    generalize m_up (m_up (m_up (m_up (m_up (m_up (m_up (m_up M 64 0 0) 66 (9 + 6 * r 0 + 0).toNat g) 66 (9 + 6 * r 0 + 1).toNat k) 66 (9 + 6 * r 0 + 2).toNat 0) 66 (9 + 6 * r 0 + 3).toNat 0) 66 (9 + 6 * r 0 + 4).toNat 0) 66 (9 + 6 * r 0 + 5).toNat 0) 66 0 (r 0 + 1) = M1
    intro p1 f1
    have cn1 : MCn M1 cn := by
      have z : ∀ o, o ≠ 66 → M1 o = m_up M 64 0 0 o := fun o p => fr_of f1 o fun k => p
      exact mcn_eq hM1.2.2.2.2.1 (by rw [z 64 (by omega)]) (z _ (by omega)) (by rw [z 64 (by omega)]) (by rw [z 64 (by omega)]) (by rw [z 64 (by omega)])
    rw [ref_settledP cn1 (by omega), Option.bind_some]
    refine ok_ret ⟨rfl, minv_1 (minv_wc hM1 (mw_eq p1 (up_of (by omega)) (up_k (by omega))) up_s ?_), nC_64 (nC_64 (fr_tr nC_0 (fr_mono f1 fun o k z => by unfold notC pC; omega)))⟩
    exact fr_up (fr_mono f1 fun o k z => Or.inl z) (Or.inr ⟨rfl, rfl⟩)
end LR
