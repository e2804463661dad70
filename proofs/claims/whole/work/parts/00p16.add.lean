/-! calls that add: herald, road, lord, good -/
theorem fr5 {N N' : NN} {k : Nat} {x : Int} (h : Fr (fun o _ => o = 5) N N') : Fr (fun o _ => o = 5) N (m_up N' 5 k x) := fr_up h rfl
theorem fr66 {N N' : NN} {k : Nat} {x : Int} (h : Fr (fun o _ => o = 66) N N') : Fr (fun o _ => o = 66) N (m_up N' 66 k x) := fr_up h rfl
section AD
variable {X : MX} {N : NN} {B : Int}
theorem sim_herald (h : Inv X N B) (a : Int) : Sim X N B (f_X11_herald X N a) (fun M => f_X12_herald X M a) := by
  obtain ⟨hX, ⟨r, lw⟩, im, un, tp, cn, rp, hC, hM⟩ := h
  have hW : CW X N 4 B r lw := hC.1
  have hV := hW.2.1
  have v2 := hV.2.2.1
  have hU : UV B r un := hM.2.2.2.2.2.2.2.1
  unfold f_X11_herald f_X12_herald
  rw [c_within, Option.bind_some, c_many hW.1 (by omega) (by omega), Option.bind_some]
  by_cases c1 : 1 ≤ a ∧ a ≤ 9
  case neg =>
    refine sim_mk (v := -1) hX hM (B' := B) ?_ (fun M hM => ?_) (q' := (r, lw)) (im' := im) (un' := un) (tp' := tp) (cn' := rfu cn (-1)) (rp' := rp)
    · rw [if_neg c1, i00]; exact cs_refuse hC (by omega) (by omega)
    · try dsimp only
      rw [ref_in, Option.bind_some, if_neg c1, i00]; exact ms_ref0 hM (by omega) (by omega)
  rw [if_pos c1, i10]
  by_cases c2 : r 2 < 5
  case neg =>
    refine sim_mk (v := -5) hX hM (B' := B) ?_ (fun M hM => ?_) (q' := (r, lw)) (im' := im) (un' := un) (tp' := tp) (cn' := rfu cn (-5)) (rp' := rp)
    · rw [if_neg (show ¬ r (2 : Int).toNat < 5 from c2)]; exact cs_refuse hC (by omega) (by omega)
    · have hM1 : MW (m_up M 64 0 0) B r lw := (minv_0 hM).1
      try dsimp only
      rw [ref_in, Option.bind_some, if_pos c1, i10, hM1.1 2 (by omega), if_pos (show r 2 = 5 by omega)]; exact ms_ref0 hM (by omega) (by omega)
  have vr' : Vr B (ru (ru r (213 + r 2) a) 2 (r 2 + 1)) := by
    refine vr_2 (vr_price hV (by omega) (by omega) (fun q => by omega)) ?_ (by omega) ?_
    · rw [ru_ne (by omega)]
    · have e2 : ru r (213 + r 2) a 2 = r 2 := ru_ne (by omega)
      unfold rh
      rw [e2, ru_eq rfl]; exact c1
  refine sim_mk (v := r 2) hX hM (B' := B) ?_ (fun M hM => ?_) (q' := (ru (ru r (213 + r 2) a) 2 (r 2 + 1), lw)) (im' := im) (un' := un) (tp' := tp) (cn' := ru cn 0 0) (rp' := rp)
  · rw [if_pos (show r (2 : Int).toNat < 5 from c2)]
    have e2 : N 5 193 = r 2 := hW.1.2.2.2.2.2.1 2 (by omega) (by omega)
    unfold f_X10_addHerald
    simp (disch := omega) only [e2, w_id, gdp, Option.bind_some]
    have f1 : Fr (fun o _ => o = 5) N (m_up (m_up N (4 + 1) 193 (r 2 + 1)) (4 + 1) (213 + r 2).toNat a) := fr5 (fr5 fr_rfl)
    have p1 : CW X (m_up (m_up N (4 + 1) 193 (r 2 + 1)) (4 + 1) (213 + r 2).toNat a) 4 B (ru (ru r (213 + r 2) a) 2 (r 2 + 1)) lw := by
      refine cw_cells (by omega) hW f1 ?_ vr' hW.2.2.1 (by rw [ru_ne (by omega), ru_ne (by omega)])
      rw [up_ru, up_ruN, ru_comm (by omega)]
      exact rw_many (k := 2) (rw_price hW.1 (by omega) (by omega)) (by omega) (by omega) (by omega)
    refine ok_mono (cs_accept (cinv_world hC p1 (Int.le_refl _) f1)) ?_
    rintro o ⟨o1, o2, o3⟩
    exact ⟨o1, o2, fr_tr (nM_5 f1) o3⟩
  · have hM1 := minv_0 (x := 0) hM
    have hW1 : MW (m_up M 64 0 0) B r lw := hM1.1
    try dsimp only
    rw [ref_in, Option.bind_some, if_pos c1, i10, hW1.1 2 (by omega), if_neg (show ¬ r 2 = 5 by omega), w_id (x := 213 + r 2) (by omega) (by omega), gdp (by omega), up_k (by omega), hW1.1 2 (by omega), w_id (x := r 2 + 1) (by omega) (by omega)]
    have p1 : MW (m_up (m_up (m_up M 64 0 0) 66 (213 + r 2).toNat a) 66 2 (r 2 + 1)) B (ru (ru r (213 + r 2) a) 2 (r 2 + 1)) lw := mw_cells hW1 (ru_hr (i := 2) (ru_hr hW1.1)) vr' hW.2.2.1 (by rw [ru_ne (by omega), ru_ne (by omega)]) (by rw [up_o (by omega), up_o (by omega)]) (fun j hj => by rw [up_k (by omega), up_k (by omega)])
    have i1 := minv_w hM1 p1 (uv_r hU (by rw [ru_ne (by omega), ru_ne (by omega)]) (by rw [ru_ne (by omega), ru_ne (by omega)]) (by rw [ru_ne (by omega), ru_ne (by omega)]) (by rw [ru_ne (by omega), ru_ne (by omega)])) (fr66 (fr66 fr_rfl))
    rw [ref_tellP i1.2.2.2.2.1 (by omega), Option.bind_some]
    exact ok_ret ⟨rfl, minv_1 i1, nC_64 (nC_66 (nC_66 nC_0))⟩
theorem sim_road (h : Inv X N B) (a b d t : Int) : Sim X N B (f_X11_road X N a b d t) (fun M => f_X12_road X M a b d t) := by
  obtain ⟨hX, ⟨r, lw⟩, im, un, tp, cn, rp, hC, hM⟩ := h
  have hW : CW X N 4 B r lw := hC.1
  have hV := hW.2.1
  have v0 := hV.1
  have v3 := hV.2.2.2.1
  have hU : UV B r un := hM.2.2.2.2.2.2.2.1
  unfold f_X11_road f_X11_road_j26 f_X11_road_j54 f_X12_road f_X12_road_j35 f_X12_road_j57
  rw [c_within, c_within, Option.bind_some, Option.bind_some, c_isLord hW.1, c_isLord hW.1, Option.bind_some, Option.bind_some, c_many hW.1 (by omega) (by omega), Option.bind_some]
  by_cases c1 : a ≠ b ∧ (1 ≤ d ∧ d ≤ 30) ∧ (0 ≤ t ∧ t ≤ 10)
  case neg =>
    refine sim_mk (v := -1) hX hM (B' := B) ?_ (fun M hM => ?_) (q' := (r, lw)) (im' := im) (un' := un) (tp' := tp) (cn' := rfu cn (-1)) (rp' := rp)
    · have K := cs_refuse (v := -1) hC (by omega) (by omega)
      by_cases x1 : a = b
      · rw [if_pos x1]; exact K
      rw [if_neg x1]
      by_cases x2 : 1 ≤ d ∧ d ≤ 30
      · rw [if_pos x2, i10, if_neg (show ¬ (0 ≤ t ∧ t ≤ 10) by omega), i00]; exact K
      · rw [if_neg x2, i00]; exact K
    · have K := ms_ref0 (X := X) (v := -1) hM (by omega) (by omega)
      try dsimp only
      rw [ref_in, ref_in, Option.bind_some, Option.bind_some]
      by_cases x1 : a = b
      · rw [if_pos x1]; exact K
      rw [if_neg x1]
      by_cases x2 : 1 ≤ d ∧ d ≤ 30
      · rw [if_pos x2, i10, if_neg (show ¬ (0 ≤ t ∧ t ≤ 10) by omega), i00]; exact K
      · rw [if_neg x2, i00]; exact K
  obtain ⟨x1, x2, x3⟩ := c1
  rw [if_neg x1, if_pos x2, i10, if_pos x3, i10]
  by_cases c2 : (0 ≤ a ∧ a < r 0) ∧ (0 ≤ b ∧ b < r 0)
  case neg =>
    refine sim_mk (v := -2) hX hM (B' := B) ?_ (fun M hM => ?_) (q' := (r, lw)) (im' := im) (un' := un) (tp' := tp) (cn' := rfu cn (-2)) (rp' := rp)
    · have K := cs_refuse (v := -2) hC (by omega) (by omega)
      by_cases y1 : 0 ≤ a ∧ a < r 0
      · rw [if_pos y1, i10, if_neg (show ¬ (0 ≤ b ∧ b < r 0) by omega), i00]; exact K
      · rw [if_neg y1, i00]; exact K
    · have K := ms_ref0 (X := X) (v := -2) hM (by omega) (by omega)
      have hM1 : MW (m_up M 64 0 0) B r lw := (minv_0 hM).1
      try dsimp only
      rw [ref_in, ref_in, Option.bind_some, Option.bind_some, if_neg x1, if_pos x2, i10, if_pos x3, i10, ref_isLord hM1.1 hV, ref_isLord hM1.1 hV, Option.bind_some, Option.bind_some]
      by_cases y1 : 0 ≤ a ∧ a < r 0
      · rw [if_pos y1, i10, if_neg (show ¬ (0 ≤ b ∧ b < r 0) by omega), i00]; exact K
      · rw [if_neg y1, i00]; exact K
  obtain ⟨y1, y2⟩ := c2
  rw [if_pos y1, i10, if_pos y2, i10]
  by_cases c3 : r 3 < 12
  case neg =>
    refine sim_mk (v := -5) hX hM (B' := B) ?_ (fun M hM => ?_) (q' := (r, lw)) (im' := im) (un' := un) (tp' := tp) (cn' := rfu cn (-5)) (rp' := rp)
    · rw [if_neg (show ¬ r (3 : Int).toNat < 12 from c3)]; exact cs_refuse hC (by omega) (by omega)
    · have hM1 : MW (m_up M 64 0 0) B r lw := (minv_0 hM).1
      try dsimp only
      rw [ref_in, ref_in, Option.bind_some, Option.bind_some, if_neg x1, if_pos x2, i10, if_pos x3, i10, ref_isLord hM1.1 hV, ref_isLord hM1.1 hV, Option.bind_some, Option.bind_some, if_pos y1, i10, if_pos y2, i10, hM1.1 3 (by omega), if_pos (show r 3 = 12 by omega)]
      exact ms_ref0 hM (by omega) (by omega)
  have R4 : ∀ k : Int, 0 ≤ k → k ≤ 3 → ∀ (s : Nat → Int) (v : Int), s 3 = r 3 → Vr B s → Vr B (ru s (218 + 4 * r 3 + k) v) ∧ ru s (218 + 4 * r 3 + k) v 3 = r 3 := by
    intro k k0 k1 s v e hs
    exact ⟨vr_road hs (by omega) (by omega) k0 k1 (by omega), by rw [ru_ne (by omega)]; exact e⟩
  obtain ⟨w0, z0⟩ := R4 0 (by omega) (by omega) r a rfl hV
  obtain ⟨w1, z1⟩ := R4 1 (by omega) (by omega) _ b z0 w0
  obtain ⟨w2, z2⟩ := R4 2 (by omega) (by omega) _ d z1 w1
  obtain ⟨w3, z3⟩ := R4 3 (by omega) (by omega) _ t z2 w2
  have vr' : Vr B (ru (ru (ru (ru (ru r (218 + 4 * r 3 + 0) a) (218 + 4 * r 3 + 1) b) (218 + 4 * r 3 + 2) d) (218 + 4 * r 3 + 3) t) 3 (r 3 + 1)) := by
    refine vr_3 w3 (by rw [z3]) (by omega) ?_
    rw [z3]
    unfold rr
    rw [ru_ne (j := 0) (by omega), ru_ne (j := 0) (by omega), ru_ne (j := 0) (by omega), ru_ne (j := 0) (by omega)]
    rw [ru_ne (j := (218 + 4 * r 3 + 0).toNat) (i := 218 + 4 * r 3 + 3) (by omega), ru_ne (j := (218 + 4 * r 3 + 0).toNat) (i := 218 + 4 * r 3 + 2) (by omega), ru_ne (j := (218 + 4 * r 3 + 0).toNat) (i := 218 + 4 * r 3 + 1) (by omega), ru_eq (j := (218 + 4 * r 3 + 0).toNat) rfl]
    rw [ru_ne (j := (218 + 4 * r 3 + 1).toNat) (i := 218 + 4 * r 3 + 3) (by omega), ru_ne (j := (218 + 4 * r 3 + 1).toNat) (i := 218 + 4 * r 3 + 2) (by omega), ru_eq (j := (218 + 4 * r 3 + 1).toNat) rfl]
    rw [ru_ne (j := (218 + 4 * r 3 + 2).toNat) (i := 218 + 4 * r 3 + 3) (by omega), ru_eq (j := (218 + 4 * r 3 + 2).toNat) rfl, ru_eq (j := (218 + 4 * r 3 + 3).toNat) rfl]
    omega
  have n4 : ∀ j : Nat, j ≠ 3 → j < 218 → ru (ru (ru (ru (ru r (218 + 4 * r 3 + 0) a) (218 + 4 * r 3 + 1) b) (218 + 4 * r 3 + 2) d) (218 + 4 * r 3 + 3) t) 3 (r 3 + 1) j = r j := by
    intro j j1 j2
    rw [ru_ne (by omega), ru_ne (by omega), ru_ne (by omega), ru_ne (by omega), ru_ne (by omega)]
  refine sim_mk (v := r 3) hX hM (B' := B) ?_ (fun M hM => ?_) (q' := (ru (ru (ru (ru (ru r (218 + 4 * r 3 + 0) a) (218 + 4 * r 3 + 1) b) (218 + 4 * r 3 + 2) d) (218 + 4 * r 3 + 3) t) 3 (r 3 + 1), lw)) (im' := im) (un' := un) (tp' := tp) (cn' := ru cn 0 0) (rp' := rp)
  · rw [if_pos (show r (3 : Int).toNat < 12 from c3)]
    have e3 : N 5 194 = r 3 := hW.1.2.2.2.2.2.1 3 (by omega) (by omega)
    unfold f_X10_addRoad
    simp (disch := omega) only [e3, w_id, gdp, Option.bind_some]
    have f1 : Fr (fun o _ => o = 5) N (m_up (m_up (m_up (m_up (m_up N (4 + 1) 194 (r 3 + 1)) (4 + 1) (218 + r 3 * 4 + 0).toNat a) (4 + 1) (218 + r 3 * 4 + 1).toNat b) (4 + 1) (218 + r 3 * 4 + 2).toNat d) (4 + 1) (218 + r 3 * 4 + 3).toNat t) := fr5 (fr5 (fr5 (fr5 (fr5 fr_rfl))))
    have p1 : CW X (m_up (m_up (m_up (m_up (m_up N (4 + 1) 194 (r 3 + 1)) (4 + 1) (218 + r 3 * 4 + 0).toNat a) (4 + 1) (218 + r 3 * 4 + 1).toNat b) (4 + 1) (218 + r 3 * 4 + 2).toNat d) (4 + 1) (218 + r 3 * 4 + 3).toNat t) 4 B (ru (ru (ru (ru (ru r (218 + 4 * r 3 + 0) a) (218 + 4 * r 3 + 1) b) (218 + 4 * r 3 + 2) d) (218 + 4 * r 3 + 3) t) 3 (r 3 + 1)) lw := by
      refine cw_cells (by omega) hW f1 ?_ vr' hW.2.2.1 (n4 4 (by omega) (by omega))
      rw [up_ru, up_ru, up_ru, up_ru, up_ruN, ru_comm (r := N (4 + 1)) (by omega), ru_comm (i := ((194 : Nat) : Int)) (j := 218 + r 3 * 4 + 1) (by omega), ru_comm (i := ((194 : Nat) : Int)) (j := 218 + r 3 * 4 + 2) (by omega), ru_comm (i := ((194 : Nat) : Int)) (j := 218 + r 3 * 4 + 3) (by omega)]
      exact rw_many (k := 3) (rw_road (rw_road (rw_road (rw_road hW.1 (by omega) (by omega) (by omega) (by omega)) (by omega) (by omega) (by omega) (by omega)) (by omega) (by omega) (by omega) (by omega)) (by omega) (by omega) (by omega) (by omega)) (by omega) (by omega) (by omega)
    refine ok_mono (cs_accept (cinv_world hC p1 (Int.le_refl _) f1)) ?_
    rintro o ⟨o1, o2, o3⟩
    exact ⟨o1, o2, fr_tr (nM_5 f1) o3⟩
  · have hM1 := minv_0 (x := 0) hM
    have hW1 : MW (m_up M 64 0 0) B r lw := hM1.1
    have e3 : m_up M 64 0 0 66 3 = r 3 := hW1.1 3 (by omega)
    try dsimp only
    rw [ref_in, ref_in, Option.bind_some, Option.bind_some, if_neg x1, if_pos x2, i10, if_pos x3, i10, ref_isLord hW1.1 hV, ref_isLord hW1.1 hV, Option.bind_some, Option.bind_some, if_pos y1, i10, if_pos y2, i10, e3, if_neg (show ¬ r 3 = 12 by omega)]
    have ei : (218 + 4 * r 3).toNat = (218 + 4 * r 3 + 0).toNat := by omega
    simp (disch := omega) only [w_id (x := 4 * r 3), w_id (x := 218 + 4 * r 3), w_id (x := 218 + 4 * r 3 + 1), w_id (x := 218 + 4 * r 3 + 2), w_id (x := 218 + 4 * r 3 + 3), gdp]
    rw [ei]
    have e3' : m_up (m_up (m_up (m_up (m_up M 64 0 0) 66 (218 + 4 * r 3 + 0).toNat a) 66 (218 + 4 * r 3 + 1).toNat b) 66 (218 + 4 * r 3 + 2).toNat d) 66 (218 + 4 * r 3 + 3).toNat t 66 3 = r 3 := by
      rw [up_k (by omega), up_k (by omega), up_k (by omega), up_k (by omega)]; exact e3
    rw [e3', w_id (x := r 3 + 1) (by omega) (by omega)]
    have p1 : MW (m_up (m_up (m_up (m_up (m_up (m_up M 64 0 0) 66 (218 + 4 * r 3 + 0).toNat a) 66 (218 + 4 * r 3 + 1).toNat b) 66 (218 + 4 * r 3 + 2).toNat d) 66 (218 + 4 * r 3 + 3).toNat t) 66 3 (r 3 + 1)) B (ru (ru (ru (ru (ru r (218 + 4 * r 3 + 0) a) (218 + 4 * r 3 + 1) b) (218 + 4 * r 3 + 2) d) (218 + 4 * r 3 + 3) t) 3 (r 3 + 1)) lw :=
      mw_cells hW1 (ru_hr (i := 3) (ru_hr (ru_hr (ru_hr (ru_hr hW1.1))))) vr' hW.2.2.1 (n4 4 (by omega) (by omega)) (by rw [up_o (by omega), up_o (by omega), up_o (by omega), up_o (by omega), up_o (by omega)]) (fun j hj => by rw [up_k (by omega), up_k (by omega), up_k (by omega), up_k (by omega), up_k (by omega)])
    have i1 := minv_w hM1 p1 (uv_r hU (n4 0 (by omega) (by omega)) (n4 1 (by omega) (by omega)) (n4 7 (by omega) (by omega)) (n4 8 (by omega) (by omega))) (fr66 (fr66 (fr66 (fr66 (fr66 fr_rfl)))))
    rw [ref_tellP i1.2.2.2.2.1 (by omega), Option.bind_some]
    exact ok_ret ⟨rfl, minv_1 i1, nC_64 (nC_66 (nC_66 (nC_66 (nC_66 (nC_66 nC_0)))))⟩
end AD
