/-! calls that change: force, herald, road, shelf, terms, lord, good -/
section CG
variable {X : MX} {N : NN} {B : Int}
theorem cw_cells {w : Nat} {B' : Int} {N' : NN} {r r' : Nat → Int} {lw : Nat → Law} (hw : w < 100) (h : CW X N w B r lw) (hf : Fr (fun o _ => o = w + 1) N N') (hR : Rw (N' (w + 1)) r') (hV : Vr B' r') (hB : B' ≤ 1000000) (h4 : r' 4 = r 4) : CW X N' w B' r' lw := by
  obtain ⟨a, b, c, d⟩ := h
  refine ⟨hR, hV, hB, fun i hi => ?_⟩
  rw [fr_of hf (w + 2) (fun k => by omega)]
  have z := d i (by omega)
  exact ts_mono z (fun o _ _ => ⟨rfl, rfl⟩) (fun o p _ => fr_of hf o fun k => by have := z.1; omega)
theorem mw_cells {B' : Int} {N' : NN} {r r' : Nat → Int} {lw : Nat → Law} (h : MW N B r lw) (hr : ∀ j, j < 270 → N' 66 j = r' j) (hV : Vr B' r') (hB : B' ≤ 1000000) (h4 : r' 4 = r 4) (h20 : N' 64 20 = N 64 20) (hl : ∀ j, 270 ≤ j → N' 66 j = N 66 j) : MW N' B' r' lw := by
  obtain ⟨a, b, c, d, e⟩ := h
  refine ⟨hr, hV, hB, h20.trans d, fun i hi => ?_⟩
  have z := e i (by omega)
  have e2 : (fun k => N' 66 (270 + 900 * i + k)) = (fun k => N 66 (270 + 900 * i + k)) := by
    funext k
    exact hl _ (by omega)
  rw [e2]
  exact z
theorem ms_ref0 {v : Int} {q : Wd} {im : Nat → Option Wd} {un : Un} {tp : Tp} {cn rp : Nat → Int} (hM : MInv N B q im un tp cn rp) (hv : v < 0) (hv2 : -6 ≤ v) : Ok (Option.bind (f_X12_tell X (m_up N 64 0 0) v) (fun o => some (o.1, o.2))) (fun p => p.1 = v ∧ MInv p.2 B q im un tp (rfu cn v) rp ∧ Fr notC N p.2) := by
  refine ok_mono (ms_refuse (minv_0 hM) hv hv2) ?_
  rintro p ⟨p1, p2, p3⟩
  exact ⟨p1, p2, fr_tr nC_0 p3⟩
theorem sim_force (h : Inv X N B) (a : Int) : Sim X N B (f_X11_force X N a) (fun M => f_X12_force X M a) := by
  obtain ⟨hX, ⟨r, lw⟩, im, un, tp, cn, rp, hC, hM⟩ := h
  have hW : CW X N 4 B r lw := hC.1
  have hV := hW.2.1
  have v4 := hV.2.2.2.2.1
  have hU : UV B r un := hM.2.2.2.2.2.2.2.1
  unfold f_X11_force f_X12_force f_X12_force_j35
  rw [c_many hW.1 (by omega) (by omega), Option.bind_some, c_within, Option.bind_some, w_id (by show -2147483648 ≤ r 4 - 1; omega) (by show r 4 - 1 ≤ 2147483647; omega)]
  by_cases c : -1 ≤ a ∧ a ≤ r (4 : Int).toNat - 1
  case neg =>
    refine sim_mk (v := -2) hX hM (B' := B) ?_ (fun M hM => ?_) (q' := (r, lw)) (im' := im) (un' := un) (tp' := tp) (cn' := rfu cn (-2)) (rp' := rp)
    · rw [if_neg c, i00]; exact cs_refuse hC (by omega) (by omega)
    · have hM1 : MW (m_up M 64 0 0) B r lw := (minv_0 hM).1
      try dsimp only
      have c' : ¬ (-1 ≤ a ∧ a ≤ r 4 - 1) := c
      rw [if_neg (show ¬ a = -1 by omega), hM1.1 4 (by omega), wl_id (by omega) (by omega), ref_in, Option.bind_some, if_neg (show ¬ (0 ≤ a ∧ a ≤ r 4 - 1) by omega), i00]
      exact ms_ref0 hM (by omega) (by omega)
  have c' : -1 ≤ a ∧ a ≤ r 4 - 1 := c
  have vr' : Vr B (ru r 5 a) := vr_5 hV c'.1 (by omega)
  refine sim_mk (v := r 5) hX hM (B' := B) ?_ (fun M hM => ?_) (q' := (ru r 5 a, lw)) (im' := im) (un' := un) (tp' := tp) (cn' := ru cn 0 0) (rp' := rp)
  · rw [if_pos c, i10]
    refine ok_bd (c_inForce hW.1) ?_
    refine ok_bd (a := m_up N 5 196 a) rfl ?_
    have f1 : Fr (fun o _ => o = 5) N (m_up N 5 196 a) := fr_up fr_rfl rfl
    have p1 : CW X (m_up N 5 196 a) 4 B (ru r 5 a) lw := cw_cells (by omega) hW f1 (by rw [up_ruN]; exact rw_force hW.1) vr' hW.2.2.1 (ru_ne (by omega))
    refine ok_mono (cs_accept (cinv_world hC p1 (Int.le_refl _) f1)) ?_
    rintro o ⟨o1, o2, o3⟩
    exact ⟨o1, o2, fr_tr (nM_5 f1) o3⟩
  · have hM1 := minv_0 (x := 0) hM
    have hW1 : MW (m_up M 64 0 0) B r lw := hM1.1
    have e5 : m_up M 64 0 0 66 5 = r 5 := hW1.1 5 (by omega)
    have K : Ok (Option.bind (f_X12_was X (m_up (m_up M 64 0 0) 66 5 a) (m_up M 64 0 0 66 5)) (fun o7 => some (o7.1, o7.2))) (fun p => p.1 = r 5 ∧ MInv p.2 B (ru r 5 a, lw) im un tp (ru cn 0 0) rp ∧ Fr notC M p.2) := by
      rw [ref_was, Option.bind_some]
      refine ok_ret ⟨e5, minv_1 (minv_w hM1 (B' := B) ?_ (uv_r hU (ru_ne (by omega)) (ru_ne (by omega)) (ru_ne (by omega)) (ru_ne (by omega))) (fr_up fr_rfl rfl)), nC_64 (nC_66 nC_0)⟩
      exact mw_cells hW1 (ru_hr (i := 5) hW1.1) vr' hW.2.2.1 (ru_ne (by omega)) (up_o (by omega)) (fun j hj => up_k (by omega))
    try dsimp only
    by_cases a1 : a = -1
    · rw [if_pos a1]; exact K
    · rw [if_neg a1, hW1.1 4 (by omega), wl_id (by omega) (by omega), ref_in, Option.bind_some, if_pos (show 0 ≤ a ∧ a ≤ r 4 - 1 by omega), i10]
      exact K
theorem sim_terms (h : Inv X N B) (k v : Int) : Sim X N B (f_X11_terms X N k v) (fun M => f_X12_terms X M k v) := by
  obtain ⟨hX, ⟨r, lw⟩, im, un, tp, cn, rp, hC, hM⟩ := h
  have hW : CW X N 4 B r lw := hC.1
  have hV := hW.2.1
  unfold f_X11_terms f_X11_terms_j15 f_X11_terms_j29 f_X11_terms_j44 f_X11_terms_j48 f_X11_terms_j49 f_X12_terms f_X12_terms_j59 f_X12_terms_j60
  rw [c_within, c_within, c_within, Option.bind_some, Option.bind_some, Option.bind_some]
  by_cases a : (k = 0 ∧ 0 ≤ v ∧ v ≤ 999) ∨ (k = 1 ∧ 1 ≤ v ∧ v ≤ 3) ∨ (k = 2 ∧ 0 ≤ v ∧ v ≤ 9)
  case neg =>
    refine sim_mk (v := -1) hX hM (B' := B) ?_ (fun M hM => ?_) (q' := (r, lw)) (im' := im) (un' := un) (tp' := tp) (cn' := rfu cn (-1)) (rp' := rp)
    · have K := cs_refuse (v := -1) hC (by omega) (by omega)
      rw [i00, i10]
      by_cases k0 : k = 0
      · rw [if_pos k0, if_neg (show ¬ (0 ≤ v ∧ v ≤ 999) by omega), i00, if_neg (show ¬ k = 1 by omega), if_neg (show ¬ k = 2 by omega)]; exact K
      rw [if_neg k0]
      by_cases k1 : k = 1
      · rw [if_pos k1, if_neg (show ¬ (1 ≤ v ∧ v ≤ 3) by omega), i00, if_neg (show ¬ k = 2 by omega)]; exact K
      rw [if_neg k1]
      by_cases k2 : k = 2
      · rw [if_pos k2, if_neg (show ¬ (0 ≤ v ∧ v ≤ 9) by omega), i00]; exact K
      rw [if_neg k2]; exact K
    · have K := ms_ref0 (X := X) (v := -1) hM (by omega) (by omega)
      try dsimp only
      rw [ref_in, ref_in, ref_in, Option.bind_some, Option.bind_some, Option.bind_some, i00]
      by_cases k0 : k = 0
      · rw [if_pos k0, if_neg (show ¬ (0 ≤ v ∧ v ≤ 999) by omega), i00]; exact K
      rw [if_neg k0]
      by_cases k1 : k = 1
      · rw [if_pos k1, if_neg (show ¬ (1 ≤ v ∧ v ≤ 3) by omega), i00]; exact K
      rw [if_neg k1]
      by_cases k2 : k = 2
      · rw [if_pos k2, if_neg (show ¬ (0 ≤ v ∧ v ≤ 9) by omega), i00]; exact K
      rw [if_neg k2]; exact K
  have hk : 0 ≤ k ∧ k ≤ 2 := by omega
  have vr' : Vr B (ru r (6 + k) v) := by
    rcases a with ⟨e, a⟩ | ⟨e, a⟩ | ⟨e, a⟩ <;> subst e
    · exact vr_6 hV a.1 a.2
    · exact vr_7 hV a.1 a.2
    · exact vr_8 hV a.1 a.2
  refine sim_mk (v := r (6 + k).toNat) hX hM (B' := B) ?_ (fun M hM => ?_) (q' := (ru r (6 + k) v, lw)) (im' := im) (un' := (0, un.2)) (tp' := tp) (cn' := ru cn 0 0) (rp' := rp)
  · have K : Ok (Option.bind (f_X10_term X N 4 k) (fun o8 => Option.bind (f_X10_setTerm X 4 N k v) (fun o9 => Option.bind (f_X4_clear X 13 o9) (fun o10 => Option.bind (f_X11_accept X o10 o8) (fun o11 => some (o11.1, o11.2)))))) (fun o => o.1 = r (6 + k).toNat ∧ CInv X o.2 B (ru r (6 + k) v, lw) im (0, un.2) tp (ru cn 0 0) rp ∧ Fr notM N o.2) := by
      refine ok_bd (c_term hW.1 hk.1 hk.2) ?_
      refine ok_bind (c_setTerm (B' := B) (by omega) hW hk.1 hk.2 vr' hW.2.2.1) ?_
      intro N1 ⟨p1, p2⟩
      refine ok_bd (a := m_up N1 13 3 0) rfl ?_
      refine ok_mono (cs_accept (cinv_clear (cinv_world hC p1 (Int.le_refl _) p2))) ?_
      rintro o ⟨o1, o2, o3⟩
      exact ⟨o1, o2, fr_tr (fr_up (nM_5 p2) (by unfold notM pM; omega)) o3⟩
    rw [i00, i10]
    rcases a with ⟨e, a⟩ | ⟨e, a⟩ | ⟨e, a⟩
    · rw [if_pos e, if_pos (show 0 ≤ v ∧ v ≤ 999 from a), i10]; exact K
    · rw [if_neg (show ¬ k = 0 by omega), if_pos e, if_pos (show 1 ≤ v ∧ v ≤ 3 from a), i10]; exact K
    · rw [if_neg (show ¬ k = 0 by omega), if_neg (show ¬ k = 1 by omega), if_pos e, if_pos (show 0 ≤ v ∧ v ≤ 9 from a), i10]; exact K
  · have hM1 := minv_0 (x := 0) hM
    have hW1 : MW (m_up M 64 0 0) B r lw := hM1.1
    have e5 : m_up M 64 0 0 66 (6 + k).toNat = r (6 + k).toNat := hW1.1 _ (by omega)
    have K : Ok (some (r (6 + k).toNat, m_up (m_up (m_up (m_up M 64 0 0) 66 (6 + k).toNat v) 64 8 0) 64 1 0)) (fun p => p.1 = r (6 + k).toNat ∧ MInv p.2 B (ru r (6 + k) v, lw) im (0, un.2) tp (ru cn 0 0) rp ∧ Fr notC M p.2) := by
      refine ok_ret ⟨rfl, minv_1 (minv_wc hM1 ?_ up_s ?_), nC_64 (nC_64 (nC_66 nC_0))⟩
      · exact mw_eq (mw_set hW1 (by omega) (by omega) vr' hW.2.2.1 (by omega)) (up_of (by omega)) (up_k (by omega))
      · exact fr_up (fr_up fr_rfl (Or.inl rfl)) (Or.inr ⟨rfl, rfl⟩)
    try dsimp only
    rw [ref_in, ref_in, ref_in, Option.bind_some, Option.bind_some, Option.bind_some, i00, w_id (x := 6 + k) (by omega) (by omega)]
    simp (disch := omega) only [gdp, ref_was, Option.bind_some, e5]
    rcases a with ⟨e, a⟩ | ⟨e, a⟩ | ⟨e, a⟩
    · rw [if_pos e, if_pos (show 0 ≤ v ∧ v ≤ 999 from a), i10]; exact K
    · rw [if_neg (show ¬ k = 0 by omega), if_pos e, if_pos (show 1 ≤ v ∧ v ≤ 3 from a), i10]; exact K
    · rw [if_neg (show ¬ k = 0 by omega), if_neg (show ¬ k = 1 by omega), if_pos e, if_pos (show 0 ≤ v ∧ v ≤ 9 from a), i10, i10]; exact K
theorem sim_shelf (h : Inv X N B) (g l : Int) : Sim X N B (f_X11_shelf X N g l) (fun M => f_X12_shelf X M g l) := by
  obtain ⟨hX, ⟨r, lw⟩, im, un, tp, cn, rp, hC, hM⟩ := h
  have hW : CW X N 4 B r lw := hC.1
  have hV := hW.2.1
  have v1 := hV.2.1
  have hU : UV B r un := hM.2.2.2.2.2.2.2.1
  unfold f_X11_shelf f_X11_shelf_j38 f_X11_shelf_j45 f_X12_shelf f_X12_shelf_j37 f_X12_shelf_j44
  rw [c_isGood hW.1, c_isLord hW.1, Option.bind_some, Option.bind_some]
  by_cases c1 : l < -1
  · refine sim_mk (v := -1) hX hM (B' := B) ?_ (fun M hM => ?_) (q' := (r, lw)) (im' := im) (un' := un) (tp' := tp) (cn' := rfu cn (-1)) (rp' := rp)
    · rw [if_pos c1]; exact cs_refuse hC (by omega) (by omega)
    · try dsimp only
      rw [if_pos c1]; exact ms_ref0 hM (by omega) (by omega)
  rw [if_neg c1]
  by_cases c2 : (0 ≤ g ∧ g < r 1) ∧ (l = -1 ∨ (0 ≤ l ∧ l < r 0))
  case neg =>
    refine sim_mk (v := -2) hX hM (B' := B) ?_ (fun M hM => ?_) (q' := (r, lw)) (im' := im) (un' := un) (tp' := tp) (cn' := rfu cn (-2)) (rp' := rp)
    · have K := cs_refuse (v := -2) hC (by omega) (by omega)
      by_cases d : 0 ≤ g ∧ g < r 1
      · rw [if_pos d, i10, if_neg (show ¬ l = -1 by omega), if_neg (show ¬ (0 ≤ l ∧ l < r 0) by omega), i00]; exact K
      · rw [if_neg d, i00]; exact K
    · have K := ms_ref0 (X := X) (v := -2) hM (by omega) (by omega)
      have hM1 : MW (m_up M 64 0 0) B r lw := (minv_0 hM).1
      try dsimp only
      rw [if_neg c1, ref_isGood hM1.1 hV, ref_isLord hM1.1 hV, Option.bind_some, Option.bind_some]
      by_cases d : 0 ≤ g ∧ g < r 1
      · rw [if_pos d, i10, if_neg (show ¬ l = -1 by omega), if_neg (show ¬ (0 ≤ l ∧ l < r 0) by omega), i00]; exact K
      · rw [if_neg d, i00]; exact K
  obtain ⟨d, e⟩ := c2
  have v0 := hV.1
  have vr' : Vr B (ru r (45 + 6 * g + 5) l) := vr_told hV d.1 (by omega) (fun _ => by omega)
  refine sim_mk (v := rg r g 5) hX hM (B' := B) ?_ (fun M hM => ?_) (q' := (ru r (45 + 6 * g + 5) l, lw)) (im' := im) (un' := un) (tp' := tp) (cn' := ru cn 0 0) (rp' := rp)
  · have K : Ok (Option.bind (f_X10_toldHolder X N 4 g) (fun o9 => Option.bind (f_X10_tellHolder X 4 N g l) (fun o10 => Option.bind (f_X11_accept X o10 o9) (fun o11 => some (o11.1, o11.2))))) (fun o => o.1 = rg r g 5 ∧ CInv X o.2 B (ru r (45 + 6 * g + 5) l, lw) im un tp (ru cn 0 0) rp ∧ Fr notM N o.2) := by
      refine ok_bd (c_toldHolder hW.1 d.1 (by omega)) ?_
      rw [if_pos d.2]
      simp (disch := omega) only [f_X10_tellHolder, w_id, gdp, Option.bind_some]
      have f1 : Fr (fun o _ => o = 5) N (m_up N (4 + 1) (197 + g).toNat l) := fr_up fr_rfl rfl
      have p1 : CW X (m_up N (4 + 1) (197 + g).toNat l) 4 B (ru r (45 + 6 * g + 5) l) lw := cw_cells (by omega) hW f1 (by rw [up_ru]; exact rw_told hW.1 d.1 (by omega) d.2) vr' hW.2.2.1 (ru_ne (by omega))
      refine ok_mono (cs_accept (cinv_world hC p1 (Int.le_refl _) f1)) ?_
      rintro o ⟨o1, o2, o3⟩
      exact ⟨o1, o2, fr_tr (nM_5 f1) o3⟩
    rw [if_pos d, i10]
    by_cases l1 : l = -1
    · rw [if_pos l1]; exact K
    · rw [if_neg l1, if_pos (show 0 ≤ l ∧ l < r 0 by omega), i10]; exact K
  · have hM1 := minv_0 (x := 0) hM
    have hW1 : MW (m_up M 64 0 0) B r lw := hM1.1
    have K : Ok (Option.bind (f_X12_ofGood X (m_up M 64 0 0) g 5) (fun o10 => if 0 ≤ m_w (m_w (45 + m_w (6 * g)) + 5) ∧ m_w (m_w (45 + m_w (6 * g)) + 5) < 5670 then Option.bind (f_X12_was X (m_up (m_up M 64 0 0) 66 (m_w (m_w (45 + m_w (6 * g)) + 5)).toNat l) o10) (fun o13 => some (o13.1, o13.2)) else none)) (fun p => p.1 = rg r g 5 ∧ MInv p.2 B (ru r (45 + 6 * g + 5) l, lw) im un tp (ru cn 0 0) rp ∧ Fr notC M p.2) := by
      refine ok_bd (ref_ofGood hW1.1 d.1 (by omega) (by omega) (by omega)) ?_
      simp (disch := omega) only [w_id, gdp, ref_was, Option.bind_some]
      refine ok_ret ⟨rfl, minv_1 (minv_w hM1 (B' := B) ?_ (uv_r hU (ru_ne (by omega)) (ru_ne (by omega)) (ru_ne (by omega)) (ru_ne (by omega))) (fr_up fr_rfl rfl)), nC_64 (nC_66 nC_0)⟩
      exact mw_set hW1 (by omega) (by omega) vr' hW.2.2.1 (by omega)
    try dsimp only
    rw [if_neg c1, ref_isGood hW1.1 hV, ref_isLord hW1.1 hV, Option.bind_some, Option.bind_some, if_pos d, i10]
    by_cases l1 : l = -1
    · rw [if_pos l1]; exact K
    · rw [if_neg l1, if_pos (show 0 ≤ l ∧ l < r 0 by omega), i10]; exact K
end CG
