/-! give, await, undo: both sides -/
def frK (o k : Nat) : Prop := o = 5 ∨ (13 ≤ o ∧ o ≤ 15) ∨ o = 26 ∨ o = 27
section SG
variable {X : MX} {N N1 : NN} {B B' : Int} {q : Wd} {im : Nat → Option Wd} {un un' : Un} {tp : Tp} {cn rp : Nat → Int}
theorem inv_B (h : Inv X N B) (hB : B ≤ B') (hB' : B' ≤ 1000000) : Inv X N B' := by
  obtain ⟨hX, q, im, un, tp, cn, rp, ⟨a, b, c, d, e, f, g⟩, ⟨a', b', c', d', e', f', g', u, t⟩⟩ := h
  exact ⟨hX, q, im, un, tp, cn, rp, ⟨cw_B a hB hB', b, cim_B c hB hB', d, e, f, g⟩, ⟨mw_B a' hB hB', mim_B b', c', d', e', f', g', uv_B u hB, t⟩⟩
theorem sim_B {x : Option (Int × NN)} {y : NN → Option (Int × NN)} (h : Sim X N B x y) (hB : B ≤ B') (hB' : B' ≤ 1000000) : Sim X N B' x y := by
  refine ok_mono h ?_
  intro o p
  refine ok_mono p ?_
  intro o' p'
  exact ⟨p'.1, inv_B p'.2 hB hB'⟩
theorem cinv_g {r' : Nat → Int} {lw' : Nat → Law} (hC : CInv X N B q im un tp cn rp) (hW : CW X N1 4 B' r' lw') (hU : CUn N1 un') (hB : B ≤ B') (hf : Fr frK N N1) : CInv X N1 B' (r', lw') im un' tp cn rp := by
  obtain ⟨a, b, c, d, e, f, g⟩ := hC
  have z : ∀ o, o ≠ 5 → o ≠ 13 → o ≠ 14 → o ≠ 15 → o ≠ 26 → o ≠ 27 → N1 o = N o := fun o _ _ _ _ _ _ => fr_of hf o fun k => by unfold frK; omega
  exact ⟨hW, lwf_eq b (z _ (by omega) (by omega) (by omega) (by omega) (by omega) (by omega)), cim_B (cim_eq c (fun o p p' => z o (by omega) (by omega) (by omega) (by omega) (by omega) (by omega)) (fun o p => z o (by omega) (by omega) (by omega) (by omega) (by omega) (by omega))) hB hW.2.2.1, hU, ctp_eq e (by rw [z 16 (by omega) (by omega) (by omega) (by omega) (by omega) (by omega)]) (z _ (by omega) (by omega) (by omega) (by omega) (by omega) (by omega)), ccn_eq f (z _ (by omega) (by omega) (by omega) (by omega) (by omega) (by omega)) (z _ (by omega) (by omega) (by omega) (by omega) (by omega) (by omega)) (by rw [z 16 (by omega) (by omega) (by omega) (by omega) (by omega) (by omega)]) (by rw [z 33 (by omega) (by omega) (by omega) (by omega) (by omega) (by omega)]), cdr_eq g (z _ (by omega) (by omega) (by omega) (by omega) (by omega) (by omega))⟩
theorem minv_g {r' : Nat → Int} {lw' : Nat → Law} (hM : MInv N B q im un tp cn rp) (hW : MW N1 B' r' lw') (hU : MUn N1 un') (hV : UV B' r' un') (hf : Fr frG N N1) : MInv N1 B' (r', lw') im un' tp cn rp := by
  obtain ⟨a, b, c, d, e, f, g, u, t⟩ := hM
  have z : ∀ o, o ≠ 64 → o ≠ 66 → o ≠ 69 → o ≠ 70 → o ≠ 81 → o ≠ 83 → N1 o = N o := fun o _ _ _ _ _ _ => fr_of hf o fun k => by unfold frG frN; omega
  have y : ∀ k, (k = 1 ∨ k = 11 ∨ k = 13 ∨ k = 18 ∨ k = 68 ∨ k = 72) → N1 64 k = N 64 k := fun k p => hf 64 k (by unfold frG frN; omega)
  exact ⟨hW, mim_eq b (z _ (by omega) (by omega) (by omega) (by omega) (by omega) (by omega)) (z _ (by omega) (by omega) (by omega) (by omega) (by omega) (by omega)), hU, mtp_eq d (y _ (by omega)) (z _ (by omega) (by omega) (by omega) (by omega) (by omega) (by omega)), mcn_eq e (y _ (by omega)) (z _ (by omega) (by omega) (by omega) (by omega) (by omega) (by omega)) (y _ (by omega)) (y _ (by omega)) (y _ (by omega)), mdr_eq f (y _ (by omega)) (z _ (by omega) (by omega) (by omega) (by omega) (by omega) (by omega)), mkn_eq g (z _ (by omega) (by omega) (by omega) (by omega) (by omega) (by omega)) (z _ (by omega) (by omega) (by omega) (by omega) (by omega) (by omega)), hV, t⟩
theorem nM_K (h : Fr frK N N1) : Fr notM N N1 := fr_mono h fun o k z => by unfold frK at z; unfold notM pM; omega
theorem nC_G (h : Fr frG N N1) : Fr notC N N1 := fr_mono h fun o k z => by unfold frG frN at z; unfold notC pC; omega
theorem frK_J (h : Fr frJ N N1) : Fr frK N N1 := fr_mono h fun o k z => by unfold frJ at z; unfold frK; omega
theorem frK_P (h : Fr frP N N1) : Fr frK N N1 := fr_mono h fun o k z => by unfold frP at z; unfold frK; omega
theorem frK_D (h : Fr (frD 4) N N1) : Fr frK N N1 := fr_mono h fun o k z => by unfold frD at z; unfold frK; omega
theorem cun_P {un : Un} (h : CUn N un) (hf : Fr (frD 4) N N1) : CUn N1 un := cun_eq h (fr_of hf 13 fun k => by unfold frD; omega) (fr_of hf 14 fun k => by unfold frD; omega) (fr_of hf 15 fun k => by unfold frD; omega)
theorem sim_give (h : Inv X N B) (hB : B + 1 ≤ 1000000) (g to : Int) : Sim X N (B + 1) (f_X11_give X N g to) (fun M => f_X12_give X M g to) := by
  obtain ⟨hX, ⟨r, lw⟩, im, un, tp, cn, rp, hC, hM⟩ := h
  have hW : CW X N 4 B r lw := hC.1
  have hV := hW.2.1
  have v0 := hV.1
  have hU : UV B r un := hM.2.2.2.2.2.2.2.1
  unfold f_X11_give f_X11_give_j22 f_X12_give f_X12_give_j31 f_X12_give_j33
  rw [c_isGood hW.1, c_isLord hW.1, Option.bind_some, Option.bind_some]
  by_cases c2 : (0 ≤ g ∧ g < r 1) ∧ (0 ≤ to ∧ to < r 0)
  case neg =>
    refine sim_B (sim_mk (v := -2) hX hM (B' := B) ?_ (fun M hM => ?_) (q' := (r, lw)) (im' := im) (un' := un) (tp' := tp) (cn' := rfu cn (-2)) (rp' := rp)) (by omega) hB
    · have K := cs_refuse (v := -2) hC (by omega) (by omega)
      by_cases y1 : 0 ≤ g ∧ g < r 1
      · rw [if_pos y1, i10, if_neg (show ¬ (0 ≤ to ∧ to < r 0) by omega), i00]; exact K
      · rw [if_neg y1, i00]; exact K
    · have K := ms_ref0 (X := X) (v := -2) hM (by omega) (by omega)
      have hM1 : MW (m_up M 64 0 0) B r lw := (minv_0 hM).1
      try dsimp only
      rw [ref_isGood hM1.1 hV, ref_isLord hM1.1 hV, Option.bind_some, Option.bind_some]
      by_cases y1 : 0 ≤ g ∧ g < r 1
      · rw [if_pos y1, i10, if_neg (show ¬ (0 ≤ to ∧ to < r 0) by omega), i00]; exact K
      · rw [if_neg y1, i00]; exact K
  obtain ⟨y1, y2⟩ := c2
  rw [if_pos y1, i10, if_pos y2, i10]
  by_cases c : canS r lw g to
  case neg =>
    refine sim_B (sim_mk (v := -3) hX hM (B' := B) ?_ (fun M hM => ?_) (q' := (r, lw)) (im' := im) (un' := un) (tp' := tp) (cn' := rfu cn (-3)) (rp' := rp)) (by omega) hB
    · refine ok_bind (c_mayGive (Or.inl rfl) (xok26 hX) hW y1.1 y1.2 y2.1 y2.2) ?_
      rintro ⟨v, N1⟩ ⟨p1, p2⟩
      dsimp only at p1 p2 ⊢
      rcases p1 with ⟨z, -⟩ | ⟨-, z⟩
      · exact (c z).elim
      rw [if_pos z]
      have hC1 : CInv X N1 B (r, lw) im un tp cn rp := cinv_eq hC fun o k p => npr_J p2 o k fun z => z.1 p
      refine ok_mono (cs_refuse hC1 (by omega) (by omega)) ?_
      rintro o ⟨o1, o2, o3⟩
      exact ⟨o1, o2, fr_tr (nM_K (frK_J p2)) o3⟩
    · have hM1 := minv_0 (x := 0) hM
      have hW1 : MW (m_up M 64 0 0) B r lw := hM1.1
      try dsimp only
      rw [ref_isGood hW1.1 hV, ref_isLord hW1.1 hV, Option.bind_some, Option.bind_some, if_pos y1, i10, if_pos y2, i10]
      refine ok_bind (ref_giveNow hW1 hM1.2.2.1 hU.1 hB y1.1 y1.2 y2.1 y2.2) ?_
      rintro ⟨v, M1⟩ ⟨p1, p2⟩
      dsimp only at p1 p2 ⊢
      rcases p1 with ⟨z, -⟩ | ⟨-, z, w, u⟩
      · exact (c z).elim
      subst z
      refine ok_mono (ms_refuse (minv_g hM1 w u hU p2) (by omega) (by omega)) ?_
      rintro p ⟨o1, o2, o3⟩
      exact ⟨o1, o2, fr_tr nC_0 (fr_tr (nC_G p2) o3)⟩
  have hwb := worthS_b r lw g (rg r g 0) to
  have hn : ∀ j : Nat, j < 9 → handS r lw g to j = r j := fun j hj => hand_ne hV y1.1 y1.2 y2.1 hj
  have hU' : UV (B + 1) (handS r lw g to) (pushU un r 0) := uv_push hU hV (by omega) (by omega) (hn 0 (by omega)) (hn 1 (by omega)) (hn 7 (by omega)) (hn 8 (by omega))
  refine sim_mk (v := worthS r lw g (rg r g 0) to) hX hM (B' := B + 1) ?_ (fun M hM => ?_) (q' := (handS r lw g to, lw)) (im' := im) (un' := pushU un r 0) (tp' := tp) (cn' := ru cn 0 0) (rp' := rp)
  · refine ok_bind (c_mayGive (Or.inl rfl) (xok26 hX) hW y1.1 y1.2 y2.1 y2.2) ?_
    rintro ⟨v, N1⟩ ⟨p1, p2⟩
    dsimp only at p1 p2 ⊢
    rcases p1 with ⟨-, z⟩ | ⟨z, -⟩
    case inr => exact (z c).elim
    subst z
    rw [i10]
    have hC1 : CInv X N1 B (r, lw) im un tp cn rp := cinv_eq hC fun o k p => npr_J p2 o k fun z => z.1 p
    refine ok_bind (c_keep (k := 0) hX hC1.2.2.2.1 hU.1 hC1.1.1) ?_
    intro N2 ⟨u1, u2⟩
    have hW2 : CW X N2 4 B r lw := cw_eq hC1.1 (fr_of u2 _ fun k => by unfold frP; omega) (fr_of u2 _ fun k => by unfold frP; omega) (fun o p => fr_of u2 _ fun k => by unfold frP; omega)
    refine ok_bind (c_hand (Or.inl rfl) (xok26 hX) hW2 hB y1.1 y1.2 y2.1 y2.2 c.1) ?_
    rintro ⟨v2, N3⟩ ⟨w1, w2, w3⟩
    dsimp only at w1 w2 w3 ⊢
    subst w1
    have f3 : Fr frK N N3 := fr_tr (frK_J p2) (fr_tr (frK_P u2) (frK_D w3))
    refine ok_mono (cs_accept (cinv_g hC w2 (cun_P u1 w3) (by omega) f3)) ?_
    rintro o ⟨o1, o2, o3⟩
    exact ⟨o1, o2, fr_tr (nM_K f3) o3⟩
  · have hM1 := minv_0 (x := 0) hM
    have hW1 : MW (m_up M 64 0 0) B r lw := hM1.1
    try dsimp only
    rw [ref_isGood hW1.1 hV, ref_isLord hW1.1 hV, Option.bind_some, Option.bind_some, if_pos y1, i10, if_pos y2, i10]
    refine ok_bind (ref_giveNow hW1 hM1.2.2.1 hU.1 hB y1.1 y1.2 y2.1 y2.2) ?_
    rintro ⟨v, M1⟩ ⟨p1, p2⟩
    dsimp only at p1 p2 ⊢
    rcases p1 with ⟨-, z, w, u⟩ | ⟨z, -⟩
    case inr => exact (z c).elim
    subst z
    have i1 := minv_g hM1 w u hU' p2
    rw [ref_tellP i1.2.2.2.2.1 hwb.1, Option.bind_some]
    exact ok_ret ⟨rfl, minv_1 i1, nC_64 (fr_tr nC_0 (nC_G p2))⟩
theorem sim_await (h : Inv X N B) : Sim X N B (f_X11_await X N) (fun M => f_X12_await X M) := by
  obtain ⟨hX, ⟨r, lw⟩, im, un, tp, cn, rp, hC, hM⟩ := h
  have hW : CW X N 4 B r lw := hC.1
  have hV := hW.2.1
  have v6 := hV.2.2.2.2.2.2.1
  have hU : UV B r un := hM.2.2.2.2.2.2.2.1
  unfold f_X11_await f_X12_await
  rw [c_term hW.1 (by omega) (by omega), Option.bind_some]
  by_cases c : r 6 < 999
  case neg =>
    refine sim_mk (v := -3) hX hM (B' := B) ?_ (fun M hM => ?_) (q' := (r, lw)) (im' := im) (un' := un) (tp' := tp) (cn' := rfu cn (-3)) (rp' := rp)
    · rw [if_neg (show ¬ r (6 + 0 : Int).toNat < 999 from c)]; exact cs_refuse hC (by omega) (by omega)
    · have hM1 := minv_0 (x := 0) hM
      try dsimp only
      refine ok_bind (ref_waitNow hM1.1 hM1.2.2.1 hU.1) ?_
      rintro ⟨v, M1⟩ ⟨p1, p2⟩
      dsimp only at p1 p2 ⊢
      rcases p1 with ⟨z, -⟩ | ⟨-, z, w⟩
      · omega
      subst z; subst w
      exact ms_ref0 hM (by omega) (by omega)
  obtain ⟨w1, w2, w3, w4, w5⟩ := wait_vr (lw := lw) (b := 0) hV (show r 6 ≤ 998 by omega)
  have hU' : UV B (waitS r lw 0).1 (pushU un r 1) := uv_push hU hV (Int.le_refl _) (by omega) (w2.1 0 (by omega)) (w2.1 1 (by omega)) w2.2.1 w2.2.2.1
  refine sim_mk (v := (waitS r lw 0).2) hX hM (B' := B) ?_ (fun M hM => ?_) (q' := ((waitS r lw 0).1, lw)) (im' := im) (un' := pushU un r 1) (tp' := tp) (cn' := ru cn 0 0) (rp' := rp)
  · rw [if_pos (show r (6 + 0 : Int).toNat < 999 from c)]
    refine ok_bind (c_keep (k := 1) hX hC.2.2.2.1 hU.1 hW.1) ?_
    intro N2 ⟨u1, u2⟩
    have hW2 : CW X N2 4 B r lw := cw_eq hW (fr_of u2 _ fun k => by unfold frP; omega) (fr_of u2 _ fun k => by unfold frP; omega) (fun o p => fr_of u2 _ fun k => by unfold frP; omega)
    refine ok_bind (c_passYear (b := 0) (Or.inl rfl) (xok26 hX) hW2 (by omega) (by omega)) ?_
    rintro ⟨v2, N3⟩ ⟨x1, x2, x3⟩
    dsimp only at x1 x2 x3 ⊢
    subst x1
    have f3 : Fr frK N N3 := fr_tr (frK_P u2) (frK_D x3)
    refine ok_mono (cs_accept (cinv_g hC x2 (cun_P u1 x3) (Int.le_refl _) f3)) ?_
    rintro o ⟨o1, o2, o3⟩
    exact ⟨o1, o2, fr_tr (nM_K f3) o3⟩
  · have hM1 := minv_0 (x := 0) hM
    try dsimp only
    refine ok_bind (ref_waitNow hM1.1 hM1.2.2.1 hU.1) ?_
    rintro ⟨v, M1⟩ ⟨p1, p2⟩
    dsimp only at p1 p2 ⊢
    rcases p1 with ⟨-, z, w, u⟩ | ⟨z, -⟩
    case inr => omega
    have i1 := minv_g hM1 w u hU' p2
    rw [ref_tellP i1.2.2.2.2.1 (by rw [z]; exact w4), Option.bind_some]
    exact ok_ret ⟨z, minv_1 i1, nC_64 (fr_tr nC_0 (nC_G p2))⟩
end SG
