/-! image, back -/
section IM
variable {X : MX} {N : NN} {B : Int}
theorem rw_ext {c c' r : Nat → Int} (h : Rw c r) (he : ∀ j, j < 266 → c' j = c j) : Rw c' r := by
  obtain ⟨a1, a2, a3, a4, a5, a6, a7, a8, a9, a10⟩ := h
  exact ⟨fun x p q => by rw [he _ (by omega)]; exact a1 x p q, fun x y p q p' q' => by rw [he _ (by omega)]; exact a2 x y p q p' q', fun x y p q p' q' => by rw [he _ (by omega)]; exact a3 x y p q p' q', fun x y p q p' q' => by rw [he _ (by omega)]; exact a4 x y p q p' q', fun x y p q p' q' => by rw [he _ (by omega)]; exact a5 x y p q p' q', fun x p q => by rw [he _ (by omega)]; exact a6 x p q, by rw [he _ (by omega)]; exact a7, fun x p q => by rw [he _ (by omega)]; exact a8 x p q, fun x p q => by rw [he _ (by omega)]; exact a9 x p q, fun x y p q p' q' => by rw [he _ (by omega)]; exact a10 x y p q p' q'⟩
theorem rs_ext {i : Nat} {s s' : Nat → Int} {L : Law} (h : RS i s L) (he : ∀ j, j < 900 → s' j = s j) : RS i s' L := by
  obtain ⟨a, b, c, d⟩ := h
  refine ⟨a, by rw [he 1 (by omega)]; exact b, fun k hk => by rw [he _ (by omega)]; exact c k hk, fun X N' h1 h2 h3 => d X N' h1 h2 fun j hj => by rw [← he j hj]; exact h3 j hj⟩
theorem c_copyFrom {d s : Nat} (hds : d + 2 < s ∨ s + 2 < d) (hL : LWF X N s) : Ok (f_X10_copyFrom X d s N) (fun N' => (∀ j, j < 266 → N' (d + 1) j = N (s + 1) j) ∧ (∀ i, i < 6 → N' (d + 2) i = ((N (s + 2) i).toNat : Int)) ∧ Fr (fun o _ => o = d + 1 ∨ o = d + 2) N N') := by
  unfold f_X10_copyFrom
  rw [gdp (by omega)]
  dsimp only
  generalize hM : m_cpy N (s + 1) (0 : Int).toNat (d + 1) (0 : Int).toNat (266 : Int).toNat = M
  have m1 : ∀ j, j < 266 → M (d + 1) j = N (s + 1) j := by
    intro j hj
    rw [← hM, cpy_in (by omega)]
    congr 1
    omega
  have mo : ∀ o, o ≠ d + 1 → M o = N o := fun o p => by rw [← hM]; exact cpy_o p
  have f1 : Fr (fun o _ => o = d + 1 ∨ o = d + 2) N M := fun o k z => by rw [mo o (by omega)]
  have H : Ok (lp (fun s' : NN × Int => b_X10_copyFrom_18 X d s s'.1 s'.2) (M, 0)) (fun N' => (∀ j, j < 266 → N' (d + 1) j = N (s + 1) j) ∧ (∀ i, i < 6 → N' (d + 2) i = ((N (s + 2) i).toNat : Int)) ∧ Fr (fun o _ => o = d + 1 ∨ o = d + 2) N N') := by
    refine ok_up (fun i s' => ∃ M', s' = (M', i) ∧ M' (d + 1) = M (d + 1) ∧ (∀ k : Nat, (k : Int) < i → M' (d + 2) k = ((N (s + 2) k).toNat : Int)) ∧ Fr (fun o _ => o = d + 1 ∨ o = d + 2) N M') 6 (i0 := 0) ?_ ?_ (by omega) ⟨M, rfl, rfl, fun k hk => by omega, f1⟩
    · rintro i s' a0 a1 ⟨M', rfl, h1, h2, hf⟩
      obtain ⟨m, rfl⟩ := Int.eq_ofNat_of_zero_le a0
      have e : M' (s + 2) m = N (s + 2) m := hf _ _ (by omega)
      dsimp only
      unfold b_X10_copyFrom_18
      rw [if_pos a1, Int.toNat_natCast, e]
      rw [if_pos (show (0 : Int) ≤ (m : Int) ∧ (m : Int) < 6 by omega), if_pos (show (0 : Int) ≤ (m : Int) ∧ (m : Int) < 6 by omega), if_pos (hL m (by omega)), w_id (by omega) (by omega)]
      refine ok_ret ⟨_, rfl, ?_, fun k hk => ?_, fr_up hf (Or.inr rfl)⟩
      · rw [up_of (by omega)]; exact h1
      · rw [up_a]
        by_cases q : k = m
        · rw [if_pos q, q]
        · rw [if_neg q]; exact h2 k (by omega)
    · rintro s' ⟨M', rfl, h1, h2, hf⟩
      dsimp only
      unfold b_X10_copyFrom_18
      rw [if_neg (by omega)]
      exact ok_ret ⟨fun j hj => by rw [h1]; exact m1 j hj, fun i hi => h2 i (by omega), hf⟩
  refine ok_bind H ?_
  intro N' p
  exact ok_ret p
theorem cw_copy {N' : NN} {d s : Nat} {r : Nat → Int} {lw : Nat → Law} (hd : d < 100) (h : CW X N s B r lw) (hL : LWF X N s) (h1 : ∀ j, j < 266 → N' (d + 1) j = N (s + 1) j) (h2 : ∀ i, i < 6 → N' (d + 2) i = ((N (s + 2) i).toNat : Int)) (hf : Fr (fun o _ => o = d + 1 ∨ o = d + 2) N N') : CW X N' d B r lw ∧ LWF X N' d := by
  obtain ⟨a, b, c, e⟩ := h
  have v4 := b.2.2.2.2.1
  refine ⟨⟨rw_ext a h1, b, c, fun i hi => ?_⟩, fun i hi => ?_⟩
  · rw [h2 i (by omega), Int.toNat_natCast]
    have z := e i hi
    exact ts_mono z (fun o _ _ => ⟨rfl, rfl⟩) (fun o p _ => fr_of hf o fun k => by have := z.1; omega)
  · rw [h2 i hi, Int.toNat_natCast]; exact hL i hi
theorem sim_image (h : Inv X N B) (a : Int) : Sim X N B (f_X11_image X N a) (fun M => f_X12_image X M a) := by
  obtain ⟨hX, ⟨r, lw⟩, im, un, tp, cn, rp, hC, hM⟩ := h
  have hW : CW X N 4 B r lw := hC.1
  unfold f_X11_image f_X11_image_j30 f_X12_image
  rw [c_within, Option.bind_some]
  by_cases c : 0 ≤ a ∧ a ≤ 1
  case neg =>
    refine sim_mk (v := -1) hX hM (B' := B) ?_ (fun M hM => ?_) (q' := (r, lw)) (im' := im) (un' := un) (tp' := tp) (cn' := rfu cn (-1)) (rp' := rp)
    · rw [if_neg c, i00]; exact cs_refuse hC (by omega) (by omega)
    · try dsimp only
      rw [ref_in, Option.bind_some, if_neg c, i00]
      exact ms_ref0 hM (by omega) (by omega)
  obtain ⟨k, rfl⟩ := Int.eq_ofNat_of_zero_le c.1
  have hk : k < 2 := by omega
  refine sim_mk (v := 0) hX hM (B' := B) ?_ (fun M hM => ?_) (q' := (r, lw)) (im' := fun j => if j = k then some (r, lw) else im j) (un' := un) (tp' := tp) (cn' := ru cn 0 0) (rp' := rp)
  · have K : Ok (Option.bind (f_X10_copyFrom X (7 + 3 * k) 4 N) (fun o5 => Option.bind (f_X10_markKept X (7 + 3 * k) o5) (fun o6 => Option.bind (f_X11_accept X o6 0) (fun o7 => some (o7.1, o7.2))))) (fun o => o.1 = 0 ∧ CInv X o.2 B (r, lw) (fun j => if j = k then some (r, lw) else im j) un tp (ru cn 0 0) rp ∧ Fr notM N o.2) := by
      refine ok_bind (c_copyFrom (by omega) hC.2.1) ?_
      intro N1 ⟨p1, p2, p3⟩
      refine ok_bd (a := m_up N1 (7 + 3 * k) 2 1) rfl ?_
      obtain ⟨w1, w2⟩ := cw_copy (by omega) hW hC.2.1 p1 p2 p3
      have z : ∀ o, o ≠ 7 + 3 * k → o ≠ 8 + 3 * k → o ≠ 9 + 3 * k → m_up N1 (7 + 3 * k) 2 1 o = N o := fun o q1 q2 q3 => by rw [up_of q1]; exact fr_of p3 o fun k => by omega
      have f1 : Fr notM N (m_up N1 (7 + 3 * k) 2 1) := fr_up (fr_mono p3 fun o k z => by unfold notM pM; omega) (by unfold notM pM; omega)
      obtain ⟨a, b, cc, d, e, f, g⟩ := hC
      have hC2 : CInv X (m_up N1 (7 + 3 * k) 2 1) B (r, lw) (fun j => if j = k then some (r, lw) else im j) un tp cn rp := by
        refine ⟨cw_eq a (z _ (by omega) (by omega) (by omega)) (z _ (by omega) (by omega) (by omega)) (fun o q => z o (by omega) (by omega) (by omega)), lwf_eq b (z _ (by omega) (by omega) (by omega)), fun j hj => ?_, cun_eq d (z _ (by omega) (by omega) (by omega)) (z _ (by omega) (by omega) (by omega)) (z _ (by omega) (by omega) (by omega)), ctp_eq e (by rw [z 16 (by omega) (by omega) (by omega)]) (z _ (by omega) (by omega) (by omega)), ccn_eq f (z _ (by omega) (by omega) (by omega)) (z _ (by omega) (by omega) (by omega)) (by rw [z 16 (by omega) (by omega) (by omega)]) (by rw [z 33 (by omega) (by omega) (by omega)]), cdr_eq g (z _ (by omega) (by omega) (by omega))⟩
        by_cases q : j = k
        · subst q
          dsimp only
          rw [if_pos rfl]
          exact ⟨up_s, cw_eq w1 (up_of (by omega)) (up_of (by omega)) (fun o q => up_of (by omega)), lwf_eq w2 (up_of (by omega))⟩
        · have y := cc j hj
          dsimp only
          rw [if_neg q]
          cases hi : im j with
          | none => rw [hi] at y; exact (congrFun (z _ (by omega) (by omega) (by omega)) 2).trans y
          | some p =>
            rw [hi] at y
            exact ⟨(congrFun (z _ (by omega) (by omega) (by omega)) 2).trans y.1, cw_eq y.2.1 (z _ (by omega) (by omega) (by omega)) (z _ (by omega) (by omega) (by omega)) (fun o q => z o (by omega) (by omega) (by omega)), lwf_eq y.2.2 (z _ (by omega) (by omega) (by omega))⟩
      refine ok_mono (cs_accept hC2) ?_
      rintro o ⟨o1, o2, o3⟩
      exact ⟨o1, o2, fr_tr f1 o3⟩
    rw [if_pos c, i10]
    rcases (show k = 0 ∨ k = 1 by omega) with e | e <;> subst e
    · rw [if_pos (by omega)]; exact K
    · rw [if_neg (by omega)]; exact K
  · have hM1 := minv_0 (x := 0) hM
    have hW1 : MW (m_up M 64 0 0) B r lw := hM1.1
    try dsimp only
    rw [ref_in, Option.bind_some, if_pos c, i10]
    have H : Ok (lp (fun s : NN × Int × Int => b_X12_image_23 X s.1 s.2.1 s.2.2) (m_up M 64 0 0, (k : Int), 0)) (fun o => o.2 = (k : Int) ∧ (∀ j, j < 5670 → o.1 67 (5670 * k + j) = m_up M 64 0 0 66 j) ∧ Fr (fun o i => o = 67 ∧ 5670 * k ≤ i ∧ i < 5670 * k + 5670) (m_up M 64 0 0) o.1) := by
      generalize m_up M 64 0 0 = M0
      refine ok_up (fun i s => ∃ M', s = (M', (k : Int), i) ∧ (∀ j : Nat, (j : Int) < i → M' 67 (5670 * k + j) = M0 66 j) ∧ Fr (fun o i => o = 67 ∧ 5670 * k ≤ i ∧ i < 5670 * k + 5670) M0 M') 5670 (i0 := 0) ?_ ?_ (by omega) ⟨M0, rfl, fun j hj => by omega, fr_rfl⟩
      · rintro i s a0 a1 ⟨M', rfl, h1, hf⟩
        obtain ⟨m, rfl⟩ := Int.eq_ofNat_of_zero_le a0
        dsimp only
        unfold b_X12_image_23
        simp (disch := omega) only [w_id, gdp]
        rw [if_pos a1, show (5670 * (k : Int) + (m : Int)).toNat = 5670 * k + m by omega, Int.toNat_natCast]
        refine ok_ret ⟨_, rfl, fun j hj => ?_, fr_up hf ⟨rfl, by omega, by omega⟩⟩
        rw [up_a]
        by_cases e : j = m
        · rw [if_pos (by omega), e]; exact hf 66 m (by omega)
        · rw [if_neg (by omega)]; exact h1 j (by omega)
      · rintro s ⟨M', rfl, h1, hf⟩
        dsimp only
        unfold b_X12_image_23
        rw [if_neg (by omega)]
        exact ok_ret ⟨rfl, fun j hj => h1 j (by omega), hf⟩
    refine ok_bind H ?_
    rintro ⟨M2, k2⟩ ⟨p1, p2, p3⟩
    dsimp only at p1 p2 p3 ⊢
    subst p1
    rw [gdp (by omega), Int.toNat_natCast]
    have z : ∀ o, o ≠ 67 → o ≠ 68 → m_up M2 68 k 1 o = m_up M 64 0 0 o := fun o q1 q2 => by rw [up_of q2]; exact fr_of p3 o fun k => by omega
    obtain ⟨a', b, cc, d, e, f, g, u, t⟩ := hM1
    have v4 := a'.2.1.2.2.2.2.1
    have i1 : MInv (m_up M2 68 k 1) B (r, lw) (fun j => if j = k then some (r, lw) else im j) un tp cn rp := by
      refine ⟨mw_eq a' (z _ (by omega) (by omega)) (by rw [z 64 (by omega) (by omega)]), fun j hj => ?_, mun_eq u.1 cc (by rw [z 64 (by omega) (by omega)]) (fun k _ => by rw [z 69 (by omega) (by omega)]) (z _ (by omega) (by omega)), mtp_eq d (by rw [z 64 (by omega) (by omega)]) (z _ (by omega) (by omega)), mcn_eq e (by rw [z 64 (by omega) (by omega)]) (z _ (by omega) (by omega)) (by rw [z 64 (by omega) (by omega)]) (by rw [z 64 (by omega) (by omega)]) (by rw [z 64 (by omega) (by omega)]), mdr_eq f (by rw [z 64 (by omega) (by omega)]) (z _ (by omega) (by omega)), mkn_eq g (z _ (by omega) (by omega)) (z _ (by omega) (by omega)), u, t⟩
      by_cases q : j = k
      · subst q
        dsimp only
        rw [if_pos rfl]
        refine ⟨up_s, fun i hi => ?_, fun i hi => ?_⟩
        · rw [up_o (by omega), p2 i (by omega)]; exact a'.1 i hi
        · refine rs_ext (a'.2.2.2.2 i hi) fun m hm => ?_
          rw [up_o (by omega), p2 _ (by omega)]
      · have y := b j hj
        dsimp only
        rw [if_neg q]
        cases hi : im j with
        | none => rw [hi] at y; rw [up_k q, p3 68 j (by omega)]; exact y
        | some p =>
          rw [hi] at y
          obtain ⟨y1, y2, y3⟩ := y
          refine ⟨by rw [up_k q, p3 68 j (by omega)]; exact y1, fun i hi => ?_, fun i hi' => ?_⟩
          · rw [up_o (by omega), p3 67 _ (by omega)]; exact y2 i hi
          · by_cases i6 : i < 6
            · refine rs_ext (y3 i hi') fun m hm => ?_
              rw [up_o (by omega), p3 67 _ (by omega)]
            · exfalso
              have w := hC.2.2.1 j hj
              rw [hi] at w
              have := w.2.1.2.1.2.2.2.2.1
              omega
    rw [ref_tellP i1.2.2.2.2.1 (by omega), Option.bind_some]
    exact ok_ret ⟨rfl, minv_1 i1, nC_64 (fr_up (fr_tr nC_0 (fr_mono p3 fun o k z => by unfold notC pC; omega)) (by unfold notC pC; omega))⟩
theorem sim_back (h : Inv X N B) (a : Int) : Sim X N B (f_X11_back X N a) (fun M => f_X12_back X M a) := by
  obtain ⟨hX, ⟨r, lw⟩, im, un, tp, cn, rp, hC, hM⟩ := h
  unfold f_X11_back f_X11_back_j30 f_X12_back
  rw [c_within, Option.bind_some]
  by_cases c : 0 ≤ a ∧ a ≤ 1
  case neg =>
    refine sim_mk (v := -1) hX hM (B' := B) ?_ (fun M hM => ?_) (q' := (r, lw)) (im' := im) (un' := un) (tp' := tp) (cn' := rfu cn (-1)) (rp' := rp)
    · rw [if_neg c, i00]; exact cs_refuse hC (by omega) (by omega)
    · try dsimp only
      rw [ref_in, Option.bind_some, if_neg c, i00]
      exact ms_ref0 hM (by omega) (by omega)
  obtain ⟨k, rfl⟩ := Int.eq_ofNat_of_zero_le c.1
  have hk : k < 2 := by omega
  have y := hC.2.2.1 k hk
  cases hi : im k with
  | none =>
    rw [hi] at y
    refine sim_mk (v := -2) hX hM (B' := B) ?_ (fun M hM => ?_) (q' := (r, lw)) (im' := im) (un' := un) (tp' := tp) (cn' := rfu cn (-2)) (rp' := rp)
    · have e : f_X10_isKept X N (7 + 3 * k) = some 0 := by
        unfold f_X10_isKept
        rw [show N (7 + 3 * k) 2 = 0 from y, if_pos (by omega)]
      rw [if_pos c, i10]
      rcases (show k = 0 ∨ k = 1 by omega) with q | q <;> subst q
      · rw [if_pos (by omega), show f_X10_isKept X N 7 = some 0 from e, Option.bind_some, i00]; exact cs_refuse hC (by omega) (by omega)
      · rw [if_neg (by omega), show f_X10_isKept X N 10 = some 0 from e, Option.bind_some, i00]; exact cs_refuse hC (by omega) (by omega)
    · have hM1 := minv_0 (x := 0) hM
      have z := hM1.2.1 k hk
      rw [hi] at z
      try dsimp only
      rw [ref_in, Option.bind_some, if_pos c, i10, gdp (by omega), Int.toNat_natCast, if_pos (show m_up M 64 0 0 68 k = 0 from z)]
      exact ms_ref0 hM (by omega) (by omega)
  | some p =>
    obtain ⟨r', lw'⟩ := p
    rw [hi] at y
    obtain ⟨y1, y2, y3⟩ := y
    refine sim_mk (v := 0) hX hM (B' := B) ?_ (fun M hM => ?_) (q' := (r', lw')) (im' := im) (un' := (0, un.2)) (tp' := tp) (cn' := ru cn 0 0) (rp' := rp)
    · have e : f_X10_isKept X N (7 + 3 * k) = some 1 := by
        unfold f_X10_isKept
        rw [show N (7 + 3 * k) 2 = 1 from y1, if_pos (by omega)]
      have K : Ok (Option.bind (f_X10_copyFrom X 4 (7 + 3 * k) N) (fun o7 => Option.bind (f_X4_clear X 13 o7) (fun o8 => Option.bind (f_X11_accept X o8 0) (fun o9 => some (o9.1, o9.2))))) (fun o => o.1 = 0 ∧ CInv X o.2 B (r', lw') im (0, un.2) tp (ru cn 0 0) rp ∧ Fr notM N o.2) := by
        refine ok_bind (c_copyFrom (by omega) y3) ?_
        intro N1 ⟨p1, p2, p3⟩
        refine ok_bd (a := m_up N1 13 3 0) rfl ?_
        obtain ⟨w1, w2⟩ := cw_copy (by omega) y2 y3 p1 p2 p3
        have z : ∀ o, o ≠ 5 → o ≠ 6 → N1 o = N o := fun o q1 q2 => fr_of p3 o fun k => by omega
        obtain ⟨a, b, cc, d, e, f, g⟩ := hC
        have hC2 : CInv X N1 B (r', lw') im un tp cn rp := ⟨w1, w2, cim_eq cc (fun o q q' => z o (by omega) (by omega)) (fun o q => z o (by omega) (by omega)), cun_eq d (z _ (by omega) (by omega)) (z _ (by omega) (by omega)) (z _ (by omega) (by omega)), ctp_eq e (by rw [z 16 (by omega) (by omega)]) (z _ (by omega) (by omega)), ccn_eq f (z _ (by omega) (by omega)) (z _ (by omega) (by omega)) (by rw [z 16 (by omega) (by omega)]) (by rw [z 33 (by omega) (by omega)]), cdr_eq g (z _ (by omega) (by omega))⟩
        refine ok_mono (cs_accept (cinv_clear hC2)) ?_
        rintro o ⟨o1, o2, o3⟩
        exact ⟨o1, o2, fr_tr (fr_up (fr_mono p3 fun o k z => by unfold notM pM; omega) (by unfold notM pM; omega)) o3⟩
      rw [if_pos c, i10]
      rcases (show k = 0 ∨ k = 1 by omega) with q | q <;> subst q
      · rw [if_pos (by omega), show f_X10_isKept X N 7 = some 1 from e, Option.bind_some, i10]; exact K
      · rw [if_neg (by omega), show f_X10_isKept X N 10 = some 1 from e, Option.bind_some, i10]; exact K
    · have hM1 := minv_0 (x := 0) hM
      have z := hM1.2.1 k hk
      rw [hi] at z
      obtain ⟨z1, z2, z3⟩ := z
      try dsimp only
      rw [ref_in, Option.bind_some, if_pos c, i10, gdp (by omega), Int.toNat_natCast, if_neg (show ¬ m_up M 64 0 0 68 k = 0 by rw [z1]; omega)]
      have H : Ok (lp (fun s : NN × Int × Int => b_X12_back_39 X s.1 s.2.1 s.2.2) (m_up M 64 0 0, (k : Int), 0)) (fun N' => (∀ j, j < 5670 → N' 66 j = m_up M 64 0 0 67 (5670 * k + j)) ∧ Fr (fun o _ => o = 66) (m_up M 64 0 0) N') := by
        generalize m_up M 64 0 0 = M0
        refine ok_up (fun i s => ∃ M', s = (M', (k : Int), i) ∧ (∀ j : Nat, (j : Int) < i → M' 66 j = M0 67 (5670 * k + j)) ∧ Fr (fun o _ => o = 66) M0 M') 5670 (i0 := 0) ?_ ?_ (by omega) ⟨M0, rfl, fun j hj => by omega, fr_rfl⟩
        · rintro i s a0 a1 ⟨M', rfl, h1, hf⟩
          obtain ⟨m, rfl⟩ := Int.eq_ofNat_of_zero_le a0
          dsimp only
          unfold b_X12_back_39
          simp (disch := omega) only [w_id, gdp]
          rw [if_pos a1, show (5670 * (k : Int) + (m : Int)).toNat = 5670 * k + m by omega, Int.toNat_natCast]
          refine ok_ret ⟨_, rfl, fun j hj => ?_, fr_up hf rfl⟩
          rw [up_a]
          by_cases e : j = m
          · rw [if_pos e, e]; exact hf 67 _ (by omega)
          · rw [if_neg e]; exact h1 j (by omega)
        · rintro s ⟨M', rfl, h1, hf⟩
          dsimp only
          unfold b_X12_back_39
          rw [if_neg (by omega)]
          exact ok_ret ⟨fun j hj => h1 j (by omega), hf⟩
      refine ok_bind H ?_
      intro M2 ⟨p1, p2⟩
      have v4 : 0 ≤ r' 4 ∧ r' 4 ≤ 6 := y2.2.1.2.2.2.2.1
      have w2 : MW M2 B r' lw' := by
        refine ⟨fun i hi => by rw [p1 i (by omega)]; exact z2 i hi, y2.2.1, y2.2.2.1, (p2 64 20 (by omega)).trans hM1.1.2.2.2.1, fun i hi => rs_ext (z3 i hi) fun m hm => ?_⟩
        rw [p1 _ (by omega)]
      have cn1 : MCn M2 cn := by
        have z : ∀ o, o ≠ 66 → M2 o = m_up M 64 0 0 o := fun o p => fr_of p2 o fun k => p
        exact mcn_eq hM1.2.2.2.2.1 (by rw [z 64 (by omega)]) (z _ (by omega)) (by rw [z 64 (by omega)]) (by rw [z 64 (by omega)]) (by rw [z 64 (by omega)])
      rw [ref_settledP cn1 (by omega), Option.bind_some]
      refine ok_ret ⟨rfl, minv_1 (minv_wc hM1 (mw_eq w2 (up_of (by omega)) (up_k (by omega))) up_s ?_), nC_64 (nC_64 (fr_tr nC_0 (fr_mono p2 fun o k z => by unfold notC pC; omega)))⟩
      exact fr_up (fr_mono p2 fun o k z => Or.inl z) (Or.inr ⟨rfl, rfl⟩)
end IM
