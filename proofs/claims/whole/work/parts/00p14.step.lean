/-! calls that change: steps of either side -/
def notC (o k : Nat) : Prop := ¬ pC o k
def notM (o k : Nat) : Prop := ¬ pM o k
section ST
variable {X : MX} {N N1 : NN} {B B' : Int} {q : Wd} {im : Nat → Option Wd} {un : Un} {tp : Tp} {cn rp : Nat → Int}
theorem sim_mk {v : Int} {x : Option (Int × NN)} {y : NN → Option (Int × NN)} {q' : Wd} {im' : Nat → Option Wd} {un' : Un} {tp' : Tp} {cn' rp' : Nat → Int} (hX : XOK X) (hM : MInv N B q im un tp cn rp)
    (hc : Ok x (fun o => o.1 = v ∧ CInv X o.2 B' q' im' un' tp' cn' rp' ∧ Fr notM N o.2))
    (hm : ∀ M, MInv M B q im un tp cn rp → Ok (y M) (fun p => p.1 = v ∧ MInv p.2 B' q' im' un' tp' cn' rp' ∧ Fr notC M p.2)) : Sim X N B' x y := by
  refine ok_mono hc ?_
  rintro ⟨a, M⟩ ⟨e, c, f⟩
  refine ok_mono (hm M (minv_eq hM fun o k p => f o k fun z => z p)) ?_
  rintro ⟨b, M'⟩ ⟨e', m, f'⟩
  exact ⟨e'.trans e.symm, hX, q', im', un', tp', cn', rp', cinv_eq c fun o k p => f' o k fun z => z p, m⟩
theorem cw_B {w : Nat} {r : Nat → Int} {lw : Nat → Law} (h : CW X N w B r lw) (hB : B ≤ B') (hB' : B' ≤ 1000000) : CW X N w B' r lw := ⟨h.1, vr_B h.2.1 hB, hB', h.2.2.2⟩
theorem mw_B {r : Nat → Int} {lw : Nat → Law} (h : MW N B r lw) (hB : B ≤ B') (hB' : B' ≤ 1000000) : MW N B' r lw := ⟨h.1, vr_B h.2.1 hB, hB', h.2.2.2⟩
theorem cim_B (h : CIm X N B im) (hB : B ≤ B') (hB' : B' ≤ 1000000) : CIm X N B' im := by
  intro k hk
  have z := h k hk
  cases hi : im k with
  | none => rw [hi] at z; exact z
  | some p => rw [hi] at z; exact ⟨z.1, cw_B z.2.1 hB hB', z.2.2⟩
theorem mim_B (h : MIm N B im) : MIm N B' im := h
theorem uv_B {r : Nat → Int} (h : UV B r un) (hB : B ≤ B') : UV B' r un := ⟨h.1, fun i hi => ⟨vr_B (h.2 i hi).1 hB, (h.2 i hi).2⟩⟩
theorem cinv_world {r' : Nat → Int} {lw' : Nat → Law} (hC : CInv X N B q im un tp cn rp) (hW : CW X N1 4 B' r' lw') (hB : B ≤ B') (hf : Fr (fun o _ => o = 5) N N1) : CInv X N1 B' (r', lw') im un tp cn rp := by
  obtain ⟨a, b, c, d, e, f, g⟩ := hC
  have z : ∀ o, o ≠ 5 → N1 o = N o := fun o p => fr_of hf o fun k => p
  exact ⟨hW, lwf_eq b (z _ (by omega)), cim_B (cim_eq c (fun o p p' => z o (by omega)) (fun o p => z o (by omega))) hB hW.2.2.1, cun_eq d (z _ (by omega)) (z _ (by omega)) (z _ (by omega)), ctp_eq e (by rw [z 16 (by omega)]) (z _ (by omega)), ccn_eq f (z _ (by omega)) (z _ (by omega)) (by rw [z 16 (by omega)]) (by rw [z 33 (by omega)]), cdr_eq g (z _ (by omega))⟩
theorem cinv_clear (hC : CInv X N B q im un tp cn rp) : CInv X (m_up N 13 3 0) B q im (0, un.2) tp cn rp := by
  obtain ⟨a, b, c, d, e, f, g⟩ := hC
  have z : ∀ o, o ≠ 13 → m_up N 13 3 0 o = N o := fun o p => up_of p
  refine ⟨cw_eq a (z _ (by omega)) (z _ (by omega)) (fun o p => z o (by omega)), lwf_eq b (z _ (by omega)), cim_eq c (fun o p p' => z o (by omega)) (fun o p => z o (by omega)), ⟨up_s, ?_, ?_, fun i hi => by cases hi⟩, ctp_eq e (by rw [z 16 (by omega)]) (z _ (by omega)), ccn_eq f (z _ (by omega)) (z _ (by omega)) (by rw [z 16 (by omega)]) (by rw [z 33 (by omega)]), cdr_eq g (z _ (by omega))⟩
  · rw [up_k (by omega)]; exact d.2.1
  · rw [up_k (by omega)]; exact d.2.2.1
theorem cinv_cn {cn' : Nat → Int} (hC : CInv X N B q im un tp cn rp) (hc : CCn N1 cn') (hf : Fr frC N N1) : CInv X N1 B q im un tp cn' rp := by
  obtain ⟨a, b, c, d, e, f, g⟩ := hC
  have z : ∀ o, o ≠ 3 → o ≠ 63 → N1 o = N o := fun o p p' => fr_of hf o fun k => by unfold frC; omega
  exact ⟨cw_eq a (z _ (by omega) (by omega)) (z _ (by omega) (by omega)) (fun o p => z o (by omega) (by omega)), lwf_eq b (z _ (by omega) (by omega)), cim_eq c (fun o p p' => z o (by omega) (by omega)) (fun o p => z o (by omega) (by omega)), cun_eq d (z _ (by omega) (by omega)) (z _ (by omega) (by omega)) (z _ (by omega) (by omega)), ctp_eq e (by rw [z 16 (by omega) (by omega)]) (z _ (by omega) (by omega)), hc, cdr_eq g (z _ (by omega) (by omega))⟩
theorem nM_C {N' : NN} (h : Fr frC N N') : Fr notM N N' := fr_mono h fun o k z => by unfold frC at z; unfold notM pM; omega
theorem nM_5 {N' : NN} (h : Fr (fun o _ => o = 5) N N') : Fr notM N N' := fr_mono h fun o k z => by unfold notM pM; omega
theorem nC_T {N' : NN} (h : Fr frT N N') : Fr notC N N' := fr_mono h fun o k z => by unfold frT at z; unfold notC pC; omega
/-- the class refuses -/
theorem cs_refuse {v : Int} (hC : CInv X N B q im un tp cn rp) (hv : v < 0) (hv2 : -6 ≤ v) : Ok (Option.bind (f_X11_refuse X N v) (fun o => some (o.1, o.2))) (fun o => o.1 = v ∧ CInv X o.2 B q im un tp (rfu cn v) rp ∧ Fr notM N o.2) := by
  refine ok_bind (c_refuse hC.2.2.2.2.2.1 hv hv2) ?_
  rintro ⟨a, M⟩ ⟨p1, p2, p3⟩
  exact ok_ret ⟨p1, cinv_cn hC p2 p3, nM_C p3⟩
theorem cs_accept {v : Int} (hC : CInv X N B q im un tp cn rp) : Ok (Option.bind (f_X11_accept X N v) (fun o => some (o.1, o.2))) (fun o => o.1 = v ∧ CInv X o.2 B q im un tp (ru cn 0 0) rp ∧ Fr notM N o.2) := by
  refine ok_bind (c_accept hC.2.2.2.2.2.1) ?_
  rintro ⟨a, M⟩ ⟨p1, p2, p3⟩
  exact ok_ret ⟨p1, cinv_cn hC p2 p3, nM_C p3⟩
/-! the reference -/
theorem minv_0 {x : Int} (hM : MInv N B q im un tp cn rp) : MInv (m_up N 64 0 x) B q im un tp cn rp := minv_npr hM npr_0
theorem nC_0 {x : Int} : Fr notC N (m_up N 64 0 x) := fr_up fr_rfl (by unfold notC pC; omega)
theorem minv_cn {cn' : Nat → Int} (hM : MInv N B q im un tp cn rp) (hc : MCn N1 cn') (hf : Fr frT N N1) : MInv N1 B q im un tp cn' rp := by
  obtain ⟨a, b, c, d, e, f, g, u, t⟩ := hM
  have z : ∀ o, o ≠ 64 → o ≠ 65 → N1 o = N o := fun o p p' => fr_of hf o fun k => by unfold frT; omega
  have y : ∀ k, k ≠ 0 → k ≠ 1 → N1 64 k = N 64 k := fun k p p' => hf 64 k (by unfold frT; omega)
  exact ⟨mw_eq a (z _ (by omega) (by omega)) (y _ (by omega) (by omega)), mim_eq b (z _ (by omega) (by omega)) (z _ (by omega) (by omega)), mun_eq u.1 c (y _ (by omega) (by omega)) (fun k _ => by rw [z 69 (by omega) (by omega)]) (z _ (by omega) (by omega)), mtp_eq d (y _ (by omega) (by omega)) (z _ (by omega) (by omega)), hc, mdr_eq f (y _ (by omega) (by omega)) (z _ (by omega) (by omega)), mkn_eq g (z _ (by omega) (by omega)) (z _ (by omega) (by omega)), u, t⟩
theorem ms_refuse {v : Int} (hM : MInv N B q im un tp cn rp) (hv : v < 0) (hv2 : -6 ≤ v) : Ok (Option.bind (f_X12_tell X N v) (fun o => some (o.1, o.2))) (fun p => p.1 = v ∧ MInv p.2 B q im un tp (rfu cn v) rp ∧ Fr notC N p.2) := by
  refine ok_bind (ref_tellN hM.2.2.2.2.1 hv hv2) ?_
  rintro ⟨a, M⟩ ⟨p1, p2, p3⟩
  exact ok_ret ⟨p1, minv_cn hM p2 p3, nC_T p3⟩
theorem minv_1 (hM : MInv N B q im un tp cn rp) : MInv (m_up N 64 1 0) B q im un tp (ru cn 0 0) rp := minv_cn hM (mcn_1 hM.2.2.2.2.1) (fr_up fr_rfl (Or.inl ⟨rfl, Or.inr rfl⟩))
theorem nC_64 {N' : NN} {k : Nat} {x : Int} (h : Fr notC N N') : Fr notC N (m_up N' 64 k x) := fr_up h (by unfold notC pC; omega)
theorem nC_66 {N' : NN} {k : Nat} {x : Int} (h : Fr notC N N') : Fr notC N (m_up N' 66 k x) := fr_up h (by unfold notC pC; omega)
/-- the row changes, and nothing can be undone any more -/
theorem minv_wc {r' : Nat → Int} {lw' : Nat → Law} (hM : MInv N B q im un tp cn rp) (hW : MW N1 B' r' lw') (h8 : N1 64 8 = 0) (hf : Fr (fun o k => o = 66 ∨ (o = 64 ∧ k = 8)) N N1) : MInv N1 B' (r', lw') im (0, un.2) tp cn rp := by
  obtain ⟨a, b, c, d, e, f, g, u, t⟩ := hM
  have z : ∀ o, o ≠ 64 → o ≠ 66 → N1 o = N o := fun o p p' => fr_of hf o fun k => by omega
  have y : ∀ k, k ≠ 8 → N1 64 k = N 64 k := fun k p => hf 64 k (by omega)
  exact ⟨hW, mim_eq b (z _ (by omega) (by omega)) (z _ (by omega) (by omega)), ⟨h8, fun i hi => by cases hi⟩, mtp_eq d (y _ (by omega)) (z _ (by omega) (by omega)), mcn_eq e (y _ (by omega)) (z _ (by omega) (by omega)) (y _ (by omega)) (y _ (by omega)) (y _ (by omega)), mdr_eq f (y _ (by omega)) (z _ (by omega) (by omega)), mkn_eq g (z _ (by omega) (by omega)) (z _ (by omega) (by omega)), ⟨by show 0 ≤ 16; omega, fun i hi => by cases hi⟩, t⟩
theorem minv_w {r' : Nat → Int} {lw' : Nat → Law} (hM : MInv N B q im un tp cn rp) (hW : MW N1 B' r' lw') (hU : UV B' r' un) (hf : Fr (fun o _ => o = 66) N N1) : MInv N1 B' (r', lw') im un tp cn rp := by
  obtain ⟨a, b, c, d, e, f, g, u, t⟩ := hM
  have z : ∀ o, o ≠ 66 → N1 o = N o := fun o p => fr_of hf o fun k => p
  exact ⟨hW, mim_eq b (z _ (by omega)) (z _ (by omega)), mun_eq u.1 c (by rw [z 64 (by omega)]) (fun k _ => by rw [z 69 (by omega)]) (z _ (by omega)), mtp_eq d (by rw [z 64 (by omega)]) (z _ (by omega)), mcn_eq e (by rw [z 64 (by omega)]) (z _ (by omega)) (by rw [z 64 (by omega)]) (by rw [z 64 (by omega)]) (by rw [z 64 (by omega)]), mdr_eq f (by rw [z 64 (by omega)]) (z _ (by omega)), mkn_eq g (z _ (by omega)) (z _ (by omega)), hU, t⟩
theorem uv_r {r r' : Nat → Int} (h : UV B r un) (h0 : r' 0 = r 0) (h1 : r' 1 = r 1) (h7 : r' 7 = r 7) (h8 : r' 8 = r 8) : UV B r' un := ⟨h.1, fun i hi => by rw [h0, h1, h7, h8]; exact h.2 i hi⟩
end ST
section PUT
variable {X : MX} {N : NN} {B : Int}
theorem sim_put (h : Inv X N B) (l k v : Int) : Sim X N B (f_X11_put X N l k v) (fun M => f_X12_put X M l k v) := by
  obtain ⟨hX, ⟨r, lw⟩, im, un, tp, cn, rp, hC, hM⟩ := h
  have hW : CW X N 4 B r lw := hC.1
  have hV := hW.2.1
  have v0 := hV.1
  unfold f_X11_put f_X11_put_j29 f_X11_put_j23 f_X12_put f_X12_put_j42 f_X12_put_j43
  rw [c_within, Option.bind_some, c_within, c_within, c_isLord hW.1]
  simp only [Option.bind_some]
  by_cases a : (k = 0 ∧ 0 ≤ v ∧ v ≤ 9999) ∨ (k = 1 ∧ 0 ≤ v ∧ v ≤ 99)
  case neg =>
    refine sim_mk (v := -1) hX hM (B' := B) ?_ (fun M hM => ?_) (q' := (r, lw)) (im' := im) (un' := un) (tp' := tp) (cn' := rfu cn (-1)) (rp' := rp)
    · by_cases k1 : 0 ≤ k ∧ k ≤ 1
      · rw [if_pos k1, i10]
        by_cases k0 : k = 0
        · rw [if_pos k0, if_neg (show ¬ (0 ≤ v ∧ v ≤ 9999) by omega), i00]; exact cs_refuse hC (by omega) (by omega)
        · rw [if_neg k0, if_neg (show ¬ (0 ≤ v ∧ v ≤ 99) by omega), i00]; exact cs_refuse hC (by omega) (by omega)
      · rw [if_neg k1, i00]; exact cs_refuse hC (by omega) (by omega)
    · have K : Ok (Option.bind (f_X12_tell X (m_up M 64 0 0) (-1)) (fun o => some (o.1, o.2))) (fun p => p.1 = -1 ∧ MInv p.2 B (r, lw) im un tp (rfu cn (-1)) rp ∧ Fr notC M p.2) := by
        refine ok_mono (ms_refuse (minv_0 hM) (by omega) (by omega)) ?_
        rintro p ⟨p1, p2, p3⟩
        exact ⟨p1, p2, fr_tr nC_0 p3⟩
      try dsimp only
      rw [ref_in, ref_in, Option.bind_some, Option.bind_some]
      by_cases k0 : k = 0
      · rw [if_pos k0, if_neg (show ¬ (0 ≤ v ∧ v ≤ 9999) by omega), i00]; exact K
      · rw [if_neg k0]
        by_cases k1 : k = 1
        · rw [if_pos k1, if_neg (show ¬ (0 ≤ v ∧ v ≤ 99) by omega), i00, if_pos trivial]; exact K
        · rw [if_neg k1, if_pos trivial]; exact K
  have k1 : 0 ≤ k ∧ k ≤ 1 := by omega
  rw [if_pos k1, i10]
  by_cases d : 0 ≤ l ∧ l < r 0
  case neg =>
    refine sim_mk (v := -2) hX hM (B' := B) ?_ (fun M hM => ?_) (q' := (r, lw)) (im' := im) (un' := un) (tp' := tp) (cn' := rfu cn (-2)) (rp' := rp)
    · rw [if_neg d]
      by_cases k0 : k = 0
      · rw [if_pos k0, if_pos (show 0 ≤ v ∧ v ≤ 9999 by omega), i10, i00]; exact cs_refuse hC (by omega) (by omega)
      · rw [if_neg k0, if_pos (show 0 ≤ v ∧ v ≤ 99 by omega), i10, i00]; exact cs_refuse hC (by omega) (by omega)
    · have K : Ok (Option.bind (f_X12_tell X (m_up M 64 0 0) (-2)) (fun o => some (o.1, o.2))) (fun p => p.1 = -2 ∧ MInv p.2 B (r, lw) im un tp (rfu cn (-2)) rp ∧ Fr notC M p.2) := by
        refine ok_mono (ms_refuse (minv_0 hM) (by omega) (by omega)) ?_
        rintro p ⟨p1, p2, p3⟩
        exact ⟨p1, p2, fr_tr nC_0 p3⟩
      have hM1 : MW (m_up M 64 0 0) B r lw := (minv_0 hM).1
      try dsimp only
      rw [ref_in, ref_in, ref_isLord hM1.1 hV, Option.bind_some, Option.bind_some, Option.bind_some, if_neg d]
      by_cases k0 : k = 0
      · rw [if_pos k0, if_pos (show 0 ≤ v ∧ v ≤ 9999 by omega), i10, i00]; exact K
      · rw [if_neg k0, if_pos (show k = 1 by omega), if_pos (show 0 ≤ v ∧ v ≤ 99 by omega), i10, i10, i00]; exact K
  have vr' : Vr B (ru r (9 + 6 * l + k) v) := by
    rcases a with ⟨e, a⟩ | ⟨e, a⟩ <;> subst e
    · exact vr_grain hV d.1 (by omega) a.1 a.2
    · exact vr_harvest hV d.1 (by omega) a.1 a.2
  refine sim_mk (v := rl r l k) hX hM (B' := B) ?_ (fun M hM => ?_) (q' := (ru r (9 + 6 * l + k) v, lw)) (im' := im) (un' := (0, un.2)) (tp' := tp) (cn' := ru cn 0 0) (rp' := rp)
  · have K : Ok (Option.bind (f_X10_lordAt X N 4 l k) (fun o8 => Option.bind (f_X10_setLord X 4 N l k v) (fun o9 => Option.bind (f_X4_clear X 13 o9) (fun o10 => Option.bind (f_X11_accept X o10 o8) (fun o11 => some (o11.1, o11.2)))))) (fun o => o.1 = rl r l k ∧ CInv X o.2 B (ru r (9 + 6 * l + k) v, lw) im (0, un.2) tp (ru cn 0 0) rp ∧ Fr notM N o.2) := by
      refine ok_bd (c_lordAt hW.1 d.1 (by omega) k1.1 (by omega)) ?_
      refine ok_bind (c_setLord (B' := B) (by omega) hW d.1 (by omega) k1.1 (by omega) vr' hW.2.2.1) ?_
      intro N1 ⟨p1, p2⟩
      refine ok_bd (a := m_up N1 13 3 0) rfl ?_
      refine ok_mono (cs_accept (cinv_clear (cinv_world hC p1 (Int.le_refl _) p2))) ?_
      rintro o ⟨o1, o2, o3⟩
      exact ⟨o1, o2, fr_tr (fr_up (nM_5 p2) (by unfold notM pM; omega)) o3⟩
    rw [if_pos d]
    by_cases k0 : k = 0
    · rw [if_pos k0, if_pos (show 0 ≤ v ∧ v ≤ 9999 by omega), i10, i10]; exact K
    · rw [if_neg k0, if_pos (show 0 ≤ v ∧ v ≤ 99 by omega), i10, i10]; exact K
  · have hM1 := minv_0 (x := 0) hM
    have hW1 : MW (m_up M 64 0 0) B r lw := hM1.1
    have K : Ok (some (rl r l k, m_up (m_up (m_up (m_up M 64 0 0) 66 (9 + 6 * l + k).toNat v) 64 8 0) 64 1 0)) (fun p => p.1 = rl r l k ∧ MInv p.2 B (ru r (9 + 6 * l + k) v, lw) im (0, un.2) tp (ru cn 0 0) rp ∧ Fr notC M p.2) := by
      refine ok_ret ⟨rfl, minv_1 (minv_wc hM1 ?_ up_s ?_), nC_64 (nC_64 (nC_66 nC_0))⟩
      · exact mw_eq (mw_set hW1 (by omega) (by omega) vr' hW.2.2.1 (by omega)) (up_of (by omega)) (up_k (by omega))
      · exact fr_up (fr_up fr_rfl (Or.inl rfl)) (Or.inr ⟨rfl, rfl⟩)
    try dsimp only
    rw [ref_in, ref_in, ref_isLord hW1.1 hV, ref_ofLord hW1.1 d.1 (by omega) k1.1 (by omega), if_pos d]
    simp only [Option.bind_some]
    simp (disch := omega) only [w_id (x := 6 * l), w_id (x := 9 + 6 * l), w_id (x := 9 + 6 * l + k), gdp, ref_was, Option.bind_some]
    by_cases k0 : k = 0
    · rw [if_pos k0, if_pos (show 0 ≤ v ∧ v ≤ 9999 by omega), i10, i10]; exact K
    · rw [if_neg k0, if_pos (show k = 1 by omega), if_pos (show 0 ≤ v ∧ v ≤ 99 by omega), i10, i10, i10]; exact K
end PUT
