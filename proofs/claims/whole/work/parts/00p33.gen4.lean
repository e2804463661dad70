/-! generation: both sides -/
section GS
variable {X : MX} {N : NN} {B : Int}
theorem sim_generation (h : Inv X N B) (hB0 : 0 ≤ B) (hB : B + 50 ≤ 1000000) (s n : Int) : Sim X N B (f_X11_generation X N s n) (fun M => f_X12_generation X M s n) := by
  obtain ⟨hX, ⟨r, lw⟩, im, un, tp, cn, rp, hC, hM⟩ := h
  have hW : CW X N 4 B r lw := hC.1
  have hV := hW.2.1
  have v0 := hV.1
  unfold f_X11_generation f_X11_generation_j21 f_X12_generation f_X12_generation_j29
  rw [c_within, c_within, Option.bind_some, Option.bind_some, c_many hW.1 (by omega) (by omega), Option.bind_some]
  by_cases c1 : (0 ≤ s ∧ s ≤ 1000000) ∧ (1 ≤ n ∧ n ≤ 50)
  case neg =>
    refine sim_mk (v := -1) hX hM (B' := B) ?_ (fun M hM => ?_) (q' := (r, lw)) (im' := im) (un' := un) (tp' := tp) (cn' := rfu cn (-1)) (rp' := rp)
    · have K := cs_refuse (v := -1) hC (by omega) (by omega)
      by_cases x1 : 0 ≤ s ∧ s ≤ 1000000
      · rw [if_pos x1, i10, if_neg (show ¬ (1 ≤ n ∧ n ≤ 50) by omega), i00]; exact K
      · rw [if_neg x1, i00]; exact K
    · have K := ms_ref0 (X := X) (v := -1) hM (by omega) (by omega)
      try dsimp only
      rw [ref_in, ref_in, Option.bind_some, Option.bind_some]
      by_cases x1 : 0 ≤ s ∧ s ≤ 1000000
      · rw [if_pos x1, i10, if_neg (show ¬ (1 ≤ n ∧ n ≤ 50) by omega), i00]; exact K
      · rw [if_neg x1, i00]; exact K
  obtain ⟨x1, x2⟩ := c1
  rw [if_pos x1, i10, if_pos x2, i10]
  by_cases c2 : r 0 = 0
  · refine sim_mk (v := -3) hX hM (B' := B) ?_ (fun M hM => ?_) (q' := (r, lw)) (im' := im) (un' := un) (tp' := tp) (cn' := rfu cn (-3)) (rp' := rp)
    · rw [if_pos (show r (0 : Int).toNat = 0 from c2)]; exact cs_refuse hC (by omega) (by omega)
    · have hM1 : MW (m_up M 64 0 0) B r lw := (minv_0 hM).1
      try dsimp only
      rw [ref_in, ref_in, Option.bind_some, Option.bind_some, if_pos x1, i10, if_pos x2, i10, hM1.1 0 (by omega), if_pos c2]
      exact ms_ref0 hM (by omega) (by omega)
  have hl : 0 < r 0 := by omega
  generalize hG : genK r lw s n.toNat = G
  refine sim_mk (v := G.2.1) hX hM (B' := B) ?_ (fun M hM => ?_) (q' := (r, lw)) (im' := im) (un' := un) (tp' := tp) (cn' := ru cn 0 0) (rp' := G.1)
  · rw [if_neg (show ¬ r (0 : Int).toNat = 0 from c2)]
    refine ok_bind (c_playOut hX hW hC.2.1 hB0 hB x1 hl x2.1 x2.2) ?_
    rintro ⟨v, N1⟩ ⟨p1, p2, p3, p4, p5⟩
    dsimp only at p1 p2 p3 p4 p5 ⊢
    rw [hG] at p1 p2 p3 p4
    subst p1
    have z : ∀ o, o ≠ 26 → o ≠ 27 → o ≠ 29 → o ≠ 31 → o ≠ 32 → N1 o = N o := fun o _ _ _ _ _ => fr_of p5 o fun k => by omega
    obtain ⟨a, b, cc, d, e, f, g⟩ := hC
    have hC2 : CInv X N1 B (r, lw) im un tp cn G.1 := ⟨cw_eq a (z _ (by omega) (by omega) (by omega) (by omega) (by omega)) (z _ (by omega) (by omega) (by omega) (by omega) (by omega)) (fun o q => z o (by omega) (by omega) (by omega) (by omega) (by omega)), lwf_eq b (z _ (by omega) (by omega) (by omega) (by omega) (by omega)), cim_eq cc (fun o q q' => z o (by omega) (by omega) (by omega) (by omega) (by omega)) (fun o q => z o (by omega) (by omega) (by omega) (by omega) (by omega)), cun_eq d (z _ (by omega) (by omega) (by omega) (by omega) (by omega)) (z _ (by omega) (by omega) (by omega) (by omega) (by omega)) (z _ (by omega) (by omega) (by omega) (by omega) (by omega)), ctp_eq e (by rw [z 16 (by omega) (by omega) (by omega) (by omega) (by omega)]) (z _ (by omega) (by omega) (by omega) (by omega) (by omega)), ccn_eq f (z _ (by omega) (by omega) (by omega) (by omega) (by omega)) (z _ (by omega) (by omega) (by omega) (by omega) (by omega)) (by rw [z 16 (by omega) (by omega) (by omega) (by omega) (by omega)]) (by rw [z 33 (by omega) (by omega) (by omega) (by omega) (by omega)]), ⟨p2.1, vr_B p2.2.1 hB⟩⟩
    refine ok_mono (cs_accept hC2) ?_
    rintro o ⟨o1, o2, o3⟩
    exact ⟨o1, o2, fr_tr (fr_mono p5 fun o k z => by unfold notM pM; omega) o3⟩
  · have hM1 := minv_0 (x := 0) hM
    have hW1 : MW (m_up M 64 0 0) B r lw := hM1.1
    try dsimp only
    rw [ref_in, ref_in, Option.bind_some, Option.bind_some, if_pos x1, i10, if_pos x2, i10, hW1.1 0 (by omega), if_neg c2]
    generalize hM0 : m_up M 64 0 0 = M0 at hM1 hW1
    refine ok_bind (ref_keepRow (by omega) (by omega)) ?_
    intro K1 ⟨k1, k2⟩
    change ∀ j : Nat, j < 270 → K1 69 (4320 + j) = M0 66 j at k1
    change Fr (fun o k => o = 69 ∧ 4320 ≤ k ∧ k < 4320 + 270) M0 K1 at k2
    have w1 : MW (m_up K1 64 70 s) B r lw := mw_eq (mw_fr hW1 k2 (fun k => by omega) (by omega)) (up_of (by omega)) (up_k (by omega))
    refine ok_bind (ref_genAll w1 hB0 hB up_s x1 hl x2.1 x2.2) ?_
    rintro ⟨K2, v⟩ ⟨p1, p2, ⟨p3, p3'⟩, p4, p5⟩
    dsimp only at p1 p2 p3 p4 p5 ⊢
    rw [hG] at p1 p2 p3 p4
    subst p1
    rw [p2.1 0 (by omega)]
    have w2 : MW (m_up K2 64 72 (G.1 0)) (B + 50) G.1 lw := mw_eq p2 (up_of (by omega)) (up_k (by omega))
    refine ok_bind (ref_table w2 up_s) ?_
    rintro ⟨K3, v3⟩ ⟨q1, q2, q3⟩
    dsimp only at q1 q2 q3 ⊢
    subst q1
    refine ok_bind (ref_putBack (by omega) (by omega)) ?_
    intro K4 ⟨u1, u2⟩
    change ∀ j : Nat, j < 270 → K4 66 j = K3 69 (4320 + j) at u1
    have e69 : ∀ k, K3 69 k = K1 69 k := fun k => by rw [q3 69 k (by omega), up_o (by omega), p5 69 k (by unfold frE frN; omega), up_o (by omega)]
    have z : ∀ o, o ≠ 64 → o ≠ 66 → o ≠ 69 → o ≠ 81 → o ≠ 83 → o ≠ 103 → K4 o = M0 o := by
      intro o h1 h2 h3 h4 h5 h6
      rw [fr_of u2 o fun k => by omega, fr_of q3 o fun k => by omega, up_of h1, fr_of p5 o fun k => by unfold frE frN; omega, up_of h1, fr_of k2 o fun k => by omega]
    have y : ∀ k, (k = 1 ∨ k = 8 ∨ k = 11 ∨ k = 13 ∨ k = 18 ∨ k = 20 ∨ k = 68) → K4 64 k = M0 64 k := by
      intro k hk
      rw [u2 64 k (by omega), q3 64 k (by omega), up_k (by omega), p5 64 k (by unfold frE frN; omega), up_k (by omega), k2 64 k (by omega)]
    obtain ⟨a, b, cc, d, e, f, g, u, t⟩ := hM1
    have i1 : MInv K4 B (r, lw) im un tp cn G.1 := by
      refine ⟨mw_cells hW1 (fun j hj => ?_) hV hW.2.2.1 rfl (y 20 (by omega)) (fun j hj => ?_), mim_eq b (z _ (by omega) (by omega) (by omega) (by omega) (by omega) (by omega)) (z _ (by omega) (by omega) (by omega) (by omega) (by omega) (by omega)), mun_eq u.1 cc (y _ (by omega)) (fun k hk => ?_) (z _ (by omega) (by omega) (by omega) (by omega) (by omega) (by omega)), mtp_eq d (y _ (by omega)) (z _ (by omega) (by omega) (by omega) (by omega) (by omega) (by omega)), mcn_eq e (y _ (by omega)) (z _ (by omega) (by omega) (by omega) (by omega) (by omega) (by omega)) (y _ (by omega)) (y _ (by omega)) (y _ (by omega)), ⟨?_, fun l hl' => ?_⟩, mkn_eq g (z _ (by omega) (by omega) (by omega) (by omega) (by omega) (by omega)) (z _ (by omega) (by omega) (by omega) (by omega) (by omega) (by omega)), u, t⟩
      · rw [u1 j hj, e69, k1 j hj]; exact hW1.1 j hj
      · rw [u2 66 j (by omega), q3 66 j (by omega), up_o (by omega), p5 66 j (by unfold frE frN; omega), up_o (by omega), k2 66 j (by omega)]
      · rw [u2 69 k (by omega), e69, k2 69 k (by omega)]
      · rw [u2 64 72 (by omega), q3 64 72 (by omega), up_s]
      · have := q2 l hl'
        refine ⟨fun k hk => ?_, ?_⟩
        · rw [u2 103 _ (by omega)]; exact this.1 k hk
        · rw [u2 103 _ (by omega)]; exact this.2
    rw [ref_tellP i1.2.2.2.2.1 p4, Option.bind_some]
    refine ok_ret ⟨rfl, minv_1 i1, nC_64 ?_⟩
    have n0 : Fr notC M M0 := by rw [← hM0]; exact nC_0
    refine fr_tr n0 (fun o k hn => ?_)
    unfold notC at hn
    have hp : pC o k := Classical.byContradiction hn
    unfold pC at hp
    exact congrFun (z o (by omega) (by omega) (by omega) (by omega) (by omega) (by omega)) k
end GS
