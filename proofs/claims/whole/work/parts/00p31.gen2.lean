/-! generation of the class -/
section GC
variable {X : MX} {N : NN} {B : Int} {r : Nat → Int} {lw : Nat → Law}
theorem giftG_t {g to : Int} (d : canS r lw g to) : giftG r lw g to = (handS r lw g to, 1) := by unfold giftG; rw [if_pos d]
theorem giftG_f {g to : Int} (d : ¬ canS r lw g to) : giftG r lw g to = (r, 0) := by unfold giftG; rw [if_neg d]
theorem c_genStep {n g i s : Int} (hX : XOK X) (hW : CW X N 30 B r lw) (hB : B + 1 ≤ 1000000) (h : N 29 2 = s) (hs : 0 ≤ s ∧ s ≤ 1000002) (hl : 0 < r 0) (hi : 0 ≤ i ∧ i ≤ 100) (hin : i < n) (hg : 0 ≤ g ∧ g ≤ 100) :
    Ok (b_X0_playOut_40 X 4 N n (r 0) (r 1) g i) (fun o => ((genG r lw s).1 6 < 999 ∧ ∃ M, o = .inl (M, n, r 0, r 1, g + (genG r lw s).2.1, i + 1) ∧ CW X M 30 (B + 1) (waitS (genG r lw s).1 lw (dryK (genG r lw s).2.2 (r 0).toNat).2).1 lw ∧ M 29 2 = (dryK (genG r lw s).2.2 (r 0).toNat).1 ∧ Fr frQ N M) ∨ (¬ (genG r lw s).1 6 < 999 ∧ ∃ M, o = .inr (.inr (M, g + (genG r lw s).2.1)) ∧ CW X M 30 (B + 1) (genG r lw s).1 lw ∧ Fr frQ N M)) := by
  have hV := hW.2.1
  have v0 := hV.1
  have v1 := hV.2.1
  obtain ⟨k0, k1⟩ := (genG_f (lw := lw) (s := s) hV hl).1
  have K : ∀ (M : NN) (g' : Int), g' = g + (genG r lw s).2.1 → CW X M 30 (B + 1) (genG r lw s).1 lw → M 29 2 = (genG r lw s).2.2 → Fr frQ N M → Ok (f_X0_playOut_l40_j98 X 4 M n (r 0) (r 1) g' i) (fun o => ((genG r lw s).1 6 < 999 ∧ ∃ M, o = .inl (M, n, r 0, r 1, g + (genG r lw s).2.1, i + 1) ∧ CW X M 30 (B + 1) (waitS (genG r lw s).1 lw (dryK (genG r lw s).2.2 (r 0).toNat).2).1 lw ∧ M 29 2 = (dryK (genG r lw s).2.2 (r 0).toNat).1 ∧ Fr frQ N M) ∨ (¬ (genG r lw s).1 6 < 999 ∧ ∃ M, o = .inr (.inr (M, g + (genG r lw s).2.1)) ∧ CW X M 30 (B + 1) (genG r lw s).1 lw ∧ Fr frQ N M)) := by
    intro M g' hg' hC hM hf
    have q := c_gen98 (n := n) (gl := r 1) (g := g') (i := i) hX hC hM (genG_s (r := r) (lw := lw) hs) hi
    rw [k0, hg'] at q
    rw [hg']
    refine ok_mono q ?_
    rintro o (⟨c, M2, rfl, z1, z2, z3⟩ | ⟨c, M2, rfl, z1, z2⟩)
    · exact Or.inl ⟨c, M2, rfl, z1, z2, fr_tr hf z3⟩
    · exact Or.inr ⟨c, M2, rfl, z1, fr_tr hf z2⟩
  have eG : genG r lw s = if 0 < r 1 then ((giftG r lw (drS s % r 1) (drS (drS s) % r 0)).1, (giftG r lw (drS s % r 1) (drS (drS s) % r 0)).2, drS (drS s)) else (r, 0, s) := rfl
  unfold b_X0_playOut_40
  rw [if_pos hin]
  by_cases c : 0 < r 1
  case neg =>
    rw [if_neg c] at eG ⊢
    exact K N g (by rw [eG, Int.add_zero]) (by rw [eG]; exact cw_B hW (by omega) hB) (by rw [eG]; exact h) fr_rfl
  rw [if_pos c] at eG ⊢
  have g0 := Int.emod_nonneg (drS s) (show r 1 ≠ 0 by omega)
  have g1 := Int.emod_lt_of_pos (drS s) c
  have t0 := Int.emod_nonneg (drS (drS s)) (show r 0 ≠ 0 by omega)
  have t1 := Int.emod_lt_of_pos (drS (drS s)) hl
  refine ok_bd (c_draw h hs c (by omega)) ?_
  dsimp only
  refine ok_bd (c_draw (s := drS s) up_s (drS_b s) hl (by omega)) ?_
  dsimp only
  generalize hM2 : m_up (m_up N 29 2 (drS s)) 29 2 (drS (drS s)) = M2
  have f2 : Fr (fun o k => o = 29 ∧ k = 2) N M2 := by rw [← hM2]; exact fr_up (fr_up fr_rfl ⟨rfl, rfl⟩) ⟨rfl, rfl⟩
  have e2 : M2 29 2 = drS (drS s) := by rw [← hM2]; exact up_s
  have f2' : Fr frQ N M2 := fr_mono f2 fun o k z => by unfold frQ; omega
  have hC2 := cw_29 hW f2
  refine ok_bind (c_mayGive (Or.inr rfl) (xok26 hX) hC2 g0 g1 t0 t1) ?_
  rintro ⟨v, M3⟩ ⟨p1, p2⟩
  dsimp only at p1 p2 ⊢
  have hC3 := cw_J (Or.inr rfl) hC2 p2
  have f3 : Fr frQ N M3 := fr_tr f2' (fr_mono p2 fun o k z => by unfold frJ at z; unfold frQ; omega)
  have e3 : M3 29 2 = drS (drS s) := (p2 29 2 (by unfold frJ; omega)).trans e2
  rcases p1 with ⟨d, z⟩ | ⟨d, z⟩
  · rw [if_neg (by omega)]
    rw [giftG_t d] at eG
    refine ok_bind (c_hand (Or.inr rfl) (xok26 hX) hC3 hB g0 g1 t0 t1 d.1) ?_
    rintro ⟨v2, M4⟩ ⟨w1, w2, w3⟩
    dsimp only at w1 w2 w3 ⊢
    rw [w_id (by omega) (by omega)]
    exact K M4 (g + 1) (by rw [eG]) (by rw [eG]; exact w2) (by rw [eG]; exact (w3 29 2 (by unfold frD; omega)).trans e3) (fr_tr f3 (fr_mono w3 fun o k z => by unfold frD at z; unfold frQ; omega))
  · rw [if_pos z]
    rw [giftG_f d] at eG
    exact K M3 g (by rw [eG, Int.add_zero]) (by rw [eG]; exact cw_B hC3 (by omega) hB) (by rw [eG]; exact e3) f3
theorem genK_s {s : Int} (hs : 0 ≤ s ∧ s ≤ 1000002) : ∀ k, 0 ≤ (genK r lw s k).2.2.1 ∧ (genK r lw s k).2.2.1 ≤ 1000002
  | 0 => hs
  | k + 1 => by
    have a := genK_s hs k
    have b := genG_s (r := (genK r lw s k).1) (lw := lw) a
    rw [genK]
    split
    · exact a
    · split
      · exact (dry_b b _).1
      · exact (dry_b b _).1
theorem genK_mono {s : Int} {m : Nat} (h : (genK r lw s m).2.2.2 = true) : ∀ n, m ≤ n → genK r lw s n = genK r lw s m := by
  intro n hn
  induction hn with
  | refl => rfl
  | step _ ih => rw [genK, ih, if_pos h]
theorem c_playOut {s n : Int} (hX : XOK X) (hW : CW X N 4 B r lw) (hL : LWF X N 4) (hB0 : 0 ≤ B) (hB : B + 50 ≤ 1000000) (hs : 0 ≤ s ∧ s ≤ 1000000) (hl : 0 < r 0) (n0 : 1 ≤ n) (n1 : n ≤ 50) : Ok (f_X0_playOut X 4 N s n) (fun o => o.1 = (genK r lw s n.toNat).2.1 ∧ CW X o.2 30 (B + 50) (genK r lw s n.toNat).1 lw ∧ 0 ≤ (genK r lw s n.toNat).2.1 ∧ (genK r lw s n.toNat).1 0 = r 0 ∧ Fr (fun o k => (o = 29 ∧ k = 2) ∨ o = 31 ∨ o = 32 ∨ o = 26 ∨ o = 27) N o.2) := by
  have hV := hW.2.1
  have v0 := hV.1
  have v1 := hV.2.1
  unfold f_X0_playOut f_X0_playOut_j172
  refine ok_bind (c_copyFrom (by omega) hL) ?_
  intro N1 ⟨p1, p2, p3⟩
  obtain ⟨w1, w2⟩ := cw_copy (by omega) hW hL p1 p2 p3
  dsimp only
  have hC : CW X (m_up N1 29 2 s) 30 B r lw := cw_eq w1 (up_of (by omega)) (up_of (by omega)) (fun o p => up_of (by omega))
  have f0 : Fr (fun o k => (o = 29 ∧ k = 2) ∨ o = 31 ∨ o = 32 ∨ o = 26 ∨ o = 27) N (m_up N1 29 2 s) := fr_up (fr_mono p3 fun o k z => by omega) (Or.inl ⟨rfl, rfl⟩)
  refine ok_bd (c_many hC.1 (by omega) (by omega)) ?_
  refine ok_bd (c_many hC.1 (by omega) (by omega)) ?_
  rw [show r (0 : Int).toNat = r 0 from rfl, show r (1 : Int).toNat = r 1 from rfl]
  have hs' : 0 ≤ s ∧ s ≤ 1000002 := by omega
  have H : Ok (lp (fun z : NN × Int × Int × Int × Int × Int => b_X0_playOut_40 X 4 z.1 z.2.1 z.2.2.1 z.2.2.2.1 z.2.2.2.2.1 z.2.2.2.2.2) (m_up N1 29 2 s, n, r 0, r 1, 0, 0)) (fun o => ∃ M, (o = .inl (M, (genK r lw s n.toNat).2.1) ∨ o = .inr (M, (genK r lw s n.toNat).2.1)) ∧ CW X M 30 (B + 50) (genK r lw s n.toNat).1 lw ∧ 0 ≤ (genK r lw s n.toNat).2.1 ∧ (genK r lw s n.toNat).1 0 = r 0 ∧ Fr (fun o k => (o = 29 ∧ k = 2) ∨ o = 31 ∨ o = 32 ∨ o = 26 ∨ o = 27) N M) := by
    refine ok_up (fun i z => ∃ M, z = (M, n, r 0, r 1, (genK r lw s i.toNat).2.1, i) ∧ (genK r lw s i.toNat).2.2.2 = false ∧ CW X M 30 (B + i) (genK r lw s i.toNat).1 lw ∧ M 29 2 = (genK r lw s i.toNat).2.2.1 ∧ GK r (genK r lw s i.toNat).1 ∧ (0 ≤ (genK r lw s i.toNat).2.1 ∧ (genK r lw s i.toNat).2.1 ≤ i) ∧ Fr (fun o k => (o = 29 ∧ k = 2) ∨ o = 31 ∨ o = 32 ∨ o = 26 ∨ o = 27) N M) n (i0 := 0) ?_ ?_ (by omega) ⟨_, rfl, rfl, by rw [Int.add_zero]; exact hC, up_s, ⟨rfl, rfl⟩, by show 0 ≤ (0 : Int) ∧ (0 : Int) ≤ 0; omega, f0⟩
    · rintro i z a0 a1 ⟨M, rfl, hE, hC, hM, ⟨q0, q1⟩, hg, hf⟩
      have en : (i + 1).toNat = i.toNat + 1 := by omega
      have S := c_genStep (n := n) (g := (genK r lw s i.toNat).2.1) (i := i) hX hC (by omega) hM (genK_s hs' _) (by rw [q0]; exact hl) (by omega) a1 (by omega)
      have gf := genG_f (lw := lw) (s := (genK r lw s i.toNat).2.2.1) hC.2.1 (by rw [q0]; exact hl)
      rw [q0, q1] at S
      dsimp only
      refine ok_mono S ?_
      rintro o (⟨c, M2, rfl, z1, z2, z3⟩ | ⟨c, M2, rfl, z1, z2⟩)
      · have ek : genK r lw s (i + 1).toNat = ((waitS (genG (genK r lw s i.toNat).1 lw (genK r lw s i.toNat).2.2.1).1 lw (dryK (genG (genK r lw s i.toNat).1 lw (genK r lw s i.toNat).2.2.1).2.2 (r 0).toNat).2).1, (genK r lw s i.toNat).2.1 + (genG (genK r lw s i.toNat).1 lw (genK r lw s i.toNat).2.2.1).2.1, (dryK (genG (genK r lw s i.toNat).1 lw (genK r lw s i.toNat).2.2.1).2.2 (r 0).toNat).1, false) := by
          rw [en, genK, if_neg (by rw [hE]; simp), if_pos c]
        have gk : GK r (waitS (genG (genK r lw s i.toNat).1 lw (genK r lw s i.toNat).2.2.1).1 lw (dryK (genG (genK r lw s i.toNat).1 lw (genK r lw s i.toNat).2.2.1).2.2 (r 0).toNat).2).1 := by
          have hVg : Vr (B + i + 1) (genG (genK r lw s i.toNat).1 lw (genK r lw s i.toNat).2.2.1).1 := by
            unfold genG
            by_cases d : 0 < (genK r lw s i.toNat).1 1
            · rw [if_pos d]
              dsimp only
              have g0 := Int.emod_nonneg (drS (genK r lw s i.toNat).2.2.1) (show (genK r lw s i.toNat).1 1 ≠ 0 by omega)
              have g1 := Int.emod_lt_of_pos (drS (genK r lw s i.toNat).2.2.1) d
              have t0 := Int.emod_nonneg (drS (drS (genK r lw s i.toNat).2.2.1)) (show (genK r lw s i.toNat).1 0 ≠ 0 by omega)
              have t1 := Int.emod_lt_of_pos (drS (drS (genK r lw s i.toNat).2.2.1)) (show 0 < (genK r lw s i.toNat).1 0 by omega)
              by_cases e : canS (genK r lw s i.toNat).1 lw (drS (genK r lw s i.toNat).2.2.1 % (genK r lw s i.toNat).1 1) (drS (drS (genK r lw s i.toNat).2.2.1) % (genK r lw s i.toNat).1 0)
              · rw [giftG_t e]
                obtain ⟨o, -, -, o2, -⟩ := c_hand (Or.inr rfl) (xok26 hX) hC (by omega) g0 g1 t0 t1 e.1
                exact o2.2.1
              · rw [giftG_f e]
                exact vr_B hC.2.1 (by omega)
            · rw [if_neg d]
              exact vr_B hC.2.1 (by omega)
          have wv := wait_vr (lw := lw) (b := (dryK (genG (genK r lw s i.toNat).1 lw (genK r lw s i.toNat).2.2.1).2.2 (r 0).toNat).2) hVg (by omega)
          exact ⟨(wv.2.1.1 0 (by omega)).trans (gf.1.1.trans q0), (wv.2.1.1 1 (by omega)).trans (gf.1.2.trans q1)⟩
        generalize (waitS (genG (genK r lw s i.toNat).1 lw (genK r lw s i.toNat).2.2.1).1 lw (dryK (genG (genK r lw s i.toNat).1 lw (genK r lw s i.toNat).2.2.1).2.2 (r 0).toNat).2).1 = W at ek z1 gk
        refine ⟨M2, by rw [ek], by rw [ek], by rw [ek]; exact (by rw [show B + (i + 1) = B + i + 1 by omega]; exact z1), by rw [ek]; exact z2, by rw [ek]; exact gk, by rw [ek]; dsimp only; omega, fr_tr hf (fr_mono z3 fun o k z => by unfold frQ at z; omega)⟩
      · have ek : genK r lw s (i.toNat + 1) = ((genG (genK r lw s i.toNat).1 lw (genK r lw s i.toNat).2.2.1).1, (genK r lw s i.toNat).2.1 + (genG (genK r lw s i.toNat).1 lw (genK r lw s i.toNat).2.2.1).2.1, (dryK (genG (genK r lw s i.toNat).1 lw (genK r lw s i.toNat).2.2.1).2.2 (r 0).toNat).1, true) := by
          rw [genK, if_neg (by rw [hE]; simp), if_neg c]
        have em := genK_mono (r := r) (lw := lw) (s := s) (m := i.toNat + 1) (by rw [ek]) n.toNat (by omega)
        rw [em, ek]
        dsimp only
        exact ⟨M2, Or.inr rfl, cw_B z1 (by omega) hB, by omega, gf.1.1.trans q0, fr_tr hf (fr_mono z2 fun o k z => by unfold frQ at z; omega)⟩
    · rintro z ⟨M, rfl, hE, hC, hM, ⟨q0, q1⟩, hg, hf⟩
      dsimp only
      unfold b_X0_playOut_40
      rw [if_neg (by omega)]
      exact ok_ret ⟨M, Or.inl rfl, cw_B hC (by omega) hB, hg.1, q0, hf⟩
  refine ok_bind H ?_
  rintro o ⟨M, (rfl | rfl), z1, z2, z3, z4⟩
  · exact ok_ret ⟨rfl, z1, z2, z3, z4⟩
  · exact ok_ret ⟨rfl, z1, z2, z3, z4⟩
end GC
