/-! generation of the reference; both sides -/
def frE (o k : Nat) : Prop := frN o k ∨ (o = 64 ∧ (k = 40 ∨ k = 70))
section GM
variable {X : MX} {N : NN} {B : Int} {r : Nat → Int} {lw : Nat → Law}
theorem mw_E {N' : NN} (h : MW N B r lw) (hf : Fr (fun o k => o = 64 ∧ (k = 40 ∨ k = 70)) N N') : MW N' B r lw := mw_fr h hf (fun k z => by omega) (by omega)
theorem ref_dry {a2 a3 a5 s : Int} (h0 : N 66 0 = r 0) (hr : 0 ≤ r 0 ∧ r 0 ≤ 6) (h : N 64 70 = s) (hb : N 64 40 = 0) (hs : 0 ≤ s ∧ s ≤ 1000002) : Ok (lp (fun z : NN × Int × Int × Int × Int => b_X12_generation_138 X z.1 z.2.1 z.2.2.1 z.2.2.2.1 z.2.2.2.2) (N, a2, a3, a5, 0)) (fun o => ∃ M, o = (M, a2, a3, a5) ∧ M 64 70 = (dryK s (r 0).toNat).1 ∧ M 64 40 = (dryK s (r 0).toNat).2 ∧ Fr (fun o k => o = 64 ∧ (k = 40 ∨ k = 70)) N M) := by
  refine ok_up (fun i z => ∃ M, z = (M, a2, a3, a5, i) ∧ M 64 70 = (dryK s i.toNat).1 ∧ M 64 40 = (dryK s i.toNat).2 ∧ Fr (fun o k => o = 64 ∧ (k = 40 ∨ k = 70)) N M) (r 0) (i0 := 0) ?_ ?_ hr.1 ⟨N, rfl, h, hb, fr_rfl⟩
  · rintro i z a0 a1 ⟨M, rfl, hM, hD, hf⟩
    obtain ⟨m, rfl⟩ := Int.eq_ofNat_of_zero_le a0
    rw [Int.toNat_natCast] at hM hD
    obtain ⟨b1, b2, b3⟩ := dry_b hs m
    obtain ⟨o1, o2⟩ := or_pow (l := m) (by omega) b2 b3
    have e0 : M 66 0 = r 0 := (hf 66 0 (by omega)).trans h0
    have ek : dryK s ((m : Int) + 1).toNat = (drS (dryK s m).1, (dryK s m).2 + (if drS (dryK s m).1 % 3 = 0 then ((2 ^ m : Nat) : Int) else 0)) := by rw [show ((m : Int) + 1).toNat = m + 1 by omega, dryK]
    dsimp only
    unfold b_X12_generation_138 f_X12_generation_l138_j170
    rw [e0, if_pos a1, w_id (x := (m : Int) + 1) (by omega) (by omega)]
    refine ok_bd (ref_draw hM b1 (by omega) (by omega)) ?_
    dsimp only
    rw [hD]
    by_cases c : drS (dryK s m).1 % 3 = 0
    · rw [if_pos c, o1]
      refine ok_ret ⟨_, rfl, ?_, ?_, fr_up (fr_up hf ⟨rfl, Or.inr rfl⟩) ⟨rfl, Or.inl rfl⟩⟩
      · rw [ek, up_k (by omega), up_s]
      · rw [ek, up_s, if_pos c]
    · rw [if_neg c, o2]
      refine ok_ret ⟨_, rfl, ?_, ?_, fr_up (fr_up hf ⟨rfl, Or.inr rfl⟩) ⟨rfl, Or.inl rfl⟩⟩
      · rw [ek, up_k (by omega), up_s]
      · rw [ek, up_s, if_neg c, Int.add_zero]
  · rintro z ⟨M, rfl, hM, hD, hf⟩
    have e0 : M 66 0 = r 0 := (hf 66 0 (by omega)).trans h0
    dsimp only
    unfold b_X12_generation_138
    rw [e0, if_neg (by omega)]
    exact ok_ret ⟨M, rfl, hM, hD, hf⟩
theorem ref_gen130 {n g i s : Int} (hW : MW N B r lw) (h : N 64 70 = s) (hs : 0 ≤ s ∧ s ≤ 1000002) (hi : 0 ≤ i ∧ i ≤ 100) : Ok (f_X12_generation_l71_j130 X N n g i) (fun o => (r 6 < 999 ∧ ∃ M, o = .inl (M, n, g, 1, i + 1) ∧ MW M B (waitS r lw (dryK s (r 0).toNat).2).1 lw ∧ M 64 70 = (dryK s (r 0).toNat).1 ∧ Fr frE N M) ∨ (¬ r 6 < 999 ∧ ∃ M, o = .inl (M, n, g, 0, i + 1) ∧ MW M B r lw ∧ Fr frE N M)) := by
  have hV := hW.2.1
  have v0 := hV.1
  unfold f_X12_generation_l71_j130 f_X12_generation_l71_j195 f_X12_generation_l71_j207
  dsimp only
  have f0 : Fr (fun o k => o = 64 ∧ (k = 40 ∨ k = 70)) N (m_up N 64 40 0) := fr_up fr_rfl ⟨rfl, Or.inl rfl⟩
  refine ok_bind (ref_dry (r := r) (s := s) (by rw [up_o (by omega)]; exact hW.1 0 (by omega)) v0 (by rw [up_k (by omega)]; exact h) up_s hs) ?_
  rintro o ⟨M, rfl, p1, p2, p3⟩
  dsimp only
  have hC := mw_E hW (fr_tr f0 p3)
  obtain ⟨-, b2, b3⟩ := dry_b hs (r 0).toNat
  have hp : 2 ^ (r 0).toNat ≤ 2 ^ 6 := Nat.pow_le_pow_right (by omega) (by omega)
  have f1 : Fr frE N M := fr_mono (fr_tr f0 p3) fun o k z => by unfold frE; omega
  refine ok_bd (ref_year hC.1) ?_
  rw [w_id (by omega) (by omega)]
  by_cases c : r 6 < 999
  · rw [if_pos c, i10]
    refine ok_bind (ref_wait1 hC ⟨b2, by omega⟩ p2 (by omega)) ?_
    rintro ⟨v, M2⟩ ⟨q1, q2, q3⟩
    dsimp only at q1 q2 q3 ⊢
    exact ok_ret (Or.inl ⟨c, M2, rfl, q2, (q3 64 70 (by unfold frN; omega)).trans p1, fr_tr f1 (fr_mono q3 fun o k z => Or.inl z)⟩)
  · rw [if_neg c, i00]
    exact ok_ret (Or.inr ⟨c, M, rfl, hC, f1⟩)
theorem ref_genStep {n g i s : Int} (hW : MW N B r lw) (hB : B + 1 ≤ 1000000) (h : N 64 70 = s) (hs : 0 ≤ s ∧ s ≤ 1000002) (hl : 0 < r 0) (hi : 0 ≤ i ∧ i ≤ 100) (hin : i < n) (hg : 0 ≤ g ∧ g ≤ 100) :
    Ok (b_X12_generation_71 X N n g 1 i) (fun o => ((genG r lw s).1 6 < 999 ∧ ∃ M, o = .inl (M, n, g + (genG r lw s).2.1, 1, i + 1) ∧ MW M (B + 1) (waitS (genG r lw s).1 lw (dryK (genG r lw s).2.2 (r 0).toNat).2).1 lw ∧ M 64 70 = (dryK (genG r lw s).2.2 (r 0).toNat).1 ∧ Fr frE N M) ∨ (¬ (genG r lw s).1 6 < 999 ∧ ∃ M, o = .inl (M, n, g + (genG r lw s).2.1, 0, i + 1) ∧ MW M (B + 1) (genG r lw s).1 lw ∧ Fr frE N M)) := by
  have hV := hW.2.1
  have v0 := hV.1
  have v1 := hV.2.1
  obtain ⟨k0, k1⟩ := (genG_f (lw := lw) (s := s) hV hl).1
  have K : ∀ (M : NN) (g' : Int), g' = g + (genG r lw s).2.1 → MW M (B + 1) (genG r lw s).1 lw → M 64 70 = (genG r lw s).2.2 → Fr frE N M → Ok (f_X12_generation_l71_j130 X M n g' i) (fun o => ((genG r lw s).1 6 < 999 ∧ ∃ M, o = .inl (M, n, g + (genG r lw s).2.1, 1, i + 1) ∧ MW M (B + 1) (waitS (genG r lw s).1 lw (dryK (genG r lw s).2.2 (r 0).toNat).2).1 lw ∧ M 64 70 = (dryK (genG r lw s).2.2 (r 0).toNat).1 ∧ Fr frE N M) ∨ (¬ (genG r lw s).1 6 < 999 ∧ ∃ M, o = .inl (M, n, g + (genG r lw s).2.1, 0, i + 1) ∧ MW M (B + 1) (genG r lw s).1 lw ∧ Fr frE N M)) := by
    intro M g' hg' hC hM hf
    have q := ref_gen130 (X := X) (n := n) (g := g') (i := i) hC hM (genG_s (r := r) (lw := lw) hs) hi
    rw [k0, hg'] at q
    rw [hg']
    refine ok_mono q ?_
    rintro o (⟨c, M2, rfl, z1, z2, z3⟩ | ⟨c, M2, rfl, z1, z2⟩)
    · exact Or.inl ⟨c, M2, rfl, z1, z2, fr_tr hf z3⟩
    · exact Or.inr ⟨c, M2, rfl, z1, fr_tr hf z2⟩
  have eG : genG r lw s = if 0 < r 1 then ((giftG r lw (drS s % r 1) (drS (drS s) % r 0)).1, (giftG r lw (drS s % r 1) (drS (drS s) % r 0)).2, drS (drS s)) else (r, 0, s) := rfl
  unfold b_X12_generation_71 f_X12_generation_l71_j128
  rw [if_pos hin, i10, hW.1 1 (by omega)]
  by_cases c : 0 < r 1
  case neg =>
    rw [if_neg c] at eG ⊢
    exact K N g (by rw [eG, Int.add_zero]) (by rw [eG]; exact mw_B hW (by omega) hB) (by rw [eG]; exact h) fr_rfl
  rw [if_pos c] at eG ⊢
  have g0 := Int.emod_nonneg (drS s) (show r 1 ≠ 0 by omega)
  have g1 := Int.emod_lt_of_pos (drS s) c
  have t0 := Int.emod_nonneg (drS (drS s)) (show r 0 ≠ 0 by omega)
  have t1 := Int.emod_lt_of_pos (drS (drS s)) hl
  refine ok_bd (ref_draw h hs c (by omega)) ?_
  dsimp only
  rw [up_o (by omega), hW.1 0 (by omega)]
  refine ok_bd (ref_draw (s := drS s) up_s (drS_b s) hl (by omega)) ?_
  dsimp only
  generalize hM2 : m_up (m_up N 64 70 (drS s)) 64 70 (drS (drS s)) = M2
  have f2 : Fr (fun o k => o = 64 ∧ (k = 40 ∨ k = 70)) N M2 := by rw [← hM2]; exact fr_up (fr_up fr_rfl ⟨rfl, Or.inr rfl⟩) ⟨rfl, Or.inr rfl⟩
  have e2 : M2 64 70 = drS (drS s) := by rw [← hM2]; exact up_s
  have f2' : Fr frE N M2 := fr_mono f2 fun o k z => by unfold frE; omega
  have hC2 := mw_E hW f2
  refine ok_bind (ref_gift hC2 hB g0 g1 t0 t1) ?_
  rintro ⟨v, M3⟩ ⟨p1, p2⟩
  dsimp only at p1 p2 ⊢
  have f3 : Fr frE N M3 := fr_tr f2' (fr_mono p2 fun o k z => Or.inl z)
  have e3 : M3 64 70 = drS (drS s) := (p2 64 70 (by unfold frN; omega)).trans e2
  have hwb := worthS_b r lw (drS s % r 1) (rg r (drS s % r 1) 0) (drS (drS s) % r 0)
  rcases p1 with ⟨d, z, w⟩ | ⟨d, z, w⟩
  · rw [if_neg (by omega)]
    rw [giftG_t d] at eG
    rw [w_id (by omega) (by omega)]
    exact K M3 (g + 1) (by rw [eG]) (by rw [eG]; exact w) (by rw [eG]; exact e3) f3
  · rw [if_pos (by omega)]
    rw [giftG_f d] at eG
    rw [w_id (by omega) (by omega)]
    exact K M3 (g + 0) (by rw [eG]) (by rw [eG]; exact mw_B w (by omega) hB) (by rw [eG]; exact e3) f3
theorem ref_genAll {s n : Int} (hW : MW N B r lw) (hB0 : 0 ≤ B) (hB : B + 50 ≤ 1000000) (h : N 64 70 = s) (hs : 0 ≤ s ∧ s ≤ 1000000) (hl : 0 < r 0) (n0 : 1 ≤ n) (n1 : n ≤ 50) :
    Ok (lp (fun z : NN × Int × Int × Int × Int => b_X12_generation_71 X z.1 z.2.1 z.2.2.1 z.2.2.2.1 z.2.2.2.2) (N, n, 0, 1, 0)) (fun o => o.2 = (genK r lw s n.toNat).2.1 ∧ MW o.1 (B + 50) (genK r lw s n.toNat).1 lw ∧ GK r (genK r lw s n.toNat).1 ∧ 0 ≤ (genK r lw s n.toNat).2.1 ∧ Fr frE N o.1) := by
  have hs' : 0 ≤ s ∧ s ≤ 1000002 := by omega
  refine ok_up (fun i z => ∃ M, z = (M, n, (genK r lw s i.toNat).2.1, (if (genK r lw s i.toNat).2.2.2 = true then 0 else 1), i) ∧ MW M (B + i) (genK r lw s i.toNat).1 lw ∧ ((genK r lw s i.toNat).2.2.2 = false → M 64 70 = (genK r lw s i.toNat).2.2.1) ∧ GK r (genK r lw s i.toNat).1 ∧ (0 ≤ (genK r lw s i.toNat).2.1 ∧ (genK r lw s i.toNat).2.1 ≤ i) ∧ Fr frE N M) n (i0 := 0) ?_ ?_ (by omega) ⟨N, rfl, by rw [Int.add_zero]; exact hW, fun _ => h, ⟨rfl, rfl⟩, by show 0 ≤ (0 : Int) ∧ (0 : Int) ≤ 0; omega, fr_rfl⟩
  · rintro i z a0 a1 ⟨M, rfl, hC, hM, ⟨q0, q1⟩, hg, hf⟩
    have en : (i + 1).toNat = i.toNat + 1 := by omega
    dsimp only
    cases hE : (genK r lw s i.toNat).2.2.2 with
    | true =>
      rw [if_pos rfl]
      unfold b_X12_generation_71
      rw [if_pos a1, i00]
      have em := genK_mono (r := r) (lw := lw) (s := s) (m := i.toNat) hE n.toNat (by omega)
      rw [em]
      exact ok_ret ⟨rfl, mw_B hC (by omega) hB, ⟨q0, q1⟩, hg.1, hf⟩
    | false =>
      rw [if_neg (by simp)]
      have S := ref_genStep (X := X) (n := n) (g := (genK r lw s i.toNat).2.1) (i := i) hC (by omega) (hM hE) (genK_s hs' _) (by rw [q0]; exact hl) (by omega) a1 (by omega)
      have gf := genG_f (lw := lw) (s := (genK r lw s i.toNat).2.2.1) hC.2.1 (by rw [q0]; exact hl)
      rw [q0] at S
      refine ok_mono S ?_
      rintro o (⟨c, M2, rfl, z1, z2, z3⟩ | ⟨c, M2, rfl, z1, z2⟩)
      · have ek : genK r lw s (i + 1).toNat = ((waitS (genG (genK r lw s i.toNat).1 lw (genK r lw s i.toNat).2.2.1).1 lw (dryK (genG (genK r lw s i.toNat).1 lw (genK r lw s i.toNat).2.2.1).2.2 (r 0).toNat).2).1, (genK r lw s i.toNat).2.1 + (genG (genK r lw s i.toNat).1 lw (genK r lw s i.toNat).2.2.1).2.1, (dryK (genG (genK r lw s i.toNat).1 lw (genK r lw s i.toNat).2.2.1).2.2 (r 0).toNat).1, false) := by
          rw [en, genK, if_neg (by rw [hE]; simp), if_pos c]
        have gk : GK r (waitS (genG (genK r lw s i.toNat).1 lw (genK r lw s i.toNat).2.2.1).1 lw (dryK (genG (genK r lw s i.toNat).1 lw (genK r lw s i.toNat).2.2.1).2.2 (r 0).toNat).2).1 := by
          have hVg : Vr (B + i + 1) (genG (genK r lw s i.toNat).1 lw (genK r lw s i.toNat).2.2.1).1 := by
            unfold genG
            by_cases d : 0 < (genK r lw s i.toNat).1 1
            · rw [if_pos d]
              dsimp only
              have g0 := Int.emod_nonneg (drS (genK r lw s i.toNat).2.2.1) (show (genK r lw s i.toNat).1 1 ≠ 0 by omega)
              have g1 := Int.emod_lt_of_pos (drS (genK r lw s i.toNat).2.2.1) d
              have t0 := Int.emod_nonneg (drS (drS (genK r lw s i.toNat).2.2.1)) (show (genK r lw s i.toNat).1 0 ≠ 0 by omega)
              have t1 := Int.emod_lt_of_pos (drS (drS (genK r lw s i.toNat).2.2.1)) (show 0 < (genK r lw s i.toNat).1 0 by omega)
              by_cases e : canS (genK r lw s i.toNat).1 lw (drS (genK r lw s i.toNat).2.2.1 % (genK r lw s i.toNat).1 1) (drS (drS (genK r lw s i.toNat).2.2.1) % (genK r lw s i.toNat).1 0)
              · rw [giftG_t e]
                obtain ⟨o, -, p, -⟩ := ref_gift (X := X) hC (by omega) g0 g1 t0 t1
                rcases p with ⟨-, -, o2⟩ | ⟨o2, -⟩
                · exact o2.2.1
                · exact (o2 e).elim
              · rw [giftG_f e]
                exact vr_B hC.2.1 (by omega)
            · rw [if_neg d]
              exact vr_B hC.2.1 (by omega)
          have wv := wait_vr (lw := lw) (b := (dryK (genG (genK r lw s i.toNat).1 lw (genK r lw s i.toNat).2.2.1).2.2 (r 0).toNat).2) hVg (by omega)
          exact ⟨(wv.2.1.1 0 (by omega)).trans (gf.1.1.trans q0), (wv.2.1.1 1 (by omega)).trans (gf.1.2.trans q1)⟩
        generalize (waitS (genG (genK r lw s i.toNat).1 lw (genK r lw s i.toNat).2.2.1).1 lw (dryK (genG (genK r lw s i.toNat).1 lw (genK r lw s i.toNat).2.2.1).2.2 (r 0).toNat).2).1 = W at ek z1 gk
        refine ⟨M2, by rw [ek]; rfl, by rw [ek]; exact (by rw [show B + (i + 1) = B + i + 1 by omega]; exact z1), fun _ => by rw [ek]; exact z2, by rw [ek]; exact gk, by rw [ek]; dsimp only; omega, fr_tr hf z3⟩
      · have ek : genK r lw s (i + 1).toNat = ((genG (genK r lw s i.toNat).1 lw (genK r lw s i.toNat).2.2.1).1, (genK r lw s i.toNat).2.1 + (genG (genK r lw s i.toNat).1 lw (genK r lw s i.toNat).2.2.1).2.1, (dryK (genG (genK r lw s i.toNat).1 lw (genK r lw s i.toNat).2.2.1).2.2 (r 0).toNat).1, true) := by
          rw [en, genK, if_neg (by rw [hE]; simp), if_neg c]
        refine ⟨M2, by rw [ek]; rfl, by rw [ek]; exact (by rw [show B + (i + 1) = B + i + 1 by omega]; exact z1), fun z => (by rw [ek] at z; cases z), by rw [ek]; exact ⟨gf.1.1.trans q0, gf.1.2.trans q1⟩, by rw [ek]; dsimp only; omega, fr_tr hf z2⟩
  · rintro z ⟨M, rfl, hC, hM, hq, hg, hf⟩
    dsimp only
    unfold b_X12_generation_71
    rw [if_neg (by omega)]
    exact ok_ret ⟨rfl, mw_B hC (by omega) hB, hq, hg.1, hf⟩
/-- the table of what is drawn -/
theorem ref_table {g : Int} {r' : Nat → Int} {B' : Int} (hW : MW N B' r' lw) (h72 : N 64 72 = r' 0) : Ok (lp (fun z : NN × Int × Int => b_X12_generation_226 X z.1 z.2.1 z.2.2) (N, g, 0)) (fun o => o.2 = g ∧ (∀ l : Nat, (l : Int) < r' 0 → (∀ k : Nat, k < 6 → o.1 103 (7 * l + k) = rl r' l k) ∧ o.1 103 (7 * l + 6) = heldS r' l) ∧ Fr (fun o _ => o = 103) N o.1) := by
  have hV := hW.2.1
  have v0 := hV.1
  refine ok_up (fun i z => ∃ M, z = (M, g, i) ∧ (∀ l : Nat, (l : Int) < i → (∀ k : Nat, k < 6 → M 103 (7 * l + k) = rl r' l k) ∧ M 103 (7 * l + 6) = heldS r' l) ∧ Fr (fun o _ => o = 103) N M) (r' 0) (i0 := 0) ?_ ?_ v0.1 ⟨N, rfl, fun l hl => by omega, fr_rfl⟩
  · rintro i z a0 a1 ⟨M, rfl, hT, hf⟩
    obtain ⟨m, rfl⟩ := Int.eq_ofNat_of_zero_le a0
    have e72 : M 64 72 = r' 0 := (hf 64 72 (by omega)).trans h72
    have H : Ok (lp (fun z : NN × Int × Int × Int => b_X12_generation_238 X z.1 z.2.1 z.2.2.1 z.2.2.2) (M, g, (m : Int), 0)) (fun o => ∃ M2, o = (M2, g, (m : Int)) ∧ (∀ k : Nat, k < 6 → M2 103 (7 * m + k) = rl r' m k) ∧ Fr (fun o k => o = 103 ∧ 7 * m ≤ k ∧ k < 7 * m + 6) M M2) := by
      refine ok_up (fun k z => ∃ M2, z = (M2, g, (m : Int), k) ∧ (∀ j : Nat, (j : Int) < k → M2 103 (7 * m + j) = rl r' m j) ∧ Fr (fun o k => o = 103 ∧ 7 * m ≤ k ∧ k < 7 * m + 6) M M2) 6 (i0 := 0) ?_ ?_ (by omega) ⟨M, rfl, fun j hj => by omega, fr_rfl⟩
      · rintro k z b0 b1 ⟨M2, rfl, h2, f2⟩
        obtain ⟨j, rfl⟩ := Int.eq_ofNat_of_zero_le b0
        have hr2 : ∀ i, i < 270 → M2 66 i = r' i := fun i hi => by rw [f2 66 i (by omega), hf 66 i (by omega)]; exact hW.1 i hi
        dsimp only
        unfold b_X12_generation_238
        rw [if_pos b1]
        refine ok_bd (ref_ofLord hr2 (by omega) (by omega) (by omega) (by omega)) ?_
        simp (disch := omega) only [w_id, gdp]
        rw [show (7 * (m : Int) + (j : Int)).toNat = 7 * m + j by omega]
        refine ok_ret ⟨_, rfl, fun x hx => ?_, fr_up f2 ⟨rfl, by omega, by omega⟩⟩
        rw [up_a]
        by_cases e : x = j
        · rw [if_pos (by omega), e]
        · rw [if_neg (by omega)]; exact h2 x (by omega)
      · rintro z ⟨M2, rfl, h2, f2⟩
        dsimp only
        unfold b_X12_generation_238
        rw [if_neg (by omega)]
        exact ok_ret ⟨M2, rfl, fun k hk => h2 k (by omega), f2⟩
    dsimp only
    unfold b_X12_generation_226
    rw [e72, if_pos a1]
    refine ok_bind H ?_
    rintro o ⟨M2, rfl, h2, f2⟩
    dsimp only
    have hr2 : ∀ i, i < 270 → M2 66 i = r' i := fun i hi => by rw [f2 66 i (by omega), hf 66 i (by omega)]; exact hW.1 i hi
    refine ok_bd (ref_held hr2 hV) ?_
    simp (disch := omega) only [w_id, gdp]
    rw [show (7 * (m : Int) + 6).toNat = 7 * m + 6 by omega]
    refine ok_ret ⟨_, rfl, fun l hl => ⟨fun k hk => ?_, ?_⟩, fr_up (fr_tr hf (fr_mono f2 fun o k z => z.1)) rfl⟩
    · rw [up_k (by omega)]
      by_cases e : l = m
      · rw [e]; exact h2 k hk
      · rw [f2 103 _ (by omega)]; exact (hT l (by omega)).1 k hk
    · rw [up_a]
      by_cases e : l = m
      · rw [if_pos (by omega), e]
      · rw [if_neg (by omega), f2 103 _ (by omega)]; exact (hT l (by omega)).2
  · rintro z ⟨M, rfl, hT, hf⟩
    have e72 : M 64 72 = r' 0 := (hf 64 72 (by omega)).trans h72
    dsimp only
    unfold b_X12_generation_226
    rw [e72, if_neg (by omega)]
    exact ok_ret ⟨rfl, hT, hf⟩
end GM
