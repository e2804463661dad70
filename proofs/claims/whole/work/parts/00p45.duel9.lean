/-! duel: the reference's play, and the call -/
section DU10
variable {X : MX} {N : NN} {H : Nat → List Nat} {b : Nat → Nat → Bool} {W C : Nat → Nat → Int}
theorem or0 {S : Nat} (h : S < 4096) : m_or (S : Int) 0 = (S : Int) := by
  have := or_id (a := S) (b := 0) (by omega) (by omega)
  rw [Nat.or_zero] at this
  exact this
theorem ref_playOf (h : DT N H b W C) : Ok (f_X12_playOf X N) (fun o => o = plG (fL H b) W C 13 0 (-1) (N 88 0) (N 88 1)) := by
  have h' := h
  obtain ⟨hB, hD, hH, hG, hT⟩ := h'
  have hr0 : rG (fL H b) W (-1) ≤ 12 := by
    have x0 := cP_len (fun g => decide (-1 < W 0 g)) (fL H b 0)
    have x1 := cP_len (fun g => decide (-1 < W 1 g)) (fL H b 1)
    have y0 := (hB 0 (by omega)).1
    have y1 := (hB 1 (by omega)).1
    unfold rG
    omega
  unfold f_X12_playOf
  generalize hP0 : plG (fL H b) W C 13 0 (-1) (N 88 0) (N 88 1) = P0
  have Hl : Ok (lp (fun s => b_X12_playOf_6 X N s.1 s.2.1 s.2.2) (0, 0, 1)) (fun o => o = P0) := by
    refine ok_lp (fun z => (z.2.2 = 0 ∧ z.2.1 = P0) ∨ ∃ (S s n : Nat) (a m t : Int), z = ((S : Int), (n : Int), 1) ∧ Pos (N 85) (N 86) (N 88) S s a m t ∧ rG (fL H b) W a + n ≤ 12 ∧ P0 = (n : Int) + plG (fL H b) W C (13 - n) s a m t) (fun z => if z.2.2 = 0 then 0 else (14 - z.2.1).toNat) ?_ (Or.inr ⟨0, 0, 0, -1, N 88 0, N 88 1, rfl, pos_0 hG, by omega, by rw [← hP0]; show _ = 0 + _; rw [Int.zero_add]⟩)
    rintro ⟨S', n', fl⟩ (⟨e, e'⟩ | ⟨S, s, n, a, m, t, e, hP, hr, hp⟩)
    · dsimp only at e e' ⊢
      unfold b_X12_playOf_6
      rw [if_pos e]
      exact ok_ret e'
    · cases e
      have hP' := hP
      obtain ⟨h1, h2, h3, h4, h5, h6, h7, h8, h9⟩ := hP'
      have hb := lsM_b (N 85) S 12
      rw [show 13 - n = (12 - n) + 1 by omega] at hp
      have fs1 : FS (H s) s ((fL H b s).find? (fun g => decide (a < W s g) && wB (fL H b) W C 12 s g m t)) (fiK (fun i => caM (N 84) (N 85) S (lsM (N 85) S 12) (6 * s + i) && woM (N 86) (N 87) (glM (N 88 (1 - s)) (N 86) S ((1 - s : Nat) : Int) 12) S (6 * s + i)) (6 * s) 6) := by
        rw [h7, show fL H b s = (H s).filter (fun g => !b s g) from rfl, find_flt]
        exact fi_fs (fun i g hg => wo_id h hP hg (by omega)) (fun i l1 l2 => by rw [no_id (hD s h2) l1 l2, Bool.false_and]) (hH s h2)
      have fs2 : FS (H s) s ((fL H b s).find? (fun g => decide (a < W s g))) (fiK (fun i => caM (N 84) (N 85) S (lsM (N 85) S 12) (6 * s + i)) (6 * s) 6) := by
        rw [show fL H b s = (H s).filter (fun g => !b s g) from rfl, find_flt]
        exact fi_fs (fun i g hg => (ca_id hB hD hH hP hg).1) (fun i l1 l2 => no_id (hD s h2) l1 l2) (hH s h2)
      have key : Ok (f_X12_playOf_l6_j34 X N (S : Int) (n : Int) (lsM (N 85) S 12) (s : Int)) (fun o => ∃ z, o = .inl z ∧ ((z.2.2 = 0 ∧ z.2.1 = P0) ∨ (z.2.1 = (n : Int) + 1 ∧ ∃ (S s n : Nat) (a m t : Int), z = ((S : Int), (n : Int), 1) ∧ Pos (N 85) (N 86) (N 88) S s a m t ∧ rG (fL H b) W a + n ≤ 12 ∧ P0 = (n : Int) + plG (fL H b) W C (13 - n) s a m t))) := by
        unfold f_X12_playOf_l6_j34
        rw [w_id (x := 6 * (s : Int)) (by omega) (by omega), w_id (x := 6 * (s : Int) + 5) (by omega) (by omega)]
        refine ok_bind (ref_plIn h1 h2 hb.1 hb.2) ?_
        rintro o rfl
        dsimp only
        generalize fiK (fun i => caM (N 84) (N 85) S (lsM (N 85) S 12) (6 * s + i) && woM (N 86) (N 87) (glM (N 88 (1 - s)) (N 86) S ((1 - s : Nat) : Int) 12) S (6 * s + i)) (6 * s) 6 = x1 at fs1 ⊢
        generalize fiK (fun i => caM (N 84) (N 85) S (lsM (N 85) S 12) (6 * s + i)) (6 * s) 6 = x2 at fs2 ⊢
        have K : ∀ y, FS (H s) s (chG (fL H b) W C s a m t) y → Ok (f_X12_playOf_l6_j133 X N (S : Int) (n : Int) (s : Int) y) (fun o => ∃ z, o = .inl z ∧ ((z.2.2 = 0 ∧ z.2.1 = P0) ∨ (z.2.1 = (n : Int) + 1 ∧ ∃ (S s n : Nat) (a m t : Int), z = ((S : Int), (n : Int), 1) ∧ Pos (N 85) (N 86) (N 88) S s a m t ∧ rG (fL H b) W a + n ≤ 12 ∧ P0 = (n : Int) + plG (fL H b) W C (13 - n) s a m t))) := by
          rintro y (⟨rfl, q⟩ | ⟨i, g, rfl, u1, u2⟩)
          · unfold f_X12_playOf_l6_j133 f_X12_playOf_l6_j164 f_X12_playOf_l6_j165 f_X12_playOf_l6_j178 f_X12_playOf_l6_j195
            rw [if_pos rfl, if_pos rfl, if_pos rfl]
            refine ok_ret ⟨_, rfl, Or.inl ⟨rfl, ?_⟩⟩
            dsimp only
            rw [Int.add_zero, w_id (by omega) (by omega), hp, pl_n q, Int.add_zero]
          · obtain ⟨c1, c2⟩ := ch_m u2
            have hrl := rG_lt h2 c1 c2
            have hi := get_lt u1
            have hl := hH s h2
            have hd := (hD s h2).1 i g u1
            have bg := (hB s h2).2 g
            have k2 := (ca_id hB hD hH hP u1).2 c2
            rw [pl_s u2] at hp
            have nm : ¬ (6 * (s : Int) + (i : Int)) = -1 := by omega
            have hp2 : 2 ^ (6 * s + i) < 2 ^ 12 := Nat.pow_lt_pow_right (by omega) (by omega)
            unfold f_X12_playOf_l6_j133 f_X12_playOf_l6_j164 f_X12_playOf_l6_j165 f_X12_playOf_l6_j178 f_X12_playOf_l6_j195
            rw [if_neg nm, if_neg nm, if_neg nm, w_id (x := 1 - (s : Int)) (by omega) (by omega), show (1 : Int) - (s : Int) = ((1 - s : Nat) : Int) by omega, ref_grainLeft h1 (by omega), h7, Option.bind_some, gdp (by omega), show (6 * (s : Int) + (i : Int)).toNat = 6 * s + i by omega, hd.2.2, shl1_id (by omega) (by omega), show (6 * (s : Int) + (i : Int)).toNat = 6 * s + i by omega, or_id (by omega) (by omega), w_id (x := (n : Int) + 1) (by omega) (by omega)]
            by_cases c : t - C s g < 0
            · rw [if_pos c] at hp
              rw [if_pos (show t < C s g by omega)]
              try rw [if_neg nm]
              exact ok_ret ⟨_, rfl, Or.inl ⟨rfl, hp.symm⟩⟩
            · rw [if_neg c] at hp
              rw [if_neg (show ¬ t < C s g by omega)]
              try rw [if_neg nm]
              have hq := pos_s (j := 6 * s + i) hG hP (by omega) (by omega) k2 (by rw [hd.2.1]; exact c2) (by rw [hd.2.2]; omega) (by rw [hd.2.2]; omega)
              rw [hd.2.1, hd.2.2] at hq
              refine ok_ret ⟨_, rfl, Or.inr ⟨rfl, _, _, n + 1, _, _, _, rfl, hq, by omega, ?_⟩⟩
              rw [show 13 - (n + 1) = 12 - n by omega, hp]
              omega
        by_cases c : x1 = -1
        · rw [if_pos c]
          refine K x2 ?_
          rcases fs1 with ⟨_, q⟩ | ⟨i, g, q, _⟩
          · unfold chG
            rw [q, Option.none_or]
            exact fs2
          · omega
        · rw [if_neg c]
          refine K x1 ?_
          rcases fs1 with ⟨q, _⟩ | ⟨i, g, q, q1, q2⟩
          · exact absurd q c
          · refine Or.inr ⟨i, g, q, q1, ?_⟩
            unfold chG
            rw [q2]
            rfl
      have fin : Ok (f_X12_playOf_l6_j34 X N (S : Int) (n : Int) (lsM (N 85) S 12) (s : Int)) (fun o => match o with
        | .inl z => ((z.2.2 = 0 ∧ z.2.1 = P0) ∨ ∃ (S s n : Nat) (a m t : Int), z = ((S : Int), (n : Int), 1) ∧ Pos (N 85) (N 86) (N 88) S s a m t ∧ rG (fL H b) W a + n ≤ 12 ∧ P0 = (n : Int) + plG (fL H b) W C (13 - n) s a m t) ∧ (if z.2.2 = 0 then 0 else (14 - z.2.1).toNat) < (14 - (n : Int)).toNat
        | .inr o => o = P0) := by
        refine ok_mono key ?_
        rintro o ⟨⟨z1, z2, z3⟩, rfl, (⟨e1, e2⟩ | ⟨e1, e2⟩)⟩
        · dsimp only at e1 e2 ⊢
          exact ⟨Or.inl ⟨e1, e2⟩, by rw [if_pos e1]; omega⟩
        · refine ⟨Or.inr e2, ?_⟩
          dsimp only at e1 ⊢
          rw [e1]
          split <;> omega
      dsimp only
      unfold b_X12_playOf_6
      rw [if_neg (show ¬ (1 : Int) = 0 by omega), if_neg (show ¬ (1 : Int) = 0 by omega), ref_lastOf h1, Option.bind_some]
      unfold sdM at h3
      generalize lsM (N 85) S 12 = l at *
      by_cases c : l = -1
      · rw [if_pos c] at h3
        rw [if_pos c]
        subst h3
        exact ok_mono fin (fun o ho => by cases o <;> exact ho)
      · rw [if_neg c] at h3
        rw [if_neg c, div_id (by omega) (by omega) (by omega) (by omega), w_id (by omega) (by omega), show 1 - l / 6 = (s : Int) by omega]
        exact ok_mono fin (fun o ho => by cases o <;> exact ho)
  refine ok_bind Hl ?_
  rintro o rfl
  exact ok_ret rfl
end DU10
