/-! duel: the reference's table of sets -/
theorem fx_c {id w c G T T' : Nat → Int} {S : Nat} (h : ∀ j : Nat, j < 12 → bit S j = 0 → T' (S ||| 2 ^ j) = T (S ||| 2 ^ j)) : fxM id w c G T' S = fxM id w c G T S := by
  have hb := lsM_b w S 12
  have hs := sdM_b hb.1 hb.2
  unfold fxM
  generalize lsM w S 12 = l at *
  generalize sdM l = s at *
  refine exK_c 6 fun i hi => ?_
  by_cases c0 : bit S (6 * s + i : Nat) = 0
  · unfold woM
    rw [h (6 * s + i) (by omega) c0]
  · unfold caM
    rw [decide_eq_false c0, Bool.false_and, Bool.and_false, Bool.false_and, Bool.false_and]
section DU7
variable {X : MX} {N : NN}
theorem ref_fwIn {S s : Nat} {l : Int} (hS : S < 4096) (hs : s < 2) (h0 : -1 ≤ l) (h1 : l < 12) :
    Ok (lp (fun s => b_X12_findWins_39 X s.1 s.2.1 s.2.2.1 s.2.2.2.1 s.2.2.2.2.1 s.2.2.2.2.2) (N, (S : Int), l, (s : Int), 0, 6 * (s : Int))) (fun o => o = (N, (S : Int), if exK (fun i => caM (N 84) (N 85) S l (6 * s + i) && woM (N 86) (N 87) (glM (N 88 (1 - s)) (N 86) S ((1 - s : Nat) : Int) 12) S (6 * s + i)) 6 then 1 else 0)) := by
  obtain ⟨q, hq⟩ : ∃ q : Nat → Bool, ∀ i, q i = (caM (N 84) (N 85) S l (6 * s + i) && woM (N 86) (N 87) (glM (N 88 (1 - s)) (N 86) S ((1 - s : Nat) : Int) 12) S (6 * s + i)) := ⟨_, fun _ => rfl⟩
  rw [← exK_c (p := q) 6 (fun i _ => hq i)]
  refine ok_up (fun i z => z = (N, (S : Int), l, (s : Int), (if exK q i.toNat then 1 else 0), 6 * (s : Int) + i)) 6 (i0 := 0) ?_ ?_ (by omega) (by rw [Int.add_zero]; rfl)
  · rintro i z a0 a1 rfl
    obtain ⟨k, rfl⟩ := Int.eq_ofNat_of_zero_le a0
    rw [Int.toNat_natCast, show ((k : Int) + 1).toNat = k + 1 by omega]
    have e1 : exK q (k + 1) = (exK q k || q k) := rfl
    dsimp only
    unfold b_X12_findWins_39 f_X12_findWins_l39_j83 f_X12_findWins_l39_j84
    rw [w_id (x := 6 * (s : Int)) (by omega) (by omega), w_id (x := 6 * (s : Int) + 6) (by omega) (by omega), if_pos (show 6 * (s : Int) + (k : Int) < 6 * (s : Int) + 6 by omega), w_id (x := 6 * (s : Int) + (k : Int) + 1) (by omega) (by omega), show 6 * (s : Int) + (k : Int) + 1 = 6 * (s : Int) + ((k : Int) + 1) by omega, show 6 * (s : Int) + (k : Int) = ((6 * s + k : Nat) : Int) by omega]
    cases hk : exK q k with
    | true =>
      rw [if_pos rfl, i10]
      refine ok_ret ?_
      dsimp only
      rw [exK_m hk 6 (by omega), if_pos rfl]
    | false =>
      rw [if_neg (show ¬ false = true by decide), i00, ref_canGive hS (by omega) (by omega) h0 h1, Option.bind_some]
      rw [hk, Bool.false_or, hq k] at e1
      cases hc : caM (N 84) (N 85) S l (6 * s + k) with
      | false =>
        rw [if_neg (show ¬ false = true by decide), i00]
        refine ok_ret ?_
        dsimp only
        rw [e1, hc, Bool.false_and, if_neg (show ¬ false = true by decide)]
      | true =>
        rw [if_pos rfl, i10, ref_isWon hS (by omega) hs, Option.bind_some]
        rw [hc, Bool.true_and] at e1
        cases hw : woM (N 86) (N 87) (glM (N 88 (1 - s)) (N 86) S ((1 - s : Nat) : Int) 12) S (6 * s + k) with
        | false =>
          rw [if_neg (show ¬ false = true by decide), i00]
          refine ok_ret ?_
          dsimp only
          rw [e1, hw, if_neg (show ¬ false = true by decide)]
        | true =>
          rw [if_pos rfl, i10]
          refine ok_ret ?_
          dsimp only
          rw [e1, hw, if_pos rfl]
  · rintro z rfl
    dsimp only
    unfold b_X12_findWins_39
    rw [w_id (x := 6 * (s : Int)) (by omega) (by omega), w_id (x := 6 * (s : Int) + 6) (by omega) (by omega), if_neg (by omega)]
    exact ok_ret rfl
theorem ref_findWins : Ok (f_X12_findWins X N) (fun M => Fr (fun o _ => o = 87) N M ∧ ∀ S, S < 4096 → M 87 S = if fxM (N 84) (N 85) (N 86) (N 88) (M 87) S then 1 else 0) := by
  unfold f_X12_findWins
  have H : Ok (lp (fun s => b_X12_findWins_4 X s.1 s.2) (N, 4095)) (fun M => Fr (fun o _ => o = 87) N M ∧ ∀ S, S < 4096 → M 87 S = if fxM (N 84) (N 85) (N 86) (N 88) (M 87) S then 1 else 0) := by
    refine ok_up (fun i z => ∃ M, z = (M, 4095 - i) ∧ Fr (fun o _ => o = 87) N M ∧ ∀ S : Nat, 4095 - i < (S : Int) → S < 4096 → M 87 S = if fxM (N 84) (N 85) (N 86) (N 88) (M 87) S then 1 else 0) 4096 (i0 := 0) ?_ ?_ (by omega) ⟨N, rfl, fr_rfl, fun S h h' => by omega⟩
    · rintro i z a0 a1 ⟨M, rfl, hf, hT⟩
      obtain ⟨S, hS⟩ := Int.eq_ofNat_of_zero_le (show 0 ≤ 4095 - i by omega)
      have hS4 : S < 4096 := by omega
      have hb := lsM_b (M 85) S 12
      have hs := sdM_b hb.1 hb.2
      have e84 : M 84 = N 84 := funext fun k => hf 84 k (by omega)
      have e85 : M 85 = N 85 := funext fun k => hf 85 k (by omega)
      have e86 : M 86 = N 86 := funext fun k => hf 86 k (by omega)
      have e88 : M 88 = N 88 := funext fun k => hf 88 k (by omega)
      have efx : fxM (N 84) (N 85) (N 86) (N 88) (M 87) S = exK (fun i => caM (M 84) (M 85) S (lsM (M 85) S 12) (6 * sdM (lsM (M 85) S 12) + i) && woM (M 86) (M 87) (glM (M 88 (1 - sdM (lsM (M 85) S 12))) (M 86) S ((1 - sdM (lsM (M 85) S 12) : Nat) : Int) 12) S (6 * sdM (lsM (M 85) S 12) + i)) 6 := by
        rw [e84, e85, e86, e88]; rfl
      have key : Ok (f_X12_findWins_l4_j29 X M (S : Int) (lsM (M 85) S 12) (sdM (lsM (M 85) S 12) : Int)) (fun o => ∃ M', o = .inl (M', 4095 - (i + 1)) ∧ Fr (fun o _ => o = 87) N M' ∧ ∀ S : Nat, 4095 - (i + 1) < (S : Int) → S < 4096 → M' 87 S = if fxM (N 84) (N 85) (N 86) (N 88) (M' 87) S then 1 else 0) := by
        unfold f_X12_findWins_l4_j29
        rw [w_id (by omega) (by omega)]
        refine ok_bind (ref_fwIn hS4 hs hb.1 hb.2) ?_
        rintro o rfl
        rw [← efx]
        dsimp only
        rw [gdp (by omega), gdp (by split <;> omega), Int.toNat_natCast, w_id (by omega) (by omega)]
        refine ok_ret ⟨_, by rw [show 4095 - (i + 1) = (S : Int) + -1 by omega], fr_up hf rfl, fun S' l1 l2 => ?_⟩
        by_cases e : S' = S
        · subst e
          rw [up_s, fx_c (T := M 87) (fun j hj hb0 => up_k (by have := or_ne hb0; omega))]
        · rw [up_k e, fx_c (T := M 87) (fun j hj hb0 => up_k (by have := or_ge S' j; omega))]
          exact hT S' (by omega) l2
      dsimp only
      unfold b_X12_findWins_4
      rw [hS, if_neg (by omega), ref_lastOf hS4, Option.bind_some]
      generalize lsM (M 85) S 12 = l at *
      unfold sdM at key
      by_cases c : l = -1
      · rw [if_pos c]
        rw [if_pos c] at key
        exact ok_mono key (by rintro o ⟨M', rfl, g⟩; exact ⟨M', rfl, g⟩)
      · rw [if_neg c, div_id (by omega) (by omega) (by omega) (by omega), w_id (by omega) (by omega)]
        rw [if_neg c, Int.toNat_of_nonneg (by omega)] at key
        exact ok_mono key (by rintro o ⟨M', rfl, g⟩; exact ⟨M', rfl, g⟩)
    · rintro z ⟨M, rfl, hf, hT⟩
      dsimp only
      unfold b_X12_findWins_4
      rw [if_pos (by omega)]
      exact ok_ret ⟨hf, fun S h => hT S (by omega) h⟩
  refine ok_bind H ?_
  intro M h
  exact ok_ret h
end DU7
