/-! orders are run: the reference's, all of it -/
section ON
variable {X : MX} {N : NN} {B : Int} {lw : Nat → Law}
theorem r_rep {c : OCl} {z i T : Nat} {had : Int} (hi : i < 12) (hz : z ≤ 400) (hT : T ≤ 20) (hcT : c.2.1 = (T : Int)) (hB : B + 300 ≤ 1000000) : ∀ (k m : Nat) (s : OS) (N : NN), m + k = T → ROC 32 N i c z → (∀ k, k < z → 0 ≤ N 75 k ∧ N 75 k ≤ 30) → s.2.2.1 + k ≤ 280 → MSo B lw N s → Ok (lp (fun s => b_X12_orders_150 X s.1 s.2.1 s.2.2.1 s.2.2.2) (N, had, (i : Int), (m : Int))) (fun o => (repO lw c k s = none ∧ ∃ M, o = .inr (M, had, (i : Int)) ∧ Fr frRm N M ∧ M 64 20 = 0) ∨ ∃ s' M, repO lw c k s = some s' ∧ o = .inl (M, had, (i : Int)) ∧ Fr frRm N M ∧ MSo B lw M s' ∧ s'.2.2.1 ≤ s.2.2.1 + k)
  | 0, m, s, N, hm, hc, hcd, hd, h => by
    have e7 : N 102 (8 * i + 7) = (T : Int) := hc.2.2.1.trans hcT
    rw [lp_end (t := .inl (N, had, (i : Int))) (by dsimp only; unfold b_X12_orders_150; rw [w_id (x := 8 * (i : Int)) (by omega) (by omega), w_id (x := 8 * (i : Int) + 7) (by omega) (by omega), if_pos (by omega), show (8 * (i : Int) + 7).toNat = 8 * i + 7 by omega, e7, if_neg (by omega)])]
    exact ok_ret (Or.inr ⟨s, N, rfl, rfl, fr_rfl, h, by omega⟩)
  | k + 1, m, s, N, hm, hc, hcd, hd, h => by
    have e7 : N 102 (8 * i + 7) = (T : Int) := hc.2.2.1.trans hcT
    obtain ⟨⟨v, M⟩, e, f, m20, R⟩ := r_step (X := X) (N := N) (lw := lw) (s := s) (c := c) hi hz hc hcd hB (by omega) h
    dsimp only at f m20 R
    rcases R with ⟨e0, v0⟩ | ⟨s', e1, v1, S1, d1⟩
    · subst v0
      have Bd : b_X12_orders_150 X N had (i : Int) (m : Int) = some (.inr (.inr (M, had, (i : Int)))) := by
        unfold b_X12_orders_150
        rw [w_id (x := 8 * (i : Int)) (by omega) (by omega), w_id (x := 8 * (i : Int) + 7) (by omega) (by omega), if_pos (by omega), show (8 * (i : Int) + 7).toNat = 8 * i + 7 by omega, e7, if_pos (by omega), e, Option.bind_some, if_pos (show (-3 : Int) < 0 by omega)]
      rw [lp_end (f := fun s => b_X12_orders_150 X s.1 s.2.1 s.2.2.1 s.2.2.2) (s := (N, had, (i : Int), (m : Int))) Bd]
      exact ok_ret (Or.inl ⟨by rw [repO, e0], M, rfl, f, m20⟩)
    · subst v1
      have Bd : b_X12_orders_150 X N had (i : Int) (m : Int) = some (.inl (M, had, (i : Int), ((m + 1 : Nat) : Int))) := by
        unfold b_X12_orders_150
        rw [w_id (x := 8 * (i : Int)) (by omega) (by omega), w_id (x := 8 * (i : Int) + 7) (by omega) (by omega), if_pos (by omega), show (8 * (i : Int) + 7).toNat = 8 * i + 7 by omega, e7, if_pos (by omega), e, Option.bind_some, if_neg (show ¬ (0 : Int) < 0 by omega), w_id (x := (m : Int) + 1) (by omega) (by omega)]
        rfl
      rw [lp_next (f := fun s => b_X12_orders_150 X s.1 s.2.1 s.2.2.1 s.2.2.2) (s := (N, had, (i : Int), (m : Int))) Bd]
      have z7 : ∀ o, (o = 75 ∨ o = 76 ∨ o = 102) → ∀ k, M o k = N o k := fun o q k => f o k (by unfold frRm frG frN; omega)
      have ih := r_rep (had := had) hi hz hT hcT hB k (m + 1) s' M (by omega) (roc_mono hc (Nat.le_refl _) (fun j _ => z7 102 (by omega) j) (fun j _ => ⟨z7 75 (by omega) j, z7 76 (by omega) j⟩)) (fun k hk => by rw [z7 75 (by omega) k]; exact hcd k hk) (by omega) S1
      refine ok_mono ih ?_
      rintro o (⟨r0, M', ro, rf, r2⟩ | ⟨s2, M', r1, ro, rf, rS, rd⟩)
      · exact Or.inl ⟨by rw [repO, e1]; exact r0, M', ro, fr_tr f rf, r2⟩
      · exact Or.inr ⟨s2, M', by rw [repO, e1]; exact r1, ro, fr_tr f rf, rS, by omega⟩
theorem r_runL {L : List OCl} {z : Nat} {had : Int} (hz : z ≤ 400) (hL : L.length ≤ 12) (hB : B + 300 ≤ 1000000) : ∀ (f i : Nat) (s : OS) (N : NN), i + f = 13 → i ≤ L.length → N 64 21 = (L.length : Int) → (∀ j c, L[j]? = some c → ROC 32 N j c z) → (∀ k, k < z → 0 ≤ N 75 k ∧ N 75 k ≤ 30) → s.2.2.1 ≤ 20 * (i : Int) → MSo B lw N s → Ok (lp (fun s => b_X12_orders_140 X s.1 s.2.1 s.2.2) (N, had, (i : Int))) (fun o => (∃ (j : Nat) (M : NN), runO lw L f i s = .inl j ∧ o = .inr (M, had, (j : Int)) ∧ Fr frRm N M ∧ M 64 20 = 0) ∨ ∃ s' M, runO lw L f i s = .inr s' ∧ o = .inl M ∧ Fr frRm N M ∧ MSo B lw M s' ∧ s'.2.2.1 ≤ 240)
  | 0, i, s, N, hi, hl, h4, hc, hcd, hd, h => by omega
  | f + 1, i, s, N, hi, hl, h4, hc, hcd, hd, h => by
    cases hg : L[i]? with
    | none =>
      have il : i = L.length := by
        rcases Nat.lt_or_ge i L.length with y | y
        · rw [List.getElem?_eq_getElem y] at hg; cases hg
        · omega
      have Bd : b_X12_orders_140 X N had (i : Int) = some (.inr (.inl N)) := by
        unfold b_X12_orders_140
        rw [h4, if_neg (by omega)]
      rw [lp_end (f := fun s => b_X12_orders_140 X s.1 s.2.1 s.2.2) (s := (N, had, (i : Int))) Bd]
      exact ok_ret (Or.inr ⟨s, N, by rw [runO, hg], rfl, fr_rfl, h, by omega⟩)
    | some c =>
      have il := olget_lt hg
      have c0 := hc i c hg
      obtain ⟨_, _, _, cT2, _, _⟩ := id c0
      obtain ⟨T, hT'⟩ := Int.eq_ofNat_of_zero_le (show 0 ≤ c.2.1 by omega)
      obtain ⟨o, eo, R⟩ := r_rep (X := X) (lw := lw) (B := B) (c := c) (T := T) (had := had) (show i < 12 by omega) hz (by omega) hT' hB T 0 s N (by omega) c0 hcd (by omega) h
      rw [show ((0 : Nat) : Int) = 0 from rfl] at eo
      have tT : c.2.1.toNat = T := by omega
      rcases R with ⟨r0, M, rfl, rf, r20⟩ | ⟨s', M, r1, rfl, rf, rS, rd⟩
      · have Bd : b_X12_orders_140 X N had (i : Int) = some (.inr (.inr (M, had, (i : Int)))) := by
          unfold b_X12_orders_140
          rw [h4, if_pos (by omega), eo, Option.bind_some]
        rw [lp_end (f := fun s => b_X12_orders_140 X s.1 s.2.1 s.2.2) (s := (N, had, (i : Int))) Bd]
        exact ok_ret (Or.inl ⟨i, M, by rw [runO, hg]; dsimp only; rw [tT, r0], rfl, rf, r20⟩)
      · have Bd : b_X12_orders_140 X N had (i : Int) = some (.inl (M, had, ((i + 1 : Nat) : Int))) := by
          unfold b_X12_orders_140
          rw [h4, if_pos (by omega), eo, Option.bind_some]
          dsimp only
          rw [w_id (by omega) (by omega)]
          rfl
        rw [lp_next (f := fun s => b_X12_orders_140 X s.1 s.2.1 s.2.2) (s := (N, had, (i : Int))) Bd]
        have zz : ∀ o, (o = 75 ∨ o = 76 ∨ o = 102) → ∀ k, M o k = N o k := fun o q k => rf o k (by unfold frRm frG frN; omega)
        have ih := r_runL (had := had) hz hL hB f (i + 1) s' M (by omega) (by omega) ((rf 64 21 (by unfold frRm frG frN; omega)).trans h4) (fun j c' hj => roc_mono (hc j c' hj) (Nat.le_refl _) (fun k _ => zz 102 (by omega) k) (fun k _ => ⟨zz 75 (by omega) k, zz 76 (by omega) k⟩)) (fun k hk => by rw [zz 75 (by omega) k]; exact hcd k hk) (by omega) rS
        have er : runO lw L (f + 1) i s = runO lw L f (i + 1) s' := by
          rw [runO, hg]
          dsimp only
          rw [tT, r1]
        rw [er]
        refine ok_mono ih ?_
        rintro o (⟨j, M', a1, a2, a3, a4⟩ | ⟨s2, M', a1, a2, a3, a4⟩)
        · exact Or.inl ⟨j, M', a1, a2, fr_tr rf a3, a4⟩
        · exact Or.inr ⟨s2, M', a1, a2, fr_tr rf a3, a4⟩
/-! copies -/
theorem cp77 {a : Int} : Ok (lp (fun s => b_X12_orders_77 X s.1 s.2.1 s.2.2) (N, a, 0)) (fun o => ∃ M, o = (M, a) ∧ (∀ j : Nat, j < 4320 → M 71 j = N 69 j) ∧ Fr (fun o k => o = 71) N M) := by
  refine ok_up (fun i s => ∃ M, s = (M, a, i) ∧ (∀ j : Nat, (j : Int) < i → M 71 j = N 69 j) ∧ Fr (fun o k => o = 71) N M) 4320 (i0 := 0) ?_ ?_ (by omega) ⟨N, rfl, fun j hj => by omega, fr_rfl⟩
  · rintro i s a0 a1 ⟨M, rfl, hM, hf⟩
    obtain ⟨m, rfl⟩ := Int.eq_ofNat_of_zero_le a0
    dsimp only
    unfold b_X12_orders_77
    rw [if_pos a1, if_pos (by omega), if_pos (by omega), w_id (x := (m : Int) + 1) (by omega) (by omega), Int.toNat_natCast]
    refine ok_ret ⟨_, rfl, fun j hj => ?_, fr_up hf rfl⟩
    rw [up_a]
    by_cases e : j = m
    · rw [if_pos e, e]; exact hf 69 m (by omega)
    · rw [if_neg e]; exact hM j (by omega)
  · rintro s ⟨M, rfl, hM, hf⟩
    dsimp only
    unfold b_X12_orders_77
    rw [if_neg (by omega)]
    exact ok_ret ⟨M, rfl, fun j hj => hM j (by omega), hf⟩
theorem cp104 {a : Int} : Ok (lp (fun s => b_X12_orders_104 X s.1 s.2.1 s.2.2) (N, a, 0)) (fun o => ∃ M, o = (M, a) ∧ (∀ j : Nat, j < 16 → M 72 j = N 70 j) ∧ Fr (fun o k => o = 72) N M) := by
  refine ok_up (fun i s => ∃ M, s = (M, a, i) ∧ (∀ j : Nat, (j : Int) < i → M 72 j = N 70 j) ∧ Fr (fun o k => o = 72) N M) 16 (i0 := 0) ?_ ?_ (by omega) ⟨N, rfl, fun j hj => by omega, fr_rfl⟩
  · rintro i s a0 a1 ⟨M, rfl, hM, hf⟩
    obtain ⟨m, rfl⟩ := Int.eq_ofNat_of_zero_le a0
    dsimp only
    unfold b_X12_orders_104
    rw [if_pos a1, if_pos (by omega), if_pos (by omega), w_id (x := (m : Int) + 1) (by omega) (by omega), Int.toNat_natCast]
    refine ok_ret ⟨_, rfl, fun j hj => ?_, fr_up hf rfl⟩
    rw [up_a]
    by_cases e : j = m
    · rw [if_pos e, e]; exact hf 70 m (by omega)
    · rw [if_neg e]; exact hM j (by omega)
  · rintro s ⟨M, rfl, hM, hf⟩
    dsimp only
    unfold b_X12_orders_104
    rw [if_neg (by omega)]
    exact ok_ret ⟨M, rfl, fun j hj => hM j (by omega), hf⟩
theorem cp186 {a b : Int} : Ok (lp (fun s => b_X12_orders_186 X s.1 s.2.1 s.2.2.1 s.2.2.2) (N, a, b, 0)) (fun o => ∃ M, o = (M, a, b) ∧ (∀ j : Nat, j < 4320 → M 69 j = N 71 j) ∧ Fr (fun o k => o = 69 ∧ k < 4320) N M) := by
  refine ok_up (fun i s => ∃ M, s = (M, a, b, i) ∧ (∀ j : Nat, (j : Int) < i → M 69 j = N 71 j) ∧ Fr (fun o k => o = 69 ∧ k < 4320) N M) 4320 (i0 := 0) ?_ ?_ (by omega) ⟨N, rfl, fun j hj => by omega, fr_rfl⟩
  · rintro i s a0 a1 ⟨M, rfl, hM, hf⟩
    obtain ⟨m, rfl⟩ := Int.eq_ofNat_of_zero_le a0
    dsimp only
    unfold b_X12_orders_186
    rw [if_pos a1, if_pos (by omega), if_pos (by omega), w_id (x := (m : Int) + 1) (by omega) (by omega), Int.toNat_natCast]
    refine ok_ret ⟨_, rfl, fun j hj => ?_, fr_up hf ⟨rfl, by omega⟩⟩
    rw [up_a]
    by_cases e : j = m
    · rw [if_pos e, e]; exact hf 71 m (by omega)
    · rw [if_neg e]; exact hM j (by omega)
  · rintro s ⟨M, rfl, hM, hf⟩
    dsimp only
    unfold b_X12_orders_186
    rw [if_neg (by omega)]
    exact ok_ret ⟨M, rfl, fun j hj => hM j (by omega), hf⟩
theorem cp217 {a b : Int} : Ok (lp (fun s => b_X12_orders_217 X s.1 s.2.1 s.2.2.1 s.2.2.2) (N, a, b, 0)) (fun o => ∃ M, o = (M, a, b) ∧ (∀ j : Nat, j < 16 → M 70 j = N 72 j) ∧ Fr (fun o k => o = 70) N M) := by
  refine ok_up (fun i s => ∃ M, s = (M, a, b, i) ∧ (∀ j : Nat, (j : Int) < i → M 70 j = N 72 j) ∧ Fr (fun o k => o = 70) N M) 16 (i0 := 0) ?_ ?_ (by omega) ⟨N, rfl, fun j hj => by omega, fr_rfl⟩
  · rintro i s a0 a1 ⟨M, rfl, hM, hf⟩
    obtain ⟨m, rfl⟩ := Int.eq_ofNat_of_zero_le a0
    dsimp only
    unfold b_X12_orders_217
    rw [if_pos a1, if_pos (by omega), if_pos (by omega), w_id (x := (m : Int) + 1) (by omega) (by omega), Int.toNat_natCast]
    refine ok_ret ⟨_, rfl, fun j hj => ?_, fr_up hf rfl⟩
    rw [up_a]
    by_cases e : j = m
    · rw [if_pos e, e]; exact hf 72 m (by omega)
    · rw [if_neg e]; exact hM j (by omega)
  · rintro s ⟨M, rfl, hM, hf⟩
    dsimp only
    unfold b_X12_orders_217
    rw [if_neg (by omega)]
    exact ok_ret ⟨M, rfl, fun j hj => hM j (by omega), hf⟩
end ON
