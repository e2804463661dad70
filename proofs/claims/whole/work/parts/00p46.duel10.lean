/-! duel: the call -/
section DU11
variable {X : MX} {N : NN} {H : Nat → List Nat} {b : Nat → Nat → Bool} {W C : Nat → Nat → Int}
theorem ref_du96 {k : Int} (h : DT N H b W C) :
    Ok (lp (fun s => b_X12_duel_96 X s.1 s.2.1 s.2.2.1 s.2.2.2.1 s.2.2.2.2) (N, k, 0, (-1), 5)) (fun o => o = (N, k, (cP (fun g => wB (fL H b) W C 12 0 g (N 88 0) (N 88 1)) (fL H b 0) : Int), match (fL H b 0).find? (fun g => wB (fL H b) W C 12 0 g (N 88 0) (N 88 1)) with
      | none => -1
      | some g => (g : Int))) := by
  have h' := h
  obtain ⟨hB, hD, hH, hG, hT⟩ := h'
  have hr0 : rG (fL H b) W (-1) ≤ 12 := by
    have x0 := cP_len (fun g => decide (-1 < W 0 g)) (fL H b 0)
    have x1 := cP_len (fun g => decide (-1 < W 1 g)) (fL H b 1)
    have y0 := (hB 0 (by omega)).1
    have y1 := (hB 1 (by omega)).1
    unfold rG
    omega
  have hP := pos_0 (w := N 85) (c := N 86) hG
  have el : lsM (N 85) ((0 : Nat) : Int) 12 = -1 := lsM_0 (N 85) 12
  obtain ⟨q, hq⟩ : ∃ q : Nat → Bool, ∀ i, q i = (caM (N 84) (N 85) 0 (-1) (6 * 0 + i) && woM (N 86) (N 87) (glM (N 88 (1 - 0)) (N 86) ((0 : Nat) : Int) ((1 - 0 : Nat) : Int) 12) 0 (6 * 0 + i)) := ⟨_, fun _ => rfl⟩
  have h7 : glM (N 88 (1 - 0)) (N 86) ((0 : Nat) : Int) ((1 - 0 : Nat) : Int) 12 = N 88 1 := hP.2.2.2.2.2.2.1
  have q1 : ∀ i g : Nat, (H 0)[i]? = some g → q i = (!b 0 g && wB (fL H b) W C 12 0 g (N 88 0) (N 88 1)) := by
    intro i g hg
    have := wo_id h hP hg hr0
    rw [el] at this
    rw [hq, h7, this, decide_eq_true (show -1 < W 0 g by have := (hB 0 (by omega)).2 g; omega), Bool.true_and]
  have q2 : ∀ i, (H 0).length ≤ i → i < 6 → q i = false := fun i l1 l2 => by rw [hq, no_id (hD 0 (by omega)) l1 l2, Bool.false_and]
  have hl := hH 0 (by omega)
  have ec := se_cP q1 q2 hl 6 (by omega)
  have ef := fi_fs (s := 0) q1 q2 hl
  rw [show (6 : Nat) - 6 = 0 from rfl, List.take_zero, show cP (fun g => !b 0 g && wB (fL H b) W C 12 0 g (N 88 0) (N 88 1)) [] = 0 from rfl, Nat.add_zero, ← cP_flt] at ec
  rw [← find_flt] at ef
  rw [show (fL H b 0) = (H 0).filter (fun g => !b 0 g) from rfl]
  have Hl : Ok (lp (fun s => b_X12_duel_96 X s.1 s.2.1 s.2.2.1 s.2.2.2.1 s.2.2.2.2) (N, k, 0, (-1), 5)) (fun o => o = (N, k, (seK q 6 : Int), if fiK q (6 * 0) 6 = -1 then -1 else N 84 (fiK q (6 * 0) 6).toNat)) := by
    refine ok_up (fun i z => z = (N, k, (seK q i.toNat : Int), (if fiK q (6 * 0) i.toNat = -1 then -1 else N 84 (fiK q (6 * 0) i.toNat).toNat), 5 - i) ∧ seK q i.toNat ≤ i.toNat) 6 (i0 := 0) ?_ ?_ (by omega) ⟨rfl, Nat.le_refl _⟩
    · rintro i z a0 a1 ⟨rfl, hse⟩
      obtain ⟨n, rfl⟩ := Int.eq_ofNat_of_zero_le a0
      rw [Int.toNat_natCast] at hse ⊢
      rw [show ((n : Int) + 1).toNat = n + 1 by omega, fiK, seK, hq (5 - n)]
      generalize fiK q (6 * 0) n = x1
      generalize seK q n = x2 at hse ⊢
      dsimp only
      unfold b_X12_duel_96 f_X12_duel_l96_j136
      have g1 := ref_canGive (X := X) (N := N) (S := 0) (s := 0) (j := 6 * 0 + (5 - n)) (l := -1) (by omega) (by omega) (by omega) (by omega) (by omega)
      have g2 := ref_isWon (X := X) (N := N) (S := 0) (s := 0) (j := 6 * 0 + (5 - n)) (by omega) (by omega) (by omega)
      have en : ((6 * 0 + (5 - n) : Nat) : Int) = 5 - (n : Int) := by omega
      rw [en] at g1 g2
      rw [show ((0 : Nat) : Int) = 0 from rfl] at g1 g2
      rw [if_neg (by omega), g1, Option.bind_some, g2, Option.bind_some, w_id (x := 5 - (n : Int) + -1) (by omega) (by omega), show 5 - (n : Int) + -1 = 5 - ((n : Int) + 1) by omega, w_id (x := (x2 : Int) + 1) (by omega) (by omega), gdp (show 0 ≤ 5 - (n : Int) ∧ 5 - (n : Int) < 12 by omega)]
      rw [show ((0 : Nat) : Int) = 0 from rfl]
      generalize caM (N 84) (N 85) 0 (-1) (6 * 0 + (5 - n)) = u
      generalize woM (N 86) (N 87) (glM (N 88 (1 - 0)) (N 86) 0 ((1 - 0 : Nat) : Int) 12) 0 (6 * 0 + (5 - n)) = v
      cases u
      · exact ok_ret ⟨rfl, by show x2 + 0 ≤ n + 1; omega⟩
      · cases v
        · exact ok_ret ⟨rfl, by show x2 + 0 ≤ n + 1; omega⟩
        · refine ok_ret ⟨?_, by show x2 + 1 ≤ n + 1; omega⟩
          rw [Bool.true_and, if_pos rfl, if_pos rfl, en, if_neg (by omega)]
          rfl
    · rintro z ⟨rfl, -⟩
      dsimp only
      unfold b_X12_duel_96
      rw [if_pos (by omega)]
      exact ok_ret rfl
  refine ok_mono Hl ?_
  rintro o rfl
  rw [ec]
  rcases ef with ⟨e1, e2⟩ | ⟨i, g, e1, e2, e3⟩
  · rw [e1, e2, if_pos rfl]
  · have hi := get_lt e2
    have hd := (hD 0 (by omega)).1 i g e2
    have hb : b 0 g = false := by
      have := (find_m e3).1
      have := (List.mem_filter.mp this).2
      cases hb : b 0 g
      · rfl
      · rw [hb] at this; cases this
    rw [e1, e3, if_neg (by omega), show (6 * ((0 : Nat) : Int) + (i : Int)).toNat = 6 * 0 + i by omega, hd.1, hb]
    rfl
end DU11
section DU12
variable {X : MX} {N : NN} {B : Int} {r : Nat → Int} {lw : Nat → Law}
theorem sim_duel (h : Inv X N B) (x y k : Int) : Sim X N B (f_X11_duel X N x y k) (fun M => f_X12_duel X M x y k) := by
  have h' := h
  obtain ⟨hX, ⟨r, lw⟩, im, un, tp, cn, rp, hC, hM⟩ := h'
  have hW : CW X N 4 B r lw := hC.1
  have hV := hW.2.1
  have v0 := hV.1
  have vl := hV.2.2.2.2.2.2.2.2.2.1
  refine sim_ro (v := if ((0 ≤ x ∧ x < r 0) ∧ (0 ≤ y ∧ y < r 0)) ∧ x ≠ y then duV (duL r lw x y) (duW r lw x y) (duC r lw x y) (rl r x 0) (rl r y 0) x y k else -1) h ?_ ?_
  · unfold f_X11_duel f_X11_duel_j27
    refine ok_bd (c_isLord hW.1) ?_
    by_cases d : 0 ≤ x ∧ x < r 0
    case neg =>
      rw [if_neg d, i00, if_neg (fun z => d z.1.1)]
      exact ok_ret ⟨rfl, fr_rfl⟩
    rw [if_pos d, i10]
    refine ok_bd (c_isLord hW.1) ?_
    by_cases d2 : 0 ≤ y ∧ y < r 0
    case neg =>
      rw [if_neg d2, i00, if_neg (fun z => d2 z.1.2)]
      exact ok_ret ⟨rfl, fr_rfl⟩
    rw [if_pos d2, i10]
    by_cases d3 : x = y
    · rw [if_pos d3, if_neg (fun z => z.2 d3)]
      exact ok_ret ⟨rfl, fr_rfl⟩
    rw [if_neg d3, if_pos ⟨⟨d, d2⟩, d3⟩]
    refine ok_bind (c_answer hX hW d.1 d.2 d2.1 d2.2) ?_
    rintro ⟨z, N1⟩ ⟨p1, p2⟩
    exact ok_ret ⟨p1, fr_mono p2 fun o k q => by unfold frDu at q; unfold npr pC pM; omega⟩
  · intro M hf
    have hM1 : MW (m_up M 64 0 0) B r lw := (minv_npr hM (fr_tr hf npr_0)).1
    unfold f_X12_duel f_X12_duel_j38 f_X12_duel_j154 f_X12_duel_j76
    try dsimp only
    refine ok_bd (ref_isLord hM1.1 hV) ?_
    by_cases d : 0 ≤ x ∧ x < r 0
    case neg =>
      rw [if_neg d, i00, if_neg (fun z => d z.1.1)]
      exact ok_ret ⟨rfl, npr_0⟩
    rw [if_pos d, i10]
    refine ok_bd (ref_isLord hM1.1 hV) ?_
    by_cases d2 : 0 ≤ y ∧ y < r 0
    case neg =>
      rw [if_neg d2, i00, if_neg (fun z => d2 z.1.2)]
      exact ok_ret ⟨rfl, npr_0⟩
    rw [if_pos d2, i10]
    by_cases d3 : x = y
    · rw [if_pos d3, if_neg (fun z => z.2 d3)]
      exact ok_ret ⟨rfl, npr_0⟩
    rw [if_neg d3, if_pos (show ((0 ≤ x ∧ x < r 0) ∧ (0 ≤ y ∧ y < r 0)) ∧ x ≠ y from ⟨⟨d, d2⟩, d3⟩)]
    refine ok_bd ref_in ?_
    by_cases c : 0 ≤ k ∧ k ≤ 3
    case neg =>
      rw [if_neg c, i00]
      refine ok_ret ⟨?_, npr_0⟩
      unfold duV
      rw [if_neg (show ¬ k = 0 by omega), if_neg (show ¬ k = 1 by omega), if_neg (show ¬ k = 2 by omega), if_neg (show ¬ k = 3 by omega)]
    rw [if_pos c, i10]
    have hm := vl x d.1 (by omega)
    have ht := vl y d2.1 (by omega)
    refine ok_bind (ref_layGoods (s := 0) hM1 d.1 d.2 d2.1 d2.2 (by omega)) ?_
    rintro M2 ⟨p1, p2, p3⟩
    refine ok_bind (ref_layGoods (s := 1) (mw_L hM1 p3) d2.1 d2.2 d.1 d.2 (by omega)) ?_
    rintro M3 ⟨u1, u2, u3⟩
    refine ok_bind (ref_findWins (N := M3)) ?_
    rintro M4 ⟨w1, w2⟩
    have e84 : M4 84 = M3 84 := funext fun k => w1 84 k (by omega)
    have e85 : M4 85 = M3 85 := funext fun k => w1 85 k (by omega)
    have e86 : M4 86 = M3 86 := funext fun k => w1 86 k (by omega)
    have e88 : M4 88 = M3 88 := funext fun k => w1 88 k (by omega)
    have g0 : M4 88 0 = rl r x 0 := by rw [e88, u3 88 0 (by unfold frDl frM; omega)]; exact p2
    have g1 : M4 88 1 = rl r y 0 := by rw [e88]; exact u2
    have hH : ∀ s, s < 2 → (hL (ownB r (if s = 0 then x else y)) (r 1).toNat).length ≤ 6 := fun s _ => hL_len _
    have DTt : DT M4 (fun s => hL (ownB r (if s = 0 then x else y)) (r 1).toNat) (fun (s g : Nat) => barS r lw g (if s = 0 then x else y) (if s = 0 then y else x)) (duW r lw x y) (duC r lw x y) := by
      refine ⟨du_B x y, ?_, hH, ?_, ?_⟩
      · intro s hs
        have e : s = 0 ∨ s = 1 := by omega
        rcases e with rfl | rfl
        · have l0 : (hL (ownB r x) (r 1).toNat).length ≤ 6 := hL_len _
          refine ⟨fun i g q => ?_, fun i q q' => ?_⟩
          · have lq : i < (hL (ownB r x) (r 1).toNat).length := get_lt q
            rw [e84, e85, e86, u3 84 _ (by unfold frDl frM; omega), u3 85 _ (by unfold frDl frM; omega), u3 86 _ (by unfold frDl frM; omega)]
            exact p1.1 i g q
          · rw [e84, u3 84 _ (by unfold frDl frM; omega)]
            exact p1.2 i q q'
        · refine ⟨fun i g q => ?_, fun i q q' => ?_⟩
          · rw [e84, e85, e86]; exact u1.1 i g q
          · rw [e84]; exact u1.2 i q q'
      · intro s hs
        have e : s = 0 ∨ s = 1 := by omega
        rcases e with rfl | rfl
        · rw [g0]; omega
        · rw [g1]; omega
      · rw [e84, e85, e86, e88]; exact w2
    have hfr : Fr npr M M4 := fr_tr npr_0 (fr_tr (fr_mono p3 fun o k q => by unfold frDl frM at q; unfold npr pC pM; omega) (fr_tr (fr_mono u3 fun o k q => by unfold frDl frM at q; unfold npr pC pM; omega) (fr_mono w1 fun o k q => by unfold npr pC pM; omega)))
    have eL : fL (fun s => hL (ownB r (if s = 0 then x else y)) (r 1).toNat) (fun (s g : Nat) => barS r lw g (if s = 0 then x else y) (if s = 0 then y else x)) = duL r lw x y := rfl
    unfold duV
    rw [← eL]
    generalize (fun s => hL (ownB r (if s = 0 then x else y)) (r 1).toNat) = H at *
    generalize (fun (s g : Nat) => barS r lw g (if s = 0 then x else y) (if s = 0 then y else x)) = b at *
    clear eL
    generalize duW r lw x y = W at *
    generalize duC r lw x y = C at *
    rw [← g0, ← g1]
    by_cases k0 : k = 0
    · rw [if_pos k0, if_pos k0]
      have hr0 : rG (fL H b) W (-1) < 13 := by
        have x0 := cP_len (fun g => decide (-1 < W 0 g)) (fL H b 0)
        have x1 := cP_len (fun g => decide (-1 < W 1 g)) (fL H b 1)
        have y0 := (DTt.1 0 (by omega)).1
        have y1 := (DTt.1 1 (by omega)).1
        unfold rG
        omega
      have := T_win DTt.1 DTt.2.1 DTt.2.2.1 DTt.2.2.2.1 DTt.2.2.2.2 13 _ _ _ _ _ (pos_0 DTt.2.2.2.1) hr0
      rw [this]
      cases wG (fL H b) W C 13 0 (-1) (M4 88 0) (M4 88 1)
      · exact ok_ret ⟨rfl, hfr⟩
      · exact ok_ret ⟨rfl, hfr⟩
    rw [if_neg k0, if_neg k0]
    by_cases k3 : k = 3
    · rw [if_pos k3, if_neg (show ¬ k = 1 by omega), if_neg (show ¬ k = 2 by omega), if_pos k3]
      refine ok_bind (ref_playOf DTt) ?_
      rintro o rfl
      exact ok_ret ⟨rfl, hfr⟩
    rw [if_neg k3]
    refine ok_bind (ref_du96 DTt) ?_
    rintro o rfl
    dsimp only
    by_cases k1 : k = 1
    · rw [if_pos k1, if_pos k1]
      exact ok_ret ⟨rfl, hfr⟩
    · rw [if_neg k1, if_neg k1, if_pos (show k = 2 by omega)]
      exact ok_ret ⟨rfl, hfr⟩
end DU12
