/-! bribe: the reference's outer loop, the call -/
section BR3
variable {X : MX} {N : NN} {B : Int} {r : Nat → Int} {lw : Nat → Law} {w : Int} {v p : Nat → Int}
theorem ref_brOut {a1 a3 : Int} {n : Nat} (hM : MW N B r lw) (g0 : 0 ≤ a1) (g1 : a1 < r 1) (hn : (n : Int) = r 2) (hn5 : n ≤ 5) (hw : 0 ≤ w ∧ w ≤ 1000) (hv : ∀ j, 0 ≤ v j ∧ v j ≤ 999) (hp : ∀ j, 0 ≤ p j ∧ p j ≤ 9) (hvo : ∀ j : Nat, v j = voiceS r lw j a1) (hpr : ∀ j : Nat, j < n → rh r j = p j) :
    Ok (lp (fun s => b_X12_bribe_73 X s.1 s.2.1 s.2.2.1 s.2.2.2.1 s.2.2.2.2.1 s.2.2.2.2.2.1 s.2.2.2.2.2.2.1 s.2.2.2.2.2.2.2) (N, a1, a3, (n : Int), w, 100000000, (-1), 0)) (fun o => ∃ M, o = (M, a3, brA 100000000 (fun s => brQ w v p s n) (bestK (brD w v n) (fun s => brQ w v p s n) (2 ^ n)), brA (-1) (fun s => (s : Int)) (bestK (brD w v n) (fun s => brQ w v p s n) (2 ^ n))) ∧ Fr frV N M) := by
  have hp2 : 2 ^ n ≤ 2 ^ 5 := Nat.pow_le_pow_right (by omega) hn5
  generalize hG : bestK (brD w v n) (fun s => brQ w v p s n) = G
  refine ok_up (fun i z => ∃ M, z = (M, a1, a3, (n : Int), w, brA 100000000 (fun s => brQ w v p s n) (G i.toNat), brA (-1) (fun s => (s : Int)) (G i.toNat), i) ∧ Fr frV N M) ((2 ^ n : Nat) : Int) (i0 := 0) ?_ ?_ (Int.natCast_nonneg _) ⟨N, by rw [← hG]; rfl, fr_rfl⟩
  · rintro i z b0 b1 ⟨M, rfl, hf⟩
    obtain ⟨k, rfl⟩ := Int.eq_ofNat_of_zero_le b0
    rw [Int.toNat_natCast, show ((k : Int) + 1).toNat = k + 1 by omega]
    have hk : k < 32 := by omega
    have bQ := brQ_b hw hv hp k n hn5
    have K : Ok (f_X12_bribe_l73_j103 X M a1 a3 (n : Int) w (brA 100000000 (fun s => brQ w v p s n) (G k)) (brA (-1) (fun s => (s : Int)) (G k)) (k : Int) 0 (if decide (k = 0 ∨ w ≤ 999) = true then 1 else 0)) (fun o => ∃ M', o = .inl (M', a1, a3, (n : Int), w, brA 100000000 (fun s => brQ w v p s n) (G (k + 1)), brA (-1) (fun s => (s : Int)) (G (k + 1)), (k : Int) + 1) ∧ Fr frV N M') := by
      unfold f_X12_bribe_l73_j103 f_X12_bribe_l73_j227
      refine ok_bind (ref_brIn (b := decide (k = 0 ∨ w ≤ 999)) (mw_V hM hf) g0 g1 hn hn5 hw hv hp hvo hpr (by omega)) ?_
      rintro o ⟨M2, rfl, f2⟩
      have hf2 := fr_tr hf f2
      dsimp only
      rw [w_id (x := (k : Int) + 1) (by omega) (by omega)]
      have eD : brD w v n k = (decide (k = 0 ∨ w ≤ 999) && brG w v k n && decide (w ≤ midS (fun h => if bit k h = 0 then v h else w) n)) := rfl
      cases hb : (decide (k = 0 ∨ w ≤ 999) && brG w v k n) with
      | false =>
        rw [if_neg (show ¬ false = true by decide), i00]
        refine ok_ret ⟨M2, ?_, hf2⟩
        rw [← hG, best_f (Or.inl (by rw [eD, hb]; rfl))]
      | true =>
        rw [if_pos rfl, i10]
        by_cases d : brQ w v p k n < brA 100000000 (fun s => brQ w v p s n) (G k)
        · rw [if_pos d]
          refine ok_bind (ref_middle (mw_V hM hf2) g0 g1 (by omega) (by omega)) ?_
          rintro ⟨x, M3⟩ ⟨p1, p2⟩
          dsimp only at p1 p2 ⊢
          have e1 : x = midS (fun h => if bit k h = 0 then v h else w) n := by
            rw [p1, hn]
            congr 1
            funext h
            rw [hvo h]
          have hf3 := fr_tr hf2 p2
          by_cases m : x < w
          · rw [if_pos m]
            refine ok_ret ⟨M3, ?_, hf3⟩
            rw [← hG, best_f (Or.inl (by rw [eD, hb, ← e1, decide_eq_false (by omega)]; rfl))]
          · rw [if_neg m]
            refine ok_ret ⟨M3, ?_, hf3⟩
            have hD : brD w v n k = true := by rw [eD, hb, ← e1, decide_eq_true (by omega)]; rfl
            have : G (k + 1) = some k := by
              rw [← hG]
              refine best_t hD ?_
              rw [hG]
              cases hb' : G k with
              | none => exact Or.inl rfl
              | some b =>
                rw [hb'] at d
                exact Or.inr ⟨b, rfl, d⟩
            rw [this]
            rfl
        · rw [if_neg d]
          refine ok_ret ⟨M2, ?_, hf2⟩
          have : G (k + 1) = G k := by
            rw [← hG]
            refine best_f (Or.inr ?_)
            rw [hG]
            cases hb' : G k with
            | none =>
              rw [hb'] at d
              have : ¬ brQ w v p k n < 100000000 := d
              omega
            | some b =>
              rw [hb'] at d
              exact ⟨b, rfl, d⟩
          rw [this]
    dsimp only
    unfold b_X12_bribe_73 f_X12_bribe_l73_j98
    rw [shl1_id (by omega) (by omega), Int.toNat_natCast, if_pos b1]
    by_cases c : k = 0
    · rw [decide_eq_true (Or.inl c), if_pos rfl] at K
      rw [if_pos (show (k : Int) = 0 by omega)]
      exact ok_mono K (by rintro o ⟨M', rfl, g⟩; exact ⟨M', rfl, g⟩)
    · rw [if_neg (show ¬ (k : Int) = 0 by omega)]
      by_cases c' : 999 < w
      · rw [decide_eq_false (by omega), if_neg (by decide)] at K
        rw [if_pos c']
        exact ok_mono K (by rintro o ⟨M', rfl, g⟩; exact ⟨M', rfl, g⟩)
      · rw [decide_eq_true (Or.inr (by omega)), if_pos rfl] at K
        rw [if_neg c']
        exact ok_mono K (by rintro o ⟨M', rfl, g⟩; exact ⟨M', rfl, g⟩)
  · rintro z ⟨M, rfl, hf⟩
    dsimp only
    unfold b_X12_bribe_73
    rw [shl1_id (by omega) (by omega), Int.toNat_natCast, if_neg (by omega), Int.toNat_natCast]
    exact ok_ret ⟨M, rfl, hf⟩
theorem full_tab : ∀ n : Fin 6, ∀ i : Fin 5, i.val < n.val → bit (((2 ^ n.val - 1 : Nat) : Int)) (i.val : Int) = 1 := by decide +kernel
theorem sm_one : ∀ n : Nat, sm (fun _ => 1) n = (n : Int)
  | 0 => rfl
  | n + 1 => by show sm (fun _ => 1) n + 1 = _; rw [sm_one n]; omega
theorem br_some {P : Nat → Int} {n : Nat} (h0 : 0 < n) (hn : n ≤ 5) : ∃ b, bestK (brC w v n) P (2 ^ n) = some b := by
  have hp3 : 0 < 2 ^ n := Nat.pos_of_ne_zero (by simp)
  have eH : brH w v ((2 ^ n - 1 : Nat) : Int) n = n := by
    rw [← sm_one n]
    refine sm_c fun k hk => ?_
    rw [if_pos (Or.inl (full_tab ⟨n, by omega⟩ ⟨k, by omega⟩ hk))]
  have hc : brC w v n (2 ^ n - 1) = true := decide_eq_true (by rw [eH]; omega)
  have sp := best_spec (brC w v n) P (2 ^ n)
  cases hb : bestK (brC w v n) P (2 ^ n) with
  | some b => exact ⟨b, rfl⟩
  | none =>
    rw [hb] at sp
    have := sp (2 ^ n - 1) (by omega)
    rw [hc] at this
    cases this
theorem mid_b {n : Int} (h0 : 0 < n) (hv : ∀ j, 0 ≤ v j ∧ v j ≤ 999) : 0 ≤ midS v n ∧ midS v n ≤ 999 := by
  unfold midS
  rw [if_neg (by omega)]
  exact srt_b hv _ _ (by omega)
theorem br_none {n : Nat} (h0 : 0 < n) (hv : ∀ j, 0 ≤ v j ∧ v j ≤ 999) (hw : 999 < w) {P : Nat → Int} : bestK (brD w v n) P (2 ^ n) = none := by
  have sp := best_spec (brD w v n) P (2 ^ n)
  cases hb : bestK (brD w v n) P (2 ^ n) with
  | none => rfl
  | some b =>
    rw [hb] at sp
    have h := sp.2.1
    unfold brD at h
    rw [Bool.and_eq_true, Bool.and_eq_true] at h
    have e : b = 0 := by have := of_decide_eq_true h.1.1; omega
    have m := of_decide_eq_true h.2
    subst e
    rw [show (fun h : Nat => if bit ((0 : Nat) : Int) h = 0 then v h else w) = v from funext fun k => if_pos (bit0 k)] at m
    have := mid_b (n := (n : Int)) (by omega) hv
    omega
def brV (a : Int) (P : Nat → Int) : Option Nat → Int
  | none => -1
  | some b => if a = 0 then P b else b
theorem sim_bribe (h : Inv X N B) (x y a : Int) : Sim X N B (f_X11_bribe X N x y a) (fun M => f_X12_bribe X M x y a) := by
  have h' := h
  obtain ⟨hX, ⟨r, lw⟩, im, un, tp, cn, rp, hC, hM⟩ := h'
  have hW : CW X N 4 B r lw := hC.1
  have hV := hW.2.1
  have v2 := hV.2.2.1
  have vh := hV.2.2.2.2.2.2.2.2.2.2.2.2.1
  obtain ⟨n, hn⟩ := Int.eq_ofNat_of_zero_le v2.1
  have hn' : (n : Int) = r 2 := hn.symm
  obtain ⟨v, hvo⟩ : ∃ v : Nat → Int, ∀ j : Nat, v j = voiceS r lw j x := ⟨fun j => voiceS r lw j x, fun _ => rfl⟩
  obtain ⟨p, hpo⟩ : ∃ p : Nat → Int, ∀ j : Nat, p j = if (j : Int) < r 2 then rh r j else 0 := ⟨fun j => if (j : Int) < r 2 then rh r j else 0, fun _ => rfl⟩
  have hv : ∀ j, 0 ≤ v j ∧ v j ≤ 999 := fun j => by rw [hvo]; exact voiceS_b r lw j x
  have hp : ∀ j, 0 ≤ p j ∧ p j ≤ 9 := fun j => by
    rw [hpo]
    split
    · have := vh j (by omega) (by assumption); omega
    · omega
  have hpr : ∀ j : Nat, j < n → rh r j = p j := fun j hj => by rw [hpo, if_pos (by omega)]
  obtain ⟨t, ht⟩ : ∃ t, t = midS (fun h => voiceS r lw h y) (r 2) := ⟨_, rfl⟩
  have tb : r 2 ≠ 0 → 0 ≤ t ∧ t ≤ 999 := fun z => by rw [ht]; exact mid_b (by omega) fun j => voiceS_b r lw j y
  refine sim_ro (v := if ((0 ≤ x ∧ x < r 1) ∧ (0 ≤ y ∧ y < r 1)) ∧ x ≠ y ∧ (0 ≤ a ∧ a ≤ 1) ∧ r 2 ≠ 0 then brV a (fun s => brQ (t + 1) v p s n) (bestK (brD (t + 1) v n) (fun s => brQ (t + 1) v p s n) (2 ^ n)) else -1) h ?_ ?_
  · unfold f_X11_bribe f_X11_bribe_j38
    refine ok_bd (c_isGood hW.1) ?_
    by_cases d : 0 ≤ x ∧ x < r 1
    case neg =>
      rw [if_neg d, i00, if_neg (fun z => d z.1.1)]
      exact ok_ret ⟨rfl, fr_rfl⟩
    rw [if_pos d, i10]
    refine ok_bd (c_isGood hW.1) ?_
    by_cases d2 : 0 ≤ y ∧ y < r 1
    case neg =>
      rw [if_neg d2, i00, if_neg (fun z => d2 z.1.2)]
      exact ok_ret ⟨rfl, fr_rfl⟩
    rw [if_pos d2, i10]
    by_cases d3 : x = y
    · rw [if_pos d3, if_neg (fun z => z.2.1 d3)]
      exact ok_ret ⟨rfl, fr_rfl⟩
    rw [if_neg d3]
    refine ok_bd (c_many hW.1 (by omega) (by omega)) ?_
    by_cases d4 : r 2 = 0
    · rw [if_pos (show r (2 : Int).toNat = 0 from d4), if_neg (fun z => z.2.2.2 d4)]
      exact ok_ret ⟨rfl, fr_rfl⟩
    rw [if_neg (show ¬ r (2 : Int).toNat = 0 from d4)]
    have tb' := tb d4
    unfold f_X2_cheapestBribe f_X2_cheapestBribe_j29 f_X2_cheapestBribe_j216
    rw [Option.bind_assoc]
    refine ok_bind (c_middle hX hW d2.1 d2.2) ?_
    rintro ⟨z, N1⟩ ⟨p1, p2⟩
    dsimp only at p1 p2 ⊢
    rw [← ht] at p1
    subst p1
    rw [w_id (x := z + 1) (by omega) (by omega)]
    by_cases c1 : 999 < z + 1
    · rw [if_pos c1]
      refine ok_ret ⟨?_, npr_H p2⟩
      split
      · rw [br_none (by omega) hv c1]; rfl
      · rfl
    rw [if_neg c1]
    by_cases c2 : a < 0
    · rw [if_pos c2]
      refine ok_ret ⟨?_, npr_H p2⟩
      rw [if_neg (by omega)]
    rw [if_neg c2]
    by_cases c3 : 1 < a
    · rw [if_pos c3]
      refine ok_ret ⟨?_, npr_H p2⟩
      rw [if_neg (by omega)]
    rw [if_neg c3, Option.bind_assoc]
    have hW1 := cw_H hW p2
    refine ok_bind (c_hear hX hW1 d.1 d.2) ?_
    rintro ⟨m, N2⟩ ⟨q1, q2, q3⟩
    dsimp only at q1 q2 q3 ⊢
    subst q1
    have hW2 := cw_H hW1 q3
    have hfr := npr_H (fr_tr p2 q3)
    rw [w_id (x := r 2 - 1) (by omega) (by omega), div_id (by omega) (by omega) (by omega) (by omega), w_id (by omega) (by omega), hn, show (n : Int) - ((n : Int) - 1) / 2 = (n : Int) - ((n - 1) / 2 : Nat) by omega]
    rw [c_brOut hW2.1 hn' (by omega) (by omega) (by omega) hv hp (fun j hj => by rw [q2 j (by omega), hvo]) hpr, Option.bind_some, br_eq (by omega) (by omega) (by omega)]
    obtain ⟨b, hb⟩ := br_some (w := z + 1) (v := v) (P := fun s => brP (z + 1) v p s n) (n := n) (by omega) (by omega)
    rw [br_eq (by omega) (by omega) (by omega)] at hb
    rw [hb, if_pos (show ((0 ≤ x ∧ x < r 1) ∧ (0 ≤ y ∧ y < r 1)) ∧ x ≠ y ∧ (0 ≤ a ∧ a ≤ 1) ∧ (n : Int) ≠ 0 from ⟨⟨d, d2⟩, d3, by omega, by omega⟩)]
    have sp := best_spec (brD (z + 1) v n) (fun s => brQ (z + 1) v p s n) (2 ^ n)
    rw [hb] at sp
    have hg : brG (z + 1) v b n = true := by
      have := sp.2.1
      unfold brD at this
      rw [Bool.and_eq_true, Bool.and_eq_true] at this
      exact this.1.2
    dsimp only
    by_cases c4 : a = 0
    · rw [if_pos c4]
      refine ok_ret ⟨?_, hfr⟩
      show brP (z + 1) v p b n = if a = 0 then brQ (z + 1) v p b n else b
      rw [if_pos c4, brQ_P hg]
    · rw [if_neg c4]
      refine ok_ret ⟨?_, hfr⟩
      show (b : Int) = if a = 0 then brQ (z + 1) v p b n else b
      rw [if_neg c4]
  · intro M hf
    have hM1 : MW (m_up M 64 0 0) B r lw := (minv_npr hM (fr_tr hf npr_0)).1
    unfold f_X12_bribe f_X12_bribe_j49 f_X12_bribe_j254
    try dsimp only
    refine ok_bd (ref_isGood hM1.1 hV) ?_
    by_cases d : 0 ≤ x ∧ x < r 1
    case neg =>
      rw [if_neg d, i00, if_neg (fun z => d z.1.1)]
      exact ok_ret ⟨rfl, npr_0⟩
    rw [if_pos d, i10]
    refine ok_bd (ref_isGood hM1.1 hV) ?_
    by_cases d2 : 0 ≤ y ∧ y < r 1
    case neg =>
      rw [if_neg d2, i00, if_neg (fun z => d2 z.1.2)]
      exact ok_ret ⟨rfl, npr_0⟩
    rw [if_pos d2, i10]
    by_cases d3 : x = y
    · rw [if_pos d3, if_neg (fun z => z.2.1 d3)]
      exact ok_ret ⟨rfl, npr_0⟩
    rw [if_neg d3]
    refine ok_bd ref_in ?_
    by_cases c2 : 0 ≤ a ∧ a ≤ 1
    case neg =>
      rw [if_neg c2, i00, if_neg (fun z => c2 z.2.2.1)]
      exact ok_ret ⟨rfl, npr_0⟩
    rw [if_pos c2, i10, hM1.1 2 (by omega)]
    by_cases d4 : r 2 = 0
    · rw [if_pos d4, if_neg (fun z => z.2.2.2 d4)]
      exact ok_ret ⟨rfl, npr_0⟩
    rw [if_neg d4, if_pos ⟨⟨d, d2⟩, d3, c2, d4⟩]
    have tb' := tb d4
    refine ok_bind (ref_middle (s := 0) (t := 0) hM1 d2.1 d2.2 (by omega) (by omega)) ?_
    rintro ⟨z, N1⟩ ⟨p1, p2⟩
    dsimp only at p1 p2 ⊢
    have e1 : z = t := by
      rw [p1, ht]
      congr 1
      funext k
      rw [if_pos (bit0 k)]
    subst e1
    rw [w_id (x := z + 1) (by omega) (by omega), hn]
    refine ok_bind (ref_brOut (mw_V hM1 p2) d.1 d.2 hn' (by omega) (by omega) hv hp hvo hpr) ?_
    rintro o ⟨M2, rfl, f2⟩
    have hfr := fr_tr npr_0 (npr_V (fr_tr p2 f2))
    dsimp only
    cases hb : bestK (brD (z + 1) v n) (fun s => brQ (z + 1) v p s n) (2 ^ n) with
    | none =>
      rw [if_pos (show brA (-1) (fun s => (s : Int)) none = -1 from rfl)]
      exact ok_ret ⟨rfl, hfr⟩
    | some b =>
      rw [if_neg (show ¬ brA (-1) (fun s => (s : Int)) (some b) = -1 by show ¬ (b : Int) = -1; omega)]
      by_cases c4 : a = 0
      · rw [if_pos c4]
        refine ok_ret ⟨?_, hfr⟩
        show brQ (z + 1) v p b n = if a = 0 then brQ (z + 1) v p b n else b
        rw [if_pos c4]
      · rw [if_neg c4]
        refine ok_ret ⟨?_, hfr⟩
        show (b : Int) = if a = 0 then brQ (z + 1) v p b n else b
        rw [if_neg c4]
end BR3
