/-! the law's loop -/
theorem lc_10 {b Ln : Nat} {xv : Nat → Int32} {Λ : LT} (hΛ : lG b Ln xv Λ) {N : NN} {X : MX} {i B : Int} (hsk : m_Sk X) (hz : ∀ o, xn X ≤ o → (xK X o).1 = 0) (hI : Inv X N B) (k : ∀ N1 X1, Inv X1 N1 B → m_Sk X1 → (∀ o, xn X1 ≤ o → (xK X1 o).1 = 0) → xn X1 ≤ xn X + 4 → xs X1 ≤ xs X + 901 → Λ (lvL b i) 1391 [] N1 X1) : Λ (lvL b i) 534 [] N X := by
  obtain ⟨v, N1, X1, N2, hC, hsk1, hz1, e2, hI2, n1, n2, n3⟩ := sim_law hsk hz hI
  have hn := hsk.1
  have hn1 := hsk1.1
  refine l_aload (o := 3) hΛ dL_law_534 ⟨by omega, by omega⟩ lm1 ?_
  refine l_callV (d' := 120) (o := 3) (ci := 11) (args := []) hΛ (by omega) dL_law_535 cv_RL_58 cw_X11_law rfl rfl (sk_k hsk 3 rfl) (Nat.le_of_ble_eq_true rfl) (lvL_ok (by omega)) rfl hC ?_
  refine l_aload (o := 64) hΛ dL_law_538 ⟨by omega, by omega⟩ lm2 ?_
  refine l_callV (d' := 9) (o := 64) (ci := 12) (args := []) hΛ (by omega) dL_law_539 cv_RL_61 cw_X12_law rfl rfl (sk_k hsk1 64 rfl) (Nat.le_of_ble_eq_true rfl) (lvL_ok (by omega)) rfl (t_X12_law hsk1 (Nat.le_refl _) e2) ?_
  exact l_icmp_eq hΛ 1391 dL_law_542 rfl (fun _ => k _ _ hI2 hsk1 hz1 n2 n3) (fun h => absurd rfl h)
theorem law_disp {b Ln : Nat} {xv : Nat → Int32} {Λ : LT} (hΛ : lG b Ln xv Λ) {N : NN} {X : MX} {i B x : Int} (hsk : m_Sk X) (hz : ∀ o, xn X ≤ o → (xK X o).1 = 0) (hI : Inv X N B) (hB : 0 ≤ B ∧ B + 300 ≤ 1000000) (hi : 0 ≤ i) (hi5 : i + 5 < (Ln : Int)) (k : ∀ N1 X1, Inv X1 N1 (B + 300) → m_Sk X1 → (∀ o, xn X1 ≤ o → (xK X1 o).1 = 0) → xn X1 ≤ xn X + 4 → xs X1 ≤ xs X + 901 → Λ (lvL b i) 1391 [] N1 X1) : Λ (lvL b i) 33 [.inl x] N X := by
  have K : ∀ N1, Inv X N1 (B + 300) → Λ (lvL b i) 1391 [] N1 X := fun N1 h => k N1 X h hsk hz (by omega) (by omega)
  by_cases h0 : x = 0
  · refine l_tableIn hΛ (off := 171) 204 dL_law_33 (by omega) (by omega) (by rw [h0]; rfl) (by decide) ?_
    exact lc_0 hΛ hsk hI hB hi hi5 K
  by_cases h1 : x = 1
  · refine l_tableIn hΛ (off := 204) 237 dL_law_33 (by omega) (by omega) (by rw [h1]; rfl) (by decide) ?_
    exact lc_1 hΛ hsk hI hB hi hi5 K
  by_cases h2 : x = 2
  · refine l_tableIn hΛ (off := 237) 270 dL_law_33 (by omega) (by omega) (by rw [h2]; rfl) (by decide) ?_
    exact lc_2 hΛ hsk hI hB hi hi5 K
  by_cases h3 : x = 3
  · refine l_tableIn hΛ (off := 280) 313 dL_law_33 (by omega) (by omega) (by rw [h3]; rfl) (by decide) ?_
    exact lc_3 hΛ hsk hI hB hi hi5 K
  by_cases h4 : x = 4
  · refine l_tableIn hΛ (off := 323) 356 dL_law_33 (by omega) (by omega) (by rw [h4]; rfl) (by decide) ?_
    exact lc_4 hΛ hsk hI hB hi hi5 K
  by_cases h5 : x = 5
  · refine l_tableIn hΛ (off := 356) 389 dL_law_33 (by omega) (by omega) (by rw [h5]; rfl) (by decide) ?_
    exact lc_5 hΛ hsk hI hB hi hi5 K
  by_cases h6 : x = 6
  · refine l_tableIn hΛ (off := 389) 422 dL_law_33 (by omega) (by omega) (by rw [h6]; rfl) (by decide) ?_
    exact lc_6 hΛ hsk hI hB hi hi5 K
  by_cases h7 : x = 7
  · refine l_tableIn hΛ (off := 452) 485 dL_law_33 (by omega) (by omega) (by rw [h7]; rfl) (by decide) ?_
    exact lc_7 hΛ hsk hI hB hi hi5 K
  by_cases h8 : x = 8
  · refine l_tableIn hΛ (off := 475) 508 dL_law_33 (by omega) (by omega) (by rw [h8]; rfl) (by decide) ?_
    exact lc_8 hΛ hsk hI hB hi hi5 K
  by_cases h9 : x = 9
  · refine l_tableIn hΛ (off := 488) 521 dL_law_33 (by omega) (by omega) (by rw [h9]; rfl) (by decide) ?_
    exact lc_9 hΛ hsk hI hB hi hi5 K
  by_cases h10 : x = 10
  · refine l_tableIn hΛ (off := 501) 534 dL_law_33 (by omega) (by omega) (by rw [h10]; rfl) (by decide) ?_
    exact lc_10 hΛ hsk hz hI (fun N1 X1 a c d e f => k N1 X1 (inv_B a (by omega) (by omega)) c d e f)
  by_cases h11 : x = 11
  · refine l_tableIn hΛ (off := 514) 547 dL_law_33 (by omega) (by omega) (by rw [h11]; rfl) (by decide) ?_
    exact lc_11 hΛ hsk hI hB hi hi5 K
  by_cases h12 : x = 12
  · refine l_tableIn hΛ (off := 527) 560 dL_law_33 (by omega) (by omega) (by rw [h12]; rfl) (by decide) ?_
    exact lc_12 hΛ hsk hI hB hi hi5 K
  by_cases h13 : x = 13
  · refine l_tableIn hΛ (off := 540) 573 dL_law_33 (by omega) (by omega) (by rw [h13]; rfl) (by decide) ?_
    exact lc_13 hΛ hsk hI hB hi hi5 K
  by_cases h14 : x = 14
  · refine l_tableIn hΛ (off := 553) 586 dL_law_33 (by omega) (by omega) (by rw [h14]; rfl) (by decide) ?_
    exact lc_14 hΛ hsk hI hB hi hi5 K
  by_cases h15 : x = 15
  · refine l_tableIn hΛ (off := 576) 609 dL_law_33 (by omega) (by omega) (by rw [h15]; rfl) (by decide) ?_
    exact lc_15 hΛ hsk hI hB hi hi5 K
  by_cases h16 : x = 16
  · refine l_tableIn hΛ (off := 619) 652 dL_law_33 (by omega) (by omega) (by rw [h16]; rfl) (by decide) ?_
    exact lc_16 hΛ hsk hI hB hi hi5 K
  by_cases h17 : x = 17
  · refine l_tableIn hΛ (off := 652) 685 dL_law_33 (by omega) (by omega) (by rw [h17]; rfl) (by decide) ?_
    exact lc_17 hΛ hsk hI hB hi hi5 K
  by_cases h18 : x = 18
  · refine l_tableIn hΛ (off := 665) 698 dL_law_33 (by omega) (by omega) (by rw [h18]; rfl) (by decide) ?_
    exact lc_18 hΛ hsk hI hB hi hi5 K
  by_cases h19 : x = 19
  · refine l_tableIn hΛ (off := 678) 711 dL_law_33 (by omega) (by omega) (by rw [h19]; rfl) (by decide) ?_
    exact lc_19 hΛ hsk hI hB hi hi5 K
  by_cases h20 : x = 20
  · refine l_tableIn hΛ (off := 721) 754 dL_law_33 (by omega) (by omega) (by rw [h20]; rfl) (by decide) ?_
    exact lc_20 hΛ hsk hI hB hi hi5 K
  by_cases h21 : x = 21
  · refine l_tableIn hΛ (off := 754) 787 dL_law_33 (by omega) (by omega) (by rw [h21]; rfl) (by decide) ?_
    exact lc_21 hΛ hsk hI hB hi hi5 K
  by_cases h22 : x = 22
  · refine l_tableIn hΛ (off := 797) 830 dL_law_33 (by omega) (by omega) (by rw [h22]; rfl) (by decide) ?_
    exact lc_22 hΛ hsk hI hB hi hi5 K
  by_cases h23 : x = 23
  · refine l_tableIn hΛ (off := 830) 863 dL_law_33 (by omega) (by omega) (by rw [h23]; rfl) (by decide) ?_
    exact lc_23 hΛ hsk hI hB hi hi5 K
  by_cases h24 : x = 24
  · refine l_tableIn hΛ (off := 883) 916 dL_law_33 (by omega) (by omega) (by rw [h24]; rfl) (by decide) ?_
    exact lc_24 hΛ hsk hI hB hi hi5 K
  by_cases h25 : x = 25
  · refine l_tableIn hΛ (off := 906) 939 dL_law_33 (by omega) (by omega) (by rw [h25]; rfl) (by decide) ?_
    exact lc_25 hΛ hsk hI hB hi hi5 K
  by_cases h26 : x = 26
  · refine l_tableIn hΛ (off := 939) 972 dL_law_33 (by omega) (by omega) (by rw [h26]; rfl) (by decide) ?_
    exact lc_26 hΛ hsk hI hB hi hi5 K
  by_cases h27 : x = 27
  · refine l_tableIn hΛ (off := 982) 1015 dL_law_33 (by omega) (by omega) (by rw [h27]; rfl) (by decide) ?_
    exact lc_27 hΛ hsk hI hB hi hi5 K
  by_cases h28 : x = 28
  · refine l_tableIn hΛ (off := 1035) 1068 dL_law_33 (by omega) (by omega) (by rw [h28]; rfl) (by decide) ?_
    exact lc_28 hΛ hsk hI hB hi hi5 K
  by_cases h29 : x = 29
  · refine l_tableIn hΛ (off := 1078) 1111 dL_law_33 (by omega) (by omega) (by rw [h29]; rfl) (by decide) ?_
    exact lc_29 hΛ hsk hI hB hi hi5 K
  by_cases h30 : x = 30
  · refine l_tableIn hΛ (off := 1101) 1134 dL_law_33 (by omega) (by omega) (by rw [h30]; rfl) (by decide) ?_
    exact lc_30 hΛ hsk hI hB hi hi5 K
  by_cases h31 : x = 31
  · refine l_tableIn hΛ (off := 1134) 1167 dL_law_33 (by omega) (by omega) (by rw [h31]; rfl) (by decide) ?_
    exact lc_31 hΛ hsk hI hB hi hi5 K
  by_cases h32 : x = 32
  · refine l_tableIn hΛ (off := 1167) 1200 dL_law_33 (by omega) (by omega) (by rw [h32]; rfl) (by decide) ?_
    exact lc_32 hΛ hsk hI hB hi hi5 K
  by_cases h33 : x = 33
  · refine l_tableIn hΛ (off := 1210) 1243 dL_law_33 (by omega) (by omega) (by rw [h33]; rfl) (by decide) ?_
    exact lc_33 hΛ hsk hI hB hi hi5 K
  by_cases h34 : x = 34
  · refine l_tableIn hΛ (off := 1243) 1276 dL_law_33 (by omega) (by omega) (by rw [h34]; rfl) (by decide) ?_
    exact lc_34 hΛ hsk hI hB hi hi5 K
  by_cases h35 : x = 35
  · refine l_tableIn hΛ (off := 1276) 1309 dL_law_33 (by omega) (by omega) (by rw [h35]; rfl) (by decide) ?_
    exact lc_35 hΛ hsk hI hB hi hi5 K
  by_cases h36 : x = 36
  · refine l_tableIn hΛ (off := 1299) 1332 dL_law_33 (by omega) (by omega) (by rw [h36]; rfl) (by decide) ?_
    exact lc_36 hΛ hsk hI hB hi hi5 K
  by_cases h37 : x = 37
  · refine l_tableIn hΛ (off := 1322) 1355 dL_law_33 (by omega) (by omega) (by rw [h37]; rfl) (by decide) ?_
    exact lc_37 hΛ hsk hI hB hi hi5 K
  by_cases h38 : x = 38
  · refine l_tableIn hΛ (off := 1345) 1378 dL_law_33 (by omega) (by omega) (by rw [h38]; rfl) (by decide) ?_
    exact lc_38 hΛ hsk hI hB hi hi5 K
  exact l_tableOut hΛ 1391 dL_law_33 (by omega) (by decide) (K _ (inv_B hI (by omega) (by omega)))
theorem law_loop {b Ln : Nat} {xv : Nat → Int32} {Λ : LT} (hΛ : lG b Ln xv Λ) (hLn : Ln ≤ 3072) {S0 : Nat} (hS0 : S0 ≤ 100000) (kend : ∀ N X i, xn X ≤ 600003 → xs X ≤ 7302250 → Λ (lvL b i) 1397 [] N X) : ∀ (m c : Nat) (N : NN) (X : MX), c + m = 512 → Inv X N (300 * (c : Int)) → m_Sk X → (∀ o, xn X ≤ o → (xK X o).1 = 0) → xn X ≤ 104 + 4 * c → xs X ≤ S0 + 901 * c → Λ (lvL b (6 * (c : Int))) 18 [] N X := by
  intro m
  induction m with
  | zero =>
    intro c N X hc hI hsk hz hn hs
    refine l_iload (x := 6 * (c : Int)) hΛ dL_law_18 ⟨by omega, by omega⟩ lm3 ?_
    refine l_len hΛ dL_law_19 dL_law_20 lm0 ?_
    refine l_bipush hΛ dL_law_21 bp_6 ⟨by decide, by decide⟩ ?_
    refine l_isub hΛ dL_law_23 ?_
    rw [w_id (x := (Ln : Int) - 6) (by omega) (by omega)]
    exact l_icmp_gt hΛ 1397 dL_law_24 (by decide) (fun _ => kend _ _ _ (by omega) (by omega)) (fun h => absurd (show (Ln : Int) - 6 < 6 * (c : Int) by omega) h)
  | succ m ih =>
    intro c N X hc hI hsk hz hn hs
    refine l_iload (x := 6 * (c : Int)) hΛ dL_law_18 ⟨by omega, by omega⟩ lm3 ?_
    refine l_len hΛ dL_law_19 dL_law_20 lm0 ?_
    refine l_bipush hΛ dL_law_21 bp_6 ⟨by decide, by decide⟩ ?_
    refine l_isub hΛ dL_law_23 ?_
    rw [w_id (x := (Ln : Int) - 6) (by omega) (by omega)]
    refine l_icmp_gt hΛ 1397 dL_law_24 (by decide) (fun _ => kend _ _ _ (by omega) (by omega)) (fun h => ?_)
    refine l_sel (x := 6 * (c : Int)) hΛ (by omega) (by omega) dL_law_27 dL_law_28 dL_law_29 lm0 lm3 ?_
    refine l_bipush hΛ dL_law_30 bp_63 ⟨by decide, by decide⟩ ?_
    refine l_iand hΛ dL_law_32 ?_
    refine law_disp hΛ hsk hz hI ⟨by omega, by omega⟩ (by omega) (by omega) (fun N1 X1 hI1 hsk1 hz1 hn1 hs1 => ?_)
    refine l_iinc (k0 := 3) (x := 6 * (c : Int)) (lv' := fun α => [(3, .int (Int32.ofInt (m_w (6 * (c : Int) + 6)))), (0, .ref b), (1, .ref (α 3)), (2, .ref (α 64))]) hΛ dL_law_1391 (by decide) (fun α => rfl) (fun α => rfl) ?_
    rw [w_id (x := 6 * (c : Int) + 6) (by omega) (by omega)]
    refine l_weak (lv' := lvL b (6 * ((c + 1 : Nat) : Int))) hΛ (fun α q hq => ?_) ?_
    · unfold lvL at hq
      rw [show 6 * ((c + 1 : Nat) : Int) = 6 * (c : Int) + 6 by omega] at hq
      simp only [List.mem_cons, List.not_mem_nil, or_false] at hq ⊢
      rcases hq with e | e | e | e
      · exact Or.inr (Or.inl e)
      · exact Or.inr (Or.inr (Or.inl e))
      · exact Or.inr (Or.inr (Or.inr e))
      · exact Or.inl e
    · refine l_goto hΛ 18 dL_law_1394 (by decide) ?_
      have q1 : xn X1 ≤ 104 + 4 * (c + 1) := by omega
      have q2 : xs X1 ≤ S0 + 901 * (c + 1) := by rw [Nat.mul_add_one, ← Nat.add_assoc]; exact Nat.le_trans hs1 (Nat.add_le_add_right hs 901)
      refine ih (c + 1) N1 X1 (by omega) ?_ hsk1 hz1 q1 q2
      rw [show 300 * ((c + 1 : Nat) : Int) = 300 * (c : Int) + 300 by omega]
      exact hI1
