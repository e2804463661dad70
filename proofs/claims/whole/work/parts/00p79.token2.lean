/-! tokens: the class's scan() -/
def KAk (tp : Nat → Int) (n m : Nat) : Prop := m = 0 ∨ tkS tp n (m - 1) < n
def KAc (N : NN) (tp : Nat → Int) (n : Nat) : Prop := ∀ m, KAk tp n m → N 18 m = tkK tp n m ∧ N 20 m = (tkS tp n m : Int) ∧ (tkK tp n m = -2 → N 19 m = tkN tp n m)
def frSc (o k : Nat) : Prop := o = 18 ∨ o = 19 ∨ o = 20
section SC
variable {X : MX} {N : NN} {tp : Nat → Int} {n : Nat}
theorem c_isLetter {c : Int} : f_X5_isLetter X N c = some (if lt1 c = true then 1 else 0) := by
  unfold f_X5_isLetter f_X5_isLetter_j16 f_X5_isLetter_j17 lt1
  by_cases a : c < 97
  · rw [if_pos a, if_pos (by omega), if_neg (fun z => by have := of_decide_eq_true z; omega)]
  · rw [if_neg a]
    by_cases b : 122 < c
    · rw [if_pos b, if_pos (by omega), if_neg (fun z => by have := of_decide_eq_true z; omega)]
    · rw [if_neg b, if_pos (by omega), if_pos (decide_eq_true (by omega))]
theorem c_isDigit {c : Int} : f_X5_isDigit X N c = some (if dg1 c = true then 1 else 0) := by
  unfold f_X5_isDigit f_X5_isDigit_j16 f_X5_isDigit_j17 dg1
  by_cases a : c < 48
  · rw [if_pos a, if_pos (by omega), if_neg (fun z => by have := of_decide_eq_true z; omega)]
  · rw [if_neg a]
    by_cases b : 57 < c
    · rw [if_pos b, if_pos (by omega), if_neg (fun z => by have := of_decide_eq_true z; omega)]
    · rw [if_neg b, if_pos (by omega), if_pos (decide_eq_true (by omega))]
theorem c_numberOf {i j : Nat} (hn : n ≤ 400) (hN : ∀ j, j < n → N 17 j = tp j) (h1 : i ≤ j) (h2 : j ≤ n) (hd : ∀ k, k < j - i → 48 ≤ tp (i + k) ∧ tp (i + k) ≤ 57) : f_X5_numberOf X N (i : Int) (j : Int) = some (nvC (fun k => tp (i + k)) (j - i)) := by
  unfold f_X5_numberOf
  have H : Ok (lp (fun s => b_X5_numberOf_5 X N s.1 s.2.1 s.2.2) ((j : Int), 0, (i : Int))) (fun o => o = nvC (fun k => tp (i + k)) (j - i)) := by
    refine ok_up (fun c z => z = ((j : Int), nvC (fun k => tp (i + k)) c.toNat, (i : Int) + c)) ((j : Int) - (i : Int)) (i0 := 0) ?_ ?_ (by omega) (by rw [Int.add_zero]; rfl)
    · rintro c z a0 a1 rfl
      obtain ⟨k, rfl⟩ := Int.eq_ofNat_of_zero_le a0
      have hk := hd k (by omega)
      have b := nv_rv (f := fun k => tp (i + k)) k fun q hq => hd q (by omega)
      rw [Int.toNat_natCast, show ((k : Int) + 1).toNat = k + 1 by omega, nvC]
      generalize nvC (fun k => tp (i + k)) k = q at b ⊢
      dsimp only
      unfold b_X5_numberOf_5
      rw [if_pos (by omega), if_pos (by omega), show ((i : Int) + (k : Int)).toNat = i + k by omega, hN (i + k) (by omega), w_id (x := q * 10) (by omega) (by omega), w_id (x := q * 10 + tp (i + k)) (by omega) (by omega), w_id (x := q * 10 + tp (i + k) - 48) (by omega) (by omega), min_id, w_id (x := (i : Int) + (k : Int) + 1) (by omega) (by omega)]
      exact ok_ret (by rw [show (i : Int) + ((k : Int) + 1) = (i : Int) + (k : Int) + 1 by omega])
    · rintro z rfl
      dsimp only
      unfold b_X5_numberOf_5
      rw [if_neg (by omega)]
      exact ok_ret (by rw [show ((j : Int) - (i : Int)).toNat = j - i by omega])
  obtain ⟨o, eo, po⟩ := H
  rw [eo, po]
  rfl
theorem c_wordOf {i j : Nat} (hn : n ≤ 400) (hN : ∀ j, j < n → N 17 j = tp j) (h1 : i < j) (h2 : j ≤ n) : f_X5_wordOf X N (i : Int) (j : Int) = some (wKd tp i (j - i)) := by
  unfold f_X5_wordOf
  have H : Ok (lp (fun s => b_X5_wordOf_10 X N s.1 s.2.1 s.2.2.1 s.2.2.2.1 s.2.2.2.2) ((i : Int), (j : Int), 256, 0, 0)) (fun o => (o = .inl () ∧ ∀ k, k < 25 → ¬ wEq tp i (j - i) k) ∨ (∃ k, k < 25 ∧ wEq tp i (j - i) k ∧ o = .inr (256 + (k : Int)))) := by
    refine ok_up (fun c z => (c = 128 ∧ (∃ a b, z = ((i : Int), (j : Int), a, b, c)) ∧ ∀ k, k < 25 → ¬ wEq tp i (j - i) k) ∨ (∃ k q : Nat, ∃ a : Int, k < 25 ∧ q ≤ wL k ∧ c = ((wS k + q : Nat) : Int) ∧ z = ((i : Int), (j : Int), 256 + (k : Int), a, c) ∧ ((a = (q : Int) ∧ q ≤ j - i ∧ ∀ q', q' < q → tp (i + q') = m_chr (wS k + q')) ∨ (a = -1 ∧ ¬ (q ≤ j - i ∧ ∀ q', q' < q → tp (i + q') = m_chr (wS k + q')))) ∧ ∀ k', k' < k → ¬ wEq tp i (j - i) k')) 128 (i0 := 0) ?_ ?_ (by omega) (Or.inr ⟨0, 0, 0, by omega, Nat.zero_le _, rfl, rfl, Or.inl ⟨rfl, Nat.zero_le _, fun q h => by omega⟩, fun k h => by omega⟩)
    · rintro c z a0 a1 (⟨hc, _⟩ | ⟨k, q, a, hk, hq, hc, rfl, hcond, hno⟩)
      · omega
      have t := w_tab ⟨k, hk⟩
      dsimp only at t
      have ejn : m_w ((j : Int) - (i : Int)) = ((j - i : Nat) : Int) := by rw [w_id (by omega) (by omega)]; omega
      dsimp only
      unfold b_X5_wordOf_10
      rw [if_neg (by omega)]
      by_cases c1 : q < wL k
      · have tl := t.2.2.2.2 ⟨q, by omega⟩ c1
        dsimp only at tl
        rw [if_pos (by omega), if_pos (by omega), show c.toNat = wS k + q by omega]
        unfold f_X5_wordOf_l10_j42 f_X5_wordOf_l10_j82 f_X5_wordOf_l10_j83 f_X5_wordOf_l10_j98 f_X5_wordOf_l10_j119
        rw [if_neg (by omega), w_id (x := c + 1) (by omega) (by omega), i00, i10]
        have no : ¬ (q + 1 ≤ j - i ∧ ∀ q', q' < q + 1 → tp (i + q') = m_chr (wS k + q')) → Ok (some (.inl ((i : Int), (j : Int), 256 + (k : Int), -1, c + 1)) : Option ((Int × Int × Int × Int × Int) ⊕ (Unit ⊕ Int))) (fun o => match o with | .inl s' => (c + 1 = 128 ∧ (∃ a b, s' = ((i : Int), (j : Int), a, b, c + 1)) ∧ ∀ k, k < 25 → ¬ wEq tp i (j - i) k) ∨ (∃ k q : Nat, ∃ a : Int, k < 25 ∧ q ≤ wL k ∧ c + 1 = ((wS k + q : Nat) : Int) ∧ s' = ((i : Int), (j : Int), 256 + (k : Int), a, c + 1) ∧ ((a = (q : Int) ∧ q ≤ j - i ∧ ∀ q', q' < q → tp (i + q') = m_chr (wS k + q')) ∨ (a = -1 ∧ ¬ (q ≤ j - i ∧ ∀ q', q' < q → tp (i + q') = m_chr (wS k + q')))) ∧ ∀ k', k' < k → ¬ wEq tp i (j - i) k') | .inr t => (t = .inl () ∧ ∀ k, k < 25 → ¬ wEq tp i (j - i) k) ∨ (∃ k, k < 25 ∧ wEq tp i (j - i) k ∧ t = .inr (256 + (k : Int)))) := fun z => ok_ret (Or.inr ⟨k, q + 1, -1, hk, by omega, by omega, rfl, Or.inr ⟨rfl, z⟩, hno⟩)
        rcases hcond with ⟨ha, hq2, heq⟩ | ⟨ha, hneg⟩
        · rw [if_neg (by omega), ha, w_id (x := (i : Int) + (q : Int)) (by omega) (by omega)]
          by_cases c2 : (i : Int) + (q : Int) < (j : Int)
          · rw [if_pos c2, if_pos (by omega), show ((i : Int) + (q : Int)).toNat = i + q by omega, hN (i + q) (by omega)]
            by_cases c3 : tp (i + q) = m_chr (wS k + q)
            · rw [if_pos c3, w_id (x := (q : Int) + 1) (by omega) (by omega)]
              refine ok_ret (Or.inr ⟨k, q + 1, (q : Int) + 1, hk, by omega, by omega, rfl, Or.inl ⟨by omega, by omega, fun q' h => ?_⟩, hno⟩)
              by_cases e : q' = q
              · rw [e]; exact c3
              · exact heq q' (by omega)
            · rw [if_neg c3]
              exact ok_mono (no fun z => c3 (z.2 q (by omega))) fun o h => by cases o <;> exact h
          · rw [if_neg c2]
            exact ok_mono (no fun z => by omega) fun o h => by cases o <;> exact h
        · rw [if_pos (by omega)]
          exact ok_mono (no fun z => hneg ⟨by omega, fun q' h => z.2 q' (by omega)⟩) fun o h => by cases o <;> exact h
      · have eq : q = wL k := by omega
        have K : Ok (f_X5_wordOf_l10_j42 X N (i : Int) (j : Int) (256 + (k : Int)) a c 32) (fun o => match o with | .inl s' => (c + 1 = 128 ∧ (∃ a b, s' = ((i : Int), (j : Int), a, b, c + 1)) ∧ ∀ k, k < 25 → ¬ wEq tp i (j - i) k) ∨ (∃ k q : Nat, ∃ a : Int, k < 25 ∧ q ≤ wL k ∧ c + 1 = ((wS k + q : Nat) : Int) ∧ s' = ((i : Int), (j : Int), 256 + (k : Int), a, c + 1) ∧ ((a = (q : Int) ∧ q ≤ j - i ∧ ∀ q', q' < q → tp (i + q') = m_chr (wS k + q')) ∨ (a = -1 ∧ ¬ (q ≤ j - i ∧ ∀ q', q' < q → tp (i + q') = m_chr (wS k + q')))) ∧ ∀ k', k' < k → ¬ wEq tp i (j - i) k') | .inr t => (t = .inl () ∧ ∀ k, k < 25 → ¬ wEq tp i (j - i) k) ∨ (∃ k, k < 25 ∧ wEq tp i (j - i) k ∧ t = .inr (256 + (k : Int)))) := by
          unfold f_X5_wordOf_l10_j42 f_X5_wordOf_l10_j119
          rw [if_pos rfl, ejn, w_id (x := c + 1) (by omega) (by omega), w_id (x := 256 + (k : Int) + 1) (by omega) (by omega)]
          by_cases c2 : a = ((j - i : Nat) : Int)
          · rw [if_pos c2]
            refine ok_ret (Or.inr ⟨k, hk, ?_, rfl⟩)
            rcases hcond with ⟨ha, hq2, heq⟩ | ⟨ha, hneg⟩
            · exact ⟨by omega, fun q' h => heq q' (by omega)⟩
            · omega
          · rw [if_neg c2]
            have nk : ¬ wEq tp i (j - i) k := by
              rintro ⟨z1, z2⟩
              rcases hcond with ⟨ha, hq2, heq⟩ | ⟨ha, hneg⟩
              · omega
              · exact hneg ⟨by omega, fun q' h => z2 q' (by omega)⟩
            have hno' : ∀ k', k' < k + 1 → ¬ wEq tp i (j - i) k' := fun k' h => by
              by_cases e : k' = k
              · rw [e]; exact nk
              · exact hno k' (by omega)
            by_cases k24 : k < 24
            · have t3 := t.2.2.1 k24
              exact ok_ret (Or.inr ⟨k + 1, 0, 0, by omega, Nat.zero_le _, by omega, by rw [show (256 : Int) + (k : Int) + 1 = 256 + ((k + 1 : Nat) : Int) by omega], Or.inl ⟨rfl, Nat.zero_le _, fun q' h => by omega⟩, hno'⟩)
            · have t4 := t.2.2.2.1 (by omega)
              exact ok_ret (Or.inl ⟨by omega, ⟨_, _, rfl⟩, fun k' h => hno' k' (by omega)⟩)
        by_cases k24 : k < 24
        · have t3 := t.2.2.1 k24
          have t5 := w_tab ⟨k + 1, by omega⟩
          dsimp only at t5
          rw [if_pos (by omega), if_pos (by omega), show c.toNat = wS k + wL k by omega, t3.2]
          exact ok_mono K fun o h => by cases o <;> exact h
        · have t4 := t.2.2.2.1 (by omega)
          rw [if_neg (by omega)]
          exact ok_mono K fun o h => by cases o <;> exact h
    · rintro z (⟨hc, ⟨a, b, rfl⟩, hno⟩ | ⟨k, q, a, hk, hq, hc, _⟩)
      · dsimp only
        unfold b_X5_wordOf_10
        rw [if_pos (by omega)]
        exact ok_ret (Or.inl ⟨rfl, hno⟩)
      · have t := w_tab ⟨k, hk⟩
        dsimp only at t
        omega
  obtain ⟨o, eo, po⟩ := H
  rw [eo, Option.bind_some]
  rcases po with ⟨rfl, hno⟩ | ⟨k, hk, hw, rfl⟩
  · rw [wKd_n hno]
  · rw [wKd_y hk hw]
theorem c_run31 {x : Nat} {a1 a2 a3 : Int} (hn : n ≤ 400) (hN : ∀ j, j < n → N 17 j = tp j) (h5 : N 16 5 = (n : Int)) (hx : x ≤ n) : lp (fun s => b_X5_scan_31 X s.1 s.2.1 s.2.2.1 s.2.2.2.1 s.2.2.2.2) (N, a1, a2, a3, (x : Int)) = some (N, a1, a2, a3, (rnE lt1 tp n 400 x : Int)) := by
  have H : Ok (lp (fun s => b_X5_scan_31 X s.1 s.2.1 s.2.2.1 s.2.2.2.1 s.2.2.2.2) (N, a1, a2, a3, (x : Int))) (fun o => o = (N, a1, a2, a3, (rnE lt1 tp n 400 x : Int))) := by
    refine ok_lp (fun s => ∃ y : Nat, y ≤ n ∧ s = (N, a1, a2, a3, (y : Int)) ∧ rnE lt1 tp n 400 y = rnE lt1 tp n 400 x) (fun s => n - s.2.2.2.2.toNat) ?_ ⟨x, hx, rfl, rfl⟩
    rintro s ⟨y, hy, rfl, he⟩
    dsimp only
    unfold b_X5_scan_31
    rw [h5]
    by_cases c : (y : Int) < (n : Int)
    · rw [if_pos c, if_pos (by omega), Int.toNat_natCast, hN y (by omega), c_isLetter, Option.bind_some]
      by_cases d : lt1 (tp y) = true
      · rw [if_pos d, i10, w_id (x := (y : Int) + 1) (by omega) (by omega)]
        refine ok_ret ⟨⟨y + 1, by omega, rfl, ?_⟩, ?_⟩
        · rw [← rn_s hn (by omega) d]; exact he
        · show n - ((y : Int) + 1).toNat < n - ((y : Int)).toNat
          omega
      · rw [if_neg d, i00]
        rw [rn_e (fun z => d z.2)] at he
        exact ok_ret (by rw [he])
    · rw [if_neg c]
      rw [rn_e (by omega)] at he
      exact ok_ret (by rw [he])
  obtain ⟨o, eo, po⟩ := H
  rw [eo, po]
theorem c_run82 {x : Nat} {a1 a2 a3 : Int} (hn : n ≤ 400) (hN : ∀ j, j < n → N 17 j = tp j) (h5 : N 16 5 = (n : Int)) (hx : x ≤ n) : lp (fun s => b_X5_scan_82 X s.1 s.2.1 s.2.2.1 s.2.2.2.1 s.2.2.2.2) (N, a1, a2, a3, (x : Int)) = some (N, a1, a2, a3, (rnE dg1 tp n 400 x : Int)) := by
  have H : Ok (lp (fun s => b_X5_scan_82 X s.1 s.2.1 s.2.2.1 s.2.2.2.1 s.2.2.2.2) (N, a1, a2, a3, (x : Int))) (fun o => o = (N, a1, a2, a3, (rnE dg1 tp n 400 x : Int))) := by
    refine ok_lp (fun s => ∃ y : Nat, y ≤ n ∧ s = (N, a1, a2, a3, (y : Int)) ∧ rnE dg1 tp n 400 y = rnE dg1 tp n 400 x) (fun s => n - s.2.2.2.2.toNat) ?_ ⟨x, hx, rfl, rfl⟩
    rintro s ⟨y, hy, rfl, he⟩
    dsimp only
    unfold b_X5_scan_82
    rw [h5]
    by_cases c : (y : Int) < (n : Int)
    · rw [if_pos c, if_pos (by omega), Int.toNat_natCast, hN y (by omega), c_isDigit, Option.bind_some]
      by_cases d : dg1 (tp y) = true
      · rw [if_pos d, i10, w_id (x := (y : Int) + 1) (by omega) (by omega)]
        refine ok_ret ⟨⟨y + 1, by omega, rfl, ?_⟩, ?_⟩
        · rw [← rn_s hn (by omega) d]; exact he
        · show n - ((y : Int) + 1).toNat < n - ((y : Int)).toNat
          omega
      · rw [if_neg d, i00]
        rw [rn_e (fun z => d z.2)] at he
        exact ok_ret (by rw [he])
    · rw [if_neg c]
      rw [rn_e (by omega)] at he
      exact ok_ret (by rw [he])
  obtain ⟨o, eo, po⟩ := H
  rw [eo, po]
theorem c_scan (hn : n ≤ 400) (hN : ∀ j, j < n → N 17 j = tp j) (h5 : N 16 5 = (n : Int)) (hb : ∀ j, j < n → 0 ≤ tp j ∧ tp j ≤ 255) : Ok (f_X5_scan X N) (fun M => KAc M tp n ∧ Fr frSc N M) := by
  unfold f_X5_scan
  have H : Ok (lp (fun s => b_X5_scan_4 X s.1 s.2.1 s.2.2) (N, 0, 0)) (fun o => ∃ M, ∃ m : Nat, o = (M, (m : Int)) ∧ m ≤ 400 ∧ tkS tp n m = n ∧ (∀ m', m' < m → tkS tp n m' < n ∧ M 18 m' = tkK tp n m' ∧ M 20 m' = (tkS tp n m' : Int) ∧ (tkK tp n m' = -2 → M 19 m' = tkN tp n m')) ∧ Fr frSc N M) := by
    refine ok_lp (fun s => ∃ M, ∃ m i : Nat, s = (M, (m : Int), (i : Int)) ∧ m ≤ i ∧ i ≤ n ∧ skB tp n i = tkS tp n m ∧ (∀ m', m' < m → tkS tp n m' < n ∧ M 18 m' = tkK tp n m' ∧ M 20 m' = (tkS tp n m' : Int) ∧ (tkK tp n m' = -2 → M 19 m' = tkN tp n m')) ∧ Fr frSc N M) (fun s => n - s.2.2.toNat) ?_ ⟨N, 0, 0, rfl, Nat.le_refl _, Nat.zero_le _, rfl, fun m' h => by omega, fr_rfl⟩
    rintro s ⟨M, m, i, rfl, hmi, hin, hsk, hm, hf⟩
    have M5 : M 16 5 = (n : Int) := by rw [hf 16 5 (by unfold frSc; omega)]; exact h5
    have MN : ∀ j, j < n → M 17 j = tp j := fun j hj => by rw [hf 17 j (by unfold frSc; omega)]; exact hN j hj
    dsimp only
    unfold b_X5_scan_4
    rw [M5]
    by_cases c : (i : Int) < (n : Int)
    case neg =>
      rw [if_neg c]
      refine ok_ret ⟨M, m, rfl, by omega, ?_, hm, hf⟩
      rw [← hsk]
      unfold skB
      rw [rn_e (by omega)]
      omega
    rw [if_pos c, if_pos (by omega), Int.toNat_natCast, MN i (by omega), c_isLetter, Option.bind_some]
    have hi : i < n := by omega
    have tb := tkE_b (tp := tp) hi
    -- what is written at m, and how it goes on
    have fin : ∀ (M2 : NN) (kd : Int), Fr frSc N M2 → (∀ m', m' < m → M2 18 m' = M 18 m' ∧ M2 20 m' = M 20 m' ∧ M2 19 m' = M 19 m') → M2 18 m = kd → (tp i ≠ 32 → kd = tkK tp n m) → (tp i ≠ 32 → tkK tp n m = -2 → M2 19 m = tkN tp n m) → ((tp i = 32 → (i + 1 : Nat) = tkE tp n i)) → Ok (f_X5_scan_l4_j141 X M2 (m : Int) (i : Int) (tp i) (tkE tp n i : Int)) (fun o => ∃ M', ∃ m' i' : Nat, o = .inl (M', (m' : Int), (i' : Int)) ∧ (m' ≤ i' ∧ i' ≤ n ∧ skB tp n i' = tkS tp n m' ∧ (∀ m2, m2 < m' → tkS tp n m2 < n ∧ M' 18 m2 = tkK tp n m2 ∧ M' 20 m2 = (tkS tp n m2 : Int) ∧ (tkK tp n m2 = -2 → M' 19 m2 = tkN tp n m2)) ∧ Fr frSc N M') ∧ i < i') := by
      intro M2 kd f2 hold hk hkd hnum h32
      unfold f_X5_scan_l4_j141 f_X5_scan_l4_j157
      rw [if_pos (by omega), Int.toNat_natCast]
      dsimp only
      have f3 : Fr frSc N (m_up M2 20 m (i : Int)) := fr_up f2 (by unfold frSc; omega)
      by_cases b : tp i = 32
      · rw [if_pos b]
        refine ok_ret ⟨_, m, tkE tp n i, rfl, ⟨by omega, by omega, ?_, fun m2 h2 => ?_, f3⟩, by omega⟩
        · rw [← h32 b, ← hsk]
          unfold skB
          exact (rn_s hn hi (decide_eq_true b)).symm
        · obtain ⟨a1, a2, a3⟩ := hold m2 h2
          rw [up_o (by omega), up_k (by omega), up_o (by omega), a1, a2, a3]
          exact hm m2 h2
      · rw [if_neg b, w_id (x := (m : Int) + 1) (by omega) (by omega)]
        have es : tkS tp n m = i := by
          rw [← hsk]
          unfold skB
          exact rn_e (fun z => b (of_decide_eq_true z.2))
        refine ok_ret ⟨_, m + 1, tkE tp n i, rfl, ⟨by omega, by omega, ?_, fun m2 h2 => ?_, f3⟩, by omega⟩
        · rw [tkS, if_pos (by omega), es]
        · by_cases e : m2 = m
          · subst e
            rw [up_o (by omega), up_s, up_o (by omega), hk]
            exact ⟨by omega, hkd b, by rw [es], hnum b⟩
          · obtain ⟨a1, a2, a3⟩ := hold m2 (by omega)
            rw [up_o (by omega), up_k (by omega), up_o (by omega), a1, a2, a3]
            exact hm m2 (by omega)
    have wrap : ∀ {x : Option ((NN × Int × Int) ⊕ (NN × Int))}, Ok x (fun o => ∃ M', ∃ m' i' : Nat, o = .inl (M', (m' : Int), (i' : Int)) ∧ (m' ≤ i' ∧ i' ≤ n ∧ skB tp n i' = tkS tp n m' ∧ (∀ m2, m2 < m' → tkS tp n m2 < n ∧ M' 18 m2 = tkK tp n m2 ∧ M' 20 m2 = (tkS tp n m2 : Int) ∧ (tkK tp n m2 = -2 → M' 19 m2 = tkN tp n m2)) ∧ Fr frSc N M') ∧ i < i') → Ok x (fun o => match o with | .inl s' => (∃ M, ∃ m i : Nat, s' = (M, (m : Int), (i : Int)) ∧ m ≤ i ∧ i ≤ n ∧ skB tp n i = tkS tp n m ∧ (∀ m', m' < m → tkS tp n m' < n ∧ M 18 m' = tkK tp n m' ∧ M 20 m' = (tkS tp n m' : Int) ∧ (tkK tp n m' = -2 → M 19 m' = tkN tp n m')) ∧ Fr frSc N M) ∧ n - s'.2.2.toNat < n - ((i : Int)).toNat | .inr t => ∃ M, ∃ m : Nat, t = (M, (m : Int)) ∧ m ≤ 400 ∧ tkS tp n m = n ∧ (∀ m', m' < m → tkS tp n m' < n ∧ M 18 m' = tkK tp n m' ∧ M 20 m' = (tkS tp n m' : Int) ∧ (tkK tp n m' = -2 → M 19 m' = tkN tp n m')) ∧ Fr frSc N M) := by
      intro x hx
      refine ok_mono hx ?_
      rintro o ⟨M', m', i', rfl, h, hlt⟩
      refine ⟨⟨M', m', i', rfl, h⟩, ?_⟩
      show n - ((i' : Int)).toNat < n - ((i : Int)).toNat
      have := h.2.1
      omega
    refine ok_mono (wrap ?_) (fun o h => by cases o <;> exact h)
    have eS : tp i ≠ 32 → tkS tp n m = i := fun b => by
      rw [← hsk]
      unfold skB
      exact rn_e (fun z => b (of_decide_eq_true z.2))
    by_cases d : lt1 (tp i) = true
    · have d' := of_decide_eq_true d
      rw [if_pos d, i10, w_id (x := (i : Int) + 1) (by omega) (by omega)]
      have r := c_run31 (X := X) (a1 := (m : Int)) (a2 := (i : Int)) (a3 := tp i) hn MN M5 (show i + 1 ≤ n by omega)
      have eE : tkE tp n i = rnE lt1 tp n 400 (i + 1) := by unfold tkE; rw [if_pos d]
      rw [← eE] at r
      rw [show ((i + 1 : Nat) : Int) = (i : Int) + 1 by omega] at r
      rw [r, Option.bind_some]
      dsimp only
      rw [c_wordOf hn MN tb.1 tb.2, Option.bind_some, if_pos (by omega), Int.toNat_natCast]
      refine fin (m_up M 18 m (wKd tp i (tkE tp n i - i))) _ (fr_up hf (by unfold frSc; omega)) (fun m' h => ⟨up_k (by omega), up_o (by omega), up_o (by omega)⟩) up_s (fun b => ?_) (fun b h => ?_) (fun b => by omega)
      · have es := eS b
        unfold tkK
        rw [es, if_pos hi, if_pos d]
      · have es := eS b
        unfold tkK at h
        rw [es, if_pos hi, if_pos d] at h
        rcases wKd_b (tp := tp) (i := i) (len := tkE tp n i - i) with q | q <;> omega
    rw [if_neg d, i00, c_isDigit, Option.bind_some]
    by_cases g : dg1 (tp i) = true
    · have g' := of_decide_eq_true g
      rw [if_pos g, i10, w_id (x := (i : Int) + 1) (by omega) (by omega)]
      have r := c_run82 (X := X) (a1 := (m : Int)) (a2 := (i : Int)) (a3 := tp i) hn MN M5 (show i + 1 ≤ n by omega)
      have eE : tkE tp n i = rnE dg1 tp n 400 (i + 1) := by unfold tkE; rw [if_neg d, if_pos g]
      rw [← eE] at r
      rw [show ((i + 1 : Nat) : Int) = (i : Int) + 1 by omega] at r
      rw [r, Option.bind_some]
      dsimp only
      rw [if_pos (by omega), Int.toNat_natCast, c_numberOf (N := m_up M 18 m (-2)) hn (fun j hj => by rw [up_o (by omega)]; exact MN j hj) (by omega) tb.2 (tk_dig (Bool.eq_false_iff.mpr d) g), Option.bind_some, if_pos (by omega)]
      refine fin (m_up (m_up M 18 m (-2)) 19 m (nvC (fun k => tp (i + k)) (tkE tp n i - i))) (-2) (fr_up (fr_up hf (by unfold frSc; omega)) (by unfold frSc; omega)) (fun m' h => ⟨by rw [up_o (by omega), up_k (by omega)], by rw [up_o (by omega), up_o (by omega)], by rw [up_k (by omega), up_o (by omega)]⟩) (by rw [up_o (by omega), up_s]) (fun b => ?_) (fun b h => ?_) (fun b => by omega)
      · have es := eS b
        unfold tkK
        rw [es, if_pos hi, if_neg d, if_pos g]
      · have es := eS b
        rw [up_s]
        unfold tkN
        rw [es]
    · rw [if_neg g, i00, if_pos (by omega), Int.toNat_natCast, w_id (x := (i : Int) + 1) (by omega) (by omega)]
      have eE : tkE tp n i = i + 1 := by unfold tkE; rw [if_neg d, if_neg g]
      rw [show (i : Int) + 1 = (tkE tp n i : Int) by omega]
      refine fin (m_up M 18 m (tp i)) _ (fr_up hf (by unfold frSc; omega)) (fun m' h => ⟨up_k (by omega), up_o (by omega), up_o (by omega)⟩) up_s (fun b => ?_) (fun b h => ?_) (fun b => by omega)
      · have es := eS b
        unfold tkK
        rw [es, if_pos hi, if_neg d, if_neg g]
      · have es := eS b
        unfold tkK at h
        rw [es, if_pos hi, if_neg d, if_neg g] at h
        have := hb i hi
        omega
  refine ok_bind H ?_
  rintro o ⟨M, m, rfl, m400, hSn, hm, hf⟩
  dsimp only
  have M5 : M 16 5 = (n : Int) := by rw [hf 16 5 (by unfold frSc; omega)]; exact h5
  rw [if_pos (by omega), if_pos (by omega), Int.toNat_natCast, up_o (by omega), M5]
  refine ok_ret ⟨fun m2 h2 => ?_, fr_up (fr_up hf (by unfold frSc; omega)) (by unfold frSc; omega)⟩
  by_cases e : m2 = m
  · subst e
    rw [up_o (by omega), up_s, up_s, up_o (by omega), up_o (by omega)]
    unfold tkK
    rw [hSn, if_neg (by omega)]
    exact ⟨rfl, rfl, fun z => by omega⟩
  · have lt : m2 < m := by
      apply Classical.byContradiction
      intro z
      have stay : ∀ q, m ≤ q → tkS tp n q = n := by
        intro q hq
        induction hq with
        | refl => exact hSn
        | step _ ih => rw [tkS, if_neg (by omega)]
      rcases h2 with h2 | h2
      · omega
      · rw [stay (m2 - 1) (by omega)] at h2; omega
    rw [up_o (by omega), up_k (by omega), up_k (by omega), up_o (by omega), up_o (by omega)]
    exact (hm m2 lt).2
end SC
