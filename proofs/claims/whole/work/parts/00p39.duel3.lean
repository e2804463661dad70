/-! duel: what the class answers -/
theorem find_n {p : Nat → Bool} : ∀ {L : List Nat}, (∀ i g : Nat, i < L.length → L[i]? = some g → p g = false) → L.find? p = none
  | [], _ => rfl
  | x :: l, h => by
    rw [List.find?_cons, h 0 x (by simp) rfl]
    exact find_n fun i g q q' => h (i + 1) g (by simp; omega) (by simpa using q')
theorem find_s {p : Nat → Bool} : ∀ {L : List Nat} {i g : Nat}, L[i]? = some g → p g = true → (∀ j g' : Nat, j < i → L[j]? = some g' → p g' = false) → L.find? p = some g
  | [], _, _, h, _, _ => by cases h
  | x :: l, 0, g, h, q, _ => by
    simp at h
    subst h
    rw [List.find?_cons, q]
  | x :: l, i + 1, g, h, q, r => by
    rw [List.find?_cons, r 0 x (by omega) rfl]
    exact find_s (i := i) (by simpa using h) q fun j g' l' q' => r (j + 1) g' (by omega) (by simpa using q')
theorem find_m {p : Nat → Bool} {L : List Nat} {g : Nat} (h : L.find? p = some g) : g ∈ L ∧ p g = true := ⟨List.mem_of_find?_eq_some h, List.find?_some h⟩
theorem cP_tk {p : Nat → Bool} : ∀ {L : List Nat} {i g : Nat}, L[i]? = some g → cP p (L.take (i + 1)) = cP p (L.take i) + (if p g = true then 1 else 0)
  | [], _, _, h => by cases h
  | x :: l, 0, g, h => by
    simp at h
    subst h
    simp [cP]
  | x :: l, i + 1, g, h => by
    have := cP_tk (p := p) (L := l) (i := i) (g := g) (by simpa using h)
    rw [List.take_succ_cons, List.take_succ_cons, cP, cP, this]
    omega
def chG (L : Nat → List Nat) (W C : Nat → Nat → Int) (s : Nat) (a m t : Int) : Option Nat := ((L s).find? (fun g => decide (a < W s g) && wB L W C 12 s g m t)).or ((L s).find? (fun g => decide (a < W s g)))
def plG (L : Nat → List Nat) (W C : Nat → Nat → Int) : Nat → Nat → Int → Int → Int → Int
  | 0, _, _, _, _ => 0
  | f + 1, s, a, m, t => match chG L W C s a m t with
    | none => 0
    | some g => if t - C s g < 0 then 1 else 1 + plG L W C f (1 - s) (W s g) (t - C s g) m
theorem ch_m {L : Nat → List Nat} {W C : Nat → Nat → Int} {s g : Nat} {a m t : Int} (h : chG L W C s a m t = some g) : g ∈ L s ∧ a < W s g := by
  unfold chG at h
  cases hf : (L s).find? (fun g => decide (a < W s g) && wB L W C 12 s g m t) with
  | some x =>
    rw [hf] at h
    cases h
    have := find_m hf
    rw [Bool.and_eq_true] at this
    exact ⟨this.1, of_decide_eq_true this.2.1⟩
  | none =>
    rw [hf, Option.none_or] at h
    have := find_m h
    exact ⟨this.1, of_decide_eq_true this.2⟩
def FS (L : List Nat) (s : Nat) (x : Option Nat) (o : Int) : Prop := (o = -1 ∧ x = none) ∨ ∃ i g : Nat, o = 6 * (s : Int) + (i : Int) ∧ L[i]? = some g ∧ x = some g
section DU3
variable {X : MX} {N : NN} {L : Nat → List Nat} {W C : Nat → Nat → Int}
theorem c_lowW {s : Nat} {a m t : Int} (hB : DB L W C) (hD : ∀ s, s < 2 → DC N s (L s) (W s) (C s)) (hs : s < 2) (hm : 0 ≤ m ∧ m ≤ 9999) (ht : 0 ≤ t ∧ t ≤ 9999) :
    Ok (f_X1_lowestWinning X N s a m t) (FS (L s) s ((L s).find? (fun g => decide (a < W s g) && wB L W C 12 s g m t))) := by
  have b := hB s hs
  have hDs := hD s hs
  unfold f_X1_lowestWinning
  have H : Ok (lp (fun s => b_X1_lowestWinning_3 X N s.1 s.2.1 s.2.2.1 s.2.2.2.1 s.2.2.2.2) ((s : Int), a, m, t, 0)) (fun o => (o = .inl () ∧ (L s).find? (fun g => decide (a < W s g) && wB L W C 12 s g m t) = none) ∨ ∃ i g : Nat, o = .inr (6 * (s : Int) + (i : Int)) ∧ (L s)[i]? = some g ∧ (L s).find? (fun g => decide (a < W s g) && wB L W C 12 s g m t) = some g) := by
    refine ok_up (fun i z => z = ((s : Int), a, m, t, i) ∧ ∀ j g : Nat, (j : Int) < i → (L s)[j]? = some g → (decide (a < W s g) && wB L W C 12 s g m t) = false) ((L s).length : Int) (i0 := 0) ?_ ?_ (by omega) ⟨rfl, fun j g q => by omega⟩
    · rintro i z a0 a1 ⟨rfl, hj⟩
      obtain ⟨k, rfl⟩ := Int.eq_ofNat_of_zero_le a0
      obtain ⟨g, hg⟩ := get_s (L := L s) (i := k) (by omega)
      have h := hDs.2 k g hg
      have bg := b.2 g
      dsimp only
      unfold b_X1_lowestWinning_3 f_X1_lowestWinning_l3_j50
      rw [gdp (by omega), Int.toNat_natCast, hDs.1, if_pos a1, w_id (x := (s : Int) * 6) (by omega) (by omega), w_id (x := (s : Int) * 6 + (k : Int)) (by omega) (by omega), gdp (by omega), show ((s : Int) * 6 + (k : Int)) = 6 * (s : Int) + (k : Int) by omega, show (6 * (s : Int) + (k : Int)).toNat = 6 * s + k by omega, h.2.1, w_id (x := (k : Int) + 1) (by omega) (by omega)]
      have nx : (decide (a < W s g) && wB L W C 12 s g m t) = false → ∀ j g' : Nat, (j : Int) < (k : Int) + 1 → (L s)[j]? = some g' → (decide (a < W s g') && wB L W C 12 s g' m t) = false := by
        intro q j g' l q'
        by_cases ej : j = k
        · subst ej; rw [hg] at q'; cases q'; exact q
        · exact hj j g' (by omega) q'
      by_cases c : a < W s g
      · rw [if_pos c, c_winsBy (e := 12) hB hD hs hg ht (by omega) (fun p => c_wins hB hD 12 16 (1 - s) (W s g) (t - C s g) m (0 + 1) (by omega) (by omega) (by omega) (by omega) (by omega) hm), Option.bind_some]
        cases hw : wB L W C 12 s g m t with
        | false =>
          rw [if_pos (show (if false = true then (1 : Int) else 0) = 0 from rfl)]
          exact ok_ret ⟨rfl, nx (by rw [hw, Bool.and_false])⟩
        | true =>
          rw [if_neg (by decide)]
          exact ok_ret (Or.inr ⟨k, g, rfl, hg, find_s hg (by rw [decide_eq_true c, hw]; rfl) fun j g' l q => hj j g' (by omega) q⟩)
      · rw [if_neg c]
        exact ok_ret ⟨rfl, nx (by rw [decide_eq_false c, Bool.false_and])⟩
    · rintro z ⟨rfl, hj⟩
      dsimp only
      unfold b_X1_lowestWinning_3
      rw [gdp (by omega), Int.toNat_natCast, hDs.1, if_neg (by omega)]
      exact ok_ret (Or.inl ⟨rfl, find_n fun i g q q' => hj i g (by omega) q'⟩)
  refine ok_bind H ?_
  rintro o (⟨rfl, q⟩ | ⟨i, g, rfl, q⟩)
  · exact ok_ret (Or.inl ⟨rfl, q⟩)
  · exact ok_ret (Or.inr ⟨i, g, rfl, q⟩)
theorem c_lowP {s : Nat} {a : Int} (hB : DB L W C) (hD : ∀ s, s < 2 → DC N s (L s) (W s) (C s)) (hs : s < 2) :
    Ok (f_X1_lowestPossible X N s a) (FS (L s) s ((L s).find? (fun g => decide (a < W s g)))) := by
  have b := hB s hs
  have hDs := hD s hs
  unfold f_X1_lowestPossible
  have H : Ok (lp (fun s => b_X1_lowestPossible_2 X N s.1 s.2.1 s.2.2) ((s : Int), a, 0)) (fun o => (o = .inl () ∧ (L s).find? (fun g => decide (a < W s g)) = none) ∨ ∃ i g : Nat, o = .inr ((s : Int), (i : Int)) ∧ (L s)[i]? = some g ∧ (L s).find? (fun g => decide (a < W s g)) = some g) := by
    refine ok_up (fun i z => z = ((s : Int), a, i) ∧ ∀ j g : Nat, (j : Int) < i → (L s)[j]? = some g → decide (a < W s g) = false) ((L s).length : Int) (i0 := 0) ?_ ?_ (by omega) ⟨rfl, fun j g q => by omega⟩
    · rintro i z a0 a1 ⟨rfl, hj⟩
      obtain ⟨k, rfl⟩ := Int.eq_ofNat_of_zero_le a0
      obtain ⟨g, hg⟩ := get_s (L := L s) (i := k) (by omega)
      have h := hDs.2 k g hg
      dsimp only
      unfold b_X1_lowestPossible_2
      rw [gdp (by omega), Int.toNat_natCast, hDs.1, if_pos a1, w_id (x := (s : Int) * 6) (by omega) (by omega), w_id (x := (s : Int) * 6 + (k : Int)) (by omega) (by omega), gdp (by omega), show ((s : Int) * 6 + (k : Int)).toNat = 6 * s + k by omega, h.2.1, w_id (x := (k : Int) + 1) (by omega) (by omega)]
      by_cases c : a < W s g
      · rw [if_pos c]
        exact ok_ret (Or.inr ⟨k, g, rfl, hg, find_s hg (decide_eq_true c) fun j g' l q => hj j g' (by omega) q⟩)
      · rw [if_neg c]
        refine ok_ret ⟨rfl, fun j g' l q' => ?_⟩
        by_cases ej : j = k
        · subst ej; rw [hg] at q'; cases q'; exact decide_eq_false c
        · exact hj j g' (by omega) q'
    · rintro z ⟨rfl, hj⟩
      dsimp only
      unfold b_X1_lowestPossible_2
      rw [gdp (by omega), Int.toNat_natCast, hDs.1, if_neg (by omega)]
      exact ok_ret (Or.inl ⟨rfl, find_n fun i g q q' => hj i g (by omega) q'⟩)
  refine ok_bind H ?_
  rintro o (⟨rfl, q⟩ | ⟨i, g, rfl, q⟩)
  · exact ok_ret (Or.inl ⟨rfl, q⟩)
  · have := get_lt q.1
    refine ok_ret (Or.inr ⟨i, g, ?_, q⟩)
    dsimp only
    rw [w_id (x := (s : Int) * 6) (by omega) (by omega), w_id (by omega) (by omega)]
    omega
theorem c_winning {m t : Int} (hB : DB L W C) (hD : ∀ s, s < 2 → DC N s (L s) (W s) (C s)) (e0 : N 47 0 = m) (e1 : N 47 1 = t) (hm : 0 ≤ m ∧ m ≤ 9999) (ht : 0 ≤ t ∧ t ≤ 9999) :
    f_X1_winning X N = some (cP (fun g => wB L W C 12 0 g m t) (L 0) : Int) := by
  have b := hB 0 (by omega)
  have hDs := hD 0 (by omega)
  unfold f_X1_winning
  have H : Ok (lp (fun s => b_X1_winning_4 X N s.1 s.2) (0, 0)) (fun o => o = (cP (fun g => wB L W C 12 0 g m t) (L 0) : Int)) := by
    refine ok_up (fun i z => z = ((cP (fun g => wB L W C 12 0 g m t) ((L 0).take i.toNat) : Int), i)) ((L 0).length : Int) (i0 := 0) ?_ ?_ (by omega) rfl
    · rintro i z a0 a1 rfl
      obtain ⟨k, rfl⟩ := Int.eq_ofNat_of_zero_le a0
      obtain ⟨g, hg⟩ := get_s (L := L 0) (i := k) (by omega)
      have hc := cP_tk (p := fun g => wB L W C 12 0 g m t) hg
      have l1 := cP_len (fun g => wB L W C 12 0 g m t) ((L 0).take k)
      rw [List.length_take] at l1
      have bg := b.2 g
      dsimp only
      rw [Int.toNat_natCast, show ((k : Int) + 1).toNat = k + 1 by omega, hc]
      generalize cP (fun g => wB L W C 12 0 g m t) ((L 0).take k) = q at l1 ⊢
      unfold b_X1_winning_4 f_X1_winning_l4_j41
      rw [hDs.1, if_pos a1, e0, e1, show (k : Int) = 6 * ((0 : Nat) : Int) + (k : Int) by omega, c_winsBy (e := 12) hB hD (by omega) hg ht (by omega) (fun p => c_wins hB hD 12 16 (1 - 0) (W 0 g) (t - C 0 g) m (0 + 1) (by omega) (by omega) (by omega) (by omega) (by omega) hm), Option.bind_some, show 6 * ((0 : Nat) : Int) + (k : Int) = (k : Int) by omega, w_id (x := (k : Int) + 1) (by omega) (by omega)]
      cases hw : wB L W C 12 0 g m t with
      | false =>
        rw [if_pos (show (if false = true then (1 : Int) else 0) = 0 from rfl), w_id (by omega) (by omega)]
        exact ok_ret (by dsimp only; rw [if_neg (by decide)]; simp)
      | true =>
        rw [if_neg (by decide), w_id (by omega) (by omega)]
        exact ok_ret (by dsimp only; rw [if_pos rfl]; simp)
    · rintro z rfl
      dsimp only
      unfold b_X1_winning_4
      rw [hDs.1, if_neg (by omega), Int.toNat_natCast, List.take_length]
      exact ok_ret rfl
  obtain ⟨o, eo, po⟩ := H
  rw [eo, po]
  rfl
end DU3
