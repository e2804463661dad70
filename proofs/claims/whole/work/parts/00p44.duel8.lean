/-! duel: how long the reference lets the game run; the call -/
def fiK (q : Nat → Bool) (o : Nat) : Nat → Int
  | 0 => -1
  | n + 1 => if q (5 - n) = true then ((o + (5 - n) : Nat) : Int) else fiK q o n
def seK (q : Nat → Bool) : Nat → Nat
  | 0 => 0
  | n + 1 => seK q n + (if q (5 - n) = true then 1 else 0)
theorem find_flt {p q : Nat → Bool} : ∀ L : List Nat, (L.filter p).find? q = L.find? (fun g => p g && q g)
  | [] => rfl
  | x :: l => by
    rw [List.filter_cons, List.find?_cons, ← find_flt l]
    cases p x with
    | false => rfl
    | true =>
      rw [if_pos rfl, List.find?_cons, Bool.true_and]
theorem cP_flt {p q : Nat → Bool} : ∀ L : List Nat, cP q (L.filter p) = cP (fun g => p g && q g) L
  | [] => rfl
  | x :: l => by
    rw [List.filter_cons, cP, ← cP_flt l]
    cases p x with
    | false => rfl
    | true => rw [if_pos rfl, cP, Bool.true_and]
theorem fi_sp (q : Nat → Bool) (o : Nat) : ∀ n, n ≤ 6 → (fiK q o n = -1 ∧ ∀ i, 6 - n ≤ i → i < 6 → q i = false) ∨ ∃ i : Nat, fiK q o n = ((o + i : Nat) : Int) ∧ 6 - n ≤ i ∧ i < 6 ∧ q i = true ∧ ∀ j, 6 - n ≤ j → j < i → q j = false
  | 0, _ => Or.inl ⟨rfl, fun i h h' => by omega⟩
  | n + 1, hn => by
    rw [fiK]
    by_cases c : q (5 - n) = true
    · rw [if_pos c]
      exact Or.inr ⟨5 - n, rfl, by omega, by omega, c, fun j h h' => by omega⟩
    · rw [if_neg c]
      have c' : q (5 - n) = false := Bool.eq_false_iff.mpr c
      rcases fi_sp q o n (by omega) with ⟨h1, h2⟩ | ⟨i, h1, h2, h3, h4, h5⟩
      · refine Or.inl ⟨h1, fun i l l' => ?_⟩
        by_cases e : i = 5 - n
        · rw [e]; exact c'
        · exact h2 i (by omega) l'
      · refine Or.inr ⟨i, h1, by omega, h3, h4, fun j l l' => ?_⟩
        by_cases e : j = 5 - n
        · rw [e]; exact c'
        · exact h5 j (by omega) l'
theorem fi_fs {H : List Nat} {q p : Nat → Bool} {s : Nat} (h1 : ∀ i g : Nat, H[i]? = some g → q i = p g) (h2 : ∀ i, H.length ≤ i → i < 6 → q i = false) (hl : H.length ≤ 6) : FS H s (H.find? p) (fiK q (6 * s) 6) := by
  rcases fi_sp q (6 * s) 6 (by omega) with ⟨k1, k2⟩ | ⟨i, k1, k2, k3, k4, k5⟩
  · exact Or.inl ⟨k1, find_n fun i g l hg => by rw [← h1 i g hg]; exact k2 i (by omega) (by omega)⟩
  · have hi : i < H.length := by
      apply Classical.byContradiction
      intro c
      rw [h2 i (by omega) k3] at k4
      cases k4
    obtain ⟨g, hg⟩ := get_s hi
    refine Or.inr ⟨i, g, by rw [k1]; omega, hg, find_s hg (by rw [← h1 i g hg]; exact k4) fun j g' l hg' => by rw [← h1 j g' hg']; exact k5 j (by omega) l⟩
theorem se_cP {H : List Nat} {q p : Nat → Bool} (h1 : ∀ i g : Nat, H[i]? = some g → q i = p g) (h2 : ∀ i, H.length ≤ i → i < 6 → q i = false) (hl : H.length ≤ 6) : ∀ n, n ≤ 6 → seK q n + cP p (H.take (6 - n)) = cP p H
  | 0, _ => by rw [seK, List.take_of_length_le (by omega), Nat.zero_add]
  | n + 1, hn => by
    have ih := se_cP h1 h2 hl n (by omega)
    rw [seK]
    rw [show 6 - n = (5 - n) + 1 by omega] at ih
    rw [show 6 - (n + 1) = 5 - n by omega]
    by_cases c : 5 - n < H.length
    · obtain ⟨g, hg⟩ := get_s c
      rw [cP_tk hg] at ih
      rw [h1 _ g hg]
      omega
    · rw [h2 (5 - n) (by omega) (by omega), if_neg (by decide)]
      rw [List.take_of_length_le (by omega)] at ih ⊢
      omega
section DU9
variable {X : MX} {N : NN} {H : Nat → List Nat} {b : Nat → Nat → Bool} {W C : Nat → Nat → Int}
def DT (N : NN) (H : Nat → List Nat) (b : Nat → Nat → Bool) (W C : Nat → Nat → Int) : Prop := DB (fL H b) W C ∧ (∀ s, s < 2 → DM N s (H s) (b s) (W s) (C s)) ∧ (∀ s, s < 2 → (H s).length ≤ 6) ∧ GB (N 88) ∧ ∀ S, S < 4096 → N 87 S = if fxM (N 84) (N 85) (N 86) (N 88) (N 87) S then 1 else 0
theorem wo_id {S s i g : Nat} {a m t : Int} (h : DT N H b W C) (hP : Pos (N 85) (N 86) (N 88) S s a m t) (hg : (H s)[i]? = some g) (hr : rG (fL H b) W a ≤ 12) :
    (caM (N 84) (N 85) S (lsM (N 85) S 12) (6 * s + i) && woM (N 86) (N 87) t S (6 * s + i)) = (!b s g && (decide (a < W s g) && wB (fL H b) W C 12 s g m t)) := by
  obtain ⟨hB, hD, hH, hG, hT⟩ := h
  have h2 := hP.2.1
  have hi := get_lt hg
  have hl := hH s h2
  have hd := (hD s h2).1 i g hg
  have bg := (hB s h2).2 g
  obtain ⟨k1, k2⟩ := ca_id hB hD hH hP hg
  rw [k1, Bool.and_assoc]
  cases hb : b s g with
  | true => rfl
  | false =>
    by_cases c : a < W s g
    · have key : woM (N 86) (N 87) t S (6 * s + i) = wB (fL H b) W C 12 s g m t := by
        unfold woM wB
        rw [hd.2.2]
        by_cases d : t - C s g < 0
        · rw [decide_eq_true d, decide_eq_true (show t < C s g by omega), Bool.true_or, Bool.true_or]
        · have hin : g ∈ fL H b s := List.mem_filter.mpr ⟨mem_g hg, by rw [hb]; rfl⟩
          have hrl := rG_lt h2 hin c
          have hp := pos_s (j := 6 * s + i) hG hP (by omega) (by omega) (k2 c) (by rw [hd.2.1]; exact c) (by rw [hd.2.2]; omega) (by rw [hd.2.2]; omega)
          rw [hd.2.1, hd.2.2] at hp
          have ih := T_win hB hD hH hG hT 12 _ _ _ _ _ hp (by omega)
          rw [ih, decide_eq_false d, decide_eq_false (show ¬ t < C s g by omega), Bool.false_or, Bool.false_or]
          cases wG (fL H b) W C 12 (1 - s) (W s g) (t - C s g) m
          · exact decide_eq_true rfl
          · exact decide_eq_false (by decide)
      rw [key]
    · rw [decide_eq_false c, Bool.false_and, Bool.false_and]
theorem no_id {S s i : Nat} {l : Int} (hD : DM N s (H s) (b s) (W s) (C s)) (l1 : (H s).length ≤ i) (l2 : i < 6) : caM (N 84) (N 85) S l (6 * s + i) = false := by
  have hd := hD.2 i l1 l2
  unfold caM
  rw [hd, decide_eq_false (fun z => z rfl), Bool.false_and]
theorem ref_plIn {S s : Nat} {a2 l : Int} (hS : S < 4096) (hs : s < 2) (h0 : -1 ≤ l) (h1 : l < 12) :
    Ok (lp (fun s => b_X12_playOf_51 X N s.1 s.2.1 s.2.2.1 s.2.2.2.1 s.2.2.2.2.1 s.2.2.2.2.2.1 s.2.2.2.2.2.2) ((S : Int), a2, l, (s : Int), (-1), (-1), 6 * (s : Int) + 5)) (fun o => o = ((S : Int), a2, (s : Int), fiK (fun i => caM (N 84) (N 85) S l (6 * s + i) && woM (N 86) (N 87) (glM (N 88 (1 - s)) (N 86) S ((1 - s : Nat) : Int) 12) S (6 * s + i)) (6 * s) 6, fiK (fun i => caM (N 84) (N 85) S l (6 * s + i)) (6 * s) 6)) := by
  obtain ⟨q1, hq1⟩ : ∃ q : Nat → Bool, q = (fun i => caM (N 84) (N 85) S l (6 * s + i) && woM (N 86) (N 87) (glM (N 88 (1 - s)) (N 86) S ((1 - s : Nat) : Int) 12) S (6 * s + i)) := ⟨_, rfl⟩
  obtain ⟨q2, hq2⟩ : ∃ q : Nat → Bool, q = (fun i => caM (N 84) (N 85) S l (6 * s + i)) := ⟨_, rfl⟩
  rw [← hq1, ← hq2]
  refine ok_up (fun i z => z = ((S : Int), a2, l, (s : Int), fiK q1 (6 * s) i.toNat, fiK q2 (6 * s) i.toNat, 6 * (s : Int) + 5 - i)) 6 (i0 := 0) ?_ ?_ (by omega) (by rw [Int.sub_zero]; rfl)
  · rintro i z a0 a1 rfl
    obtain ⟨k, rfl⟩ := Int.eq_ofNat_of_zero_le a0
    rw [Int.toNat_natCast, show ((k : Int) + 1).toNat = k + 1 by omega, fiK, fiK]
    have e1 : q1 (5 - k) = (caM (N 84) (N 85) S l (6 * s + (5 - k)) && woM (N 86) (N 87) (glM (N 88 (1 - s)) (N 86) S ((1 - s : Nat) : Int) 12) S (6 * s + (5 - k))) := by rw [hq1]
    have e2 : q2 (5 - k) = caM (N 84) (N 85) S l (6 * s + (5 - k)) := by rw [hq2]
    rw [e1, e2]
    generalize fiK q1 (6 * s) k = x1
    generalize fiK q2 (6 * s) k = x2
    dsimp only
    unfold b_X12_playOf_51 f_X12_playOf_l51_j86 f_X12_playOf_l51_j110 f_X12_playOf_l51_j112
    rw [w_id (x := 6 * (s : Int)) (by omega) (by omega), if_neg (by omega), show 6 * (s : Int) + 5 - (k : Int) = ((6 * s + (5 - k) : Nat) : Int) by omega, ref_canGive hS (by omega) (by omega) h0 h1, Option.bind_some, ref_isWon hS (by omega) hs, Option.bind_some, w_id (x := ((6 * s + (5 - k) : Nat) : Int) + -1) (by omega) (by omega), show ((6 * s + (5 - k) : Nat) : Int) + -1 = 6 * (s : Int) + 5 - ((k : Int) + 1) by omega]
    generalize caM (N 84) (N 85) S l (6 * s + (5 - k)) = u
    generalize woM (N 86) (N 87) (glM (N 88 (1 - s)) (N 86) S ((1 - s : Nat) : Int) 12) S (6 * s + (5 - k)) = v
    cases u
    · exact ok_ret rfl
    · cases v
      · exact ok_ret rfl
      · exact ok_ret rfl
  · rintro z rfl
    dsimp only
    unfold b_X12_playOf_51
    rw [w_id (x := 6 * (s : Int)) (by omega) (by omega), if_pos (by omega)]
    exact ok_ret rfl
end DU9
