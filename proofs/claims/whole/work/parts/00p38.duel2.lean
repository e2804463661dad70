/-! duel: the game, and how the class finds who wins -/
def cP (p : Nat → Bool) : List Nat → Nat
  | [] => 0
  | x :: l => cP p l + (if p x = true then 1 else 0)
theorem cP_le {p q : Nat → Bool} (h : ∀ x, p x = true → q x = true) : ∀ L : List Nat, cP p L ≤ cP q L
  | [] => Nat.le_refl _
  | x :: l => by
    have := cP_le h l
    rw [cP, cP]
    by_cases c : p x = true
    · rw [if_pos c, if_pos (h x c)]; omega
    · rw [if_neg c]; omega
theorem cP_lt {p q : Nat → Bool} (h : ∀ x, p x = true → q x = true) {g : Nat} (hq : q g = true) (hp : p g = false) : ∀ {L : List Nat}, g ∈ L → cP p L + 1 ≤ cP q L
  | [], m => by cases m
  | x :: l, m => by
    have a := cP_le h l
    rw [cP, cP]
    cases m with
    | head => rw [if_neg (by rw [hp]; decide), if_pos hq]; omega
    | tail _ m' =>
      have b := cP_lt h hq hp m'
      by_cases c : p x = true
      · rw [if_pos c, if_pos (h x c)]; omega
      · rw [if_neg c]; omega
theorem cP_len (p : Nat → Bool) : ∀ L : List Nat, cP p L ≤ L.length
  | [] => Nat.le_refl _
  | x :: l => by
    have := cP_len p l
    rw [cP, List.length_cons]
    split <;> omega
def wG (L : Nat → List Nat) (W C : Nat → Nat → Int) : Nat → Nat → Int → Int → Int → Bool
  | 0, _, _, _, _ => false
  | f + 1, s, a, m, t => (L s).any (fun g => decide (a < W s g) && (decide (t - C s g < 0) || !wG L W C f (1 - s) (W s g) (t - C s g) m))
def rG (L : Nat → List Nat) (W : Nat → Nat → Int) (a : Int) : Nat := cP (fun g => decide (a < W 0 g)) (L 0) + cP (fun g => decide (a < W 1 g)) (L 1)
theorem rG_lt {L : Nat → List Nat} {W : Nat → Nat → Int} {a : Int} {s g : Nat} (hs : s < 2) (hg : g ∈ L s) (h : a < W s g) : rG L W (W s g) + 1 ≤ rG L W a := by
  have mono : ∀ z x, decide (W s g < W z x) = true → decide (a < W z x) = true := fun z x q => decide_eq_true (by have := of_decide_eq_true q; omega)
  have e : s = 0 ∨ s = 1 := by omega
  unfold rG
  rcases e with rfl | rfl
  · have x1 := cP_lt (p := fun x => decide (W 0 g < W 0 x)) (q := fun x => decide (a < W 0 x)) (mono 0) (decide_eq_true h) (decide_eq_false (by omega)) hg
    have x2 := cP_le (p := fun x => decide (W 0 g < W 1 x)) (q := fun x => decide (a < W 1 x)) (mono 1) (L 1)
    omega
  · have x1 := cP_lt (p := fun x => decide (W 1 g < W 1 x)) (q := fun x => decide (a < W 1 x)) (mono 1) (decide_eq_true h) (decide_eq_false (by omega)) hg
    have x2 := cP_le (p := fun x => decide (W 1 g < W 0 x)) (q := fun x => decide (a < W 0 x)) (mono 0) (L 0)
    omega
theorem any_c {L : List Nat} {p q : Nat → Bool} (h : ∀ g, g ∈ L → p g = q g) : L.any p = L.any q := by
  induction L with
  | nil => rfl
  | cons x l ih =>
    rw [List.any_cons, List.any_cons, h x (List.Mem.head _), ih (fun g m => h g (List.Mem.tail _ m))]
theorem wG_st {L : Nat → List Nat} {W C : Nat → Nat → Int} : ∀ (f f' s : Nat) (a m t : Int), s < 2 → rG L W a < f → rG L W a < f' → wG L W C f s a m t = wG L W C f' s a m t
  | 0, _, _, _, _, _, _, h, _ => by omega
  | _ + 1, 0, _, _, _, _, _, _, h => by omega
  | f + 1, f' + 1, s, a, m, t, hs, h, h' => by
    rw [wG, wG]
    refine any_c fun g hg => ?_
    by_cases c : a < W s g
    · have := rG_lt hs hg c
      rw [wG_st f f' (1 - s) (W s g) (t - C s g) m (by omega) (by omega) (by omega)]
    · rw [decide_eq_false c]; rfl
theorem mem_g {L : List Nat} {i g : Nat} (h : L[i]? = some g) : g ∈ L := by
  induction L generalizing i with
  | nil => cases h
  | cons x l ih =>
    cases i with
    | zero => simp at h; subst h; exact List.Mem.head _
    | succ i => exact List.Mem.tail _ (ih (by simpa using h))
theorem any_t {L : List Nat} {p : Nat → Bool} {i g : Nat} (h : L[i]? = some g) (q : p g = true) : L.any p = true := List.any_eq_true.mpr ⟨g, mem_g h, q⟩
theorem any_f {L : List Nat} {p : Nat → Bool} (h : ∀ i g : Nat, i < L.length → L[i]? = some g → p g = false) : L.any p = false := by
  induction L with
  | nil => rfl
  | cons x l ih =>
    rw [List.any_cons, h 0 x (by simp) rfl, ih (fun i g q q' => h (i + 1) g (by simp; omega) (by simpa using q'))]
    rfl
theorem get_s {L : List Nat} {i : Nat} (h : i < L.length) : ∃ g, L[i]? = some g := ⟨L[i], List.getElem?_eq_getElem h⟩
def DB (L : Nat → List Nat) (W C : Nat → Nat → Int) : Prop := ∀ s, s < 2 → (L s).length ≤ 6 ∧ ∀ g, 0 ≤ W s g ∧ W s g ≤ 999 ∧ 0 ≤ C s g ∧ C s g ≤ 99
def wB (L : Nat → List Nat) (W C : Nat → Nat → Int) (f s g : Nat) (m t : Int) : Bool := decide (t - C s g < 0) || !wG L W C f (1 - s) (W s g) (t - C s g) m
section DU2
variable {X : MX} {N : NN} {L : Nat → List Nat} {W C : Nat → Nat → Int}
theorem c_winsBy {fr : NN → Int → Int → Int → Int → Int → Option Int} {e s i g : Nat} {m t d : Int} (hB : DB L W C) (hD : ∀ s, s < 2 → DC N s (L s) (W s) (C s)) (hs : s < 2) (hg : (L s)[i]? = some g) (ht : 0 ≤ t ∧ t ≤ 9999) (hd : 0 ≤ d ∧ d ≤ 13)
    (hr : 0 ≤ t - C s g → fr N ((1 - s : Nat) : Int) (W s g) (t - C s g) m (d + 1) = some (if wG L W C e (1 - s) (W s g) (t - C s g) m then 1 else 0)) :
    f_X1_winsBy fr X N (6 * (s : Int) + (i : Int)) m t d = some (if wB L W C e s g m t then 1 else 0) := by
  have b := hB s hs
  have bg := b.2 g
  have hi := get_lt hg
  have h := (hD s hs).2 i g hg
  unfold f_X1_winsBy f_X1_winsBy_j41 f_X1_winsBy_j46
  simp (disch := omega) only [gdp]
  rw [show (6 * (s : Int) + (i : Int)).toNat = 6 * s + i by omega, h.2.1, h.2.2, w_id (x := t - C s g) (by omega) (by omega), w_id (x := d + 1) (by omega) (by omega), div_id (by omega) (by omega) (by omega) (by omega), show (6 * (s : Int) + (i : Int)) / 6 = (s : Int) by omega, w_id (x := 1 - (s : Int)) (by omega) (by omega), show (1 : Int) - (s : Int) = ((1 - s : Nat) : Int) by omega]
  unfold wB
  by_cases c : t - C s g < 0
  · rw [if_pos c, decide_eq_true c]; rfl
  · rw [if_neg c, hr (by omega), Option.bind_some, decide_eq_false c]
    cases wG L W C e (1 - s) (W s g) (t - C s g) m <;> rfl
theorem c_wins (hB : DB L W C) (hD : ∀ s, s < 2 → DC N s (L s) (W s) (C s)) : ∀ (e f s : Nat) (a m t d : Int), d = 13 - (e : Int) → e ≤ 13 → e + 1 ≤ f → s < 2 → (0 ≤ m ∧ m ≤ 9999) → (0 ≤ t ∧ t ≤ 9999) →
    f_X1_wins X f N s a m t d = some (if wG L W C e s a m t then 1 else 0)
  | _, 0, _, _, _, _, _, _, _, h, _, _, _ => by omega
  | 0, f + 1, s, a, m, t, d, hd, _, _, hs, hm, ht => by
    rw [f_X1_wins]
    unfold f_X1_wins_step
    have : lp (fun s => b_X1_wins_3 (f_X1_wins X f) X N s.1 s.2.1 s.2.2.1 s.2.2.2.1 s.2.2.2.2.1 s.2.2.2.2.2) ((s : Int), a, m, t, d, 0) = some (.inl ()) := by
      refine lp_end ?_
      dsimp only
      unfold b_X1_wins_3
      rw [gdp (by omega)]
      split
      · rw [if_pos (by omega)]
      · rfl
    dsimp only
    rw [this]
    rfl
  | e + 1, f + 1, s, a, m, t, d, hd, he, hf, hs, hm, ht => by
    rw [f_X1_wins]
    unfold f_X1_wins_step
    have b := hB s hs
    have hDs := hD s hs
    have H : Ok (lp (fun s => b_X1_wins_3 (f_X1_wins X f) X N s.1 s.2.1 s.2.2.1 s.2.2.2.1 s.2.2.2.2.1 s.2.2.2.2.2) ((s : Int), a, m, t, d, 0)) (fun o => o = if wG L W C (e + 1) s a m t = true then .inr () else .inl ()) := by
      refine ok_up (fun i z => z = ((s : Int), a, m, t, d, i) ∧ ∀ j g : Nat, (j : Int) < i → (L s)[j]? = some g → (decide (a < W s g) && wB L W C e s g m t) = false) ((L s).length : Int) (i0 := 0) ?_ ?_ (by omega) ⟨rfl, fun j g q => by omega⟩
      · rintro i z a0 a1 ⟨rfl, hj⟩
        obtain ⟨k, rfl⟩ := Int.eq_ofNat_of_zero_le a0
        obtain ⟨g, hg⟩ := get_s (L := L s) (i := k) (by omega)
        have h := hDs.2 k g hg
        have bg := b.2 g
        dsimp only
        unfold b_X1_wins_3 f_X1_wins_l3_j57
        rw [gdp (by omega), Int.toNat_natCast, hDs.1, if_pos a1, if_neg (show ¬ 12 < d by omega), w_id (x := (s : Int) * 6) (by omega) (by omega), w_id (x := (s : Int) * 6 + (k : Int)) (by omega) (by omega), gdp (by omega), show ((s : Int) * 6 + (k : Int)) = 6 * (s : Int) + (k : Int) by omega, show (6 * (s : Int) + (k : Int)).toNat = 6 * s + k by omega, h.2.1, w_id (x := (k : Int) + 1) (by omega) (by omega)]
        have nx : (decide (a < W s g) && wB L W C e s g m t) = false → ∀ j g' : Nat, (j : Int) < (k : Int) + 1 → (L s)[j]? = some g' → (decide (a < W s g') && wB L W C e s g' m t) = false := by
          intro q j g' l q'
          by_cases ej : j = k
          · subst ej; rw [hg] at q'; cases q'; exact q
          · exact hj j g' (by omega) q'
        by_cases c : a < W s g
        · rw [if_pos c, c_winsBy (e := e) hB hD hs hg ht (by omega) (fun p => c_wins hB hD e f (1 - s) (W s g) (t - C s g) m (d + 1) (by omega) (by omega) (by omega) (by omega) (by omega) hm), Option.bind_some]
          cases hw : wB L W C e s g m t with
          | false =>
            rw [if_pos (show (if false = true then (1 : Int) else 0) = 0 from rfl)]
            exact ok_ret ⟨rfl, nx (by rw [hw, Bool.and_false])⟩
          | true =>
            rw [if_neg (by decide)]
            refine ok_ret ?_
            have : wG L W C (e + 1) s a m t = true := any_t hg (by rw [decide_eq_true c, Bool.true_and]; exact hw)
            dsimp only
            rw [if_pos this]
        · rw [if_neg c]
          exact ok_ret ⟨rfl, nx (by rw [decide_eq_false c, Bool.false_and])⟩
      · rintro z ⟨rfl, hj⟩
        dsimp only
        unfold b_X1_wins_3
        rw [gdp (by omega), Int.toNat_natCast, hDs.1, if_neg (by omega)]
        refine ok_ret ?_
        have : wG L W C (e + 1) s a m t = false := any_f fun i g q q' => hj i g (by omega) q'
        dsimp only
        rw [this, if_neg (by decide)]
    obtain ⟨o, eo, po⟩ := H
    dsimp only
    rw [eo, po]
    cases wG L W C (e + 1) s a m t <;> rfl
end DU2
