/-! duel: sets that can come about, and who wins there -/
theorem sm_pt {f f' : Nat → Int} {j : Nat} {d : Int} (h : ∀ k, k ≠ j → f' k = f k) (hj : f' j = f j + d) : ∀ n, (n ≤ j → sm f' n = sm f n) ∧ (j < n → sm f' n = sm f n + d)
  | 0 => ⟨fun _ => rfl, fun q => by omega⟩
  | n + 1 => by
    have ih := sm_pt h hj n
    have e1 : sm f' (n + 1) = sm f' n + f' n := rfl
    have e2 : sm f (n + 1) = sm f n + f n := rfl
    refine ⟨fun q => ?_, fun q => ?_⟩
    · rw [e1, e2, ih.1 (by omega), h n (by omega)]
    · by_cases e : n = j
      · subst e
        rw [e1, e2, ih.1 (by omega), hj]; omega
      · rw [e1, e2, ih.2 (by omega), h n e]; omega
theorem lsM_in (w : Nat → Int) (S : Int) : ∀ n : Nat, lsM w S n = -1 ∨ bit S (lsM w S n) ≠ 0
  | 0 => Or.inl rfl
  | n + 1 => by
    have ih := lsM_in w S n
    rw [lsM]
    by_cases c : bit S n = 0
    · rw [if_pos c]; exact ih
    · rw [if_neg c]
      split
      · exact Or.inr c
      · split
        · exact Or.inr c
        · exact ih
theorem lsM_top {w : Nat → Int} {S : Int} {j : Nat} (hj : bit S j ≠ 0) : ∀ n : Nat, (∀ k : Nat, k < n → k ≠ j → bit S k ≠ 0 → w k < w j) → j < n → lsM w S n = (j : Int)
  | 0, _, q => by omega
  | n + 1, h, q => by
    rw [lsM]
    by_cases e : n = j
    · subst e
      rw [if_neg hj]
      have b := lsM_b w S n
      have i := lsM_in w S n
      by_cases c : lsM w S n = -1
      · rw [if_pos c]
      · rw [if_neg c, if_pos]
        have i' := i.resolve_left c
        obtain ⟨x, hx⟩ := Int.eq_ofNat_of_zero_le (show 0 ≤ lsM w S n by omega)
        rw [hx] at i' b ⊢
        rw [Int.toNat_natCast]
        exact h x (by omega) (by omega) i'
    · have ih := lsM_top hj n (fun k hk => h k (by omega)) (by omega)
      rw [ih]
      by_cases c : bit S n = 0
      · rw [if_pos c]
      · rw [if_neg c, if_neg (by omega), if_neg]
        have := h n (by omega) e c
        rw [Int.toNat_natCast]
        omega
theorem lsM_0 (w : Nat → Int) : ∀ n : Nat, lsM w 0 n = -1
  | 0 => rfl
  | n + 1 => by rw [lsM, if_pos (bit0 n), lsM_0 w n]
def glF (c : Nat → Int) (S x : Int) (k : Nat) : Int := if bit S k = 0 ∨ (k : Int) / 6 = x then 0 else c k
theorem glM_e {G : Int} {c : Nat → Int} {S x : Int} (hG : 0 ≤ G ∧ G ≤ 9999) (hc : ∀ k : Nat, k < 12 → bit S k ≠ 0 → 0 ≤ c k ∧ c k ≤ 99) : ∀ n : Nat, n ≤ 12 → glM G c S x n = G - sm (glF c S x) n
  | 0, _ => by show G = G - 0; omega
  | n + 1, h => by
    have ih := glM_e (x := x) hG hc n (by omega)
    have b := sm_b (f := glF c S x) (B := 99) (n := n) (fun k hk => by
      unfold glF
      by_cases q : bit S k = 0
      · rw [if_pos (Or.inl q)]; omega
      · have := hc k (by omega) q
        split <;> omega)
    have bn : 0 ≤ glF c S x n ∧ glF c S x n ≤ 99 := by
      unfold glF
      by_cases q : bit S n = 0
      · rw [if_pos (Or.inl q)]; omega
      · have := hc n (by omega) q
        split <;> omega
    rw [glM, ih, show (if bit S n = 0 ∨ (n : Int) / 6 = x then 0 else c n) = glF c S x n from rfl, w_id (by omega) (by omega), show sm (glF c S x) (n + 1) = sm (glF c S x) n + glF c S x n from rfl]
    omega
def Pos (w c G : Nat → Int) (S s : Nat) (a m t : Int) : Prop :=
  S < 4096 ∧ s < 2 ∧ s = sdM (lsM w S 12) ∧ a = (if lsM w S 12 = -1 then -1 else w (lsM w S 12).toNat) ∧ (∀ k : Nat, k < 12 → bit S k ≠ 0 → w k ≤ a ∧ 0 ≤ c k ∧ c k ≤ 99) ∧
  glM (G s) c S s 12 = m ∧ glM (G (1 - s)) c S ((1 - s : Nat) : Int) 12 = t ∧ (0 ≤ m ∧ m ≤ 9999) ∧ (0 ≤ t ∧ t ≤ 9999)
def GB (G : Nat → Int) : Prop := ∀ s, s < 2 → 0 ≤ G s ∧ G s ≤ 9999
theorem pos_0 {w c G : Nat → Int} (hG : GB G) : Pos w c G 0 0 (-1) (G 0) (G 1) := by
  have z : ∀ x : Int, ∀ n : Nat, sm (glF c 0 x) n = 0 := by
    intro x n
    induction n with
    | zero => rfl
    | succ n ih =>
      show sm (glF c 0 x) n + glF c 0 x n = 0
      rw [ih]
      unfold glF
      rw [if_pos (Or.inl (bit0 n))]
      rfl
  have hc : ∀ k : Nat, k < 12 → bit ((0 : Nat) : Int) k ≠ 0 → 0 ≤ c k ∧ c k ≤ 99 := fun k _ q => absurd (bit0 k) q
  refine ⟨by omega, by omega, ?_, ?_, fun k _ q => absurd (bit0 k) q, ?_, ?_, hG 0 (by omega), hG 1 (by omega)⟩
  · rw [show lsM w ((0 : Nat) : Int) 12 = -1 from lsM_0 w 12]; rfl
  · rw [show lsM w ((0 : Nat) : Int) 12 = -1 from lsM_0 w 12]; rfl
  · rw [glM_e (hG 0 (by omega)) hc 12 (by omega), show sm (glF c ((0 : Nat) : Int) ((0 : Nat) : Int)) 12 = 0 from z _ _]; omega
  · rw [glM_e (hG (1 - 0) (by omega)) hc 12 (by omega), show sm (glF c ((0 : Nat) : Int) ((1 - 0 : Nat) : Int)) 12 = 0 from z _ _]; show G 1 - 0 = G 1; omega
theorem pos_s {w c G : Nat → Int} {S s j : Nat} {a m t : Int} (hG : GB G) (h : Pos w c G S s a m t) (hj : j < 12) (hs : j / 6 = s) (hb : bit S j = 0) (hw : a < w j) (hc : 0 ≤ c j ∧ c j ≤ 99) (ht : 0 ≤ t - c j) :
    Pos w c G (S ||| 2 ^ j) (1 - s) (w j) (t - c j) m := by
  obtain ⟨h1, h2, h3, h4, h5, h6, h7, h8, h9⟩ := h
  have hbj : bit ((S ||| 2 ^ j : Nat) : Int) j ≠ 0 := by rw [bit_or, if_pos rfl]; omega
  have hk : ∀ k : Nat, k ≠ j → bit ((S ||| 2 ^ j : Nat) : Int) k = bit S k := fun k e => by rw [bit_or, if_neg e]
  have hl : lsM w ((S ||| 2 ^ j : Nat) : Int) 12 = (j : Int) := lsM_top hbj 12 (fun k l e q => by
    rw [hk k e] at q
    have := (h5 k l q).1
    omega) hj
  have h5' : ∀ k : Nat, k < 12 → bit ((S ||| 2 ^ j : Nat) : Int) k ≠ 0 → w k ≤ w j ∧ 0 ≤ c k ∧ c k ≤ 99 := by
    intro k l q
    by_cases e : k = j
    · rw [e]; exact ⟨Int.le_refl _, hc⟩
    · rw [hk k e] at q
      have := h5 k l q
      omega
  have hcS : ∀ k : Nat, k < 12 → bit (S : Int) k ≠ 0 → 0 ≤ c k ∧ c k ≤ 99 := fun k l q => (h5 k l q).2
  have hcS' : ∀ k : Nat, k < 12 → bit ((S ||| 2 ^ j : Nat) : Int) k ≠ 0 → 0 ≤ c k ∧ c k ≤ 99 := fun k l q => (h5' k l q).2
  have hsm : ∀ x : Nat, sm (glF c ((S ||| 2 ^ j : Nat) : Int) x) 12 = sm (glF c S x) 12 + (if (s : Int) = (x : Int) then 0 else c j) := by
    intro x
    refine (sm_pt (j := j) (fun k e => ?_) ?_ 12).2 hj
    · unfold glF
      rw [hk k e]
    · unfold glF
      rw [if_pos (Or.inl hb)]
      by_cases e : (s : Int) = (x : Int)
      · rw [if_pos (Or.inr (by omega)), if_pos e]; rfl
      · rw [if_neg (fun z => z.elim hbj (by omega)), if_neg e]; omega
  have g1 := glM_e (x := (s : Int)) (hG s h2) hcS 12 (by omega)
  have g2 := glM_e (x := ((1 - s : Nat) : Int)) (hG (1 - s) (by omega)) hcS 12 (by omega)
  rw [h6] at g1
  rw [h7] at g2
  refine ⟨or_lt h1 hj, by omega, ?_, ?_, h5', ?_, ?_, by omega, h8⟩
  · rw [hl]
    unfold sdM
    rw [if_neg (by omega)]
    omega
  · rw [hl, if_neg (by omega), Int.toNat_natCast]
  · rw [glM_e (hG (1 - s) (by omega)) hcS' 12 (by omega), hsm (1 - s), if_neg (by omega)]
    omega
  · rw [show 1 - (1 - s) = s by omega, glM_e (hG s h2) hcS' 12 (by omega), hsm s, if_pos rfl]
    omega
theorem exK_ex {q : Nat → Bool} : ∀ n, exK q n = true ↔ ∃ i, i < n ∧ q i = true
  | 0 => ⟨fun h => (by cases h), fun ⟨i, h, _⟩ => (by omega)⟩
  | n + 1 => by
    rw [exK, Bool.or_eq_true, exK_ex n]
    constructor
    · rintro (⟨i, h, q⟩ | h)
      · exact ⟨i, by omega, q⟩
      · exact ⟨n, by omega, h⟩
    · rintro ⟨i, h, q'⟩
      by_cases e : i = n
      · subst e; exact Or.inr q'
      · exact Or.inl ⟨i, by omega, q'⟩
theorem mem_i {g : Nat} {L : List Nat} (h : g ∈ L) : ∃ i : Nat, L[i]? = some g := by
  induction L with
  | nil => cases h
  | cons x l ih =>
    cases h with
    | head => exact ⟨0, rfl⟩
    | tail _ m =>
      obtain ⟨i, hi⟩ := ih m
      exact ⟨i + 1, by simpa using hi⟩
theorem exK_any {H : List Nat} {q p : Nat → Bool} (hl : H.length ≤ 6) (h1 : ∀ i g : Nat, H[i]? = some g → q i = p g) (h2 : ∀ i, H.length ≤ i → i < 6 → q i = false) : exK q 6 = H.any p := by
  apply Bool.eq_iff_iff.mpr
  rw [exK_ex, List.any_eq_true]
  constructor
  · rintro ⟨i, hi, e⟩
    by_cases c : i < H.length
    · obtain ⟨g, hg⟩ := get_s c
      exact ⟨g, mem_g hg, by rw [← h1 i g hg]; exact e⟩
    · rw [h2 i (by omega) hi] at e; cases e
  · rintro ⟨g, m, e⟩
    obtain ⟨i, hi⟩ := mem_i m
    have := get_lt hi
    exact ⟨i, by omega, by rw [h1 i g hi]; exact e⟩
section DU8
variable {N : NN} {H : Nat → List Nat} {b : Nat → Nat → Bool} {W C : Nat → Nat → Int}
def fL (H : Nat → List Nat) (b : Nat → Nat → Bool) (s : Nat) : List Nat := (H s).filter (fun g => !b s g)
theorem ca_id {G : Nat → Int} {S s i g : Nat} {a m t : Int} (hB : DB (fL H b) W C) (hD : ∀ s, s < 2 → DM N s (H s) (b s) (W s) (C s)) (hH : ∀ s, s < 2 → (H s).length ≤ 6) (hP : Pos (N 85) (N 86) G S s a m t) (hg : (H s)[i]? = some g) :
    caM (N 84) (N 85) S (lsM (N 85) S 12) (6 * s + i) = (!b s g && decide (a < W s g)) ∧ (a < W s g → bit S (6 * s + i : Nat) = 0) := by
  obtain ⟨h1, h2, h3, h4, h5, -⟩ := hP
  have hi := get_lt hg
  have hl := hH s h2
  have hd := (hD s h2).1 i g hg
  have bg := (hB s h2).2 g
  have hbit : a < W s g → bit S (6 * s + i : Nat) = 0 := by
    intro q
    apply Classical.byContradiction
    intro z
    have := (h5 (6 * s + i) (by omega) z).1
    rw [hd.2.1] at this
    omega
  refine ⟨?_, hbit⟩
  unfold caM
  rw [hd.1, hd.2.1]
  cases hb : b s g with
  | true => rw [if_pos rfl, decide_eq_false (fun z => z rfl)]; rfl
  | false =>
    rw [if_neg (show ¬ false = true by decide), decide_eq_true (show (g : Int) ≠ -1 by omega), Bool.true_and, Bool.not_false, Bool.true_and]
    by_cases c : a < W s g
    · rw [decide_eq_true c, decide_eq_true (hbit c), Bool.true_and]
      by_cases d : lsM (N 85) S 12 = -1
      · rw [decide_eq_true d]; rfl
      · rw [if_neg d] at h4
        rw [← h4, decide_eq_true c, Bool.or_true]
    · rw [decide_eq_false c]
      have d : ¬ lsM (N 85) S 12 = -1 := by
        intro d
        rw [if_pos d] at h4
        omega
      rw [if_neg d] at h4
      rw [← h4, decide_eq_false c, decide_eq_false d, Bool.or_false, Bool.and_false]
theorem T_win {G T : Nat → Int} (hB : DB (fL H b) W C) (hD : ∀ s, s < 2 → DM N s (H s) (b s) (W s) (C s)) (hH : ∀ s, s < 2 → (H s).length ≤ 6) (hG : GB G) (hT : ∀ S, S < 4096 → T S = if fxM (N 84) (N 85) (N 86) G T S then 1 else 0) :
    ∀ (f S s : Nat) (a m t : Int), Pos (N 85) (N 86) G S s a m t → rG (fL H b) W a < f → T S = if wG (fL H b) W C f s a m t then 1 else 0
  | 0, _, _, _, _, _, _, h => by omega
  | f + 1, S, s, a, m, t, hP, hr => by
    have hP' := hP
    obtain ⟨h1, h2, h3, h4, h5, h6, h7, h8, h9⟩ := hP'
    rw [hT S h1]
    suffices e : fxM (N 84) (N 85) (N 86) G T S = wG (fL H b) W C (f + 1) s a m t by rw [e]
    unfold fxM
    rw [← h3, h7, wG, show fL H b s = (H s).filter (fun g => !b s g) from rfl, List.any_filter]
    refine exK_any (hH s h2) (fun i g hg => ?_) (fun i l1 l2 => ?_)
    · have hi := get_lt hg
      have hl := hH s h2
      have hd := (hD s h2).1 i g hg
      have bg := (hB s h2).2 g
      obtain ⟨k1, k2⟩ := ca_id hB hD hH hP hg
      rw [k1, Bool.and_assoc]
      cases hb : b s g with
      | true => rfl
      | false =>
        have key : a < W s g → woM (N 86) T t S (6 * s + i) = (decide (t - C s g < 0) || !wG (fL H b) W C f (1 - s) (W s g) (t - C s g) m) := by
          intro c
          unfold woM
          rw [hd.2.2]
          by_cases d : t - C s g < 0
          · rw [decide_eq_true d, decide_eq_true (show t < C s g by omega), Bool.true_or, Bool.true_or]
          · have hin : g ∈ fL H b s := List.mem_filter.mpr ⟨mem_g hg, by rw [hb]; rfl⟩
            have hrl := rG_lt h2 hin c
            have hp := pos_s (j := 6 * s + i) hG hP (by omega) (by omega) (k2 c) (by rw [hd.2.1]; exact c) (by rw [hd.2.2]; omega) (by rw [hd.2.2]; omega)
            rw [hd.2.1, hd.2.2] at hp
            have ih := T_win hB hD hH hG hT f _ _ _ _ _ hp (by omega)
            rw [ih, decide_eq_false d, decide_eq_false (show ¬ t < C s g by omega), Bool.false_or, Bool.false_or]
            cases wG (fL H b) W C f (1 - s) (W s g) (t - C s g) m
            · exact decide_eq_true rfl
            · exact decide_eq_false (by decide)
        by_cases c : a < W s g
        · rw [key c]
        · rw [decide_eq_false c, Bool.false_and, Bool.false_and]
    · have hd := (hD s h2).2 i l1 l2
      unfold caM
      rw [hd, decide_eq_false (fun z => z rfl)]
      rfl
end DU8
