/-! the best of masks; sorted rows and how many are high -/
def bestK (C : Nat → Bool) (P : Nat → Int) : Nat → Option Nat
  | 0 => none
  | k + 1 => match bestK C P k with
    | none => if C k = true then some k else none
    | some b => if C k = true ∧ P k < P b then some k else some b
theorem best_spec (C : Nat → Bool) (P : Nat → Int) : ∀ n, match bestK C P n with
    | none => ∀ s, s < n → C s = false
    | some b => b < n ∧ C b = true ∧ ∀ s, s < n → C s = true → P b < P s ∨ (P b = P s ∧ b ≤ s)
  | 0 => fun s hs => by omega
  | n + 1 => by
    have ih := best_spec C P n
    rw [bestK]
    cases hb : bestK C P n with
    | none =>
      rw [hb] at ih
      dsimp only at ih ⊢
      by_cases c : C n = true
      · rw [if_pos c]
        refine ⟨by omega, c, fun s hs q => ?_⟩
        by_cases e : s = n
        · rw [e]; exact Or.inr ⟨rfl, Nat.le_refl _⟩
        · have := ih s (by omega); rw [this] at q; cases q
      · rw [if_neg c]
        intro s hs
        by_cases e : s = n
        · rw [e]; exact Bool.eq_false_iff.mpr c
        · exact ih s (by omega)
    | some b =>
      rw [hb] at ih
      dsimp only at ih ⊢
      obtain ⟨i1, i2, i3⟩ := ih
      by_cases c : C n = true ∧ P n < P b
      · rw [if_pos c]
        refine ⟨by omega, c.1, fun s hs q => ?_⟩
        by_cases e : s = n
        · rw [e]; exact Or.inr ⟨rfl, Nat.le_refl _⟩
        · have := i3 s (by omega) q
          have := c.2
          omega
      · rw [if_neg c]
        refine ⟨by omega, i2, fun s hs q => ?_⟩
        by_cases e : s = n
        · subst e
          have : ¬ P s < P b := fun z => c ⟨q, z⟩
          omega
        · exact i3 s (by omega) q
/-- if each of C has one of D below it that is no dearer, and D are some of C, both have the same best -/
theorem best_sub {C D : Nat → Bool} {P Q : Nat → Int} {n : Nat} (hD : ∀ s, s < n → D s = true → C s = true ∧ Q s = P s) (hC : ∀ s, s < n → C s = true → ∃ s', s' ≤ s ∧ D s' = true ∧ P s' ≤ P s) : bestK C P n = bestK D Q n := by
  have a := best_spec C P n
  have b := best_spec D Q n
  cases h1 : bestK C P n with
  | none =>
    rw [h1] at a
    cases h2 : bestK D Q n with
    | none => rfl
    | some y =>
      rw [h2] at b
      have := a y b.1
      rw [(hD y b.1 b.2.1).1] at this
      cases this
  | some x =>
    rw [h1] at a
    obtain ⟨a1, a2, a3⟩ := a
    obtain ⟨x', l1, l2, l3⟩ := hC x a1 a2
    have hx' := hD x' (by omega) l2
    have e : x' = x := by
      have := a3 x' (by omega) hx'.1
      omega
    subst e
    cases h2 : bestK D Q n with
    | none => rw [h2] at b; have := b x' a1; rw [l2] at this; cases this
    | some y =>
      rw [h2] at b
      obtain ⟨b1, b2, b3⟩ := b
      have p := b3 x' a1 l2
      have hy := hD y b1 b2
      have q := a3 y b1 hy.1
      have : y = x' := by rw [hy.2, hx'.2] at p; omega
      rw [this]
/-! counting -/
def cntG (w : Int) (f : Nat → Int) (n : Nat) : Int := sm (fun j => if w ≤ f j then 1 else 0) n
theorem cntG_s (w : Int) (f : Nat → Int) (n : Nat) : cntG w f (n + 1) = cntG w f n + (if w ≤ f n then 1 else 0) := rfl
theorem cntG_c {w : Int} {f g : Nat → Int} {n : Nat} (h : ∀ j, j < n → f j = g j) : cntG w f n = cntG w g n := sm_c fun k hk => by rw [h k hk]
theorem insF_t {f : Nat → Int} {v : Int} {n j : Nat} (c : v < f n) (hj : j ≤ n + 1) : insF f v (n + 1) j = if j = n + 1 then f n else insF f v n j := by
  have l := insP_le f v n
  unfold insF
  rw [insP, if_pos c]
  by_cases e : j = n + 1
  · rw [if_pos e, if_neg (by omega), if_neg (by omega), e]; rfl
  · rw [if_neg e]
theorem insF_f {f : Nat → Int} {v : Int} {n j : Nat} (c : ¬ v < f n) (hj : j ≤ n + 1) : insF f v (n + 1) j = if j = n + 1 then v else f j := by
  unfold insF
  rw [insP, if_neg c]
  by_cases e : j = n + 1
  · rw [if_pos e, if_neg (by omega), if_pos e]
  · rw [if_pos (show j < n + 1 by omega), if_neg e]
theorem cnt_ins {w v : Int} {f : Nat → Int} : ∀ n, cntG w (insF f v n) (n + 1) = cntG w f n + (if w ≤ v then 1 else 0)
  | 0 => by
    rw [cntG_s]
    have : insF f v 0 0 = v := by unfold insF; simp [insP]
    rw [this]
    rfl
  | n + 1 => by
    rw [cntG_s]
    by_cases c : v < f n
    · rw [insF_t c (Nat.le_refl _), if_pos rfl, cntG_c (g := insF f v n) (fun j hj => by rw [insF_t c (by omega), if_neg (by omega)]), cnt_ins n, cntG_s]
      omega
    · rw [insF_f c (Nat.le_refl _), if_pos rfl, cntG_c (g := f) (fun j hj => by rw [insF_f c (by omega), if_neg (by omega)])]
theorem cnt_srt {w : Int} {v : Nat → Int} : ∀ n, cntG w (srt v n) n = cntG w v n
  | 0 => rfl
  | n + 1 => by
    show cntG w (insF (srt v n) (v n) n) (n + 1) = _
    rw [cnt_ins, cnt_srt n, cntG_s]
def Srt (f : Nat → Int) (n : Nat) : Prop := ∀ i j, i ≤ j → j < n → f i ≤ f j
theorem ins_srt {f : Nat → Int} {v : Int} : ∀ n, Srt f n → Srt (insF f v n) (n + 1)
  | 0, _ => fun i j h1 h2 => by rw [show i = j by omega]; exact Int.le_refl _
  | n + 1, h => by
    intro i j h1 h2
    by_cases c : v < f n
    · rw [insF_t c (by omega), insF_t c (by omega)]
      by_cases e : j = n + 1
      · rw [if_pos e]
        by_cases e' : i = n + 1
        · rw [if_pos e']; exact Int.le_refl _
        · rw [if_neg e']
          unfold insF
          split
          · exact h i n (by omega) (by omega)
          · split
            · omega
            · exact h (i - 1) n (by omega) (by omega)
      · rw [if_neg e, if_neg (by omega)]
        exact ins_srt n (fun a b p q => h a b p (by omega)) i j h1 (by omega)
    · rw [insF_f c (by omega), insF_f c (by omega)]
      by_cases e : j = n + 1
      · rw [if_pos e]
        by_cases e' : i = n + 1
        · rw [if_pos e']; exact Int.le_refl _
        · rw [if_neg e']
          have := h i n (by omega) (by omega)
          omega
      · rw [if_neg e, if_neg (by omega)]
        exact h i j h1 (by omega)
theorem srt_srt {v : Nat → Int} : ∀ n, Srt (srt v n) n
  | 0 => fun i j _ h => by omega
  | n + 1 => ins_srt n (srt_srt n)
theorem srt_b {v : Nat → Int} {a b : Int} (h : ∀ j, a ≤ v j ∧ v j ≤ b) : ∀ n j, j < n → a ≤ srt v n j ∧ srt v n j ≤ b
  | 0, j, hj => by omega
  | n + 1, j, hj => by
    have l := insP_le (srt v n) (v n) n
    show a ≤ insF (srt v n) (v n) n j ∧ insF (srt v n) (v n) n j ≤ b
    unfold insF
    split
    · exact srt_b h n j (by omega)
    · split
      · exact h n
      · exact srt_b h n (j - 1) (by omega)
theorem cnt_lo {w : Int} {f : Nat → Int} {m : Nat} : ∀ n, m ≤ n → (∀ j, m ≤ j → j < n → w ≤ f j) → (n : Int) - m ≤ cntG w f n
  | 0, h, _ => by show ((0 : Nat) : Int) - m ≤ 0; omega
  | n + 1, h, q => by
    rw [cntG_s]
    by_cases e : m = n + 1
    · have : 0 ≤ cntG w f n := (sm_b (B := 1) fun k _ => by split <;> omega).1
      split <;> omega
    · have := cnt_lo n (by omega) fun j p p' => q j p (by omega)
      rw [if_pos (q n (by omega) (by omega))]
      omega
theorem cnt_hi {w : Int} {f : Nat → Int} {m : Nat} : ∀ n, (∀ j, j < m → j < n → f j < w) → m ≤ n → cntG w f n ≤ (n : Int) - m
  | 0, _, h => by show (0 : Int) ≤ ((0 : Nat) : Int) - m; omega
  | n + 1, q, h => by
    rw [cntG_s]
    by_cases e : m = n + 1
    · subst e
      have z := cnt_hi (m := n) n (fun j p p' => q j (by omega) (by omega)) (Nat.le_refl _)
      have := q n (by omega) (by omega)
      rw [if_neg (by omega)]
      omega
    · have := cnt_hi n (fun j p p' => q j p (by omega)) (by omega)
      split <;> omega
/-- the one at m is high if and only if so many are -/
theorem srt_hi {w : Int} {v : Nat → Int} {n m : Nat} (hm : m < n) : w ≤ srt v n m ↔ (n : Int) - m ≤ cntG w v n := by
  rw [← cnt_srt n]
  have s := srt_srt (v := v) n
  constructor
  · intro h
    exact cnt_lo n (by omega) fun j p q => by have := s m j p q; omega
  · intro h
    apply Classical.byContradiction
    intro c
    have := cnt_hi (w := w) (f := srt v n) (m := m + 1) n (fun j p q => by have := s j m (by omega) hm; omega) (by omega)
    omega
theorem bit_tab : ∀ s : Fin 32, ∀ i : Fin 5, bit (s.val : Int) (i.val : Int) = 1 → 2 ^ i.val ≤ s.val ∧ ∀ j : Fin 5, bit ((s.val - 2 ^ i.val : Nat) : Int) (j.val : Int) = if j.val = i.val then 0 else bit (s.val : Int) (j.val : Int) := by decide +kernel
theorem bit_rm {s i : Nat} (hs : s < 32) (hi : i < 5) (h : bit (s : Int) (i : Int) = 1) : 2 ^ i ≤ s ∧ ∀ j : Nat, j < 5 → bit ((s - 2 ^ i : Nat) : Int) (j : Int) = if j = i then 0 else bit (s : Int) (j : Int) := by
  obtain ⟨a, b⟩ := bit_tab ⟨s, hs⟩ ⟨i, hi⟩ h
  exact ⟨a, fun j hj => b ⟨j, hj⟩⟩
