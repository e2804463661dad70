/-! a year passes: on both sides the row changes alike -/
def dropK (r : Nat → Int) (l : Int) : Nat → (Nat → Int)
  | 0 => r
  | k + 1 => ru (ru (dropK r l k) (141 + 2 * (6 * l + (k : Int))) (-1)) (141 + 2 * (6 * (k : Int) + l)) (-1)
def hasS (r : Nat → Int) (b l : Int) : Int := min 9999 (rl r l 0 + (if bit b l = 1 then 0 else rl r l 1))
def lordS (r : Nat → Int) (lw : Nat → Law) (b l : Int) : Nat → Int :=
  let r1 := ru r (9 + 6 * l + 0) (if hasS r b l < costsS r lw l (r 6) then 0 else hasS r b l - costsS r lw l (r 6))
  if hasS r b l < costsS r lw l (r 6) then dropK (ru r1 (9 + 6 * l + 2) 1) l 6 else r1
def fallS (r : Nat → Int) (lw : Nat → Law) (b l : Int) : Int := if hasS r b l < costsS r lw l (r 6) ∧ rl r l 2 = 0 then 1 else 0
def yearK (r : Nat → Int) (lw : Nat → Law) (b : Int) : Nat → (Nat → Int) × Int
  | 0 => (ru r 6 (r 6 + 1), 0)
  | k + 1 => (lordS (yearK r lw b k).1 lw b (k : Int), (yearK r lw b k).2 + fallS (yearK r lw b k).1 lw b (k : Int))
def loseS (r : Nat → Int) (a f : Int) : Nat → Int :=
  if rd r a f ≠ -1 ∧ rs r a f ≤ r 6 - r 7 then
    ru (ru (ru r (9 + 6 * a + 4) (m_w (rl r a 4 + 1))) (9 + 6 * f + 5) (m_w (rl (ru r (9 + 6 * a + 4) (m_w (rl r a 4 + 1))) f 5 + 1))) (141 + 2 * (6 * a + f)) (-1)
  else r
def losK (r : Nat → Int) : Nat → (Nat → Int)
  | 0 => r
  | k + 1 => loseS (losK r k) ((k / 6 : Nat) : Int) ((k % 6 : Nat) : Int)
def waitS (r : Nat → Int) (lw : Nat → Law) (b : Int) : (Nat → Int) × Int := (losK (yearK r lw b (r 0).toNat).1 36, (yearK r lw b (r 0).toNat).2)
/-- what no year changes -/
def Sm (r r' : Nat → Int) : Prop := (∀ j, j < 6 → r' j = r j) ∧ r' 7 = r 7 ∧ r' 8 = r 8 ∧ (∀ j, 45 ≤ j → j < 141 → r' j = r j) ∧ (∀ j, 213 ≤ j → r' j = r j)
theorem sm_rfl {r : Nat → Int} : Sm r r := ⟨fun _ _ => rfl, rfl, rfl, fun _ _ _ => rfl, fun _ _ => rfl⟩
theorem sm_tr {r r' r'' : Nat → Int} (h : Sm r r') (h' : Sm r' r'') : Sm r r'' :=
  ⟨fun j q => (h'.1 j q).trans (h.1 j q), h'.2.1.trans h.2.1, h'.2.2.1.trans h.2.2.1, fun j p q => (h'.2.2.2.1 j p q).trans (h.2.2.2.1 j p q), fun j q => (h'.2.2.2.2 j q).trans (h.2.2.2.2 j q)⟩
theorem sm_ru {r r' : Nat → Int} {i v : Int} (h : Sm r r') (hi : i = 6 ∨ (9 ≤ i ∧ i < 45) ∨ (141 ≤ i ∧ i < 213)) : Sm r (ru r' i v) :=
  ⟨fun j q => (ru_ne (by omega)).trans (h.1 j q), (ru_ne (by omega)).trans h.2.1, (ru_ne (by omega)).trans h.2.2.1, fun j p q => (ru_ne (by omega)).trans (h.2.2.2.1 j p q), fun j q => (ru_ne (by omega)).trans (h.2.2.2.2 j q)⟩
section YR
variable {B : Int} {r : Nat → Int} {lw : Nat → Law}
theorem drop_vr {l : Int} (h : Vr B r) (h0 : 0 ≤ l) (h1 : l ≤ 5) : ∀ k, k ≤ 6 → Vr B (dropK r l k) ∧ Sm r (dropK r l k) ∧ dropK r l k 6 = r 6
  | 0, _ => ⟨h, sm_rfl, rfl⟩
  | k + 1, hk => by
    obtain ⟨a, b, c⟩ := drop_vr h h0 h1 k (by omega)
    refine ⟨vr_debt (vr_debt a h0 h1 (by omega) (by omega) (Or.inl rfl)) (by omega) (by omega) h0 h1 (Or.inl rfl), sm_ru (sm_ru b (by omega)) (by omega), ?_⟩
    show ru (ru (dropK r l k) (141 + 2 * (6 * l + (k : Int))) (-1)) (141 + 2 * (6 * (k : Int) + l)) (-1) 6 = r 6
    rw [ru_ne (by omega), ru_ne (by omega), c]
theorem drop_all {l : Int} (h : Vr B r) (h0 : 0 ≤ l) (h1 : l ≤ 5) : ∀ n k : Nat, k + n = 6 → r 0 ≤ (k : Int) → dropK r l 6 = dropK r l k
  | 0, k, e, _ => by rw [show k = 6 by omega]
  | n + 1, k, e, hk => by
    rw [drop_all h h0 h1 n (k + 1) (by omega) (by omega)]
    obtain ⟨a, b, c⟩ := drop_vr h h0 h1 k (by omega)
    have r0 : dropK r l k 0 = r 0 := b.1 0 (by omega)
    have d1 : rd (dropK r l k) l (k : Int) = -1 := by
      apply Classical.byContradiction
      intro q
      have := (a.2.2.2.2.2.2.2.2.2.2.2.1 l (k : Int) h0 h1 (by omega) (by omega)).2.2.2.2 q
      omega
    have d2 : rd (dropK r l k) (k : Int) l = -1 := by
      apply Classical.byContradiction
      intro q
      have := (a.2.2.2.2.2.2.2.2.2.2.2.1 (k : Int) l (by omega) (by omega) h0 h1).2.2.2.2 q
      omega
    show ru (ru (dropK r l k) (141 + 2 * (6 * l + (k : Int))) (-1)) (141 + 2 * (6 * (k : Int) + l)) (-1) = dropK r l k
    rw [ru_id (r := dropK r l k) (i := 141 + 2 * (6 * l + (k : Int))) d1, ru_id (r := dropK r l k) d2]
theorem has_b {b l : Int} (h : Vr B r) (h0 : 0 ≤ l) (h1 : l ≤ 5) : 0 ≤ hasS r b l ∧ hasS r b l ≤ 9999 := by
  have v := h.2.2.2.2.2.2.2.2.2.1 l h0 h1
  unfold hasS
  split <;> omega
theorem lord_vr {b l : Int} (h : Vr B r) (h0 : 0 ≤ l) (h1 : l ≤ 5) : Vr B (lordS r lw b l) ∧ Sm r (lordS r lw b l) ∧ lordS r lw b l 6 = r 6 := by
  have hb := has_b (b := b) h h0 h1
  have hc := costsS_b h lw l (r 6) (r 1).toNat (by have := h.2.1; omega)
  change 0 ≤ costsS r lw l (r 6) ∧ costsS r lw l (r 6) ≤ 1584 at hc
  unfold lordS
  by_cases c : hasS r b l < costsS r lw l (r 6)
  · rw [if_pos c, if_pos c]
    have a := vr_ruin (vr_grain (v := 0) h h0 h1 (by omega) (by omega)) (v := 1) h0 h1 (by omega) (by omega)
    obtain ⟨p, q, s⟩ := drop_vr a h0 h1 6 (by omega)
    exact ⟨p, sm_tr (sm_ru (sm_ru sm_rfl (by omega)) (by omega)) q, by rw [s, ru_ne (by omega), ru_ne (by omega)]⟩
  · rw [if_neg c, if_neg c]
    exact ⟨vr_grain h h0 h1 (by omega) (by omega), sm_ru sm_rfl (by omega), ru_ne (by omega)⟩
theorem year_vr {b : Int} (h : Vr B r) (hy : r 6 ≤ 998) : ∀ k : Nat, (k : Int) ≤ r 0 → Vr B (yearK r lw b k).1 ∧ Sm r (yearK r lw b k).1 ∧ (yearK r lw b k).1 6 = r 6 + 1 ∧ 0 ≤ (yearK r lw b k).2 ∧ (yearK r lw b k).2 ≤ k
  | 0, _ => ⟨vr_6 h (by have := h.2.2.2.2.2.2.1; omega) (by omega), sm_ru sm_rfl (Or.inl rfl), (ru_eq (i := 6) rfl : ru r 6 (r 6 + 1) 6 = r 6 + 1), Int.le_refl _, Int.le_refl _⟩
  | k + 1, hk => by
    obtain ⟨a, s, d, e1, e2⟩ := year_vr h hy k (by omega)
    have v0 := h.1
    obtain ⟨p, q, t⟩ := lord_vr (lw := lw) (b := b) a (l := (k : Int)) (by omega) (by omega)
    refine ⟨p, sm_tr s q, t.trans d, ?_⟩
    show 0 ≤ (yearK r lw b k).2 + fallS (yearK r lw b k).1 lw b (k : Int) ∧ (yearK r lw b k).2 + fallS (yearK r lw b k).1 lw b (k : Int) ≤ ((k + 1 : Nat) : Int)
    unfold fallS
    split <;> omega
theorem lose_vr {a f : Int} (h : Vr B r) (h0 : 0 ≤ a) (h1 : a ≤ 5) (h2 : 0 ≤ f) (h3 : f ≤ 5) : Vr B (loseS r a f) ∧ Sm r (loseS r a f) ∧ loseS r a f 6 = r 6 := by
  unfold loseS
  split
  · exact ⟨vr_debt (vr_foul (vr_foul h h0 h1 (by omega) (by omega)) h2 h3 (by omega) (by omega)) h0 h1 h2 h3 (Or.inl rfl), sm_ru (sm_ru (sm_ru sm_rfl (by omega)) (by omega)) (by omega), by rw [ru_ne (by omega), ru_ne (by omega), ru_ne (by omega)]⟩
  · exact ⟨h, sm_rfl, rfl⟩
theorem los_vr (h : Vr B r) : ∀ k, k ≤ 36 → Vr B (losK r k) ∧ Sm r (losK r k) ∧ losK r k 6 = r 6
  | 0, _ => ⟨h, sm_rfl, rfl⟩
  | k + 1, hk => by
    obtain ⟨a, b, c⟩ := los_vr h k (by omega)
    obtain ⟨p, q, s⟩ := lose_vr a (a := ((k / 6 : Nat) : Int)) (f := ((k % 6 : Nat) : Int)) (by omega) (by omega) (by omega) (by omega)
    exact ⟨p, sm_tr b q, s.trans c⟩
theorem los_skip (h : Vr B r) {k : Nat} (hk : k < 36) (hs : r 0 ≤ ((k / 6 : Nat) : Int) ∨ r 0 ≤ ((k % 6 : Nat) : Int)) : losK r (k + 1) = losK r k := by
  obtain ⟨a, b, c⟩ := los_vr h k (by omega)
  have r0 : losK r k 0 = r 0 := b.1 0 (by omega)
  have d1 : rd (losK r k) ((k / 6 : Nat) : Int) ((k % 6 : Nat) : Int) = -1 := by
    apply Classical.byContradiction
    intro q
    have := (a.2.2.2.2.2.2.2.2.2.2.2.1 ((k / 6 : Nat) : Int) ((k % 6 : Nat) : Int) (by omega) (by omega) (by omega) (by omega)).2.2.2.2 q
    omega
  show loseS (losK r k) ((k / 6 : Nat) : Int) ((k % 6 : Nat) : Int) = losK r k
  unfold loseS
  rw [if_neg (fun q => q.1 d1)]
theorem los_row (h : Vr B r) {a : Nat} (ha : a < 6) : ∀ n f : Nat, f + n = 6 → r 0 ≤ (f : Int) → losK r (6 * a + 6) = losK r (6 * a + f)
  | 0, f, e, _ => by rw [show f = 6 by omega]
  | n + 1, f, e, hf => by
    rw [los_row h ha n (f + 1) (by omega) (by omega)]
    exact los_skip h (k := 6 * a + f) (by omega) (Or.inr (by omega))
theorem los_all (h : Vr B r) : ∀ n k : Nat, k + n = 36 → 6 * r 0 ≤ (k : Int) → losK r 36 = losK r k
  | 0, k, e, _ => by rw [show k = 36 by omega]
  | n + 1, k, e, hk => by
    rw [los_all h n (k + 1) (by omega) (by omega)]
    exact los_skip h (k := k) (by omega) (Or.inl (by omega))
theorem wait_vr {b : Int} (h : Vr B r) (hy : r 6 ≤ 998) : Vr B (waitS r lw b).1 ∧ Sm r (waitS r lw b).1 ∧ (waitS r lw b).1 6 = r 6 + 1 ∧ 0 ≤ (waitS r lw b).2 ∧ (waitS r lw b).2 ≤ 6 := by
  have v0 := h.1
  obtain ⟨a, s, d, e1, e2⟩ := year_vr (lw := lw) (b := b) h hy (r 0).toNat (by omega)
  obtain ⟨p, q, t⟩ := los_vr a 36 (by omega)
  unfold waitS
  generalize losK (yearK r lw b (r 0).toNat).1 36 = R at p q t ⊢
  exact ⟨p, sm_tr s q, t.trans d, e1, by dsimp only; omega⟩
end YR
