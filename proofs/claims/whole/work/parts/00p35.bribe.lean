/-! bribe -/
def brH (w : Int) (v : Nat → Int) (s : Int) (n : Nat) : Int := sm (fun i => if bit s i = 1 ∨ w ≤ v i then 1 else 0) n
def brP (w : Int) (v p : Nat → Int) (s : Int) (n : Nat) : Int := sm (fun i => if bit s i = 1 then max 0 (w - v i) * p i else 0) n
def brQ (w : Int) (v p : Nat → Int) (s : Int) (n : Nat) : Int := sm (fun i => if bit s i = 0 then 0 else (w - v i) * p i) n
def alK (g : Nat → Bool) : Nat → Bool
  | 0 => true
  | k + 1 => alK g k && g k
theorem alK_t {g : Nat → Bool} : ∀ {n}, alK g n = true ↔ ∀ i, i < n → g i = true
  | 0 => ⟨fun _ i hi => by omega, fun _ => rfl⟩
  | n + 1 => by
    rw [alK, Bool.and_eq_true, alK_t]
    constructor
    · rintro ⟨a, b⟩ i hi
      by_cases e : i = n
      · rw [e]; exact b
      · exact a i (by omega)
    · intro h
      exact ⟨fun i hi => h i (by omega), h n (by omega)⟩
def brG (w : Int) (v : Nat → Int) (s : Int) (n : Nat) : Bool := alK (fun i => decide (bit s i = 0 ∨ 0 < w - v i)) n
def brC (w : Int) (v : Nat → Int) (n : Nat) : Nat → Bool := fun s => decide ((n : Int) - ((n - 1) / 2 : Nat) ≤ brH w v s n)
def brD (w : Int) (v : Nat → Int) (n : Nat) : Nat → Bool := fun s => decide (s = 0 ∨ w ≤ 999) && brG w v s n && decide (w ≤ midS (fun h => if bit s h = 0 then v h else w) n)
theorem mul_b {a b A B : Int} (h0 : 0 ≤ a) (h1 : a ≤ A) (h2 : 0 ≤ b) (h3 : b ≤ B) : 0 ≤ a * b ∧ a * b ≤ A * B := ⟨Int.mul_nonneg h0 h2, Int.mul_le_mul h1 h3 h2 (by omega)⟩
section BR
variable {X : MX} {N : NN} {B : Int} {r : Nat → Int} {lw : Nat → Law} {w : Int} {v p : Nat → Int}
theorem brP_b (hw : w ≤ 1000) (hv : ∀ j, 0 ≤ v j ∧ v j ≤ 999) (hp : ∀ j, 0 ≤ p j ∧ p j ≤ 9) (s : Int) (n : Nat) (hn : n ≤ 5) : 0 ≤ brP w v p s n ∧ brP w v p s n ≤ 45000 := by
  have := sm_b (f := fun i : Nat => if bit s i = 1 then max 0 (w - v i) * p i else 0) (B := 9000) (n := n) (fun k _ => by
    have a := hv k
    have b := hp k
    have c := mul_b (a := max 0 (w - v k)) (A := 1000) (by omega) (by omega) b.1 b.2
    split <;> omega)
  unfold brP
  omega
theorem brH_b (s : Int) (n : Nat) (hn : n ≤ 5) : 0 ≤ brH w v s n ∧ brH w v s n ≤ 5 := by
  have := sm_b (f := fun i : Nat => if bit s i = 1 ∨ w ≤ v i then (1 : Int) else 0) (B := 1) (n := n) (fun k _ => by split <;> omega)
  unfold brH
  omega
theorem brH_cnt (s : Int) (n : Nat) : cntG w (fun h => if bit s h = 0 then v h else w) n = brH w v s n := by
  refine sm_c fun k _ => ?_
  have hb := bit_01 s k
  have key : ∀ x : Int, x = (if bit s k = 0 then v k else w) → (if w ≤ x then (1 : Int) else 0) = if bit s k = 1 ∨ w ≤ v k then 1 else 0 := by
    intro x hx
    by_cases c : bit s k = 0
    · rw [if_pos c] at hx
      subst hx
      by_cases d : w ≤ v k
      · rw [if_pos d, if_pos (Or.inr d)]
      · rw [if_neg d, if_neg (by omega)]
    · rw [if_neg c] at hx
      rw [if_pos (show w ≤ x by omega), if_pos (Or.inl (by omega))]
  exact key _ rfl
theorem brQ_P {s : Int} {n : Nat} (h : brG w v s n = true) : brQ w v p s n = brP w v p s n := by
  have h' := alK_t.mp h
  refine sm_c fun k hk => ?_
  have a := of_decide_eq_true (h' k hk)
  have b := bit_01 s k
  by_cases c : bit s k = 0
  · rw [if_pos c, if_neg (by omega)]
  · rw [if_neg c, if_pos (by omega), show max 0 (w - v k) = w - v k by omega]
theorem mid_hi {n : Nat} (hn : 0 < n) {f : Nat → Int} : w ≤ midS f n ↔ (n : Int) - ((n - 1) / 2 : Nat) ≤ cntG w f n := by
  unfold midS
  rw [if_neg (by omega), Int.toNat_natCast]
  exact srt_hi (by omega)
theorem br_eq {n : Nat} (h0 : 0 < n) (hn : n ≤ 5) (hw : w ≤ 999) : bestK (brC w v n) (fun s => brP w v p s n) (2 ^ n) = bestK (brD w v n) (fun s => brQ w v p s n) (2 ^ n) := by
  have hp2 : 2 ^ n ≤ 2 ^ 5 := Nat.pow_le_pow_right (by omega) hn
  refine best_sub ?_ ?_
  · intro s hs d
    unfold brD at d
    rw [Bool.and_eq_true, Bool.and_eq_true] at d
    obtain ⟨⟨d1, d2⟩, d3⟩ := d
    refine ⟨?_, brQ_P d2⟩
    unfold brC
    have := (mid_hi h0).mp (of_decide_eq_true d3)
    rw [brH_cnt] at this
    exact decide_eq_true this
  · intro s
    induction s using Nat.strongRecOn with
    | ind s ih =>
      intro hs c
      have c' : (n : Int) - ((n - 1) / 2 : Nat) ≤ brH w v s n := of_decide_eq_true c
      cases hg : brG w v s n with
      | true =>
        refine ⟨s, Nat.le_refl _, ?_, Int.le_refl _⟩
        unfold brD
        rw [hg, decide_eq_true (Or.inr hw)]
        rw [show decide (w ≤ midS (fun h => if bit (s : Int) h = 0 then v h else w) n) = true from decide_eq_true ((mid_hi h0).mpr (by rw [brH_cnt]; exact c'))]
        rfl
      | false =>
        have : ∃ i, i < n ∧ bit (s : Int) i = 1 ∧ v i ≥ w := by
          apply Classical.byContradiction
          intro q
          have : brG w v s n = true := alK_t.mpr fun i hi => decide_eq_true (by
            have b := bit_01 (s : Int) i
            by_cases z : bit (s : Int) i = 0
            · exact Or.inl z
            · refine Or.inr ?_
              apply Classical.byContradiction
              intro z'
              exact q ⟨i, hi, by omega, by omega⟩)
          rw [this] at hg
          cases hg
        obtain ⟨i, i1, i2, i3⟩ := this
        obtain ⟨j1, j2⟩ := bit_rm (s := s) (i := i) (by omega) (by omega) i2
        have hpos : 0 < 2 ^ i := Nat.pos_of_ne_zero (by simp)
        have eH : brH w v ((s - 2 ^ i : Nat) : Int) n = brH w v s n := by
          refine sm_c fun k hk => ?_
          rw [j2 k (by omega)]
          by_cases e : k = i
          · rw [if_pos e, e, if_pos (Or.inr i3), if_pos (Or.inr i3)]
          · rw [if_neg e]
        have eP : brP w v p ((s - 2 ^ i : Nat) : Int) n = brP w v p s n := by
          refine sm_c fun k hk => ?_
          rw [j2 k (by omega)]
          by_cases e : k = i
          · rw [if_pos e, if_neg (by omega), e, if_pos i2, show max 0 (w - v i) = 0 by omega, Int.zero_mul]
          · rw [if_neg e]
        obtain ⟨s', l1, l2, l3⟩ := ih (s - 2 ^ i) (by omega) (by omega) (by unfold brC; rw [eH]; exact decide_eq_true c')
        exact ⟨s', by omega, l2, by rw [eP] at l3; exact l3⟩
theorem c_brIn {a4 a8 a9 : Int} {s n : Nat} (hC : Rw (N 5) r) (hn : (n : Int) = r 2) (hn5 : n ≤ 5) (hw : 0 ≤ w ∧ w ≤ 1000) (hv : ∀ j, 0 ≤ v j ∧ v j ≤ 999) (hp : ∀ j, 0 ≤ p j ∧ p j ≤ 9) (hN : ∀ j : Nat, j < n → N 28 j = v j) (hpr : ∀ j : Nat, j < n → rh r j = p j) (hs : s < 64) {a7 : Int} :
    lp (fun z : NN × Int × Int × Int × Int × Int × Int × Int × Int × Int × Int => b_X2_cheapestBribe_77 X 4 z.1 z.2.1 z.2.2.1 z.2.2.2.1 z.2.2.2.2.1 z.2.2.2.2.2.1 z.2.2.2.2.2.2.1 z.2.2.2.2.2.2.2.1 z.2.2.2.2.2.2.2.2.1 z.2.2.2.2.2.2.2.2.2.1 z.2.2.2.2.2.2.2.2.2.2) (N, a4, w, (n : Int), a7, a8, a9, (s : Int), 0, 0, 0) = some (N, a4, w, (n : Int), a7, a8, a9, (s : Int), brH w v s n, brP w v p s n) := by
  have H : Ok (lp (fun z : NN × Int × Int × Int × Int × Int × Int × Int × Int × Int × Int => b_X2_cheapestBribe_77 X 4 z.1 z.2.1 z.2.2.1 z.2.2.2.1 z.2.2.2.2.1 z.2.2.2.2.2.1 z.2.2.2.2.2.2.1 z.2.2.2.2.2.2.2.1 z.2.2.2.2.2.2.2.2.1 z.2.2.2.2.2.2.2.2.2.1 z.2.2.2.2.2.2.2.2.2.2) (N, a4, w, (n : Int), a7, a8, a9, (s : Int), 0, 0, 0)) (fun o => o = (N, a4, w, (n : Int), a7, a8, a9, (s : Int), brH w v s n, brP w v p s n)) := by
    refine ok_up (fun i z => z = (N, a4, w, (n : Int), a7, a8, a9, (s : Int), brH w v s i.toNat, brP w v p s i.toNat, i)) (n : Int) (i0 := 0) ?_ ?_ (by omega) rfl
    · intro i z a0 a1 e
      subst e
      obtain ⟨k, rfl⟩ := Int.eq_ofNat_of_zero_le a0
      rw [Int.toNat_natCast, show ((k : Int) + 1).toNat = k + 1 by omega]
      have b1 := brP_b hw.2 hv hp s k (by omega)
      have b2 := brH_b (w := w) (v := v) s k (by omega)
      have hvk := hv k
      have hpk := hp k
      have mb := mul_b (a := max 0 (w - v k)) (A := 1000) (by omega) (by omega) hpk.1 hpk.2
      have eH : brH w v s (k + 1) = brH w v s k + (if bit s k = 1 ∨ w ≤ v k then 1 else 0) := rfl
      have eP : brP w v p s (k + 1) = brP w v p s k + (if bit s k = 1 then max 0 (w - v k) * p k else 0) := rfl
      dsimp only
      unfold b_X2_cheapestBribe_77 f_X2_cheapestBribe_l77_j100 f_X2_cheapestBribe_l77_j121 f_X2_cheapestBribe_l77_j126 f_X2_cheapestBribe_l77_j161
      rw [if_pos a1, bit_id (by omega) (by omega) (by omega) (by omega)]
      by_cases c : bit s k = 1
      · rw [if_pos c]
        simp (disch := omega) only [gdp, ↓reduceIte, Int.reduceEq]
        rw [c_price (w := 4) hC (by omega) (by omega), hpr k (by omega), Option.bind_some, Int.toNat_natCast, hN k (by omega), max_id, w_id (x := w - v k) (by omega) (by omega), w_id (x := (k : Int) + 1) (by omega) (by omega), w_id (x := max 0 (w - v k) * p k) (by omega) (by omega), w_id (by omega) (by omega), w_id (by omega) (by omega)]
        refine ok_ret ?_
        rw [eH, eP, if_pos (Or.inl c), if_pos c]
      · rw [if_neg c]
        simp (disch := omega) only [gdp, ↓reduceIte]
        rw [Int.toNat_natCast, hN k (by omega), w_id (x := (k : Int) + 1) (by omega) (by omega)]
        by_cases d : v k < w
        · rw [if_pos d, w_id (by omega) (by omega), w_id (by omega) (by omega)]
          refine ok_ret ?_
          rw [eH, eP, if_neg (by omega), if_neg c]
        · rw [if_neg d, w_id (by omega) (by omega), w_id (by omega) (by omega)]
          refine ok_ret ?_
          rw [eH, eP, if_pos (Or.inr (by omega)), if_neg c]
    · intro z e
      subst e
      dsimp only
      unfold b_X2_cheapestBribe_77
      rw [if_neg (by omega), Int.toNat_natCast]
      exact ok_ret rfl
  obtain ⟨o, eo, po⟩ := H
  rw [eo, po]
end BR
def brA (d : Int) (P : Nat → Int) : Option Nat → Int
  | none => d
  | some b => P b
theorem best_t {C : Nat → Bool} {P : Nat → Int} {k : Nat} (h : C k = true) (q : bestK C P k = none ∨ ∃ b, bestK C P k = some b ∧ P k < P b) : bestK C P (k + 1) = some k := by
  rw [bestK]
  rcases q with q | ⟨b, q, l⟩
  · rw [q]; dsimp only; rw [if_pos h]
  · rw [q]; dsimp only; rw [if_pos ⟨h, l⟩]
theorem best_f {C : Nat → Bool} {P : Nat → Int} {k : Nat} (q : C k = false ∨ ∃ b, bestK C P k = some b ∧ ¬ P k < P b) : bestK C P (k + 1) = bestK C P k := by
  rw [bestK]
  rcases q with q | ⟨b, q, l⟩
  · cases hb : bestK C P k with
    | none => dsimp only; rw [q, if_neg (by decide)]
    | some b => dsimp only; rw [if_neg (fun z => by rw [q] at z; cases z.1)]
  · rw [q]; dsimp only; rw [if_neg (fun z => l z.2)]
theorem sm_ab {f : Nat → Int} : ∀ n : Nat, (∀ k, k < n → -9000 ≤ f k ∧ f k ≤ 9000) → -(9000 * (n : Int)) ≤ sm f n ∧ sm f n ≤ 9000 * (n : Int)
  | 0, _ => by show -(9000 * ((0 : Nat) : Int)) ≤ 0 ∧ (0 : Int) ≤ 9000 * ((0 : Nat) : Int); omega
  | n + 1, h => by
    have a := sm_ab n fun k hk => h k (by omega)
    have b := h n (by omega)
    show -(9000 * ((n + 1 : Nat) : Int)) ≤ sm f n + f n ∧ sm f n + f n ≤ 9000 * ((n + 1 : Nat) : Int)
    omega
section BR2
variable {X : MX} {N : NN} {B : Int} {r : Nat → Int} {lw : Nat → Law} {w : Int} {v p : Nat → Int}
theorem br_m (hw : 0 ≤ w ∧ w ≤ 1000) (hv : ∀ j, 0 ≤ v j ∧ v j ≤ 999) (hp : ∀ j, 0 ≤ p j ∧ p j ≤ 9) (k : Nat) : -9000 ≤ (w - v k) * p k ∧ (w - v k) * p k ≤ 9000 := by
  have a := hv k
  have b := hp k
  by_cases c : 0 ≤ w - v k
  · have := mul_b (a := w - v k) (A := 1000) c (by omega) b.1 b.2
    omega
  · have := mul_b (a := v k - w) (A := 1000) (by omega) (by omega) b.1 b.2
    have e : (w - v k) * p k = -((v k - w) * p k) := by rw [← Int.neg_mul]; congr 1; omega
    omega
theorem brQ_b (hw : 0 ≤ w ∧ w ≤ 1000) (hv : ∀ j, 0 ≤ v j ∧ v j ≤ 999) (hp : ∀ j, 0 ≤ p j ∧ p j ≤ 9) (s : Int) (n : Nat) (hn : n ≤ 5) : -45000 ≤ brQ w v p s n ∧ brQ w v p s n ≤ 45000 := by
  have := sm_ab (f := fun i : Nat => if bit s i = 0 then 0 else (w - v i) * p i) n (fun k _ => by
    have := br_m hw hv hp k
    split <;> omega)
  unfold brQ
  omega
theorem c_brOut {a4 : Int} {n : Nat} (hC : Rw (N 5) r) (hn : (n : Int) = r 2) (hn0 : 0 < n) (hn5 : n ≤ 5) (hw : 0 ≤ w ∧ w ≤ 1000) (hv : ∀ j, 0 ≤ v j ∧ v j ≤ 999) (hp : ∀ j, 0 ≤ p j ∧ p j ≤ 9) (hN : ∀ j : Nat, j < n → N 28 j = v j) (hpr : ∀ j : Nat, j < n → rh r j = p j) :
    lp (fun z : NN × Int × Int × Int × Int × Int × Int × Int => b_X2_cheapestBribe_59 X 4 z.1 z.2.1 z.2.2.1 z.2.2.2.1 z.2.2.2.2.1 z.2.2.2.2.2.1 z.2.2.2.2.2.2.1 z.2.2.2.2.2.2.2) (N, a4, w, (n : Int), (n : Int) - ((n - 1) / 2 : Nat), -1, 0, 0) = some (N, a4, brA (-1) (fun s => brP w v p s n) (bestK (brC w v n) (fun s => brP w v p s n) (2 ^ n)), brA 0 (fun s => (s : Int)) (bestK (brC w v n) (fun s => brP w v p s n) (2 ^ n))) := by
  have hp2 : 2 ^ n ≤ 2 ^ 5 := Nat.pow_le_pow_right (by omega) hn5
  have hp3 : 0 < 2 ^ n := Nat.pos_of_ne_zero (by simp)
  generalize hG : bestK (brC w v n) (fun s => brP w v p s n) = G
  have H : Ok (lp (fun z : NN × Int × Int × Int × Int × Int × Int × Int => b_X2_cheapestBribe_59 X 4 z.1 z.2.1 z.2.2.1 z.2.2.2.1 z.2.2.2.2.1 z.2.2.2.2.2.1 z.2.2.2.2.2.2.1 z.2.2.2.2.2.2.2) (N, a4, w, (n : Int), (n : Int) - ((n - 1) / 2 : Nat), -1, 0, 0)) (fun o => o = (N, a4, brA (-1) (fun s => brP w v p s n) (G (2 ^ n)), brA 0 (fun s => (s : Int)) (G (2 ^ n)))) := by
    refine ok_up (fun i z => z = (N, a4, w, (n : Int), (n : Int) - ((n - 1) / 2 : Nat), brA (-1) (fun s => brP w v p s n) (G i.toNat), brA 0 (fun s => (s : Int)) (G i.toNat), i)) ((2 ^ n : Nat) : Int) (i0 := 0) ?_ ?_ (Int.natCast_nonneg _) (by rw [← hG]; rfl)
    · intro i z a0 a1 e
      subst e
      obtain ⟨k, rfl⟩ := Int.eq_ofNat_of_zero_le a0
      rw [Int.toNat_natCast, show ((k : Int) + 1).toNat = k + 1 by omega]
      have hk : k < 32 := by omega
      have bP := brP_b hw.2 hv hp k n hn5
      dsimp only
      unfold b_X2_cheapestBribe_59 f_X2_cheapestBribe_l59_j190 f_X2_cheapestBribe_l59_j198
      rw [shl1_id (by omega) (by omega), Int.toNat_natCast, if_pos a1, c_brIn hC hn hn5 hw hv hp hN hpr (by omega), Option.bind_some]
      dsimp only
      rw [w_id (x := (k : Int) + 1) (by omega) (by omega)]
      by_cases c : brH w v k n < (n : Int) - ((n - 1) / 2 : Nat)
      · rw [if_pos c]
        refine ok_ret ?_
        have : brC w v n k = false := decide_eq_false (by omega)
        rw [← hG, best_f (Or.inl this)]
      · rw [if_neg c]
        have hc : brC w v n k = true := decide_eq_true (by omega)
        cases hb : G k with
        | none =>
          rw [if_pos (show brA (-1) (fun s => brP w v p s n) none = -1 from rfl)]
          refine ok_ret ?_
          rw [← hG] at hb ⊢
          rw [best_t hc (Or.inl hb)]
          rfl
        | some b =>
          have bb := brP_b hw.2 hv hp b n hn5
          rw [if_neg (show ¬ brA (-1) (fun s => brP w v p s n) (some b) = -1 by show ¬ brP w v p b n = -1; omega)]
          by_cases d : brP w v p k n < brP w v p b n
          · rw [if_pos (show brP w v p k n < brA (-1) (fun s => brP w v p s n) (some b) from d)]
            refine ok_ret ?_
            rw [← hG] at hb ⊢
            rw [best_t hc (Or.inr ⟨b, hb, d⟩)]
            rfl
          · rw [if_neg (show ¬ brP w v p k n < brA (-1) (fun s => brP w v p s n) (some b) from d)]
            refine ok_ret ?_
            rw [← hG] at hb ⊢
            rw [best_f (Or.inr ⟨b, hb, d⟩), hb]
    · intro z e
      subst e
      dsimp only
      unfold b_X2_cheapestBribe_59
      rw [shl1_id (by omega) (by omega), Int.toNat_natCast, if_neg (by omega), Int.toNat_natCast]
      exact ok_ret rfl
  obtain ⟨o, eo, po⟩ := H
  rw [eo, po]
theorem ref_brIn {a1 a3 a6 a7 : Int} {s n : Nat} {b : Bool} (hM : MW N B r lw) (g0 : 0 ≤ a1) (g1 : a1 < r 1) (hn : (n : Int) = r 2) (hn5 : n ≤ 5) (hw : 0 ≤ w ∧ w ≤ 1000) (hv : ∀ j, 0 ≤ v j ∧ v j ≤ 999) (hp : ∀ j, 0 ≤ p j ∧ p j ≤ 9) (hvo : ∀ j : Nat, v j = voiceS r lw j a1) (hpr : ∀ j : Nat, j < n → rh r j = p j) (hs : s < 64) :
    Ok (lp (fun s => b_X12_bribe_108 X s.1 s.2.1 s.2.2.1 s.2.2.2.1 s.2.2.2.2.1 s.2.2.2.2.2.1 s.2.2.2.2.2.2.1 s.2.2.2.2.2.2.2.1 s.2.2.2.2.2.2.2.2.1 s.2.2.2.2.2.2.2.2.2.1 s.2.2.2.2.2.2.2.2.2.2) (N, a1, a3, (n : Int), w, a6, a7, (s : Int), 0, (if b = true then 1 else 0), 0)) (fun o => ∃ M, o = (M, a1, a3, (n : Int), w, a6, a7, (s : Int), brQ w v p s n, (if (b && brG w v s n) = true then 1 else 0)) ∧ Fr frV N M) := by
  refine ok_up (fun i z => ∃ M, z = (M, a1, a3, (n : Int), w, a6, a7, (s : Int), brQ w v p s i.toNat, (if (b && brG w v s i.toNat) = true then 1 else 0), i) ∧ Fr frV N M) (n : Int) (i0 := 0) ?_ ?_ (by omega) ⟨N, by rw [show brG w v s (0 : Int).toNat = true from rfl, Bool.and_true]; rfl, fr_rfl⟩
  · rintro i z a0 a1' ⟨M, rfl, hf⟩
    obtain ⟨k, rfl⟩ := Int.eq_ofNat_of_zero_le a0
    rw [Int.toNat_natCast, show ((k : Int) + 1).toNat = k + 1 by omega]
    have bQ := brQ_b hw hv hp s k (by omega)
    have bm := br_m hw hv hp k
    have hvk := hv k
    have eQ : brQ w v p s (k + 1) = brQ w v p s k + (if bit s k = 0 then 0 else (w - v k) * p k) := rfl
    have eG : brG w v s (k + 1) = (brG w v s k && decide (bit s k = 0 ∨ 0 < w - v k)) := rfl
    have hb01 := bit_01 s k
    dsimp only
    unfold b_X12_bribe_108 f_X12_bribe_l108_j151 f_X12_bribe_l108_j147
    rw [if_pos a1']
    refine ok_bind (ref_toldBy (mw_V hM hf) g0 g1 (by omega)) ?_
    rintro ⟨x, M2⟩ ⟨p1, p2⟩
    dsimp only at p1 p2 ⊢
    subst p1
    have hf2 : Fr frV N M2 := fr_tr hf (fr_mono p2 fun o k q => Or.inl q)
    have hM2 := mw_V hM hf2
    rw [← hvo k, w_id (x := w - v k) (by omega) (by omega)]
    have K : ∀ y : Int, y = (if (b && brG w v s (k + 1)) = true then 1 else 0) → Ok (f_X12_bribe_l108_j152 X M2 a1 a3 (n : Int) w a6 a7 (s : Int) (brQ w v p s k) (k : Int) (w - v k) y) (fun o => ∃ M', o = .inl (M', a1, a3, (n : Int), w, a6, a7, (s : Int), brQ w v p s (k + 1), (if (b && brG w v s (k + 1)) = true then 1 else 0), (k : Int) + 1) ∧ Fr frV N M') := by
      intro y hy
      unfold f_X12_bribe_l108_j152 f_X12_bribe_l108_j184
      refine ok_bd (ref_is (by omega) (by omega) (by omega) (by omega)) ?_
      rw [w_id (x := 213 + (k : Int)) (by omega) (by omega), w_id (x := (k : Int) + 1) (by omega) (by omega)]
      by_cases c : bit s k = 0
      · rw [if_pos c, w_id (by omega) (by omega)]
        refine ok_ret ⟨M2, ?_, hf2⟩
        rw [eQ, if_pos c, hy]
      · rw [if_neg c, gdp (by omega), hM2.1 _ (by omega), show r (213 + (k : Int)).toNat = p k from hpr k (by omega), w_id (x := (w - v k) * p k) (by omega) (by omega), w_id (by omega) (by omega)]
        refine ok_ret ⟨M2, ?_, hf2⟩
        rw [eQ, if_neg c, hy]
    cases hb : (b && brG w v s k) with
    | false =>
      rw [if_neg (show ¬ false = true by decide), i00]
      exact ok_mono (K 0 (by rw [eG, ← Bool.and_assoc, hb, Bool.false_and, if_neg (by decide)])) (by rintro o ⟨M', rfl, g⟩; exact ⟨M', rfl, g⟩)
    | true =>
      rw [if_pos rfl, i10]
      refine ok_bd (ref_is (by omega) (by omega) (by omega) (by omega)) ?_
      by_cases c : bit s k = 0
      · rw [if_pos c]
        exact ok_mono (K 1 (by rw [eG, ← Bool.and_assoc, hb, decide_eq_true (Or.inl c)]; rfl)) (by rintro o ⟨M', rfl, g⟩; exact ⟨M', rfl, g⟩)
      · rw [if_neg c]
        by_cases d : 0 < w - v k
        · rw [if_pos d]
          exact ok_mono (K 1 (by rw [eG, ← Bool.and_assoc, hb, decide_eq_true (Or.inr d)]; rfl)) (by rintro o ⟨M', rfl, g⟩; exact ⟨M', rfl, g⟩)
        · rw [if_neg d]
          exact ok_mono (K 0 (by rw [eG, ← Bool.and_assoc, hb, decide_eq_false (by omega)]; rfl)) (by rintro o ⟨M', rfl, g⟩; exact ⟨M', rfl, g⟩)
  · rintro z ⟨M, rfl, hf⟩
    dsimp only
    unfold b_X12_bribe_108
    rw [if_neg (by omega), Int.toNat_natCast]
    exact ok_ret ⟨M, rfl, hf⟩
end BR2
