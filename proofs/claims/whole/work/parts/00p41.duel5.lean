/-! duel: the reference's sets -/
theorem or_id {a b : Nat} (ha : a < 2147483648) (hb : b < 2147483648) : m_or (a : Int) (b : Int) = ((a ||| b : Nat) : Int) := by
  have hlt : a ||| b < 2 ^ 31 := Nat.or_lt_two_pow ha hb
  unfold m_or
  rw [oI_n, oI_n]
  have e : nI a ||| nI b = nI (a ||| b) := by
    apply Int32.toBitVec_inj.1
    rw [Int32.toBitVec_or]
    apply BitVec.eq_of_toNat_eq
    show (BitVec.ofNat 32 a ||| BitVec.ofNat 32 b).toNat = (BitVec.ofNat 32 (a ||| b)).toNat
    rw [BitVec.toNat_or, BitVec.toNat_ofNat, BitVec.toNat_ofNat, BitVec.toNat_ofNat, Nat.mod_eq_of_lt (by omega), Nat.mod_eq_of_lt (by omega), Nat.mod_eq_of_lt (by omega)]
  rw [e, nI_toInt hlt]
theorem bit_t (S k : Nat) : bit (S : Int) (k : Int) = if S.testBit k = true then 1 else 0 := by
  unfold bit
  rw [Int.toNat_natCast, Int.toNat_natCast, Nat.testBit_eq_decide_div_mod_eq]
  by_cases c : S / 2 ^ k % 2 = 1
  · rw [c, if_pos (decide_eq_true rfl)]; rfl
  · rw [if_neg (fun z => c (of_decide_eq_true z)), show S / 2 ^ k % 2 = 0 by omega]; rfl
theorem bit_or (S j k : Nat) : bit ((S ||| 2 ^ j : Nat) : Int) (k : Int) = if k = j then 1 else bit (S : Int) (k : Int) := by
  rw [bit_t, bit_t, Nat.testBit_or, Nat.testBit_two_pow]
  by_cases c : k = j
  · rw [if_pos c, decide_eq_true c.symm, Bool.or_true, if_pos rfl]
  · rw [if_neg c, decide_eq_false (fun z => c z.symm), Bool.or_false]
theorem or_ge (S j : Nat) : S ≤ S ||| 2 ^ j := Nat.left_le_or
theorem or_ne {S j : Nat} (h : bit (S : Int) (j : Int) = 0) : S < S ||| 2 ^ j := by
  have a := or_ge S j
  have b : S ||| 2 ^ j ≠ S := by
    intro e
    have := bit_or S j j
    rw [e, if_pos rfl] at this
    omega
  omega
theorem or_lt {S j : Nat} (h : S < 4096) (hj : j < 12) : S ||| 2 ^ j < 4096 := by
  have : 2 ^ j < 2 ^ 12 := Nat.pow_lt_pow_right (by omega) hj
  exact Nat.or_lt_two_pow (n := 12) h this
def lsM (w : Nat → Int) (S : Int) : Nat → Int
  | 0 => -1
  | k + 1 => if bit S k = 0 then lsM w S k else if lsM w S k = -1 then (k : Int) else if w (lsM w S k).toNat < w k then (k : Int) else lsM w S k
theorem lsM_b (w : Nat → Int) (S : Int) : ∀ k : Nat, -1 ≤ lsM w S k ∧ lsM w S k < (k : Int)
  | 0 => by rw [lsM]; omega
  | k + 1 => by
    have := lsM_b w S k
    rw [lsM]
    split
    · omega
    · split
      · omega
      · split <;> omega
def glM (G : Int) (c : Nat → Int) (S x : Int) : Nat → Int
  | 0 => G
  | k + 1 => m_w (glM G c S x k - (if bit S k = 0 ∨ (k : Int) / 6 = x then 0 else c k))
def exK (q : Nat → Bool) : Nat → Bool
  | 0 => false
  | k + 1 => exK q k || q k
theorem exK_m {q : Nat → Bool} {k : Nat} (h : exK q k = true) : ∀ n, k ≤ n → exK q n = true
  | 0, l => by rw [show k = 0 by omega] at h; exact h
  | n + 1, l => by
    by_cases e : k = n + 1
    · rw [← e]; exact h
    · rw [exK, exK_m h n (by omega)]; rfl
theorem exK_c {p q : Nat → Bool} : ∀ n, (∀ i, i < n → p i = q i) → exK p n = exK q n
  | 0, _ => rfl
  | n + 1, h => by rw [exK, exK, exK_c n (fun i hi => h i (by omega)), h n (by omega)]
def caM (id w : Nat → Int) (S : Nat) (l : Int) (j : Nat) : Bool := decide (id j ≠ -1) && (decide (bit S j = 0) && (decide (l = -1) || decide (w l.toNat < w j)))
def woM (c T : Nat → Int) (gl : Int) (S j : Nat) : Bool := decide (gl < c j) || decide (T (S ||| 2 ^ j) = 0)
def sdM (l : Int) : Nat := if l = -1 then 0 else (1 - l / 6).toNat
theorem sdM_b {l : Int} (h0 : -1 ≤ l) (h1 : l < 12) : sdM l < 2 := by unfold sdM; split <;> omega
def fxM (id w c G T : Nat → Int) (S : Nat) : Bool := exK (fun i => caM id w S (lsM w S 12) (6 * sdM (lsM w S 12) + i) && woM c T (glM (G (1 - sdM (lsM w S 12))) c S ((1 - sdM (lsM w S 12) : Nat) : Int) 12) S (6 * sdM (lsM w S 12) + i)) 6
section DU6
variable {X : MX} {N : NN}
theorem ref_lastOf {S : Nat} (hS : S < 4096) : f_X12_lastOf X N S = some (lsM (N 85) S 12) := by
  unfold f_X12_lastOf
  have H : Ok (lp (fun s => b_X12_lastOf_4 X N s.1 s.2.1 s.2.2) ((S : Int), (-1), 0)) (fun o => o = lsM (N 85) S 12) := by
    refine ok_up (fun i z => z = ((S : Int), lsM (N 85) S i.toNat, i)) 12 (i0 := 0) ?_ ?_ (by omega) rfl
    · rintro i z a0 a1 rfl
      obtain ⟨k, rfl⟩ := Int.eq_ofNat_of_zero_le a0
      have b := lsM_b (N 85) S k
      rw [Int.toNat_natCast, show ((k : Int) + 1).toNat = k + 1 by omega, lsM]
      generalize lsM (N 85) S k = l at b ⊢
      dsimp only
      unfold b_X12_lastOf_4 f_X12_lastOf_l4_j42 f_X12_lastOf_l4_j38 f_X12_lastOf_l4_j43
      rw [if_pos a1, w_id (x := (k : Int) + 1) (by omega) (by omega)]
      refine ok_bd (ref_is (by omega) (by omega) (by omega) (by omega)) ?_
      by_cases c : bit S k = 0
      · rw [if_pos c, if_pos c]; exact ok_ret rfl
      · rw [if_neg c, if_neg c]
        by_cases d : l = -1
        · rw [if_pos d, if_pos d]; exact ok_ret rfl
        · rw [if_neg d, if_neg d, gdp (by omega), gdp (by omega), Int.toNat_natCast]
          by_cases e : N 85 l.toNat < N 85 k
          · rw [if_pos e, if_pos e]; exact ok_ret rfl
          · rw [if_neg e, if_neg e]; exact ok_ret rfl
    · rintro z rfl
      dsimp only
      unfold b_X12_lastOf_4
      rw [if_neg (by omega)]
      exact ok_ret rfl
  obtain ⟨o, eo, po⟩ := H
  rw [eo, po]
  rfl
theorem ref_grainLeft {S x : Nat} (hS : S < 4096) (hx : x < 2) : f_X12_grainLeft X N S x = some (glM (N 88 x) (N 86) S x 12) := by
  unfold f_X12_grainLeft
  rw [gdp (by omega), Int.toNat_natCast]
  have H : Ok (lp (fun s => b_X12_grainLeft_10 X N s.1 s.2.1 s.2.2.1 s.2.2.2) ((S : Int), (x : Int), N 88 x, 0)) (fun o => o = glM (N 88 x) (N 86) S x 12) := by
    refine ok_up (fun i z => z = ((S : Int), (x : Int), glM (N 88 x) (N 86) S x i.toNat, i)) 12 (i0 := 0) ?_ ?_ (by omega) rfl
    · rintro i z a0 a1 rfl
      obtain ⟨k, rfl⟩ := Int.eq_ofNat_of_zero_le a0
      rw [Int.toNat_natCast, show ((k : Int) + 1).toNat = k + 1 by omega, glM]
      generalize glM (N 88 x) (N 86) S x k = l
      dsimp only
      unfold b_X12_grainLeft_10 f_X12_grainLeft_l10_j46 f_X12_grainLeft_l10_j47
      rw [if_pos a1, w_id (x := (k : Int) + 1) (by omega) (by omega), div_id (by omega) (by omega) (by omega) (by omega)]
      refine ok_bd (ref_is (by omega) (by omega) (by omega) (by omega)) ?_
      by_cases c : bit S k = 0
      · rw [if_pos c, if_pos (Or.inl c)]; exact ok_ret rfl
      · rw [if_neg c]
        by_cases d : (k : Int) / 6 = x
        · rw [if_pos d, if_pos (Or.inr d)]; exact ok_ret rfl
        · rw [if_neg d, gdp (by omega), if_neg (show ¬ (bit (S : Int) (k : Int) = 0 ∨ (k : Int) / 6 = (x : Int)) from fun z => z.elim c d), Int.toNat_natCast]; exact ok_ret rfl
    · rintro z rfl
      dsimp only
      unfold b_X12_grainLeft_10
      rw [if_neg (by omega)]
      exact ok_ret rfl
  obtain ⟨o, eo, po⟩ := H
  rw [eo, po]
  rfl
theorem ref_canGive {S s j : Nat} {l : Int} (hS : S < 4096) (hj : j < 12) (hs : j / 6 = s) (h0 : -1 ≤ l) (h1 : l < 12) : f_X12_canGive X N S l s j = some (if caM (N 84) (N 85) S l j then 1 else 0) := by
  unfold f_X12_canGive f_X12_canGive_j54 f_X12_canGive_j50 f_X12_canGive_j55 caM
  rw [div_id (by omega) (by omega) (by omega) (by omega), if_pos (show (j : Int) / 6 = (s : Int) by omega), ref_is (by omega) (by omega) (by omega) (by omega), Option.bind_some]
  simp (disch := omega) only [gdp]
  rw [Int.toNat_natCast]
  by_cases c : N 84 j = -1
  · rw [if_pos c, decide_eq_false (fun z => z c)]; rfl
  · rw [if_neg c, decide_eq_true c, Bool.true_and]
    by_cases d : bit S j = 0
    · rw [if_pos d, decide_eq_true d, Bool.true_and]
      by_cases e : l = -1
      · rw [if_pos e, decide_eq_true e]; rfl
      · rw [if_neg e, decide_eq_false e, Bool.false_or]
        by_cases f : N 85 l.toNat < N 85 j
        · rw [if_pos f, decide_eq_true f]; rfl
        · rw [if_neg f, decide_eq_false f]; rfl
    · rw [if_neg d, decide_eq_false d]; rfl
theorem ref_isWon {S s j : Nat} (hS : S < 4096) (hj : j < 12) (hs : s < 2) : f_X12_isWon X N S s j = some (if woM (N 86) (N 87) (glM (N 88 (1 - s)) (N 86) S ((1 - s : Nat) : Int) 12) S j then 1 else 0) := by
  have hl := or_lt hS hj
  have hp : 2 ^ j < 2 ^ 12 := Nat.pow_lt_pow_right (by omega) hj
  unfold f_X12_isWon f_X12_isWon_j30 f_X12_isWon_j35 woM
  rw [w_id (by omega) (by omega), show (1 : Int) - (s : Int) = ((1 - s : Nat) : Int) by omega, ref_grainLeft hS (by omega), Option.bind_some, gdp (by omega), Int.toNat_natCast, shl1_id (by omega) (by omega), Int.toNat_natCast, or_id (by omega) (by omega), gdp (show 0 ≤ ((S ||| 2 ^ j : Nat) : Int) ∧ ((S ||| 2 ^ j : Nat) : Int) < 4096 by omega), Int.toNat_natCast]
  by_cases c : glM (N 88 (1 - s)) (N 86) S ((1 - s : Nat) : Int) 12 < N 86 j
  · rw [if_pos c, decide_eq_true c]; rfl
  · rw [if_neg c, decide_eq_false c, Bool.false_or]
    by_cases d : N 87 (S ||| 2 ^ j) = 0
    · rw [if_pos d, decide_eq_true d]; rfl
    · rw [if_neg d, decide_eq_false d]; rfl
end DU6
