/-! siege: the goods of a set, as ones -/
def oB (d : Nat → Nat) (S : Int) : Nat → Nat
  | 0 => 0
  | k + 1 => oB d S k ||| (if bit S k = 0 then 0 else 2 ^ d k)
theorem oB_b {d : Nat → Nat} {S : Int} : ∀ n : Nat, (∀ i, i < n → d i < 16) → oB d S n < 65536
  | 0, _ => by rw [oB]; omega
  | n + 1, h => by
    have a := oB_b (S := S) n fun i hi => h i (by omega)
    have hp : 2 ^ d n < 2 ^ 16 := Nat.pow_lt_pow_right (by omega) (h n (by omega))
    rw [oB]
    refine Nat.or_lt_two_pow (n := 16) a ?_
    split <;> omega
theorem shl0_id {k : Nat} (h : k < 16) : m_shl 0 (k : Int) = 0 := by
  have t : ∀ j : Fin 16, m_shl 0 (j.val : Int) = 0 := by decide +kernel
  exact t ⟨k, h⟩
section SI6
variable {X : MX} {N : NN}
theorem c_siBits {S n : Nat} {d : Nat → Nat} (hS : S < 1024) (hn : n ≤ 10) (e5 : N 48 5 = (n : Int)) (hd : ∀ i : Nat, i < n → N 49 i = (d i : Int) ∧ d i < 16) : f_X7_bitsOf X N (S : Int) = some (oB d S n : Int) := by
  unfold f_X7_bitsOf
  have H : Ok (lp (fun s => b_X7_bitsOf_4 X N s.1 s.2.1 s.2.2) ((S : Int), 0, 0)) (fun o => o = (oB d S n : Int)) := by
    refine ok_up (fun i z => z = ((S : Int), (oB d S i.toNat : Int), i)) (n : Int) (i0 := 0) ?_ ?_ (by omega) rfl
    · rintro i z a0 a1 rfl
      obtain ⟨k, rfl⟩ := Int.eq_ofNat_of_zero_le a0
      have b := oB_b (d := d) (S := S) k fun i hi => (hd i (by omega)).2
      have hk := hd k (by omega)
      have hp : 2 ^ d k < 2 ^ 16 := Nat.pow_lt_pow_right (by omega) hk.2
      rw [Int.toNat_natCast, show ((k : Int) + 1).toNat = k + 1 by omega, oB]
      generalize oB d S k = q at b ⊢
      dsimp only
      unfold b_X7_bitsOf_4
      rw [e5, if_pos a1, gdp (by omega), bit_id (by omega) (by omega) (by omega) (by omega), Int.toNat_natCast, hk.1, w_id (by omega) (by omega)]
      rcases bit_01 (S : Int) k with h | h
      · rw [h, shl0_id hk.2, if_pos rfl, show (0 : Int) = ((0 : Nat) : Int) from rfl, or_id (by omega) (by omega)]
        exact ok_ret rfl
      · rw [h, shl1_id (by omega) (by omega), Int.toNat_natCast, if_neg (by omega), or_id (by omega) (by omega)]
        exact ok_ret rfl
    · rintro z rfl
      dsimp only
      unfold b_X7_bitsOf_4
      rw [e5, if_neg (by omega), Int.toNat_natCast]
      exact ok_ret rfl
  obtain ⟨o, eo, po⟩ := H
  rw [eo, po]
  rfl
end SI6
