/-! siege: the goods of the reference's set -/
section SI7
variable {X : MX} {N : NN}
theorem ref_siBits {S n : Nat} {d : Nat → Nat} (hS : S < 1024) (hn : n ≤ 10) (hd : ∀ i : Nat, i < n → N 90 i = (d i : Int) ∧ d i < 16) :
    Ok (lp (fun s => b_X12_siege_438 X s.1 s.2.1 s.2.2.1 s.2.2.2.1 s.2.2.2.2) (N, (n : Int), (S : Int), 0, 0)) (fun o => o = (N, (oB d S n : Int))) := by
  refine ok_up (fun i z => z = (N, (n : Int), (S : Int), (oB d S i.toNat : Int), i)) (n : Int) (i0 := 0) ?_ ?_ (by omega) rfl
  · rintro i z a0 a1 rfl
    obtain ⟨k, rfl⟩ := Int.eq_ofNat_of_zero_le a0
    have b := oB_b (d := d) (S := S) k fun i hi => (hd i (by omega)).2
    have hk := hd k (by omega)
    have hp : 2 ^ d k < 2 ^ 16 := Nat.pow_lt_pow_right (by omega) hk.2
    rw [Int.toNat_natCast, show ((k : Int) + 1).toNat = k + 1 by omega, oB]
    generalize oB d S k = q at b ⊢
    dsimp only
    unfold b_X12_siege_438 f_X12_siege_l438_j470
    rw [if_pos a1, w_id (x := (k : Int) + 1) (by omega) (by omega)]
    refine ok_bd (ref_is (by omega) (by omega) (by omega) (by omega)) ?_
    rcases bit_01 (S : Int) k with h | h
    · rw [h, i00, if_pos rfl, show m_or (q : Int) 0 = ((q ||| 0 : Nat) : Int) from or_id (b := 0) (by omega) (by omega)]
      exact ok_ret rfl
    · rw [h, i10, gdp (by omega), Int.toNat_natCast, hk.1, shl1_id (by omega) (by omega), Int.toNat_natCast, if_neg (by omega), or_id (by omega) (by omega)]
      exact ok_ret rfl
  · rintro z rfl
    dsimp only
    unfold b_X12_siege_438
    rw [if_neg (by omega), Int.toNat_natCast]
    exact ok_ret rfl
end SI7
