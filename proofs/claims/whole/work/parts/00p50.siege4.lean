/-! siege: worth and fall of a packed set -/
def suS (f : Nat → Int) (S : Int) (n : Nat) : Int := sm (fun i => if bit S i = 0 then 0 else f i) n
theorem su_b {f : Nat → Int} {S b : Int} {n : Nat} (h : ∀ i, i < n → 0 ≤ f i ∧ f i ≤ b) (hb : 0 ≤ b) : 0 ≤ suS f S n ∧ suS f S n ≤ n * b := by
  refine sm_b fun k hk => ?_
  have := h k hk
  split <;> omega
theorem bit_mul (S k x : Int) : bit S k * x = if bit S k = 0 then 0 else x := by
  rcases bit_01 S k with h | h
  · rw [h, if_pos rfl, Int.zero_mul]
  · rw [h, if_neg (by omega), Int.one_mul]
section SI3
variable {X : MX} {N : NN}
theorem c_siWorth {S n : Nat} (hS : S < 1024) (hn : n ≤ 10) (e5 : N 48 5 = (n : Int)) (hb : ∀ i : Nat, i < n → 0 ≤ N 50 i ∧ N 50 i ≤ 999) : f_X7_worthOf X N (S : Int) = some (suS (N 50) S n) := by
  unfold f_X7_worthOf
  have H : Ok (lp (fun s => b_X7_worthOf_4 X N s.1 s.2.1 s.2.2) ((S : Int), 0, 0)) (fun o => o = suS (N 50) S n) := by
    refine ok_up (fun i z => z = ((S : Int), suS (N 50) S i.toNat, i)) (n : Int) (i0 := 0) ?_ ?_ (by omega) rfl
    · rintro i z a0 a1 rfl
      obtain ⟨k, rfl⟩ := Int.eq_ofNat_of_zero_le a0
      have b := su_b (f := N 50) (S := S) (b := 999) (n := k) (fun i hi => hb i (by omega)) (by omega)
      have hk := hb k (by omega)
      rw [Int.toNat_natCast, show ((k : Int) + 1).toNat = k + 1 by omega, show suS (N 50) S (k + 1) = suS (N 50) S k + (if bit S k = 0 then 0 else N 50 k) from rfl]
      generalize suS (N 50) S k = q at b ⊢
      have hv : 0 ≤ (if bit (S : Int) k = 0 then 0 else N 50 k) ∧ (if bit (S : Int) k = 0 then 0 else N 50 k) ≤ 999 := by split <;> omega
      dsimp only
      unfold b_X7_worthOf_4
      rw [e5, if_pos a1, gdp (by omega), bit_id (by omega) (by omega) (by omega) (by omega), bit_mul, Int.toNat_natCast, w_id (x := if bit (S : Int) k = 0 then 0 else N 50 k) (by omega) (by omega), w_id (by omega) (by omega), w_id (by omega) (by omega)]
      exact ok_ret rfl
    · rintro z rfl
      dsimp only
      unfold b_X7_worthOf_4
      rw [e5, if_neg (by omega), Int.toNat_natCast]
      exact ok_ret rfl
  obtain ⟨o, eo, po⟩ := H
  rw [eo, po]
  rfl
end SI3
