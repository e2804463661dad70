/-! siege: counting ones -/
def onS (S : Int) : Nat → Int
  | 0 => 0
  | k + 1 => onS S k + bit S k
theorem onS_b (S : Int) : ∀ n : Nat, 0 ≤ onS S n ∧ onS S n ≤ (n : Int)
  | 0 => by rw [onS]; omega
  | n + 1 => by
    have a := onS_b S n
    have b := bit_01 S n
    rw [onS]
    omega
noncomputable def bcV (a0 : Int) : Option Int := f_J6_bitCount_0f7a4 default (fun _ _ => 0) a0
theorem bc_tab : ∀ S : Fin 1024, bcV (S.val : Int) = some (onS (S.val : Int) 16) := by decide +kernel
theorem c_bitCount {X : MX} {N : NN} {S : Nat} (h : S < 1024) : f_J6_bitCount_0f7a4 X N (S : Int) = some (onS S 16) := bc_tab ⟨S, h⟩
theorem ref_ones {X : MX} {N : NN} {S : Nat} (h : S < 1024) : f_X12_ones X N (S : Int) = some (onS S 16) := by
  unfold f_X12_ones
  have H : Ok (lp (fun s => b_X12_ones_4 X N s.1 s.2.1 s.2.2) ((S : Int), 0, 0)) (fun o => o = onS S 16) := by
    refine ok_up (fun i z => z = ((S : Int), onS S i.toNat, i)) 16 (i0 := 0) ?_ ?_ (by omega) rfl
    · rintro i z a0 a1 rfl
      obtain ⟨k, rfl⟩ := Int.eq_ofNat_of_zero_le a0
      have b := onS_b S k
      have c := bit_01 S k
      rw [Int.toNat_natCast, show ((k : Int) + 1).toNat = k + 1 by omega, onS]
      dsimp only
      unfold b_X12_ones_4
      rw [if_pos a1, bit_id (by omega) (by omega) (by omega) (by omega), w_id (by omega) (by omega), w_id (by omega) (by omega)]
      exact ok_ret rfl
    · rintro z rfl
      dsimp only
      unfold b_X12_ones_4
      rw [if_neg (by omega)]
      exact ok_ret rfl
  obtain ⟨o, eo, po⟩ := H
  rw [eo, po]
  rfl
