/-! siege: the class's fall of a packed set -/
def cyC (N : NN) (S : Int) (m : Nat) : Nat → Int := fun y => N 52 (y - 1) + suS (fun i => N 51 (9 * i + (y - 1))) S m
section SI4
variable {X : MX} {N : NN}
theorem c_siFalls {S m n : Nat} {G h : Int} (hS : S < 1024) (hm : m ≤ 10) (hn : n ≤ 9) (e5 : N 48 5 = (m : Int)) (e6 : N 48 6 = G) (e7 : N 48 7 = h) (hG : 0 ≤ G ∧ G ≤ 9999) (hh : 0 ≤ h ∧ h ≤ 99)
    (hu : ∀ y : Nat, y < n → 0 ≤ N 52 y ∧ N 52 y ≤ 1584) (hc : ∀ i y : Nat, i < m → y < n → 0 ≤ N 51 (9 * i + y) ∧ N 51 (9 * i + y) ≤ 99) :
    f_X7_falls X N (S : Int) (n : Int) = some (if 0 ≤ fallY h (cyC N S m) G n then 1 else 0) := by
  unfold f_X7_falls
  rw [e6]
  have H : Ok (lp (fun s => b_X7_falls_8 X N s.1 s.2.1 s.2.2.1 s.2.2.2) ((S : Int), (n : Int), G, 0)) (fun o => o = if 0 ≤ fallY h (cyC N S m) G n then .inr () else .inl ()) := by
    refine ok_up (fun i z => z = ((S : Int), (n : Int), stoS h (cyC N S m) G i.toNat, i) ∧ fallY h (cyC N S m) G i.toNat = -1 ∧ 0 ≤ stoS h (cyC N S m) G i.toNat ∧ stoS h (cyC N S m) G i.toNat ≤ 9999) (n : Int) (i0 := 0) ?_ ?_ (by omega) ⟨rfl, rfl, hG.1, hG.2⟩
    · rintro i z a0 a1 ⟨rfl, hf, b0, b1⟩
      obtain ⟨k, rfl⟩ := Int.eq_ofNat_of_zero_le a0
      rw [Int.toNat_natCast] at hf b0 b1 ⊢
      rw [show ((k : Int) + 1).toNat = k + 1 by omega]
      have hu' := hu k (by omega)
      have es : stoS h (cyC N S m) G (k + 1) = min 9999 (stoS h (cyC N S m) G k + h) - (N 52 k + suS (fun i => N 51 (9 * i + k)) S m) := rfl
      have ef : fallY h (cyC N S m) G (k + 1) = if stoS h (cyC N S m) G (k + 1) < 0 then ((k + 1 : Nat) : Int) else -1 := by rw [fallY, hf, if_neg (by omega)]
      generalize stoS h (cyC N S m) G k = g at *
      have bs := su_b (f := fun i => N 51 (9 * i + k)) (S := S) (b := 99) (n := m) (fun i hi => hc i k hi (by omega)) (by omega)
      have IN : Ok (lp (fun s => b_X7_falls_38 X N s.1 s.2.1 s.2.2.1 s.2.2.2.1 s.2.2.2.2) ((S : Int), (n : Int), min 9999 (g + h) - N 52 k, (k : Int), 0)) (fun o => o = ((S : Int), (n : Int), min 9999 (g + h) - N 52 k - suS (fun i => N 51 (9 * i + k)) S m, (k : Int))) := by
        refine ok_up (fun i z => z = ((S : Int), (n : Int), min 9999 (g + h) - N 52 k - suS (fun i => N 51 (9 * i + k)) S i.toNat, (k : Int), i)) (m : Int) (i0 := 0) ?_ ?_ (by omega) (by show _ = ((S : Int), (n : Int), min 9999 (g + h) - N 52 k - 0, (k : Int), 0); rw [Int.sub_zero])
        · rintro i z c0 c1 rfl
          obtain ⟨j, rfl⟩ := Int.eq_ofNat_of_zero_le c0
          have b := su_b (f := fun i => N 51 (9 * i + k)) (S := S) (b := 99) (n := j) (fun i hi => hc i k (by omega) (by omega)) (by omega)
          have hk := hc j k (by omega) (by omega)
          rw [Int.toNat_natCast, show ((j : Int) + 1).toNat = j + 1 by omega, show suS (fun i => N 51 (9 * i + k)) S (j + 1) = suS (fun i => N 51 (9 * i + k)) S j + (if bit S j = 0 then 0 else N 51 (9 * j + k)) from rfl]
          generalize suS (fun i => N 51 (9 * i + k)) S j = q at b ⊢
          have hv : 0 ≤ (if bit (S : Int) j = 0 then 0 else N 51 (9 * j + k)) ∧ (if bit (S : Int) j = 0 then 0 else N 51 (9 * j + k)) ≤ 99 := by split <;> omega
          dsimp only
          unfold b_X7_falls_38
          rw [e5, if_pos c1, w_id (x := (j : Int) * 9) (by omega) (by omega), w_id (x := (j : Int) * 9 + (k : Int)) (by omega) (by omega), gdp (by omega), bit_id (by omega) (by omega) (by omega) (by omega), bit_mul, show ((j : Int) * 9 + (k : Int)).toNat = 9 * j + k by omega, w_id (x := if bit (S : Int) j = 0 then 0 else N 51 (9 * j + k)) (by omega) (by omega), w_id (by omega) (by omega), w_id (by omega) (by omega)]
          refine ok_ret ?_
          dsimp only
          rw [show min 9999 (g + h) - N 52 k - q - (if bit (S : Int) j = 0 then 0 else N 51 (9 * j + k)) = min 9999 (g + h) - N 52 k - (q + (if bit (S : Int) j = 0 then 0 else N 51 (9 * j + k))) by omega]
        · rintro z rfl
          dsimp only
          unfold b_X7_falls_38
          rw [e5, if_neg (by omega), Int.toNat_natCast]
          exact ok_ret rfl
      dsimp only
      unfold b_X7_falls_8
      rw [if_pos a1, gdp (by omega), e7, Int.toNat_natCast, w_id (x := g + h) (by omega) (by omega), min_id, w_id (by omega) (by omega)]
      refine ok_bind IN ?_
      rintro o rfl
      dsimp only
      have eq : min 9999 (g + h) - N 52 k - suS (fun i => N 51 (9 * i + k)) S m = stoS h (cyC N S m) G (k + 1) := by rw [es]; omega
      rw [eq, w_id (x := (k : Int) + 1) (by omega) (by omega)]
      by_cases c : stoS h (cyC N S m) G (k + 1) < 0
      · rw [if_pos c]
        rw [if_pos c] at ef
        refine ok_ret ?_
        dsimp only
        rw [fallY_mono (m := k + 1) (by omega) n (by omega), if_pos (by omega)]
      · rw [if_neg c]
        rw [if_neg c] at ef
        exact ok_ret ⟨rfl, ef, by omega, by omega⟩
    · rintro z ⟨rfl, hf, -⟩
      dsimp only
      unfold b_X7_falls_8
      rw [if_neg (by omega)]
      rw [Int.toNat_natCast] at hf
      refine ok_ret ?_
      dsimp only
      rw [hf, if_neg (by omega)]
  obtain ⟨o, eo, po⟩ := H
  rw [eo, po]
  by_cases c : 0 ≤ fallY h (cyC N S m) G n
  · rw [if_pos c, if_pos c]; rfl
  · rw [if_neg c, if_neg c]; rfl
end SI4
