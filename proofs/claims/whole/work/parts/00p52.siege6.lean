/-! siege: the class's pick -/
theorem on_tab : ∀ m : Fin 11, ∀ S : Fin 1024, (S.val + 1 < 2 ^ m.val → onS (S.val : Int) 16 < (m.val : Int)) ∧ (S.val + 1 = 2 ^ m.val → onS (S.val : Int) 16 = (m.val : Int)) := by decide +kernel
theorem on_lt {m S : Nat} (hm : m ≤ 10) (h : S + 1 < 2 ^ m) : onS (S : Int) 16 < (m : Int) := by
  have hp : 2 ^ m ≤ 2 ^ 10 := Nat.pow_le_pow_right (by omega) hm
  exact (on_tab ⟨m, by omega⟩ ⟨S, by omega⟩).1 h
theorem on_eq {m S : Nat} (hm : m ≤ 10) (h : S + 1 = 2 ^ m) : onS (S : Int) 16 = (m : Int) := by
  have hp : 2 ^ m ≤ 2 ^ 10 := Nat.pow_le_pow_right (by omega) hm
  exact (on_tab ⟨m, by omega⟩ ⟨S, by omega⟩).2 h
/-- ones first, then worth -/
def siP (w : Nat → Int) (m S : Nat) : Int := onS (S : Int) 16 * 100000 + suS w S m
section SI5
variable {X : MX} {N : NN}
theorem c_siCheap {m n : Nat} {F : Nat → Bool} (hm : m ≤ 10) (e5 : N 48 5 = (m : Int)) (hb : ∀ i : Nat, i < m → 0 ≤ N 50 i ∧ N 50 i ≤ 999)
    (hF : ∀ S : Nat, S < 2 ^ m → f_X7_falls X N (S : Int) (n : Int) = some (if F S = true then 1 else 0)) :
    Ok (f_X7_cheapest X N (n : Int)) (fun o => o = if F (2 ^ m - 1) = true then brA (-1) (fun s => (s : Int)) (bestK F (siP (N 50) m) (2 ^ m)) else -1) := by
  have hp : 2 ^ m ≤ 2 ^ 10 := Nat.pow_le_pow_right (by omega) hm
  have hp0 : 0 < 2 ^ m := Nat.pos_of_ne_zero (by simp)
  have wb : ∀ S : Nat, 0 ≤ suS (N 50) S m ∧ suS (N 50) S m ≤ 9990 := fun S => by
    have := su_b (f := N 50) (S := S) (b := 999) (n := m) (fun i hi => hb i hi) (by omega)
    omega
  unfold f_X7_cheapest
  rw [e5, shl1_id (by omega) (by omega), Int.toNat_natCast, w_id (by omega) (by omega), show ((2 ^ m : Nat) : Int) - 1 = ((2 ^ m - 1 : Nat) : Int) by omega, hF (2 ^ m - 1) (by omega), Option.bind_some]
  cases hfull : F (2 ^ m - 1) with
  | false =>
    rw [if_neg (show ¬ false = true by decide), i00]
    exact ok_ret (by rw [if_neg (show ¬ false = true by decide)])
  | true =>
    rw [if_pos rfl, i10, if_pos rfl, c_siWorth (by omega) hm e5 hb, Option.bind_some]
    obtain ⟨fu, hfu⟩ : ∃ fu, fu = 2 ^ m - 1 := ⟨_, rfl⟩
    rw [← hfu] at hfull ⊢
    have hof : onS (fu : Int) 16 = (m : Int) := on_eq hm (by omega)
    have Hl : Ok (lp (fun s => b_X7_cheapest_38 X N s.1 s.2.1 s.2.2.1 s.2.2.2.1 s.2.2.2.2.1 s.2.2.2.2.2) ((n : Int), (fu : Int), (fu : Int), (m : Int), suS (N 50) fu m, 0)) (fun o => o = (((bestK F (siP (N 50) m) fu).getD fu : Nat) : Int)) := by
      refine ok_up (fun i z => ∃ b : Nat, b = (bestK F (siP (N 50) m) i.toNat).getD fu ∧ b < 2 ^ m ∧ z = ((n : Int), (fu : Int), (b : Int), onS (b : Int) 16, suS (N 50) b m, i)) (fu : Int) (i0 := 0) ?_ ?_ (by omega) ⟨fu, rfl, by omega, by rw [hof]⟩
      · rintro i z a0 a1 ⟨b, hbb, hlt, rfl⟩
        obtain ⟨k, rfl⟩ := Int.eq_ofNat_of_zero_le a0
        rw [Int.toNat_natCast] at hbb
        rw [show ((k : Int) + 1).toNat = k + 1 by omega]
        have wk := wb k
        have wbb := wb b
        have ok := onS_b (k : Int) 16
        have ob := onS_b (b : Int) 16
        have lk := on_lt (S := k) hm (by omega)
        have cmp : (onS (k : Int) 16 < onS (b : Int) 16 ∨ (onS (k : Int) 16 = onS (b : Int) 16 ∧ suS (N 50) k m < suS (N 50) b m)) → F k = true → (bestK F (siP (N 50) m) (k + 1)).getD fu = k := by
          intro lt hF1
          have : bestK F (siP (N 50) m) (k + 1) = some k := by
            refine best_t hF1 ?_
            cases hq : bestK F (siP (N 50) m) k with
            | none => exact Or.inl rfl
            | some b' =>
              rw [hq] at hbb
              have : b = b' := hbb
              subst this
              refine Or.inr ⟨b, rfl, ?_⟩
              unfold siP
              omega
          rw [this]; rfl
        have keep : (F k = false ∨ ¬ (onS (k : Int) 16 < onS (b : Int) 16 ∨ (onS (k : Int) 16 = onS (b : Int) 16 ∧ suS (N 50) k m < suS (N 50) b m))) → b = (bestK F (siP (N 50) m) (k + 1)).getD fu := by
          intro h
          rw [best_f, hbb]
          rcases h with h | h
          · exact Or.inl h
          · cases hq : bestK F (siP (N 50) m) k with
            | none =>
              rw [hq] at hbb
              have e : b = fu := hbb
              subst e
              exact absurd (Or.inl (by omega)) h
            | some b' =>
              rw [hq] at hbb
              have e : b = b' := hbb
              subst e
              refine Or.inr ⟨b, rfl, ?_⟩
              unfold siP
              omega
        dsimp only
        unfold b_X7_cheapest_38 f_X7_cheapest_l38_j80 f_X7_cheapest_l38_j101
        rw [if_pos a1, c_bitCount (by omega), Option.bind_some, w_id (x := (k : Int) + 1) (by omega) (by omega)]
        by_cases c1 : onS (b : Int) 16 < onS (k : Int) 16
        · rw [if_pos c1]
          exact ok_ret ⟨b, keep (Or.inr (by omega)), hlt, rfl⟩
        rw [if_neg c1, c_siWorth (by omega) hm e5 hb, Option.bind_some, hF k (by omega), Option.bind_some]
        by_cases lt : onS (k : Int) 16 < onS (b : Int) 16 ∨ (onS (k : Int) 16 = onS (b : Int) 16 ∧ suS (N 50) k m < suS (N 50) b m)
        · have go : Ok (if (if F k = true then (1 : Int) else 0) = 0 then (some (Sum.inl ((n : Int), (fu : Int), (b : Int), onS (b : Int) 16, suS (N 50) b m, (k : Int) + 1)) : Option ((Int × Int × Int × Int × Int × Int) ⊕ Int)) else some (Sum.inl ((n : Int), (fu : Int), (k : Int), onS (k : Int) 16, suS (N 50) k m, (k : Int) + 1))) (fun o => ∃ b : Nat, b = (bestK F (siP (N 50) m) (k + 1)).getD fu ∧ b < 2 ^ m ∧ o = Sum.inl ((n : Int), (fu : Int), (b : Int), onS (b : Int) 16, suS (N 50) b m, (k : Int) + 1)) := by
            cases hk : F k with
            | false =>
              rw [if_neg (show ¬ false = true by decide), i00]
              exact ok_ret ⟨b, keep (Or.inl hk), hlt, rfl⟩
            | true =>
              rw [if_pos rfl, i10]
              exact ok_ret ⟨k, (cmp lt hk).symm, by omega, rfl⟩
          by_cases c2 : onS (k : Int) 16 < onS (b : Int) 16
          · rw [if_pos c2]
            exact ok_mono go (by rintro o ⟨b', h1, h2, rfl⟩; exact ⟨b', h1, h2, rfl⟩)
          · rw [if_neg c2, if_pos (show suS (N 50) k m < suS (N 50) b m by omega)]
            exact ok_mono go (by rintro o ⟨b', h1, h2, rfl⟩; exact ⟨b', h1, h2, rfl⟩)
        · rw [if_neg (show ¬ onS (k : Int) 16 < onS (b : Int) 16 by omega), if_neg (show ¬ suS (N 50) k m < suS (N 50) b m by omega)]
          exact ok_ret ⟨b, keep (Or.inr lt), hlt, rfl⟩
      · rintro z ⟨b, hbb, hlt, rfl⟩
        dsimp only
        unfold b_X7_cheapest_38
        rw [if_neg (by omega)]
        rw [Int.toNat_natCast] at hbb
        exact ok_ret (by rw [hbb])
    refine ok_bind Hl ?_
    rintro o rfl
    refine ok_ret ?_
    rw [show 2 ^ m = fu + 1 by omega]
    cases hq : bestK F (siP (N 50) m) fu with
    | none => rw [best_t hfull (Or.inl hq)]; rfl
    | some b =>
      have sp := best_spec F (siP (N 50) m) fu
      rw [hq] at sp
      have lb := on_lt (S := b) hm (by have := sp.1; omega)
      have w1 := wb b
      have w2 := wb fu
      rw [best_f (Or.inr ⟨b, hq, by unfold siP; omega⟩), hq]
      rfl
end SI5
