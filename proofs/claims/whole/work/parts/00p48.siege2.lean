/-! siege: what the class gathers -/
def hC (c : Nat) (p : Nat → Bool) : Nat → List Nat
  | 0 => []
  | g + 1 => if p g = true ∧ (hC c p g).length < c then hC c p g ++ [g] else hC c p g
theorem hC_stop {c : Nat} {p : Nat → Bool} {g : Nat} (h : ¬ (hC c p g).length < c) : ∀ n, g ≤ n → hC c p n = hC c p g
  | 0, q => by rw [show g = 0 by omega]
  | n + 1, q => by
    by_cases e : g = n + 1
    · rw [e]
    · rw [hC, hC_stop h n (by omega), if_neg (fun z => h z.2)]
theorem hC_len {c : Nat} {p : Nat → Bool} : ∀ g, (hC c p g).length ≤ c
  | 0 => by rw [hC]; simp
  | g + 1 => by
    rw [hC]
    have := hC_len (c := c) (p := p) g
    split
    · rw [List.length_append]
      have h2 : (hC c p g).length < c := by rename_i z; exact z.2
      simp only [List.length_cons, List.length_nil]
      omega
    · exact this
def DS (N : NN) (n : Nat) (L : List Nat) (W : Nat → Int) (C : Nat → Nat → Int) : Prop := N 48 5 = (L.length : Int) ∧ ∀ i g : Nat, L[i]? = some g → N 49 i = (g : Int) ∧ N 50 i = W g ∧ ∀ y, y < n → N 51 (9 * i + y) = C g y
def frS (o k : Nat) : Prop := o = 26 ∨ o = 27 ∨ (o = 48 ∧ (k = 5 ∨ k = 6 ∨ k = 7)) ∨ o = 49 ∨ o = 50 ∨ o = 51 ∨ o = 52
section SI
variable {X : MX} {N : NN} {B : Int} {r : Nat → Int} {lw : Nat → Law}
theorem cw_S {N' : NN} (h : CW X N 4 B r lw) (hf : Fr frS N N') : CW X N' 4 B r lw := cw_fr h hf fun o k q => by unfold frS at q; omega
theorem c_si157 {l t y0 a6 : Int} {n g u : Nat} (hX : XOK X) (hW : CW X N 4 B r lw) (h0 : 0 ≤ t) (h1 : t < r 0) (hg : (g : Int) < r 1) (hn : n ≤ 9) (hu : u < 10) (hy : y0 = r 6) (e5 : N 48 5 = (u : Int)) :
    Ok (lp (fun s => b_X7_gather_157 X 4 s.1 s.2.1 s.2.2.1 s.2.2.2.1 s.2.2.2.2.1 s.2.2.2.2.2.1 s.2.2.2.2.2.2.1 s.2.2.2.2.2.2.2) (N, l, t, (n : Int), y0, a6, (g : Int), 0)) (fun o => ∃ M, o = (M, l, t, (n : Int), y0, a6, (g : Int)) ∧ (∀ y : Nat, y < n → M 51 (9 * u + y) = costS r lw g t (r 6 + 1 + y)) ∧ Fr (fun o k => o = 26 ∨ o = 27 ∨ (o = 51 ∧ 9 * u ≤ k)) N M) := by
  have hV := hW.2.1
  have v0 := hV.1
  have v1 := hV.2.1
  have v6 := hV.2.2.2.2.2.2.1
  refine ok_up (fun i z => ∃ M, z = (M, l, t, (n : Int), y0, a6, (g : Int), i) ∧ (∀ y : Nat, (y : Int) < i → M 51 (9 * u + y) = costS r lw g t (r 6 + 1 + y)) ∧ Fr (fun o k => o = 26 ∨ o = 27 ∨ (o = 51 ∧ 9 * u ≤ k)) N M) (n : Int) (i0 := 0) ?_ ?_ (by omega) ⟨N, rfl, fun y h => by omega, fr_rfl⟩
  · rintro i z a0 a1 ⟨M, rfl, hj, hf⟩
    obtain ⟨k, rfl⟩ := Int.eq_ofNat_of_zero_le a0
    have hWM : CW X M 4 B r lw := cw_fr hW hf fun o k q => by omega
    have e5' : M 48 5 = (u : Int) := by rw [hf 48 5 (by omega)]; exact e5
    dsimp only
    unfold b_X7_gather_157
    rw [if_pos a1, hy, w_id (x := r 6 + 1) (by omega) (by omega), w_id (x := r 6 + 1 + (k : Int)) (by omega) (by omega)]
    refine ok_bind (c_costs (Or.inl rfl) (xok26 hX) hWM (by omega) hg (by omega) (by omega)) ?_
    rintro ⟨cv, M2⟩ ⟨p1, p2⟩
    dsimp only at p1 p2 ⊢
    rw [e5', w_id (x := (u : Int) * 9) (by omega) (by omega), w_id (x := (u : Int) * 9 + (k : Int)) (by omega) (by omega), gdp (by omega), w_id (x := (k : Int) + 1) (by omega) (by omega), show ((u : Int) * 9 + (k : Int)).toNat = 9 * u + k by omega]
    refine ok_ret ⟨_, rfl, fun y q => ?_, fr_up (fr_tr hf (fr_mono p2 fun o k q => by unfold frJ at q; omega)) (by omega)⟩
    rw [up_a]
    by_cases e : y = k
    · rw [if_pos (by omega), p1, e]
    · rw [if_neg (by omega), p2 51 _ (by unfold frJ; omega)]; exact hj y (by omega)
  · rintro z ⟨M, rfl, hj, hf⟩
    dsimp only
    unfold b_X7_gather_157
    rw [if_neg (by omega)]
    exact ok_ret ⟨M, rfl, fun y h => hj y (by omega), hf⟩
end SI
