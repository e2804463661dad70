/-! way: the class -/
def tbT (N : NN) (a b : Nat) : Int := N 54 (6 * a + b)
def tbD (N : NN) (a b : Nat) : Int := N 55 (6 * a + b)
def cnn (r : Nat → Int) (j a b : Nat) : Prop := (rr r j 0 = (a : Int) ∧ rr r j 1 = (b : Int)) ∨ (rr r j 0 = (b : Int) ∧ rr r j 1 = (a : Int))
def RDn (N : NN) (r : Nat → Int) (i : Nat) : Prop :=
  (∀ a b : Nat, a < 6 → b < 6 → tbT N a b = tbT N b a ∧ tbD N a b = tbD N b a ∧ 0 ≤ tbT N a b ∧ tbT N a b ≤ 10 ∧ 0 ≤ tbD N a b ∧ tbD N a b ≤ 30) ∧
  (∀ a b : Nat, a < 6 → b < 6 → tbT N a b < 10 → ∃ j, j < i ∧ cnn r j a b ∧ rr r j 3 = tbT N a b ∧ rr r j 2 = tbD N a b) ∧
  (∀ j a b : Nat, j < i → a < 6 → b < 6 → cnn r j a b → rr r j 3 < 10 → tbT N a b < rr r j 3 ∨ (tbT N a b = rr r j 3 ∧ tbD N a b ≤ rr r j 2))
section WC
variable {X : MX} {N : NN} {B : Int} {r : Nat → Int} {lw : Nat → Law}
theorem c_fill36 {o : Nat} {v : Int} (hx : xK X o = (1, 36)) : Ok (f_J7_fill_53178 X o N v) (fun N' => (∀ k, k < 36 → N' o k = v) ∧ Fr (fun o' _ => o' = o) N N') := by
  have e : (((xK X o).2 : Nat) : Int) = 36 := by rw [hx]; rfl
  unfold f_J7_fill_53178
  rw [e, if_pos (by omega)]
  have H : Ok (lp (fun s => b_J7_fill_53178_5 X o s.1 s.2.1 s.2.2.1 s.2.2.2) (N, v, 0, 36)) (fun N' => (∀ k, k < 36 → N' o k = v) ∧ Fr (fun o' _ => o' = o) N N') := by
    refine ok_up (fun i z => ∃ M, z = (M, v, i, 36) ∧ (∀ k : Nat, (k : Int) < i → M o k = v) ∧ Fr (fun o' _ => o' = o) N M) 36 (i0 := 0) ?_ ?_ (by omega) ⟨N, rfl, fun k h => by omega, fr_rfl⟩
    · rintro i z a0 a1 ⟨M, rfl, hj, hf⟩
      obtain ⟨k, rfl⟩ := Int.eq_ofNat_of_zero_le a0
      dsimp only
      unfold b_J7_fill_53178_5
      rw [if_pos a1, e, gdp (by omega), Int.toNat_natCast, w_id (by omega) (by omega)]
      refine ok_ret ⟨_, rfl, fun j hj' => ?_, fr_up hf rfl⟩
      rw [up_a]
      by_cases c : j = k
      · rw [if_pos c]
      · rw [if_neg c]; exact hj j (by omega)
    · rintro z ⟨M, rfl, hj, hf⟩
      dsimp only
      unfold b_J7_fill_53178_5
      rw [if_neg (by omega)]
      exact ok_ret ⟨fun k h => hj k (by omega), hf⟩
  refine ok_bind H ?_
  intro o5 h
  exact ok_ret h
theorem rd_step {M : NN} {i : Nat} {one other : Nat} (h : RDn M r i) (e0 : rr r i 0 = (one : Int)) (e1 : rr r i 1 = (other : Int)) (l0 : one < 6) (l1 : other < 6) (ne : one ≠ other) (b3 : 0 ≤ rr r i 3 ∧ rr r i 3 ≤ 10) (b2 : 1 ≤ rr r i 2 ∧ rr r i 2 ≤ 30) :
    ((rr r i 3 < tbT M one other ∨ (rr r i 3 = tbT M one other ∧ rr r i 2 < tbD M one other)) → RDn (m_up (m_up (m_up (m_up M 54 (6 * one + other) (rr r i 3)) 54 (6 * other + one) (rr r i 3)) 55 (6 * one + other) (rr r i 2)) 55 (6 * other + one) (rr r i 2)) r (i + 1)) ∧
    (¬ (rr r i 3 < tbT M one other ∨ (rr r i 3 = tbT M one other ∧ rr r i 2 < tbD M one other)) → RDn M r (i + 1)) := by
  obtain ⟨h1, h2, h3⟩ := h
  have sym : ∀ a b : Nat, cnn r i a b ↔ (a = one ∧ b = other) ∨ (a = other ∧ b = one) := by
    intro a b
    unfold cnn
    rw [e0, e1]
    omega
  constructor
  · intro hb
    generalize hM' : (m_up (m_up (m_up (m_up M 54 (6 * one + other) (rr r i 3)) 54 (6 * other + one) (rr r i 3)) 55 (6 * one + other) (rr r i 2)) 55 (6 * other + one) (rr r i 2)) = M'
    have t1 : ∀ a b : Nat, a < 6 → b < 6 → cnn r i a b → tbT M' a b = rr r i 3 ∧ tbD M' a b = rr r i 2 := by
      intro a b ha hb' c
      rw [sym] at c
      unfold tbT tbD
      rw [← hM', up_o (by omega), up_o (by omega), up_a, up_a, up_a, up_a]
      rcases c with ⟨rfl, rfl⟩ | ⟨rfl, rfl⟩
      · rw [if_neg (by omega), if_pos rfl, if_neg (by omega), if_pos rfl]; exact ⟨rfl, rfl⟩
      · rw [if_pos rfl, if_pos rfl]; exact ⟨rfl, rfl⟩
    have t2 : ∀ a b : Nat, a < 6 → b < 6 → ¬ cnn r i a b → tbT M' a b = tbT M a b ∧ tbD M' a b = tbD M a b := by
      intro a b ha hb' c
      rw [sym] at c
      unfold tbT tbD
      rw [← hM', up_o (by omega), up_o (by omega), up_a, up_a, up_a, up_a, if_neg (by omega), if_neg (by omega), if_neg (by omega), if_neg (by omega), up_o (by omega), up_o (by omega)]
      exact ⟨rfl, rfl⟩
    refine ⟨fun a b ha hb' => ?_, fun a b ha hb' hlt => ?_, fun j a b hj ha hb' c hlt => ?_⟩
    · by_cases c : cnn r i a b
      · have c' : cnn r i b a := by rw [sym] at c ⊢; omega
        rw [(t1 a b ha hb' c).1, (t1 a b ha hb' c).2, (t1 b a hb' ha c').1, (t1 b a hb' ha c').2]
        omega
      · have c' : ¬ cnn r i b a := by rw [sym] at c ⊢; omega
        rw [(t2 a b ha hb' c).1, (t2 a b ha hb' c).2, (t2 b a hb' ha c').1, (t2 b a hb' ha c').2]
        exact h1 a b ha hb'
    · by_cases c : cnn r i a b
      · exact ⟨i, by omega, c, (t1 a b ha hb' c).1.symm, (t1 a b ha hb' c).2.symm⟩
      · rw [(t2 a b ha hb' c).1] at hlt ⊢
        rw [(t2 a b ha hb' c).2]
        obtain ⟨j, q, q'⟩ := h2 a b ha hb' hlt
        exact ⟨j, by omega, q'⟩
    · by_cases c' : cnn r i a b
      · rw [(t1 a b ha hb' c').1, (t1 a b ha hb' c').2]
        by_cases e : j = i
        · subst e; exact Or.inr ⟨rfl, Int.le_refl _⟩
        · have q := h3 j a b (by omega) ha hb' c hlt
          have : tbT M a b = tbT M one other ∧ tbD M a b = tbD M one other := by
            rw [sym] at c'
            rcases c' with ⟨rfl, rfl⟩ | ⟨rfl, rfl⟩
            · exact ⟨rfl, rfl⟩
            · have := h1 a b ha hb'; exact ⟨this.1, this.2.1⟩
          omega
      · rw [(t2 a b ha hb' c').1, (t2 a b ha hb' c').2]
        have ne : j ≠ i := fun e => c' (e ▸ c)
        exact h3 j a b (by omega) ha hb' c hlt
  · intro hb
    refine ⟨h1, fun a b ha hb' hlt => ?_, fun j a b hj ha hb' c hlt => ?_⟩
    · obtain ⟨j, q, q'⟩ := h2 a b ha hb' hlt
      exact ⟨j, by omega, q'⟩
    · by_cases e : j = i
      · subst e
        rw [sym] at c
        have : tbT M a b = tbT M one other ∧ tbD M a b = tbD M one other := by
          rcases c with ⟨rfl, rfl⟩ | ⟨rfl, rfl⟩
          · exact ⟨rfl, rfl⟩
          · have := h1 a b ha hb'; exact ⟨this.1, this.2.1⟩
        omega
      · exact h3 j a b (by omega) ha hb' c hlt
def frDw (o k : Nat) : Prop := (o = 53 ∧ k = 4) ∨ o = 54 ∨ o = 55
theorem c_wyDraw (hX : XOK X) (hW : CW X N 4 B r lw) : Ok (f_X9_draw X 4 N) (fun M => M 53 4 = r 0 ∧ RDn M r (r 3).toNat ∧ Fr frDw N M) := by
  have hV := hW.2.1
  have v0 := hV.1
  have v3 := hV.2.2.2.1
  have vr := hV.2.2.2.2.2.2.2.2.2.2.2.2.2
  have cwf : ∀ {M : NN}, Fr frDw N M → CW X M 4 B r lw := fun hf => cw_fr hW hf fun o k q => by unfold frDw at q; omega
  unfold f_X9_draw
  refine ok_bd (c_many hW.1 (by omega) (by omega)) ?_
  rw [show r (0 : Int).toNat = r 0 from rfl, min_id, show min (r 0) 6 = r 0 by omega]
  have f1 : Fr frDw N (m_up N 53 4 (r 0)) := fr_up fr_rfl (by unfold frDw; omega)
  refine ok_bind (c_fill36 hX.2.2.2.2.2.2.2.2.2.1) ?_
  rintro M2 ⟨p1, p2⟩
  refine ok_bind (c_fill36 hX.2.2.2.2.2.2.2.2.2.2.1) ?_
  rintro M3 ⟨q1, q2⟩
  have f3 : Fr frDw N M3 := fr_tr f1 (fr_tr (fr_mono p2 fun o k q => by unfold frDw; omega) (fr_mono q2 fun o k q => by unfold frDw; omega))
  have e4 : M3 53 4 = r 0 := by rw [q2 53 4 (by omega), p2 53 4 (by omega), up_s]
  have ht : ∀ a b : Nat, a < 6 → b < 6 → tbT M3 a b = 10 ∧ tbD M3 a b = 0 := fun a b ha hb => by
    unfold tbT tbD
    rw [q2 54 _ (by omega), p1 _ (by omega), q1 _ (by omega)]
    exact ⟨rfl, rfl⟩
  have hR : RDn M3 r 0 := by
    refine ⟨fun a b ha hb => ?_, fun a b ha hb hlt => ?_, fun j a b hj => by omega⟩
    · rw [(ht a b ha hb).1, (ht a b ha hb).2, (ht b a hb ha).1, (ht b a hb ha).2]; omega
    · rw [(ht a b ha hb).1] at hlt; omega
  have H : Ok (lp (fun s => b_X9_draw_33 X 4 s.1 s.2) (M3, 0)) (fun M => M 53 4 = r 0 ∧ RDn M r (r 3).toNat ∧ Fr frDw N M) := by
    refine ok_up (fun i z => ∃ M, z = (M, i) ∧ M 53 4 = r 0 ∧ RDn M r i.toNat ∧ Fr frDw N M) (r 3) (i0 := 0) ?_ ?_ (by omega) ⟨M3, rfl, e4, hR, f3⟩
    · rintro i z a0 a1 ⟨M, rfl, g4, gR, gf⟩
      obtain ⟨k, rfl⟩ := Int.eq_ofNat_of_zero_le a0
      rw [Int.toNat_natCast] at gR
      rw [show ((k : Int) + 1).toNat = k + 1 by omega]
      have hM := cwf gf
      have v := vr k (by omega) a1
      obtain ⟨one, h1⟩ := Int.eq_ofNat_of_zero_le v.1
      obtain ⟨other, h2⟩ := Int.eq_ofNat_of_zero_le v.2.2.1
      obtain ⟨s1, s2⟩ := rd_step gR h1 h2 (by omega) (by omega) (by omega) (by omega) (by omega)
      dsimp only
      unfold b_X9_draw_33 f_X9_draw_l33_j163 f_X9_draw_l33_j118
      refine ok_bd (c_many hM.1 (by omega) (by omega)) ?_
      rw [show r (3 : Int).toNat = r 3 from rfl, if_pos a1]
      refine ok_bd (c_roadAt hM.1 (by omega) (by omega) (by omega) (by omega)) ?_
      refine ok_bd (c_roadAt hM.1 (by omega) (by omega) (by omega) (by omega)) ?_
      refine ok_bd (c_roadAt hM.1 (by omega) (by omega) (by omega) (by omega)) ?_
      refine ok_bd (c_roadAt hM.1 (by omega) (by omega) (by omega) (by omega)) ?_
      rw [h1, h2]
      simp (disch := omega) only [w_id (x := (one : Int) * 6), w_id (x := (one : Int) * 6 + (other : Int)), w_id (x := (other : Int) * 6), w_id (x := (other : Int) * 6 + (one : Int)), w_id (x := (k : Int) + 1), gdp]
      unfold f_X9_draw_l33_j163
      rw [show ((one : Int) * 6 + (other : Int)).toNat = 6 * one + other by omega, show ((other : Int) * 6 + (one : Int)).toNat = 6 * other + one by omega, w_id (x := (k : Int) + 1) (by omega) (by omega)]
      have hT : M 54 (6 * one + other) = tbT M one other := rfl
      have hD : M 55 (6 * one + other) = tbD M one other := rfl
      rw [hT, hD]
      by_cases c1 : rr r k 3 < tbT M one other
      · rw [if_pos c1]
        refine ok_ret ⟨_, rfl, ?_, s1 (Or.inl c1), fr_up (fr_up (fr_up (fr_up gf (by unfold frDw; omega)) (by unfold frDw; omega)) (by unfold frDw; omega)) (by unfold frDw; omega)⟩
        rw [up_o (by omega), up_o (by omega), up_o (by omega), up_o (by omega)]; exact g4
      rw [if_neg c1]
      by_cases c2 : rr r k 3 = tbT M one other
      · rw [if_pos c2]
        by_cases c3 : rr r k 2 < tbD M one other
        · rw [if_pos c3]
          refine ok_ret ⟨_, rfl, ?_, s1 (Or.inr ⟨c2, c3⟩), fr_up (fr_up (fr_up (fr_up gf (by unfold frDw; omega)) (by unfold frDw; omega)) (by unfold frDw; omega)) (by unfold frDw; omega)⟩
          rw [up_o (by omega), up_o (by omega), up_o (by omega), up_o (by omega)]; exact g4
        · rw [if_neg c3]
          exact ok_ret ⟨M, rfl, g4, s2 (by omega), gf⟩
      · rw [if_neg c2]
        exact ok_ret ⟨M, rfl, g4, s2 (by omega), gf⟩
    · rintro z ⟨M, rfl, g4, gR, gf⟩
      dsimp only
      unfold b_X9_draw_33
      refine ok_bd (c_many (cwf gf).1 (by omega) (by omega)) ?_
      rw [show r (3 : Int).toNat = r 3 from rfl, if_neg (by omega)]
      exact ok_ret ⟨g4, gR, gf⟩
  refine ok_bind H ?_
  intro o h
  exact ok_ret h
end WC
