/-! orders: how many times; the class's -/
noncomputable def pTi (tp : Nat → Int) (n t : Nat) : Nat ⊕ (Nat × Int) := if tkK tp n t = 266 then (if tkK tp n (t + 1) = -2 ∧ 1 ≤ tkN tp n (t + 1) ∧ tkN tp n (t + 1) ≤ 20 then .inr (t + 2, tkN tp n (t + 1)) else .inl (t + 1)) else .inr (t, 1)
section OC
variable {X : MX} {N : NN} {tp : Nat → Int} {n : Nat} {ord : Bool}
theorem c_times {t np z i : Nat} (hn : n ≤ 400) (hb : ∀ j, j < n → 0 ≤ tp j ∧ tp j ≤ 255) (hX : XOK X) (hA : KAc N tp n) (hi : i < 12) (h : CSt N tp n ord t np z) (h1 : N 24 (8 * i + 1) = 1) : Ok (f_X5_times X N (i : Int)) (fun o => Fr frCl N o.2 ∧ ((∃ f, pTi tp n t = .inl f ∧ o.1 = 0 ∧ o.2 16 6 = (tkS tp n f : Int)) ∨ ∃ q, pTi tp n t = .inr q ∧ o.1 = 1 ∧ CSt o.2 tp n ord q.1 np z ∧ o.2 24 (8 * i + 1) = q.2 ∧ (∀ k, k ≠ 8 * i + 1 → o.2 24 k = N 24 k) ∧ (∀ k, o.2 22 k = N 22 k ∧ o.2 23 k = N 23 k) ∧ o.2 21 4 = N 21 4 ∧ t ≤ q.1 ∧ 1 ≤ q.2 ∧ q.2 ≤ 20)) := by
  unfold f_X5_times pTi
  by_cases c : tkK tp n t = 266
  case neg =>
    rw [if_neg (show ¬ N 16 10 = 266 by rw [h.2.1]; exact c), if_neg c]
    exact ok_ret ⟨fr_rfl, Or.inr ⟨(t, 1), rfl, rfl, h, h1, fun k _ => rfl, fun k => ⟨rfl, rfl⟩, rfl, Nat.le_refl _, by dsimp only; omega, by dsimp only; omega⟩⟩
  rw [if_pos (show N 16 10 = 266 by rw [h.2.1]; exact c), if_pos c]
  obtain ⟨ad, C2⟩ := c_advance hn hb hA h (by omega)
  obtain ⟨M2, hM2⟩ : ∃ M2, M2 = m_up (m_up N 16 9 ((t : Int) + 1)) 16 10 (tkK tp n (t + 1)) := ⟨_, rfl⟩
  rw [← hM2] at ad C2
  have f2 : Fr (fun o k => o = 16 ∧ (k = 9 ∨ k = 10)) N M2 := by rw [hM2]; exact fr_up (fr_up fr_rfl (by omega)) (by omega)
  have f2c : Fr frCl N M2 := fr_mono f2 fun o k q => Or.inl (by unfold frRd; omega)
  have A2 := kac_cl hA f2c
  rw [ad, Option.bind_some]
  have t5 := kak_le hn C2.2.2.2.2.2.1
  have bad : Ok (f_X5_times_j52 X M2) (fun o => Fr frCl N o.2 ∧ ((∃ f, (.inl (t + 1) : Nat ⊕ (Nat × Int)) = .inl f ∧ o.1 = 0 ∧ o.2 16 6 = (tkS tp n f : Int)) ∨ ∃ q, (.inl (t + 1) : Nat ⊕ (Nat × Int)) = .inr q ∧ o.1 = 1 ∧ CSt o.2 tp n ord q.1 np z ∧ o.2 24 (8 * i + 1) = q.2 ∧ (∀ k, k ≠ 8 * i + 1 → o.2 24 k = N 24 k) ∧ (∀ k, o.2 22 k = N 22 k ∧ o.2 23 k = N 23 k) ∧ o.2 21 4 = N 21 4 ∧ t ≤ q.1 ∧ 1 ≤ q.2 ∧ q.2 ≤ 20)) := by
    unfold f_X5_times_j52
    rw [c_wrong hn A2 C2, Option.bind_some, if_pos (by omega)]
    exact ok_ret ⟨fr_up f2c (Or.inl (by unfold frRd; omega)), Or.inl ⟨t + 1, rfl, rfl, by dsimp only; exact up_s⟩⟩
  by_cases c2 : tkK tp n (t + 1) = -2
  case neg =>
    rw [if_neg (show ¬ M2 16 10 = -2 by rw [C2.2.1]; exact c2), if_neg (fun y => c2 y.1)]
    exact bad
  have e19 := (A2 (t + 1) C2.2.2.2.2.2.1).2.2 c2
  rw [if_pos (show M2 16 10 = -2 by rw [C2.2.1]; exact c2), C2.1, if_pos (by omega), Int.toNat_natCast, e19]
  by_cases c3 : tkN tp n (t + 1) < 1
  · rw [if_pos c3, if_neg (fun y => by omega)]
    exact bad
  rw [if_neg c3, if_pos (by omega)]
  by_cases c4 : 20 < tkN tp n (t + 1)
  · rw [if_pos c4, if_neg (fun y => by omega)]
    exact bad
  rw [if_neg c4, if_pos (by omega), if_pos (show tkK tp n (t + 1) = -2 ∧ 1 ≤ tkN tp n (t + 1) ∧ tkN tp n (t + 1) ≤ 20 by omega)]
  have es := c_setPart (N := M2) (a := 1) (v := tkN tp n (t + 1)) hX hi (by omega)
  rw [show ((1 : Nat) : Int) = 1 from rfl] at es
  rw [es, Option.bind_some]
  have f5 : Fr fr24 M2 (m_up M2 24 (8 * i + 1) (tkN tp n (t + 1))) := fr_up fr_rfl (Or.inl rfl)
  have C5 := cst_24 C2 f5
  have A5 := kac_cl A2 (fr_4c f5)
  obtain ⟨ad6, C6⟩ := c_advance hn hb A5 C5 (by omega)
  obtain ⟨M6, hM6⟩ : ∃ M6, M6 = m_up (m_up (m_up M2 24 (8 * i + 1) (tkN tp n (t + 1))) 16 9 (((t + 1 : Nat) : Int) + 1)) 16 10 (tkK tp n (t + 1 + 1)) := ⟨_, rfl⟩
  rw [← hM6] at ad6 C6
  rw [ad6, Option.bind_some]
  have f6 : Fr (fun o k => o = 16 ∧ (k = 9 ∨ k = 10)) (m_up M2 24 (8 * i + 1) (tkN tp n (t + 1))) M6 := by rw [hM6]; exact fr_up (fr_up fr_rfl (by omega)) (by omega)
  refine ok_ret ⟨fr_tr f2c (fr_tr (fr_4c f5) (fr_mono f6 fun o k q => Or.inl (by unfold frRd; omega))), Or.inr ⟨(t + 2, tkN tp n (t + 1)), rfl, rfl, C6, ?_, fun k hk => ?_, fun k => ⟨?_, ?_⟩, ?_, by dsimp only; omega, by dsimp only; omega, by dsimp only; omega⟩⟩
  · dsimp only
    rw [f6 24 _ (by omega), up_s]
  · dsimp only
    rw [f6 24 _ (by omega), up_k hk, f2 24 _ (by omega)]
  · dsimp only
    rw [f6 22 _ (by omega), up_o (by omega), f2 22 _ (by omega)]
  · dsimp only
    rw [f6 23 _ (by omega), up_o (by omega), f2 23 _ (by omega)]
  · dsimp only
    rw [f6 21 4 (by omega), up_o (by omega), f2 21 4 (by omega)]
end OC
