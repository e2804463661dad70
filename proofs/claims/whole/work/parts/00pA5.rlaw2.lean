section RLW
variable {X : MX} {N : NN} {tp : Nat → Int} {n : Nat}
def frLw (c : Nat) (o k : Nat) : Prop := frTm o k ∨ (o = 64 ∧ k = 0) ∨ (o = 66 ∧ (k = 4 ∨ (270 + 900 * c ≤ k ∧ k < 270 + 900 * c + 900)))
theorem tell_ok {v : Int} (h : -6 ≤ v) : ∃ o, f_X12_tell X N v = some o := by
  unfold f_X12_tell f_X12_tell_j10 f_X12_tell_j28
  by_cases c : v < 0
  · rw [if_pos c]
    dsimp only
    rw [if_pos c, w_id (x := -v) (by omega) (by omega), if_pos (by omega), if_pos (by omega)]
    exact ⟨_, rfl⟩
  · rw [if_neg c]
    dsimp only
    rw [if_neg c]
    exact ⟨_, rfl⟩
theorem r_law {c : Nat} (hn : n ≤ 400) (hT : TPm N tp n) (hb : ∀ j, j < n → 0 ≤ tp j ∧ tp j ≤ 255) (hw : MKn N) (hc : N 66 4 = (c : Int)) (hc6 : c < 6) : Ok (f_X12_law X N) (fun o => (∃ f M, pTx tp n = .inl f ∧ f_X12_tell X M (-6) = some o ∧ M 64 18 = (tkS tp n f : Int) ∧ M 64 20 = 0 ∧ M 64 13 = 0 ∧ Fr (fun o k => frTm o k ∨ (o = 64 ∧ k = 0)) N M) ∨ (∃ L M, pTx tp n = .inr L ∧ f_X12_tell X M (c : Int) = some o ∧ M 64 18 = -1 ∧ M 64 20 = 0 ∧ M 64 13 = 0 ∧ M 66 4 = (c : Int) + 1 ∧ RS c (fun j => M 66 (270 + 900 * c + j)) (lawO L) ∧ Fr (frLw c) N M)) := by
  unfold f_X12_law
  dsimp only
  have f0 : Fr (fun o k => o = 64 ∧ k = 0) N (m_up N 64 0 0) := fr_up fr_rfl (by omega)
  rw [if_neg (show ¬ m_up N 64 0 0 66 4 = 6 by rw [f0 66 4 (by omega), hc]; omega)]
  have w0 := kn_wc hw
  refine r_reads (tp := tp) (n := n) hn ⟨by rw [f0 64 13 (by omega)]; exact hT.1, fun j hj => by rw [f0 73 j (by omega)]; exact hT.2 j hj⟩ hb ⟨fun k hk => by rw [f0 79 k (by omega)]; exact w0.1 k hk, fun k hk => by rw [f0 80 k (by omega)]; exact w0.2 k hk⟩ (fun M hM fM => ?_)
  have f1 : Fr (fun o k => frTm o k ∨ (o = 64 ∧ k = 0)) N M := fr_tr (fr_mono f0 fun o k q => Or.inr q) (fr_mono fM fun o k q => Or.inl q)
  obtain ⟨⟨h20, h13⟩, hM⟩ := hM
  cases hr : pTx tp n with
  | inl f =>
    rw [hr] at hM
    rw [if_neg (show ¬ M 64 19 = 0 by rw [hM.1]; omega)]
    obtain ⟨o, eo⟩ := tell_ok (X := X) (N := M) (v := -6) (by omega)
    rw [eo, Option.bind_some]
    exact ok_ret (Or.inl ⟨f, M, rfl, eo, hM.2, h20, h13, f1⟩)
  | inr L =>
    rw [hr] at hM
    obtain ⟨⟨h19, h18⟩, z, z4, l12, h21, h23, hcd, hcl⟩ := hM
    have m4 : M 66 4 = (c : Int) := by rw [f1 66 4 (by unfold frTm; omega)]; exact hc
    rw [if_pos h19, m4, w_id (x := 900 * (c : Int)) (by omega) (by omega), w_id (x := 270 + 900 * (c : Int)) (by omega) (by omega), w_id (x := 270 + 900 * (c : Int) + 1) (by omega) (by omega), if_pos (by omega), show (270 + 900 * (c : Int) + 1).toNat = 270 + 900 * c + 1 by omega]
    obtain ⟨M1, hM1⟩ : ∃ M1, M1 = m_up M 66 (270 + 900 * c + 1) (M 64 21) := ⟨_, rfl⟩
    rw [← hM1]
    have g1 : Fr (fun o k => o = 66 ∧ k = 270 + 900 * c + 1) M M1 := by rw [hM1]; exact fr_up fr_rfl (by omega)
    have e1 : M1 66 (270 + 900 * c + 1) = (L.length : Int) := by rw [hM1, up_s]; exact h21
    obtain ⟨_, ec, M2, rfl, k2, g2⟩ := cp74 (X := X) (N := M1) (len := L.length) (a := 270 + 900 * c) (by rw [g1 64 21 (by omega)]; exact h21) l12 (by omega)
    rw [show ((270 + 900 * c : Nat) : Int) = 270 + 900 * (c : Int) by omega] at ec
    rw [ec, Option.bind_some]
    dsimp only
    obtain ⟨M3, e3, k3, g3⟩ := cp75 (X := X) (N := M2) (z := z) (a := 270 + 900 * c) (by rw [g2 64 23 (by omega), g1 64 23 (by omega)]; exact h23) z4 (by omega)
    rw [show ((270 + 900 * c : Nat) : Int) = 270 + 900 * (c : Int) by omega] at e3
    rw [e3, Option.bind_some]
    have n4 : M3 66 4 = (c : Int) := by rw [g3 66 4 (by omega), g2 66 4 (by omega), g1 66 4 (by omega)]; exact m4
    rw [n4, w_id (x := (c : Int) + 1) (by omega) (by omega), up_s, w_id (x := (c : Int) + 1 - 1) (by omega) (by omega), show (c : Int) + 1 - 1 = (c : Int) by omega]
    obtain ⟨M4, hM4⟩ : ∃ M4, M4 = m_up M3 66 4 ((c : Int) + 1) := ⟨_, rfl⟩
    rw [← hM4]
    have g4 : Fr (fun o k => o = 66 ∧ k = 4) M3 M4 := by rw [hM4]; exact fr_up fr_rfl (by omega)
    obtain ⟨o, eo⟩ := tell_ok (X := X) (N := M4) (v := (c : Int)) (by omega)
    rw [eo, Option.bind_some]
    have o64 : ∀ k, M4 64 k = M 64 k := fun k => by rw [g4 64 k (by omega), g3 64 k (by omega), g2 64 k (by omega), g1 64 k (by omega)]
    refine ok_ret (Or.inr ⟨L, M4, rfl, eo, (o64 18).trans h18, (o64 20).trans h20, (o64 13).trans h13, by rw [hM4, up_s], ?_, ?_⟩)
    · refine rs_of (M0 := M) (z := z) (by omega) l12 z4 ⟨?_, fun j hj => ?_, fun k hk => ?_, hcd⟩ hcl
      · show M4 66 (270 + 900 * c + 1) = _
        rw [g4 66 _ (by omega), g3 66 _ (by omega), g2 66 _ (by omega)]; exact e1
      · show M4 66 (270 + 900 * c + (2 + j)) = _
        rw [g4 66 _ (by omega), g3 66 _ (by omega), show 270 + 900 * c + (2 + j) = 270 + 900 * c + 2 + j by omega, k2 j hj, g1 74 j (by omega)]
      · show M4 66 (270 + 900 * c + (98 + 2 * k)) = _ ∧ M4 66 (270 + 900 * c + (99 + 2 * k)) = _
        obtain ⟨y1, y2⟩ := k3 k hk
        rw [g4 66 _ (by omega), g4 66 _ (by omega), show 270 + 900 * c + (98 + 2 * k) = 270 + 900 * c + 98 + 2 * k by omega, show 270 + 900 * c + (99 + 2 * k) = 270 + 900 * c + 99 + 2 * k by omega, y1, y2, g2 75 k (by omega), g2 76 k (by omega), g1 75 k (by omega), g1 76 k (by omega)]
        exact ⟨rfl, rfl⟩
    · refine fr_tr (fr_mono f1 fun o k q => ?_) (fr_tr (fr_mono g1 fun o k q => ?_) (fr_tr (fr_mono g2 fun o k q => ?_) (fr_tr (fr_mono g3 fun o k q => ?_) (fr_mono g4 fun o k q => ?_))))
      · unfold frLw; rcases q with y | y; exact Or.inl y; exact Or.inr (Or.inl y)
      · unfold frLw; exact Or.inr (Or.inr (by omega))
      · unfold frLw; exact Or.inr (Or.inr (by omega))
      · unfold frLw; exact Or.inr (Or.inr (by omega))
      · unfold frLw; exact Or.inr (Or.inr (by omega))
end RLW
