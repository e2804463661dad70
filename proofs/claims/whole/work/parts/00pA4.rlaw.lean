/-! the reference's law(): what was read goes into the row -/
section CPY
variable {X : MX} {N : NN}
theorem kn_wc (h : MKn N) : (∀ k, k < 9 → N 79 k = wC (lwI k)) ∧ ∀ k, k < 7 → N 80 k = wC (owI k) := by
  obtain ⟨a0, a1, a2, a3, a4, a5, a6, a7, a8, b0, b1, b2, b3, b4, b5, b6⟩ := h
  refine ⟨fun k hk => ?_, fun k hk => ?_⟩
  · match k, hk with
    | 0, _ => rw [a0]; exact (wC_tab ⟨11, by decide⟩).symm
    | 1, _ => rw [a1]; exact (wC_tab ⟨12, by decide⟩).symm
    | 2, _ => rw [a2]; exact (wC_tab ⟨13, by decide⟩).symm
    | 3, _ => rw [a3]; exact (wC_tab ⟨14, by decide⟩).symm
    | 4, _ => rw [a4]; exact (wC_tab ⟨15, by decide⟩).symm
    | 5, _ => rw [a5]; exact (wC_tab ⟨8, by decide⟩).symm
    | 6, _ => rw [a6]; exact (wC_tab ⟨16, by decide⟩).symm
    | 7, _ => rw [a7]; exact (wC_tab ⟨17, by decide⟩).symm
    | 8, _ => rw [a8]; exact (wC_tab ⟨18, by decide⟩).symm
    | k + 9, hk => omega
  · match k, hk with
    | 0, _ => rw [b0]; exact (wC_tab ⟨16, by decide⟩).symm
    | 1, _ => rw [b1]; exact (wC_tab ⟨19, by decide⟩).symm
    | 2, _ => rw [b2]; exact (wC_tab ⟨20, by decide⟩).symm
    | 3, _ => rw [b3]; exact (wC_tab ⟨21, by decide⟩).symm
    | 4, _ => rw [b4]; exact (wC_tab ⟨22, by decide⟩).symm
    | 5, _ => rw [b5]; exact (wC_tab ⟨23, by decide⟩).symm
    | 6, _ => rw [b6]; exact (wC_tab ⟨24, by decide⟩).symm
    | k + 7, hk => omega
theorem cp74 {len a : Nat} (h21 : N 64 21 = (len : Int)) (hl : len ≤ 12) (ha : a ≤ 4770) : Ok (lp (fun s => b_X12_law_111 X s.1 s.2.1 s.2.2) (N, (a : Int), 0)) (fun o => ∃ M, o = (M, (a : Int)) ∧ (∀ j, j < 8 * len → M 66 (a + 2 + j) = N 74 j) ∧ Fr (fun o k => o = 66 ∧ a + 2 ≤ k ∧ k < a + 2 + 8 * len) N M) := by
  have K : ∀ (j m : Nat) (M : NN), m + j = 8 * len → (∀ i, i < m → M 66 (a + 2 + i) = N 74 i) → Fr (fun o k => o = 66 ∧ a + 2 ≤ k ∧ k < a + 2 + 8 * len) N M → Ok (lp (fun s => b_X12_law_111 X s.1 s.2.1 s.2.2) (M, (a : Int), (m : Int))) (fun o => ∃ M, o = (M, (a : Int)) ∧ (∀ j, j < 8 * len → M 66 (a + 2 + j) = N 74 j) ∧ Fr (fun o k => o = 66 ∧ a + 2 ≤ k ∧ k < a + 2 + 8 * len) N M) := by
    intro j
    induction j with
    | zero =>
      intro m M hm hc hf
      rw [lp_end (t := (M, (a : Int))) (by dsimp only; unfold b_X12_law_111; rw [hf 64 21 (by omega), h21, w_id (x := 8 * (len : Int)) (by omega) (by omega), if_neg (by omega)])]
      exact ok_ret ⟨M, rfl, fun i hi => hc i (by omega), hf⟩
    | succ j ih =>
      intro m M hm hc hf
      have B : b_X12_law_111 X M (a : Int) (m : Int) = some (.inl (m_up M 66 (a + 2 + m) (N 74 m), (a : Int), ((m + 1 : Nat) : Int))) := by
        unfold b_X12_law_111
        rw [hf 64 21 (by omega), h21, w_id (x := 8 * (len : Int)) (by omega) (by omega), if_pos (by omega), if_pos (by omega), w_id (x := (a : Int) + 2) (by omega) (by omega), w_id (x := (a : Int) + 2 + (m : Int)) (by omega) (by omega), if_pos (by omega), show ((a : Int) + 2 + (m : Int)).toNat = a + 2 + m by omega, Int.toNat_natCast, hf 74 m (by omega), w_id (x := (m : Int) + 1) (by omega) (by omega)]
        rfl
      rw [lp_next (f := fun s => b_X12_law_111 X s.1 s.2.1 s.2.2) (s := (M, (a : Int), (m : Int))) B]
      refine ih (m + 1) _ (by omega) (fun i hi => ?_) (fr_up hf (by omega))
      by_cases g : i = m
      · rw [g, up_s]
      · rw [up_k (by omega)]; exact hc i (by omega)
  exact K (8 * len) 0 N (by omega) (fun i hi => by omega) fr_rfl
theorem cp75 {z a : Nat} (h23 : N 64 23 = (z : Int)) (hz : z ≤ 400) (ha : a ≤ 4770) : Ok (lp (fun s => b_X12_law_146 X s.1 s.2.1 s.2.2) (N, (a : Int), 0)) (fun M => (∀ k, k < z → M 66 (a + 98 + 2 * k) = N 75 k ∧ M 66 (a + 99 + 2 * k) = N 76 k) ∧ Fr (fun o k => o = 66 ∧ a + 98 ≤ k ∧ k < a + 898) N M) := by
  have K : ∀ (j m : Nat) (M : NN), m + j = z → (∀ k, k < m → M 66 (a + 98 + 2 * k) = N 75 k ∧ M 66 (a + 99 + 2 * k) = N 76 k) → Fr (fun o k => o = 66 ∧ a + 98 ≤ k ∧ k < a + 898) N M → Ok (lp (fun s => b_X12_law_146 X s.1 s.2.1 s.2.2) (M, (a : Int), (m : Int))) (fun M => (∀ k, k < z → M 66 (a + 98 + 2 * k) = N 75 k ∧ M 66 (a + 99 + 2 * k) = N 76 k) ∧ Fr (fun o k => o = 66 ∧ a + 98 ≤ k ∧ k < a + 898) N M) := by
    intro j
    induction j with
    | zero =>
      intro m M hm hc hf
      rw [lp_end (t := M) (by dsimp only; unfold b_X12_law_146; rw [hf 64 23 (by omega), h23, if_neg (by omega)])]
      exact ok_ret ⟨fun i hi => hc i (by omega), hf⟩
    | succ j ih =>
      intro m M hm hc hf
      have B : b_X12_law_146 X M (a : Int) (m : Int) = some (.inl (m_up (m_up M 66 (a + 98 + 2 * m) (N 75 m)) 66 (a + 99 + 2 * m) (N 76 m), (a : Int), ((m + 1 : Nat) : Int))) := by
        unfold b_X12_law_146
        rw [hf 64 23 (by omega), h23, if_pos (by omega), if_pos (by omega), w_id (x := (a : Int) + 98) (by omega) (by omega), w_id (x := 2 * (m : Int)) (by omega) (by omega), w_id (x := (a : Int) + 98 + 2 * (m : Int)) (by omega) (by omega), if_pos (by omega), show ((a : Int) + 98 + 2 * (m : Int)).toNat = a + 98 + 2 * m by omega, Int.toNat_natCast, hf 75 m (by omega)]
        dsimp only
        rw [if_pos (by omega), w_id (x := (a : Int) + 98 + 2 * (m : Int) + 1) (by omega) (by omega), if_pos (by omega), show ((a : Int) + 98 + 2 * (m : Int) + 1).toNat = a + 99 + 2 * m by omega, up_o (by omega), hf 76 m (by omega), w_id (x := (m : Int) + 1) (by omega) (by omega)]
        rfl
      rw [lp_next (f := fun s => b_X12_law_146 X s.1 s.2.1 s.2.2) (s := (M, (a : Int), (m : Int))) B]
      refine ih (m + 1) _ (by omega) (fun i hi => ?_) (fr_up (fr_up hf (by omega)) (by omega))
      by_cases g : i = m
      · rw [g, up_k (by omega), up_s, up_s]; exact ⟨rfl, rfl⟩
      · rw [up_k (by omega), up_k (by omega), up_k (by omega), up_k (by omega)]; exact hc i (by omega)
  exact K z 0 N (by omega) (fun i hi => by omega) fr_rfl
end CPY
