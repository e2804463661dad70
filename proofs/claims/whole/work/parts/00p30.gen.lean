/-! generations -/
def drS (s : Int) : Int := (s * 1103 + 12345) % 1000003
def dryK (s : Int) : Nat → Int × Int
  | 0 => (s, 0)
  | k + 1 => (drS (dryK s k).1, (dryK s k).2 + (if drS (dryK s k).1 % 3 = 0 then ((2 ^ k : Nat) : Int) else 0))
noncomputable def giftG (r : Nat → Int) (lw : Nat → Law) (g to : Int) : (Nat → Int) × Int := @ite _ (canS r lw g to) (Classical.propDecidable _) (handS r lw g to, 1) (r, 0)
noncomputable def genG (r : Nat → Int) (lw : Nat → Law) (s : Int) : (Nat → Int) × Int × Int :=
  if 0 < r 1 then ((giftG r lw (drS s % r 1) (drS (drS s) % r 0)).1, (giftG r lw (drS s % r 1) (drS (drS s) % r 0)).2, drS (drS s)) else (r, 0, s)
/-- row, gifts, seed, whether it has ended, behind so many years -/
noncomputable def genK (r : Nat → Int) (lw : Nat → Law) (s : Int) : Nat → (Nat → Int) × Int × Int × Bool
  | 0 => (r, 0, s, false)
  | k + 1 => if (genK r lw s k).2.2.2 = true then genK r lw s k
    else if (genG (genK r lw s k).1 lw (genK r lw s k).2.2.1).1 6 < 999 then
      ((waitS (genG (genK r lw s k).1 lw (genK r lw s k).2.2.1).1 lw (dryK (genG (genK r lw s k).1 lw (genK r lw s k).2.2.1).2.2 (r 0).toNat).2).1, (genK r lw s k).2.1 + (genG (genK r lw s k).1 lw (genK r lw s k).2.2.1).2.1, (dryK (genG (genK r lw s k).1 lw (genK r lw s k).2.2.1).2.2 (r 0).toNat).1, false)
    else ((genG (genK r lw s k).1 lw (genK r lw s k).2.2.1).1, (genK r lw s k).2.1 + (genG (genK r lw s k).1 lw (genK r lw s k).2.2.1).2.1, (dryK (genG (genK r lw s k).1 lw (genK r lw s k).2.2.1).2.2 (r 0).toNat).1, true)
theorem drS_b (s : Int) : 0 ≤ drS s ∧ drS s ≤ 1000002 := by unfold drS; omega
theorem dry_b {s : Int} (hs : 0 ≤ s ∧ s ≤ 1000002) : ∀ k, (0 ≤ (dryK s k).1 ∧ (dryK s k).1 ≤ 1000002) ∧ 0 ≤ (dryK s k).2 ∧ (dryK s k).2 < ((2 ^ k : Nat) : Int)
  | 0 => ⟨hs, by simp [dryK], by simp [dryK]⟩
  | k + 1 => by
    obtain ⟨a, b, c⟩ := dry_b hs k
    refine ⟨drS_b _, ?_, ?_⟩
    · show 0 ≤ (dryK s k).2 + (if drS (dryK s k).1 % 3 = 0 then ((2 ^ k : Nat) : Int) else 0)
      split <;> omega
    · show (dryK s k).2 + (if drS (dryK s k).1 % 3 = 0 then ((2 ^ k : Nat) : Int) else 0) < ((2 ^ (k + 1) : Nat) : Int)
      rw [Nat.pow_succ]
      split <;> omega
theorem lrem_id {a b : Int} (ha : 0 ≤ a) (ha2 : a ≤ 1000000000000) (hb : 0 < b) (hb2 : b ≤ 1000000000000) : m_lrem a b = a % b := by
  obtain ⟨n, rfl⟩ := Int.eq_ofNat_of_zero_le ha
  obtain ⟨k, rfl⟩ := Int.eq_ofNat_of_zero_le (Int.le_of_lt hb)
  unfold m_lrem
  rw [oL_n, oL_n, pk_lRem (by omega) (by omega) (by omega), pk_lT (Nat.lt_of_le_of_lt (Nat.mod_le _ _) (by omega))]
  exact Int.natCast_emod n k
theorem or_tab : ∀ l : Fin 6, ∀ d : Fin 32, d.val < 2 ^ l.val → m_or (d.val : Int) (m_shl 1 (l.val : Int)) = (d.val : Int) + ((2 ^ l.val : Nat) : Int) ∧ m_or (d.val : Int) 0 = (d.val : Int) := by decide +kernel
theorem or_pow {d : Int} {l : Nat} (hl : l < 6) (h0 : 0 ≤ d) (h1 : d < ((2 ^ l : Nat) : Int)) : m_or d (m_shl 1 (l : Int)) = d + ((2 ^ l : Nat) : Int) ∧ m_or d 0 = d := by
  obtain ⟨n, rfl⟩ := Int.eq_ofNat_of_zero_le h0
  have hp : 2 ^ l ≤ 2 ^ 5 := Nat.pow_le_pow_right (by omega) (by omega)
  exact or_tab ⟨l, hl⟩ ⟨n, by omega⟩ (by show n < 2 ^ l; omega)
section GE
variable {X : MX} {N : NN} {B : Int} {r : Nat → Int} {lw : Nat → Law}
theorem c_draw {s m : Int} (h : N 29 2 = s) (hs : 0 ≤ s ∧ s ≤ 1000002) (h0 : 0 < m) (h1 : m ≤ 16) : f_X0_draw X N m = some (drS s % m, m_up N 29 2 (drS s)) := by
  have hd := drS_b s
  unfold f_X0_draw f_X0_draw_j36
  dsimp only
  rw [h, wl_id (x := s * 1103) (by omega) (by omega), wl_id (x := s * 1103 + 12345) (by omega) (by omega), lrem_id (a := s * 1103 + 12345) (by omega) (by omega) (by omega) (by omega), if_pos h0, if_pos (by omega), up_s]
  show some (m_w (m_lrem (drS s) m), _) = _
  rw [lrem_id hd.1 (by omega) h0 (by omega), w_id (by have := Int.emod_nonneg (drS s) (show m ≠ 0 by omega); omega) (by have := Int.emod_lt_of_pos (drS s) h0; omega)]
  rfl
theorem ref_draw {s m : Int} (h : N 64 70 = s) (hs : 0 ≤ s ∧ s ≤ 1000002) (h0 : 0 < m) (h1 : m ≤ 16) : f_X12_draw X N m = some (drS s % m, m_up N 64 70 (drS s)) := by
  have hd := drS_b s
  unfold f_X12_draw
  dsimp only
  rw [h, wl_id (x := s * 1103) (by omega) (by omega), wl_id (x := s * 1103 + 12345) (by omega) (by omega), lrem_id (a := s * 1103 + 12345) (by omega) (by omega) (by omega) (by omega), if_pos (by omega), up_s]
  show some (m_w (m_lrem (drS s) m), _) = _
  rw [lrem_id hd.1 (by omega) h0 (by omega), w_id (by have := Int.emod_nonneg (drS s) (show m ≠ 0 by omega); omega) (by have := Int.emod_lt_of_pos (drS s) h0; omega)]
  rfl
def frQ (o k : Nat) : Prop := (o = 29 ∧ k = 2) ∨ o = 31 ∨ o = 26 ∨ o = 27
theorem cw_29 {N' : NN} {r' : Nat → Int} (h : CW X N 30 B r' lw) (hf : Fr (fun o k => o = 29 ∧ k = 2) N N') : CW X N' 30 B r' lw := cw_fr h hf fun o k q => by omega
theorem c_dry {a3 a5 a6 a7 s n : Int} (h : N 29 2 = s) (hs : 0 ≤ s ∧ s ≤ 1000002) (n0 : 0 ≤ n) (n1 : n ≤ 6) : Ok (lp (fun z : NN × Int × Int × Int × Int × Int × Int × Int => b_X0_playOut_104 X 4 z.1 z.2.1 z.2.2.1 z.2.2.2.1 z.2.2.2.2.1 z.2.2.2.2.2.1 z.2.2.2.2.2.2.1 z.2.2.2.2.2.2.2) (N, a3, n, a5, a6, a7, 0, 0)) (fun o => ∃ M, o = (M, a3, n, a5, a6, a7, (dryK s n.toNat).2) ∧ M 29 2 = (dryK s n.toNat).1 ∧ Fr (fun o k => o = 29 ∧ k = 2) N M) := by
  refine ok_up (fun i z => ∃ M, z = (M, a3, n, a5, a6, a7, (dryK s i.toNat).2, i) ∧ M 29 2 = (dryK s i.toNat).1 ∧ Fr (fun o k => o = 29 ∧ k = 2) N M) n (i0 := 0) ?_ ?_ n0 ⟨N, rfl, h, fr_rfl⟩
  · rintro i z a0 a1 ⟨M, rfl, hM, hf⟩
    obtain ⟨m, rfl⟩ := Int.eq_ofNat_of_zero_le a0
    rw [Int.toNat_natCast] at hM ⊢
    obtain ⟨b1, b2, b3⟩ := dry_b hs m
    obtain ⟨o1, o2⟩ := or_pow (l := m) (by omega) b2 b3
    have ek : dryK s ((m : Int) + 1).toNat = (drS (dryK s m).1, (dryK s m).2 + (if drS (dryK s m).1 % 3 = 0 then ((2 ^ m : Nat) : Int) else 0)) := by rw [show ((m : Int) + 1).toNat = m + 1 by omega, dryK]
    dsimp only
    unfold b_X0_playOut_104 f_X0_playOut_l104_j129
    rw [if_pos a1, w_id (x := (m : Int) + 1) (by omega) (by omega)]
    refine ok_bd (c_draw hM b1 (by omega) (by omega)) ?_
    dsimp only
    by_cases c : drS (dryK s m).1 % 3 = 0
    · rw [if_pos c, o1]
      exact ok_ret ⟨_, by rw [ek, if_pos c], by rw [ek]; exact up_s, fr_up hf ⟨rfl, rfl⟩⟩
    · rw [if_neg c, o2]
      exact ok_ret ⟨_, by rw [ek, if_neg c, Int.add_zero], by rw [ek]; exact up_s, fr_up hf ⟨rfl, rfl⟩⟩
  · rintro z ⟨M, rfl, hM, hf⟩
    dsimp only
    unfold b_X0_playOut_104
    rw [if_neg (by omega)]
    exact ok_ret ⟨M, rfl, hM, hf⟩
/-- what stays in a generation -/
def GK (r r' : Nat → Int) : Prop := r' 0 = r 0 ∧ r' 1 = r 1
theorem genG_f {s : Int} (hV : Vr B r) (hl : 0 < r 0) : GK r (genG r lw s).1 ∧ 0 ≤ (genG r lw s).2.1 ∧ (genG r lw s).2.1 ≤ 1 := by
  have v0 := hV.1
  unfold genG
  by_cases c : 0 < r 1
  · rw [if_pos c]
    dsimp only
    have g0 := Int.emod_nonneg (drS s) (show r 1 ≠ 0 by omega)
    have g1 := Int.emod_lt_of_pos (drS s) c
    have t0 := Int.emod_nonneg (drS (drS s)) (show r 0 ≠ 0 by omega)
    unfold giftG
    by_cases d : canS r lw (drS s % r 1) (drS (drS s) % r 0)
    · rw [if_pos d]
      exact ⟨⟨hand_ne hV g0 g1 t0 (by omega), hand_ne hV g0 g1 t0 (by omega)⟩, by dsimp only; omega, by dsimp only; omega⟩
    · rw [if_neg d]
      exact ⟨⟨rfl, rfl⟩, by dsimp only; omega, by dsimp only; omega⟩
  · rw [if_neg c]
    exact ⟨⟨rfl, rfl⟩, by dsimp only; omega, by dsimp only; omega⟩
theorem genG_s {s : Int} (hs : 0 ≤ s ∧ s ≤ 1000002) : 0 ≤ (genG r lw s).2.2 ∧ (genG r lw s).2.2 ≤ 1000002 := by
  unfold genG
  split
  · exact drS_b _
  · exact hs
/-- class: dry lords, then the year or the end -/
theorem c_gen98 {n gl g i s : Int} (hX : XOK X) (hW : CW X N 30 B r lw) (h : N 29 2 = s) (hs : 0 ≤ s ∧ s ≤ 1000002) (hi : 0 ≤ i ∧ i ≤ 100) : Ok (f_X0_playOut_l40_j98 X 4 N n (r 0) gl g i) (fun o => (r 6 < 999 ∧ ∃ M, o = .inl (M, n, r 0, gl, g, i + 1) ∧ CW X M 30 B (waitS r lw (dryK s (r 0).toNat).2).1 lw ∧ M 29 2 = (dryK s (r 0).toNat).1 ∧ Fr frQ N M) ∨ (¬ r 6 < 999 ∧ ∃ M, o = .inr (.inr (M, g)) ∧ CW X M 30 B r lw ∧ Fr frQ N M)) := by
  have hV := hW.2.1
  have v0 := hV.1
  unfold f_X0_playOut_l40_j98
  refine ok_bind (c_dry h hs v0.1 v0.2) ?_
  rintro o ⟨M, rfl, p1, p2⟩
  dsimp only
  have hC := cw_29 hW p2
  obtain ⟨-, b2, b3⟩ := dry_b hs (r 0).toNat
  have hp : 2 ^ (r 0).toNat ≤ 2 ^ 6 := Nat.pow_le_pow_right (by omega) (by omega)
  have f1 : Fr frQ N M := fr_mono p2 fun o k z => by unfold frQ; omega
  refine ok_bd (c_term hC.1 (by omega) (by omega)) ?_
  by_cases c : r 6 < 999
  · rw [if_pos (show r (6 + 0 : Int).toNat < 999 from c)]
    refine ok_bind (c_passYear (Or.inr rfl) (xok26 hX) hC ⟨b2, by omega⟩ (by omega)) ?_
    rintro ⟨v, M2⟩ ⟨q1, q2, q3⟩
    dsimp only at q1 q2 q3 ⊢
    rw [w_id (by omega) (by omega)]
    exact ok_ret (Or.inl ⟨c, M2, rfl, q2, (q3 29 2 (by unfold frD; omega)).trans p1, fr_tr f1 (fr_mono q3 fun o k z => by unfold frD at z; unfold frQ; omega)⟩)
  · rw [if_neg (show ¬ r (6 + 0 : Int).toNat < 999 from c)]
    exact ok_ret (Or.inr ⟨c, M, rfl, hC, f1⟩)
end GE
