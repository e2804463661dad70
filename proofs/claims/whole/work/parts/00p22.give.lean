/-! give, await -/
def frR (o k : Nat) : Prop := (o = 69 ∧ k < 4320) ∨ o = 70 ∨ (o = 64 ∧ k = 8)
def frG (o k : Nat) : Prop := frN o k ∨ (o = 69 ∧ k < 4590) ∨ o = 70 ∨ (o = 64 ∧ (k = 8 ∨ k = 40))
section RE
variable {X : MX} {N : NN} {B : Int} {r : Nat → Int} {lw : Nat → Law} {un : Un}
theorem ref_rem78 {k : Int} (h : MUn N un) (hn : un.1 ≤ 15) (hr : ∀ j, j < 270 → N 66 j = r j) : Ok (f_X12_remember_j78 X N k) (fun N' => MUn N' (un.1 + 1, fun i => if i = un.1 then r else un.2.1 i, fun i => if i = un.1 then k else un.2.2 i) ∧ Fr frR N N') := by
  unfold f_X12_remember_j78
  rw [h.1]
  refine ok_bind (ref_keepRow (by omega) (by omega)) ?_
  intro M ⟨p1, p2⟩
  rw [Int.toNat_natCast] at p1 p2
  have e8 : M 64 8 = (un.1 : Int) := (p2 64 8 (by omega)).trans h.1
  rw [e8, gdp (by omega)]
  dsimp only
  rw [up_o (by omega), e8, w_id (by omega) (by omega), Int.toNat_natCast]
  have f1 : Fr frR N M := fr_mono p2 fun o k z => by unfold frR; omega
  refine ok_ret ⟨⟨?_, fun i hi => ⟨fun j hj => ?_, ?_⟩⟩, fr_up (fr_up f1 (by unfold frR; omega)) (by unfold frR; omega)⟩
  · rw [up_s]; dsimp only; omega
  · dsimp only at hi ⊢
    rw [up_o (by omega), up_o (by omega)]
    by_cases e : i = un.1
    · rw [if_pos e, e, p1 j hj]; exact hr j hj
    · rw [if_neg e, p2 69 _ (by omega)]; exact (h.2 i (by omega)).1 j hj
  · dsimp only at hi ⊢
    rw [up_o (by omega), up_a]
    by_cases e : i = un.1
    · rw [if_pos e, if_pos e]
    · rw [if_neg e, if_neg e, p2 70 _ (by omega)]; exact (h.2 i (by omega)).2
theorem ref_remember {k : Int} (h : MUn N un) (hn : un.1 ≤ 16) (hr : ∀ j, j < 270 → N 66 j = r j) : Ok (f_X12_remember X N k) (fun N' => MUn N' (pushU un r k) ∧ Fr frR N N') := by
  unfold f_X12_remember
  rw [h.1]
  by_cases c : un.1 = 16
  case neg =>
    rw [if_neg (by omega)]
    have := ref_rem78 (X := X) (k := k) h (by omega) hr
    unfold pushU
    rw [if_neg c]
    exact this
  rw [if_pos (by omega)]
  have H1 : Ok (lp (fun s : NN × Int × Int => b_X12_remember_11 X s.1 s.2.1 s.2.2) (N, k, 0)) (fun o => o.2 = k ∧ (∀ j : Nat, j < 4050 → o.1 69 j = N 69 (j + 270)) ∧ Fr (fun o k => o = 69 ∧ k < 4050) N o.1) := by
    refine ok_up (fun i s => ∃ M, s = (M, k, i) ∧ (∀ j : Nat, (j : Int) < i → M 69 j = N 69 (j + 270)) ∧ Fr (fun o k => o = 69 ∧ (k : Int) < i) N M) 4050 (i0 := 0) ?_ ?_ (by omega) ⟨N, rfl, fun j hj => by omega, fr_rfl⟩
    · rintro i s a0 a1 ⟨M, rfl, hM, hf⟩
      obtain ⟨m, rfl⟩ := Int.eq_ofNat_of_zero_le a0
      dsimp only
      unfold b_X12_remember_11
      simp (disch := omega) only [w_id, gdp]
      rw [if_pos a1, show ((m : Int) + 270).toNat = m + 270 by omega, Int.toNat_natCast]
      refine ok_ret ⟨_, rfl, fun j hj => ?_, fr_up (fr_mono hf fun o k z => ⟨z.1, by omega⟩) ⟨rfl, by omega⟩⟩
      rw [up_a]
      by_cases e : j = m
      · rw [if_pos e, e]; exact hf 69 _ (by omega)
      · rw [if_neg e]; exact hM j (by omega)
    · rintro s ⟨M, rfl, hM, hf⟩
      dsimp only
      unfold b_X12_remember_11
      rw [if_neg (by omega)]
      exact ok_ret ⟨rfl, fun j hj => hM j (by omega), fr_mono hf fun o k z => ⟨z.1, by omega⟩⟩
  refine ok_bind H1 ?_
  rintro ⟨M1, k1⟩ ⟨p1, p2, p3⟩
  dsimp only at p1 p2 p3 ⊢
  subst p1
  have H2 : Ok (lp (fun s : NN × Int × Int => b_X12_remember_42 X s.1 s.2.1 s.2.2) (M1, k1, 0)) (fun o => o.2 = k1 ∧ (∀ j : Nat, j < 15 → o.1 70 j = M1 70 (j + 1)) ∧ Fr (fun o k => o = 70) M1 o.1) := by
    refine ok_up (fun i s => ∃ M, s = (M, k1, i) ∧ (∀ j : Nat, (j : Int) < i → M 70 j = M1 70 (j + 1)) ∧ Fr (fun o k => o = 70 ∧ (k : Int) < i) M1 M) 15 (i0 := 0) ?_ ?_ (by omega) ⟨M1, rfl, fun j hj => by omega, fr_rfl⟩
    · rintro i s a0 a1 ⟨M, rfl, hM, hf⟩
      obtain ⟨m, rfl⟩ := Int.eq_ofNat_of_zero_le a0
      dsimp only
      unfold b_X12_remember_42
      simp (disch := omega) only [w_id, gdp]
      rw [if_pos a1, show ((m : Int) + 1).toNat = m + 1 by omega, Int.toNat_natCast]
      refine ok_ret ⟨_, rfl, fun j hj => ?_, fr_up (fr_mono hf fun o k z => ⟨z.1, by omega⟩) ⟨rfl, by omega⟩⟩
      rw [up_a]
      by_cases e : j = m
      · rw [if_pos e, e]; exact hf 70 _ (by omega)
      · rw [if_neg e]; exact hM j (by omega)
    · rintro s ⟨M, rfl, hM, hf⟩
      dsimp only
      unfold b_X12_remember_42
      rw [if_neg (by omega)]
      exact ok_ret ⟨rfl, fun j hj => hM j (by omega), fr_mono hf fun o k z => z.1⟩
  refine ok_bind H2 ?_
  rintro ⟨M2, k2⟩ ⟨q1, q2, q3⟩
  dsimp only at q1 q2 q3 ⊢
  subst q1
  have e8 : M2 64 8 = 16 := by rw [q3 64 8 (by omega), p3 64 8 (by omega), h.1, c]; rfl
  rw [e8, w_id (by omega) (by omega)]
  have f2 : Fr frR N M2 := fr_tr (fr_mono p3 fun o k z => by unfold frR; omega) (fr_mono q3 fun o k z => by unfold frR; omega)
  have hU : MUn (m_up M2 64 8 (16 - 1)) (15, fun i => un.2.1 (i + 1), fun i => un.2.2 (i + 1)) := by
    refine ⟨up_s, fun i hi => ⟨fun j hj => ?_, ?_⟩⟩
    · dsimp only at hi ⊢
      rw [up_o (by omega), q3 69 _ (by omega), p2 _ (by omega), show 270 * i + j + 270 = 270 * (i + 1) + j by omega]
      exact (h.2 (i + 1) (by omega)).1 j hj
    · dsimp only at hi ⊢
      rw [up_o (by omega), q2 i hi, p3 70 _ (by omega)]
      exact (h.2 (i + 1) (by omega)).2
  refine ok_mono (ref_rem78 (X := X) (r := r) (k := k2) hU (Nat.le_refl _) (fun j hj => ?_)) ?_
  · rw [up_o (by omega), q3 66 j (by omega), p3 66 j (by omega)]; exact hr j hj
  · intro N' ⟨z1, z2⟩
    refine ⟨?_, fr_tr (fr_up f2 (by unfold frR; omega)) z2⟩
    unfold pushU
    rw [if_pos c]
    refine ⟨z1.1, fun i hi => ?_⟩
    dsimp only at hi ⊢
    have := z1.2 i hi
    dsimp only at this
    by_cases e : i = 15
    · rw [if_pos e, if_pos e] at this
      rw [if_neg (by omega), if_neg (by omega)]; exact this
    · rw [if_neg e, if_neg e] at this
      rw [if_pos (by omega), if_pos (by omega)]; exact this
theorem hand_ne {g to : Int} {j : Nat} (hV : Vr B r) (h0 : 0 ≤ g) (h1 : g < r 1) (h2 : 0 ≤ to) (hj : j < 9) : handS r lw g to j = r j := by
  have vg := hV.2.2.2.2.2.2.2.2.2.2.1 g h0 h1
  have v0 := hV.1
  unfold handS
  by_cases c : rg r g 1 = rg r g 0
  · rw [if_pos c]
    unfold chalS
    split
    · rw [ru_ne (by omega), ru_ne (by omega)]
    · split
      · rw [ru_ne (by omega), ru_ne (by omega), ru_ne (by omega), ru_ne (by omega), ru_ne (by omega)]
      · rw [ru_ne (by omega), ru_ne (by omega), ru_ne (by omega), ru_ne (by omega)]
  · rw [if_neg c, ru_ne (by omega), ru_ne (by omega), ru_ne (by omega)]
theorem ref_giveNow {g to : Int} (h : MW N B r lw) (hU : MUn N un) (hn : un.1 ≤ 16) (hB : B + 1 ≤ 1000000) (h0 : 0 ≤ g) (h1 : g < r 1) (h2 : 0 ≤ to) (h3 : to < r 0) : Ok (f_X12_giveNow X N g to) (fun o => ((canS r lw g to ∧ o.1 = worthS r lw g (rg r g 0) to ∧ MW o.2 (B + 1) (handS r lw g to) lw ∧ MUn o.2 (pushU un r 0)) ∨ (¬ canS r lw g to ∧ o.1 = -3 ∧ MW o.2 B r lw ∧ MUn o.2 un)) ∧ Fr frG N o.2) := by
  unfold f_X12_giveNow f_X12_giveNow_j85
  refine ok_bind (ref_keepRow (by omega) (by omega)) ?_
  intro N1 ⟨p1, p2⟩
  change ∀ j : Nat, j < 270 → N1 69 (4320 + j) = N 66 j at p1
  change Fr (fun o k => o = 69 ∧ 4320 ≤ k ∧ k < 4320 + 270) N N1 at p2
  have hM1 : MW N1 B r lw := mw_fr h p2 (fun k => by omega) (by omega)
  have hU1 : MUn N1 un := mun_eq hn hU (p2 64 8 (by omega)) (fun k hk => p2 69 k (by omega)) (fr_of p2 70 fun k => by omega)
  have f1 : Fr frG N N1 := fr_mono p2 fun o k z => by unfold frG; omega
  refine ok_bind (ref_gift hM1 hB h0 h1 h2 h3) ?_
  rintro ⟨v, N2⟩ ⟨q1, q2⟩
  dsimp only at q1 q2 ⊢
  have f2 : Fr frG N N2 := fr_tr f1 (fr_mono q2 fun o k z => Or.inl z)
  have hU2 : MUn N2 un := mun_eq hn hU1 (q2 64 8 (by unfold frN; omega)) (fun k hk => q2 69 k (by unfold frN; omega)) (fr_of q2 70 fun k => by unfold frN; omega)
  have hw := worthS_b r lw g (rg r g 0) to
  rcases q1 with ⟨c, e, hM2⟩ | ⟨c, e, hM2⟩
  case inr =>
    subst e
    rw [if_pos (by omega)]
    exact ok_ret ⟨Or.inr ⟨c, rfl, hM2, hU2⟩, f2⟩
  rw [if_neg (by omega)]
  have H : Ok (lp (fun s : NN × Int × Int => b_X12_giveNow_20 X s.1 s.2.1 s.2.2) (N2, v, 0)) (fun o => o.2 = v ∧ (∀ j : Nat, j < 270 → o.1 66 j = N2 69 (4320 + j) ∧ o.1 69 (4320 + j) = N2 66 j) ∧ Fr (fun o k => (o = 66 ∧ k < 270) ∨ (o = 69 ∧ 4320 ≤ k ∧ k < 4590)) N2 o.1) := by
    refine ok_up (fun i s => ∃ M, s = (M, v, i) ∧ (∀ j : Nat, (j : Int) < i → M 66 j = N2 69 (4320 + j) ∧ M 69 (4320 + j) = N2 66 j) ∧ Fr (fun o k => (o = 66 ∧ (k : Int) < i) ∨ (o = 69 ∧ 4320 ≤ k ∧ (k : Int) < 4320 + i)) N2 M) 270 (i0 := 0) ?_ ?_ (by omega) ⟨N2, rfl, fun j hj => by omega, fr_rfl⟩
    · rintro i s a0 a1 ⟨M, rfl, hM, hf⟩
      obtain ⟨m, rfl⟩ := Int.eq_ofNat_of_zero_le a0
      dsimp only
      unfold b_X12_giveNow_20
      simp (disch := omega) only [w_id, gdp]
      rw [if_pos a1, show (4320 + (m : Int)).toNat = 4320 + m by omega, Int.toNat_natCast]
      refine ok_ret ⟨_, rfl, fun j hj => ?_, fr_up (fr_up (fr_mono hf fun o k z => by omega) (Or.inl ⟨rfl, by omega⟩)) (Or.inr ⟨rfl, by omega, by omega⟩)⟩
      rw [up_o (by omega), up_a, up_a, up_o (by omega)]
      by_cases e : j = m
      · rw [if_pos e, if_pos (by omega), e, hf 69 _ (by omega), hf 66 _ (by omega)]
        exact ⟨rfl, rfl⟩
      · rw [if_neg e, if_neg (by omega)]
        exact hM j (by omega)
    · rintro s ⟨M, rfl, hM, hf⟩
      dsimp only
      unfold b_X12_giveNow_20
      rw [if_neg (by omega)]
      exact ok_ret ⟨rfl, fun j hj => hM j (by omega), fr_mono hf fun o k z => by omega⟩
  refine ok_bind H ?_
  rintro ⟨N3, v3⟩ ⟨s1, s2, s3⟩
  dsimp only at s1 s2 s3 ⊢
  subst s1
  have hr3 : ∀ j, j < 270 → N3 66 j = r j := fun j hj => by rw [(s2 j hj).1, q2 69 _ (by unfold frN; omega), p1 j hj]; exact h.1 j hj
  have hU3 : MUn N3 un := mun_eq hn hU2 (s3 64 8 (by omega)) (fun k hk => s3 69 k (by omega)) (fr_of s3 70 fun k => by omega)
  refine ok_bind (ref_remember (k := 0) hU3 hn hr3) ?_
  intro N4 ⟨t1, t2⟩
  refine ok_bind (ref_putBack (by omega) (by omega)) ?_
  intro N5 ⟨u1, u2⟩
  change ∀ j : Nat, j < 270 → N5 66 j = N4 69 (4320 + j) at u1
  have f3 : Fr frG N N3 := fr_tr f2 (fr_mono s3 fun o k z => by unfold frG frN; omega)
  have f4 : Fr frG N N4 := fr_tr f3 (fr_mono t2 fun o k z => by unfold frR at z; unfold frG; omega)
  refine ok_ret ⟨Or.inl ⟨c, e, ?_, ?_⟩, fr_tr f4 (fr_mono u2 fun o k z => by unfold frG frN; omega)⟩
  · refine mw_cells hM2 (fun j hj => ?_) hM2.2.1 hM2.2.2.1 rfl ?_ (fun j hj => ?_)
    · show N5 66 j = _
      rw [u1 j hj, t2 69 _ (by unfold frR; omega), (s2 j hj).2]; exact hM2.1 j hj
    · show N5 64 20 = _
      rw [u2 64 20 (by omega), t2 64 20 (by unfold frR; omega), s3 64 20 (by omega)]
    · show N5 66 j = _
      rw [u2 66 j (by omega), t2 66 j (by unfold frR; omega), s3 66 j (by omega)]
  · have : (pushU un r 0).1 ≤ 16 := by unfold pushU; split <;> (dsimp only; omega)
    exact mun_eq this t1 (u2 64 8 (by omega)) (fun k hk => u2 69 k (by omega)) (fr_of u2 70 fun k => by omega)
theorem ref_waitNow (h : MW N B r lw) (hU : MUn N un) (hn : un.1 ≤ 16) : Ok (f_X12_waitNow X N) (fun o => ((r 6 ≤ 998 ∧ o.1 = (waitS r lw 0).2 ∧ MW o.2 B (waitS r lw 0).1 lw ∧ MUn o.2 (pushU un r 1)) ∨ (r 6 = 999 ∧ o.1 = -3 ∧ o.2 = N)) ∧ Fr frG N o.2) := by
  have v6 := h.2.1.2.2.2.2.2.2.1
  unfold f_X12_waitNow
  refine ok_bd (ref_year h.1) ?_
  by_cases c : r 6 = 999
  · rw [if_pos c]
    exact ok_ret ⟨Or.inr ⟨c, rfl, rfl⟩, fr_rfl⟩
  rw [if_neg c]
  refine ok_bind (ref_remember (k := 1) hU hn h.1) ?_
  intro N1 ⟨t1, t2⟩
  have hM1 : MW (m_up N1 64 40 0) B r lw := mw_eq (mw_eq h (fr_of t2 66 fun k => by unfold frR; omega) (t2 64 20 (by unfold frR; omega))) (up_of (by omega)) (up_k (by omega))
  refine ok_bind (ref_wait1 (b := 0) hM1 (by omega) up_s (by omega)) ?_
  rintro ⟨v, N2⟩ ⟨p1, p2, p3⟩
  dsimp only at p1 p2 p3 ⊢
  have : (pushU un r 1).1 ≤ 16 := by unfold pushU; split <;> (dsimp only; omega)
  refine ok_ret ⟨Or.inl ⟨by omega, p1, p2, ?_⟩, ?_⟩
  · refine mun_eq this t1 ?_ (fun k hk => ?_) ?_
    · show N2 64 8 = _
      rw [p3 64 8 (by unfold frN; omega), up_k (by omega)]
    · show N2 69 k = _
      rw [p3 69 k (by unfold frN; omega), up_o (by omega)]
    · show N2 70 = _
      rw [fr_of p3 70 fun k => by unfold frN; omega, up_of (by omega)]
  · exact fr_tr (fr_up (fr_mono t2 fun o k z => by unfold frR at z; unfold frG; omega) (by unfold frG; omega)) (fr_mono p3 fun o k z => Or.inl z)
end RE
