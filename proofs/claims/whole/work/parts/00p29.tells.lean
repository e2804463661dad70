/-! heralds: the middle one; tells -/
def insP (f : Nat → Int) (v : Int) : Nat → Nat
  | 0 => 0
  | a + 1 => if v < f a then insP f v a else a + 1
def insF (f : Nat → Int) (v : Int) (n : Nat) : Nat → Int := fun j => if j < insP f v n then f j else if j = insP f v n then v else f (j - 1)
def srt (v : Nat → Int) : Nat → (Nat → Int)
  | 0 => fun _ => 0
  | k + 1 => insF (srt v k) (v k) k
theorem insP_le (f : Nat → Int) (v : Int) : ∀ n, insP f v n ≤ n
  | 0 => Nat.le_refl _
  | n + 1 => by
    have := insP_le f v n
    rw [insP]
    split <;> omega
theorem insP_c {f g : Nat → Int} {v : Int} : ∀ n, (∀ j, j < n → f j = g j) → insP f v n = insP g v n
  | 0, _ => rfl
  | n + 1, h => by rw [insP, insP, h n (by omega), insP_c n fun j hj => h j (by omega)]
theorem insF_c {f g : Nat → Int} {v : Int} {n j : Nat} (h : ∀ j, j < n → f j = g j) (hj : j ≤ n) : insF f v n j = insF g v n j := by
  have e := insP_c (v := v) n h
  have l := insP_le g v n
  unfold insF
  rw [e]
  split
  · exact h j (by omega)
  · split
    · rfl
    · exact h _ (by omega)
theorem srt_c {v w : Nat → Int} : ∀ n, (∀ j, j < n → v j = w j) → ∀ j, j < n → srt v n j = srt w n j
  | 0, _, j, hj => by omega
  | n + 1, h, j, hj => by
    show insF (srt v n) (v n) n j = insF (srt w n) (w n) n j
    rw [h n (by omega)]
    exact insF_c (fun i hi => srt_c n (fun k hk => h k (by omega)) i hi) (by omega)
section MI
variable {X : MX} {N : NN} {B : Int} {r : Nat → Int} {lw : Nat → Law}
theorem c_ins {a3 a4 v : Int} {f : Nat → Int} {i : Nat} (hi : i ≤ 4) (h : ∀ j, j < i → N 28 j = f j) : Ok (lp (fun s : NN × Int × Int × Int × Int => b_X2_middle_29 X 4 s.1 s.2.1 s.2.2.1 s.2.2.2.1 s.2.2.2.2) (N, a3, a4, v, (i : Int))) (fun o => ∃ M, o = (M, a3, a4, v, ((insP f v i : Nat) : Int)) ∧ (∀ j, j ≤ i → (if j = insP f v i then v else M 28 j) = insF f v i j) ∧ (∀ j, i < j → M 28 j = N 28 j) ∧ Fr (fun o _ => o = 28) N M) := by
  refine ok_lp (fun s => ∃ (M : NN) (a : Nat), s = (M, a3, a4, v, (a : Int)) ∧ a ≤ i ∧ insP f v i = insP f v a ∧ (∀ j, j < a → M 28 j = f j) ∧ (∀ j, a < j → j ≤ i → M 28 j = f (j - 1)) ∧ (∀ j, i < j → M 28 j = N 28 j) ∧ Fr (fun o _ => o = 28) N M) (fun s => (s.2.2.2.2).toNat) ?_ ⟨N, i, rfl, Nat.le_refl _, rfl, h, fun j p q => by omega, fun j _ => rfl, fr_rfl⟩
  rintro s ⟨M, a, rfl, h1, h2, h3, h4, h5, h6⟩
  dsimp only
  unfold b_X2_middle_29
  cases a with
  | zero =>
    rw [if_neg (by omega)]
    refine ok_ret ⟨M, by rw [h2]; rfl, fun j hj => ?_, h5, h6⟩
    have e0 : insP f v i = 0 := h2
    unfold insF
    rw [e0, if_neg (show ¬ j < 0 by omega)]
    by_cases e : j = 0
    · rw [if_pos e, if_pos e]
    · rw [if_neg e, if_neg e]; exact h4 j (by omega) hj
  | succ a =>
    rw [if_pos (by omega), show ((a + 1 : Nat) : Int) - 1 = (a : Int) by omega, w_id (x := (a : Int)) (by omega) (by omega)]
    simp (disch := omega) only [gdp]
    rw [Int.toNat_natCast, h3 a (by omega), Int.toNat_natCast]
    by_cases c : v < f a
    · rw [if_pos c, w_id (x := ((a + 1 : Nat) : Int) + (-1)) (by omega) (by omega), show ((a + 1 : Nat) : Int) + (-1) = (a : Int) by omega]
      have e2 : insP f v (a + 1) = insP f v a := by rw [insP, if_pos c]
      refine ok_ret ⟨⟨m_up M 28 (a + 1) (f a), a, rfl, by omega, h2.trans e2, fun j hj => ?_, fun j p q => ?_, fun j hj => ?_, fr_up h6 rfl⟩, ?_⟩
      · rw [up_k (by omega)]; exact h3 j (by omega)
      · rw [up_a]
        by_cases e : j = a + 1
        · rw [if_pos e, e]; rfl
        · rw [if_neg e]; exact h4 j (by omega) q
      · rw [up_k (by omega)]; exact h5 j hj
      · dsimp only; omega
    · rw [if_neg c]
      have e2 : insP f v i = a + 1 := by rw [h2, insP, if_neg c]
      refine ok_ret ⟨M, by rw [e2], fun j hj => ?_, h5, h6⟩
      unfold insF
      rw [e2]
      by_cases p : j < a + 1
      · rw [if_neg (by omega), if_pos p]; exact h3 j p
      · rw [if_neg p]
        by_cases e : j = a + 1
        · rw [if_pos e, if_pos e]
        · rw [if_neg e, if_neg e]; exact h4 j (by omega) hj
theorem ref_ins {a1 a2 a3 a4 a5 v : Int} {f : Nat → Int} {i : Nat} (hi : i ≤ 4) (h : ∀ j, j < i → N 92 j = f j) : Ok (lp (fun s : NN × Int × Int × Int × Int × Int × Int × Int => b_X12_middle_44 X s.1 s.2.1 s.2.2.1 s.2.2.2.1 s.2.2.2.2.1 s.2.2.2.2.2.1 s.2.2.2.2.2.2.1 s.2.2.2.2.2.2.2) (N, a1, a2, a3, a4, a5, v, (i : Int))) (fun o => ∃ M, o = (M, a1, a2, a3, a4, a5, v, ((insP f v i : Nat) : Int)) ∧ (∀ j, j ≤ i → (if j = insP f v i then v else M 92 j) = insF f v i j) ∧ (∀ j, i < j → M 92 j = N 92 j) ∧ Fr (fun o _ => o = 92) N M) := by
  refine ok_lp (fun s => ∃ (M : NN) (a : Nat), s = (M, a1, a2, a3, a4, a5, v, (a : Int)) ∧ a ≤ i ∧ insP f v i = insP f v a ∧ (∀ j, j < a → M 92 j = f j) ∧ (∀ j, a < j → j ≤ i → M 92 j = f (j - 1)) ∧ (∀ j, i < j → M 92 j = N 92 j) ∧ Fr (fun o _ => o = 92) N M) (fun s => (s.2.2.2.2.2.2.2).toNat) ?_ ⟨N, i, rfl, Nat.le_refl _, rfl, h, fun j p q => by omega, fun j _ => rfl, fr_rfl⟩
  rintro s ⟨M, a, rfl, h1, h2, h3, h4, h5, h6⟩
  dsimp only
  unfold b_X12_middle_44
  cases a with
  | zero =>
    rw [if_neg (by omega)]
    refine ok_ret ⟨M, by rw [h2]; rfl, fun j hj => ?_, h5, h6⟩
    have e0 : insP f v i = 0 := h2
    unfold insF
    rw [e0, if_neg (show ¬ j < 0 by omega)]
    by_cases e : j = 0
    · rw [if_pos e, if_pos e]
    · rw [if_neg e, if_neg e]; exact h4 j (by omega) hj
  | succ a =>
    rw [if_pos (by omega), show ((a + 1 : Nat) : Int) - 1 = (a : Int) by omega, w_id (x := (a : Int)) (by omega) (by omega)]
    simp (disch := omega) only [gdp]
    rw [Int.toNat_natCast, h3 a (by omega), Int.toNat_natCast]
    by_cases c : v < f a
    · rw [if_pos c, w_id (x := ((a + 1 : Nat) : Int) + (-1)) (by omega) (by omega), show ((a + 1 : Nat) : Int) + (-1) = (a : Int) by omega]
      have e2 : insP f v (a + 1) = insP f v a := by rw [insP, if_pos c]
      refine ok_ret ⟨⟨m_up M 92 (a + 1) (f a), a, rfl, by omega, h2.trans e2, fun j hj => ?_, fun j p q => ?_, fun j hj => ?_, fr_up h6 rfl⟩, ?_⟩
      · rw [up_k (by omega)]; exact h3 j (by omega)
      · rw [up_a]
        by_cases e : j = a + 1
        · rw [if_pos e, e]; rfl
        · rw [if_neg e]; exact h4 j (by omega) q
      · rw [up_k (by omega)]; exact h5 j hj
      · dsimp only; omega
    · rw [if_neg c]
      have e2 : insP f v i = a + 1 := by rw [h2, insP, if_neg c]
      refine ok_ret ⟨M, by rw [e2], fun j hj => ?_, h5, h6⟩
      unfold insF
      rw [e2]
      by_cases p : j < a + 1
      · rw [if_neg (by omega), if_pos p]; exact h3 j p
      · rw [if_neg p]
        by_cases e : j = a + 1
        · rw [if_pos e, if_pos e]
        · rw [if_neg e, if_neg e]; exact h4 j (by omega) hj
def frH (o k : Nat) : Prop := o = 26 ∨ o = 27 ∨ o = 28
theorem cw_H {N' : NN} (h : CW X N 4 B r lw) (hf : Fr frH N N') : CW X N' 4 B r lw := cw_fr h hf fun o k q => by unfold frH at q; omega
theorem c_hear {g : Int} (hX : XOK X) (hW : CW X N 4 B r lw) (h0 : 0 ≤ g) (h1 : g < r 1) : Ok (f_X2_hear X 4 N g) (fun o => o.1 = r 2 ∧ (∀ j : Nat, (j : Int) < r 2 → o.2 28 j = voiceS r lw j g) ∧ Fr frH N o.2) := by
  have hV := hW.2.1
  have v2 := hV.2.2.1
  unfold f_X2_hear
  refine ok_bd (c_many hW.1 (by omega) (by omega)) ?_
  rw [show r (2 : Int).toNat = r 2 from rfl, min_id, show min (r 2) 5 = r 2 by omega]
  have H : Ok (lp (fun s : NN × Int × Int × Int => b_X2_hear_13 X 4 s.1 s.2.1 s.2.2.1 s.2.2.2) (N, g, r 2, 0)) (fun o => o.2 = r 2 ∧ (∀ j : Nat, (j : Int) < r 2 → o.1 28 j = voiceS r lw j g) ∧ Fr frH N o.1) := by
    refine ok_up (fun i s => ∃ M, s = (M, g, r 2, i) ∧ (∀ j : Nat, (j : Int) < i → M 28 j = voiceS r lw j g) ∧ Fr frH N M) (r 2) (i0 := 0) ?_ ?_ v2.1 ⟨N, rfl, fun j hj => by omega, fr_rfl⟩
    · rintro i s a0 a1 ⟨M, rfl, hv, hf⟩
      obtain ⟨m, rfl⟩ := Int.eq_ofNat_of_zero_le a0
      dsimp only
      unfold b_X2_hear_13
      rw [if_pos a1]
      refine ok_bind (c_voice (Or.inl rfl) (xok26 hX) (cw_H hW hf) h0 h1 (by omega)) ?_
      rintro ⟨z, M2⟩ ⟨p1, p2⟩
      dsimp only at p1 p2 ⊢
      rw [gdp (by omega), w_id (by omega) (by omega), Int.toNat_natCast]
      refine ok_ret ⟨_, rfl, fun j hj => ?_, fr_up (fr_tr hf (fr_mono p2 fun o k q => by unfold frJ at q; unfold frH; omega)) (by unfold frH; omega)⟩
      rw [up_a]
      by_cases e : j = m
      · rw [if_pos e, p1, e]
      · rw [if_neg e, p2 28 j (by unfold frJ; omega)]; exact hv j (by omega)
    · rintro s ⟨M, rfl, hv, hf⟩
      dsimp only
      unfold b_X2_hear_13
      rw [if_neg (by omega)]
      exact ok_ret ⟨rfl, hv, hf⟩
  refine ok_bind H ?_
  rintro ⟨M, z⟩ ⟨p1, p2, p3⟩
  exact ok_ret ⟨p1, p2, p3⟩
def midS (v : Nat → Int) (n : Int) : Int := if n = 0 then -1 else srt v n.toNat ((n.toNat - 1) / 2)
theorem c_middle {g : Int} (hX : XOK X) (hW : CW X N 4 B r lw) (h0 : 0 ≤ g) (h1 : g < r 1) : Ok (f_X2_middle X 4 N g) (fun o => o.1 = midS (fun h => voiceS r lw h g) (r 2) ∧ Fr frH N o.2) := by
  have hV := hW.2.1
  have v2 := hV.2.2.1
  unfold f_X2_middle f_X2_middle_j103
  refine ok_bind (c_hear hX hW h0 h1) ?_
  rintro ⟨n, N1⟩ ⟨p1, p2, p3⟩
  dsimp only at p1 p2 p3 ⊢
  subst p1
  generalize hv : (fun h : Nat => voiceS r lw h g) = v
  have p2' : ∀ j : Nat, (j : Int) < r 2 → N1 28 j = v j := fun j hj => by rw [← hv]; exact p2 j hj
  have H : Ok (lp (fun s : NN × Int × Int => b_X2_middle_10 X 4 s.1 s.2.1 s.2.2) (N1, r 2, 1)) (fun o => o.2 = r 2 ∧ (∀ j : Nat, (j : Int) < r 2 → o.1 28 j = srt v (r 2).toNat j) ∧ Fr frH N o.1) := by
    by_cases z : r 2 = 0
    · refine ⟨(N1, r 2), ?_, rfl, fun j hj => by omega, p3⟩
      refine lp_end ?_
      show b_X2_middle_10 X 4 N1 (r 2) 1 = _
      unfold b_X2_middle_10
      rw [if_neg (by omega)]
    refine ok_up (fun i s => ∃ M, s = (M, r 2, i) ∧ (∀ j : Nat, (j : Int) < i → M 28 j = srt v i.toNat j) ∧ (∀ j : Nat, i ≤ (j : Int) → (j : Int) < r 2 → M 28 j = v j) ∧ Fr frH N M) (r 2) (i0 := 1) ?_ ?_ (by omega) ⟨N1, rfl, fun j hj => ?_, fun j _ hj => p2' j hj, p3⟩
    · rintro i s a0 a1 ⟨M, rfl, hs, ho, hf⟩
      obtain ⟨m, rfl⟩ := Int.eq_ofNat_of_zero_le (show 0 ≤ i by omega)
      rw [Int.toNat_natCast] at hs
      dsimp only
      unfold b_X2_middle_10
      rw [if_pos a1, gdp (by omega), Int.toNat_natCast, ho m (by omega) a1]
      refine ok_bind (c_ins (X := X) (a3 := r 2) (a4 := (m : Int)) (v := v m) (f := srt v m) (i := m) (by omega) (fun j hj => hs j (by omega))) ?_
      rintro o ⟨M2, rfl, q1, q2, q3⟩
      have pl := insP_le (srt v m) (v m) m
      dsimp only
      rw [gdp (by omega), w_id (by omega) (by omega), Int.toNat_natCast]
      refine ok_ret ⟨_, rfl, fun j hj => ?_, fun j x1 x2 => ?_, fr_up (fr_tr hf (fr_mono q3 fun o k q => by unfold frH; omega)) (by unfold frH; omega)⟩
      · rw [up_a, show ((m : Int) + 1).toNat = m + 1 by omega]
        exact q1 j (by omega)
      · rw [up_k (by omega), q2 j (by omega)]; exact ho j (by omega) x2
    · rintro s ⟨M, rfl, hs, ho, hf⟩
      dsimp only
      unfold b_X2_middle_10
      rw [if_neg (by omega)]
      exact ok_ret ⟨rfl, hs, hf⟩
    · rw [p2' j (by omega), show j = 0 by omega]; rfl
  refine ok_bind H ?_
  rintro ⟨M, z⟩ ⟨q1, q2, q3⟩
  dsimp only at q1 q2 q3 ⊢
  subst q1
  unfold midS
  by_cases c : 0 < r 2
  · rw [if_pos c, if_neg (show ¬ r 2 = 0 by omega), w_id (by omega) (by omega), div_id (by omega) (by omega) (by omega) (by omega), gdp (by omega), show ((r 2 - 1) / 2).toNat = ((r 2).toNat - 1) / 2 by omega]
    exact ok_ret ⟨q2 _ (by omega), q3⟩
  · rw [if_neg c, if_pos (by omega)]
    exact ok_ret ⟨rfl, q3⟩
def frV (o k : Nat) : Prop := frM o k ∨ o = 92
theorem mw_V {N' : NN} (h : MW N B r lw) (hf : Fr frV N N') : MW N' B r lw := mw_fr h hf (fun k q => by unfold frV frM at q; omega) (by unfold frV frM; omega)
theorem ref_middle {g s t : Int} (hM : MW N B r lw) (h0 : 0 ≤ g) (h1 : g < r 1) (s0 : 0 ≤ s) (s1 : s ≤ 31) : Ok (f_X12_middle X N g s t) (fun o => o.1 = midS (fun h => if bit s h = 0 then voiceS r lw h g else t) (r 2) ∧ Fr frV N o.2) := by
  have hV := hM.2.1
  have v2 := hV.2.2.1
  unfold f_X12_middle f_X12_middle_j120
  rw [hM.1 2 (by omega)]
  generalize hv : (fun h : Nat => if bit s h = 0 then voiceS r lw h g else t) = v
  have H : Ok (lp (fun s : NN × Int × Int × Int × Int × Int => b_X12_middle_11 X s.1 s.2.1 s.2.2.1 s.2.2.2.1 s.2.2.2.2.1 s.2.2.2.2.2) (N, g, s, t, r 2, 0)) (fun o => o.2 = r 2 ∧ (∀ j : Nat, (j : Int) < r 2 → o.1 92 j = srt v (r 2).toNat j) ∧ Fr frV N o.1) := by
    refine ok_up (fun i z => ∃ M, z = (M, g, s, t, r 2, i) ∧ (∀ j : Nat, (j : Int) < i → M 92 j = srt v i.toNat j) ∧ Fr frV N M) (r 2) (i0 := 0) ?_ ?_ v2.1 ⟨N, rfl, fun j hj => by omega, fr_rfl⟩
    · rintro i z a0 a1 ⟨M, rfl, hs, hf⟩
      obtain ⟨m, rfl⟩ := Int.eq_ofNat_of_zero_le a0
      rw [Int.toNat_natCast] at hs
      have K : ∀ (M2 : NN) (x : Int), x = v m → (∀ j, j < m → M2 92 j = srt v m j) → Fr frV N M2 → Ok (f_X12_middle_l11_j38 X M2 g s t (r 2) (m : Int) x) (fun o => ∃ M', o = .inl (M', g, s, t, r 2, (m : Int) + 1) ∧ (∀ j : Nat, (j : Int) < (m : Int) + 1 → M' 92 j = srt v (m + 1) j) ∧ Fr frV N M') := by
        intro M2 x hx hs2 hf2
        unfold f_X12_middle_l11_j38
        refine ok_bind (ref_ins (X := X) (a1 := g) (a2 := s) (a3 := t) (a4 := r 2) (a5 := (m : Int)) (v := x) (f := srt v m) (i := m) (by omega) hs2) ?_
        rintro o ⟨M3, rfl, q1, q2, q3⟩
        have pl := insP_le (srt v m) x m
        dsimp only
        rw [gdp (by omega), w_id (by omega) (by omega), Int.toNat_natCast]
        refine ok_ret ⟨_, rfl, fun j hj => ?_, fr_up (fr_tr hf2 (fr_mono q3 fun o k q => by unfold frV; omega)) (by unfold frV; omega)⟩
        rw [up_a]
        have := q1 j (by omega)
        rw [this, hx]; rfl
      dsimp only
      unfold b_X12_middle_11
      rw [if_pos a1, show ((m : Int) + 1).toNat = m + 1 by omega]
      refine ok_bd (ref_is s0 (by omega) (by omega) (by omega)) ?_
      by_cases b : bit s m = 0
      · rw [if_pos b]
        refine ok_bind (ref_toldBy (mw_V hM hf) h0 h1 (by omega)) ?_
        rintro ⟨x, M2⟩ ⟨p1, p2⟩
        dsimp only at p1 p2 ⊢
        refine ok_mono (K M2 x (by rw [p1, ← hv]; dsimp only; rw [if_pos b]) (fun j hj => by rw [p2 92 j (by unfold frM; omega)]; exact hs j (by omega)) (fr_tr hf (fr_mono p2 fun o k q => Or.inl q))) ?_
        rintro o ⟨M', rfl, g1, g2⟩
        exact ⟨M', rfl, g1, g2⟩
      · rw [if_neg b]
        refine ok_mono (K M t (by rw [← hv]; dsimp only; rw [if_neg b]) (fun j hj => hs j (by omega)) hf) ?_
        rintro o ⟨M', rfl, g1, g2⟩
        exact ⟨M', rfl, g1, g2⟩
    · rintro z ⟨M, rfl, hs, hf⟩
      dsimp only
      unfold b_X12_middle_11
      rw [if_neg (by omega)]
      exact ok_ret ⟨rfl, hs, hf⟩
  refine ok_bind H ?_
  rintro ⟨M, z⟩ ⟨q1, q2, q3⟩
  dsimp only at q1 q2 q3 ⊢
  subst q1
  unfold midS
  by_cases c : r 2 = 0
  · rw [if_pos c, if_pos c]
    exact ok_ret ⟨rfl, q3⟩
  · rw [if_neg c, if_neg c, w_id (by omega) (by omega), div_id (by omega) (by omega) (by omega) (by omega), gdp (by omega), show ((r 2 - 1) / 2).toNat = ((r 2).toNat - 1) / 2 by omega]
    exact ok_ret ⟨q2 _ (by omega), q3⟩
theorem bit0 (k : Int) : bit 0 k = 0 := by unfold bit; simp
theorem npr_H {N' : NN} (h : Fr frH N N') : Fr npr N N' := fr_mono h fun o k q => by unfold frH at q; unfold npr pC pM; omega
theorem npr_V {N' : NN} (h : Fr frV N N') : Fr npr N N' := fr_mono h fun o k q => by unfold frV frM at q; unfold npr pC pM; omega
theorem sim_tells (h : Inv X N B) (e g : Int) : Sim X N B (f_X11_tells X N e g) (fun M => f_X12_tells X M e g) := by
  have h' := h
  obtain ⟨hX, ⟨r, lw⟩, im, un, tp, cn, rp, hC, hM⟩ := h'
  have hW : CW X N 4 B r lw := hC.1
  have hV := hW.2.1
  have v2 := hV.2.2.1
  refine sim_ro (v := if (0 ≤ g ∧ g < r 1) ∧ (-1 ≤ e ∧ e < r 2) then (if e = -1 then midS (fun h => voiceS r lw h g) (r 2) else voiceS r lw e g) else -1) h ?_ ?_
  · unfold f_X11_tells f_X11_tells_j35 f_X11_tells_j70
    refine ok_bd (c_many hW.1 (by omega) (by omega)) ?_
    by_cases c : r 2 = 0
    · rw [if_pos (show r (2 : Int).toNat = 0 from c)]
      refine ok_ret ⟨?_, fr_rfl⟩
      split
      · rw [if_pos (show e = -1 by omega)]
        unfold midS
        rw [if_pos c]
      · rfl
    rw [if_neg (show ¬ r (2 : Int).toNat = 0 from c)]
    refine ok_bd (c_isGood hW.1) ?_
    by_cases d : 0 ≤ g ∧ g < r 1
    case neg =>
      rw [if_neg d, i00, if_neg (fun z => d z.1)]
      exact ok_ret ⟨rfl, fr_rfl⟩
    rw [if_pos d, i10]
    refine ok_bd c_within ?_
    rw [show r (2 : Int).toNat = r 2 from rfl, w_id (x := r 2 - 1) (by omega) (by omega)]
    by_cases f : -1 ≤ e ∧ e ≤ r 2 - 1
    case neg =>
      rw [if_neg f, i00, if_neg (fun z => f (by omega))]
      exact ok_ret ⟨rfl, fr_rfl⟩
    rw [if_pos f, i10, if_pos (show (0 ≤ g ∧ g < r 1) ∧ (-1 ≤ e ∧ e < r 2) from ⟨d, by omega⟩)]
    by_cases e1 : e = -1
    · rw [if_pos e1, if_pos e1]
      refine ok_bind (c_middle hX hW d.1 d.2) ?_
      rintro ⟨z, N1⟩ ⟨p1, p2⟩
      exact ok_ret ⟨p1, npr_H p2⟩
    · rw [if_neg e1, if_neg e1]
      refine ok_bind (c_voice (Or.inl rfl) (xok26 hX) hW d.1 d.2 (by omega)) ?_
      rintro ⟨z, N1⟩ ⟨p1, p2⟩
      exact ok_ret ⟨p1, npr_J p2⟩
  · intro M hf
    have hM1 : MW (m_up M 64 0 0) B r lw := (minv_npr hM (fr_tr hf npr_0)).1
    unfold f_X12_tells f_X12_tells_j36 f_X12_tells_j38 f_X12_tells_j59
    try dsimp only
    refine ok_bd (ref_isGood hM1.1 hV) ?_
    by_cases d : 0 ≤ g ∧ g < r 1
    case neg =>
      rw [if_neg d, i00, if_neg (fun z => d z.1)]
      exact ok_ret ⟨rfl, npr_0⟩
    rw [if_pos d, i10]
    by_cases e1 : e = -1
    · rw [if_pos e1, if_pos e1, if_pos (show (0 ≤ g ∧ g < r 1) ∧ (-1 ≤ e ∧ e < r 2) from ⟨d, by omega⟩), if_pos e1]
      refine ok_bind (ref_middle (s := 0) (t := 0) hM1 d.1 d.2 (by omega) (by omega)) ?_
      rintro ⟨z, N1⟩ ⟨p1, p2⟩
      refine ok_ret ⟨?_, fr_tr npr_0 (npr_V p2)⟩
      dsimp only at p1 ⊢
      rw [p1]
      congr 1
      funext k
      rw [if_pos (bit0 k)]
    rw [if_neg e1, if_neg e1]
    rw [hM1.1 2 (by omega), wl_id (by omega) (by omega)]
    refine ok_bd ref_in ?_
    by_cases f : 0 ≤ e ∧ e ≤ r 2 - 1
    case neg =>
      rw [if_neg f, i00, if_neg (fun z => f (by omega))]
      exact ok_ret ⟨rfl, npr_0⟩
    rw [if_pos f, i10, if_pos (show (0 ≤ g ∧ g < r 1) ∧ (-1 ≤ e ∧ e < r 2) from ⟨d, by omega⟩), if_neg e1]
    refine ok_bind (ref_toldBy hM1 d.1 d.2 (by omega)) ?_
    rintro ⟨z, N1⟩ ⟨p1, p2⟩
    exact ok_ret ⟨p1, fr_tr npr_0 (npr_M p2)⟩
end MI
