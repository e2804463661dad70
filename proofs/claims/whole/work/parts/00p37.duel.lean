/-! duel: the goods of both sides -/
def hL (p : Nat → Bool) : Nat → List Nat
  | 0 => []
  | g + 1 => if p g = true ∧ (hL p g).length < 6 then hL p g ++ [g] else hL p g
theorem hL_stop {p : Nat → Bool} {g : Nat} (h : ¬ (hL p g).length < 6) : ∀ n, g ≤ n → hL p n = hL p g
  | 0, q => by rw [show g = 0 by omega]
  | n + 1, q => by
    by_cases e : g = n + 1
    · rw [e]
    · rw [hL, hL_stop h n (by omega), if_neg (fun z => h z.2)]
theorem hL_len {p : Nat → Bool} : ∀ g, (hL p g).length ≤ 6
  | 0 => by rw [hL]; simp
  | g + 1 => by
    rw [hL]
    have := hL_len (p := p) g
    split
    · rw [List.length_append]
      have h2 : (hL p g).length < 6 := by rename_i z; exact z.2
      simp only [List.length_cons, List.length_nil]
      omega
    · exact this
theorem app_g {L : List Nat} {g x i : Nat} (h : (L ++ [g])[i]? = some x) : L[i]? = some x ∨ (i = L.length ∧ x = g) := by
  induction L generalizing i with
  | nil =>
    cases i with
    | zero => simp at h; exact Or.inr ⟨rfl, h.symm⟩
    | succ i => simp at h
  | cons a L ih =>
    cases i with
    | zero => simp at h; left; simp [h]
    | succ i =>
      simp at h
      rcases ih (by simpa using h) with q | ⟨q, q'⟩
      · left; simpa using q
      · right; exact ⟨by simp [q], q'⟩
theorem get_lt {L : List Nat} {x i : Nat} (h : L[i]? = some x) : i < L.length := by
  apply Classical.byContradiction
  intro c
  rw [List.getElem?_eq_none (by omega)] at h
  cases h
def DC (N : NN) (s : Nat) (L : List Nat) (W C : Nat → Int) : Prop := N 46 s = (L.length : Int) ∧ ∀ i g : Nat, L[i]? = some g → N 43 (6 * s + i) = (g : Int) ∧ N 44 (6 * s + i) = W g ∧ N 45 (6 * s + i) = C g
def DM (N : NN) (s : Nat) (L : List Nat) (b : Nat → Bool) (W C : Nat → Int) : Prop := (∀ i g : Nat, L[i]? = some g → N 84 (6 * s + i) = (if b g then -1 else (g : Int)) ∧ N 85 (6 * s + i) = W g ∧ N 86 (6 * s + i) = C g) ∧ ∀ i, L.length ≤ i → i < 6 → N 84 (6 * s + i) = -1
def frDu (s o k : Nat) : Prop := o = 26 ∨ o = 27 ∨ ((o = 43 ∨ o = 44 ∨ o = 45) ∧ 6 * s ≤ k ∧ k < 6 * s + 6) ∨ ((o = 46 ∨ o = 47) ∧ k = s)
def frDl (s o k : Nat) : Prop := frM o k ∨ ((o = 84 ∨ o = 85 ∨ o = 86) ∧ 6 * s ≤ k ∧ k < 6 * s + 6) ∨ (o = 88 ∧ k = s)
def ownB (r : Nat → Int) (l : Int) : Nat → Bool := fun g => decide (rg r g 0 = l ∧ rg r g 1 = l)
section DU
variable {X : MX} {N : NN} {B : Int} {r : Nat → Int} {lw : Nat → Law}
theorem cw_G {N' : NN} {s : Nat} (h : CW X N 4 B r lw) (hf : Fr (frDu s) N N') : CW X N' 4 B r lw := cw_fr h hf fun o k q => by unfold frDu at q; omega
theorem mw_L {N' : NN} {s : Nat} (h : MW N B r lw) (hf : Fr (frDl s) N N') : MW N' B r lw := mw_fr h hf (fun k q => by unfold frDl frM at q; omega) (by unfold frDl frM; omega)
theorem dc_fr {N' : NN} {s : Nat} {L : List Nat} {W C : Nat → Int} (h : DC N s L W C) (hf : Fr (fun o _ => o = 26 ∨ o = 27) N N') : DC N' s L W C := by
  refine ⟨by rw [hf 46 s (by omega)]; exact h.1, fun i g q => ?_⟩
  rw [hf 43 _ (by omega), hf 44 _ (by omega), hf 45 _ (by omega)]
  exact h.2 i g q
theorem c_gather {l t : Int} {s : Nat} (hX : XOK X) (hW : CW X N 4 B r lw) (h0 : 0 ≤ l) (h1 : l < r 0) (t0 : 0 ≤ t) (t1 : t < r 0) (hs : s < 2) :
    Ok (f_X1_gather X 4 N s l t) (fun M => DC M s ((hL (ownB r l) (r 1).toNat).filter (fun g => !barS r lw g l t)) (fun g => worthS r lw g l t) (fun g => costS r lw g t (r 6)) ∧ M 47 s = rl r l 0 ∧ Fr (frDu s) N M) := by
  have hV := hW.2.1
  have v0 := hV.1
  have v1 := hV.2.1
  have v6 := hV.2.2.2.2.2.2.1
  unfold f_X1_gather
  refine ok_bd (c_lordAt hW.1 (by omega) (by omega) (by omega) (by omega)) ?_
  simp (disch := omega) only [gdp]
  rw [Int.toNat_natCast]
  have f0 : Fr (frDu s) N (m_up (m_up N 47 s (rl r l 0)) 46 s 0) := fr_up (fr_up fr_rfl (by unfold frDu; omega)) (by unfold frDu; omega)
  have e47 : (m_up (m_up N 47 s (rl r l 0)) 46 s 0) 47 s = rl r l 0 := by rw [up_o (by omega), up_a, if_pos rfl]
  have e46 : (m_up (m_up N 47 s (rl r l 0)) 46 s 0) 46 s = 0 := by rw [up_a, if_pos rfl]
  revert f0 e47 e46
  generalize (m_up (m_up N 47 s (rl r l 0)) 46 s 0) = N5
  intro f0 e47 e46
  have hW5 := cw_G hW f0
  refine ok_bd (c_term hW5.1 (by omega) (by omega)) ?_
  rw [show r (6 + (0 : Int)).toNat = r 6 from rfl]
  obtain ⟨n, hn⟩ := Int.eq_ofNat_of_zero_le v1.1
  rw [show (r 1).toNat = n by omega]
  have H : Ok (lp (fun s => b_X1_gather_32 X 4 s.1 s.2.1 s.2.2.1 s.2.2.2.1 s.2.2.2.2.1 s.2.2.2.2.2.1 s.2.2.2.2.2.2) (N5, (s : Int), l, t, r 6, 0, 0)) (fun M => DC M s ((hL (ownB r l) n).filter (fun g => !barS r lw g l t)) (fun g => worthS r lw g l t) (fun g => costS r lw g t (r 6)) ∧ M 47 s = rl r l 0 ∧ Fr (frDu s) N M) := by
    refine ok_up (fun i z => ∃ M, z = (M, (s : Int), l, t, r 6, ((hL (ownB r l) i.toNat).length : Int), i) ∧ DC M s ((hL (ownB r l) i.toNat).filter (fun g => !barS r lw g l t)) (fun g => worthS r lw g l t) (fun g => costS r lw g t (r 6)) ∧ M 47 s = rl r l 0 ∧ Fr (frDu s) N M) (n : Int) (i0 := 0) ?_ ?_ (by omega) ⟨N5, rfl, ⟨e46, fun i g q => by cases q⟩, e47, f0⟩
    · rintro i z a0 a1 ⟨M, rfl, hD, h47, hf⟩
      obtain ⟨k, rfl⟩ := Int.eq_ofNat_of_zero_le a0
      rw [Int.toNat_natCast] at hD ⊢
      rw [show ((k : Int) + 1).toNat = k + 1 by omega]
      have hWM := cw_G hW hf
      dsimp only
      unfold b_X1_gather_32 f_X1_gather_l32_j151
      refine ok_bd (c_many hWM.1 (by omega) (by omega)) ?_
      rw [show r (1 : Int).toNat = n from hn, if_pos a1]
      have hll := hL_len (p := ownB r l) k
      by_cases c6 : (hL (ownB r l) k).length < 6
      case neg =>
        rw [if_neg (by omega)]
        refine ok_ret ?_
        dsimp only
        rw [hL_stop c6 n (by omega)]
        exact ⟨hD, h47, hf⟩
      rw [if_pos (by omega)]
      refine ok_bd (c_isOwnedAndHeld hWM.1 (by omega) (by omega)) ?_
      by_cases c : rg r k 0 = l ∧ rg r k 1 = l
      case neg =>
        rw [if_neg c, i00, w_id (by omega) (by omega)]
        refine ok_ret ⟨M, ?_, ?_, h47, hf⟩
        · rw [hL, if_neg (fun z => c (of_decide_eq_true z.1))]
        · rw [hL, if_neg (fun z => c (of_decide_eq_true z.1))]; exact hD
      rw [if_pos c, i10]
      have eL : hL (ownB r l) (k + 1) = hL (ownB r l) k ++ [k] := by rw [hL, if_pos ⟨decide_eq_true c, c6⟩]
      rw [eL, List.filter_append]
      generalize hHL : hL (ownB r l) k = L at *
      refine ok_bind (c_bars (Or.inl rfl) (xok26 hX) hWM (by omega) (by omega) (by omega) (by omega)) ?_
      rintro ⟨z, M2⟩ ⟨p1, p2⟩
      dsimp only at p1 p2 ⊢
      have hf2 : Fr (frDu s) N M2 := fr_tr hf (fr_mono p2 fun o k q => by unfold frJ at q; unfold frDu; omega)
      have hD2 := dc_fr hD p2
      have h472 : M2 47 s = rl r l 0 := by rw [p2 47 s (by unfold frJ; omega)]; exact h47
      subst p1
      have lf := List.length_filter_le (fun g : Nat => !barS r lw g l t) L
      generalize hU : L.filter (fun g : Nat => !barS r lw g l t) = U at *
      cases hb : barS r lw k l t with
      | true =>
        rw [if_pos rfl, i10, w_id (by omega) (by omega), w_id (by omega) (by omega)]
        refine ok_ret ⟨M2, ?_, ?_, h472, hf2⟩
        · rw [List.length_append]; rfl
        · rw [show [k].filter (fun g : Nat => !barS r lw g l t) = [] by simp [hb], List.append_nil]; exact hD2
      | false =>
        rw [if_neg (show ¬ false = true by decide), i00]
        simp (disch := omega) only [Int.toNat_natCast, hD2.1, w_id, gdp]
        rw [show ((s : Int) * 6 + (U.length : Int)).toNat = 6 * s + U.length by omega]
        have f3 : Fr (frDu s) N (m_up M2 43 (6 * s + U.length) (k : Int)) := fr_up hf2 (by unfold frDu; omega)
        refine ok_bind (c_worth (Or.inl rfl) (xok26 hX) (cw_G hW f3) (by omega) (by omega) (by omega) (by omega)) ?_
        rintro ⟨wv, M4⟩ ⟨q1, q2⟩
        dsimp only at q1 q2 ⊢
        have f4 : Fr (frDu s) N M4 := fr_tr f3 (fr_mono q2 fun o k q => by unfold frJ at q; unfold frDu; omega)
        have f5 : Fr (frDu s) N (m_up M4 44 (6 * s + U.length) wv) := fr_up f4 (by unfold frDu; omega)
        refine ok_bind (c_costs (Or.inl rfl) (xok26 hX) (cw_G hW f5) (by omega) (by omega) (by omega) (by omega)) ?_
        rintro ⟨cv, M6⟩ ⟨u1, u2⟩
        dsimp only at u1 u2 ⊢
        have f6 : Fr (frDu s) N M6 := fr_tr f5 (fr_mono u2 fun o k q => by unfold frJ at q; unfold frDu; omega)
        have g46 : M6 46 s = (U.length : Int) := by rw [u2 46 s (by unfold frJ; omega), up_o (by omega), q2 46 s (by unfold frJ; omega), up_o (by omega)]; exact hD2.1
        have g47 : M6 47 s = rl r l 0 := by rw [u2 47 s (by unfold frJ; omega), up_o (by omega), q2 47 s (by unfold frJ; omega), up_o (by omega)]; exact h472
        rw [up_o (by omega), g46, w_id (x := (U.length : Int) + 1) (by omega) (by omega)]
        refine ok_ret ⟨_, by rw [List.length_append]; rfl, ?_, by rw [up_o (by omega), up_o (by omega)]; exact g47, fr_up (fr_up f6 (by unfold frDu; omega)) (by unfold frDu; omega)⟩
        rw [show [k].filter (fun g : Nat => !barS r lw g l t) = [k] by simp [hb]]
        refine ⟨by rw [up_a, if_pos rfl, List.length_append]; rfl, fun i g q => ?_⟩
        have a43 : (m_up (m_up M6 45 (6 * s + U.length) cv) 46 s ((U.length : Int) + 1)) 43 (6 * s + i) = if 6 * s + i = 6 * s + U.length then (k : Int) else M2 43 (6 * s + i) := by
          rw [up_o (by omega), up_o (by omega), u2 43 _ (by unfold frJ; omega), up_o (by omega), q2 43 _ (by unfold frJ; omega), up_a]
        have a44 : (m_up (m_up M6 45 (6 * s + U.length) cv) 46 s ((U.length : Int) + 1)) 44 (6 * s + i) = if 6 * s + i = 6 * s + U.length then wv else M2 44 (6 * s + i) := by
          rw [up_o (by omega), up_o (by omega), u2 44 _ (by unfold frJ; omega), up_a, q2 44 _ (by unfold frJ; omega), up_o (by omega)]
        have a45 : (m_up (m_up M6 45 (6 * s + U.length) cv) 46 s ((U.length : Int) + 1)) 45 (6 * s + i) = if 6 * s + i = 6 * s + U.length then cv else M2 45 (6 * s + i) := by
          rw [up_o (by omega), up_a, u2 45 _ (by unfold frJ; omega), up_o (by omega), q2 45 _ (by unfold frJ; omega), up_o (by omega)]
        rw [a43, a44, a45]
        rcases app_g q with q' | ⟨q', q''⟩
        · have := get_lt q'
          rw [if_neg (by omega), if_neg (by omega), if_neg (by omega)]
          exact hD2.2 i g q'
        · subst q' q''
          rw [if_pos rfl, if_pos rfl, if_pos rfl]
          exact ⟨rfl, q1, u1⟩
    · rintro z ⟨M, rfl, hD, h47, hf⟩
      have hWM := cw_G hW hf
      dsimp only
      unfold b_X1_gather_32
      refine ok_bd (c_many hWM.1 (by omega) (by omega)) ?_
      rw [show r (1 : Int).toNat = n from hn, if_neg (by omega)]
      rw [Int.toNat_natCast] at hD
      exact ok_ret ⟨hD, h47, hf⟩
  refine ok_bind H ?_
  intro M hM
  exact ok_ret hM
theorem ref_layGoods {l t : Int} {s : Nat} (hM : MW N B r lw) (h0 : 0 ≤ l) (h1 : l < r 0) (t0 : 0 ≤ t) (t1 : t < r 0) (hs : s < 2) :
    Ok (f_X12_layGoods X N s l t) (fun M => DM M s (hL (ownB r l) (r 1).toNat) (fun g => barS r lw g l t) (fun g => worthS r lw g l t) (fun g => costS r lw g t (r 6)) ∧ M 88 s = rl r l 0 ∧ Fr (frDl s) N M) := by
  have hV := hM.2.1
  have v0 := hV.1
  have v1 := hV.2.1
  have v6 := hV.2.2.2.2.2.2.1
  unfold f_X12_layGoods
  obtain ⟨n, hn⟩ := Int.eq_ofNat_of_zero_le v1.1
  rw [show (r 1).toNat = n by omega]
  have H1 : Ok (lp (fun s => b_X12_layGoods_6 X s.1 s.2.1 s.2.2.1 s.2.2.2.1 s.2.2.2.2.1 s.2.2.2.2.2) (N, (s : Int), l, t, 0, 0)) (fun o => ∃ M, o = (M, (s : Int), l, t, 0) ∧ (∀ i, i < 6 → M 84 (6 * s + i) = -1) ∧ Fr (frDl s) N M) := by
    refine ok_up (fun i z => ∃ M, z = (M, (s : Int), l, t, 0, i) ∧ (∀ j : Nat, (j : Int) < i → M 84 (6 * s + j) = -1) ∧ Fr (frDl s) N M) 6 (i0 := 0) ?_ ?_ (by omega) ⟨N, rfl, fun j hj => by omega, fr_rfl⟩
    · rintro i z a0 a1 ⟨M, rfl, hj, hf⟩
      obtain ⟨k, rfl⟩ := Int.eq_ofNat_of_zero_le a0
      dsimp only
      unfold b_X12_layGoods_6
      rw [if_pos a1, w_id (x := 6 * (s : Int)) (by omega) (by omega), w_id (x := 6 * (s : Int) + (k : Int)) (by omega) (by omega), w_id (x := (k : Int) + 1) (by omega) (by omega), gdp (by omega), show (6 * (s : Int) + (k : Int)).toNat = 6 * s + k by omega]
      refine ok_ret ⟨_, rfl, fun j q => ?_, fr_up hf (by unfold frDl; omega)⟩
      rw [up_a]
      by_cases e : j = k
      · rw [if_pos (by omega)]
      · rw [if_neg (by omega)]; exact hj j (by omega)
    · rintro z ⟨M, rfl, hj, hf⟩
      dsimp only
      unfold b_X12_layGoods_6
      rw [if_neg (by omega)]
      exact ok_ret ⟨M, rfl, fun i hi => hj i (by omega), hf⟩
  refine ok_bind H1 ?_
  rintro o ⟨N5, rfl, hj5, f0⟩
  dsimp only
  have H : Ok (lp (fun s => b_X12_layGoods_35 X s.1 s.2.1 s.2.2.1 s.2.2.2.1 s.2.2.2.2.1 s.2.2.2.2.2) (N5, (s : Int), l, t, 0, 0)) (fun o => ∃ M, o = (M, (s : Int), l) ∧ DM M s (hL (ownB r l) n) (fun g => barS r lw g l t) (fun g => worthS r lw g l t) (fun g => costS r lw g t (r 6)) ∧ Fr (frDl s) N M) := by
    refine ok_up (fun i z => ∃ M, z = (M, (s : Int), l, t, ((hL (ownB r l) i.toNat).length : Int), i) ∧ DM M s (hL (ownB r l) i.toNat) (fun g => barS r lw g l t) (fun g => worthS r lw g l t) (fun g => costS r lw g t (r 6)) ∧ Fr (frDl s) N M) (n : Int) (i0 := 0) ?_ ?_ (by omega) ⟨N5, rfl, ⟨fun i g q => (by cases q), fun i _ hi => hj5 i hi⟩, f0⟩
    · rintro i z a0 a1 ⟨M, rfl, hD, hf⟩
      obtain ⟨k, rfl⟩ := Int.eq_ofNat_of_zero_le a0
      rw [Int.toNat_natCast] at hD ⊢
      rw [show ((k : Int) + 1).toNat = k + 1 by omega]
      have hMM := mw_L hM hf
      dsimp only
      unfold b_X12_layGoods_35 f_X12_layGoods_l35_j144
      rw [hMM.1 1 (by omega), hn, if_pos a1]
      have hll := hL_len (p := ownB r l) k
      by_cases c6 : (hL (ownB r l) k).length < 6
      case neg =>
        rw [if_neg (by omega)]
        refine ok_ret ⟨M, rfl, ?_, hf⟩
        rw [hL_stop c6 n (by omega)]
        exact hD
      rw [if_pos (by omega)]
      have keep : ¬ (rg r k 0 = l ∧ rg r k 1 = l) → Ok (some (Sum.inl (M, (s : Int), l, t, ((hL (ownB r l) k).length : Int), m_w ((k : Int) + 1))) : Option ((NN × Int × Int × Int × Int × Int) ⊕ (NN × Int × Int))) (fun o => ∃ M', o = .inl (M', (s : Int), l, t, ((hL (ownB r l) (k + 1)).length : Int), (k : Int) + 1) ∧ DM M' s (hL (ownB r l) (k + 1)) (fun g => barS r lw g l t) (fun g => worthS r lw g l t) (fun g => costS r lw g t (r 6)) ∧ Fr (frDl s) N M') := by
        intro c
        rw [hL, if_neg (fun z => c (of_decide_eq_true z.1)), w_id (by omega) (by omega)]
        exact ok_ret ⟨M, rfl, hD, hf⟩
      refine ok_bd (ref_ofGood hMM.1 (by omega) (by omega) (by omega) (by omega)) ?_
      by_cases c0 : rg r k 0 = l
      case neg =>
        rw [if_neg c0]
        exact ok_mono (keep (fun z => c0 z.1)) (by rintro o ⟨M', rfl, g⟩; exact ⟨M', rfl, g⟩)
      rw [if_pos c0]
      refine ok_bd (ref_ofGood hMM.1 (by omega) (by omega) (by omega) (by omega)) ?_
      by_cases c1 : rg r k 1 = l
      case neg =>
        rw [if_neg c1]
        exact ok_mono (keep (fun z => c1 z.2)) (by rintro o ⟨M', rfl, g⟩; exact ⟨M', rfl, g⟩)
      rw [if_pos c1]
      have eL : hL (ownB r l) (k + 1) = hL (ownB r l) k ++ [k] := by rw [hL, if_pos ⟨decide_eq_true ⟨c0, c1⟩, c6⟩]
      clear keep
      rw [eL]
      generalize hHL : hL (ownB r l) k = L at *
      refine ok_bind (ref_isBarred hMM (by omega) (by omega) (by omega) (by omega)) ?_
      rintro ⟨z, M2⟩ ⟨p1, p2⟩
      dsimp only at p1 p2 ⊢
      have hf2 : Fr (frDl s) N M2 := fr_tr hf (fr_mono p2 fun o k q => Or.inl q)
      rw [w_id (x := 6 * (s : Int)) (by omega) (by omega), w_id (x := 6 * (s : Int) + (L.length : Int)) (by omega) (by omega)]
      have K : ∀ y : Int, y = (if barS r lw k l t then -1 else (k : Int)) → Ok (f_X12_layGoods_l35_j107 X M2 (s : Int) l t (L.length : Int) (k : Int) (6 * (s : Int) + (L.length : Int)) (6 * (s : Int) + (L.length : Int)) y) (fun o => ∃ M', o = .inl (M', (s : Int), l, t, ((L ++ [k]).length : Int), (k : Int) + 1) ∧ DM M' s (L ++ [k]) (fun g => barS r lw g l t) (fun g => worthS r lw g l t) (fun g => costS r lw g t (r 6)) ∧ Fr (frDl s) N M') := by
        intro y hy
        unfold f_X12_layGoods_l35_j107 f_X12_layGoods_l35_j144
        simp (disch := omega) only [gdp]
        rw [show (6 * (s : Int) + (L.length : Int)).toNat = 6 * s + L.length by omega]
        have f3 : Fr (frDl s) N (m_up M2 84 (6 * s + L.length) y) := fr_up hf2 (by unfold frDl; omega)
        refine ok_bind (ref_worthOf (mw_L hM f3) (by omega) (by omega) (by omega) (by omega)) ?_
        rintro ⟨wv, M4⟩ ⟨q1, q2⟩
        dsimp only at q1 q2 ⊢
        have f4 : Fr (frDl s) N M4 := fr_tr f3 (fr_mono q2 fun o k q => Or.inl q)
        have f5 : Fr (frDl s) N (m_up M4 85 (6 * s + L.length) wv) := fr_up f4 (by unfold frDl; omega)
        refine ok_bd (ref_year (mw_L hM f5).1) ?_
        refine ok_bind (ref_costOf (mw_L hM f5) (by omega) (by omega) (by omega) (by omega)) ?_
        rintro ⟨cv, M6⟩ ⟨u1, u2⟩
        dsimp only at u1 u2 ⊢
        have f6 : Fr (frDl s) N M6 := fr_tr f5 (fr_mono u2 fun o k q => Or.inl q)
        rw [w_id (x := (L.length : Int) + 1) (by omega) (by omega), w_id (x := (k : Int) + 1) (by omega) (by omega)]
        have a84 : ∀ i, (m_up M6 86 (6 * s + L.length) cv) 84 (6 * s + i) = if 6 * s + i = 6 * s + L.length then y else M 84 (6 * s + i) := fun i => by
          rw [up_o (by omega), u2 84 _ (by unfold frM; omega), up_o (by omega), q2 84 _ (by unfold frM; omega), up_a, p2 84 _ (by unfold frM; omega)]
        have a85 : ∀ i, (m_up M6 86 (6 * s + L.length) cv) 85 (6 * s + i) = if 6 * s + i = 6 * s + L.length then wv else M 85 (6 * s + i) := fun i => by
          rw [up_o (by omega), u2 85 _ (by unfold frM; omega), up_a, q2 85 _ (by unfold frM; omega), up_o (by omega), p2 85 _ (by unfold frM; omega)]
        have a86 : ∀ i, (m_up M6 86 (6 * s + L.length) cv) 86 (6 * s + i) = if 6 * s + i = 6 * s + L.length then cv else M 86 (6 * s + i) := fun i => by
          rw [up_a, u2 86 _ (by unfold frM; omega), up_o (by omega), q2 86 _ (by unfold frM; omega), up_o (by omega), p2 86 _ (by unfold frM; omega)]
        refine ok_ret ⟨_, by rw [List.length_append]; rfl, ⟨fun i g q => ?_, fun i q q' => ?_⟩, fr_up f6 (by unfold frDl; omega)⟩
        · rw [a84, a85, a86]
          rcases app_g q with q' | ⟨q', q''⟩
          · have := get_lt q'
            have ne : ¬ 6 * s + i = 6 * s + L.length := by omega
            rw [if_neg ne, if_neg ne, if_neg ne]
            exact hD.1 i g q'
          · subst q' q''
            have eq : 6 * s + L.length = 6 * s + L.length := rfl
            rw [if_pos eq, if_pos eq, if_pos eq]
            exact ⟨hy, q1, u1⟩
        · rw [List.length_append, List.length_cons, List.length_nil] at q
          rw [a84, if_neg (by omega)]
          exact hD.2 i (by omega) q'
      subst p1
      cases hb : barS r lw k l t with
      | true =>
        rw [if_pos rfl, i10]
        exact ok_mono (K (-1) (by rw [hb]; rfl)) (by rintro o ⟨M', rfl, g⟩; exact ⟨M', rfl, g⟩)
      | false =>
        rw [if_neg (show ¬ false = true by decide), i00]
        exact ok_mono (K (k : Int) (by rw [hb]; rfl)) (by rintro o ⟨M', rfl, g⟩; exact ⟨M', rfl, g⟩)
    · rintro z ⟨M, rfl, hD, hf⟩
      have hMM := mw_L hM hf
      dsimp only
      unfold b_X12_layGoods_35
      rw [hMM.1 1 (by omega), hn, if_neg (by omega)]
      rw [Int.toNat_natCast] at hD
      exact ok_ret ⟨M, rfl, hD, hf⟩
  refine ok_bind H ?_
  rintro o ⟨M, rfl, hD, hf⟩
  dsimp only
  refine ok_bd (ref_ofLord (mw_L hM hf).1 (by omega) (by omega) (by omega) (by omega)) ?_
  rw [gdp (by omega), Int.toNat_natCast]
  refine ok_ret ⟨⟨fun i g q => ?_, fun i q q' => ?_⟩, by rw [up_s], fr_up hf (by unfold frDl; omega)⟩
  · rw [up_o (by omega), up_o (by omega), up_o (by omega)]; exact hD.1 i g q
  · rw [up_o (by omega)]; exact hD.2 i q q'
end DU
