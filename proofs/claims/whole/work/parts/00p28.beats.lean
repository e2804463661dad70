/-! beats -/
def mostK (r : Nat → Int) (lw : Nat → Law) (l o : Int) : Nat → Int
  | 0 => -1
  | k + 1 => max (mostK r lw l o k) (if rg r k 0 = o then worthS r lw k o l else -1)
def beK (hit : Nat → Bool) (i : Int) : Nat → Option Int × Int
  | 0 => (none, 0)
  | k + 1 => match (beK hit i k).1 with
    | some v => (some v, (beK hit i k).2)
    | none => if hit k = true then (if (beK hit i k).2 = i then (some (k : Int), (beK hit i k).2) else (none, (beK hit i k).2 + 1)) else (none, (beK hit i k).2)
def beV (hit : Nat → Bool) (i : Int) (n : Nat) : Int := match (beK hit i n).1 with
  | some v => v
  | none => if i = -1 then (beK hit i n).2 else -1
theorem beK_b (hit : Nat → Bool) (i : Int) : ∀ k, 0 ≤ (beK hit i k).2 ∧ (beK hit i k).2 ≤ k
  | 0 => by simp [beK]
  | k + 1 => by
    have := beK_b hit i k
    rw [beK]
    split
    · dsimp only; omega
    · split
      · split <;> (dsimp only; omega)
      · dsimp only; omega
theorem beK_mono {hit : Nat → Bool} {i v : Int} {m : Nat} (h : (beK hit i m).1 = some v) : ∀ n, m ≤ n → (beK hit i n).1 = some v := by
  intro n hn
  induction hn with
  | refl => exact h
  | step _ ih => rw [beK, ih]
section BE
variable {X : MX} {N : NN} {B : Int} {r : Nat → Int} {lw : Nat → Law}
theorem mostK_b (l o : Int) : ∀ k, -1 ≤ mostK r lw l o k ∧ mostK r lw l o k ≤ 999
  | 0 => by simp [mostK]
  | k + 1 => by
    have a := mostK_b l o k
    have b := worthS_b r lw k o l
    rw [mostK]
    split <;> omega
def hitS (r : Nat → Int) (lw : Nat → Law) (l o m : Int) : Nat → Bool := fun g => decide (rg r g 0 = l) && decide (m < worthS r lw g l o)
theorem c_beating {l o i : Int} (hX : XOK X) (hW : CW X N 4 B r lw) (h0 : 0 ≤ l) (h1 : l < r 0) (o0 : 0 ≤ o) (o1 : o < r 0) : Ok (f_X6_beating X 4 N l o i) (fun z => z.1 = beV (hitS r lw l o (mostK r lw l o (r 1).toNat)) i (r 1).toNat ∧ Fr frJ N z.2) := by
  have hV := hW.2.1
  have v0 := hV.1
  have v1 := hV.2.1
  unfold f_X6_beating f_X6_beating_j127
  have H1 : Ok (lp (fun s : NN × Int × Int × Int × Int × Int => b_X6_beating_6 X 4 s.1 s.2.1 s.2.2.1 s.2.2.2.1 s.2.2.2.2.1 s.2.2.2.2.2) (N, l, o, i, -1, 0)) (fun z => ∃ M, z = (M, l, o, i, mostK r lw l o (r 1).toNat) ∧ Fr frJ N M) := by
    refine ok_up (fun k s => ∃ M, s = (M, l, o, i, mostK r lw l o k.toNat, k) ∧ Fr frJ N M) (r 1) (i0 := 0) ?_ ?_ v1.1 ⟨N, rfl, fr_rfl⟩
    · rintro k s a0 a1 ⟨M, rfl, hf⟩
      have hi : ((k.toNat : Nat) : Int) = k := by omega
      have hC := cw_J (Or.inl rfl) hW hf
      have ek : mostK r lw l o (k + 1).toNat = max (mostK r lw l o k.toNat) (if rg r k 0 = o then worthS r lw k o l else -1) := by rw [show (k + 1).toNat = k.toNat + 1 by omega, mostK, hi]
      have mb := mostK_b (r := r) (lw := lw) l o k.toNat
      dsimp only
      unfold b_X6_beating_6 f_X6_beating_l6_j46
      refine ok_bd (c_many hC.1 (by omega) (by omega)) ?_
      rw [if_pos (by exact a1), w_id (by omega) (by omega)]
      refine ok_bd (c_goodAt hC.1 a0 (by omega) (by omega) (by omega)) ?_
      by_cases c : rg r k 0 = o
      · rw [if_pos c]
        refine ok_bind (c_worth (Or.inl rfl) (xok26 hX) hC a0 a1 (by omega) (by omega)) ?_
        rintro ⟨v, M2⟩ ⟨p1, p2⟩
        dsimp only at p1 p2 ⊢
        rw [max_id, p1]
        exact ok_ret ⟨M2, by rw [ek, if_pos c], fr_tr hf p2⟩
      · rw [if_neg c]
        refine ok_ret ⟨M, ?_, hf⟩
        rw [ek, if_neg c, show max (mostK r lw l o k.toNat) (-1) = mostK r lw l o k.toNat by omega]
    · rintro s ⟨M, rfl, hf⟩
      have hC := cw_J (Or.inl rfl) hW hf
      dsimp only
      unfold b_X6_beating_6
      refine ok_bd (c_many hC.1 (by omega) (by omega)) ?_
      rw [if_neg (by show ¬ r 1 < r 1; omega)]
      exact ok_ret ⟨M, rfl, hf⟩
  refine ok_bind H1 ?_
  rintro z ⟨M, rfl, hf⟩
  dsimp only
  generalize mostK r lw l o (r 1).toNat = mo
  generalize hh : hitS r lw l o mo = hit
  have H2 : Ok (lp (fun s : NN × Int × Int × Int × Int × Int × Int => b_X6_beating_58 X 4 s.1 s.2.1 s.2.2.1 s.2.2.2.1 s.2.2.2.2.1 s.2.2.2.2.2.1 s.2.2.2.2.2.2) (M, l, o, i, mo, 0, 0)) (fun z => (∃ M', z = .inl (M', i, (beK hit i (r 1).toNat).2) ∧ (beK hit i (r 1).toNat).1 = none ∧ Fr frJ N M') ∨ (∃ M' v, z = .inr (M', v) ∧ (beK hit i (r 1).toNat).1 = some v ∧ Fr frJ N M')) := by
    refine ok_up (fun k s => ∃ M', s = (M', l, o, i, mo, (beK hit i k.toNat).2, k) ∧ (beK hit i k.toNat).1 = none ∧ Fr frJ N M') (r 1) (i0 := 0) ?_ ?_ v1.1 ⟨M, rfl, rfl, hf⟩
    · rintro k s a0 a1 ⟨M', rfl, hN, hf'⟩
      have hi : ((k.toNat : Nat) : Int) = k := by omega
      have bb := beK_b hit i k.toNat
      have hC := cw_J (Or.inl rfl) hW hf'
      have ek : beK hit i (k + 1).toNat = (if hit k.toNat = true then (if (beK hit i k.toNat).2 = i then (some k, (beK hit i k.toNat).2) else (none, (beK hit i k.toNat).2 + 1)) else (none, (beK hit i k.toNat).2)) := by rw [show (k + 1).toNat = k.toNat + 1 by omega, beK, hN, hi]
      have hk : hit k.toNat = (decide (rg r k 0 = l) && decide (mo < worthS r lw k l o)) := by rw [← hh]; unfold hitS; rw [hi]
      dsimp only
      unfold b_X6_beating_58 f_X6_beating_l58_j109
      refine ok_bd (c_many hC.1 (by omega) (by omega)) ?_
      rw [if_pos (by exact a1), w_id (x := k + 1) (by omega) (by omega)]
      refine ok_bd (c_goodAt hC.1 a0 (by omega) (by omega) (by omega)) ?_
      by_cases c : rg r k 0 = l
      case neg =>
        rw [if_neg c]
        have hf0 : hit k.toNat = false := by rw [hk, decide_eq_false c]; rfl
        rw [hf0, if_neg (by simp)] at ek
        exact ok_ret ⟨M', by rw [ek], by rw [ek], hf'⟩
      rw [if_pos c]
      refine ok_bind (c_worth (Or.inl rfl) (xok26 hX) hC a0 a1 (by omega) (by omega)) ?_
      rintro ⟨v, M2⟩ ⟨p1, p2⟩
      dsimp only at p1 p2 ⊢
      subst p1
      by_cases d : mo < worthS r lw k l o
      case neg =>
        rw [if_neg d]
        have hf0 : hit k.toNat = false := by rw [hk, decide_eq_false d, Bool.and_false]
        rw [hf0, if_neg (by simp)] at ek
        exact ok_ret ⟨M2, by rw [ek], by rw [ek], fr_tr hf' p2⟩
      rw [if_pos d]
      have hf1 : hit k.toNat = true := by rw [hk, decide_eq_true c, decide_eq_true d]; rfl
      rw [hf1, if_pos rfl] at ek
      by_cases e : (beK hit i k.toNat).2 = i
      · rw [if_pos e]
        rw [if_pos e] at ek
        refine ok_ret (Or.inr ⟨M2, k, rfl, ?_, fr_tr hf' p2⟩)
        exact beK_mono (m := (k + 1).toNat) (by rw [ek]) _ (by omega)
      · rw [if_neg e, w_id (by omega) (by omega)]
        rw [if_neg e] at ek
        exact ok_ret ⟨M2, by rw [ek], by rw [ek], fr_tr hf' p2⟩
    · rintro s ⟨M', rfl, hN, hf'⟩
      have hC := cw_J (Or.inl rfl) hW hf'
      dsimp only
      unfold b_X6_beating_58
      refine ok_bd (c_many hC.1 (by omega) (by omega)) ?_
      rw [if_neg (by show ¬ r 1 < r 1; omega)]
      exact ok_ret (Or.inl ⟨M', rfl, hN, hf'⟩)
  refine ok_bind H2 ?_
  rintro z (⟨M', rfl, p1, p2⟩ | ⟨M', v, rfl, p1, p2⟩)
  · dsimp only
    unfold beV
    rw [p1]
    by_cases e : i = -1
    · rw [if_pos e]; exact ok_ret ⟨by dsimp only; rw [if_pos e], p2⟩
    · rw [if_neg e]; exact ok_ret ⟨by dsimp only; rw [if_neg e], p2⟩
  · unfold beV
    rw [p1]
    exact ok_ret ⟨rfl, p2⟩
theorem ref_beats {l o i : Int} (hM : MW N B r lw) (h0 : 0 ≤ l) (h1 : l < r 0) (o0 : 0 ≤ o) (o1 : o < r 0) : Ok (Option.bind (lp (fun s : NN × Int × Int × Int × Int × Int => b_X12_beats_34 X s.1 s.2.1 s.2.2.1 s.2.2.2.1 s.2.2.2.2.1 s.2.2.2.2.2) (N, l, o, i, -1, 0)) (fun o9 => Option.bind (lp (fun s : NN × Int × Int × Int × Int × Int × Int => b_X12_beats_98 X s.1 s.2.1 s.2.2.1 s.2.2.2.1 s.2.2.2.2.1 s.2.2.2.2.2.1 s.2.2.2.2.2.2) (o9.1, o9.2.1, o9.2.2.1, o9.2.2.2.1, o9.2.2.2.2, 0, 0)) (fun o16 =>
          match o16 with
          | .inl e16 => if e16.2.1 = (-1) then some (e16.2.2, e16.1) else some (-1, e16.1)
          | .inr e16 => some (e16.2, e16.1)))) (fun z => z.1 = beV (hitS r lw l o (mostK r lw l o (r 1).toNat)) i (r 1).toNat ∧ Fr frM N z.2) := by
  have hV := hM.2.1
  have v0 := hV.1
  have v1 := hV.2.1
  have H1 : Ok (lp (fun s : NN × Int × Int × Int × Int × Int => b_X12_beats_34 X s.1 s.2.1 s.2.2.1 s.2.2.2.1 s.2.2.2.2.1 s.2.2.2.2.2) (N, l, o, i, -1, 0)) (fun z => ∃ M, z = (M, l, o, i, mostK r lw l o (r 1).toNat) ∧ Fr frM N M) := by
    refine ok_up (fun k s => ∃ M, s = (M, l, o, i, mostK r lw l o k.toNat, k) ∧ Fr frM N M) (r 1) (i0 := 0) ?_ ?_ v1.1 ⟨N, rfl, fr_rfl⟩
    · rintro k s a0 a1 ⟨M, rfl, hf⟩
      have hi : ((k.toNat : Nat) : Int) = k := by omega
      have hC := mw_M hM hf
      have ek : mostK r lw l o (k + 1).toNat = max (mostK r lw l o k.toNat) (if rg r k 0 = o then worthS r lw k o l else -1) := by rw [show (k + 1).toNat = k.toNat + 1 by omega, mostK, hi]
      have mb := mostK_b (r := r) (lw := lw) l o k.toNat
      have K : ∀ (v : Int) (M2 : NN), v = (if rg r k 0 = o then worthS r lw k o l else -1) → Fr frM N M2 → Ok (if mostK r lw l o k.toNat < v then some (Sum.inl (α := NN × Int × Int × Int × Int × Int) (β := NN × Int × Int × Int × Int) (M2, l, o, i, v, k + 1)) else some (Sum.inl (M2, l, o, i, mostK r lw l o k.toNat, k + 1))) (fun z => ∃ M', z = .inl (M', l, o, i, mostK r lw l o (k + 1).toNat, k + 1) ∧ Fr frM N M') := by
        intro v M2 hv hf2
        rw [ek, ← hv]
        by_cases c : mostK r lw l o k.toNat < v
        · rw [if_pos c]; exact ok_ret ⟨M2, by rw [show max (mostK r lw l o k.toNat) v = v by omega], hf2⟩
        · rw [if_neg c]; exact ok_ret ⟨M2, by rw [show max (mostK r lw l o k.toNat) v = mostK r lw l o k.toNat by omega], hf2⟩
      dsimp only
      unfold b_X12_beats_34 f_X12_beats_l34_j68 f_X12_beats_l34_j84
      rw [hC.1 1 (by omega), if_pos a1, w_id (by omega) (by omega)]
      refine ok_bd (ref_ofGood hC.1 a0 (by omega) (by omega) (by omega)) ?_
      by_cases c : rg r k 0 = o
      · rw [if_pos c]
        refine ok_bind (ref_worthOf hC a0 a1 (by omega) (by omega)) ?_
        rintro ⟨v, M2⟩ ⟨p1, p2⟩
        dsimp only at p1 p2 ⊢
        refine ok_mono (K v M2 (by rw [if_pos c]; exact p1) (fr_tr hf p2)) ?_
        rintro z ⟨M', rfl, g⟩
        exact ⟨M', rfl, g⟩
      · rw [if_neg c]
        refine ok_mono (K (-1) M (by rw [if_neg c]) hf) ?_
        rintro z ⟨M', rfl, g⟩
        exact ⟨M', rfl, g⟩
    · rintro s ⟨M, rfl, hf⟩
      have hC := mw_M hM hf
      dsimp only
      unfold b_X12_beats_34
      rw [hC.1 1 (by omega), if_neg (by omega)]
      exact ok_ret ⟨M, rfl, hf⟩
  refine ok_bind H1 ?_
  rintro z ⟨M, rfl, hf⟩
  dsimp only
  generalize mostK r lw l o (r 1).toNat = mo
  generalize hh : hitS r lw l o mo = hit
  have H2 : Ok (lp (fun s : NN × Int × Int × Int × Int × Int × Int => b_X12_beats_98 X s.1 s.2.1 s.2.2.1 s.2.2.2.1 s.2.2.2.2.1 s.2.2.2.2.2.1 s.2.2.2.2.2.2) (M, l, o, i, mo, 0, 0)) (fun z => (∃ M', z = .inl (M', i, (beK hit i (r 1).toNat).2) ∧ (beK hit i (r 1).toNat).1 = none ∧ Fr frM N M') ∨ (∃ M' v, z = .inr (M', v) ∧ (beK hit i (r 1).toNat).1 = some v ∧ Fr frM N M')) := by
    refine ok_up (fun k s => ∃ M', s = (M', l, o, i, mo, (beK hit i k.toNat).2, k) ∧ (beK hit i k.toNat).1 = none ∧ Fr frM N M') (r 1) (i0 := 0) ?_ ?_ v1.1 ⟨M, rfl, rfl, hf⟩
    · rintro k s a0 a1 ⟨M', rfl, hN, hf'⟩
      have hi : ((k.toNat : Nat) : Int) = k := by omega
      have bb := beK_b hit i k.toNat
      have hC := mw_M hM hf'
      have ek : beK hit i (k + 1).toNat = (if hit k.toNat = true then (if (beK hit i k.toNat).2 = i then (some k, (beK hit i k.toNat).2) else (none, (beK hit i k.toNat).2 + 1)) else (none, (beK hit i k.toNat).2)) := by rw [show (k + 1).toNat = k.toNat + 1 by omega, beK, hN, hi]
      have hk : hit k.toNat = (decide (rg r k 0 = l) && decide (mo < worthS r lw k l o)) := by rw [← hh]; unfold hitS; rw [hi]
      dsimp only
      unfold b_X12_beats_98 f_X12_beats_l98_j145
      rw [hC.1 1 (by omega), if_pos a1, w_id (x := k + 1) (by omega) (by omega)]
      refine ok_bd (ref_ofGood hC.1 a0 (by omega) (by omega) (by omega)) ?_
      by_cases c : rg r k 0 = l
      case neg =>
        rw [if_neg c]
        have hf0 : hit k.toNat = false := by rw [hk, decide_eq_false c]; rfl
        rw [hf0, if_neg (by simp)] at ek
        exact ok_ret ⟨M', by rw [ek], by rw [ek], hf'⟩
      rw [if_pos c]
      refine ok_bind (ref_worthOf hC a0 a1 (by omega) (by omega)) ?_
      rintro ⟨v, M2⟩ ⟨p1, p2⟩
      dsimp only at p1 p2 ⊢
      subst p1
      by_cases d : mo < worthS r lw k l o
      case neg =>
        rw [if_neg d]
        have hf0 : hit k.toNat = false := by rw [hk, decide_eq_false d, Bool.and_false]
        rw [hf0, if_neg (by simp)] at ek
        exact ok_ret ⟨M2, by rw [ek], by rw [ek], fr_tr hf' p2⟩
      rw [if_pos d]
      have hf1 : hit k.toNat = true := by rw [hk, decide_eq_true c, decide_eq_true d]; rfl
      rw [hf1, if_pos rfl] at ek
      by_cases e : (beK hit i k.toNat).2 = i
      · rw [if_pos e]
        rw [if_pos e] at ek
        refine ok_ret (Or.inr ⟨M2, k, rfl, ?_, fr_tr hf' p2⟩)
        exact beK_mono (m := (k + 1).toNat) (by rw [ek]) _ (by omega)
      · rw [if_neg e, w_id (by omega) (by omega)]
        rw [if_neg e] at ek
        exact ok_ret ⟨M2, by rw [ek], by rw [ek], fr_tr hf' p2⟩
    · rintro s ⟨M', rfl, hN, hf'⟩
      have hC := mw_M hM hf'
      dsimp only
      unfold b_X12_beats_98
      rw [hC.1 1 (by omega), if_neg (by omega)]
      exact ok_ret (Or.inl ⟨M', rfl, hN, hf'⟩)
  refine ok_bind H2 ?_
  rintro z (⟨M', rfl, p1, p2⟩ | ⟨M', v, rfl, p1, p2⟩)
  · dsimp only
    unfold beV
    rw [p1]
    by_cases e : i = -1
    · rw [if_pos e]; exact ok_ret ⟨by dsimp only; rw [if_pos e], p2⟩
    · rw [if_neg e]; exact ok_ret ⟨by dsimp only; rw [if_neg e], p2⟩
  · unfold beV
    rw [p1]
    exact ok_ret ⟨rfl, p2⟩
theorem beV_low {hit : Nat → Bool} {i : Int} (hi : i < -1) : ∀ n, (beK hit i n).1 = none
  | 0 => rfl
  | n + 1 => by
    have a := beK_b hit i n
    rw [beK, beV_low hi n]
    dsimp only
    by_cases q : hit n = true
    · rw [if_pos q, if_neg (by omega)]
    · rw [if_neg q]
theorem sim_beats (h : Inv X N B) (l o i : Int) : Sim X N B (f_X11_beats X N l o i) (fun M => f_X12_beats X M l o i) := by
  have h' := h
  obtain ⟨hX, ⟨r, lw⟩, im, un, tp, cn, rp, hC, hM⟩ := h'
  have hW : CW X N 4 B r lw := hC.1
  have hV := hW.2.1
  refine sim_ro (v := if (0 ≤ l ∧ l < r 0) ∧ (0 ≤ o ∧ o < r 0) ∧ l ≠ o then beV (hitS r lw l o (mostK r lw l o (r 1).toNat)) i (r 1).toNat else -1) h ?_ ?_
  · unfold f_X11_beats f_X11_beats_j32
    refine ok_bd (c_isLord hW.1) ?_
    by_cases c : 0 ≤ l ∧ l < r 0
    case neg =>
      rw [if_neg c, i00, if_neg (fun z => c z.1)]
      exact ok_ret ⟨rfl, fr_rfl⟩
    rw [if_pos c, i10]
    refine ok_bd (c_isLord hW.1) ?_
    by_cases d : 0 ≤ o ∧ o < r 0
    case neg =>
      rw [if_neg d, i00, if_neg (fun z => d z.2.1)]
      exact ok_ret ⟨rfl, fr_rfl⟩
    rw [if_pos d, i10]
    by_cases e : l = o
    · rw [if_pos e, if_neg (fun z => z.2.2 e)]
      exact ok_ret ⟨rfl, fr_rfl⟩
    rw [if_neg e, if_pos (show (0 ≤ l ∧ l < r 0) ∧ (0 ≤ o ∧ o < r 0) ∧ l ≠ o from ⟨c, d, e⟩)]
    by_cases g : i < -1
    · rw [if_pos g]
      refine ok_ret ⟨?_, fr_rfl⟩
      unfold beV
      rw [beV_low g, if_neg (by omega)]
    rw [if_neg g]
    refine ok_bind (c_beating hX hW c.1 c.2 d.1 d.2) ?_
    rintro ⟨v, N1⟩ ⟨p1, p2⟩
    exact ok_ret ⟨p1, npr_J p2⟩
  · intro M hf
    have hM1 : MW (m_up M 64 0 0) B r lw := (minv_npr hM (fr_tr hf npr_0)).1
    unfold f_X12_beats f_X12_beats_j26 f_X12_beats_j162
    try dsimp only
    refine ok_bd (ref_isLord hM1.1 hV) ?_
    by_cases c : 0 ≤ l ∧ l < r 0
    case neg =>
      rw [if_neg c, i00, if_neg (fun z => c z.1)]
      exact ok_ret ⟨rfl, npr_0⟩
    rw [if_pos c, i10]
    refine ok_bd (ref_isLord hM1.1 hV) ?_
    by_cases d : 0 ≤ o ∧ o < r 0
    case neg =>
      rw [if_neg d, i00, if_neg (fun z => d z.2.1)]
      exact ok_ret ⟨rfl, npr_0⟩
    rw [if_pos d, i10]
    by_cases e : l = o
    · rw [if_pos e, if_neg (fun z => z.2.2 e)]
      exact ok_ret ⟨rfl, npr_0⟩
    rw [if_neg e, if_pos (show (0 ≤ l ∧ l < r 0) ∧ (0 ≤ o ∧ o < r 0) ∧ l ≠ o from ⟨c, d, e⟩)]
    have K := ref_beats (X := X) (i := i) hM1 c.1 c.2 d.1 d.2
    obtain ⟨z, ez, p1, p2⟩ := K
    refine ⟨z, ?_, p1, fr_tr npr_0 (npr_M p2)⟩
    exact ez
end BE
