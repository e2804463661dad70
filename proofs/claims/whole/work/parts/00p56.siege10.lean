/-! siege: what the reference lays -/
def frSm (o k : Nat) : Prop := frM o k ∨ o = 90 ∨ o = 91
def MHs (N : NN) (r : Nat → Int) (lw : Nat → Law) (f t : Int) (n : Nat) (H : List Nat) (c : Nat) : Prop := c < 2 ^ H.length ∧ ∀ i g : Nat, H[i]? = some g → N 90 i = (g : Int) ∧ bit (c : Int) (i : Int) = (if barS r lw g f t then 0 else 1) ∧ ∀ y : Nat, 1 ≤ y → y ≤ n → N 91 (9 * i + y - 1) = costS r lw g t (r 6 + y)
section SJ
variable {X : MX} {N : NN} {B : Int} {r : Nat → Int} {lw : Nat → Law}
theorem mw_Sm {N' : NN} (h : MW N B r lw) (hf : Fr frSm N N') : MW N' B r lw := mw_fr h hf (fun k q => by unfold frSm frM at q; omega) (by unfold frSm frM; omega)
theorem ref_si164 {f t a4 can : Int} {n u g : Nat} (hM : MW N B r lw) (t0 : 0 ≤ t) (t1 : t ≤ 5) (hg : (g : Int) < r 1) (hn : n ≤ 9) (hu : u < 10) :
    Ok (lp (fun s => b_X12_siege_164 X s.1 s.2.1 s.2.2.1 s.2.2.2.1 s.2.2.2.2.1 s.2.2.2.2.2.1 s.2.2.2.2.2.2.1 s.2.2.2.2.2.2.2.1 s.2.2.2.2.2.2.2.2) (N, f, t, (n : Int), a4, (u : Int), can, (g : Int), 1)) (fun o => ∃ M, o = (M, f, t, (n : Int), a4, (u : Int), can, (g : Int)) ∧ (∀ y : Nat, 1 ≤ y → y ≤ n → M 91 (9 * u + y - 1) = costS r lw g t (r 6 + y)) ∧ Fr (fun o k => frM o k ∨ (o = 91 ∧ 9 * u ≤ k)) N M) := by
  have hV := hM.2.1
  have v1 := hV.2.1
  have v6 := hV.2.2.2.2.2.2.1
  refine ok_up (fun i z => ∃ M, z = (M, f, t, (n : Int), a4, (u : Int), can, (g : Int), i) ∧ (∀ y : Nat, 1 ≤ y → (y : Int) < i → M 91 (9 * u + y - 1) = costS r lw g t (r 6 + y)) ∧ Fr (fun o k => frM o k ∨ (o = 91 ∧ 9 * u ≤ k)) N M) ((n : Int) + 1) (i0 := 1) ?_ ?_ (by omega) ⟨N, rfl, fun y p h => by omega, fr_rfl⟩
  · rintro i z a0 a1 ⟨M, rfl, hj, hf⟩
    obtain ⟨k, rfl⟩ := Int.eq_ofNat_of_zero_le (show 0 ≤ i by omega)
    have hM' : MW M B r lw := mw_fr hM hf (fun k q => by unfold frM at q; omega) (by unfold frM; omega)
    dsimp only
    unfold b_X12_siege_164
    rw [if_neg (by omega)]
    refine ok_bd (ref_year hM'.1) ?_
    rw [w_id (x := r 6 + (k : Int)) (by omega) (by omega)]
    refine ok_bind (ref_costOf hM' (by omega) hg (by omega) (by omega)) ?_
    rintro ⟨cv, M2⟩ ⟨p1, p2⟩
    dsimp only at p1 p2 ⊢
    rw [w_id (x := 9 * (u : Int)) (by omega) (by omega), w_id (x := 9 * (u : Int) + (k : Int)) (by omega) (by omega), w_id (x := 9 * (u : Int) + (k : Int) - 1) (by omega) (by omega), gdp (by omega), w_id (x := (k : Int) + 1) (by omega) (by omega), show (9 * (u : Int) + (k : Int) - 1).toNat = 9 * u + k - 1 by omega]
    refine ok_ret ⟨_, rfl, fun y q q' => ?_, fr_up (fr_tr hf (fr_mono p2 fun o k q => Or.inl q)) (Or.inr ⟨rfl, by omega⟩)⟩
    rw [up_a]
    by_cases e : y = k
    · rw [if_pos (by omega), p1, e]
    · rw [if_neg (by omega), p2 91 _ (by unfold frM; omega)]; exact hj y q (by omega)
  · rintro z ⟨M, rfl, hj, hf⟩
    dsimp only
    unfold b_X12_siege_164
    rw [if_pos (by omega)]
    exact ok_ret ⟨M, rfl, fun y p h => hj y p (by omega), hf⟩
theorem bit_big {c n i : Nat} (h : c < 2 ^ n) (hi : n ≤ i) : bit (c : Int) (i : Int) = 0 := by
  rw [bit_t, Nat.testBit_lt_two_pow (Nat.lt_of_lt_of_le h (Nat.pow_le_pow_right (by omega) hi))]
  rfl
theorem ref_si88 {f t a4 : Int} {n m : Nat} (hM : MW N B r lw) (t0 : 0 ≤ t) (t1 : t ≤ 5) (f0 : 0 ≤ f) (f1 : f ≤ 5) (hn : n ≤ 9) (hm : r 1 = (m : Int)) :
    Ok (lp (fun s => b_X12_siege_88 X s.1 s.2.1 s.2.2.1 s.2.2.2.1 s.2.2.2.2.1 s.2.2.2.2.2.1 s.2.2.2.2.2.2.1 s.2.2.2.2.2.2.2) (N, f, t, (n : Int), a4, 0, 0, 0)) (fun o => ∃ M, ∃ c : Nat, o = (M, f, t, (n : Int), a4, ((hC 10 (ownB r f) m).length : Int), (c : Int)) ∧ MHs M r lw f t n (hC 10 (ownB r f) m) c ∧ Fr frSm N M) := by
  have hV := hM.2.1
  have v1 := hV.2.1
  refine ok_up (fun i z => ∃ M, ∃ c : Nat, z = (M, f, t, (n : Int), a4, ((hC 10 (ownB r f) i.toNat).length : Int), (c : Int), i) ∧ MHs M r lw f t n (hC 10 (ownB r f) i.toNat) c ∧ Fr frSm N M) (m : Int) (i0 := 0) ?_ ?_ (by omega) ⟨N, 0, rfl, ⟨Nat.one_pos, fun i g q => (by cases q)⟩, fr_rfl⟩
  · rintro i z a0 a1 ⟨M, c, rfl, hD, hf⟩
    obtain ⟨k, rfl⟩ := Int.eq_ofNat_of_zero_le a0
    rw [Int.toNat_natCast] at hD ⊢
    rw [show ((k : Int) + 1).toNat = k + 1 by omega]
    have hM' := mw_Sm hM hf
    dsimp only
    unfold b_X12_siege_88 f_X12_siege_l88_j208
    rw [hM'.1 1 (by omega), hm, if_pos a1]
    have hll := hC_len (c := 10) (p := ownB r f) k
    by_cases c6 : (hC 10 (ownB r f) k).length < 10
    case neg =>
      rw [if_neg (by omega)]
      refine ok_ret ?_
      dsimp only
      rw [hC_stop c6 m (by omega)]
      exact ⟨M, c, rfl, hD, hf⟩
    rw [if_pos (by omega)]
    rw [ref_ofGood hM'.1 (by omega) (by omega) (by omega) (by omega), ref_ofGood hM'.1 (by omega) (by omega) (by omega) (by omega), Option.bind_some, Option.bind_some, w_id (x := (k : Int) + 1) (by omega) (by omega)]
    by_cases o1 : rg r k 0 = f ∧ rg r k 1 = f
    case neg =>
      have K : hC 10 (ownB r f) (k + 1) = hC 10 (ownB r f) k := by rw [hC, if_neg (fun z => o1 (of_decide_eq_true z.1))]
      rw [K]
      by_cases o2 : rg r k 0 = f
      · rw [if_pos o2, if_neg (fun z => o1 ⟨o2, z⟩)]
        exact ok_ret ⟨M, c, rfl, hD, hf⟩
      · rw [if_neg o2]
        exact ok_ret ⟨M, c, rfl, hD, hf⟩
    rw [if_pos o1.1, if_pos o1.2, gdp (by omega), Int.toNat_natCast]
    have eL : hC 10 (ownB r f) (k + 1) = hC 10 (ownB r f) k ++ [k] := by rw [hC, if_pos ⟨decide_eq_true o1, c6⟩]
    rw [eL]
    generalize hC 10 (ownB r f) k = L at *
    have f2 : Fr frSm N (m_up M 90 L.length (k : Int)) := fr_up hf (by unfold frSm; omega)
    refine ok_bind (ref_isBarred (mw_Sm hM f2) (by omega) (by omega) (by omega) (by omega)) ?_
    rintro ⟨z, M2⟩ ⟨p1, p2⟩
    dsimp only at p1 p2 ⊢
    have f3 : Fr frSm N M2 := fr_tr f2 (fr_mono p2 fun o k q => Or.inl q)
    subst p1
    have hp : 2 ^ L.length ≤ 2 ^ 9 := Nat.pow_le_pow_right (by omega) (by omega)
    have c1 : c < 2 ^ L.length := hD.1
    -- the mask then
    have K : ∀ c' : Nat, c' < 2 ^ (L.length + 1) → (∀ j : Nat, j < L.length → bit (c' : Int) (j : Int) = bit (c : Int) (j : Int)) → bit (c' : Int) (L.length : Int) = (if barS r lw k f t then 0 else 1) → Ok (f_X12_siege_l88_j158 X M2 f t (n : Int) a4 (L.length : Int) (k : Int) (c' : Int) 0) (fun o => ∃ M, ∃ c : Nat, o = .inl (M, f, t, (n : Int), a4, ((L ++ [k]).length : Int), (c : Int), (k : Int) + 1) ∧ MHs M r lw f t n (L ++ [k]) c ∧ Fr frSm N M) := by
      intro c' q1 q2 q3
      have q1' : c' < 2 ^ 10 := Nat.lt_of_lt_of_le q1 (Nat.pow_le_pow_right (by omega) (by omega))
      unfold f_X12_siege_l88_j158
      rw [show m_or (c' : Int) 0 = ((c' ||| 0 : Nat) : Int) from or_id (b := 0) (by omega) (by omega), Nat.or_zero]
      refine ok_bind (ref_si164 (mw_Sm hM f3) t0 t1 (by omega) hn c6) ?_
      rintro o ⟨M4, rfl, u1, u2⟩
      dsimp only
      unfold f_X12_siege_l88_j208
      rw [w_id (x := (L.length : Int) + 1) (by omega) (by omega), w_id (x := (k : Int) + 1) (by omega) (by omega)]
      refine ok_ret ⟨M4, c', by rw [List.length_append]; rfl, ⟨by rw [List.length_append]; exact q1, fun i g q => ?_⟩, fr_tr f3 (fr_mono u2 fun o k q => by rcases q with q | q; exact Or.inl q; exact Or.inr (Or.inr q.1))⟩
      have a90 : M4 90 i = if i = L.length then (k : Int) else M 90 i := by
        rw [u2 90 _ (by unfold frM; omega), p2 90 _ (by unfold frM; omega), up_a]
      rw [a90]
      rcases app_g q with q' | ⟨q', q''⟩
      · have := get_lt q'
        have ne : ¬ i = L.length := by omega
        have hd := hD.2 i g q'
        rw [if_neg ne]
        refine ⟨hd.1, by rw [q2 i this]; exact hd.2.1, fun y y1 y2 => ?_⟩
        rw [u2 91 _ (by unfold frM; omega), p2 91 _ (by unfold frM; omega), up_o (by omega)]
        exact hd.2.2 y y1 y2
      · subst q' q''
        rw [if_pos rfl]
        exact ⟨rfl, q3, u1⟩
    have bL : bit (c : Int) (L.length : Int) = 0 := bit_big c1 (Nat.le_refl _)
    have ps : 2 ^ (L.length + 1) = 2 * 2 ^ L.length := pw_s _
    cases hb : barS r lw k f t with
    | true =>
      rw [if_pos rfl, i10]
      refine ok_mono (K c (by omega) (fun j hj => rfl) (by rw [bL, hb]; rfl)) ?_
      rintro o ⟨M4, c4, rfl, h1, h2⟩
      exact ⟨M4, c4, rfl, h1, h2⟩
    | false =>
      rw [if_neg (show ¬ false = true by decide), i00, shl1_id (by omega) (by omega), Int.toNat_natCast]
      have ho : c ||| 2 ^ L.length < 2 ^ (L.length + 1) := Nat.or_lt_two_pow (by omega) (by omega)
      have e : m_or (c : Int) ((2 ^ L.length : Nat) : Int) = ((c ||| 2 ^ L.length : Nat) : Int) := or_id (by omega) (by omega)
      have K2 := K (c ||| 2 ^ L.length) ho (fun j hj => by rw [bit_or, if_neg (by omega)]) (by rw [bit_or, if_pos rfl, hb]; rfl)
      unfold f_X12_siege_l88_j158 at K2 ⊢
      rw [e]
      rw [show m_or ((c ||| 2 ^ L.length : Nat) : Int) 0 = ((c ||| 2 ^ L.length ||| 0 : Nat) : Int) from or_id (b := 0) (by omega) (by omega), Nat.or_zero] at K2
      refine ok_mono K2 ?_
      rintro o ⟨M4, c4, rfl, h1, h2⟩
      exact ⟨M4, c4, rfl, h1, h2⟩
  · rintro z ⟨M, c, rfl, hD, hf⟩
    have hM' := mw_Sm hM hf
    dsimp only
    unfold b_X12_siege_88
    rw [hM'.1 1 (by omega), hm, if_neg (by omega)]
    rw [Int.toNat_natCast] at hD
    exact ok_ret ⟨M, c, rfl, hD, hf⟩
end SJ
