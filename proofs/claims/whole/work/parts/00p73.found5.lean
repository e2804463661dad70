/-! found: the reference's gifts -/
def BTm (N : NN) (r : Nat → Int) (lw : Nat → Law) : Prop := ∀ g a t : Nat, (g : Int) < r 1 → (a : Int) < r 0 → (t : Int) < r 0 → a ≠ t → N 97 (36 * g + 6 * a + t) = if barS r lw g a t = true then 1 else 0
def HDm (N : NN) (r : Nat → Int) (H : Nat → Nat) : Prop := ∀ g : Nat, (g : Int) < r 1 → N 98 g = (H g : Int) ∧ (H g : Int) < r 0
def FBm (N : NN) (R : List (List Nat)) : Prop := N 64 64 = (R.length : Int) ∧ ∀ s, R.head? = some s → ∀ i x : Nat, s[i]? = some x → N 101 i = (x : Int)
def frFm (k o i : Nat) : Prop := (o = 64 ∧ i = 64) ∨ o = 101 ∨ o = 98 ∨ (o = 99 ∧ k ≤ i) ∨ (o = 100 ∧ k ≤ i)
theorem fbm_fr {N N' : NN} {R : List (List Nat)} (h : FBm N R) (h1 : N' 64 64 = N 64 64) (h2 : N' 101 = N 101) : FBm N' R := ⟨h1.trans h.1, by rw [h2]; exact h.2⟩
section FM
variable {X : MX} {N : NN} {B : Int} {r : Nat → Int} {lw : Nat → Law}
theorem mw_Fm {N' : NN} {k : Nat} (h : MW N B r lw) (hf : Fr (frFm k) N N') : MW N' B r lw := mw_fr h hf (fun k q => by unfold frFm at q; omega) (by unfold frFm; omega)
theorem ref_fdBars {n : Nat} (hM : MW N B r lw) : Ok (lp (fun s => b_X12_findGifts_2 X s.1 s.2.1 s.2.2) (N, (n : Int), 0)) (fun o => ∃ M, o = (M, (n : Int)) ∧ BTm M r lw ∧ Fr (fun o k => frM o k ∨ o = 97) N M) := by
  have hV := hM.2.1
  have v0 := hV.1
  have v1 := hV.2.1
  have H : Ok (lp (fun s => b_X12_findGifts_2 X s.1 s.2.1 s.2.2) (N, (n : Int), 0)) (fun o => ∃ M, o = (M, (n : Int)) ∧ (∀ x : Nat, x < 576 → ((x / 36 : Nat) : Int) < r 1 → ((x / 6 % 6 : Nat) : Int) < r 0 → ((x % 6 : Nat) : Int) < r 0 → x / 6 % 6 ≠ x % 6 → M 97 x = if barS r lw (x / 36 : Nat) (x / 6 % 6 : Nat) (x % 6 : Nat) = true then 1 else 0) ∧ Fr (fun o k => frM o k ∨ o = 97) N M) := by
    refine ok_up (fun i z => ∃ M, z = (M, (n : Int), i) ∧ (∀ x : Nat, (x : Int) < i → ((x / 36 : Nat) : Int) < r 1 → ((x / 6 % 6 : Nat) : Int) < r 0 → ((x % 6 : Nat) : Int) < r 0 → x / 6 % 6 ≠ x % 6 → M 97 x = if barS r lw (x / 36 : Nat) (x / 6 % 6 : Nat) (x % 6 : Nat) = true then 1 else 0) ∧ Fr (fun o k => frM o k ∨ o = 97) N M) 576 (i0 := 0) ?_ ?_ (by omega) ⟨N, rfl, fun x h => by omega, fr_rfl⟩
    · rintro i z a0 a1 ⟨M, rfl, hj, hf⟩
      obtain ⟨x, rfl⟩ := Int.eq_ofNat_of_zero_le a0
      have hMM : MW M B r lw := mw_fr hM hf (fun k q => by unfold frM at q; omega) (by unfold frM; omega)
      have K : ∀ (M2 : NN) (v : Int), Fr frM M M2 → (0 ≤ v ∧ v ≤ 1) → (((x / 36 : Nat) : Int) < r 1 → ((x / 6 % 6 : Nat) : Int) < r 0 → ((x % 6 : Nat) : Int) < r 0 → x / 6 % 6 ≠ x % 6 → v = if barS r lw (x / 36 : Nat) (x / 6 % 6 : Nat) (x % 6 : Nat) = true then 1 else 0) → Ok (f_X12_findGifts_l2_j84 X M2 (n : Int) (x : Int) (x : Int) v) (fun o => ∃ M, o = .inl (M, (n : Int), (x : Int) + 1) ∧ (∀ y : Nat, (y : Int) < (x : Int) + 1 → ((y / 36 : Nat) : Int) < r 1 → ((y / 6 % 6 : Nat) : Int) < r 0 → ((y % 6 : Nat) : Int) < r 0 → y / 6 % 6 ≠ y % 6 → M 97 y = if barS r lw (y / 36 : Nat) (y / 6 % 6 : Nat) (y % 6 : Nat) = true then 1 else 0) ∧ Fr (fun o k => frM o k ∨ o = 97) N M) := by
        intro M2 v f2 hv he
        unfold f_X12_findGifts_l2_j84
        rw [if_pos (by omega), if_pos hv, Int.toNat_natCast, w_id (x := (x : Int) + 1) (by omega) (by omega)]
        refine ok_ret ⟨_, rfl, fun y hy h1 h2 h3 h4 => ?_, fr_up (fr_tr hf (fr_mono f2 fun o k q => Or.inl q)) (Or.inr rfl)⟩
        rw [up_a]
        by_cases c : y = x
        · subst c
          rw [if_pos rfl]
          exact he h1 h2 h3 h4
        · rw [if_neg c, f2 97 _ (by unfold frM; omega)]
          exact hj y (by omega) h1 h2 h3 h4
      have G : Ok (b_X12_findGifts_2 X M (n : Int) (x : Int)) (fun o => ∃ M, o = .inl (M, (n : Int), (x : Int) + 1) ∧ (∀ y : Nat, (y : Int) < (x : Int) + 1 → ((y / 36 : Nat) : Int) < r 1 → ((y / 6 % 6 : Nat) : Int) < r 0 → ((y % 6 : Nat) : Int) < r 0 → y / 6 % 6 ≠ y % 6 → M 97 y = if barS r lw (y / 36 : Nat) (y / 6 % 6 : Nat) (y % 6 : Nat) = true then 1 else 0) ∧ Fr (fun o k => frM o k ∨ o = 97) N M) := by
        unfold b_X12_findGifts_2 f_X12_findGifts_l2_j83
        rw [if_pos a1, div_id (by omega) (by omega) (by omega) (by omega), div_id (by omega) (by omega) (by omega) (by omega), rem_id (a := (x : Int) / 6) (by omega) (by omega) (by omega) (by omega), rem_id (by omega) (by omega) (by omega) (by omega)]
        rw [show (x : Int) / 36 = ((x / 36 : Nat) : Int) by omega, show (x : Int) / 6 % 6 = ((x / 6 % 6 : Nat) : Int) by omega, show (x : Int) % 6 = ((x % 6 : Nat) : Int) by omega]
        refine ok_bd (ref_isGood hMM.1 hV) ?_
        by_cases c1 : 0 ≤ ((x / 36 : Nat) : Int) ∧ ((x / 36 : Nat) : Int) < r 1
        case neg => rw [if_neg c1, i00]; exact K M 0 fr_rfl (by omega) (fun h => by omega)
        rw [if_pos c1, i10]
        refine ok_bd (ref_isLord hMM.1 hV) ?_
        by_cases c2 : 0 ≤ ((x / 6 % 6 : Nat) : Int) ∧ ((x / 6 % 6 : Nat) : Int) < r 0
        case neg => rw [if_neg c2, i00]; exact K M 0 fr_rfl (by omega) (fun _ h => by omega)
        rw [if_pos c2, i10]
        refine ok_bd (ref_isLord hMM.1 hV) ?_
        by_cases c3 : 0 ≤ ((x % 6 : Nat) : Int) ∧ ((x % 6 : Nat) : Int) < r 0
        case neg => rw [if_neg c3, i00]; exact K M 0 fr_rfl (by omega) (fun _ _ h => by omega)
        rw [if_pos c3, i10]
        by_cases c4 : ((x / 6 % 6 : Nat) : Int) = ((x % 6 : Nat) : Int)
        · rw [if_pos c4]; exact K M 0 fr_rfl (by omega) (fun _ _ _ h => by omega)
        rw [if_neg c4]
        refine ok_bind (ref_isBarred hMM c1.1 c1.2 (by omega) (by omega)) ?_
        rintro ⟨z, M2⟩ ⟨p1, p2⟩
        dsimp only at p1 p2 ⊢
        cases hb : barS r lw ((x / 36 : Nat) : Int) ((x / 6 % 6 : Nat) : Int) ((x % 6 : Nat) : Int) with
        | true =>
          rw [hb] at p1
          rw [p1, if_pos rfl, i10]
          exact K M2 1 p2 (by omega) (fun _ _ _ _ => by rw [hb]; rfl)
        | false =>
          rw [hb] at p1
          rw [p1, if_neg (show ¬ false = true by decide), i00]
          exact K M2 0 p2 (by omega) (fun _ _ _ _ => by rw [hb]; rfl)
      refine ok_mono G ?_
      rintro o ⟨M9, rfl, h⟩
      exact ⟨M9, rfl, h⟩
    · rintro z ⟨M, rfl, hj, hf⟩
      dsimp only
      unfold b_X12_findGifts_2
      rw [if_neg (by omega)]
      exact ok_ret ⟨M, rfl, fun x hx => hj x (by omega), hf⟩
  refine ok_mono H ?_
  rintro o ⟨M, rfl, hj, hf⟩
  refine ⟨M, rfl, fun g a t hg ha ht hne => ?_, hf⟩
  have e1 : (36 * g + 6 * a + t) / 36 = g := by omega
  have e2 : (36 * g + 6 * a + t) / 6 % 6 = a := by omega
  have e3 : (36 * g + 6 * a + t) % 6 = t := by omega
  have q := hj (36 * g + 6 * a + t) (by omega)
  rw [e1, e2, e3] at q
  exact q hg ha ht hne
theorem ref_canBe {x : Nat} {H : Nat → Nat} (hM : MW N B r lw) (hB : BTm N r lw) (hH : HDm N r H) (hx : x < 6 * (r 1).toNat) : f_X12_canBe X N (x : Int) = some (if opF r lw (x / 6) (H (x / 6)) (x % 6) = true then 1 else 0) := by
  have hV := hM.2.1
  have v0 := hV.1
  have v1 := hV.2.1
  have hg := hH (x / 6) (by omega)
  unfold f_X12_canBe f_X12_canBe_j75 f_X12_canBe_j76
  rw [div_id (by omega) (by omega) (by omega) (by omega), rem_id (by omega) (by omega) (by omega) (by omega), show (x : Int) / 6 = ((x / 6 : Nat) : Int) by omega, show (x : Int) % 6 = ((x % 6 : Nat) : Int) by omega, if_pos (by omega), ref_isLord hM.1 hV, Option.bind_some, Int.toNat_natCast, hg.1]
  have no : opF r lw (x / 6) (H (x / 6)) (x % 6) = false → (if (0 : Int) ≤ 0 ∧ (0 : Int) ≤ 1 then (some 0 : Option Int) else none) = some (if opF r lw (x / 6) (H (x / 6)) (x % 6) = true then 1 else 0) := fun z => by
    rw [z, if_pos (by omega), if_neg (show ¬ false = true by decide)]
  by_cases c1 : 0 ≤ ((x % 6 : Nat) : Int) ∧ ((x % 6 : Nat) : Int) < r 0
  case neg =>
    rw [if_neg c1, i00]
    refine no ?_
    unfold opF
    rw [decide_eq_false (show ¬ x % 6 < (r 0).toNat by omega)]
    rfl
  rw [if_pos c1, i10]
  by_cases c2 : ((x % 6 : Nat) : Int) = (H (x / 6) : Int)
  · rw [if_pos c2]
    refine no ?_
    unfold opF
    rw [decide_eq_false (show ¬ H (x / 6) ≠ x % 6 by omega)]
    simp
  rw [if_neg c2, ref_ofLord hM.1 (by omega) (by omega) (by omega) (by omega), ref_ofLord hM.1 (by omega) (by omega) (by omega) (by omega), Option.bind_some, Option.bind_some]
  by_cases c3 : rl r (H (x / 6)) 2 = 0
  case neg =>
    rw [if_neg c3]
    refine no ?_
    unfold opF
    rw [decide_eq_false c3]
    simp
  rw [if_pos c3]
  by_cases c4 : rl r ((x % 6 : Nat) : Int) 2 = 0
  case neg =>
    rw [if_neg c4]
    refine no ?_
    unfold opF
    rw [decide_eq_false c4]
    simp
  rw [if_pos c4, w_id (x := 36 * ((x / 6 : Nat) : Int)) (by omega) (by omega), w_id (x := 6 * (H (x / 6) : Int)) (by omega) (by omega), w_id (x := 36 * ((x / 6 : Nat) : Int) + 6 * (H (x / 6) : Int)) (by omega) (by omega), w_id (x := 36 * ((x / 6 : Nat) : Int) + 6 * (H (x / 6) : Int) + ((x % 6 : Nat) : Int)) (by omega) (by omega), if_pos (by omega), show (36 * ((x / 6 : Nat) : Int) + 6 * (H (x / 6) : Int) + ((x % 6 : Nat) : Int)).toNat = 36 * (x / 6) + 6 * H (x / 6) + x % 6 by omega, hB (x / 6) (H (x / 6)) (x % 6) (by omega) hg.2 c1.2 (by omega)]
  cases hb : barS r lw ((x / 6 : Nat) : Int) (H (x / 6) : Int) ((x % 6 : Nat) : Int) with
  | true =>
    rw [if_pos rfl, i10]
    refine no ?_
    unfold opF
    rw [hb]
    simp
  | false =>
    rw [if_neg (show ¬ false = true by decide), i00, if_pos (by omega), if_pos]
    unfold opF
    rw [hb, decide_eq_true (show x % 6 < (r 0).toNat by omega), decide_eq_true (show H (x / 6) ≠ x % 6 by omega), decide_eq_true c3, decide_eq_true c4]
    rfl
theorem ref_isTold {H : Nat → Nat} (hM : MW N B r lw) (hH : HDm N r H) : f_X12_isTold X N = some (if tdN (tdF r) H (r 1).toNat = 1 then 1 else 0) := by
  have hV := hM.2.1
  have v0 := hV.1
  have v1 := hV.2.1
  unfold f_X12_isTold
  have L : Ok (lp (fun s => b_X12_isTold_4 X N s.1 s.2) (1, 0)) (fun o => o = tdN (tdF r) H (r 1).toNat) := by
    refine ok_up (fun i z => z = (tdN (tdF r) H i.toNat, i)) (r 1) (i0 := 0) ?_ ?_ (by omega) rfl
    · rintro i z a0 a1 rfl
      obtain ⟨g, rfl⟩ := Int.eq_ofNat_of_zero_le a0
      have b := td_b (td := tdF r) (H := H) g
      have hg := hH g a1
      rw [Int.toNat_natCast, show ((g : Int) + 1).toNat = g + 1 by omega, tdN]
      generalize tdN (tdF r) H g = q at b ⊢
      dsimp only
      unfold b_X12_isTold_4 f_X12_isTold_l4_j47 f_X12_isTold_l4_j43 f_X12_isTold_l4_j48
      rw [hM.1 1 (by omega), if_pos a1, w_id (x := (g : Int) + 1) (by omega) (by omega)]
      by_cases c : q = 0
      · rw [if_pos c, c, Int.zero_mul]
        exact ok_ret rfl
      · have q1 : q = 1 := by omega
        rw [if_neg c, q1, Int.one_mul, ref_ofGood hM.1 (by omega) (by omega) (by omega) (by omega), Option.bind_some, Option.bind_some, show rg r (g : Int) 5 = tdF r g from rfl, if_pos (show 0 ≤ (g : Int) ∧ (g : Int) < 16 by omega), Int.toNat_natCast, hg.1]
        by_cases d1 : tdF r g = -1
        · rw [if_pos d1, if_pos (Or.inl d1)]
          exact ok_ret rfl
        · rw [if_neg d1]
          by_cases d2 : tdF r g = (H g : Int)
          · rw [if_pos d2, if_pos (Or.inr d2)]
            exact ok_ret rfl
          · rw [if_neg d2, if_neg (by omega)]
            exact ok_ret rfl
    · rintro z rfl
      dsimp only
      unfold b_X12_isTold_4
      rw [hM.1 1 (by omega), if_neg (by omega)]
      exact ok_ret rfl
  obtain ⟨o, eo, po⟩ := L
  have b := td_b (td := tdF r) (H := H) (r 1).toNat
  rw [eo, Option.bind_some, po, if_pos (by omega)]
  by_cases c : tdN (tdF r) H (r 1).toNat = 1
  · rw [if_pos c, c]
  · rw [if_neg c, show tdN (tdF r) H (r 1).toNat = 0 by omega]
theorem ref_keepGifts {n : Nat} {R : List (List Nat)} {P : List Nat} (hn : n ≤ 3) (hl : P.length = n) (hP : ∀ i v : Nat, P[i]? = some v → N 99 i = (v : Int)) (hR : FBm N R) (hb : R.length ≤ 1000000) : Ok (f_X12_keepGifts X N (n : Int)) (fun M => FBm M (R ++ [P]) ∧ Fr (fun o i => (o = 64 ∧ i = 64) ∨ o = 101) N M) := by
  unfold f_X12_keepGifts
  have L : Ok (lp (fun s => b_X12_keepGifts_2 X s.1 s.2.1 s.2.2) (N, (n : Int), 0)) (fun M => (R = [] → ∀ i v : Nat, P[i]? = some v → M 101 i = (v : Int)) ∧ (R ≠ [] → M 101 = N 101) ∧ Fr (fun o _ => o = 101) N M) := by
    refine ok_up (fun i z => ∃ M, z = (M, (n : Int), i) ∧ (R = [] → ∀ j v : Nat, (j : Int) < i → P[j]? = some v → M 101 j = (v : Int)) ∧ (R ≠ [] → M 101 = N 101) ∧ Fr (fun o _ => o = 101) N M) (n : Int) (i0 := 0) ?_ ?_ (by omega) ⟨N, rfl, fun _ j v h => by omega, fun _ => rfl, fr_rfl⟩
    · rintro i z a0 a1 ⟨M, rfl, h1, h2, hf⟩
      obtain ⟨k, rfl⟩ := Int.eq_ofNat_of_zero_le a0
      have e64 : M 64 64 = (R.length : Int) := by rw [hf 64 64 (by omega)]; exact hR.1
      dsimp only
      unfold b_X12_keepGifts_2
      rw [if_pos a1, e64]
      by_cases c : (R.length : Int) = 0
      · have r0 : R = [] := List.length_eq_zero_iff.1 (by omega)
        rw [if_pos c, if_pos (by omega), if_pos (by omega), Int.toNat_natCast, w_id (x := (k : Int) + 1) (by omega) (by omega)]
        refine ok_ret ⟨_, rfl, fun _ j v hj q => ?_, fun z => absurd r0 z, fr_up hf rfl⟩
        rw [up_a]
        by_cases e : j = k
        · rw [if_pos e, hf 99 k (by omega)]
          rw [e] at q
          exact hP k v q
        · rw [if_neg e]; exact h1 r0 j v (by omega) q
      · rw [if_neg c]
        have r1 : R ≠ [] := fun z => by rw [z] at c; exact c rfl
        exact ok_ret ⟨fun z => absurd z r1, h2, hf⟩
    · rintro z ⟨M, rfl, h1, h2, hf⟩
      dsimp only
      unfold b_X12_keepGifts_2
      rw [if_neg (by omega)]
      exact ok_ret ⟨fun z i v q => h1 z i v (by have := get_lt q; omega) q, h2, hf⟩
  refine ok_bind L ?_
  rintro M ⟨h1, h2, hf⟩
  dsimp only
  have e64 : M 64 64 = (R.length : Int) := by rw [hf 64 64 (by omega)]; exact hR.1
  rw [e64, w_id (by omega) (by omega)]
  refine ok_ret ⟨⟨by rw [up_s, List.length_append]; show _ = ((R.length + 1 : Nat) : Int); omega, fun s hs i x q => ?_⟩, fr_up (fr_mono hf fun o k q => Or.inr q) (Or.inl ⟨rfl, rfl⟩)⟩
  rw [up_o (by omega)]
  cases R with
  | nil =>
    have : s = P := (Option.some.inj hs).symm
    subst this
    exact h1 rfl i x q
  | cons a t =>
    rw [h2 (by simp)]
    exact hR.2 s hs i x q
end FM
