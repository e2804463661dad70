/-! reading: the class's SUMS -/
section CP
variable {X : MX} {tp : Nat → Int} {n : Nat} {ord : Bool} {W : Int}
noncomputable abbrev kdT (tp : Nat → Int) (n : Nat) : Nat → Int := fun t => tkK tp n t
abbrev nmT (tp : Nat → Int) (n : Nat) : Nat → Int := fun t => tkN tp n t
/-- what is asked of the reading of brackets below -/
def HBr (X : MX) (tp : Nat → Int) (n : Nat) (ord : Bool) (W : Int) (fr : NN → Int → Int → Int → Option (Int × NN)) (dep : Int) (d : Nat) (br : Bool → Nat → Nat → PR) : Prop :=
  ∀ (sq : Bool) (N : NN) (t np z : Nat), KAc N tp n → CSt N tp n ord t np z → tkK tp n t = (if sq = true then 91 else 40) → z < t → Ok (fr N dep (if sq = true then 91 else 40) (if sq = true then 93 else 41)) (PCq W tp n ord N t z d (!sq) (br sq t np))
theorem pcq_0 {N : NN} {t z d : Nat} {bo : Bool} {f : Nat} {o : Int × NN} (h : PCq W tp n ord N t z d bo (.inl f) o) : o.1 = 0 ∧ o.2 16 6 = (tkS tp n f : Int) ∧ 0 ≤ o.2 21 3 ∧ o.2 21 3 ≤ 400 ∧ Fr frRd N o.2 := ⟨h.2.1, h.2.2.1, h.2.2.2.1, h.2.2.2.2, h.1⟩
theorem pcq_1 {N : NN} {t z d : Nat} {bo : Bool} {q : Nat × Nat × Den} {o : Int × NN} (h : PCq W tp n ord N t z d bo (.inr q) o) : o.1 = 1 ∧ Fr frRd N o.2 ∧ ∃ z', CSt o.2 tp n ord q.1 q.2.1 z' ∧ Seg W (o.2 22) (o.2 23) z z' d q.2.2 ∧ (∀ k, k < z → o.2 22 k = N 22 k ∧ o.2 23 k = N 23 k) ∧ t < q.1 ∧ z' + t ≤ z + q.1 ∧ (if bo = true then DBo q.2.2 else DBd q.2.2) ∧ (tkS tp n (q.1 - 1) < n) := ⟨h.2.1, h.1, h.2.2⟩
theorem pcq_i {N : NN} {t z d : Nat} {bo : Bool} {f : Nat} {M : NN} (h1 : M 16 6 = (tkS tp n f : Int)) (h2 : 0 ≤ M 21 3) (h3 : M 21 3 ≤ 400) (h4 : Fr frRd N M) : PCq W tp n ord N t z d bo (.inl f) (0, M) := ⟨h4, rfl, h1, h2, h3⟩
theorem pcq_j {N : NN} {t z d : Nat} {bo : Bool} {q : Nat × Nat × Den} {M : NN} {z' : Nat} (hf : Fr frRd N M) (h1 : CSt M tp n ord q.1 q.2.1 z') (h2 : Seg W (M 22) (M 23) z z' d q.2.2) (h3 : ∀ k, k < z → M 22 k = N 22 k ∧ M 23 k = N 23 k) (h4 : t < q.1) (h5 : z' + t ≤ z + q.1) (h6 : if bo = true then DBo q.2.2 else DBd q.2.2) (h7 : tkS tp n (q.1 - 1) < n) : PCq W tp n ord N t z d bo (.inr q) (1, M) := ⟨hf, rfl, z', h1, h2, h3, h4, h5, h6, h7⟩
/-- an act behind what was read -/
theorem c_addS {N : NN} {t np z : Nat} {a b : Int} (hn : n ≤ 400) (hX : XOK X) (h : CSt N tp n ord t np z) (hz : z < t) : ∃ M, f_X8_add X 21 N a b = some ((z : Int), M) ∧ CSt M tp n ord t np (z + 1) ∧ M 22 z = a ∧ M 23 z = b ∧ (∀ k, k ≠ z → M 22 k = N 22 k ∧ M 23 k = N 23 k) ∧ Fr frRd N M := by
  have l := kak_le hn h.2.2.2.2.2.1
  obtain ⟨h1, h2, h3, h4, h5, h6, h7, h8⟩ := h
  refine ⟨_, c_addN hX h5 (by omega) (by omega), ⟨?_, ?_, ?_, ?_, by rw [up_s]; omega, h6, by omega, h8.1, by rw [up_o (by omega), up_o (by omega), up_o (by omega)]; exact h8.2⟩, ?_, ?_, fun k hk => ⟨?_, ?_⟩, fr_up (fr_up (fr_up fr_rfl (by unfold frRd; omega)) (by unfold frRd; omega)) (by unfold frRd; omega)⟩
  · rw [up_o (by omega), up_o (by omega), up_o (by omega)]; exact h1
  · rw [up_o (by omega), up_o (by omega), up_o (by omega)]; exact h2
  · rw [up_o (by omega), up_o (by omega), up_o (by omega)]; exact h3
  · rw [up_o (by omega), up_o (by omega), up_o (by omega)]; exact h4
  · rw [Int.toNat_natCast, up_o (by omega), up_o (by omega), up_s]
  · rw [Int.toNat_natCast, up_o (by omega), up_s]
  · rw [Int.toNat_natCast, up_o (by omega), up_o (by omega), up_k hk]
  · rw [Int.toNat_natCast, up_o (by omega), up_k hk, up_o (by omega)]
theorem c_lawWord {N : NN} {t np z : Nat} (h : CSt N tp n false t np z) : f_X5_lawWord X N = some (lwW false (tkK tp n t)) := by
  unfold f_X5_lawWord f_X5_lawWord_j31 f_X5_lawWord_j63 f_X5_lawWord_j78 lwW
  rw [h.2.1, if_neg (show ¬ false = true by decide)]
  generalize tkK tp n t = k
  have J : (if k < 272 then (if k = 264 then some (5 : Int) else some (-1)) else if 274 < k then (if k = 264 then some 5 else some (-1)) else some (m_w (m_w (k - 272) + 6))) = some (if 272 ≤ k ∧ k ≤ 274 then k - 266 else if k = 264 then 5 else -1) := by
    by_cases a : k < 272
    · rw [if_pos a, if_neg (show ¬ (272 ≤ k ∧ k ≤ 274) by omega)]
      by_cases b : k = 264
      · rw [if_pos b, if_pos b]
      · rw [if_neg b, if_neg b]
    · rw [if_neg a]
      by_cases b : 274 < k
      · rw [if_pos b, if_neg (show ¬ k = 264 by omega), if_neg (show ¬ (272 ≤ k ∧ k ≤ 274) by omega), if_neg (show ¬ k = 264 by omega)]
      · rw [if_neg b, if_pos (show 272 ≤ k ∧ k ≤ 274 by omega), w_id (x := k - 272) (by omega) (by omega), w_id (by omega) (by omega)]
        congr 1
        omega
  by_cases a : k < 267
  · rw [if_pos a, J, if_neg (show ¬ (267 ≤ k ∧ k ≤ 271) by omega)]
  · rw [if_neg a]
    by_cases b : 271 < k
    · rw [if_pos b, J, if_neg (show ¬ (267 ≤ k ∧ k ≤ 271) by omega)]
    · rw [if_neg b, if_pos (show 267 ≤ k ∧ k ≤ 271 by omega), w_id (x := k - 267) (by omega) (by omega), w_id (by omega) (by omega)]
      congr 1
      omega
theorem c_orderWord {N : NN} {t np z : Nat} (h : CSt N tp n true t np z) : f_X5_orderWord X N = some (lwW true (tkK tp n t)) := by
  unfold f_X5_orderWord f_X5_orderWord_j31 lwW
  rw [h.2.1, if_pos rfl]
  generalize tkK tp n t = k
  by_cases a : 275 ≤ k ∧ k ≤ 277
  · rw [if_neg (by omega), if_neg (by omega), if_pos a, w_id (x := k - 275) (by omega) (by omega), w_id (by omega) (by omega)]
    congr 1
    omega
  rw [if_neg a]
  have J : (if k = 272 then some (0 : Int) else if k = 273 then some (-1) else if k = 274 then some (-1) else if k = 275 then some (-1) else if k = 276 then some (-1) else if k = 277 then some (-1) else if k = 278 then some 4 else if k = 279 then some 10 else if k = 280 then some 26 else some (-1)) = some (if k = 272 then 0 else if k = 278 then 4 else if k = 279 then 10 else if k = 280 then 26 else -1) := by
    by_cases e1 : k = 272
    · rw [if_pos e1, if_pos e1]
    rw [if_neg e1, if_neg e1]
    by_cases e2 : k = 273
    · rw [if_pos e2, if_neg (by omega), if_neg (by omega), if_neg (by omega)]
    rw [if_neg e2]
    by_cases e3 : k = 274
    · rw [if_pos e3, if_neg (by omega), if_neg (by omega), if_neg (by omega)]
    rw [if_neg e3, if_neg (show ¬ k = 275 by omega), if_neg (show ¬ k = 276 by omega), if_neg (show ¬ k = 277 by omega)]
    by_cases e4 : k = 278
    · rw [if_pos e4, if_pos e4]
    rw [if_neg e4, if_neg e4]
    by_cases e5 : k = 279
    · rw [if_pos e5, if_pos e5]
    rw [if_neg e5, if_neg e5]
    by_cases e6 : k = 280
    · rw [if_pos e6, if_pos e6]
    · rw [if_neg e6, if_neg e6]
  by_cases b : k < 275
  · rw [if_pos b, J]
  · rw [if_neg b, if_pos (show 277 < k by omega), J]
theorem c_part {fr : NN → Int → Int → Int → Option (Int × NN)} {dep : Int} {d : Nat} {br : Bool → Nat → Nat → PR} {N : NN} {t np z : Nat} (hn : n ≤ 400) (hb : ∀ j, j < n → 0 ≤ tp j ∧ tp j ≤ 255) (hX : XOK X) (hW : W = (if ord = true then 32 else 9)) (hd : 1 ≤ d) (hbr : HBr X tp n ord W fr dep d br) (hA : KAc N tp n) (h : CSt N tp n ord t np z) (hzt : z < t) :
    Ok (f_X5_part fr X N dep) (PCq W tp n ord N t z d false (pPart (kdT tp n) (nmT tp n) ord br t np)) := by
  have h' := h
  obtain ⟨h1, h2, h3, h4, h5, h6, h7, h8⟩ := h'
  have l := kak_le hn h6
  unfold f_X5_part pPart
  rw [h2]
  by_cases c : tkK tp n t = 91
  · rw [if_pos c, if_pos (show kdT tp n t = 91 from c)]
    refine ok_bind (hbr true N t np z hA h (by rw [if_pos rfl]; exact c) hzt) ?_
    rintro ⟨v, M⟩ hq
    cases hr : br true t np with
    | inl f =>
      rw [hr] at hq
      have := (pcq_0 hq).1
      dsimp only at this ⊢
      subst this
      rw [if_pos (by omega)]
      exact ok_ret hq
    | inr q =>
      rw [hr] at hq
      have := (pcq_1 hq).1
      dsimp only at this ⊢
      subst this
      rw [if_pos (by omega)]
      exact ok_ret hq
  rw [if_neg c, if_neg (show ¬ kdT tp n t = 91 from c), h1]
  have at1 := (hA t h6)
  -- is it a number
  obtain ⟨isN, hisN⟩ : ∃ isN : Prop, isN = (tkK tp n t = -2 ∧ tkN tp n t ≤ 1000) := ⟨_, rfl⟩
  have wrong : Ok (f_X5_part_j86 fr X N) (PCq W tp n ord N t z d false (.inl t)) := by
    unfold f_X5_part_j86
    rw [c_wrong hn hA h, Option.bind_some, if_pos (by omega)]
    exact ok_ret (c_wrongP hn h fr_rfl)
  have body : ∀ b : Int, (b = 1 ∧ isN) ∨ (b = 0 ∧ ¬ isN) → Ok (f_X5_part_j67 fr X N b (lwW ord (tkK tp n t))) (PCq W tp n ord N t z d false (pLeaf (kdT tp n) (nmT tp n) ord t np)) := by
    intro b hbb
    unfold f_X5_part_j67 pLeaf
    rw [h3]
    by_cases p50 : np < 50
    case neg =>
      rw [if_neg (show ¬ (np : Int) < 50 by omega), if_neg (show ¬ (np < 50 ∧ ((kdT tp n t = -2 ∧ nmT tp n t ≤ 1000) ∨ lwW ord (kdT tp n t) ≠ -1)) from fun z => p50 z.1)]
      exact wrong
    rw [if_pos (show (np : Int) < 50 by omega)]
    by_cases ok : isN ∨ lwW ord (tkK tp n t) ≠ -1
    case neg =>
      rw [if_neg (show ¬ (np < 50 ∧ ((kdT tp n t = -2 ∧ nmT tp n t ≤ 1000) ∨ lwW ord (kdT tp n t) ≠ -1)) from fun z => ok (by rw [hisN]; exact z.2))]
      have b0 : b = 0 := by
        rcases hbb with z | z
        · exact absurd (Or.inl z.2) ok
        · exact z.1
      have w1 : lwW ord (tkK tp n t) = -1 := Classical.byContradiction fun z => ok (Or.inr z)
      rw [b0, i00, w1, if_pos rfl]
      exact wrong
    rw [if_pos (show (np < 50 ∧ ((kdT tp n t = -2 ∧ nmT tp n t ≤ 1000) ∨ lwW ord (kdT tp n t) ≠ -1)) from ⟨p50, by rw [hisN] at ok; exact ok⟩)]
    -- a PART: counted, then gone past
    have kne : tkK tp n t ≠ -1 := by
      rcases ok with z | z
      · rw [hisN] at z; omega
      · have := (lw_b z).2.2.1; omega
    obtain ⟨N15, h15⟩ : ∃ N15, N15 = m_up N 16 8 ((np : Int) + 1) := ⟨_, rfl⟩
    have f15 : Fr frRd N N15 := by rw [h15]; exact fr_up fr_rfl (by unfold frRd; omega)
    have A15 := kac_fr hA f15
    have C15 : CSt N15 tp n ord t (np + 1) z := ⟨by rw [h15, up_k (by omega)]; exact h1, by rw [h15, up_k (by omega)]; exact h2, by rw [h15, up_s]; omega, by rw [h15, up_k (by omega)]; exact h4, by rw [h15, up_o (by omega)]; exact h5, h6, h7, by omega, by rw [h15, up_k (by omega)]; exact h8.2⟩
    obtain ⟨ad, C16⟩ := c_advance hn hb A15 C15 kne
    obtain ⟨N16, h16⟩ : ∃ N16, N16 = m_up (m_up N15 16 9 ((t : Int) + 1)) 16 10 (tkK tp n (t + 1)) := ⟨_, rfl⟩
    rw [← h16] at ad C16
    have f16 : Fr frRd N N16 := fr_tr f15 (by rw [h16]; exact fr_adv)
    have same : ∀ k, N16 22 k = N 22 k ∧ N16 23 k = N 23 k := fun k => by
      rw [h16, up_o (by omega), up_o (by omega), up_o (by omega), up_o (by omega), h15, up_o (by omega), up_o (by omega)]; exact ⟨rfl, rfl⟩
    have lt : tkS tp n t < n := Classical.byContradiction fun q => kne ((tk_end hb t).2 q)
    -- the end: one act
    have push : ∀ (M : NN) (t' np' : Nat) (act arg : Int) (D : Den), CSt M tp n ord t' np' z → Fr frRd N M → (∀ k, M 22 k = N 22 k ∧ M 23 k = N 23 k) → t < t' → tkS tp n (t' - 1) < n → DBd D → (∀ A R : Nat → Int, A z = act → R z = arg → Seg W A R z (z + 1) 1 D) → Ok (f_X5_part_j224 fr X M arg 21 act) (PCq W tp n ord N t z d false (.inr (t', np', D))) := by
      intro M t' np' act arg D hC hf hs htt hlast hD hseg
      obtain ⟨M2, e2, C2, a22, a23, ao, fo⟩ := c_addS (a := act) (b := arg) hn hX hC (by omega)
      unfold f_X5_part_j224
      rw [if_pos hX.2.2.2.2.1, e2, Option.bind_some]
      exact ok_ret (pcq_j (fr_tr hf fo) C2 (seg_d (hseg _ _ a22 a23) hd) (fun k hk => by have q := ao k (by omega); exact ⟨q.1.trans (hs k).1, q.2.trans (hs k).2⟩) htt (by dsimp only; omega) (by dsimp only; rw [if_neg (by decide)]; exact hD) hlast)
    unfold f_X5_part_j91
    rw [h3, w_id (x := (np : Int) + 1) (by omega) (by omega)]
    dsimp only
    rw [← h15]
    have eN15 : N15 16 10 = tkK tp n t := C15.2.1
    have e19 : tkK tp n t = -2 → N15 19 t = tkN tp n t := fun q => (A15 t h6).2.2 q
    rcases hbb with ⟨b1, hN⟩ | ⟨b0, hN⟩
    · have hN' := hN
      rw [hisN] at hN'
      have nb := tkN_b hN'.1 hb
      rw [b1, i10, i10, C15.1, gdp (show 0 ≤ (t : Int) ∧ (t : Int) < 401 by omega), Int.toNat_natCast, e19 hN'.1, eN15, if_pos (show kdT tp n t = -2 from hN'.1)]
      unfold f_X5_part_j124
      rw [ad, Option.bind_some]
      have E : Ok (f_X5_part_j211 fr X N16 1 (tkN tp n t)) (PCq W tp n ord N t z d false (.inr (t + 1, np + 1, dNum (tkN tp n t)))) := by
        unfold f_X5_part_j211
        rw [if_neg (by omega)]
        exact push N16 (t + 1) (np + 1) 0 (tkN tp n t) _ C16 f16 same (by omega) lt (dbd_num (by omega)) (fun A R ha hr => seg_num ha hr (by omega))
      by_cases o7 : N16 16 7 = 0
      · rw [if_pos o7, i10]; exact E
      · rw [if_neg o7]; exact E
    · have kn2 : ¬ tkK tp n t = -2 ∨ lwW ord (tkK tp n t) ≠ -1 := by
        rcases ok with z | z
        · exact absurd z hN
        · exact Or.inr z
      have hw : lwW ord (tkK tp n t) ≠ -1 := by
        rcases ok with z | z
        · exact absurd z hN
        · exact z
      have wb := lw_b hw
      rw [b0, i00, if_neg hw, i00, eN15, if_neg (show ¬ kdT tp n t = -2 by show ¬ tkK tp n t = -2; omega)]
      unfold f_X5_part_j124
      rw [ad, Option.bind_some, C16.2.2.2.1]
      have E : (ord = true → tkK tp n t < 278) → Ok (f_X5_part_j211 fr X N16 0 (lwW ord (tkK tp n t))) (PCq W tp n ord N t z d false (.inr (t + 1, np + 1, dWord (lwW ord (tkK tp n t))))) := by
        intro hlow
        unfold f_X5_part_j211
        rw [if_pos rfl]
        refine push N16 (t + 1) (np + 1) 1 (lwW ord (tkK tp n t)) _ C16 f16 same (by omega) lt (dbd_word _) (fun A R ha hr => seg_word ha hr wb.1.1 ?_)
        rw [hW]
        cases ord with
        | true => rw [if_pos rfl]; omega
        | false => rw [if_neg (by decide)]; have := wb.2.1 rfl; omega
      cases ord with
      | false =>
        rw [if_neg (show ¬ false = true by decide), if_neg (show ¬ (1 : Int) = 0 by omega), if_neg (fun z => by cases z.1)]
        exact E (fun z => by cases z)
      | true =>
        rw [if_pos rfl, i00, i00]
        by_cases hi : tkK tp n t < 278
        · rw [if_pos hi, if_neg (fun z => by have := z.2; change 278 ≤ tkK tp n t at this; omega)]
          exact E (fun _ => hi)
        rw [if_neg hi, if_pos (show true = true ∧ 278 ≤ kdT tp n t from ⟨rfl, by show 278 ≤ tkK tp n t; omega⟩)]
        have A16 := kac_fr hA f16
        have J : ∀ mx : Int, mx = (if tkK tp n t = 279 then 15 else 5) → Ok (f_X5_part_j163 fr X N16 0 (lwW true (tkK tp n t)) mx) (PCq W tp n true N t z d false (if kdT tp n (t + 1) = -2 ∧ nmT tp n (t + 1) ≤ (if kdT tp n t = 279 then 15 else 5) then .inr (t + 2, np + 1, dWord (lwW true (kdT tp n t) + nmT tp n (t + 1))) else .inl (t + 1))) := by
          intro mx hmx
          have wrong2 : Ok (f_X5_part_j188 fr X N16) (PCq W tp n true N t z d false (.inl (t + 1))) := by
            unfold f_X5_part_j188
            rw [c_wrong hn A16 C16, Option.bind_some, if_pos (by omega)]
            exact ok_ret (c_wrongP hn C16 f16)
          unfold f_X5_part_j163
          rw [C16.2.1]
          by_cases kk : tkK tp n (t + 1) = -2
          case neg =>
            rw [if_neg kk, if_neg (fun z => kk z.1)]
            exact wrong2
          have nb := tkN_b kk hb
          have l1 := kak_le hn C16.2.2.2.2.2.1
          rw [if_pos kk, C16.1, if_pos (by omega), Int.toNat_natCast, (A16 (t + 1) C16.2.2.2.2.2.1).2.2 kk]
          by_cases big : mx < tkN tp n (t + 1)
          · rw [if_pos big, if_neg (fun z => by have := z.2; change tkN tp n (t + 1) ≤ (if tkK tp n t = 279 then 15 else 5) at this; rw [← hmx] at this; omega)]
            exact wrong2
          rw [if_neg big, if_pos (by omega), if_pos (show kdT tp n (t + 1) = -2 ∧ nmT tp n (t + 1) ≤ (if kdT tp n t = 279 then 15 else 5) from ⟨kk, by show tkN tp n (t + 1) ≤ (if tkK tp n t = 279 then 15 else 5); rw [← hmx]; omega⟩)]
          obtain ⟨ad2, C17⟩ := c_advance hn hb A16 C16 (by omega)
          rw [ad2, Option.bind_some, w_id (by omega) (by omega)]
          unfold f_X5_part_j211
          rw [if_pos rfl]
          have mb : mx ≤ 15 := by rw [hmx]; split <;> omega
          have wv : lwW true (tkK tp n t) = (if tkK tp n t = 278 then 4 else if tkK tp n t = 279 then 10 else 26) := by
            have q := wb.2.2.1
            unfold lwW
            rw [if_pos rfl, if_neg (by omega), if_neg (by omega)]
            by_cases e1 : tkK tp n t = 278
            · rw [if_pos e1, if_pos e1]
            · rw [if_neg e1, if_neg e1]
              by_cases e2 : tkK tp n t = 279
              · rw [if_pos e2, if_pos e2]
              · rw [if_neg e2, if_neg e2, if_pos (by omega)]
          refine push _ (t + 2) (np + 1) 1 (lwW true (tkK tp n t) + tkN tp n (t + 1)) _ C17 (fr_tr f16 fr_adv) (fun k => by rw [up_o (by omega), up_o (by omega), up_o (by omega), up_o (by omega)]; exact same k) (by omega) ?_ (dbd_word _) (fun A R ha hr => seg_word ha hr (show 0 ≤ lwW true (tkK tp n t) + tkN tp n (t + 1) by omega) ?_)
          · exact Classical.byContradiction fun q => by have := (tk_end hb (t + 1)).2 q; omega
          · show lwW true (tkK tp n t) + tkN tp n (t + 1) < W
            rw [hW, if_pos rfl, wv]
            split
            · rename_i e1; rw [hmx, if_neg (by omega)] at big; omega
            · split
              · omega
              · rename_i e1 e2; rw [hmx, if_neg e2] at big; omega
        by_cases e9 : tkK tp n t = 279
        · rw [if_pos e9]; exact J 15 (by rw [if_pos e9])
        · rw [if_neg e9]; exact J 5 (by rw [if_neg e9])
  have bodyW : ∀ b : Int, (b = 1 ∧ isN) ∨ (b = 0 ∧ ¬ isN) → Ok (f_X5_part_j48 fr X N b) (PCq W tp n ord N t z d false (pLeaf (kdT tp n) (nmT tp n) ord t np)) := by
    intro b hbb
    unfold f_X5_part_j48
    rw [h4]
    cases ord with
    | true =>
      rw [if_pos rfl, i00, c_orderWord h, Option.bind_some]
      exact body b hbb
    | false =>
      rw [if_neg (show ¬ false = true by decide), i10, c_lawWord h, Option.bind_some]
      exact body b hbb
  by_cases k2 : tkK tp n t = -2
  · rw [if_pos k2, if_pos (by omega), Int.toNat_natCast, at1.2.2 k2]
    by_cases big : 1000 < tkN tp n t
    · rw [if_pos big]
      exact bodyW 0 (Or.inr ⟨rfl, by rw [hisN]; omega⟩)
    · rw [if_neg big]
      exact bodyW 1 (Or.inl ⟨rfl, by rw [hisN]; omega⟩)
  · rw [if_neg k2]
    exact bodyW 0 (Or.inr ⟨rfl, by rw [hisN]; omega⟩)
end CP
