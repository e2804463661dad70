section RF
variable {X : MX} {N : NN} {tp : Nat → Int} {n : Nat} {ord : Bool} {W : Int}
theorem pw_76 {t z p k : Nat} {v : Int} (h : PW N t z p) : PW (m_up N 76 k v) t z p := by
  obtain ⟨h1, h2, h3, h4, h5, h6⟩ := h
  refine ⟨by rw [up_o (by omega)]; exact h1, by rw [up_o (by omega)]; exact h2, by rw [up_of (by omega)]; exact h3, h4, fun k hk => ?_, fun k hk => ?_⟩
  · rw [up_o (by omega), up_o (by omega)]; exact h5 k hk
  · rw [up_o (by omega)]; exact h6 k hk
theorem fst_76 {f k : Nat} {v : Int} (h : FSt N tp n f) : FSt (m_up N 76 k v) tp n f := by
  obtain ⟨h1, h2, t, z, p, ht, w⟩ := h
  exact ⟨by rw [up_o (by omega)]; exact h1, by rw [up_o (by omega)]; exact h2, t, z, p, ht, pw_76 w⟩
theorem rk_26 {t np o : Nat} (h : RK N tp n ord t np o) (hp : np < 50) : RK (m_up N 64 26 ((np : Int) + 1)) tp n ord t (np + 1) o := by
  obtain ⟨h1, h2, h3, h4, h5, h6, h7, h8, h9, h10⟩ := h
  refine ⟨?_, ⟨by rw [up_k (by omega)]; exact h2.1, fun j hj => by rw [up_o (by omega)]; exact h2.2 j hj⟩, by rw [up_k (by omega)]; exact h3, by rw [up_k (by omega)]; exact h4, by rw [up_s]; omega, by rw [up_k (by omega)]; exact h6, h7, by omega, wtb_fr h9 (fr_up fr_rfl (by unfold frRv; omega)), h10⟩
  unfold TKm LXm at h1 ⊢
  rw [up_k (by omega), up_k (by omega), up_k (by omega), up_k (by omega)]
  exact h1
theorem rk_30 {t np o o' : Nat} (h : RK N tp n ord t np o) (ho : o' ≤ 8) : RK (m_up N 64 30 (o' : Int)) tp n ord t np o' := by
  obtain ⟨h1, h2, h3, h4, h5, h6, h7, h8, h9, h10⟩ := h
  refine ⟨?_, ⟨by rw [up_k (by omega)]; exact h2.1, fun j hj => by rw [up_o (by omega)]; exact h2.2 j hj⟩, by rw [up_k (by omega)]; exact h3, by rw [up_k (by omega)]; exact h4, by rw [up_k (by omega)]; exact h5, by rw [up_s], h7, h8, wtb_fr h9 (fr_up fr_rfl (by unfold frRv; omega)), ho⟩
  unfold TKm LXm at h1 ⊢
  rw [up_k (by omega), up_k (by omega), up_k (by omega), up_k (by omega)]
  exact h1
/-- a leaf taken: the state behind it -/
theorem r_leaf1 {t np o z p : Nat} {a b : Int} (hn : n ≤ 400) (hb : ∀ j, j < n → 0 ≤ tp j ∧ tp j ≤ 255) (h : RK N tp n ord t np o) (w : PW N t z p) (hk : tkK tp n t ≠ -1) (hp : np < 50) (ha : 0 ≤ a ∧ a ≤ 30) : Ok (f_X12_leaf X N 1 a b) (fun M => RK M tp n ord (t + 1) (np + 1) o ∧ PW M (t + 1) (z + 1) p ∧ M 75 z = a ∧ M 76 z = b ∧ Fr frRx N M ∧ (∀ k, k ≠ z → M 75 k = N 75 k ∧ M 76 k = N 76 k) ∧ ∀ k, M 77 k = N 77 k ∧ M 78 k = N 78 k) := by
  unfold f_X12_leaf f_X12_leaf_j19
  rw [if_neg (show ¬ (1 : Int) = 0 by omega), if_pos (show N 64 26 < 50 by rw [h.2.2.2.2.1]; omega)]
  refine ok_bind (r_must1 hn hb h hk (show (1 : Int) ≠ 0 by omega)) ?_
  rintro M ⟨r1, r2⟩
  have w1 := pw_ag w (ag_nx r2)
  have t4 := kak_le hn h.2.2.2.2.2.2.1
  have lt : tkS tp n t < n := Classical.byContradiction fun c => hk ((tk_end hb t).2 c)
  have t5 := kak_le (t := t + 1) hn (Or.inr (by rw [Nat.add_sub_cancel]; exact lt))
  have z4 : z < 400 := by have := w.2.2.1; omega
  rw [if_pos r1.2.2.1, emit_eq w1.1 z4, Option.bind_some]
  dsimp only
  have fe := em_f (N := M) (z := z) (a := a) (b := b)
  have ve := em_v (N := M) (z := z) (a := a) (b := b)
  have re : RK (emN M z a b) tp n ord (t + 1) np o := rk_pi r1 (fr_mono fe fun o k q => by unfold frPi; omega)
  rw [re.2.2.2.2.1, w_id (x := (np : Int) + 1) (by omega) (by omega)]
  have we := pw_em (b := b) w1 ha
  have f6 : Fr (fun o k => o = 64 ∧ k = 26) (emN M z a b) (m_up (emN M z a b) 64 26 ((np : Int) + 1)) := fr_up fr_rfl (by omega)
  refine ok_ret ⟨rk_26 re hp, pw_ag we (ag_fr f6 fun o k q => by omega), by rw [up_o (by omega)]; exact ve.1, by rw [up_o (by omega)]; exact ve.2.1, fr_tr (fr_nx r2) (fr_tr (fr_mono fe fun o k q => by unfold frRx; omega) (fr_mono f6 fun o k q => by unfold frRx; omega)), fun k hk => ⟨?_, ?_⟩, fun k => ⟨?_, ?_⟩⟩
  · rw [up_o (by omega), fe 75 k (by omega), r2 75 k (by unfold frNx; omega)]
  · rw [up_o (by omega), fe 76 k (by omega), r2 76 k (by unfold frNx; omega)]
  · rw [up_o (by omega), fe 77 k (by omega), r2 77 k (by unfold frNx; omega)]
  · rw [up_o (by omega), fe 78 k (by omega), r2 78 k (by unfold frNx; omega)]
theorem r_leaf0 {t np o z p : Nat} {v a b : Int} (hn : n ≤ 400) (h : RK N tp n ord t np o) (w : PW N t z p) (hv : v = 0 ∨ ¬ np < 50) : ∃ M, f_X12_leaf X N v a b = some M ∧ FSt M tp n t ∧ Fr frRx N M ∧ M 64 20 = N 64 20 := by
  refine ⟨m_up (m_up N 64 19 1) 64 18 (tkS tp n t : Int), ?_, (r_faultS hn h w).1, (r_faultS hn h w).2, by rw [up_k (by omega), up_k (by omega)]⟩
  have e19 : ¬ m_up (m_up N 64 19 1) 64 18 (tkS tp n t : Int) 64 19 = 0 := by rw [up_k (by omega), up_s]; omega
  unfold f_X12_leaf f_X12_leaf_j18 f_X12_leaf_j19
  by_cases c : v = 0
  · rw [if_pos c, r_must0 h, Option.bind_some, if_neg e19]
  · rw [if_neg c, if_neg (show ¬ N 64 26 < 50 by rw [h.2.2.2.2.1]; rcases hv with q | q; exact absurd q c; omega), r_must0 h, Option.bind_some, if_neg e19]
theorem r_part {t np o z p d : Nat} (hn : n ≤ 400) (hb : ∀ j, j < n → 0 ≤ tp j ∧ tp j ≤ 255) (hW : W = (if ord = true then 32 else 9)) (hd : 1 ≤ d) (h : RK N tp n ord t np o) (w : PW N t z p) (hk : tkK tp n t ≠ 91) : Ok (f_X12_readPart X N) (fun q => q.1 = 3 ∧ RR X W tp n ord N t z p o d 7 3 false (pLeaf (kdT tp n) (nmT tp n) ord t np) q.2 3) := by
  have t4 := kak_le hn h.2.2.2.2.2.2.1
  have ixb := ix_b (ord := ord) (k := tkK tp n t)
  obtain ⟨n1, n2, n3, n4⟩ := ref_num hb h.1
  have hA : f_X12_readPart X N = f_X12_readPart_j35 X N (if ixW ord (tkK tp n t) = -1 then -1 else ixW ord (tkK tp n t) + 1) := by
    unfold f_X12_readPart
    rw [ref_isSign (c := 91) (by omega) (by decide) (by decide) hb h.1, Option.bind_some, if_neg hk, i00, h.2.2.2.1]
    cases ord with
    | true => rw [if_neg (show ¬ (if true = true then (1 : Int) else 0) = 0 by decide), ref_orderPartAt hb h.2.2.2.2.2.2.2.2.1 h.1, Option.bind_some]
    | false => rw [if_pos (show (if false = true then (1 : Int) else 0) = 0 by decide), ref_partAt hb h.2.2.2.2.2.2.2.2.1 h.1, Option.bind_some]
  have hB : f_X12_readPart_j35 X N (if ixW ord (tkK tp n t) = -1 then -1 else ixW ord (tkK tp n t) + 1) = f_X12_readPart_j99 X N (if ixW ord (tkK tp n t) = -1 then -1 else ixW ord (tkK tp n t) + 1) (if (tkK tp n t = -2 ∧ tkN tp n t ≤ 1000) ∨ ixW ord (tkK tp n t) ≠ -1 then 1 else 0) (if ixW ord (tkK tp n t) = -1 then 0 else ixW ord (tkK tp n t) + 1) (if tkK tp n t = -2 ∧ tkN tp n t ≤ 1000 then tkN tp n t else 0) := by
    unfold f_X12_readPart_j35 f_X12_readPart_j59 f_X12_readPart_j60 f_X12_readPart_j71 f_X12_readPart_j76 f_X12_readPart_j86
    by_cases c : tkK tp n t = -2
    · have ix0 : ixW ord (tkK tp n t) = -1 := Classical.byContradiction fun y => by have := ixb.2.2.2.1 y; omega
      have hm := n2 c
      rw [if_pos (n1.2 c), ix0, if_pos rfl, if_pos rfl, if_pos rfl, if_pos rfl, if_pos rfl, if_pos rfl]
      by_cases g : tkN tp n t ≤ 1000
      · rw [if_neg (show ¬ 0 < m_lcmp (N 64 17) 1000 from fun y => by have := lcmp_gt.1 y; omega), if_neg (show ¬ (1 : Int) = 0 by omega), if_neg (show ¬ (1 : Int) = 0 by omega), if_pos (show (tkK tp n t = -2 ∧ tkN tp n t ≤ 1000) ∨ (-1 : Int) ≠ -1 from Or.inl ⟨c, g⟩), if_pos (show tkK tp n t = -2 ∧ tkN tp n t ≤ 1000 from ⟨c, g⟩), w_id (by omega) (by omega), show N 64 17 = tkN tp n t by omega, if_pos rfl, if_pos rfl]
      · rw [if_pos (show 0 < m_lcmp (N 64 17) 1000 from lcmp_gt.2 (by omega)), if_pos rfl, if_neg (show ¬ ((tkK tp n t = -2 ∧ tkN tp n t ≤ 1000) ∨ (-1 : Int) ≠ -1) by omega), if_neg (show ¬ (tkK tp n t = -2 ∧ tkN tp n t ≤ 1000) by omega)]
    · rw [if_neg (fun y => c (n1.1 y)), if_neg (show ¬ (tkK tp n t = -2 ∧ tkN tp n t ≤ 1000) from fun y => c y.1)]
      by_cases g : ixW ord (tkK tp n t) = -1
      · rw [g, if_pos rfl, if_pos rfl, if_pos rfl, if_pos rfl, if_pos rfl, if_pos rfl, if_neg (show ¬ ((tkK tp n t = -2 ∧ tkN tp n t ≤ 1000) ∨ (-1 : Int) ≠ -1) by omega)]
      · rw [if_neg g, if_neg g, if_neg (show ¬ ixW ord (tkK tp n t) + 1 = -1 by omega), if_neg (show ¬ ixW ord (tkK tp n t) + 1 = -1 by omega), if_pos rfl, if_pos (show (tkK tp n t = -2 ∧ tkN tp n t ≤ 1000) ∨ ixW ord (tkK tp n t) ≠ -1 from Or.inr g)]
  rw [hA, hB]
  unfold f_X12_readPart_j99 f_X12_readPart_j154
  have flt : ∀ (v a b : Int), (v = 0 ∨ ¬ np < 50) → Ok (Option.bind (f_X12_leaf X N v a b) (fun o13 => if (o13 64 20) = 0 then some (3, o13) else if (if ixW ord (tkK tp n t) = -1 then -1 else ixW ord (tkK tp n t) + 1) < 5 then some (3, o13) else if (o13 64 19) = 0 then (if (if ixW ord (tkK tp n t) = -1 then -1 else ixW ord (tkK tp n t) + 1) = 6 then f_X12_readPart_j150 X o13 (m_w ((o13 64 23) - 1)) 0 15 else f_X12_readPart_j150 X o13 (m_w ((o13 64 23) - 1)) 0 5) else some (3, o13))) (fun q => q.1 = 3 ∧ RR X W tp n ord N t z p o d 7 3 false (.inl t) q.2 3) := by
    intro v a b hv
    obtain ⟨M, e1, e2, e3, e4⟩ := r_leaf0 (X := X) (a := a) (b := b) hn h w hv
    rw [e1, Option.bind_some]
    have e19 : ¬ M 64 19 = 0 := by rw [e2.1]; omega
    by_cases c : M 64 20 = 0
    · rw [if_pos c]; exact ok_ret ⟨rfl, rr_i e3 e2⟩
    · rw [if_neg c]
      by_cases g : (if ixW ord (tkK tp n t) = -1 then -1 else ixW ord (tkK tp n t) + 1) < 5
      · rw [if_pos g]; exact ok_ret ⟨rfl, rr_i e3 e2⟩
      · rw [if_neg g, if_neg e19]; exact ok_ret ⟨rfl, rr_i e3 e2⟩
  have lwix := ixb.2.2.2.2.1
  by_cases ok : np < 50 ∧ ((tkK tp n t = -2 ∧ tkN tp n t ≤ 1000) ∨ lwW ord (tkK tp n t) ≠ -1)
  case neg =>
    have es : pLeaf (kdT tp n) (nmT tp n) ord t np = .inl t := by unfold pLeaf; rw [if_neg ok]
    rw [es]
    refine flt _ _ _ ?_
    by_cases c : (tkK tp n t = -2 ∧ tkN tp n t ≤ 1000) ∨ ixW ord (tkK tp n t) ≠ -1
    · exact Or.inr fun y => ok ⟨y, by rcases c with c | c; exact Or.inl c; exact Or.inr fun g => c (lwix.2 g)⟩
    · exact Or.inl (if_neg c)
  have okx : (tkK tp n t = -2 ∧ tkN tp n t ≤ 1000) ∨ ixW ord (tkK tp n t) ≠ -1 := by
    rcases ok.2 with c | c
    · exact Or.inl c
    · exact Or.inr fun g => c (lwix.1 g)
  have kne : tkK tp n t ≠ -1 := by
    rcases okx with c | c
    · omega
    · have := ixb.2.2.2.1 c; omega
  rw [if_pos okx]
  refine ok_bind (r_leaf1 hn hb h w kne ok.1 (show 0 ≤ (if ixW ord (tkK tp n t) = -1 then 0 else ixW ord (tkK tp n t) + 1) ∧ (if ixW ord (tkK tp n t) = -1 then 0 else ixW ord (tkK tp n t) + 1) ≤ 30 by split <;> omega)) ?_
  rintro M ⟨r1, r2, r3, r4, r5, r6, r7⟩
  have es : pLeaf (kdT tp n) (nmT tp n) ord t np = (if tkK tp n t = -2 then .inr (t + 1, np + 1, dNum (tkN tp n t)) else if ord = true ∧ 278 ≤ tkK tp n t then (if tkK tp n (t + 1) = -2 ∧ tkN tp n (t + 1) ≤ (if tkK tp n t = 279 then 15 else 5) then .inr (t + 2, np + 1, dWord (lwW ord (tkK tp n t) + tkN tp n (t + 1))) else .inl (t + 1)) else .inr (t + 1, np + 1, dWord (lwW ord (tkK tp n t)))) := by unfold pLeaf; rw [if_pos ok]
  rw [es]
  have t5 := kak_le hn r1.2.2.2.2.2.2.1
  have b1 : M 64 20 = 0 ∨ (ord = true ∧ M 64 20 = 1) := by
    rw [r1.2.2.2.1]
    cases ord with
    | true => exact Or.inr ⟨rfl, rfl⟩
    | false => exact Or.inl rfl
  have fin : ∀ D : Den, SgR W ord M z (z + 1) 1 D → DBd D → RR X W tp n ord N t z p o d 7 3 false (.inr (t + 1, np + 1, D)) M 3 := fun D s1 s2 => rr_j r5 r1 r2 (pend_base t5 r2 (seg_d s1 hd)) (Nat.le_refl _) (by omega) (fun k hk => r6 k (by omega)) (fun k _ => r7 k) (fun k a b => by omega) (by dsimp only; omega) (by rw [if_neg (show ¬ (false = true) by decide)]; exact s2)
  by_cases c : tkK tp n t = -2
  · have ix0 : ixW ord (tkK tp n t) = -1 := Classical.byContradiction fun y => by have := ixb.2.2.2.1 y; omega
    have g : tkN tp n t ≤ 1000 := by
      rcases okx with y | y
      · exact y.2
      · exact absurd ix0 y
    have hm := n2 c
    rw [if_pos c]
    rw [if_pos ix0] at r3
    rw [if_pos ⟨c, g⟩] at r4
    have R := fin (dNum (tkN tp n t)) (seg_num (by rw [r3]; rfl) (by rw [r3, r4]; rfl) (by omega)) (dbd_num (by omega))
    rw [ix0, if_pos rfl]
    by_cases e : M 64 20 = 0
    · rw [if_pos e]; exact ok_ret ⟨rfl, R⟩
    · rw [if_neg e, if_pos (by omega)]; exact ok_ret ⟨rfl, R⟩
  have ixn : ixW ord (tkK tp n t) ≠ -1 := by
    rcases okx with y | y
    · exact absurd y.1 c
    · exact y
  have lwn : lwW ord (tkK tp n t) ≠ -1 := fun y => ixn (lwix.2 y)
  have lb := lw_b lwn
  rw [if_neg c]
  rw [if_neg ixn] at r3
  rw [if_neg (fun y => c y.1)] at r4
  rw [if_neg ixn]
  have nx := fun q hq => nr_ix (ord := ord) (k := tkK tp n t) (p := q) ixn hq
  have naw : nA (ixW ord (tkK tp n t) + 1) = 1 := by unfold nA; rw [if_neg (by omega), if_pos (by omega)]
  by_cases g : ord = true ∧ 278 ≤ tkK tp n t
  case neg =>
    rw [if_neg g]
    have R := fin (dWord (lwW ord (tkK tp n t))) (seg_word (by rw [r3]; exact naw) (by rw [r3, r4, (nx 0 (fun _ y => by split <;> omega)).2, if_neg g]; exact Int.add_zero _) lb.1.1 (by
      rw [hW]
      cases ord with
      | true => rw [if_pos rfl]; omega
      | false => rw [if_neg (by decide)]; have := lb.2.1 rfl; omega)) (dbd_word _)
    by_cases e : M 64 20 = 0
    · rw [if_pos e]; exact ok_ret ⟨rfl, R⟩
    · have ho : ord = true := by rcases b1 with y | y; exact absurd y e; exact y.1
      have l5 : ixW ord (tkK tp n t) + 1 < 5 := by have := (ixb.2.2.2.2.2.1 ho); have : ¬ 278 ≤ tkK tp n t := fun y => g ⟨ho, y⟩; omega
      rw [if_neg e, if_pos l5]; exact ok_ret ⟨rfl, R⟩
  obtain ⟨ho, g8⟩ := g
  have k2 := ixb.2.2.2.2.2.2 ho g8 ixn
  have e20 : ¬ M 64 20 = 0 := by rw [r1.2.2.2.1, if_pos ho]; omega
  have z4 : z < 400 := by have := r2.2.2.1; omega
  rw [if_pos (show ord = true ∧ 278 ≤ tkK tp n t from ⟨ho, g8⟩), if_neg e20, if_neg (show ¬ ixW ord (tkK tp n t) + 1 < 5 by omega), if_pos r1.2.2.1, r2.1, w_id (x := ((z + 1 : Nat) : Int) - 1) (by omega) (by omega), show ((z + 1 : Nat) : Int) - 1 = (z : Int) by omega]
  have lim : ∀ m : Int, m = (if tkK tp n t = 279 then 15 else 5) → Ok (f_X12_readPart_j150 X M (z : Int) 0 m) (fun q => q.1 = 3 ∧ RR X W tp n ord N t z p o d 7 3 false (if tkK tp n (t + 1) = -2 ∧ tkN tp n (t + 1) ≤ (if tkK tp n t = 279 then 15 else 5) then .inr (t + 2, np + 1, dWord (lwW ord (tkK tp n t) + tkN tp n (t + 1))) else .inl (t + 1)) q.2 3) := by
    intro m hm
    rw [← hm]
    have m15 : m ≤ 15 ∧ 0 ≤ m := by rw [hm]; split <;> omega
    unfold f_X12_readPart_j150 f_X12_readPart_j154 f_X12_number f_X12_number_j32 f_X12_number_j33
    obtain ⟨n1', n2', _, _⟩ := ref_num hb r1.1
    have bad : ∀ v : Int, Ok (Option.bind (Option.bind (f_X12_must X M 0) (fun o4 => some (v, o4))) (fun o18 => if 0 ≤ (z : Int) ∧ (z : Int) < 400 then some ((3 : Int), m_up o18.2 76 (z : Int).toNat o18.1) else none)) (fun q => q.1 = 3 ∧ RR X W tp n ord N t z p o d 7 3 false (.inl (t + 1)) q.2 3) := by
      intro v
      rw [r_must0 r1, Option.bind_some, Option.bind_some, if_pos (by omega)]
      have fs := r_faultS hn r1 r2
      exact ok_ret ⟨rfl, rr_i (fr_tr r5 (fr_up fs.2 (by unfold frRx; omega))) (fst_76 fs.1)⟩
    by_cases c2 : tkK tp n (t + 1) = -2
    case neg =>
      rw [if_neg (fun y => c2 (n1'.1 y)), if_neg (show ¬ (tkK tp n (t + 1) = -2 ∧ tkN tp n (t + 1) ≤ m) from fun y => c2 y.1)]
      exact bad _
    have hm2 := n2' c2
    rw [if_pos (n1'.2 c2), ref_in, Option.bind_some]
    by_cases c3 : tkN tp n (t + 1) ≤ m
    case neg =>
      rw [if_neg (show ¬ (0 ≤ M 64 17 ∧ M 64 17 ≤ m) by omega), i00, if_neg (show ¬ (tkK tp n (t + 1) = -2 ∧ tkN tp n (t + 1) ≤ m) from fun y => c3 y.2)]
      exact bad _
    rw [if_pos (show 0 ≤ M 64 17 ∧ M 64 17 ≤ m by omega), i10, if_pos (show tkK tp n (t + 1) = -2 ∧ tkN tp n (t + 1) ≤ m from ⟨c2, c3⟩), w_id (x := M 64 17) (by omega) (by omega), show M 64 17 = tkN tp n (t + 1) by omega]
    obtain ⟨M2, e2, q1, q2⟩ := r_must1 (X := X) (v := 1) hn hb r1 (by omega) (by omega)
    rw [e2, Option.bind_some, Option.bind_some, if_pos (by omega)]
    have w2 := pw_t (pw_ag r2 (ag_nx q2)) (show t + 1 ≤ t + 1 + 1 by omega)
    have t6 := kak_le hn q1.2.2.2.2.2.2.1
    have f76 : Fr (fun o k => o = 76 ∧ k = z) M2 (m_up M2 76 (z : Int).toNat (tkN tp n (t + 1))) := fr_up fr_rfl (by omega)
    have w3 : PW (m_up M2 76 (z : Int).toNat (tkN tp n (t + 1))) (t + 2) (z + 1) p := pw_76 w2
    have k3 := rk_pi q1 (fr_mono f76 fun o k q => by unfold frPi; omega)
    have a75 : m_up M2 76 (z : Int).toNat (tkN tp n (t + 1)) 75 z = ixW ord (tkK tp n t) + 1 := by rw [up_o (by omega), q2 75 z (by unfold frNx; omega)]; exact r3
    have a76 : m_up M2 76 (z : Int).toNat (tkN tp n (t + 1)) 76 z = tkN tp n (t + 1) := by rw [Int.toNat_natCast, up_s]
    have lm : lwW ord (tkK tp n t) + tkN tp n (t + 1) < 32 := by
      subst ho
      unfold lwW
      rw [if_pos rfl, if_neg (show ¬ (275 ≤ tkK tp n t ∧ tkK tp n t ≤ 277) by omega), if_neg (show ¬ tkK tp n t = 272 by omega)]
      split
      · rw [if_neg (show ¬ tkK tp n t = 279 by omega)] at hm; omega
      · split
        · omega
        · split
          · rw [if_neg (show ¬ tkK tp n t = 279 by omega)] at hm; omega
          · omega
    have hnx : ord = true → 278 ≤ tkK tp n t → 0 ≤ tkN tp n (t + 1) ∧ tkN tp n (t + 1) ≤ (if tkK tp n t = 279 then 15 else 5) := fun _ _ => by rw [← hm]; omega
    have s1 : SgR W ord (m_up M2 76 (z : Int).toNat (tkN tp n (t + 1))) z (z + 1) 1 (dWord (lwW ord (tkK tp n t) + tkN tp n (t + 1))) := seg_word (by rw [a75]; exact naw) (by rw [a75, a76, (nx _ hnx).2, if_pos ⟨ho, g8⟩]) (by omega) (by rw [hW, if_pos ho]; exact lm)
    refine ok_ret ⟨rfl, rr_j (fr_tr r5 (fr_tr (fr_nx q2) (fr_mono f76 fun o k q => by unfold frRx; omega))) k3 w3 (pend_base t6 w3 (seg_d s1 hd)) (Nat.le_refl _) (by omega) (fun k hk => ?_) (fun k hk => ?_) (fun k a b => by omega) (by dsimp only; omega) (by rw [if_neg (show ¬ (false = true) by decide)]; exact dbd_word _)⟩
    · have y := r6 k (by omega)
      exact ⟨((f76 75 k (by omega)).trans (q2 75 k (by unfold frNx; omega))).trans y.1, ((f76 76 k (by omega)).trans (q2 76 k (by unfold frNx; omega))).trans y.2⟩
    · have y := r7 k
      exact ⟨((f76 77 k (by omega)).trans (q2 77 k (by unfold frNx; omega))).trans y.1, ((f76 78 k (by omega)).trans (q2 78 k (by unfold frNx; omega))).trans y.2⟩
  by_cases c6 : ixW ord (tkK tp n t) + 1 = 6
  · rw [if_pos c6]; exact lim 15 (by rw [if_pos (by omega)])
  · rw [if_neg c6]; exact lim 5 (by rw [if_neg (by omega)])
end RF
