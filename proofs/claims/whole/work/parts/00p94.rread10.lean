/-! reading: a whole SUM or TEST in the reference -/
def RB (N : NN) (tp : Nat → Int) (n : Nat) (ord : Bool) (t np : Nat) : Prop := TKm N tp n t ∧ TPm N tp n ∧ N 64 19 = 0 ∧ N 64 20 = (if ord = true then 1 else 0) ∧ N 64 26 = (np : Int) ∧ KAk tp n t ∧ np ≤ 50 ∧ WTb N
def RZ (N : NN) (t z : Nat) : Prop := N 64 23 = (z : Int) ∧ z ≤ t ∧ ∀ k, k < z → 0 ≤ N 75 k ∧ N 75 k ≤ 30
def EXq (W : Int) (tp : Nat → Int) (n : Nat) (ord : Bool) (N : NN) (t z : Nat) (bo : Bool) (r : PR) (M : NN) : Prop := Fr frRx N M ∧ match r with
  | .inl f => FSt M tp n f
  | .inr q => ∃ z', RB M tp n ord q.1 q.2.1 ∧ RZ M q.1 z' ∧ SgR W ord M z z' 28 q.2.2 ∧ (∀ k, k < z → M 75 k = N 75 k ∧ M 76 k = N 76 k) ∧ t < q.1 ∧ z < z' ∧ (if bo = true then DBo q.2.2 else DBd q.2.2)
noncomputable def xpS (tp : Nat → Int) (n : Nat) (ord : Bool) (bo : Bool) (t np : Nat) : PR := if bo = true then pTe (kdT tp n) (nmT tp n) ord (pBr (kdT tp n) (nmT tp n) ord 8) t np else pSm (kdT tp n) (nmT tp n) ord (pBr (kdT tp n) (nmT tp n) ord 8) t np
section RX
variable {X : MX} {N : NN} {tp : Nat → Int} {n : Nat} {ord : Bool} {W : Int}
theorem rb_rk {t np o : Nat} (h : RK N tp n ord t np o) : RB N tp n ord t np := ⟨h.1, h.2.1, h.2.2.1, h.2.2.2.1, h.2.2.2.2.1, h.2.2.2.2.2.2.1, h.2.2.2.2.2.2.2.1, h.2.2.2.2.2.2.2.2.1⟩
theorem rx_0 {t z : Nat} {bo : Bool} {f : Nat} {M : NN} (h : EXq W tp n ord N t z bo (.inl f) M) : Fr frRx N M ∧ FSt M tp n f := h
theorem rx_1 {t z : Nat} {bo : Bool} {q : Nat × Nat × Den} {M : NN} (h : EXq W tp n ord N t z bo (.inr q) M) : Fr frRx N M ∧ ∃ z', RB M tp n ord q.1 q.2.1 ∧ RZ M q.1 z' ∧ SgR W ord M z z' 28 q.2.2 ∧ (∀ k, k < z → M 75 k = N 75 k ∧ M 76 k = N 76 k) ∧ t < q.1 ∧ z < z' ∧ (if bo = true then DBo q.2.2 else DBd q.2.2) := h
theorem fst_settle {f : Nat} (h : FSt N tp n f) : ∃ M, f_X12_settle X N 1 = some M ∧ FSt M tp n f ∧ Fr frRx N M := by
  obtain ⟨h1, h2, t, z, p, ht, w⟩ := h
  obtain ⟨M, z', p', r1, r2, r3, r4, r5, r6, r7, r8⟩ := st_ok (X := X) p z t N 1 1 (by omega) (by omega) ht w
  exact ⟨M, r1, ⟨by rw [r7 64 19 (by unfold frSe; omega)]; exact h1, by rw [r7 64 18 (by unfold frSe; omega)]; exact h2, t, z', p', ht, r3⟩, fr_px (fr_sp r7)⟩
theorem r_exp {a : Int} {bo : Bool} {t np z : Nat} (hn : n ≤ 400) (hb : ∀ j, j < n → 0 ≤ tp j ∧ tp j ≤ 255) (hW : W = (if ord = true then 32 else 9)) (ha : a = if bo = true then 1 else 0) (h : RB N tp n ord t np) (hz : RZ N t z) : Ok (f_X12_readExpression X N a) (EXq W tp n ord N t z bo (xpS tp n ord bo t np)) := by
  obtain ⟨h1, h2, h3, h4, h5, h6, h7, h8⟩ := h
  obtain ⟨N2, hN2⟩ : ∃ N2, N2 = m_up (m_up N 64 29 0) 64 30 0 := ⟨_, rfl⟩
  have f2 : Fr (fun o k => o = 64 ∧ (k = 29 ∨ k = 30)) N N2 := by rw [hN2]; exact fr_up (fr_up fr_rfl (by omega)) (by omega)
  have f2x : Fr frRx N N2 := fr_mono f2 fun o k q => by unfold frRx; omega
  have k2 : RK N2 tp n ord t np 0 := by
    refine ⟨?_, ⟨by rw [f2 64 13 (by omega)]; exact h2.1, fun j hj => by rw [f2 73 j (by omega)]; exact h2.2 j hj⟩, by rw [f2 64 19 (by omega)]; exact h3, by rw [f2 64 20 (by omega)]; exact h4, by rw [f2 64 26 (by omega)]; exact h5, by rw [hN2, up_s]; rfl, h6, h7, wtb_fr h8 (fr_mono f2 fun o k q => by unfold frRv; omega), by omega⟩
    unfold TKm LXm at h1 ⊢
    rw [f2 64 14 (by omega), f2 64 15 (by omega), f2 64 16 (by omega), f2 64 17 (by omega)]
    exact h1
  have w2 : PW N2 t z 0 := ⟨by rw [f2 64 23 (by omega)]; exact hz.1, by rw [hN2, up_k (by omega), up_s]; rfl, by show z + 0 ≤ t; have := hz.2.1; omega, by omega, fun k hk => by omega, fun k hk => by rw [f2 75 k (by omega)]; exact hz.2.2 k hk⟩
  have hbr := r_brk (X := X) (a := a) (tp := tp) (ord := ord) hn hb hW 8 0 (by omega)
  obtain ⟨rs, rt⟩ := r_all hn hb hW (show 1 ≤ 3 * 8 + 1 by omega) hbr
  -- behind the last token: settle what is left
  have fin : ∀ (r : PR) (N' : NN) (tu' l : Int) (d : Nat), 1 ≤ l → d ≤ 28 → RR X W tp n ord N2 t z 0 0 d l (if bo = true then 2 else 3) bo r N' tu' → (∀ q, r = .inr q → ∀ z' p', RK N' tp n ord q.1 q.2.1 0 → PW N' q.1 z' p' → innP (N' 77) p' = -1 → lp (FLp X) (N', a, tu') = some N') → Ok (Option.bind (lp (FLp X) (N', a, tu')) (fun o13 => Option.bind (f_X12_settle X o13 1) (fun o14 => some o14))) (EXq W tp n ord N t z bo r) := by
    intro r N' tu' l d hl hd R hE
    cases r with
    | inl x =>
      obtain ⟨q1, q2⟩ := rr_0 R
      rw [lp_end (t := N') (by show b_X12_readExpression_20 X N' a tu' = _; unfold b_X12_readExpression_20; rw [if_neg (by rw [q2.1]; omega)]), Option.bind_some]
      obtain ⟨M, s1, s2, s3⟩ := fst_settle (X := X) q2
      rw [s1, Option.bind_some]
      exact ok_ret ⟨fr_tr f2x (fr_tr q1 s3), s2⟩
    | inr q =>
      obtain ⟨q1, q2, z4, p4, q3, q4, q5, q6, q7, q8, q9, q10, q11, q12⟩ := rr_1 R
      have t5 := kak_le hn q3.2.2.2.2.2.2.1
      have i4 : innP (N' 77) p4 = -1 := by rw [inn_tr (N := N2) q6 (fun k hk => by omega) (fun k a1 a2 => by have := q10 k a1 a2; omega)]; rfl
      rw [hE q rfl z4 p4 q3 q4 i4, Option.bind_some]
      obtain ⟨M, z', s1, s2, s3, s4, s5⟩ := pend_one (show (1 : Int) ≤ 1 by omega) t5 q4 (pend_weak (by omega) hl t5 q4 q5 (Or.inl rfl))
      rw [s1, Option.bind_some]
      have k5 := rk_pi q3 (fr_sp s5)
      have zt := s2.2.2.1
      refine ok_ret ⟨fr_tr f2x (fr_tr q1 (fr_px (fr_sp s5))), z', rb_rk k5, ⟨s2.1, by omega, s2.2.2.2.2.2⟩, seg_d s3 hd, fun k hk => ?_, q11, s3.1, q12⟩
      have y := s4 k hk
      have y2 := q8 k hk
      exact ⟨(y.1.trans y2.1).trans (f2 75 k (by omega)), (y.2.trans y2.2).trans (f2 76 k (by omega))⟩
  have e4 : ∀ N', lp (FLp X) (N', a, 4) = some N' := by
    intro N'
    refine lp_end ?_
    show b_X12_readExpression_20 X N' a 4 = _
    unfold b_X12_readExpression_20
    by_cases c : N' 64 19 = 0
    · rw [if_pos c, if_pos rfl]
    · rw [if_neg c]
  unfold f_X12_readExpression f_X12_readExpression_j19 xpS
  dsimp only
  rw [← hN2]
  cases bo with
  | true =>
    rw [if_pos rfl] at ha
    rw [if_neg (show ¬ a = 0 by omega), if_pos rfl]
    obtain ⟨N', tu', e1, R, E⟩ := rt N2 0 t np z 0 rfl k2 w2 (Or.inl rfl) (Or.inr ⟨rfl, by omega⟩)
    show Ok (Option.bind (lp (FLp X) (N2, a, 0)) _) _
    rw [e1]
    refine fin _ N' tu' 1 _ (by omega) (by omega) R fun q e z' p' x1 x2 x3 => ?_
    rw [e] at R
    obtain ⟨_, q2, _⟩ := rr_1 R
    subst q2
    refine Eq.trans (lp_next (s' := (N', a, 4)) ?_) (e4 N')
    have B3 : FLp X (N', a, 2) = Option.bind (f_X12_behindTest X N') (fun o => some (.inl (o.2, a, o.1))) := b_test x1
    rw [B3, b_tst hn hb x1 x2 (E q e) x3, if_pos rfl]
    rfl
  | false =>
    rw [if_neg (show ¬ (false = true) by decide)] at ha
    rw [if_pos ha, if_neg (show ¬ (false = true) by decide)]
    obtain ⟨N', tu', e1, R, E⟩ := rs N2 1 t np z 0 (Or.inl rfl) k2 w2 (Or.inl rfl) trivial
    show Ok (Option.bind (lp (FLp X) (N2, a, 1)) _) _
    rw [e1]
    refine fin _ N' tu' 5 _ (by omega) (by omega) R fun q e z' p' x1 x2 x3 => ?_
    have t5 := kak_le hn x1.2.2.2.2.2.2.1
    rw [e] at R
    obtain ⟨_, q2, _⟩ := rr_1 R
    subst q2
    have hno := E q e
    unfold nOp at hno
    refine Eq.trans (lp_next (s' := (N', a, 4)) ?_) (e4 N')
    rw [b_sum x1, bs_sg hb x1, if_neg (by omega), if_neg (by omega), if_neg (by omega), if_neg (by omega), if_neg (by omega)]
    unfold f_X12_behindSum_j71
    rw [if_pos rfl, ref_inner x2.2.1 (by have := x2.2.2.2.1; omega), Option.bind_some, x3, if_neg (by omega), if_pos rfl, if_pos ha]
    rfl
end RX
