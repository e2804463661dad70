/-! reading: the reference's comparisons and plain TESTS -/
section RC
variable {X : MX} {N : NN} {tp : Nat → Int} {n : Nat} {ord : Bool} {W : Int}
def HBR (X : MX) (W : Int) (tp : Nat → Int) (n : Nat) (ord : Bool) (a : Int) (o d : Nat) (br : Bool → Nat → Nat → PR) : Prop :=
  (∀ (N : NN) (t np z p : Nat), RK N tp n ord t np o → PW N t z p → tkK tp n t = 40 → ∃ N' tu', lp (FLp X) (N, a, 0) = lp (FLp X) (N', a, tu') ∧ RR X W tp n ord N t z p o d 7 2 true (br false t np) N' tu') ∧
  (∀ (N : NN) (tu : Int) (t np z p : Nat), StP tp n tu t → RK N tp n ord t np o → PW N t z p → tkK tp n t = 91 → ∃ N' tu', lp (FLp X) (N, a, tu) = lp (FLp X) (N', a, tu') ∧ RR X W tp n ord N t z p o d 7 3 false (br true t np) N' tu')
theorem bd_31 {o : Int} (h : 1 ≤ bdP o) : o < 31 := Classical.byContradiction fun y => by unfold bdP at h; rw [if_neg y] at h; omega
theorem bd_ar {o : Int} (h : 5 ≤ bdP o) : o ≤ 24 := by
  have := bd_31 (show 1 ≤ bdP o by omega)
  unfold bdP at h
  rw [if_pos this] at h
  repeat' split at h
  all_goals omega
theorem bd_lo {o : Int} (h : bdP o < 4) : ¬ (20 ≤ o ∧ o ≤ 24) ∧ ¬ (25 ≤ o ∧ o ≤ 27) := by
  unfold bdP at h
  repeat' split at h
  all_goals omega
theorem inn_tr {N1 : NN} {p p1 : Nat} (hp : p ≤ p1) (h : ∀ k, k < p → N1 77 k = N 77 k) (hb : ∀ k, p ≤ k → k < p1 → 1 ≤ bdP (N1 77 k)) : innP (N1 77) p1 = innP (N 77) p := by
  rw [show p1 = p + (p1 - p) by omega, inn_up (p1 - p) fun k a b => bd_31 (hb k a (by omega))]
  exact inn_c p h
theorem r_prt {br : Bool → Nat → Nat → PR} {a : Int} {o d : Nat} (hn : n ≤ 400) (hb : ∀ j, j < n → 0 ≤ tp j ∧ tp j ≤ 255) (hW : W = (if ord = true then 32 else 9)) (hd : 1 ≤ d) (hbr : HBR X W tp n ord a o d br) : ER X W tp n ord a o d 7 3 false (StP tp n) (fun _ _ => True) (fun _ => True) (pPart (kdT tp n) (nmT tp n) ord br) := by
  intro N tu t np z p hs h w _ _
  unfold pPart
  by_cases c : tkK tp n t = 91
  · rw [if_pos (show kdT tp n t = 91 from c)]
    obtain ⟨N', tu', e1, e2⟩ := hbr.2 N tu t np z p hs h w c
    exact ⟨N', tu', e1, e2, fun _ _ => trivial⟩
  · rw [if_neg (show ¬ kdT tp n t = 91 from c)]
    obtain ⟨⟨v, M⟩, e, e1, e2⟩ := r_part (X := X) hn hb hW hd h w c
    dsimp only at e1 e2
    subst e1
    refine ⟨M, 3, lp_next ?_, e2, fun _ _ => trivial⟩
    rw [b_part hb h hs, e]
    rfl
theorem b_cmp {a : Int} {t np o z p : Nat} (hn : n ≤ 400) (hb : ∀ j, j < n → 0 ≤ tp j ∧ tp j ≤ 255) (h : RK N tp n ord t np o) (w : PW N t z p) (hk : ¬ (tkK tp n t = 43 ∨ tkK tp n t = 45 ∨ tkK tp n t = 42 ∨ tkK tp n t = 47 ∨ tkK tp n t = 37)) (hi : HIn N p a) : f_X12_behindSum X N a = f_X12_behindSum_j163 X N := by
  have t4 := kak_le hn h.2.2.2.2.2.2.1
  rw [bs_sg hb h, if_neg (by omega), if_neg (by omega), if_neg (by omega), if_neg (by omega), if_neg (by omega)]
  unfold f_X12_behindSum_j71
  rw [if_pos rfl, ref_inner w.2.1 (by have := w.2.2.2.1; omega), Option.bind_some]
  rcases hi with c | ⟨c, c2⟩
  · rw [c, if_neg (by omega), if_neg (by omega)]
  · rw [c, if_neg (by omega), if_pos rfl, if_neg c2]
theorem r_cmp {br : Bool → Nat → Nat → PR} {a : Int} {o d : Nat} {E : Nat → Prop} (hn : n ≤ 400) (hb : ∀ j, j < n → 0 ≤ tp j ∧ tp j ≤ 255) (hE : ∀ t, E t → ¬ (tkK tp n t = 43 ∨ tkK tp n t = 45 ∨ tkK tp n t = 42 ∨ tkK tp n t = 47 ∨ tkK tp n t = 37)) (hel : ER X W tp n ord a o d 5 3 false (StP tp n) (fun _ _ => True) E (pSm (kdT tp n) (nmT tp n) ord br)) : ER X W tp n ord a o (d + 1) 4 2 true (StP tp n) (fun N p => HIn N p a) (fun _ => True) (pCmp (kdT tp n) (nmT tp n) ord br) := by
  intro N tu t np z p hs h w hc hi
  unfold pCmp
  obtain ⟨N1, tu1, l1, R1, E1⟩ := hel N tu t np z p hs h w (by rcases hc with y | y; exact Or.inl y; exact Or.inr (by omega)) trivial
  rw [l1]
  cases he : pSm (kdT tp n) (nmT tp n) ord br t np with
  | inl x =>
    rw [he] at R1
    obtain ⟨q1, q2⟩ := rr_0 R1
    exact ⟨N1, tu1, rfl, rr_i q1 q2, fun _ _ => trivial⟩
  | inr q =>
    rw [he] at R1
    obtain ⟨q1, q2, z1, p1, q3, q4, q5, q6, q7, q8, q9, q10, q11, q12⟩ := rr_1 R1
    subst q2
    dsimp only
    have t5 := kak_le hn q3.2.2.2.2.2.2.1
    have p15 := q4.2.2.2.1
    have hi1 : HIn N1 p1 a := by
      have e := inn_tr q6 (fun k hk => (q9 k hk).1) (fun k a1 a2 => by have := q10 k a1 a2; omega)
      unfold HIn
      rw [e]
      exact hi
    have ic : f_X12_isCompared X N1 = some 0 := by
      rw [ref_isCompared q4.2.1 (by omega) q6 (fun k a1 a2 => ⟨(q4.2.2.2.2.1 k a2).2.1, bd_ar (q10 k a1 a2)⟩) ?_, if_neg ?_]
      · intro y
        rcases hc with g | g
        · omega
        · rw [(q9 (p - 1) (by omega)).1] at y
          exact (bd_lo g).2 y.2
      · by_cases g0 : p = 0
        · exact Or.inl g0
        · rcases hc with g | g
          · exact absurd g g0
          · exact Or.inr (by rw [(q9 (p - 1) (by omega)).1]; exact (bd_lo g).1)
    have ha := hE _ (E1 q he)
    have B0 : FLp X (N1, a, 3) = Option.bind (f_X12_behindSum_j163 X N1) (fun o => some (.inl (o.2, a, o.1))) := by rw [b_sum q3, b_cmp hn hb q3 q4 ha hi1]
    have J0 : f_X12_behindSum_j163 X N1 = f_X12_behindSum_j224 X N1 (if tkK tp n q.1 = 60 then 25 else if tkK tp n q.1 = 62 then 26 else 27) (if tkK tp n q.1 = 60 ∨ tkK tp n q.1 = 62 ∨ tkK tp n q.1 = 61 then 1 else 0) := by
      unfold f_X12_behindSum_j163 f_X12_behindSum_j202 f_X12_behindSum_j219
      rw [ic, Option.bind_some, i00, ref_isSign (c := 60) (by omega) (by decide) (by decide) hb q3.1, Option.bind_some]
      by_cases c1 : tkK tp n q.1 = 60
      · rw [if_pos c1, i10, if_neg (by omega), if_pos c1, if_pos (Or.inl c1)]
      rw [if_neg c1, i00, if_neg c1, ref_isSign (c := 62) (by omega) (by decide) (by decide) hb q3.1, Option.bind_some]
      by_cases c2 : tkK tp n q.1 = 62
      · rw [if_pos c2, i10, if_neg (by omega), if_pos c2, if_pos (Or.inr (Or.inl c2))]
      rw [if_neg c2, i00, if_neg c2, if_pos rfl, ref_isSign (c := 61) (by omega) (by decide) (by decide) hb q3.1, Option.bind_some]
      by_cases c3 : tkK tp n q.1 = 61
      · rw [if_pos c3, i10, if_pos (Or.inr (Or.inr c3))]
      · rw [if_neg c3, i00, if_neg (by omega)]
    by_cases cc : tkK tp n q.1 = 60 ∨ tkK tp n q.1 = 62 ∨ tkK tp n q.1 = 61
    case neg =>
      rw [if_neg (show ¬ (kdT tp n q.1 = 60 ∨ kdT tp n q.1 = 62 ∨ kdT tp n q.1 = 61) from cc)]
      rw [if_neg cc] at J0
      have fs := r_faultS hn q3 q4
      refine ⟨_, 1, lp_next (s' := (m_up (m_up N1 64 19 1) 64 18 (tkS tp n q.1 : Int), a, 1)) ?_, rr_i (fr_tr q1 fs.2) fs.1, fun _ _ => trivial⟩
      rw [B0, J0]
      unfold f_X12_behindSum_j224 f_X12_behindSum_j245
      rw [r_must0 q3, Option.bind_some, if_neg (show ¬ m_up (m_up N1 64 19 1) 64 18 (tkS tp n q.1 : Int) 64 19 = 0 by rw [up_k (by omega), up_s]; omega)]
      rfl
    rw [if_pos (show kdT tp n q.1 = 60 ∨ kdT tp n q.1 = 62 ∨ kdT tp n q.1 = 61 from cc)]
    rw [if_pos cc] at J0
    obtain ⟨oc, hoc⟩ : ∃ oc : Int, oc = (if tkK tp n q.1 = 60 then 25 else if tkK tp n q.1 = 62 then 26 else 27) := ⟨_, rfl⟩
    rw [← hoc] at J0
    have oc2 : 25 ≤ oc ∧ oc ≤ 27 := by
      rw [hoc]
      repeat' split
      all_goals omega
    have bo : bdP oc = 4 := by
      rw [hoc]
      repeat' split
      all_goals rfl
    obtain ⟨N2, e2, k2, f2⟩ := r_must1 (X := X) (v := 1) hn hb q3 (by omega) (by omega)
    have w2 := pw_ag q4 (ag_nx f2)
    obtain ⟨M', z2, s1, s2, s3, s4, s5⟩ := pend_one (show (1 : Int) ≤ 5 by omega) t5 w2 (pend_ag q5 (ag_nx f2))
    have t6 := kak_le hn k2.2.2.2.2.2.2.1
    have p4 : p < 400 := by have := s2.2.2.2.1; omega
    obtain ⟨N3, hN3⟩ : ∃ N3, N3 = pshN M' p oc 0 := ⟨_, rfl⟩
    have fp := psh_f (N := M') (p := p) (a := oc) (b := 0)
    have vp := psh_v (N := M') (p := p) (a := oc) (b := 0)
    have k3 := rk_pi (rk_pi k2 (fr_sp s5)) (fr_mono fp fun o k q => by unfold frPi; omega)
    have w3 := pw_psh (a := oc) (b := 0) s2 (by omega) (by omega)
    rw [← hN3] at fp vp k3 w3
    have B1 : FLp X (N1, a, 3) = some (.inl (N3, a, 1)) := by
      rw [B0, J0]
      unfold f_X12_behindSum_j224 f_X12_behindSum_j245
      rw [e2, Option.bind_some, if_pos k2.2.2.1, s1, Option.bind_some, push_eq s2.2.1 p4, Option.bind_some, ← hN3]
      rfl
    have f13 : Fr frRx N1 N3 := fr_tr (fr_nx f2) (fr_tr (fr_px (fr_sp s5)) (fr_mono fp fun o k q => by unfold frRx; omega))
    have c13 : ∀ k, k < z → N3 75 k = N1 75 k ∧ N3 76 k = N1 76 k := fun k hk => by
      have y := s4 k hk
      have y2 := (ag_nx f2).1 k
      exact ⟨((fp 75 k (by omega)).trans y.1).trans y2.1, ((fp 76 k (by omega)).trans y.2).trans y2.2.1⟩
    have d13 : ∀ k, k < p → N3 77 k = N1 77 k ∧ N3 78 k = N1 78 k := fun k hk => by
      have y2 := (ag_nx f2).1 k
      exact ⟨((fp 77 k (by omega)).trans (s5 77 k (by unfold frSe; omega))).trans y2.2.2.1, ((fp 78 k (by omega)).trans (s5 78 k (by unfold frSe; omega))).trans y2.2.2.2⟩
    have s3' : SgR W ord N3 z z2 d q.2.2 := sg_c s3 fun k _ _ => ⟨fp 75 k (by omega), fp 76 k (by omega)⟩
    rw [lp_next B1]
    obtain ⟨N4, tu4, l4, R4, E4⟩ := hel N3 1 (q.1 + 1) q.2.1 z2 (p + 1) (Or.inl rfl) k3 w3 (Or.inr (by rw [Nat.add_sub_cancel, vp.1, bo]; omega)) trivial
    rw [l4]
    cases he2 : pSm (kdT tp n) (nmT tp n) ord br (q.1 + 1) q.2.1 with
    | inl x =>
      rw [he2] at R4
      obtain ⟨r1, r2⟩ := rr_0 R4
      exact ⟨N4, tu4, rfl, rr_i (fr_tr q1 (fr_tr f13 r1)) r2, fun _ _ => trivial⟩
    | inr q' =>
      rw [he2] at R4
      obtain ⟨r1, r2, z4, p4', r3, r4, r5, r6, r7, r8, r9, r10, r11, r12⟩ := rr_1 R4
      subst r2
      dsimp only
      have t7 := kak_le hn r3.2.2.2.2.2.2.1
      have p45 := r4.2.2.2.1
      have v4 : N4 77 p = oc := by rw [(r9 p (by omega)).1]; exact vp.1
      have lowp : ∀ k, k < p → N4 77 k = N 77 k ∧ N4 78 k = N 78 k := fun k hk => by
        have y := r9 k (by omega)
        have y2 := d13 k hk
        have y3 := q9 k hk
        exact ⟨(y.1.trans y2.1).trans y3.1, (y.2.trans y2.2).trans y3.2⟩
      have hi4 : HIn N4 p4' a := by
        have e := inn_tr (N := N) (N1 := N4) (p := p) (p1 := p4') (by omega) (fun k hk => (lowp k hk).1) (fun k a1 a2 => by
          by_cases g : k = p
          · rw [g, v4, bo]; omega
          · have := r10 k (by omega) a2; omega)
        unfold HIn
        rw [e]
        exact hi
      have ic4 : f_X12_isCompared X N4 = some 1 := by
        rw [ref_isCompared r4.2.1 (by omega) r6 (fun k a1 a2 => ⟨(r4.2.2.2.2.1 k a2).2.1, bd_ar (r10 k a1 a2)⟩) (Or.inr (by rw [Nat.add_sub_cancel, v4]; omega)), if_pos (by rw [Nat.add_sub_cancel, v4]; omega)]
      have ha4 := hE _ (E4 q' he2)
      have B4 : FLp X (N4, a, 3) = some (.inl (N4, a, 2)) := by
        rw [b_sum r3, b_cmp hn hb r3 r4 ha4 hi4]
        unfold f_X12_behindSum_j163
        rw [ic4, Option.bind_some, i10]
        rfl
      have cx4 : Cx N4 p 4 := by
        rcases hc with g | g
        · exact Or.inl g
        · by_cases g0 : p = 0
          · exact Or.inl g0
          · exact Or.inr (by rw [(lowp (p - 1) (by omega)).1]; exact g)
      have s4' : SgR W ord N4 z z2 d q.2.2 := sg_c s3' fun k _ a2 => r8 k a2
      have pb := pend_bin (d := d + 1) (l := 4) t7 r4 (show Pend X W ord N4 (4 + 1) (p + 1) z2 d q'.2.2 from r5) v4 (by omega) (by omega) bo.symm s4' (by omega) (by omega) cx4
      have ea : (if kdT tp n q.1 = 60 then (7 : Int) else if kdT tp n q.1 = 62 then 8 else 9) = oc - 18 := by
        rw [hoc]
        show (if tkK tp n q.1 = 60 then (7 : Int) else if tkK tp n q.1 = 62 then 8 else 9) = _
        (repeat' split) <;> rfl
      rw [ea]
      have zz := s3.1
      refine ⟨N4, 2, lp_next B4, rr_j (fr_tr q1 (fr_tr f13 r1)) r3 r4 pb (by omega) (by omega) (fun k hk => ?_) lowp (fun k a1 a2 => ?_) (by dsimp only; omega) (by rw [if_pos rfl]; exact dbo_bin (by omega)), fun _ _ => trivial⟩
      · have y := r8 k (by omega)
        have y2 := c13 k hk
        have y3 := q8 k hk
        exact ⟨(y.1.trans y2.1).trans y3.1, (y.2.trans y2.2).trans y3.2⟩
      · by_cases g : k = p
        · rw [g, v4, bo]; omega
        · have := r10 k (by omega) a2; omega
theorem pnt_end (hb : ∀ j, j < n → 0 ≤ tp j ∧ tp j ≤ 255) (hn : n ≤ 400) : ∀ f t, 400 ≤ f + t → tkK tp n (pNt (kdT tp n) f t) ≠ 262
  | 0, t, h => by
    rw [pNt]
    have y := tkS_ge (tp := tp) (n := n) t
    have y2 := tkS_n (tp := tp) (n := n) t
    have y3 : ¬ tkS tp n t < n := by omega
    have := (tk_end hb t).2 y3
    omega
  | f + 1, t, h => by
    rw [pNt]
    by_cases c : kdT tp n t = 262
    · rw [if_pos c]; exact pnt_end hb hn f (t + 1) (by omega)
    · rw [if_neg c]; exact c
theorem r_nots {a : Int} {o np z p : Nat} (hn : n ≤ 400) (hb : ∀ j, j < n → 0 ≤ tp j ∧ tp j ≤ 255) : ∀ (f j t : Nat) (N : NN), RK N tp n ord t np o → PW N t z (p + j) → (∀ k, p ≤ k → k < p + j → N 77 k = 28) → ∃ N' j', lp (FLp X) (N, a, 0) = lp (FLp X) (N', a, 0) ∧ RK N' tp n ord (pNt (kdT tp n) f t) np o ∧ PW N' (pNt (kdT tp n) f t) z (p + j') ∧ (∀ k, p ≤ k → k < p + j' → N' 77 k = 28) ∧ j' + t = j + pNt (kdT tp n) f t ∧ Fr frRx N N' ∧ (∀ k, N' 75 k = N 75 k ∧ N' 76 k = N 76 k) ∧ (∀ k, k < p → N' 77 k = N 77 k ∧ N' 78 k = N 78 k)
  | 0, j, t, N, h, w, h28 => ⟨N, j, rfl, h, w, h28, rfl, fr_rfl, fun k => ⟨rfl, rfl⟩, fun k _ => ⟨rfl, rfl⟩⟩
  | f + 1, j, t, N, h, w, h28 => by
    rw [pNt]
    by_cases c : tkK tp n t = 262
    case neg =>
      rw [if_neg (show ¬ kdT tp n t = 262 from c)]
      exact ⟨N, j, rfl, h, w, h28, rfl, fr_rfl, fun k => ⟨rfl, rfl⟩, fun k _ => ⟨rfl, rfl⟩⟩
    rw [if_pos (show kdT tp n t = 262 from c)]
    have t4 := kak_le hn h.2.2.2.2.2.2.1
    have lt : tkS tp n t < n := Classical.byContradiction fun y => by have := (tk_end hb t).2 y; omega
    have t5 := kak_le (t := t + 1) hn (Or.inr (by rw [Nat.add_sub_cancel]; exact lt))
    have p4 : p + j < 400 := by have := w.2.2.2.1; omega
    have fp := psh_f (N := N) (p := p + j) (a := 28) (b := 0)
    have vp := psh_v (N := N) (p := p + j) (a := 28) (b := 0)
    have k2 := rk_pi h (fr_mono fp fun o k q => by unfold frPi; omega)
    have w2 := pw_psh (a := 28) (b := 0) w (by omega) (by omega)
    obtain ⟨N3, e3, r1, r2⟩ := r_next (X := X) hn hb k2 (by omega)
    have a3 := ag_nx r2
    have e6 : wC 6 = 14836 := wC_tab ⟨6, by decide⟩
    have B : FLp X (N, a, 0) = some (.inl (N3, a, 0)) := by
      show b_X12_readExpression_20 X N a 0 = _
      unfold b_X12_readExpression_20 f_X12_readExpression_l20_j72 f_X12_readPlain
      rw [if_pos h.2.2.1, if_neg (by omega), if_pos rfl, ← e6, ref_isWord (by decide) hb h.1, Option.bind_some, if_pos (show tkK tp n t = 256 + ((6 : Nat) : Int) from c), i10, push_eq w.2.1 p4, Option.bind_some, e3]
      rfl
    rw [lp_next B]
    obtain ⟨N', j', l1, x1, x2, x3, x4, x5, x6, x7⟩ := r_nots hn hb f (j + 1) (t + 1) N3 r1 (pw_ag w2 a3) (fun k a1 a2 => by
      rw [(a3.1 k).2.2.1]
      by_cases g : k = p + j
      · rw [g]; exact vp.1
      · rw [fp 77 k (by omega)]; exact h28 k a1 (by omega)) (a := a)
    refine ⟨N', j', l1, x1, x2, x3, by omega, fr_tr (fr_mono fp fun o k q => by unfold frRx; omega) (fr_tr (fr_nx r2) x5), fun k => ?_, fun k hk => ?_⟩
    · have y := x6 k
      have y2 := a3.1 k
      exact ⟨(y.1.trans y2.1).trans (fp 75 k (by omega)), (y.2.trans y2.2.1).trans (fp 76 k (by omega))⟩
    · have y := x7 k hk
      have y2 := a3.1 k
      exact ⟨(y.1.trans y2.2.2.1).trans (fp 77 k (by omega)), (y.2.trans y2.2.2.2).trans (fp 78 k (by omega))⟩
theorem r_plain {br : Bool → Nat → Nat → PR} {a : Int} {o d : Nat} (hn : n ≤ 400) (hb : ∀ j, j < n → 0 ≤ tp j ∧ tp j ≤ 255) (hbr : HBR X W tp n ord a o d br) (hel : ER X W tp n ord a o d 4 2 true (StP tp n) (fun N p => HIn N p a) (fun _ => True) (pCmp (kdT tp n) (nmT tp n) ord br)) : ER X W tp n ord a o d 3 2 true (fun tu _ => tu = 0) (fun N p => HIn N p a) (fun _ => True) (pPl (kdT tp n) (nmT tp n) ord br) := by
  intro N tu t np z p hs h w hc hi
  subst hs
  unfold pPl
  obtain ⟨N1, j, l1, k1, w1, v1, ej, f1, c1, d1⟩ := r_nots (X := X) (a := a) (o := o) (np := np) (z := z) (p := p) hn hb 400 0 t N h w (fun k a1 a2 => by omega)
  have pe := pnt_end (tp := tp) hb hn 400 t (by omega)
  have pl := pNt_le (kd := kdT tp n) 400 t
  obtain ⟨t1, ht1⟩ : ∃ t1, t1 = pNt (kdT tp n) 400 t := ⟨_, rfl⟩
  rw [← ht1] at k1 w1 ej pe pl ⊢
  have hj : t1 - t = j := by omega
  rw [l1, hj]
  have cx1 : Cx N1 (p + j) 4 := by
    by_cases g : j = 0
    · subst g
      rcases hc with y | y
      · exact Or.inl y
      · by_cases g0 : p = 0
        · exact Or.inl g0
        · exact Or.inr (by rw [Nat.add_zero, (d1 (p - 1) (by omega)).1]; omega)
    · exact Or.inr (by rw [v1 (p + j - 1) (by omega) (by omega), bd28]; omega)
  have hi1 : HIn N1 (p + j) a := by
    have e := inn_tr (N := N) (N1 := N1) (p := p) (p1 := p + j) (by omega) (fun k hk => (d1 k hk).1) (fun k a1 a2 => by rw [v1 k a1 a2, bd28]; omega)
    unfold HIn
    rw [e]
    exact hi
  have fin : ∀ (r : PR) (N' : NN) (tu' : Int), RR X W tp n ord N1 t1 z (p + j) o d 4 2 true r N' tu' → RR X W tp n ord N t z p o d 3 2 true (match r with | .inl x => .inl x | .inr q => .inr (q.1, q.2.1, if j % 2 = 1 then dNot q.2.2 else q.2.2)) N' tu' := by
    intro r N' tu' R
    cases r with
    | inl x =>
      obtain ⟨q1, q2⟩ := rr_0 R
      exact rr_i (fr_tr f1 q1) q2
    | inr q =>
      obtain ⟨q1, q2, z4, p4, q3, q4, q5, q6, q7, q8, q9, q10, q11, q12⟩ := rr_1 R
      subst q2
      have t5 := kak_le hn q3.2.2.2.2.2.2.1
      have lowp : ∀ k, k < p → N' 77 k = N 77 k ∧ N' 78 k = N 78 k := fun k hk => by
        have y := q9 k (by omega)
        have y2 := d1 k hk
        exact ⟨y.1.trans y2.1, y.2.trans y2.2⟩
      rw [if_pos rfl] at q12
      refine rr_j (fr_tr f1 q1) q3 q4 (pend_nots t5 q4 q5 (fun k a1 a2 => by rw [(q9 k a2).1]; exact v1 k a1 a2) q12 ?_) (by omega) q7 (fun k hk => ?_) lowp (fun k a1 a2 => ?_) (by dsimp only; omega) (by
        rw [if_pos rfl]
        dsimp only
        split
        · exact dbo_not q12
        · exact q12)
      · rcases hc with g | g
        · exact Or.inl g
        · by_cases g0 : p = 0
          · exact Or.inl g0
          · exact Or.inr (by rw [(lowp (p - 1) (by omega)).1]; exact g)
      · have y := q8 k hk
        have y2 := c1 k
        exact ⟨y.1.trans y2.1, y.2.trans y2.2⟩
      · by_cases g : k < p + j
        · rw [(q9 k g).1, v1 k a1 g, bd28]; omega
        · have := q10 k (by omega) a2; omega
  by_cases c : tkK tp n t1 = 40
  · rw [if_pos (show kdT tp n t1 = 40 from c)]
    obtain ⟨N', tu', l2, R⟩ := hbr.1 N1 t1 np z (p + j) k1 w1 c
    refine ⟨N', tu', l2, fin _ N' tu' ?_, fun _ _ => trivial⟩
    cases hr : br false t1 np with
    | inl x => rw [hr] at R; obtain ⟨q1, q2⟩ := rr_0 R; exact rr_i q1 q2
    | inr q =>
      rw [hr] at R
      obtain ⟨q1, q2, z4, p4, q3, q4, q5, q6, q7, q8, q9, q10, q11, q12⟩ := rr_1 R
      subst q2
      have t5 := kak_le hn q3.2.2.2.2.2.2.1
      exact rr_j q1 q3 q4 (pend_weak (by omega) (show (4 : Int) ≤ 7 by omega) t5 q4 q5 (by
        rcases cx1 with g | g
        · exact Or.inl g
        · by_cases g0 : p + j = 0
          · exact Or.inl g0
          · exact Or.inr (by rw [(q9 (p + j - 1) (by omega)).1]; exact g))) q6 q7 q8 q9 (fun k a1 a2 => by have := q10 k a1 a2; omega) q11 q12
  · rw [if_neg (show ¬ kdT tp n t1 = 40 from c)]
    obtain ⟨N', tu', l2, R, _⟩ := hel N1 0 t1 np z (p + j) (Or.inr ⟨rfl, pe, c⟩) k1 w1 cx1 hi1
    exact ⟨N', tu', l2, fin _ N' tu' R, fun _ _ => trivial⟩
end RC
