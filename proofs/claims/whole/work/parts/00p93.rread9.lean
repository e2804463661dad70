section RG
variable {X : MX} {N : NN} {tp : Nat → Int} {n : Nat} {ord : Bool} {W : Int}
theorem r_open8 {a1 : Int} {t np o z p : Nat} (hn : n ≤ 400) (h : RK N tp n ord t np o) (w : PW N t z p) (ho : o = 8) : ∃ M, f_X12_openBracket X N a1 = some M ∧ FSt M tp n t ∧ Fr frRx N M := by
  have fs := r_faultS hn h w
  refine ⟨_, ?_, fs.1, fs.2⟩
  unfold f_X12_openBracket f_X12_openBracket_j15
  rw [if_neg (show ¬ N 64 30 < 8 by rw [h.2.2.2.2.2.1]; omega), r_must0 h, Option.bind_some, if_neg (show ¬ m_up (m_up N 64 19 1) 64 18 (tkS tp n t : Int) 64 19 = 0 by rw [up_k (by omega), up_s]; omega)]
theorem r_open {a1 : Int} {t np o z p : Nat} (hn : n ≤ 400) (hb : ∀ j, j < n → 0 ≤ tp j ∧ tp j ≤ 255) (h : RK N tp n ord t np o) (w : PW N t z p) (ho : o < 8) (hk : tkK tp n t ≠ -1) (ha : 20 ≤ a1 ∧ a1 ≤ 32) : ∃ M, f_X12_openBracket X N a1 = some M ∧ RK M tp n ord (t + 1) np (o + 1) ∧ PW M (t + 1) z (p + 1) ∧ M 77 p = a1 ∧ Fr frRx N M ∧ (∀ k, M 75 k = N 75 k ∧ M 76 k = N 76 k) ∧ ∀ k, k < p → M 77 k = N 77 k ∧ M 78 k = N 78 k := by
  obtain ⟨M2, e2, k2, f2⟩ := r_must1 (X := X) (v := 1) hn hb h hk (by omega)
  have a2 := ag_nx f2
  have w2 := pw_ag w a2
  have t5 := kak_le hn k2.2.2.2.2.2.2.1
  have lt : tkS tp n t < n := Classical.byContradiction fun y => hk ((tk_end hb t).2 y)
  have p4 : p < 400 := by have := w.2.2.2.1; omega
  obtain ⟨M3, hM3⟩ : ∃ M3, M3 = m_up M2 64 30 (((o + 1 : Nat)) : Int) := ⟨_, rfl⟩
  have f3 : Fr (fun o k => o = 64 ∧ k = 30) M2 M3 := by rw [hM3]; exact fr_up fr_rfl (by omega)
  have k3 : RK M3 tp n ord (t + 1) np (o + 1) := by rw [hM3]; exact rk_30 k2 (by omega)
  have w3 := pw_ag w2 (ag_fr f3 fun o k q => by omega)
  have fp := psh_f (N := M3) (p := p) (a := a1) (b := 0)
  have vp := psh_v (N := M3) (p := p) (a := a1) (b := 0)
  refine ⟨pshN M3 p a1 0, ?_, rk_pi k3 (fr_mono fp fun o k q => by unfold frPi; omega), pw_psh w3 ha (by omega), vp.1, fr_tr (fr_nx f2) (fr_tr (fr_mono f3 fun o k q => by unfold frRx; omega) (fr_mono fp fun o k q => by unfold frRx; omega)), fun k => ?_, fun k hk => ?_⟩
  · unfold f_X12_openBracket f_X12_openBracket_j15
    rw [if_pos (show N 64 30 < 8 by rw [h.2.2.2.2.2.1]; omega), e2, Option.bind_some, if_pos k2.2.2.1]
    dsimp only
    rw [k2.2.2.2.2.2.1, w_id (x := (o : Int) + 1) (by omega) (by omega), show (o : Int) + 1 = ((o + 1 : Nat) : Int) by omega, ← hM3, push_eq w3.2.1 p4]
    rfl
  · have y := a2.1 k
    exact ⟨((fp 75 k (by omega)).trans (f3 75 k (by omega))).trans y.1, ((fp 76 k (by omega)).trans (f3 76 k (by omega))).trans y.2.1⟩
  · have y := a2.1 k
    exact ⟨((fp 77 k (by omega)).trans (f3 77 k (by omega))).trans y.2.2.1, ((fp 78 k (by omega)).trans (f3 78 k (by omega))).trans y.2.2.2⟩
/-- a bracket closed -/
theorem r_close {l : Int} {t np o z p z0 d : Nat} {p3 : Nat} {D : Den} (hn : n ≤ 400) (hb : ∀ j, j < n → 0 ≤ tp j ∧ tp j ≤ 255) (hl : 1 ≤ l) (h : RK N tp n ord t np (o + 1)) (w : PW N t z p3) (hk : tkK tp n t ≠ -1) (hp : Pend X W ord N l (p + 1) z0 d D) : ∃ M2 M' z', f_X12_must X N 1 = some M2 ∧ M2 64 19 = 0 ∧ f_X12_settle X M2 l = some M' ∧ m_up (m_up M' 64 29 (m_w (M' 64 29 - 1))) 64 30 (m_w (m_up M' 64 29 (m_w (M' 64 29 - 1)) 64 30 - 1)) = m_up (m_up M' 64 29 (p : Int)) 64 30 (o : Int) ∧ RK (m_up (m_up M' 64 29 (p : Int)) 64 30 (o : Int)) tp n ord (t + 1) np o ∧ PW (m_up (m_up M' 64 29 (p : Int)) 64 30 (o : Int)) (t + 1) z' p ∧ SgR W ord (m_up (m_up M' 64 29 (p : Int)) 64 30 (o : Int)) z0 z' d D ∧ Fr frRx N (m_up (m_up M' 64 29 (p : Int)) 64 30 (o : Int)) ∧ (∀ k, k < z0 → (m_up (m_up M' 64 29 (p : Int)) 64 30 (o : Int)) 75 k = N 75 k ∧ (m_up (m_up M' 64 29 (p : Int)) 64 30 (o : Int)) 76 k = N 76 k) ∧ ∀ k, (m_up (m_up M' 64 29 (p : Int)) 64 30 (o : Int)) 77 k = N 77 k ∧ (m_up (m_up M' 64 29 (p : Int)) 64 30 (o : Int)) 78 k = N 78 k := by
  obtain ⟨M2, e2, k2, f2⟩ := r_must1 (X := X) (v := 1) hn hb h hk (by omega)
  have a2 := ag_nx f2
  have t4 := kak_le hn h.2.2.2.2.2.2.1
  obtain ⟨M', z', s1, s2, s3, s4, s5⟩ := pend_one hl t4 (pw_ag w a2) (pend_ag hp a2)
  have k3 := rk_pi k2 (fr_sp s5)
  have p4 := s2.2.2.2.1
  have fz : Fr (fun o k => o = 64 ∧ (k = 29 ∨ k = 30)) M' (m_up (m_up M' 64 29 (p : Int)) 64 30 (o : Int)) := fr_up (fr_up fr_rfl (by omega)) (by omega)
  have k4 : RK (m_up M' 64 29 (p : Int)) tp n ord (t + 1) np (o + 1) := rk_pi k3 (fr_up fr_rfl (by unfold frPi; omega))
  have o8 := h.2.2.2.2.2.2.2.2.2
  refine ⟨M2, M', z', e2, k2.2.2.1, s1, ?_, rk_30 k4 (by omega), ?_, sg_c s3 fun k _ _ => ⟨fz 75 k (by omega), fz 76 k (by omega)⟩, fr_tr (fr_nx f2) (fr_tr (fr_px (fr_sp s5)) (fr_mono fz fun o k q => by unfold frRx; omega)), fun k hk => ?_, fun k => ?_⟩
  · rw [s2.2.1, w_id (x := ((p + 1 : Nat) : Int) - 1) (by omega) (by omega), show ((p + 1 : Nat) : Int) - 1 = (p : Int) by omega, k4.2.2.2.2.2.1, w_id (x := ((o + 1 : Nat) : Int) - 1) (by omega) (by omega), show ((o + 1 : Nat) : Int) - 1 = (o : Int) by omega]
  · obtain ⟨h1, h2, h3, h4, h5, h6⟩ := s2
    rw [naP] at h3
    refine ⟨by rw [fz 64 23 (by omega)]; exact h1, by rw [up_k (by omega), up_s], ?_, by omega, fun k hk => ?_, fun k hk => by rw [fz 75 k (by omega)]; exact h6 k hk⟩
    · rw [na_c (g := M' 77) p fun k hk => fz 77 k (by omega)]; omega
    · rw [fz 77 k (by omega), fz 78 k (by omega)]; exact h5 k (by omega)
  · have y := s4 k hk
    have y2 := a2.1 k
    exact ⟨((fz 75 k (by omega)).trans y.1).trans y2.1, ((fz 76 k (by omega)).trans y.2).trans y2.2.1⟩
  · have y2 := a2.1 k
    exact ⟨((fz 77 k (by omega)).trans (s5 77 k (by unfold frSe; omega))).trans y2.2.2.1, ((fz 78 k (by omega)).trans (s5 78 k (by unfold frSe; omega))).trans y2.2.2.2⟩
theorem b_tst {t np o z p : Nat} {v : Int} (hn : n ≤ 400) (hb : ∀ j, j < n → 0 ≤ tp j ∧ tp j ≤ 255) (h : RK N tp n ord t np o) (w : PW N t z p) (hk : nJn tp n t) (hi : innP (N 77) p = v) : f_X12_behindTest X N = if v = -1 then some (4, N) else Option.bind (f_X12_must X N (if tkK tp n t = 41 then 1 else 0)) (fun o5 => if (o5 64 19) = 0 then Option.bind (f_X12_settle X o5 1) (fun o6 => let N7 : NN := m_up o6 64 29 (m_w ((o6 64 29) - 1)); let N8 : NN := m_up N7 64 30 (m_w ((N7 64 30) - 1)); some (2, N8)) else some (2, o5)) := by
  have e5 : wC 5 = 1476 := wC_tab ⟨5, by decide⟩
  have e4 : wC 4 = 498 := wC_tab ⟨4, by decide⟩
  have t4 := kak_le hn h.2.2.2.2.2.2.1
  unfold f_X12_behindTest f_X12_behindTest_j128
  rw [← e5, ref_isWord (by decide) hb h.1, Option.bind_some, if_neg (show ¬ tkK tp n t = 256 + ((5 : Nat) : Int) from hk.1), i00, ← e4, ref_isWord (by decide) hb h.1, Option.bind_some, if_neg (show ¬ tkK tp n t = 256 + ((4 : Nat) : Int) from hk.2), i00, ref_inner w.2.1 (by have := w.2.2.2.1; omega), Option.bind_some, hi]
  by_cases c : v = -1
  · rw [if_pos c, if_pos c]
  · rw [if_neg c, if_neg c, ref_isSign (c := 41) (by omega) (by decide) (by decide) hb h.1, Option.bind_some]
theorem r_brk {a : Int} (hn : n ≤ 400) (hb : ∀ j, j < n → 0 ≤ tp j ∧ tp j ≤ 255) (hW : W = (if ord = true then 32 else 9)) : ∀ (e o : Nat), o + e = 8 → HBR X W tp n ord a o (3 * e + 1) (pBr (kdT tp n) (nmT tp n) ord e)
  | 0, o, ho => by
    have e6 : wC 6 = 14836 := wC_tab ⟨6, by decide⟩
    refine ⟨fun N t np z p h w hk => ?_, fun N tu t np z p hs h w hk => ?_⟩
    · obtain ⟨M, e1, e2, e3⟩ := r_open8 (X := X) (a1 := 31) hn h w (by omega)
      refine ⟨M, 0, lp_next ?_, rr_i e3 e2⟩
      show b_X12_readExpression_20 X N a 0 = _
      unfold b_X12_readExpression_20 f_X12_readExpression_l20_j72 f_X12_readPlain
      rw [if_pos h.2.2.1, if_neg (by omega), if_pos rfl, ← e6, ref_isWord (by decide) hb h.1, Option.bind_some, if_neg (show ¬ tkK tp n t = 256 + ((6 : Nat) : Int) by omega), i00, ref_isSign (c := 40) (by omega) (by decide) (by decide) hb h.1, Option.bind_some, if_pos hk, i10, e1]
      rfl
    · obtain ⟨M, e1, e2, e3⟩ := r_open8 (X := X) (a1 := 32) hn h w (by omega)
      refine ⟨M, 1, lp_next ?_, rr_i e3 e2⟩
      rw [b_part hb h hs]
      unfold f_X12_readPart
      rw [ref_isSign (c := 91) (by omega) (by decide) (by decide) hb h.1, Option.bind_some, if_pos hk, i10, e1]
      rfl
  | e + 1, o, ho => by
    have e6 : wC 6 = 14836 := wC_tab ⟨6, by decide⟩
    have ih := r_brk (a := a) hn hb hW e (o + 1) (by omega)
    obtain ⟨rs, rt⟩ := r_all hn hb hW (show 1 ≤ 3 * e + 1 by omega) ih
    refine ⟨fun N t np z p h w hk => ?_, fun N tu t np z p hs h w hk => ?_⟩
    · obtain ⟨M, e1, k1, w1, v1, f1, c1, d1⟩ := r_open (X := X) (a1 := 31) hn hb h w (by omega) (by omega) (by omega)
      have B : FLp X (N, a, 0) = some (.inl (M, a, 0)) := by
        show b_X12_readExpression_20 X N a 0 = _
        unfold b_X12_readExpression_20 f_X12_readExpression_l20_j72 f_X12_readPlain
        rw [if_pos h.2.2.1, if_neg (by omega), if_pos rfl, ← e6, ref_isWord (by decide) hb h.1, Option.bind_some, if_neg (show ¬ tkK tp n t = 256 + ((6 : Nat) : Int) by omega), i00, ref_isSign (c := 40) (by omega) (by decide) (by decide) hb h.1, Option.bind_some, if_pos hk, i10, e1]
        rfl
      have hin : innP (M 77) (p + 1) = 31 := by rw [innP, v1, if_neg (by omega)]
      obtain ⟨N3, tu3, l3, R3, E3⟩ := rt M 0 (t + 1) np z (p + 1) rfl k1 w1 (Or.inr (by rw [Nat.add_sub_cancel, v1]; decide)) (Or.inl hin)
      rw [lp_next B, l3, pBr, if_neg (show ¬ (false = true) by decide), if_neg (show ¬ (false = true) by decide)]
      cases he : pTe (kdT tp n) (nmT tp n) ord (pBr (kdT tp n) (nmT tp n) ord e) (t + 1) np with
      | inl x =>
        rw [he] at R3
        obtain ⟨q1, q2⟩ := rr_0 R3
        exact ⟨N3, tu3, rfl, rr_i (fr_tr f1 q1) q2⟩
      | inr q =>
        rw [he] at R3
        obtain ⟨q1, q2, z3, p3, q3, q4, q5, q6, q7, q8, q9, q10, q11, q12⟩ := rr_1 R3
        subst q2
        dsimp only
        have i3 : innP (N3 77) p3 = 31 := by rw [inn_tr (N := M) q6 (fun k hk => (q9 k hk).1) (fun k a1 a2 => q10 k a1 a2)]; exact hin
        have B3 : FLp X (N3, a, 2) = Option.bind (f_X12_behindTest X N3) (fun o => some (.inl (o.2, a, o.1))) := b_test q3
        rw [b_tst hn hb q3 q4 (E3 q he) i3, if_neg (show ¬ (31 : Int) = -1 by omega)] at B3
        by_cases cc : tkK tp n q.1 = 41
        · rw [if_pos (show kdT tp n q.1 = 41 from cc)]
          rw [if_pos cc] at B3
          obtain ⟨M2, M', z', x1, x2, x3, x4, x5, x6, x7, x8, x9, x10⟩ := r_close hn hb (show (1 : Int) ≤ 1 by omega) q3 q4 (by omega) q5
          rw [x1, Option.bind_some, if_pos x2, x3, Option.bind_some] at B3
          dsimp only at B3
          rw [x4] at B3
          have t5 := kak_le hn x5.2.2.2.2.2.2.1
          rw [if_pos rfl] at q12
          refine ⟨_, 2, lp_next B3, rr_j (fr_tr f1 (fr_tr q1 x8)) x5 x6 (pend_base t5 x6 (seg_d x7 (by omega))) (Nat.le_refl _) x7.1 (fun k hk => ?_) (fun k hk => ?_) (fun k a1 a2 => by omega) (by dsimp only; omega) (by rw [if_pos rfl]; exact q12)⟩
          · have y := x9 k hk
            have y2 := q8 k hk
            have y3 := c1 k
            exact ⟨(y.1.trans y2.1).trans y3.1, (y.2.trans y2.2).trans y3.2⟩
          · have y := x10 k
            have y2 := q9 k (by omega)
            have y3 := d1 k hk
            exact ⟨(y.1.trans y2.1).trans y3.1, (y.2.trans y2.2).trans y3.2⟩
        · rw [if_neg (show ¬ kdT tp n q.1 = 41 from cc)]
          rw [if_neg cc, r_must0 q3, Option.bind_some, if_neg (show ¬ m_up (m_up N3 64 19 1) 64 18 (tkS tp n q.1 : Int) 64 19 = 0 by rw [up_k (by omega), up_s]; omega)] at B3
          have fs := r_faultS hn q3 q4
          exact ⟨_, 2, lp_next B3, rr_i (fr_tr f1 (fr_tr q1 fs.2)) fs.1⟩
    · obtain ⟨M, e1, k1, w1, v1, f1, c1, d1⟩ := r_open (X := X) (a1 := 32) hn hb h w (by omega) (by omega) (by omega)
      have B : FLp X (N, a, tu) = some (.inl (M, a, 1)) := by
        rw [b_part hb h hs]
        unfold f_X12_readPart
        rw [ref_isSign (c := 91) (by omega) (by decide) (by decide) hb h.1, Option.bind_some, if_pos hk, i10, e1]
        rfl
      have hin : innP (M 77) (p + 1) = 32 := by rw [innP, v1, if_neg (by omega)]
      obtain ⟨N3, tu3, l3, R3, E3⟩ := rs M 1 (t + 1) np z (p + 1) (Or.inl rfl) k1 w1 (Or.inr (by rw [Nat.add_sub_cancel, v1]; decide)) trivial
      rw [lp_next B, l3, pBr, if_pos rfl, if_pos rfl]
      cases he : pSm (kdT tp n) (nmT tp n) ord (pBr (kdT tp n) (nmT tp n) ord e) (t + 1) np with
      | inl x =>
        rw [he] at R3
        obtain ⟨q1, q2⟩ := rr_0 R3
        exact ⟨N3, tu3, rfl, rr_i (fr_tr f1 q1) q2⟩
      | inr q =>
        rw [he] at R3
        obtain ⟨q1, q2, z3, p3, q3, q4, q5, q6, q7, q8, q9, q10, q11, q12⟩ := rr_1 R3
        subst q2
        dsimp only
        have t5 := kak_le hn q3.2.2.2.2.2.2.1
        have i3 : innP (N3 77) p3 = 32 := by rw [inn_tr (N := M) q6 (fun k hk => (q9 k hk).1) (fun k a1 a2 => by have := q10 k a1 a2; omega)]; exact hin
        have ha := E3 q he
        unfold nOp at ha
        have B3 : FLp X (N3, a, 3) = Option.bind (f_X12_behindSum X N3 a) (fun o => some (.inl (o.2, a, o.1))) := b_sum q3
        rw [bs_sg hb q3, if_neg (by omega), if_neg (by omega), if_neg (by omega), if_neg (by omega), if_neg (by omega)] at B3
        unfold f_X12_behindSum_j71 f_X12_behindSum_j150 at B3
        rw [if_pos rfl, ref_inner q4.2.1 (by have := q4.2.2.2.1; omega), Option.bind_some, i3, if_pos rfl, ref_isSign (c := 93) (by omega) (by decide) (by decide) hb q3.1, Option.bind_some] at B3
        by_cases cc : tkK tp n q.1 = 93
        · rw [if_pos (show kdT tp n q.1 = 93 from cc)]
          rw [if_pos cc] at B3
          obtain ⟨M2, M', z', x1, x2, x3, x4, x5, x6, x7, x8, x9, x10⟩ := r_close hn hb (show (1 : Int) ≤ 5 by omega) q3 q4 (by omega) q5
          rw [x1, Option.bind_some, if_pos x2, x3, Option.bind_some] at B3
          dsimp only at B3
          rw [x4] at B3
          have t6 := kak_le hn x5.2.2.2.2.2.2.1
          rw [if_neg (show ¬ (false = true) by decide)] at q12
          refine ⟨_, 3, lp_next B3, rr_j (fr_tr f1 (fr_tr q1 x8)) x5 x6 (pend_base t6 x6 (seg_d x7 (by omega))) (Nat.le_refl _) x7.1 (fun k hk => ?_) (fun k hk => ?_) (fun k a1 a2 => by omega) (by dsimp only; omega) (by rw [if_neg (show ¬ (false = true) by decide)]; exact q12)⟩
          · have y := x9 k hk
            have y2 := q8 k hk
            have y3 := c1 k
            exact ⟨(y.1.trans y2.1).trans y3.1, (y.2.trans y2.2).trans y3.2⟩
          · have y := x10 k
            have y2 := q9 k (by omega)
            have y3 := d1 k hk
            exact ⟨(y.1.trans y2.1).trans y3.1, (y.2.trans y2.2).trans y3.2⟩
        · rw [if_neg (show ¬ kdT tp n q.1 = 93 from cc)]
          rw [if_neg cc, r_must0 q3, Option.bind_some, if_neg (show ¬ m_up (m_up N3 64 19 1) 64 18 (tkS tp n q.1 : Int) 64 19 = 0 by rw [up_k (by omega), up_s]; omega)] at B3
          have fs := r_faultS hn q3 q4
          exact ⟨_, 3, lp_next B3, rr_i (fr_tr f1 (fr_tr q1 fs.2)) fs.1⟩
end RG
