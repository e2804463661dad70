/-! orders are run: the class's -/
section OS1
variable {X : MX} {N : NN} {B : Int} {lw : Nat → Law}
theorem frS_q {N' : NN} (h : Fr (frSt 41) N N') : Fr frQo N N' := fr_mono h fun o k q => by unfold frSt at q; unfold frQo; omega
theorem fr4_q {N' : NN} (h : Fr (fun o k => o = 40) N N') : Fr frQo N N' := fr_mono h fun o k q => by unfold frQo; omega
theorem frJ_q {N' : NN} (h : Fr frJ N N') : Fr frQo N N' := fr_mono h fun o k q => by unfold frJ at q; unfold frQo; omega
theorem cs_env {s : OS} (h : CS X B lw N s) (hd : s.2.2.1 ≤ 300) : EnvOK (envO s.1 s.2.2.1 s.2.2.2) := envO_ok h.1.2.1 ⟨h.2.2.2.2.2.1, by omega⟩ ⟨h.2.2.2.2.2.2.1, h.2.2.2.2.2.2.2⟩
theorem c_step {s : OS} {c : OCl} {z i : Nat} (hX : XOK X) (hi : i < 12) (hz : z ≤ 400) (h3 : N 21 3 = (z : Int)) (hc : COC 32 N i c z) (hB : B + 300 ≤ 1000000) (hd : s.2.2.1 ≤ 280) (h : CS X B lw N s) : Ok (f_X3_step X 21 4 13 N (i : Int)) (fun o => Fr frOr N o.2 ∧ ((stepO lw c s = none ∧ o.1 = 0) ∨ ∃ s', stepO lw c s = some s' ∧ o.1 = 1 ∧ CS X B lw o.2 s' ∧ s'.2.2.1 ≤ s.2.2.1 + 1)) := by
  obtain ⟨r, un, dn, la⟩ := s
  have he := cs_env h (by dsimp only at hd ⊢; omega)
  have hW := h.1
  have hV : Vr (B + dn) r := hW.2.1
  have hU : UV (B + dn) r un := h.2.2.2.2.1
  have d0 : 0 ≤ dn := h.2.2.2.2.2.1
  have l0 : -1 ≤ la ∧ la ≤ 999 := h.2.2.2.2.2.2
  have hd' : dn ≤ 280 := hd
  have hT : m_isT X 21 := hX.2.2.2.2.1
  dsimp only at he
  unfold f_X3_step
  refine ok_bind (c_look (X := X) hW.1 hV h.2.2.1 h.2.2.2.1) ?_
  intro N1 ⟨E1, F1⟩
  rw [if_pos hT]
  have Q1 := fr4_q F1
  have c1 : COC 32 N1 i c z := coc_mono hc (Nat.le_refl _) (fun k _ => F1 24 k (by omega)) (fun k _ => ⟨F1 22 k (by omega), F1 23 k (by omega)⟩)
  have h31 : N1 21 3 = (z : Int) := (F1 21 3 (by omega)).trans h3
  refine ok_bind (c_oso hX hi hz h31 c1 E1 he) ?_
  rintro ⟨v, N2⟩ ⟨p1, p2⟩
  dsimp only at p1 p2 ⊢
  have Q2 := fr_tr Q1 (frS_q p2)
  have S2 := cs_fr h Q2
  have es : stepO lw c (r, un, dn, la) = if soB c.2.2.1 (envO r dn la) = true then actO lw (r, un, dn, la) c.2.2.2 else some (r, un, dn, la) := rfl
  by_cases so : soB c.2.2.1 (envO r dn la) = true
  case neg =>
    rw [if_neg so] at p1 es
    subst p1
    rw [if_pos rfl]
    exact ok_ret ⟨fr_qo Q2, Or.inr ⟨_, es, rfl, S2, by dsimp only; omega⟩⟩
  rw [if_pos so] at p1 es
  subst p1
  rw [if_neg (show ¬ (1 : Int) = 0 by omega), if_pos hT]
  have c2 : COC 32 N2 i c z := coc_mono c1 (Nat.le_refl _) (fun k _ => p2 24 k (by unfold frSt; omega)) (fun k _ => ⟨p2 22 k (by unfold frSt; omega), p2 23 k (by unfold frSt; omega)⟩)
  have h32 : N2 21 3 = (z : Int) := (p2 21 3 (by unfold frSt; omega)).trans h31
  have E2 : ∀ j : Nat, j < 32 → N2 40 j = envO r dn la j := fun j hj => (p2 40 j (by unfold frSt; omega)).trans (E1 j hj)
  have part0 : f_X8_part X N2 21 (i : Int) 0 = some (263 + 2 * c.1) := by
    have := c_partO (X := X) (N := N2) (i := i) (a := 0) hX hi (by omega)
    rw [Nat.add_zero, c2.1] at this
    exact this
  rw [part0, Option.bind_some]
  obtain ⟨_, ck, _, _, _, cs⟩ := c2
  cases hd : c.2.2.2 with
  | none =>
    rw [hd] at cs es
    have k1 : c.1 = 1 := cs
    rw [if_pos (show (263 : Int) + 2 * c.1 = 265 by omega)]
    have t1 : f_X10_term X N2 4 0 = some (r 6) := c_term (r := r) S2.1.1 (by omega) (by omega)
    rw [t1, Option.bind_some]
    have ea : actO lw (r, un, dn, la) none = if r 6 ≤ 998 then some ((waitS r lw 0).1, pushU un r 1, dn + 1, la) else none := rfl
    rw [ea] at es
    by_cases y : r 6 ≤ 998
    case neg =>
      rw [if_neg y] at es
      rw [if_neg (by omega)]
      exact ok_ret ⟨fr_qo Q2, Or.inl ⟨es, rfl⟩⟩
    rw [if_pos y] at es
    rw [if_pos (by omega)]
    obtain ⟨w1, w2, w3, w4, w5⟩ := wait_vr (lw := lw) (b := 0) hV y
    refine ok_bind (c_keep (k := 1) hX S2.2.1 hU.1 S2.1.1) ?_
    intro N3 ⟨u1, u2⟩
    have hW3 : CW X N3 4 (B + dn) r lw := cw_eq S2.1 (fr_of u2 _ fun k => by unfold frP; omega) (fr_of u2 _ fun k => by unfold frP; omega) (fun o p => fr_of u2 _ fun k => by unfold frP; omega)
    refine ok_bind (c_passYear (b := 0) (Or.inl rfl) (xok26 hX) hW3 (by omega) y) ?_
    rintro ⟨v2, N4⟩ ⟨x1, x2, x3⟩
    dsimp only at x1 x2 x3 ⊢
    unfold f_X3_step_j159
    have n6 : N4 33 6 = dn := by rw [x3 33 6 (by unfold frD; omega), u2 33 6 (by unfold frP; omega)]; exact S2.2.2.1
    have n7 : N4 33 7 = la := by rw [x3 33 7 (by unfold frD; omega), u2 33 7 (by unfold frP; omega)]; exact S2.2.2.2.1
    dsimp only
    rw [n6, w_id (by omega) (by omega)]
    have f5 : Fr frOr N4 (m_up N4 33 6 (dn + 1)) := fr_up fr_rfl (by unfold frOr; omega)
    have fN : Fr frOr N (m_up N4 33 6 (dn + 1)) := fr_tr (fr_qo Q2) (fr_tr (fr_ko (frK_P u2)) (fr_tr (fr_ko (frK_D x3)) f5))
    have w5 : CW X (m_up N4 33 6 (dn + 1)) 4 (B + (dn + 1)) (waitS r lw 0).1 lw := cw_B (cw_eq x2 (up_of (by omega)) (up_of (by omega)) (fun o p => up_of (by omega))) (by omega) (by omega)
    have u5 : CUn (m_up N4 33 6 (dn + 1)) (pushU un r 1) := cun_eq (cun_P u1 x3) (up_of (by omega)) (up_of (by omega)) (up_of (by omega))
    have v5 : UV (B + (dn + 1)) (waitS r lw 0).1 (pushU un r 1) := uv_push hU hV (by omega) (by omega) (w2.1 0 (by omega)) (w2.1 1 (by omega)) w2.2.1 w2.2.2.1
    have s6 : m_up N4 33 6 (dn + 1) 33 6 = dn + 1 := up_s
    have s7 : m_up N4 33 6 (dn + 1) 33 7 = la := (up_k (by omega)).trans n7
    generalize (waitS r lw 0).1 = r' at es w5 v5
    exact ok_ret ⟨fN, Or.inr ⟨(r', pushU un r 1, dn + 1, la), es, rfl, ⟨w5, u5, s6, s7, v5, show 0 ≤ dn + 1 by omega, l0.1, l0.2⟩, Int.le_refl _⟩⟩
  | some D =>
    rw [hd] at cs es
    obtain ⟨k0, ⟨sA, bA⟩, sB, bB⟩ := cs
    rw [if_neg (show ¬ (263 : Int) + 2 * c.1 = 265 by omega), if_pos hT]
    refine ok_bind (c_osum (a := 4) hX hi (by omega) hz h32 sA E2 he) ?_
    rintro ⟨a, N3⟩ ⟨q1, q2⟩
    dsimp only at q1 q2 ⊢
    rw [if_pos hT]
    have sB3 : SC 32 N3 (8 * i + 6) z D.2 := sc_mono sB (Nat.le_refl _) (q2 24 _ (by unfold frSt; omega)) (q2 24 _ (by unfold frSt; omega)) (fun k _ => ⟨q2 22 k (by unfold frSt; omega), q2 23 k (by unfold frSt; omega)⟩)
    refine ok_bind (c_osum (a := 6) hX hi (by omega) hz ((q2 21 3 (by unfold frSt; omega)).trans h32) sB3 (fun j hj => (q2 40 j (by unfold frSt; omega)).trans (E2 j hj)) he) ?_
    rintro ⟨b, N4⟩ ⟨q3, q4⟩
    dsimp only at q3 q4 ⊢
    have Q4 : Fr frQo N N4 := fr_tr Q2 (fr_tr (frS_q q2) (frS_q q4))
    have S4 := cs_fr h Q4
    have ea : actO lw (r, un, dn, la) (some D) = giveO lw (r, un, dn, la) (D.1 (envO r dn la)) (D.2 (envO r dn la)) := rfl
    rw [ea] at es
    have v0 := hV.1
    have v1 := hV.2.1
    have stop : ∀ M : NN, Fr frQo N M → stepO lw c (r, un, dn, la) = none → Ok (f_X3_step_j134 X 21 4 13 M) (fun o => Fr frOr N o.2 ∧ ((stepO lw c (r, un, dn, la) = none ∧ o.1 = 0) ∨ ∃ s', stepO lw c (r, un, dn, la) = some s' ∧ o.1 = 1 ∧ CS X B lw o.2 s' ∧ s'.2.2.1 ≤ dn + 1)) := fun M f e => ok_ret ⟨fr_qo f, Or.inl ⟨e, rfl⟩⟩
    rw [c_isGood (r := r) S4.1.1, Option.bind_some]
    by_cases ya : 0 ≤ a ∧ a < r 1
    case neg =>
      rw [if_neg ya, i00]
      refine stop N4 Q4 ?_
      rw [es]
      cases ha : D.1 (envO r dn la) with
      | none => rfl
      | some g =>
        cases hb : D.2 (envO r dn la) with
        | none => rfl
        | some t =>
          have ag : a = g := by rw [q1, ha]; rfl
          have e : giveO lw (r, un, dn, la) (some g) (some t) = if (0 ≤ g ∧ g < r 1) ∧ (0 ≤ t ∧ t < r 0) ∧ canB r lw g t = true then some (handS r lw g t, pushU un r 0, dn + 1, worthS r lw g (rg r g 0) t) else none := rfl
          rw [e, if_neg (fun y => ya (by rw [ag]; exact y.1))]
    rw [if_pos ya, i10, c_isLord (r := r) S4.1.1, Option.bind_some]
    by_cases yb : 0 ≤ b ∧ b < r 0
    case neg =>
      rw [if_neg yb, i00]
      refine stop N4 Q4 ?_
      rw [es]
      cases ha : D.1 (envO r dn la) with
      | none => rfl
      | some g =>
        cases hb : D.2 (envO r dn la) with
        | none => rfl
        | some t =>
          have bt : b = t := by rw [q3, hb]; rfl
          have e : giveO lw (r, un, dn, la) (some g) (some t) = if (0 ≤ g ∧ g < r 1) ∧ (0 ≤ t ∧ t < r 0) ∧ canB r lw g t = true then some (handS r lw g t, pushU un r 0, dn + 1, worthS r lw g (rg r g 0) t) else none := rfl
          rw [e, if_neg (fun y => yb (by rw [bt]; exact y.2.1))]
    rw [if_pos yb, i10]
    have ha : D.1 (envO r dn la) = some a := by
      cases ha : D.1 (envO r dn la) with
      | none => rw [ha] at q1; have q1' : a = -2000000000 := q1; omega
      | some g => rw [ha] at q1; exact congrArg some (show a = g from q1).symm
    have hb : D.2 (envO r dn la) = some b := by
      cases hb : D.2 (envO r dn la) with
      | none => rw [hb] at q3; have q3' : b = -2000000000 := q3; omega
      | some g => rw [hb] at q3; exact congrArg some (show b = g from q3).symm
    have e : giveO lw (r, un, dn, la) (some a) (some b) = if (0 ≤ a ∧ a < r 1) ∧ (0 ≤ b ∧ b < r 0) ∧ canB r lw a b = true then some (handS r lw a b, pushU un r 0, dn + 1, worthS r lw a (rg r a 0) b) else none := rfl
    rw [ha, hb, e] at es
    refine ok_bind (c_mayGive (Or.inl rfl) (xok26 hX) S4.1 ya.1 ya.2 yb.1 yb.2) ?_
    rintro ⟨v, N5⟩ ⟨p1, p2⟩
    dsimp only at p1 p2 ⊢
    have Q5 : Fr frQo N N5 := fr_tr Q4 (frJ_q p2)
    rcases p1 with ⟨cn, v1⟩ | ⟨cn, v0⟩
    case inr =>
      subst v0
      rw [if_pos rfl]
      refine stop N5 Q5 ?_
      rw [es, if_neg (fun y => cn (canB_iff.1 y.2.2))]
    subst v1
    rw [if_neg (show ¬ (1 : Int) = 0 by omega)]
    rw [if_pos ⟨ya, yb, canB_iff.2 cn⟩] at es
    have S5 := cs_fr h Q5
    refine ok_bind (c_keep (k := 0) hX S5.2.1 hU.1 S5.1.1) ?_
    intro N6 ⟨u1, u2⟩
    have hW6 : CW X N6 4 (B + dn) r lw := cw_eq S5.1 (fr_of u2 _ fun k => by unfold frP; omega) (fr_of u2 _ fun k => by unfold frP; omega) (fun o p => fr_of u2 _ fun k => by unfold frP; omega)
    refine ok_bind (c_hand (Or.inl rfl) (xok26 hX) hW6 (by omega) ya.1 ya.2 yb.1 yb.2 cn.1) ?_
    rintro ⟨v2, N7⟩ ⟨w1, w2, w3⟩
    dsimp only at w1 w2 w3 ⊢
    subst w1
    have hwb := worthS_b r lw a (rg r a 0) b
    have hn : ∀ j : Nat, j < 9 → handS r lw a b j = r j := fun j hj => hand_ne hV ya.1 ya.2 yb.1 hj
    unfold f_X3_step_j159
    have n6 : N7 33 6 = dn := by rw [w3 33 6 (by unfold frD; omega), u2 33 6 (by unfold frP; omega)]; exact S5.2.2.1
    dsimp only
    rw [up_k (by omega), n6, w_id (by omega) (by omega)]
    have f5 : Fr frOr N7 (m_up (m_up N7 33 7 (worthS r lw a (rg r a 0) b)) 33 6 (dn + 1)) := fr_up (fr_up fr_rfl (by unfold frOr; omega)) (by unfold frOr; omega)
    obtain ⟨P, hP⟩ : ∃ P, P = m_up (m_up N7 33 7 (worthS r lw a (rg r a 0) b)) 33 6 (dn + 1) := ⟨_, rfl⟩
    have zP : ∀ o, o ≠ 33 → P o = N7 o := fun o q => by rw [hP, up_of q, up_of q]
    rw [← hP] at f5 ⊢
    have w5 : CW X P 4 (B + (dn + 1)) (handS r lw a b) lw := by
      rw [show B + (dn + 1) = B + dn + 1 by omega]
      exact cw_eq w2 (zP _ (by omega)) (zP _ (by omega)) (fun o p => zP _ (by omega))
    have u5 : CUn P (pushU un r 0) := cun_eq (cun_P u1 w3) (zP _ (by omega)) (zP _ (by omega)) (zP _ (by omega))
    have v5 : UV (B + (dn + 1)) (handS r lw a b) (pushU un r 0) := uv_push hU hV (by omega) (by omega) (hn 0 (by omega)) (hn 1 (by omega)) (hn 7 (by omega)) (hn 8 (by omega))
    have s6 : P 33 6 = dn + 1 := by rw [hP, up_s]
    have s7 : P 33 7 = worthS r lw a (rg r a 0) b := by rw [hP, up_k (by omega), up_s]
    exact ok_ret ⟨fr_tr (fr_qo Q5) (fr_tr (fr_ko (frK_P u2)) (fr_tr (fr_ko (frK_D w3)) f5)), Or.inr ⟨(handS r lw a b, pushU un r 0, dn + 1, worthS r lw a (rg r a 0) b), es, rfl, ⟨w5, u5, s6, s7, v5, show 0 ≤ dn + 1 by omega, show -1 ≤ worthS r lw a (rg r a 0) b by omega, show worthS r lw a (rg r a 0) b ≤ 999 by omega⟩, Int.le_refl _⟩⟩
theorem c_rep {c : OCl} {z i T : Nat} (hX : XOK X) (hi : i < 12) (hz : z ≤ 400) (hT : T ≤ 20) (hB : B + 300 ≤ 1000000) : ∀ (k m : Nat) (s : OS) (N : NN), m + k = T → N 21 3 = (z : Int) → COC 32 N i c z → s.2.2.1 + k ≤ 280 → CS X B lw N s → Ok (lp (fun s => b_X3_run_55 X 21 4 13 s.1 s.2.1 s.2.2.1 s.2.2.2) (N, (i : Int), (T : Int), (m : Int))) (fun o => (repO lw c k s = none ∧ ∃ M, o = .inr (M, (i : Int)) ∧ Fr frOr N M) ∨ ∃ s' M, repO lw c k s = some s' ∧ o = .inl (M, (i : Int)) ∧ Fr frOr N M ∧ CS X B lw M s' ∧ s'.2.2.1 ≤ s.2.2.1 + k)
  | 0, m, s, N, hm, h3, hc, hd, h => by
    rw [lp_end (t := .inl (N, (i : Int))) (by dsimp only; unfold b_X3_run_55; rw [if_neg (by omega)])]
    exact ok_ret (Or.inr ⟨s, N, rfl, rfl, fr_rfl, h, by omega⟩)
  | k + 1, m, s, N, hm, h3, hc, hd, h => by
    obtain ⟨⟨v, M⟩, e, f, R⟩ := c_step (X := X) (N := N) (lw := lw) (s := s) (c := c) hX hi hz h3 hc hB (by omega) h
    dsimp only at f R
    rcases R with ⟨e0, v0⟩ | ⟨s', e1, v1, S1, d1⟩
    · subst v0
      have Bd : b_X3_run_55 X 21 4 13 N (i : Int) (T : Int) (m : Int) = some (.inr (.inr (M, (i : Int)))) := by
        unfold b_X3_run_55
        rw [if_pos (by omega), e, Option.bind_some, if_pos rfl]
      rw [lp_end (f := fun s => b_X3_run_55 X 21 4 13 s.1 s.2.1 s.2.2.1 s.2.2.2) (s := (N, (i : Int), (T : Int), (m : Int))) Bd]
      exact ok_ret (Or.inl ⟨by rw [repO, e0], M, rfl, f⟩)
    · subst v1
      have Bd : b_X3_run_55 X 21 4 13 N (i : Int) (T : Int) (m : Int) = some (.inl (M, (i : Int), (T : Int), ((m + 1 : Nat) : Int))) := by
        unfold b_X3_run_55
        rw [if_pos (by omega), e, Option.bind_some, if_neg (show ¬ (1 : Int) = 0 by omega), w_id (by omega) (by omega)]
        rfl
      rw [lp_next (f := fun s => b_X3_run_55 X 21 4 13 s.1 s.2.1 s.2.2.1 s.2.2.2) (s := (N, (i : Int), (T : Int), (m : Int))) Bd]
      have z22 : ∀ o, (o = 22 ∨ o = 23 ∨ o = 24) → ∀ k, M o k = N o k := fun o q k => f o k (by unfold frOr frK; omega)
      have ih := c_rep hX hi hz hT hB k (m + 1) s' M (by omega) ((f 21 3 (by unfold frOr frK; omega)).trans h3) (coc_mono hc (Nat.le_refl _) (fun j _ => z22 24 (by omega) j) (fun j _ => ⟨z22 22 (by omega) j, z22 23 (by omega) j⟩)) (by omega) S1
      refine ok_mono ih ?_
      rintro o (⟨r0, M', ro, rf⟩ | ⟨s2, M', r1, ro, rf, rS, rd⟩)
      · exact Or.inl ⟨by rw [repO, e1]; exact r0, M', ro, fr_tr f rf⟩
      · exact Or.inr ⟨s2, M', by rw [repO, e1]; exact r1, ro, fr_tr f rf, rS, by omega⟩
theorem c_runL {L : List OCl} {z : Nat} (hX : XOK X) (hz : z ≤ 400) (hL : L.length ≤ 12) (hB : B + 300 ≤ 1000000) : ∀ (f i : Nat) (s : OS) (N : NN), i + f = 13 → i ≤ L.length → N 21 3 = (z : Int) → N 21 4 = (L.length : Int) → (∀ j c, L[j]? = some c → COC 32 N j c z) → s.2.2.1 ≤ 20 * (i : Int) → CS X B lw N s → Ok (lp (fun s => b_X3_run_34 X 21 4 13 s.1 s.2) (N, (i : Int))) (fun o => (∃ (j : Nat) (M : NN), runO lw L f i s = .inl j ∧ o = .inr (M, (j : Int)) ∧ Fr frOr N M) ∨ ∃ s' M, runO lw L f i s = .inr s' ∧ o = .inl M ∧ Fr frOr N M ∧ CS X B lw M s' ∧ s'.2.2.1 ≤ 240)
  | 0, i, s, N, hi, hl, h3, h4, hc, hd, h => by omega
  | f + 1, i, s, N, hi, hl, h3, h4, hc, hd, h => by
    have hT : m_isT X 21 := hX.2.2.2.2.1
    have ec : f_X8_clauses X N 21 = some (L.length : Int) := by unfold f_X8_clauses; rw [h4]
    cases hg : L[i]? with
    | none =>
      have il : i = L.length := by
        rcases Nat.lt_or_ge i L.length with y | y
        · rw [List.getElem?_eq_getElem y] at hg; cases hg
        · omega
      have Bd : b_X3_run_34 X 21 4 13 N (i : Int) = some (.inr (.inl N)) := by
        unfold b_X3_run_34
        rw [if_pos hT, ec, Option.bind_some, if_neg (by omega)]
      rw [lp_end (f := fun s => b_X3_run_34 X 21 4 13 s.1 s.2) (s := (N, (i : Int))) Bd]
      exact ok_ret (Or.inr ⟨s, N, by rw [runO, hg], rfl, fr_rfl, h, by omega⟩)
    | some c =>
      have il := olget_lt hg
      have c0 := hc i c hg
      obtain ⟨_, _, cT, cT2, _, _⟩ := id c0
      obtain ⟨T, hT'⟩ := Int.eq_ofNat_of_zero_le (show 0 ≤ c.2.1 by omega)
      have part1 : f_X8_part X N 21 (i : Int) 1 = some (T : Int) := by
        have := c_partO (X := X) (N := N) (i := i) (a := 1) hX (by omega) (by omega)
        rw [cT, hT'] at this
        exact this
      obtain ⟨o, eo, R⟩ := c_rep (lw := lw) (B := B) (c := c) (T := T) hX (show i < 12 by omega) hz (by omega) hB T 0 s N (by omega) h3 c0 (by omega) h
      rw [show ((0 : Nat) : Int) = 0 from rfl] at eo
      have tT : c.2.1.toNat = T := by omega
      rcases R with ⟨r0, M, rfl, rf⟩ | ⟨s', M, r1, rfl, rf, rS, rd⟩
      · have Bd : b_X3_run_34 X 21 4 13 N (i : Int) = some (.inr (.inr (M, (i : Int)))) := by
          unfold b_X3_run_34
          rw [if_pos hT, ec, Option.bind_some, if_pos (by omega), if_pos hT, part1, Option.bind_some, eo, Option.bind_some]
        rw [lp_end (f := fun s => b_X3_run_34 X 21 4 13 s.1 s.2) (s := (N, (i : Int))) Bd]
        exact ok_ret (Or.inl ⟨i, M, by rw [runO, hg]; dsimp only; rw [tT, r0], rfl, rf⟩)
      · have Bd : b_X3_run_34 X 21 4 13 N (i : Int) = some (.inl (M, ((i + 1 : Nat) : Int))) := by
          unfold b_X3_run_34
          rw [if_pos hT, ec, Option.bind_some, if_pos (by omega), if_pos hT, part1, Option.bind_some, eo, Option.bind_some]
          dsimp only
          rw [w_id (by omega) (by omega)]
          rfl
        rw [lp_next (f := fun s => b_X3_run_34 X 21 4 13 s.1 s.2) (s := (N, (i : Int))) Bd]
        have zz : ∀ o, (o = 21 ∨ o = 22 ∨ o = 23 ∨ o = 24) → ∀ k, M o k = N o k := fun o q k => rf o k (by unfold frOr frK; omega)
        have ih := c_runL hX hz hL hB f (i + 1) s' M (by omega) (by omega) ((zz 21 (by omega) 3).trans h3) ((zz 21 (by omega) 4).trans h4) (fun j c' hj => coc_mono (hc j c' hj) (Nat.le_refl _) (fun k _ => zz 24 (by omega) k) (fun k _ => ⟨zz 22 (by omega) k, zz 23 (by omega) k⟩)) (by omega) rS
        have er : runO lw L (f + 1) i s = runO lw L f (i + 1) s' := by
          rw [runO, hg]
          dsimp only
          rw [tT, r1]
        rw [er]
        refine ok_mono ih ?_
        rintro o (⟨j, M', a1, a2, a3⟩ | ⟨s2, M', a1, a2, a3, a4⟩)
        · exact Or.inl ⟨j, M', a1, a2, fr_tr rf a3⟩
        · exact Or.inr ⟨s2, M', a1, a2, fr_tr rf a3, a4⟩
end OS1
