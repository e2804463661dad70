/-! reading: the reference's TERMS and SUMS -/
noncomputable abbrev FLp (X : MX) : NN × Int × Int → Option ((NN × Int × Int) ⊕ NN) := fun s => b_X12_readExpression_20 X s.1 s.2.1 s.2.2
def Cx (N : NN) (p : Nat) (l : Int) : Prop := p = 0 ∨ bdP (N 77 (p - 1)) < l
def HIn (N : NN) (p : Nat) (a : Int) : Prop := innP (N 77) p = 31 ∨ (innP (N 77) p = -1 ∧ a ≠ 0)
noncomputable def StP (tp : Nat → Int) (n : Nat) (tu : Int) (t : Nat) : Prop := tu = 1 ∨ (tu = 0 ∧ tkK tp n t ≠ 262 ∧ tkK tp n t ≠ 40)
def ER (X : MX) (W : Int) (tp : Nat → Int) (n : Nat) (ord : Bool) (a : Int) (o d : Nat) (l tn : Int) (bo : Bool) (S : Int → Nat → Prop) (C : NN → Nat → Prop) (E : Nat → Prop) (sp : Nat → Nat → PR) : Prop :=
  ∀ (N : NN) (tu : Int) (t np z p : Nat), S tu t → RK N tp n ord t np o → PW N t z p → Cx N p l → C N p → ∃ N' tu', lp (FLp X) (N, a, tu) = lp (FLp X) (N', a, tu') ∧ RR X W tp n ord N t z p o d l tn bo (sp t np) N' tu' ∧ ∀ q, sp t np = .inr q → E q.1
section RT
variable {X : MX} {N : NN} {tp : Nat → Int} {n : Nat} {ord : Bool} {W : Int}
theorem rr_tr {N1 N' : NN} {t t1 z p o d : Nat} {l tn tu : Int} {bo : Bool} {r : PR} (h : RR X W tp n ord N1 t1 z p o d l tn bo r N' tu) (ht : t ≤ t1) (hf : Fr frRx N N1) (h7 : ∀ k, k < z → N1 75 k = N 75 k ∧ N1 76 k = N 76 k) (h8 : ∀ k, k < p → N1 77 k = N 77 k ∧ N1 78 k = N 78 k) : RR X W tp n ord N t z p o d l tn bo r N' tu := by
  cases r with
  | inl f => exact ⟨fr_tr hf h.1, h.2⟩
  | inr q =>
    obtain ⟨f1, e, z', p', a1, a2, a3, a4, a5, a6, a7, a8, a9, a10⟩ := h
    exact ⟨fr_tr hf f1, e, z', p', a1, a2, a3, a4, a5, fun k hk => ⟨(a6 k hk).1.trans (h7 k hk).1, (a6 k hk).2.trans (h7 k hk).2⟩, fun k hk => ⟨(a7 k hk).1.trans (h8 k hk).1, (a7 k hk).2.trans (h8 k hk).2⟩, a8, by omega, a10⟩
theorem rr_0 {N' : NN} {t z p o d : Nat} {l tn tu : Int} {bo : Bool} {f : Nat} (h : RR X W tp n ord N t z p o d l tn bo (.inl f) N' tu) : Fr frRx N N' ∧ FSt N' tp n f := h
theorem rr_1 {N' : NN} {t z p o d : Nat} {l tn tu : Int} {bo : Bool} {q : Nat × Nat × Den} (h : RR X W tp n ord N t z p o d l tn bo (.inr q) N' tu) : Fr frRx N N' ∧ tu = tn ∧ ∃ z' p', RK N' tp n ord q.1 q.2.1 o ∧ PW N' q.1 z' p' ∧ Pend X W ord N' l p z d q.2.2 ∧ p ≤ p' ∧ z < z' ∧ (∀ k, k < z → N' 75 k = N 75 k ∧ N' 76 k = N 76 k) ∧ (∀ k, k < p → N' 77 k = N 77 k ∧ N' 78 k = N 78 k) ∧ (∀ k, p ≤ k → k < p' → l ≤ bdP (N' 77 k)) ∧ t < q.1 ∧ (if bo = true then DBo q.2.2 else DBd q.2.2) := h
theorem pend_one {t z p p0 z0 d : Nat} {D : Den} {l : Int} (hl : 1 ≤ l) (ht : t ≤ 400) (h : PW N t z p) (hp : Pend X W ord N l p0 z0 d D) : ∃ M' z', f_X12_settle X N l = some M' ∧ PW M' t z' p0 ∧ SgR W ord M' z0 z' d D ∧ (∀ k, k < z0 → M' 75 k = N 75 k ∧ M' 76 k = N 76 k) ∧ Fr frSe N M' := by
  obtain ⟨M', z', h1, h2, h3, h4, h5, h6⟩ := hp N ag_rfl
  obtain ⟨M1, z1, p1, r1, r2, r3, _⟩ := st_ok p z t N l l hl (Int.le_refl _) ht h (X := X)
  have e : M1 = M' := by rw [h1] at r1; exact (Option.some.inj r1).symm
  subst e
  have ep : p1 = p0 := by have := r3.2.1; omega
  have ez : z1 = z' := by have := r3.1; omega
  subst ep
  subst ez
  exact ⟨M1, z1, h1, r3, h4, h5, h6⟩
theorem b_part {a tu : Int} {t np o : Nat} (hb : ∀ j, j < n → 0 ≤ tp j ∧ tp j ≤ 255) (h : RK N tp n ord t np o) (hs : StP tp n tu t) : FLp X (N, a, tu) = Option.bind (f_X12_readPart X N) (fun o => some (.inl (o.2, a, o.1))) := by
  have e6 : wC 6 = 14836 := wC_tab ⟨6, by decide⟩
  show b_X12_readExpression_20 X N a tu = _
  unfold b_X12_readExpression_20 f_X12_readExpression_l20_j72
  rw [if_pos h.2.2.1]
  rcases hs with c | ⟨c, c1, c2⟩
  · rw [if_neg (show ¬ tu = 4 by omega), if_neg (show ¬ tu = 0 by omega), if_pos c]
  · rw [if_neg (show ¬ tu = 4 by omega), if_pos c]
    unfold f_X12_readPlain
    rw [← e6, ref_isWord (by decide) hb h.1, Option.bind_some, if_neg (show ¬ tkK tp n t = 256 + ((6 : Nat) : Int) from c1), i00, ref_isSign (c := 40) (by omega) (by decide) (by decide) hb h.1, Option.bind_some, if_neg c2, i00]
    cases f_X12_readPart X N with
    | none => rfl
    | some o3 => rfl
theorem b_sum {a : Int} {t np o : Nat} (h : RK N tp n ord t np o) : FLp X (N, a, 3) = Option.bind (f_X12_behindSum X N a) (fun o => some (.inl (o.2, a, o.1))) := by
  show b_X12_readExpression_20 X N a 3 = _
  unfold b_X12_readExpression_20 f_X12_readExpression_l20_j72
  rw [if_pos h.2.2.1, if_neg (by omega), if_neg (by omega), if_neg (by omega), if_pos rfl]
theorem b_test {a : Int} {t np o : Nat} (h : RK N tp n ord t np o) : FLp X (N, a, 2) = Option.bind (f_X12_behindTest X N) (fun o => some (.inl (o.2, a, o.1))) := by
  show b_X12_readExpression_20 X N a 2 = _
  unfold b_X12_readExpression_20 f_X12_readExpression_l20_j72
  rw [if_pos h.2.2.1, if_neg (by omega), if_neg (by omega), if_neg (by omega), if_neg (by omega)]
def opT (c oc : Int) : Prop := (c = 43 ∧ oc = 20) ∨ (c = 45 ∧ oc = 21) ∨ (c = 42 ∧ oc = 22) ∨ (c = 47 ∧ oc = 23) ∨ (c = 37 ∧ oc = 24)
theorem bs_sg {a : Int} {t np o : Nat} (hb : ∀ j, j < n → 0 ≤ tp j ∧ tp j ≤ 255) (h : RK N tp n ord t np o) : f_X12_behindSum X N a = f_X12_behindSum_j71 X N a (if tkK tp n t = 43 then 20 else if tkK tp n t = 45 then 21 else if tkK tp n t = 42 then 22 else if tkK tp n t = 47 then 23 else if tkK tp n t = 37 then 24 else -1) := by
  unfold f_X12_behindSum
  rw [ref_isSign (c := 43) (by omega) (by decide) (by decide) hb h.1, Option.bind_some]
  by_cases c1 : tkK tp n t = 43
  · rw [if_pos c1, if_pos c1, i10]
  rw [if_neg c1, if_neg c1, i00, ref_isSign (c := 45) (by omega) (by decide) (by decide) hb h.1, Option.bind_some]
  by_cases c2 : tkK tp n t = 45
  · rw [if_pos c2, if_pos c2, i10]
  rw [if_neg c2, if_neg c2, i00, ref_isSign (c := 42) (by omega) (by decide) (by decide) hb h.1, Option.bind_some]
  by_cases c3 : tkK tp n t = 42
  · rw [if_pos c3, if_pos c3, i10]
  rw [if_neg c3, if_neg c3, i00, ref_isSign (c := 47) (by omega) (by decide) (by decide) hb h.1, Option.bind_some]
  by_cases c4 : tkK tp n t = 47
  · rw [if_pos c4, if_pos c4, i10]
  rw [if_neg c4, if_neg c4, i00, ref_isSign (c := 37) (by omega) (by decide) (by decide) hb h.1, Option.bind_some]
  by_cases c5 : tkK tp n t = 37
  · rw [if_pos c5, if_pos c5, i10]
  · rw [if_neg c5, if_neg c5, i00]
/-- an arithmetic sign behind a piece -/
theorem r_op {a c oc l : Int} {t np o z p p0 z0 d : Nat} {D : Den} (hn : n ≤ 400) (hb : ∀ j, j < n → 0 ≤ tp j ∧ tp j ≤ 255) (hc : opT c oc) (hl : l = bdP oc) (h : RK N tp n ord t np o) (w : PW N t z p) (hk : tkK tp n t = c) (hp : Pend X W ord N l p0 z0 d D) (hp0 : p0 ≤ p) : ∃ N3 z', lp (FLp X) (N, a, 3) = lp (FLp X) (N3, a, 1) ∧ RK N3 tp n ord (t + 1) np o ∧ PW N3 (t + 1) z' (p0 + 1) ∧ N3 77 p0 = oc ∧ SgR W ord N3 z0 z' d D ∧ Fr frRx N N3 ∧ (∀ k, k < z0 → N3 75 k = N 75 k ∧ N3 76 k = N 76 k) ∧ (∀ k, k < p0 → N3 77 k = N 77 k ∧ N3 78 k = N 78 k) ∧ z0 < z' := by
  have oc2 : 20 ≤ oc ∧ oc ≤ 24 := by unfold opT at hc; omega
  have c1 : c ≠ -1 := by unfold opT at hc; omega
  have l1 : 1 ≤ l := by rw [hl]; unfold bdP; rw [if_pos (by omega), if_neg (by omega), if_neg (by omega), if_neg (by omega), if_pos (by omega)]; split <;> omega
  have t4 := kak_le hn h.2.2.2.2.2.2.1
  have lt : tkS tp n t < n := Classical.byContradiction fun y => c1 (hk ▸ (tk_end hb t).2 y)
  have t5 := kak_le (t := t + 1) hn (Or.inr (by rw [Nat.add_sub_cancel]; exact lt))
  obtain ⟨M', z', s1, s2, s3, s4, s5⟩ := pend_one l1 t4 w hp
  have k1 := rk_pi h (fr_sp s5)
  have p4 : p0 < 400 := by have := s2.2.2.2.1; omega
  have fp := psh_f (N := M') (p := p0) (a := oc) (b := 0)
  have vp := psh_v (N := M') (p := p0) (a := oc) (b := 0)
  have k2 := rk_pi k1 (fr_mono fp fun o k q => by unfold frPi; omega)
  have w2 := pw_psh (a := oc) (b := 0) s2 (by omega) (by omega)
  obtain ⟨N3, e3, r1, r2⟩ := r_next (X := X) hn hb k2 (by rw [hk]; exact c1)
  have a3 := ag_nx r2
  have B : FLp X (N, a, 3) = some (.inl (N3, a, 1)) := by
    rw [b_sum h, bs_sg hb h]
    have eo : (if tkK tp n t = 43 then 20 else if tkK tp n t = 45 then 21 else if tkK tp n t = 42 then 22 else if tkK tp n t = 47 then 23 else if tkK tp n t = 37 then 24 else -1) = oc := by rw [hk]; unfold opT at hc; rcases hc with y | y | y | y | y <;> (rw [y.1, y.2]; rfl)
    rw [eo]
    unfold f_X12_behindSum_j71
    rw [if_neg (show ¬ oc = -1 by omega), ref_binds, Option.bind_some, ← hl, s1, Option.bind_some, push_eq s2.2.1 p4, Option.bind_some, e3, Option.bind_some]
    rfl
  refine ⟨N3, z', lp_next B, r1, pw_ag w2 a3, by rw [(a3.1 p0).2.2.1]; exact vp.1, sg_c s3 fun k _ _ => ?_, fr_tr (fr_px (fr_sp s5)) (fr_tr (fr_mono fp fun o k q => by unfold frRx; omega) (fr_nx r2)), fun k hk => ?_, fun k hk => ?_, s3.1⟩
  · have y := a3.1 k
    exact ⟨y.1.trans (fp 75 k (by omega)), y.2.1.trans (fp 76 k (by omega))⟩
  · have y := a3.1 k
    have y2 := s4 k hk
    exact ⟨(y.1.trans (fp 75 k (by omega))).trans y2.1, (y.2.1.trans (fp 76 k (by omega))).trans y2.2⟩
  · have y := a3.1 k
    exact ⟨(y.2.2.1.trans (fp 77 k (by omega))).trans (s5 77 k (by unfold frSe; omega)), (y.2.2.2.trans (fp 78 k (by omega))).trans (s5 78 k (by unfold frSe; omega))⟩

theorem r_tmL {el : Nat → Nat → PR} {a : Int} {o d : Nat} {E : Nat → Prop} (hn : n ≤ 400) (hb : ∀ j, j < n → 0 ≤ tp j ∧ tp j ≤ 255) (hel : ER X W tp n ord a o d (7 : Int) 3 false (StP tp n) (fun _ _ => True) E el) : ∀ (f t np z p p0 z0 t0 : Nat) (N : NN) (D : Den), 400 ≤ f + t → RK N tp n ord t np o → PW N t z p → Pend X W ord N (6 : Int) p0 z0 (d + 1) D → p0 ≤ p → z0 < z → (∀ k, p0 ≤ k → k < p → (6 : Int) ≤ bdP (N 77 k)) → Cx N p0 (6 : Int) → DBd D → t0 < t → E t → ∃ N' tu', lp (FLp X) (N, a, 3) = lp (FLp X) (N', a, tu') ∧ RR X W tp n ord N t0 z0 p0 o (d + 1) (6 : Int) 3 false (pTmL (kdT tp n) el f t np D) N' tu' ∧ ∀ q, pTmL (kdT tp n) el f t np D = .inr q → (E q.1 ∧ ¬ (tkK tp n q.1 = 42 ∨ tkK tp n q.1 = 47 ∨ tkK tp n q.1 = 37))
  | f, t, np, z, p, p0, z0, t0, N, D, hf, h, w, hp, hp0, hz0, hbd, hc, hD, ht0, hE => by
    have stop : ¬ (tkK tp n t = 42 ∨ tkK tp n t = 47 ∨ tkK tp n t = 37) → ∃ N' tu', lp (FLp X) (N, a, 3) = lp (FLp X) (N', a, tu') ∧ RR X W tp n ord N t0 z0 p0 o (d + 1) (6 : Int) 3 false (.inr (t, np, D)) N' tu' ∧ ∀ q, (.inr (t, np, D) : PR) = .inr q → (E q.1 ∧ ¬ (tkK tp n q.1 = 42 ∨ tkK tp n q.1 = 47 ∨ tkK tp n q.1 = 37)) := fun c => ⟨N, 3, rfl, rr_j fr_rfl h w hp hp0 hz0 (fun k _ => ⟨rfl, rfl⟩) (fun k _ => ⟨rfl, rfl⟩) hbd ht0 (by rw [if_neg (show ¬ (false = true) by decide)]; exact hD), fun q e => by cases e; exact ⟨hE, c⟩⟩
    cases f with
    | zero =>
      rw [pTmL]
      refine stop fun c => ?_
      have y := tkS_ge (tp := tp) (n := n) t
      have y2 := tkS_n (tp := tp) (n := n) t
      have y3 : ¬ tkS tp n t < n := by omega
      have := (tk_end hb t).2 y3
      omega
    | succ f =>
      rw [pTmL]
      by_cases c : tkK tp n t = 42 ∨ tkK tp n t = 47 ∨ tkK tp n t = 37
      case neg =>
        rw [if_neg (show ¬ (kdT tp n t = 42 ∨ kdT tp n t = 47 ∨ kdT tp n t = 37) from c)]
        exact stop c
      rw [if_pos (show kdT tp n t = 42 ∨ kdT tp n t = 47 ∨ kdT tp n t = 37 from c)]
      obtain ⟨oc, hoc⟩ : ∃ oc : Int, oc = (if tkK tp n t = 42 then 22 else if tkK tp n t = 47 then 23 else 24) := ⟨_, rfl⟩
      have hT : opT (tkK tp n t) oc := by
        rw [hoc]
        unfold opT
        (repeat' split) <;> omega
      have hbo : (6 : Int) = bdP oc := by
        rw [hoc]
        (repeat' split) <;> rfl
      have oc2 : 20 ≤ oc ∧ oc ≤ 24 := by unfold opT at hT; omega
      obtain ⟨N3, z', l3, k3, w3, v3, s3, f3, m3, m3', zz⟩ := r_op (a := a) hn hb hT hbo h w rfl hp hp0
      have cx3 : Cx N3 (p0 + 1) (7 : Int) := Or.inr (by rw [Nat.add_sub_cancel, v3, ← hbo]; omega)
      obtain ⟨N4, tu4, l4, R4, E4⟩ := hel N3 1 (t + 1) np z' (p0 + 1) (Or.inl rfl) k3 w3 cx3 trivial
      rw [l3, l4]
      cases he : el (t + 1) np with
      | inl x =>
        rw [he] at R4
        obtain ⟨q1, q2⟩ := rr_0 R4
        exact ⟨N4, tu4, rfl, rr_i (fr_tr f3 q1) q2, fun q e => by cases e⟩
      | inr q =>
        rw [he] at R4
        obtain ⟨q1, q2, z4, p4, q3, q4, q5, q6, q7, q8, q9, q10, q11, q12⟩ := rr_1 R4
        subst q2
        have t5 := kak_le hn q3.2.2.2.2.2.2.1
        have v4 : N4 77 p0 = oc := by rw [(q9 p0 (by omega)).1]; exact v3
        have cx4 : Cx N4 p0 (6 : Int) := by
          rcases hc with y | y
          · exact Or.inl y
          · by_cases g : p0 = 0
            · exact Or.inl g
            · exact Or.inr (by rw [(q9 (p0 - 1) (by omega)).1, (m3' (p0 - 1) (by omega)).1]; exact y)
        have s4 : SgR W ord N4 z0 z' (d + 1) D := sg_c s3 fun k _ a2 => q8 k a2
        have pb := pend_bin (d := d + 1) t5 q4 (show Pend X W ord N4 ((6 : Int) + 1) (p0 + 1) z' d q.2.2 from q5) v4 (by omega) (by omega) hbo s4 (Nat.le_refl _) (Nat.le_refl _) cx4
        have ea : (if kdT tp n t = 42 then (4 : Int) else if kdT tp n t = 47 then 5 else 6) = oc - 18 := by
          rw [hoc]
          show (if tkK tp n t = 42 then (4 : Int) else if tkK tp n t = 47 then 5 else 6) = _
          (repeat' split) <;> rfl
        dsimp only
        rw [ea]
        obtain ⟨N', tu', l5, R5, E5⟩ := r_tmL hn hb hel f q.1 q.2.1 z4 p4 p0 z0 t0 N4 (dBin (oc - 18) D q.2.2) (by omega) q3 q4 pb (by omega) (by omega) (fun k a1 a2 => by
          by_cases g : k = p0
          · rw [g, v4, ← hbo]; omega
          · have := q10 k (by omega) a2; omega) cx4 dbd_bin (by omega) (E4 q he)
        refine ⟨N', tu', l5, rr_tr R5 (Nat.le_refl _) (fr_tr f3 q1) (fun k hk => ?_) (fun k hk => ?_), E5⟩
        · have y := q8 k (by omega)
          have y2 := m3 k hk
          exact ⟨y.1.trans y2.1, y.2.trans y2.2⟩
        · have y := q9 k (by omega)
          have y2 := m3' k hk
          exact ⟨y.1.trans y2.1, y.2.trans y2.2⟩
theorem r_term {el : Nat → Nat → PR} {a : Int} {o d : Nat} {E : Nat → Prop} (hn : n ≤ 400) (hb : ∀ j, j < n → 0 ≤ tp j ∧ tp j ≤ 255) (hel : ER X W tp n ord a o d (7 : Int) 3 false (StP tp n) (fun _ _ => True) E el) : ER X W tp n ord a o (d + 1) (6 : Int) 3 false (StP tp n) (fun _ _ => True) (fun t => E t ∧ ¬ (tkK tp n t = 42 ∨ tkK tp n t = 47 ∨ tkK tp n t = 37)) (pTm (kdT tp n) el) := by
  intro N tu t np z p hs h w hc _
  unfold pTm
  obtain ⟨N4, tu4, l4, R4, E4⟩ := hel N tu t np z p hs h w (by rcases hc with y | y; exact Or.inl y; exact Or.inr (by omega)) trivial
  rw [l4]
  cases he : el t np with
  | inl x =>
    rw [he] at R4
    obtain ⟨q1, q2⟩ := rr_0 R4
    exact ⟨N4, tu4, rfl, rr_i q1 q2, fun q e => by cases e⟩
  | inr q =>
    rw [he] at R4
    obtain ⟨q1, q2, z4, p4, q3, q4, q5, q6, q7, q8, q9, q10, q11, q12⟩ := rr_1 R4
    subst q2
    have t5 := kak_le hn q3.2.2.2.2.2.2.1
    have cx4 : Cx N4 p (6 : Int) := by
      rcases hc with y | y
      · exact Or.inl y
      · by_cases g : p = 0
        · exact Or.inl g
        · exact Or.inr (by rw [(q9 (p - 1) (by omega)).1]; exact y)
    obtain ⟨N', tu', l5, R5, E5⟩ := r_tmL hn hb hel 400 q.1 q.2.1 z4 p4 p z t N4 q.2.2 (by omega) q3 q4 (pend_d (pend_weak (by omega) (show (6 : Int) ≤ (7 : Int) by omega) t5 q4 q5 cx4) (by omega)) q6 q7 (fun k a1 a2 => by have := q10 k a1 a2; omega) cx4 (by rw [if_neg (show ¬ (false = true) by decide)] at q12; exact q12) q11 (E4 q he)
    exact ⟨N', tu', l5, rr_tr R5 (Nat.le_refl _) q1 q8 q9, E5⟩

theorem r_smL {el : Nat → Nat → PR} {a : Int} {o d : Nat} {E : Nat → Prop} (hn : n ≤ 400) (hb : ∀ j, j < n → 0 ≤ tp j ∧ tp j ≤ 255) (hel : ER X W tp n ord a o d (6 : Int) 3 false (StP tp n) (fun _ _ => True) E el) : ∀ (f t np z p p0 z0 t0 : Nat) (N : NN) (D : Den), 400 ≤ f + t → RK N tp n ord t np o → PW N t z p → Pend X W ord N (5 : Int) p0 z0 (d + 1) D → p0 ≤ p → z0 < z → (∀ k, p0 ≤ k → k < p → (5 : Int) ≤ bdP (N 77 k)) → Cx N p0 (5 : Int) → DBd D → t0 < t → E t → ∃ N' tu', lp (FLp X) (N, a, 3) = lp (FLp X) (N', a, tu') ∧ RR X W tp n ord N t0 z0 p0 o (d + 1) (5 : Int) 3 false (pSmL (kdT tp n) el f t np D) N' tu' ∧ ∀ q, pSmL (kdT tp n) el f t np D = .inr q → (E q.1 ∧ ¬ (tkK tp n q.1 = 43 ∨ tkK tp n q.1 = 45))
  | f, t, np, z, p, p0, z0, t0, N, D, hf, h, w, hp, hp0, hz0, hbd, hc, hD, ht0, hE => by
    have stop : ¬ (tkK tp n t = 43 ∨ tkK tp n t = 45) → ∃ N' tu', lp (FLp X) (N, a, 3) = lp (FLp X) (N', a, tu') ∧ RR X W tp n ord N t0 z0 p0 o (d + 1) (5 : Int) 3 false (.inr (t, np, D)) N' tu' ∧ ∀ q, (.inr (t, np, D) : PR) = .inr q → (E q.1 ∧ ¬ (tkK tp n q.1 = 43 ∨ tkK tp n q.1 = 45)) := fun c => ⟨N, 3, rfl, rr_j fr_rfl h w hp hp0 hz0 (fun k _ => ⟨rfl, rfl⟩) (fun k _ => ⟨rfl, rfl⟩) hbd ht0 (by rw [if_neg (show ¬ (false = true) by decide)]; exact hD), fun q e => by cases e; exact ⟨hE, c⟩⟩
    cases f with
    | zero =>
      rw [pSmL]
      refine stop fun c => ?_
      have y := tkS_ge (tp := tp) (n := n) t
      have y2 := tkS_n (tp := tp) (n := n) t
      have y3 : ¬ tkS tp n t < n := by omega
      have := (tk_end hb t).2 y3
      omega
    | succ f =>
      rw [pSmL]
      by_cases c : tkK tp n t = 43 ∨ tkK tp n t = 45
      case neg =>
        rw [if_neg (show ¬ (kdT tp n t = 43 ∨ kdT tp n t = 45) from c)]
        exact stop c
      rw [if_pos (show kdT tp n t = 43 ∨ kdT tp n t = 45 from c)]
      obtain ⟨oc, hoc⟩ : ∃ oc : Int, oc = (if tkK tp n t = 43 then 20 else 21) := ⟨_, rfl⟩
      have hT : opT (tkK tp n t) oc := by
        rw [hoc]
        unfold opT
        (repeat' split) <;> omega
      have hbo : (5 : Int) = bdP oc := by
        rw [hoc]
        (repeat' split) <;> rfl
      have oc2 : 20 ≤ oc ∧ oc ≤ 24 := by unfold opT at hT; omega
      obtain ⟨N3, z', l3, k3, w3, v3, s3, f3, m3, m3', zz⟩ := r_op (a := a) hn hb hT hbo h w rfl hp hp0
      have cx3 : Cx N3 (p0 + 1) (6 : Int) := Or.inr (by rw [Nat.add_sub_cancel, v3, ← hbo]; omega)
      obtain ⟨N4, tu4, l4, R4, E4⟩ := hel N3 1 (t + 1) np z' (p0 + 1) (Or.inl rfl) k3 w3 cx3 trivial
      rw [l3, l4]
      cases he : el (t + 1) np with
      | inl x =>
        rw [he] at R4
        obtain ⟨q1, q2⟩ := rr_0 R4
        exact ⟨N4, tu4, rfl, rr_i (fr_tr f3 q1) q2, fun q e => by cases e⟩
      | inr q =>
        rw [he] at R4
        obtain ⟨q1, q2, z4, p4, q3, q4, q5, q6, q7, q8, q9, q10, q11, q12⟩ := rr_1 R4
        subst q2
        have t5 := kak_le hn q3.2.2.2.2.2.2.1
        have v4 : N4 77 p0 = oc := by rw [(q9 p0 (by omega)).1]; exact v3
        have cx4 : Cx N4 p0 (5 : Int) := by
          rcases hc with y | y
          · exact Or.inl y
          · by_cases g : p0 = 0
            · exact Or.inl g
            · exact Or.inr (by rw [(q9 (p0 - 1) (by omega)).1, (m3' (p0 - 1) (by omega)).1]; exact y)
        have s4 : SgR W ord N4 z0 z' (d + 1) D := sg_c s3 fun k _ a2 => q8 k a2
        have pb := pend_bin (d := d + 1) t5 q4 (show Pend X W ord N4 ((5 : Int) + 1) (p0 + 1) z' d q.2.2 from q5) v4 (by omega) (by omega) hbo s4 (Nat.le_refl _) (Nat.le_refl _) cx4
        have ea : (if kdT tp n t = 43 then (2 : Int) else 3) = oc - 18 := by
          rw [hoc]
          show (if tkK tp n t = 43 then (2 : Int) else 3) = _
          (repeat' split) <;> rfl
        dsimp only
        rw [ea]
        obtain ⟨N', tu', l5, R5, E5⟩ := r_smL hn hb hel f q.1 q.2.1 z4 p4 p0 z0 t0 N4 (dBin (oc - 18) D q.2.2) (by omega) q3 q4 pb (by omega) (by omega) (fun k a1 a2 => by
          by_cases g : k = p0
          · rw [g, v4, ← hbo]; omega
          · have := q10 k (by omega) a2; omega) cx4 dbd_bin (by omega) (E4 q he)
        refine ⟨N', tu', l5, rr_tr R5 (Nat.le_refl _) (fr_tr f3 q1) (fun k hk => ?_) (fun k hk => ?_), E5⟩
        · have y := q8 k (by omega)
          have y2 := m3 k hk
          exact ⟨y.1.trans y2.1, y.2.trans y2.2⟩
        · have y := q9 k (by omega)
          have y2 := m3' k hk
          exact ⟨y.1.trans y2.1, y.2.trans y2.2⟩
theorem r_sum {el : Nat → Nat → PR} {a : Int} {o d : Nat} {E : Nat → Prop} (hn : n ≤ 400) (hb : ∀ j, j < n → 0 ≤ tp j ∧ tp j ≤ 255) (hel : ER X W tp n ord a o d (6 : Int) 3 false (StP tp n) (fun _ _ => True) E el) : ER X W tp n ord a o (d + 1) (5 : Int) 3 false (StP tp n) (fun _ _ => True) (fun t => E t ∧ ¬ (tkK tp n t = 43 ∨ tkK tp n t = 45)) (pSm' (kdT tp n) el) := by
  intro N tu t np z p hs h w hc _
  unfold pSm'
  obtain ⟨N4, tu4, l4, R4, E4⟩ := hel N tu t np z p hs h w (by rcases hc with y | y; exact Or.inl y; exact Or.inr (by omega)) trivial
  rw [l4]
  cases he : el t np with
  | inl x =>
    rw [he] at R4
    obtain ⟨q1, q2⟩ := rr_0 R4
    exact ⟨N4, tu4, rfl, rr_i q1 q2, fun q e => by cases e⟩
  | inr q =>
    rw [he] at R4
    obtain ⟨q1, q2, z4, p4, q3, q4, q5, q6, q7, q8, q9, q10, q11, q12⟩ := rr_1 R4
    subst q2
    have t5 := kak_le hn q3.2.2.2.2.2.2.1
    have cx4 : Cx N4 p (5 : Int) := by
      rcases hc with y | y
      · exact Or.inl y
      · by_cases g : p = 0
        · exact Or.inl g
        · exact Or.inr (by rw [(q9 (p - 1) (by omega)).1]; exact y)
    obtain ⟨N', tu', l5, R5, E5⟩ := r_smL hn hb hel 400 q.1 q.2.1 z4 p4 p z t N4 q.2.2 (by omega) q3 q4 (pend_d (pend_weak (by omega) (show (5 : Int) ≤ (6 : Int) by omega) t5 q4 q5 cx4) (by omega)) q6 q7 (fun k a1 a2 => by have := q10 k a1 a2; omega) cx4 (by rw [if_neg (show ¬ (false = true) by decide)] at q12; exact q12) q11 (E4 q he)
    exact ⟨N', tu', l5, rr_tr R5 (Nat.le_refl _) q1 q8 q9, E5⟩
end RT
