/-! reading: the reference's joined TESTS, brackets and whole expressions -/
section RJ
variable {X : MX} {N : NN} {tp : Nat → Int} {n : Nat} {ord : Bool} {W : Int}
def jnT (w oj l : Int) : Prop := (w = 261 ∧ oj = 29 ∧ l = 2) ∨ (w = 260 ∧ oj = 30 ∧ l = 1)
def cmbJ (oj : Int) : Den → Den → Den := fun D1 D2 => if oj = 30 then dOr D1 D2 else dAnd D1 D2
theorem r_jn {a wd oj l : Int} {t np o z p p0 z0 d : Nat} {D : Den} (hn : n ≤ 400) (hb : ∀ j, j < n → 0 ≤ tp j ∧ tp j ≤ 255) (hw : jnT wd oj l) (h : RK N tp n ord t np o) (w : PW N t z p) (hk : tkK tp n t = wd) (hp : Pend X W ord N l p0 z0 d D) (hp0 : p0 ≤ p) : ∃ N3 z', lp (FLp X) (N, a, 2) = lp (FLp X) (N3, a, 0) ∧ RK N3 tp n ord (t + 1) np o ∧ PW N3 (t + 1) (z' + 1) (p0 + 1) ∧ N3 77 p0 = oj ∧ N3 78 p0 = ((z' : Nat) : Int) ∧ N3 75 z' = oj ∧ SgR W ord N3 z0 z' d D ∧ Fr frRx N N3 ∧ (∀ k, k < z0 → N3 75 k = N 75 k ∧ N3 76 k = N 76 k) ∧ (∀ k, k < p0 → N3 77 k = N 77 k ∧ N3 78 k = N 78 k) ∧ z0 < z' := by
  have e5 : wC 5 = 1476 := wC_tab ⟨5, by decide⟩
  have e4 : wC 4 = 498 := wC_tab ⟨4, by decide⟩
  have l1 : 1 ≤ l := by unfold jnT at hw; omega
  have w1 : wd ≠ -1 := by unfold jnT at hw; omega
  have oj2 : oj = 29 ∨ oj = 30 := by unfold jnT at hw; omega
  have t4 := kak_le hn h.2.2.2.2.2.2.1
  have lt : tkS tp n t < n := Classical.byContradiction fun y => w1 (hk ▸ (tk_end hb t).2 y)
  have t5 := kak_le (t := t + 1) hn (Or.inr (by rw [Nat.add_sub_cancel]; exact lt))
  obtain ⟨M', z', s1, s2, s3, s4, s5⟩ := pend_one l1 t4 w hp
  have k1 := rk_pi h (fr_sp s5)
  have p4 : p0 < 400 := by have := s2.2.2.2.1; omega
  have z4 : z' < 400 := by have := s2.2.2.1; omega
  obtain ⟨P, hP⟩ : ∃ P, P = pshN M' p0 oj (z' : Int) := ⟨_, rfl⟩
  have fp := psh_f (N := M') (p := p0) (a := oj) (b := (z' : Int))
  have vp := psh_v (N := M') (p := p0) (a := oj) (b := (z' : Int))
  have wq := pw_pj (c := 0) s2 oj2 z4
  rw [← hP] at fp vp wq
  obtain ⟨Q, hQ⟩ : ∃ Q, Q = emN P z' oj 0 := ⟨_, rfl⟩
  have fq := em_f (N := P) (z := z') (a := oj) (b := 0)
  have vq := em_v (N := P) (z := z') (a := oj) (b := 0)
  rw [← hQ] at fq vq wq
  have k2 := rk_pi (rk_pi k1 (fr_mono fp fun o k q => by unfold frPi; omega)) (fr_mono fq fun o k q => by unfold frPi; omega)
  obtain ⟨N3, e3, r1, r2⟩ := r_next (X := X) hn hb k2 (by rw [hk]; exact w1)
  have a3 := ag_nx r2
  have P23 : P 64 23 = (z' : Int) := by rw [fp 64 23 (by omega)]; exact s2.1
  have tail : ∀ v : Int, (v = 0 ∧ oj = 30 ∨ v = 1 ∧ oj = 29) → f_X12_behindTest_j22 X N v = some (0, N3) := by
    intro v hv
    unfold f_X12_behindTest_j22 f_X12_behindTest_j32 f_X12_behindTest_j47 f_X12_behindTest_j66
    rcases hv with ⟨q1, q2⟩ | ⟨q1, q2⟩
    · have ll : l = 1 := by unfold jnT at hw; omega
      rw [if_pos q1, ← ll, s1, Option.bind_some, if_pos q1, ← q2, s2.1, push_eq s2.2.1 p4, ← hP, Option.bind_some, if_pos q1, emit_eq P23 z4, ← hQ, Option.bind_some, e3]
      rfl
    · have ll : l = 2 := by unfold jnT at hw; omega
      rw [if_neg (show ¬ v = 0 by omega), ← ll, s1, Option.bind_some, if_neg (show ¬ v = 0 by omega), ← q2, s2.1, push_eq s2.2.1 p4, ← hP, Option.bind_some, if_neg (show ¬ v = 0 by omega), emit_eq P23 z4, ← hQ, Option.bind_some, e3]
      rfl
  have B : FLp X (N, a, 2) = some (.inl (N3, a, 0)) := by
    rw [b_test h]
    unfold f_X12_behindTest
    rw [← e5, ref_isWord (by decide) hb h.1, Option.bind_some]
    by_cases g : tkK tp n t = 256 + ((5 : Nat) : Int)
    · rw [if_pos g, i10, tail 1 (Or.inr ⟨rfl, by unfold jnT at hw; omega⟩)]
      rfl
    · rw [if_neg g, i00, ← e4, ref_isWord (by decide) hb h.1, Option.bind_some, if_pos (show tkK tp n t = 256 + ((4 : Nat) : Int) by unfold jnT at hw; omega), i10, tail 0 (Or.inl ⟨rfl, by unfold jnT at hw; omega⟩)]
      rfl
  have c3 : ∀ k, k ≠ z' → N3 75 k = M' 75 k ∧ N3 76 k = M' 76 k := fun k hk => by
    have y := a3.1 k
    exact ⟨(y.1.trans (fq 75 k (by omega))).trans (fp 75 k (by omega)), (y.2.1.trans (fq 76 k (by omega))).trans (fp 76 k (by omega))⟩
  refine ⟨N3, z', lp_next B, r1, pw_ag wq a3, ?_, ?_, ?_, sg_c s3 fun k _ a2 => c3 k (by omega), fr_tr (fr_px (fr_sp s5)) (fr_tr (fr_mono fp fun o k q => by unfold frRx; omega) (fr_tr (fr_mono fq fun o k q => by unfold frRx; omega) (fr_nx r2))), fun k hk => ?_, fun k hk => ?_, s3.1⟩
  · rw [(a3.1 p0).2.2.1, fq 77 p0 (by omega)]; exact vp.1
  · rw [(a3.1 p0).2.2.2, fq 78 p0 (by omega)]; exact vp.2.1
  · rw [(a3.1 z').1]; exact vq.1
  · have y := c3 k (by have := s3.1; omega)
    have y2 := s4 k hk
    exact ⟨y.1.trans y2.1, y.2.trans y2.2⟩
  · have y := a3.1 k
    exact ⟨((y.2.2.1.trans (fq 77 k (by omega))).trans (fp 77 k (by omega))).trans (s5 77 k (by unfold frSe; omega)), ((y.2.2.2.trans (fq 78 k (by omega))).trans (fp 78 k (by omega))).trans (s5 78 k (by unfold frSe; omega))⟩
theorem r_jL {el : Nat → Nat → PR} {a wd oj l : Int} {o d : Nat} {E : Nat → Prop} (hn : n ≤ 400) (hb : ∀ j, j < n → 0 ≤ tp j ∧ tp j ≤ 255) (hw : jnT wd oj l) (hel : ER X W tp n ord a o d (l + 1) 2 true (fun tu _ => tu = 0) (fun N p => HIn N p a) E el) : ∀ (f t np z p p0 z0 t0 : Nat) (N : NN) (D : Den), 400 ≤ f + t → RK N tp n ord t np o → PW N t z p → Pend X W ord N l p0 z0 d D → p0 ≤ p → z0 < z → (∀ k, p0 ≤ k → k < p → l ≤ bdP (N 77 k)) → Cx N p0 l → DBo D → t0 < t → E t → HIn N p0 a → ∃ N' tu', lp (FLp X) (N, a, 2) = lp (FLp X) (N', a, tu') ∧ RR X W tp n ord N t0 z0 p0 o d l 2 true (pJmL (kdT tp n) wd (cmbJ oj) el f t np D) N' tu' ∧ ∀ q, pJmL (kdT tp n) wd (cmbJ oj) el f t np D = .inr q → (E q.1 ∧ ¬ tkK tp n q.1 = wd)
  | f, t, np, z, p, p0, z0, t0, N, D, hf, h, w, hp, hp0, hz0, hbd, hc, hD, ht0, hE, hi => by
    have stop : ¬ tkK tp n t = wd → ∃ N' tu', lp (FLp X) (N, a, 2) = lp (FLp X) (N', a, tu') ∧ RR X W tp n ord N t0 z0 p0 o d l 2 true (.inr (t, np, D)) N' tu' ∧ ∀ q, (.inr (t, np, D) : PR) = .inr q → (E q.1 ∧ ¬ tkK tp n q.1 = wd) := fun c => ⟨N, 2, rfl, rr_j fr_rfl h w hp hp0 hz0 (fun k _ => ⟨rfl, rfl⟩) (fun k _ => ⟨rfl, rfl⟩) hbd ht0 (by rw [if_pos rfl]; exact hD), fun q e => by cases e; exact ⟨hE, c⟩⟩
    cases f with
    | zero =>
      rw [pJmL]
      refine stop fun c => ?_
      have y := tkS_ge (tp := tp) (n := n) t
      have y2 := tkS_n (tp := tp) (n := n) t
      have y3 : ¬ tkS tp n t < n := by omega
      have := (tk_end hb t).2 y3
      unfold jnT at hw
      omega
    | succ f =>
      rw [pJmL]
      by_cases c : tkK tp n t = wd
      case neg =>
        rw [if_neg (show ¬ kdT tp n t = wd from c)]
        exact stop c
      rw [if_pos (show kdT tp n t = wd from c)]
      have oj2 : oj = 29 ∨ oj = 30 := by unfold jnT at hw; omega
      have hbo : l = bdP oj := by
        unfold jnT at hw
        rcases hw with y | y
        · rw [y.2.1, bd29]; exact y.2.2
        · rw [y.2.1, bd30]; exact y.2.2
      have l1 : 1 ≤ l := by unfold jnT at hw; omega
      obtain ⟨N3, z', l3, k3, w3, v3, v78, v75, s3, f3, m3, m3', zz⟩ := r_jn (a := a) hn hb hw h w c hp hp0
      have cx3 : Cx N3 (p0 + 1) (l + 1) := Or.inr (by rw [Nat.add_sub_cancel, v3, ← hbo]; omega)
      have hi3 : HIn N3 (p0 + 1) a := by
        have e := inn_tr (N := N) (N1 := N3) (p := p0) (p1 := p0 + 1) (by omega) (fun k hk => (m3' k hk).1) (fun k a1 a2 => by rw [show k = p0 by omega, v3, ← hbo]; omega)
        unfold HIn
        rw [e]
        exact hi
      obtain ⟨N4, tu4, l4, R4, E4⟩ := hel N3 0 (t + 1) np (z' + 1) (p0 + 1) rfl k3 w3 cx3 hi3
      rw [l3, l4]
      cases he : el (t + 1) np with
      | inl x =>
        rw [he] at R4
        obtain ⟨q1, q2⟩ := rr_0 R4
        exact ⟨N4, tu4, rfl, rr_i (fr_tr f3 q1) q2, fun q e => by cases e⟩
      | inr q =>
        rw [he] at R4
        obtain ⟨q1, q2, z4, p4, q3, q4, q5, q6, q7, q8, q9, q10, q11, q12⟩ := rr_1 R4
        subst q2
        have t5 := kak_le hn q3.2.2.2.2.2.2.1
        have v4 : N4 77 p0 = oj := by rw [(q9 p0 (by omega)).1]; exact v3
        have cx4 : Cx N4 p0 l := by
          rcases hc with y | y
          · exact Or.inl y
          · by_cases g : p0 = 0
            · exact Or.inl g
            · exact Or.inr (by rw [(q9 (p0 - 1) (by omega)).1, (m3' (p0 - 1) (by omega)).1]; exact y)
        have s4 : SgR W ord N4 z0 z' d D := sg_c s3 fun k _ a2 => q8 k (by omega)
        rw [if_pos rfl] at q12
        have pb := pend_jmp (d := d) t5 q4 q5 v4 oj2 hbo s4 hD (by rw [(q9 p0 (by omega)).2]; exact v78) (by rw [(q8 z' (by omega)).1]; exact v75) (Nat.le_refl _) (Nat.le_refl _) cx4
        have hi4 : HIn N4 p0 a := by
          have e := inn_tr (N := N) (N1 := N4) (p := p0) (p1 := p0) (by omega) (fun k hk => (q9 k (by omega)).1.trans (m3' k hk).1) (fun k a1 a2 => by omega)
          unfold HIn
          rw [e]
          exact hi
        dsimp only
        have db : DBo (cmbJ oj D q.2.2) := by
          unfold cmbJ
          split
          · exact dbo_or q12
          · exact dbo_and q12
        obtain ⟨N', tu', l5, R5, E5⟩ := r_jL hn hb hw hel f q.1 q.2.1 z4 p4 p0 z0 t0 N4 (cmbJ oj D q.2.2) (by omega) q3 q4 pb (by omega) (by omega) (fun k a1 a2 => by
          by_cases g : k = p0
          · rw [g, v4, ← hbo]; omega
          · have := q10 k (by omega) a2; omega) cx4 db (by omega) (E4 q he) hi4
        refine ⟨N', tu', l5, rr_tr R5 (Nat.le_refl _) (fr_tr f3 q1) (fun k hk => ?_) (fun k hk => ?_), E5⟩
        · have y := q8 k (by omega)
          have y2 := m3 k hk
          exact ⟨y.1.trans y2.1, y.2.trans y2.2⟩
        · have y := q9 k (by omega)
          have y2 := m3' k hk
          exact ⟨y.1.trans y2.1, y.2.trans y2.2⟩
theorem r_join {el : Nat → Nat → PR} {a wd oj l : Int} {o d : Nat} {E : Nat → Prop} (hn : n ≤ 400) (hb : ∀ j, j < n → 0 ≤ tp j ∧ tp j ≤ 255) (hw : jnT wd oj l) (hel : ER X W tp n ord a o d (l + 1) 2 true (fun tu _ => tu = 0) (fun N p => HIn N p a) E el) : ER X W tp n ord a o d l 2 true (fun tu _ => tu = 0) (fun N p => HIn N p a) (fun t => E t ∧ ¬ tkK tp n t = wd) (pJm (kdT tp n) wd (cmbJ oj) el) := by
  intro N tu t np z p hs h w hc hi
  have l1 : 1 ≤ l := by unfold jnT at hw; omega
  unfold pJm
  obtain ⟨N4, tu4, l4, R4, E4⟩ := hel N tu t np z p hs h w (by rcases hc with y | y; exact Or.inl y; exact Or.inr (by omega)) hi
  rw [l4]
  cases he : el t np with
  | inl x =>
    rw [he] at R4
    obtain ⟨q1, q2⟩ := rr_0 R4
    exact ⟨N4, tu4, rfl, rr_i q1 q2, fun q e => by cases e⟩
  | inr q =>
    rw [he] at R4
    obtain ⟨q1, q2, z4, p4, q3, q4, q5, q6, q7, q8, q9, q10, q11, q12⟩ := rr_1 R4
    subst q2
    have t5 := kak_le hn q3.2.2.2.2.2.2.1
    have cx4 : Cx N4 p l := by
      rcases hc with y | y
      · exact Or.inl y
      · by_cases g : p = 0
        · exact Or.inl g
        · exact Or.inr (by rw [(q9 (p - 1) (by omega)).1]; exact y)
    have hi4 : HIn N4 p a := by
      have e := inn_tr (N := N) (N1 := N4) (p := p) (p1 := p) (by omega) (fun k hk => (q9 k (by omega)).1) (fun k a1 a2 => by omega)
      unfold HIn
      rw [e]
      exact hi
    obtain ⟨N', tu', l5, R5, E5⟩ := r_jL hn hb hw hel 400 q.1 q.2.1 z4 p4 p z t N4 q.2.2 (by omega) q3 q4 (pend_weak l1 (show l ≤ l + 1 by omega) t5 q4 q5 cx4) q6 q7 (fun k a1 a2 => by have := q10 k a1 a2; omega) cx4 (by rw [if_pos rfl] at q12; exact q12) q11 (E4 q he) hi4
    exact ⟨N', tu', l5, rr_tr R5 (Nat.le_refl _) q1 q8 q9, E5⟩
def nOp (tp : Nat → Int) (n t : Nat) : Prop := ¬ (tkK tp n t = 43 ∨ tkK tp n t = 45 ∨ tkK tp n t = 42 ∨ tkK tp n t = 47 ∨ tkK tp n t = 37)
def nJn (tp : Nat → Int) (n t : Nat) : Prop := ¬ tkK tp n t = 261 ∧ ¬ tkK tp n t = 260
/-- all levels above brackets of depth d -/
theorem r_all {br : Bool → Nat → Nat → PR} {a : Int} {o d : Nat} (hn : n ≤ 400) (hb : ∀ j, j < n → 0 ≤ tp j ∧ tp j ≤ 255) (hW : W = (if ord = true then 32 else 9)) (hd : 1 ≤ d) (hbr : HBR X W tp n ord a o d br) : ER X W tp n ord a o (d + 2) 5 3 false (StP tp n) (fun _ _ => True) (nOp tp n) (pSm (kdT tp n) (nmT tp n) ord br) ∧ ER X W tp n ord a o (d + 3) 1 2 true (fun tu _ => tu = 0) (fun N p => HIn N p a) (nJn tp n) (pTe (kdT tp n) (nmT tp n) ord br) := by
  have h1 := r_prt hn hb hW hd hbr
  have h2 := r_term hn hb h1
  have h3 := r_sum hn hb h2
  have hs : ER X W tp n ord a o (d + 2) 5 3 false (StP tp n) (fun _ _ => True) (nOp tp n) (pSm (kdT tp n) (nmT tp n) ord br) := by
    intro N tu t np z p q1 q2 q3 q4 q5
    obtain ⟨N', tu', e1, e2, e3⟩ := h3 N tu t np z p q1 q2 q3 q4 q5
    refine ⟨N', tu', e1, e2, fun q e => ?_⟩
    have y := e3 q e
    unfold nOp
    omega
  refine ⟨hs, ?_⟩
  have h4 := r_cmp hn hb (fun t y => y) hs
  have hbr' : HBR X W tp n ord a o (d + 2 + 1) br := by
    refine ⟨fun N t np z p y1 y2 y3 => ?_, fun N tu t np z p y0 y1 y2 y3 => ?_⟩
    · obtain ⟨N', tu', e1, e2⟩ := hbr.1 N t np z p y1 y2 y3
      refine ⟨N', tu', e1, ?_⟩
      cases hr : br false t np with
      | inl x => rw [hr] at e2; exact e2
      | inr q =>
        rw [hr] at e2
        obtain ⟨f1, g2, z', p', a1, a2, a3, a4⟩ := rr_1 e2
        exact ⟨f1, g2, z', p', a1, a2, pend_d a3 (by omega), a4⟩
    · obtain ⟨N', tu', e1, e2⟩ := hbr.2 N tu t np z p y0 y1 y2 y3
      refine ⟨N', tu', e1, ?_⟩
      cases hr : br true t np with
      | inl x => rw [hr] at e2; exact e2
      | inr q =>
        rw [hr] at e2
        obtain ⟨f1, g2, z', p', a1, a2, a3, a4⟩ := rr_1 e2
        exact ⟨f1, g2, z', p', a1, a2, pend_d a3 (by omega), a4⟩
  have h5 := r_plain hn hb hbr' h4
  have h6 := r_join (wd := 261) (oj := 29) (l := 2) hn hb (Or.inl ⟨rfl, rfl, rfl⟩) h5
  have h7 := r_join (wd := 260) (oj := 30) (l := 1) hn hb (Or.inr ⟨rfl, rfl, rfl⟩) h6
  have c1 : cmbJ 29 = dAnd := by funext D1 D2; unfold cmbJ; rw [if_neg (by decide)]
  have c2 : cmbJ 30 = dOr := by funext D1 D2; unfold cmbJ; rw [if_pos rfl]
  rw [c1, c2] at h7
  intro N tu t np z p q1 q2 q3 q4 q5
  obtain ⟨N', tu', e1, e2, e3⟩ := h7 N tu t np z p q1 q2 q3 q4 q5
  refine ⟨N', tu', e1, e2, fun q e => ?_⟩
  have y := e3 q e
  exact ⟨y.1.2, y.2⟩
end RJ
