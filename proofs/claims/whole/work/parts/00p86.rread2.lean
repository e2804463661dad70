/-! reading: what the reference's pile still owes -/
def Ag (N M : NN) : Prop := (∀ k, M 75 k = N 75 k ∧ M 76 k = N 76 k ∧ M 77 k = N 77 k ∧ M 78 k = N 78 k) ∧ M 64 23 = N 64 23 ∧ M 64 29 = N 64 29
def Pend (X : MX) (W : Int) (ord : Bool) (N : NN) (l : Int) (p0 z0 d : Nat) (D : Den) : Prop := ∀ M, Ag N M → ∃ M' z', f_X12_settle X M l = some M' ∧ M' 64 29 = (p0 : Int) ∧ M' 64 23 = ((z' : Nat) : Int) ∧ SgR W ord M' z0 z' d D ∧ (∀ k, k < z0 → M' 75 k = M 75 k ∧ M' 76 k = M 76 k) ∧ Fr frSe M M'
section PE
variable {X : MX} {N : NN} {ord : Bool} {W : Int}
theorem bd_b (o : Int) : 0 ≤ bdP o ∧ bdP o ≤ 6 := by unfold bdP; split <;> (try split) <;> (try split) <;> (try split) <;> (try split) <;> (try split) <;> omega
theorem sg_c {M : NN} {i j d : Nat} {D : Den} (h : SgR W ord N i j d D) (hc : ∀ k, i ≤ k → k < j → M 75 k = N 75 k ∧ M 76 k = N 76 k) : SgR W ord M i j d D := seg_c h fun k a b => by
  obtain ⟨q1, q2⟩ := hc k a b
  rw [q1, q2]
  exact ⟨rfl, rfl⟩
theorem ag_rfl : Ag N N := ⟨fun k => ⟨rfl, rfl, rfl, rfl⟩, rfl, rfl⟩
theorem ag_tr {M M' : NN} (h : Ag N M) (h' : Ag M M') : Ag N M' := ⟨fun k => by
  obtain ⟨a, b, c, d⟩ := h.1 k
  obtain ⟨a', b', c', d'⟩ := h'.1 k
  exact ⟨a'.trans a, b'.trans b, c'.trans c, d'.trans d⟩, h'.2.1.trans h.2.1, h'.2.2.trans h.2.2⟩
theorem ag_fr {M : NN} {P : Nat → Nat → Prop} (h : Fr P N M) (hp : ∀ o k, P o k → o ≠ 75 ∧ o ≠ 76 ∧ o ≠ 77 ∧ o ≠ 78 ∧ (o = 64 → k ≠ 23 ∧ k ≠ 29)) : Ag N M := ⟨fun k => ⟨h 75 k fun y => (hp _ _ y).1 rfl, h 76 k fun y => (hp _ _ y).2.1 rfl, h 77 k fun y => (hp _ _ y).2.2.1 rfl, h 78 k fun y => (hp _ _ y).2.2.2.1 rfl⟩, h 64 23 fun y => ((hp _ _ y).2.2.2.2 rfl).1 rfl, h 64 29 fun y => ((hp _ _ y).2.2.2.2 rfl).2 rfl⟩
theorem pw_ag {M : NN} {t z p : Nat} (h : PW N t z p) (a : Ag N M) : PW M t z p := by
  obtain ⟨h1, h2, h3, h4, h5, h6⟩ := h
  refine ⟨a.2.1.trans h1, a.2.2.trans h2, ?_, h4, fun k hk => ?_, fun k hk => ?_⟩
  · rw [na_c (g := N 77) p fun k _ => (a.1 k).2.2.1]; exact h3
  · rw [(a.1 k).2.2.1, (a.1 k).2.2.2]; exact h5 k hk
  · rw [(a.1 k).1]; exact h6 k hk
theorem pw_t {t t' z p : Nat} (h : PW N t z p) (q : t ≤ t') : PW N t' z p := ⟨h.1, h.2.1, by have := h.2.2.1; omega, by have := h.2.2.2.1; omega, h.2.2.2.2⟩
theorem pend_ag {M : NN} {l : Int} {p0 z0 d : Nat} {D : Den} (h : Pend X W ord N l p0 z0 d D) (a : Ag N M) : Pend X W ord M l p0 z0 d D := fun M' a' => h M' (ag_tr a a')
theorem pend_d {l : Int} {p0 z0 d d' : Nat} {D : Den} (h : Pend X W ord N l p0 z0 d D) (q : d ≤ d') : Pend X W ord N l p0 z0 d' D := fun M a => by
  obtain ⟨M', z', h1, h2, h3, h4, h5⟩ := h M a
  exact ⟨M', z', h1, h2, h3, seg_d h4 q, h5⟩
theorem pend_base {t z p z0 d : Nat} {D : Den} (ht : t ≤ 400) (h : PW N t z p) (hs : SgR W ord N z0 z d D) : Pend X W ord N 7 p z0 d D := fun M a => by
  have h' := pw_ag h a
  refine ⟨M, z, st_stop h'.2.1 (by have := h.2.2.2.1; omega) (Or.inr ?_), h'.2.1, h'.1, sg_c hs fun k _ _ => ⟨(a.1 k).1, (a.1 k).2.1⟩, fun k _ => ⟨rfl, rfl⟩, fr_rfl⟩
  have := bd_b (M 77 (p - 1))
  omega
/-- a deeper settling comes first -/
theorem pend_two {t z p p0 z0 d : Nat} {D : Den} {l m : Int} (hl : 1 ≤ l) (hlm : l ≤ m) (ht : t ≤ 400) (h : PW N t z p) (hp : Pend X W ord N m p0 z0 d D) {M : NN} (a : Ag N M) : ∃ M' z', f_X12_settle X M l = f_X12_settle X M' l ∧ PW M' t z' p0 ∧ SgR W ord M' z0 z' d D ∧ (∀ k, k < z0 → M' 75 k = M 75 k ∧ M' 76 k = M 76 k) ∧ Fr frSe M M' := by
  obtain ⟨M', z', h1, h2, h3, h4, h5, h6⟩ := hp M a
  obtain ⟨M1, z1, p1, r1, r2, r3, _⟩ := st_ok p z t M l m hl hlm ht (pw_ag h a) (X := X)
  have e : M1 = M' := by rw [h1] at r1; exact (Option.some.inj r1).symm
  subst e
  have ep : p1 = p0 := by have := r3.2.1; omega
  have ez : z1 = z' := by have := r3.1; omega
  subst ep
  subst ez
  exact ⟨M1, z1, r2, r3, h4, h5, h6⟩
theorem pend_weak {t z p p0 z0 d : Nat} {D : Den} {l m : Int} (hl : 1 ≤ l) (hlm : l ≤ m) (ht : t ≤ 400) (h : PW N t z p) (hp : Pend X W ord N m p0 z0 d D) (hc : p0 = 0 ∨ bdP (N 77 (p0 - 1)) < l) : Pend X W ord N l p0 z0 d D := fun M a => by
  obtain ⟨M', z', h1, h2, h3, h4, h5⟩ := pend_two hl hlm ht h hp a
  refine ⟨M', z', ?_, h2.2.1, h2.1, h3, h4, h5⟩
  rw [h1]
  refine st_stop h2.2.1 (by have := h2.2.2.2.1; omega) ?_
  rcases hc with q | q
  · exact Or.inl q
  · exact Or.inr (by rw [h5 77 (p0 - 1) (by unfold frSe; omega), (a.1 (p0 - 1)).2.2.1]; exact q)
theorem pend_bin {t z p p0 zm z0 d1 d2 d : Nat} {D1 D2 : Den} {o l : Int} (ht : t ≤ 400) (h : PW N t z p) (hp : Pend X W ord N (l + 1) (p0 + 1) zm d2 D2) (ho : N 77 p0 = o) (o1 : 20 ≤ o) (o2 : o ≤ 27) (hl : l = bdP o) (hs : SgR W ord N z0 zm d1 D1) (q1 : d1 ≤ d) (q2 : d2 + 1 ≤ d) (hc : p0 = 0 ∨ bdP (N 77 (p0 - 1)) < l) : Pend X W ord N l p0 z0 d (dBin (o - 18) D1 D2) := fun M a => by
  have l1 : 1 ≤ l := by rw [hl]; unfold bdP; rw [if_pos (by omega), if_neg (by omega), if_neg (by omega), if_neg (by omega)]; split <;> (try split) <;> omega
  obtain ⟨M', z', h1, h2, h3, h4, h5⟩ := pend_two l1 (show l ≤ l + 1 by omega) ht h hp a
  have e7 : ∀ k, M' 77 k = N 77 k := fun k => by rw [h5 77 k (by unfold frSe; omega), (a.1 k).2.2.1]
  have b3 := h2.2.2.1
  have b4 := h2.2.2.2.1
  rw [naP, if_neg (by rw [e7, ho]; omega)] at b3
  have e8 : M' 77 p0 = o := by rw [e7]; exact ho
  have m0 := hs.1
  have m1 := h3.1
  obtain ⟨M2, hM2⟩ : ∃ M2, M2 = m_up (m_up (m_up (m_up M' 64 29 (p0 : Int)) 75 z' (M' 77 p0)) 76 z' 0) 64 23 ((z' : Int) + 1) := ⟨_, rfl⟩
  have f2 : Fr frSe M' M2 := by rw [hM2]; exact fr_up (fr_up (fr_up (fr_up fr_rfl (by unfold frSe; omega)) (by unfold frSe; omega)) (by unfold frSe; omega)) (by unfold frSe; omega)
  have ek : ∀ k, k ≠ z' → M2 75 k = M' 75 k ∧ M2 76 k = M' 76 k := fun k hk => by
    rw [hM2, up_o (by omega), up_o (by omega), up_k (by omega), up_o (by omega), up_o (by omega), up_k (by omega), up_o (by omega), up_o (by omega)]; exact ⟨rfl, rfl⟩
  have ez : M2 75 z' = o := by rw [hM2, up_o (by omega), up_o (by omega), up_s]; exact e8
  have e2 : M2 64 29 = (p0 : Int) := by rw [hM2, up_k (by omega), up_o (by omega), up_o (by omega), up_s]
  have e3 : M2 64 23 = ((z' + 1 : Nat) : Int) := by rw [hM2, up_s]; omega
  refine ⟨M2, z' + 1, ?_, e2, e3, seg_bin (d1 := d1) (d2 := d2) (m := zm) ?_ ?_ ?_ (by omega) (by omega) q1 q2, ?_, fr_tr h5 f2⟩
  · rw [h1, st_pop (p := p0) (by rw [h2.2.1]; omega) h2.1 (by omega) (by omega) (by rw [e8]; omega) (by omega) (by omega), ← hM2]
    exact st_stop e2 (by omega) (by rw [f2 77 (p0 - 1) (by unfold frSe; omega), e7]; exact hc)
  · refine sg_c hs fun k a1 a2 => ?_
    have w := h4 k a2
    have w2 := ek k (by omega)
    exact ⟨w2.1.trans (w.1.trans (a.1 k).1), w2.2.trans (w.2.trans (a.1 k).2.1)⟩
  · exact sg_c h3 fun k a1 a2 => ek k (by omega)
  · rw [ez]
    unfold nA
    rw [if_neg (by omega), if_neg (by omega)]
  · intro k hk
    have w := h4 k (by omega)
    have w2 := ek k (by omega)
    exact ⟨w2.1.trans w.1, w2.2.trans w.2⟩
theorem bd29 : bdP 29 = 2 := by decide
theorem bd30 : bdP 30 = 1 := by decide
theorem bd28 : bdP 28 = 3 := by decide
theorem pend_jmp {t z p p0 zm z0 d1 d2 d : Nat} {D1 D2 : Den} {o l : Int} (ht : t ≤ 400) (h : PW N t z p) (hp : Pend X W ord N (l + 1) (p0 + 1) (zm + 1) d2 D2) (ho : N 77 p0 = o) (o1 : o = 29 ∨ o = 30) (hl : l = bdP o) (hs : SgR W ord N z0 zm d1 D1) (hb : DBo D1) (h78 : N 78 p0 = (zm : Int)) (h75 : N 75 zm = o) (q1 : d1 ≤ d) (q2 : d2 ≤ d) (hc : p0 = 0 ∨ bdP (N 77 (p0 - 1)) < l) : Pend X W ord N l p0 z0 d (if o = 30 then dOr D1 D2 else dAnd D1 D2) := fun M a => by
  have l1 : 1 ≤ l := by
    rcases o1 with c | c
    · rw [hl, c, bd29]; omega
    · rw [hl, c, bd30]; omega
  obtain ⟨M', z', h1, h2, h3, h4, h5⟩ := pend_two l1 (show l ≤ l + 1 by omega) ht h hp a
  have e7 : ∀ k, M' 77 k = N 77 k := fun k => by rw [h5 77 k (by unfold frSe; omega), (a.1 k).2.2.1]
  have b3 := h2.2.2.1
  have b4 := h2.2.2.2.1
  have e8 : M' 77 p0 = o := by rw [e7]; exact ho
  have e9 : M' 78 p0 = (zm : Int) := by rw [h5 78 p0 (by unfold frSe; omega), (a.1 p0).2.2.2]; exact h78
  have m0 := hs.1
  have m1 := h3.1
  have z4 : z' ≤ 400 := by omega
  have ec : M' 75 zm = o := by rw [(h4 zm (by omega)).1, (a.1 zm).1]; exact h75
  obtain ⟨M2, hM2⟩ : ∃ M2, M2 = m_up (m_up M' 64 29 (p0 : Int)) 76 zm (z' : Int) := ⟨_, rfl⟩
  have f2 : Fr frSe M' M2 := by rw [hM2]; exact fr_up (fr_up fr_rfl (by unfold frSe; omega)) (by unfold frSe; omega)
  have ek : ∀ k, k ≠ zm → M2 75 k = M' 75 k ∧ M2 76 k = M' 76 k := fun k hk => by
    rw [hM2, up_o (by omega), up_o (by omega), up_k (by omega), up_o (by omega)]; exact ⟨rfl, rfl⟩
  have ez : M2 75 zm = o := by rw [hM2, up_o (by omega), up_o (by omega)]; exact ec
  have ez2 : M2 76 zm = (z' : Int) := by rw [hM2, up_s]
  have e2 : M2 64 29 = (p0 : Int) := by rw [hM2, up_o (by omega), up_s]
  have e3 : M2 64 23 = (z' : Int) := by rw [hM2, up_o (by omega), up_k (by omega)]; exact h2.1
  refine ⟨M2, z', ?_, e2, e3, ?_, ?_, fr_tr h5 f2⟩
  · rw [h1, st_popj (p := p0) (by rw [h2.2.1]; omega) (by omega) (by rw [e9]; omega) (by rw [e8]; omega) (by rw [e8]; exact o1), e9, Int.toNat_natCast, h2.1, ← hM2]
    exact st_stop e2 (by omega) (by rw [f2 77 (p0 - 1) (by unfold frSe; omega), e7]; exact hc)
  · have sj := seg_jmp (W := W) (A := fun k => nA (M2 75 k)) (R := fun k => nR ord (M2 75 k) (M2 76 k)) (i := z0) (p := zm) (j := z') (d1 := d1) (d2 := d2) (d := d) (a := o - 18) (D1 := D1) (D2 := D2)
      (sg_c hs fun k a1 a2 => by
        have w := h4 k (by omega)
        have w2 := ek k (by omega)
        exact ⟨w2.1.trans (w.1.trans (a.1 k).1), w2.2.trans (w.2.trans (a.1 k).2.1)⟩) hb
      (sg_c h3 fun k a1 a2 => ek k (by omega))
      (by rw [ez]; unfold nA; rw [if_neg (by omega), if_neg (by omega)]) (by omega)
      (by rw [ez, ez2]; unfold nR; rw [if_neg (by omega), if_neg (by omega)]) q1 q2
    have eo : (if o - 18 = 12 then dOr D1 D2 else dAnd D1 D2) = (if o = 30 then dOr D1 D2 else dAnd D1 D2) := by
      rcases o1 with c | c
      · rw [if_neg (by omega), if_neg (by omega)]
      · rw [if_pos (by omega), if_pos (by omega)]
    rw [eo] at sj
    exact sj
  · intro k hk
    have w := h4 k (by omega)
    have w2 := ek k (by omega)
    exact ⟨w2.1.trans w.1, w2.2.trans w.2⟩
theorem st_nots {d z0 : Nat} : ∀ (j : Nat) (M : NN) (t z p0 : Nat) (D : Den), t ≤ 400 → PW M t z (p0 + j) → (∀ k, p0 ≤ k → k < p0 + j → M 77 k = 28) → SgR W ord M z0 z d D → DBo D → (p0 = 0 ∨ bdP (M 77 (p0 - 1)) < 3) → ∃ M' z', f_X12_settle X M 3 = some M' ∧ M' 64 29 = (p0 : Int) ∧ M' 64 23 = ((z' : Nat) : Int) ∧ SgR W ord M' z0 z' d (if j % 2 = 1 then dNot D else D) ∧ (∀ k, k < z0 → M' 75 k = M 75 k ∧ M' 76 k = M 76 k) ∧ Fr frSe M M'
  | 0, M, t, z, p0, D, ht, h, h28, hs, hb, hc => ⟨M, z, st_stop h.2.1 (by have := h.2.2.2.1; omega) hc, h.2.1, h.1, hs, fun k _ => ⟨rfl, rfl⟩, fr_rfl⟩
  | j + 1, M, t, z, p0, D, ht, h, h28, hs, hb, hc => by
    have e := h28 (p0 + j) (by omega) (by omega)
    have b3 := h.2.2.1
    have b4 := h.2.2.2.1
    rw [show p0 + (j + 1) = (p0 + j) + 1 by omega, naP, if_neg (by omega)] at b3
    have m0 := hs.1
    obtain ⟨M1, hM1⟩ : ∃ M1, M1 = m_up (m_up (m_up (m_up M 64 29 ((p0 + j : Nat) : Int)) 75 z (M 77 (p0 + j))) 76 z 0) 64 23 ((z : Int) + 1) := ⟨_, rfl⟩
    have f1 : Fr frSe M M1 := by rw [hM1]; exact fr_up (fr_up (fr_up (fr_up fr_rfl (by unfold frSe; omega)) (by unfold frSe; omega)) (by unfold frSe; omega)) (by unfold frSe; omega)
    have e7 : ∀ k, M1 77 k = M 77 k := fun k => f1 77 k (by unfold frSe; omega)
    have e8 : ∀ k, M1 78 k = M 78 k := fun k => f1 78 k (by unfold frSe; omega)
    have ek : ∀ k, k ≠ z → M1 75 k = M 75 k ∧ M1 76 k = M 76 k := fun k hk => by
      rw [hM1, up_o (by omega), up_o (by omega), up_k (by omega), up_o (by omega), up_o (by omega), up_k (by omega), up_o (by omega), up_o (by omega)]; exact ⟨rfl, rfl⟩
    have ez : M1 75 z = 28 := by rw [hM1, up_o (by omega), up_o (by omega), up_s]; exact e
    have w1 : PW M1 t (z + 1) (p0 + j) := by
      refine ⟨by rw [hM1, up_s]; omega, by rw [hM1, up_k (by omega), up_o (by omega), up_o (by omega), up_s], ?_, by omega, fun k hk => ?_, fun k hk => ?_⟩
      · rw [na_c (g := M 77) _ fun k _ => e7 k]; omega
      · rw [e7, e8]; exact h.2.2.2.2.1 k (by omega)
      · by_cases c : k = z
        · rw [c, ez]; omega
        · rw [(ek k c).1]; exact h.2.2.2.2.2 k (by omega)
    have s1 : SgR W ord M1 z0 (z + 1) d (dNot D) := seg_not (sg_c hs fun k a1 a2 => ek k (by omega)) hb (by rw [ez]; rfl)
    obtain ⟨M', z', r1, r2, r3, r4, r5, r6⟩ := st_nots j M1 t (z + 1) p0 (dNot D) ht w1 (fun k a1 a2 => by rw [e7]; exact h28 k a1 (by omega)) s1 (dbo_not hb) (by rw [e7]; exact hc)
    refine ⟨M', z', ?_, r2, r3, ?_, fun k hk => ?_, fr_tr f1 r6⟩
    · rw [← r1, st_pop (p := p0 + j) (by rw [h.2.1]; omega) h.1 (by omega) (by omega) (by rw [e, bd28]; omega) (by omega) (by omega), ← hM1]
    · rw [dnot2] at r4
      by_cases c : j % 2 = 1
      · rw [if_pos c] at r4; rw [if_neg (by omega)]; exact r4
      · rw [if_neg c] at r4; rw [if_pos (by omega)]; exact r4
    · have a1 := r5 k hk
      have a2 := ek k (by omega)
      exact ⟨a1.1.trans a2.1, a1.2.trans a2.2⟩
theorem pend_nots {t z p p0 j z0 d : Nat} {D : Den} (ht : t ≤ 400) (h : PW N t z p) (hp : Pend X W ord N 4 (p0 + j) z0 d D) (h28 : ∀ k, p0 ≤ k → k < p0 + j → N 77 k = 28) (hb : DBo D) (hc : p0 = 0 ∨ bdP (N 77 (p0 - 1)) < 3) : Pend X W ord N 3 p0 z0 d (if j % 2 = 1 then dNot D else D) := fun M a => by
  obtain ⟨M', z', h1, h2, h3, h4, h5⟩ := pend_two (show (1 : Int) ≤ 3 by omega) (show (3 : Int) ≤ 4 by omega) ht h hp a
  have e7 : ∀ k, M' 77 k = N 77 k := fun k => by rw [h5 77 k (by unfold frSe; omega), (a.1 k).2.2.1]
  obtain ⟨M2, z2, r1, r2, r3, r4, r5, r6⟩ := st_nots j M' t z' p0 D ht h2 (fun k a1 a2 => by rw [e7]; exact h28 k a1 a2) h3 hb (by rw [e7]; exact hc) (X := X)
  exact ⟨M2, z2, by rw [h1]; exact r1, r2, r3, r4, fun k hk => ⟨(r5 k hk).1.trans (h4 k hk).1, (r5 k hk).2.trans (h4 k hk).2⟩, fr_tr h5 r6⟩
end PE
