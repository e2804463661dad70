/-! orders: the clauses; the class's -/
abbrev OCl : Type := Int × Int × Option Den × Option (Den × Den)
noncomputable def pCnd (tp : Nat → Int) (n t np : Nat) : Nat ⊕ (Nat × Nat × Option Den) := if tkK tp n t = 259 then (match xpS tp n true true (t + 1) np with
  | .inl x => .inl x
  | .inr q => .inr (q.1, q.2.1, some q.2.2)) else .inr (t, np, none)
noncomputable def pGv (tp : Nat → Int) (n t np : Nat) : Nat ⊕ (Nat × Nat × Option (Den × Den)) := if tkK tp n t = 265 then .inr (t + 1, np, none) else match xpS tp n true false (t + 1) np with
  | .inl x => .inl x
  | .inr q => if tkK tp n q.1 = 264 then (match xpS tp n true false (q.1 + 1) q.2.1 with
    | .inl x => .inl x
    | .inr p => .inr (p.1, p.2.1, some (q.2.2, p.2.2))) else .inl q.1
noncomputable def pTC (tp : Nat → Int) (n : Nat) (k : Int) (t np : Nat) (ds : Option (Den × Den)) : Nat ⊕ (Nat × Nat × OCl) := match pTi tp n t with
  | .inl x => .inl x
  | .inr q => match pCnd tp n q.1 np with
    | .inl x => .inl x
    | .inr p => .inr (p.1, p.2.1, (k, q.2, p.2.2, ds))
noncomputable def pOc (tp : Nat → Int) (n t np : Nat) : Nat ⊕ (Nat × Nat × OCl) := if tkK tp n t = 263 ∨ tkK tp n t = 265 then (match pGv tp n t np with
  | .inl x => .inl x
  | .inr s => pTC tp n (if tkK tp n t = 263 then 0 else 1) s.1 s.2.1 s.2.2) else .inl t
/-- a SUM or TEST of the class that stands between cells a and a + 1 of the clauses -/
def SC (W : Int) (N : NN) (a z : Nat) (D : Den) : Prop := ∃ s0 s1 : Nat, N 24 a = (s0 : Int) ∧ N 24 (a + 1) = (s1 : Int) ∧ s1 ≤ z ∧ Seg W (N 22) (N 23) s0 s1 28 D
def CdC (W : Int) (N : NN) (a z : Nat) : Option Den → Prop
  | none => N 24 a = 0 ∧ N 24 (a + 1) = 0
  | some D => SC W N a z D ∧ DBo D
def SmC (W : Int) (N : NN) (i z : Nat) (k : Int) : Option (Den × Den) → Prop
  | none => k = 1
  | some D => k = 0 ∧ (SC W N (8 * i + 4) z D.1 ∧ DBd D.1) ∧ SC W N (8 * i + 6) z D.2 ∧ DBd D.2
def COC (W : Int) (N : NN) (i : Nat) (c : OCl) (z : Nat) : Prop := N 24 (8 * i) = 263 + 2 * c.1 ∧ (c.1 = 0 ∨ c.1 = 1) ∧ N 24 (8 * i + 1) = c.2.1 ∧ (1 ≤ c.2.1 ∧ c.2.1 ≤ 20) ∧ CdC W N (8 * i + 2) z c.2.2.1 ∧ SmC W N i z c.1 c.2.2.2
def OCq (W : Int) (tp : Nat → Int) (n : Nat) (N : NN) (t z i : Nat) (r : Nat ⊕ (Nat × Nat × OCl)) (o : Int × NN) : Prop := Fr frCl N o.2 ∧ match r with
  | .inl f => o.1 = 0 ∧ o.2 16 6 = (tkS tp n f : Int)
  | .inr q => o.1 = 1 ∧ ∃ z', CSt o.2 tp n true q.1 q.2.1 z' ∧ z ≤ z' ∧ COC W o.2 i q.2.2 z' ∧ o.2 21 4 = (i : Int) + 1 ∧ (∀ k, k < z → o.2 22 k = N 22 k ∧ o.2 23 k = N 23 k) ∧ (∀ k, k < 8 * i → o.2 24 k = N 24 k) ∧ t < q.1
def CNq (W : Int) (tp : Nat → Int) (n : Nat) (N : NN) (t z i : Nat) (r : Nat ⊕ (Nat × Nat × Option Den)) (o : Int × NN) : Prop := Fr frCl N o.2 ∧ match r with
  | .inl f => o.1 = 0 ∧ o.2 16 6 = (tkS tp n f : Int)
  | .inr q => o.1 = 1 ∧ ∃ z', CSt o.2 tp n true q.1 q.2.1 z' ∧ z ≤ z' ∧ CdC W o.2 (8 * i + 2) z' q.2.2 ∧ (∀ k, k ≠ 8 * i + 2 → k ≠ 8 * i + 3 → o.2 24 k = N 24 k) ∧ (∀ k, k < z → o.2 22 k = N 22 k ∧ o.2 23 k = N 23 k) ∧ o.2 21 4 = N 21 4 ∧ t ≤ q.1
section OD
variable {X : MX} {N : NN} {tp : Nat → Int} {n : Nat} {W : Int}
theorem sc_mono {M : NN} {a z z' : Nat} {D : Den} (h : SC W N a z D) (hz : z ≤ z') (h1 : M 24 a = N 24 a) (h2 : M 24 (a + 1) = N 24 (a + 1)) (hc : ∀ k, k < z → M 22 k = N 22 k ∧ M 23 k = N 23 k) : SC W M a z' D := by
  obtain ⟨s0, s1, e0, e1, l, g⟩ := h
  exact ⟨s0, s1, h1.trans e0, h2.trans e1, by omega, seg_c g fun k _ b => hc k (by omega)⟩
theorem cdc_mono {M : NN} {a z z' : Nat} {d : Option Den} (h : CdC W N a z d) (hz : z ≤ z') (h1 : M 24 a = N 24 a) (h2 : M 24 (a + 1) = N 24 (a + 1)) (hc : ∀ k, k < z → M 22 k = N 22 k ∧ M 23 k = N 23 k) : CdC W M a z' d := by
  cases d with
  | none => exact ⟨h1.trans h.1, h2.trans h.2⟩
  | some D => exact ⟨sc_mono h.1 hz h1 h2 hc, h.2⟩
theorem smc_mono {M : NN} {i z z' : Nat} {k : Int} {d : Option (Den × Den)} (h : SmC W N i z k d) (hz : z ≤ z') (h1 : ∀ j, 4 ≤ j → j < 8 → M 24 (8 * i + j) = N 24 (8 * i + j)) (hc : ∀ k, k < z → M 22 k = N 22 k ∧ M 23 k = N 23 k) : SmC W M i z' k d := by
  cases d with
  | none => exact h
  | some D => exact ⟨h.1, ⟨sc_mono h.2.1.1 hz (h1 4 (by omega) (by omega)) (h1 5 (by omega) (by omega)) hc, h.2.1.2⟩, sc_mono h.2.2.1 hz (h1 6 (by omega) (by omega)) (h1 7 (by omega) (by omega)) hc, h.2.2.2⟩
theorem coc_mono {M : NN} {i : Nat} {c : OCl} {z z' : Nat} (h : COC W N i c z) (hz : z ≤ z') (h24 : ∀ k, k < 8 * (i + 1) → M 24 k = N 24 k) (hc : ∀ k, k < z → M 22 k = N 22 k ∧ M 23 k = N 23 k) : COC W M i c z' := by
  obtain ⟨a1, a2, a3, a4, a5, a6⟩ := h
  exact ⟨(h24 _ (by omega)).trans a1, a2, (h24 _ (by omega)).trans a3, a4, cdc_mono a5 hz (h24 _ (by omega)) (h24 _ (by omega)) hc, smc_mono a6 hz (fun j j1 j2 => h24 _ (by omega)) hc⟩
theorem c_ocond {t np z i : Nat} (hn : n ≤ 400) (hb : ∀ j, j < n → 0 ≤ tp j ∧ tp j ≤ 255) (hX : XOK X) (hW : W = 32) (hA : KAc N tp n) (hi : i < 12) (h : CSt N tp n true t np z) (h2 : N 24 (8 * i + 2) = 0) (h3 : N 24 (8 * i + 3) = 0) : Ok (f_X5_condition X N (i : Int)) (CNq W tp n N t z i (pCnd tp n t np)) := by
  unfold pCnd
  by_cases c : tkK tp n t = 259
  case neg =>
    have e : f_X5_condition X N (i : Int) = some (1, N) := by unfold f_X5_condition; rw [if_neg (show ¬ N 16 10 = 259 by rw [h.2.1]; exact c)]
    rw [e, if_neg c]
    exact ok_ret ⟨fr_rfl, rfl, z, h, Nat.le_refl _, ⟨h2, h3⟩, fun k _ _ => rfl, fun k _ => ⟨rfl, rfl⟩, rfl, Nat.le_refl _⟩
  rw [if_pos c]
  refine ok_mono (c_cond (W := W) hn hb hX (by rw [hW]; rfl) hA hi h c) ?_
  rintro ⟨v, M⟩ hq
  cases hr : xpS tp n true true (t + 1) np with
  | inl x =>
    rw [hr] at hq
    exact hq
  | inr q =>
    rw [hr] at hq
    obtain ⟨q1, q2, z', q3, q4, q5, q6, q7, q8, q9, q10, q11⟩ := xc_1 hq
    dsimp only at q1 q2 q3 q4 q6 q7 q8 q9 q10
    rw [if_pos rfl] at q5
    have zl := q4.1
    exact ⟨q1, q2, z', q3, by omega, ⟨⟨z, z', q6, q7, Nat.le_refl _, q4⟩, q5⟩, q8, q9, q10, by dsimp only; omega⟩
theorem c_oend {M1 : NN} {t t1 np1 z z1 i : Nat} {k : Int} {ds : Option (Den × Den)} (hn : n ≤ 400) (hb : ∀ j, j < n → 0 ≤ tp j ∧ tp j ≤ 255) (hX : XOK X) (hW : W = 32) (hA : KAc M1 tp n) (hi : i < 12) (h : CSt M1 tp n true t1 np1 z1) (hk : M1 24 (8 * i) = 263 + 2 * k) (hk2 : k = 0 ∨ k = 1) (h1 : M1 24 (8 * i + 1) = 1) (h2 : M1 24 (8 * i + 2) = 0) (h3 : M1 24 (8 * i + 3) = 0) (hs : SmC W M1 i z1 k ds) (h4 : M1 21 4 = (i : Int) + 1) (hlo : ∀ k, k < 8 * i → M1 24 k = N 24 k) (hcl : ∀ k, k < z → M1 22 k = N 22 k ∧ M1 23 k = N 23 k) (hf : Fr frCl N M1) (ht : t < t1) (hzz : z ≤ z1) : Ok (f_X5_orderClause_j92 X M1 (i : Int)) (OCq W tp n N t z i (pTC tp n k t1 np1 ds)) := by
  unfold f_X5_orderClause_j92 pTC
  refine ok_bind (c_times (X := X) hn hb hX hA hi h h1) ?_
  rintro ⟨v, M⟩ ⟨f1, R⟩
  dsimp only at f1 R ⊢
  rcases R with ⟨f, e, v0, g⟩ | ⟨q, e, v1, C2, r1, r24, r22, r4, rt, ra, rb⟩
  · rw [e]
    subst v0
    rw [if_pos rfl]
    unfold f_X5_orderClause_j112 f_X5_orderClause_j113
    rw [if_pos (by omega)]
    exact ok_ret ⟨fr_tr hf f1, rfl, g⟩
  · rw [e]
    subst v1
    rw [if_neg (show ¬ (1 : Int) = 0 by omega)]
    refine ok_bind (c_ocond (W := W) hn hb hX hW (kac_cl hA f1) hi C2 (by rw [r24 _ (by omega)]; exact h2) (by rw [r24 _ (by omega)]; exact h3)) ?_
    rintro ⟨v, M'⟩ hq
    dsimp only
    cases hr : pCnd tp n q.1 np1 with
    | inl x =>
      rw [hr] at hq
      obtain ⟨q1, q2, q3⟩ := hq
      dsimp only at q1 q2 q3
      subst q2
      rw [if_pos rfl]
      unfold f_X5_orderClause_j112 f_X5_orderClause_j113
      rw [if_pos (by omega)]
      exact ok_ret ⟨fr_tr hf (fr_tr f1 q1), rfl, q3⟩
    | inr p =>
      rw [hr] at hq
      obtain ⟨q1, q2, z', q3, q4, q5, q6, q7, q8, q9⟩ := hq
      dsimp only at q1 q2 q3 q5 q6 q7 q8
      subst q2
      rw [if_neg (show ¬ (1 : Int) = 0 by omega)]
      unfold f_X5_orderClause_j113
      rw [if_pos (by omega)]
      have g24 : ∀ k, k ≠ 8 * i + 1 → k ≠ 8 * i + 2 → k ≠ 8 * i + 3 → M' 24 k = M1 24 k := fun k b1 b2 b3 => (q6 k b2 b3).trans (r24 k b1)
      have g22 : ∀ k, k < z1 → M' 22 k = M1 22 k ∧ M' 23 k = M1 23 k := fun k hk' => ⟨(q7 k hk').1.trans (r22 k).1, (q7 k hk').2.trans (r22 k).2⟩
      refine ok_ret ⟨fr_tr hf (fr_tr f1 q1), rfl, z', q3, by omega, ⟨?_, hk2, ?_, ⟨ra, rb⟩, q5, smc_mono hs q4 (fun j j1 j2 => g24 _ (by omega) (by omega) (by omega)) g22⟩, ?_, fun k hk' => ?_, fun k hk' => ?_, by dsimp only; omega⟩
      · dsimp only
        rw [g24 _ (by omega) (by omega) (by omega)]; exact hk
      · dsimp only
        rw [q6 _ (by omega) (by omega)]; exact r1
      · dsimp only
        rw [q8, r4]; exact h4
      · have y := g22 k (by omega)
        have y2 := hcl k hk'
        exact ⟨y.1.trans y2.1, y.2.trans y2.2⟩
      · dsimp only
        rw [g24 _ (by omega) (by omega) (by omega)]; exact hlo k hk'
theorem c_orderClause {t np z i : Nat} (hn : n ≤ 400) (hb : ∀ j, j < n → 0 ≤ tp j ∧ tp j ≤ 255) (hX : XOK X) (hW : W = 32) (hA : KAc N tp n) (hi : i < 12) (h : CSt N tp n true t np z) (h4 : N 21 4 = (i : Int)) : Ok (f_X5_orderClause X N) (OCq W tp n N t z i (pOc tp n t np)) := by
  have E : f_X5_orderClause X N = if tkK tp n t = 263 ∨ tkK tp n t = 265 then f_X5_orderClause_j25 X N else Option.bind (f_X5_wrong X N) (fun o1 => if 0 ≤ o1.1 ∧ o1.1 ≤ 1 then some (o1.1, o1.2) else none) := by
    unfold f_X5_orderClause
    rw [h.2.1]
    by_cases c1 : tkK tp n t = 263
    · rw [if_pos c1, if_pos (Or.inl c1)]
    · rw [if_neg c1]
      by_cases c2 : tkK tp n t = 265
      · rw [if_pos c2, if_pos (Or.inr c2)]
      · rw [if_neg c2, if_neg (show ¬ (tkK tp n t = 263 ∨ tkK tp n t = 265) by omega)]
  rw [E]
  unfold pOc
  by_cases ck : tkK tp n t = 263 ∨ tkK tp n t = 265
  case neg =>
    rw [if_neg ck, if_neg ck, c_wrong hn hA h, Option.bind_some, if_pos (by omega)]
    exact ok_ret ⟨fr_up fr_rfl (Or.inl (by unfold frRd; omega)), rfl, by dsimp only; exact up_s⟩
  rw [if_pos ck, if_pos ck]
  obtain ⟨k, hk⟩ : ∃ k : Int, k = if tkK tp n t = 263 then 0 else 1 := ⟨_, rfl⟩
  have hk2 : k = 0 ∨ k = 1 := by rw [hk]; split <;> omega
  have hkk : tkK tp n t = 263 + 2 * k := by rw [hk]; split <;> omega
  rw [← hk]
  unfold f_X5_orderClause_j25
  obtain ⟨M0, e0, g0, gz, g1, g4, gl, f0⟩ := c_open (X := X) (N := N) (i := i) (a1 := N 16 10) hX hi h4
  rw [e0, Option.bind_some]
  dsimp only
  have C0 := cst_24 h f0
  have A0 := kac_cl hA (fr_4c f0)
  obtain ⟨ad, C2⟩ := c_advance hn hb A0 C0 (by omega)
  obtain ⟨M2, hM2⟩ : ∃ M2, M2 = m_up (m_up M0 16 9 ((t : Int) + 1)) 16 10 (tkK tp n (t + 1)) := ⟨_, rfl⟩
  rw [← hM2] at ad C2
  have f2 : Fr (fun o k => o = 16 ∧ (k = 9 ∨ k = 10)) M0 M2 := by rw [hM2]; exact fr_up (fr_up fr_rfl (by omega)) (by omega)
  have f2d : Fr frRd M0 M2 := fr_mono f2 fun o k q => by unfold frRd; omega
  have A2 := kac_fr A0 f2d
  have f02 : Fr frCl N M2 := fr_tr (fr_4c f0) (fr_dc f2d)
  rw [ad, Option.bind_some, h.2.1]
  have g24 : ∀ k, M2 24 k = M0 24 k := fun k => f2 24 k (by omega)
  have b24 : M2 24 (8 * i) = 263 + 2 * k := by rw [g24, g0, h.2.1]; exact hkk
  have lo24 : ∀ k, k < 8 * i → M2 24 k = N 24 k := fun k hk => (g24 k).trans (gl k hk)
  have cl : ∀ k, M2 22 k = N 22 k ∧ M2 23 k = N 23 k := fun k => ⟨(f2 22 k (by omega)).trans (f0 22 k (by unfold fr24; omega)), (f2 23 k (by omega)).trans (f0 23 k (by unfold fr24; omega))⟩
  have m4 : M2 21 4 = (i : Int) + 1 := (f2 21 4 (by omega)).trans g4
  have zt := h.2.2.2.2.2.2.1
  unfold pGv
  by_cases c3 : tkK tp n t = 263
  case neg =>
    rw [if_neg c3, if_pos (show tkK tp n t = 265 by omega)]
    exact c_oend hn hb hX hW A2 hi C2 b24 hk2 (by rw [g24]; exact g1) (by rw [g24]; exact gz 2 (by omega) (by omega)) (by rw [g24]; exact gz 3 (by omega) (by omega)) (show SmC W M2 i z k none by show k = 1; omega) m4 lo24 (fun k _ => cl k) f02 (by dsimp only; omega) (Nat.le_refl _)
  rw [if_pos c3, if_neg (show ¬ tkK tp n t = 265 by omega)]
  refine ok_bind (c_sumOf (a := 4) (W := W) hn hb hX (by rw [hW]; rfl) A2 hi (by omega) C2 (by omega)) ?_
  rintro ⟨v, M3⟩ hq
  dsimp only
  cases hr : xpS tp n true false (t + 1) np with
  | inl x =>
    rw [hr] at hq
    obtain ⟨q1, q2, q3⟩ := xc_0 hq
    dsimp only at q1 q2 q3
    subst q2
    rw [if_pos rfl]
    exact ok_ret ⟨fr_tr f02 q1, rfl, q3⟩
  | inr q =>
    rw [hr] at hq
    obtain ⟨q1, q2, z', q3, q4, q5, q6, q7, q8, q9, q10, q11⟩ := xc_1 hq
    dsimp only at q1 q2 q3 q4 q6 q7 q8 q9 q10
    subst q2
    rw [if_neg (show ¬ (false = true) by decide)] at q5
    rw [if_neg (show ¬ (1 : Int) = 0 by omega)]
    have zl := q4.1
    have A3 := kac_cl A2 q1
    dsimp only
    by_cases c4 : tkK tp n q.1 = 264
    case neg =>
      rw [if_neg (show ¬ M3 16 10 = 264 by rw [q3.2.1]; exact c4), if_neg c4, c_wrong hn A3 q3, Option.bind_some, if_pos (by omega)]
      exact ok_ret ⟨fr_tr f02 (fr_up q1 (Or.inl (by unfold frRd; omega))), rfl, by dsimp only; exact up_s⟩
    rw [if_pos (show M3 16 10 = 264 by rw [q3.2.1]; exact c4), if_pos c4]
    obtain ⟨ad4, C4⟩ := c_advance hn hb A3 q3 (by omega)
    obtain ⟨M4, hM4⟩ : ∃ M4, M4 = m_up (m_up M3 16 9 ((q.1 : Int) + 1)) 16 10 (tkK tp n (q.1 + 1)) := ⟨_, rfl⟩
    rw [← hM4] at ad4 C4
    have f4 : Fr (fun o k => o = 16 ∧ (k = 9 ∨ k = 10)) M3 M4 := by rw [hM4]; exact fr_up (fr_up fr_rfl (by omega)) (by omega)
    have f4d : Fr frRd M3 M4 := fr_mono f4 fun o k q => by unfold frRd; omega
    have A4 := kac_fr A3 f4d
    rw [ad4, Option.bind_some]
    have zq := q3.2.2.2.2.2.2.1
    refine ok_bind (c_sumOf (a := 6) (W := W) hn hb hX (by rw [hW]; rfl) A4 hi (by omega) C4 (by omega)) ?_
    rintro ⟨v, M5⟩ hp
    dsimp only
    cases hs : xpS tp n true false (q.1 + 1) q.2.1 with
    | inl x =>
      rw [hs] at hp
      obtain ⟨p1, p2, p3⟩ := xc_0 hp
      dsimp only at p1 p2 p3
      subst p2
      rw [if_pos rfl]
      exact ok_ret ⟨fr_tr f02 (fr_tr q1 (fr_tr (fr_dc f4d) p1)), rfl, p3⟩
    | inr p =>
      rw [hs] at hp
      obtain ⟨p1, p2, z2, p3, p4, p5, p6, p7, p8, p9, p10, p11⟩ := xc_1 hp
      dsimp only at p1 p2 p3 p4 p6 p7 p8 p9 p10
      subst p2
      rw [if_neg (show ¬ (false = true) by decide)] at p5
      rw [if_neg (show ¬ (1 : Int) = 0 by omega)]
      have zl2 := p4.1
      have k5 : ∀ k, k ≠ 8 * i + 6 → k ≠ 8 * i + 7 → M5 24 k = M3 24 k := fun k a b => (p8 k a b).trans (f4 24 k (by omega))
      have k6 : ∀ k, k < 8 * i + 4 → M5 24 k = M2 24 k := fun k a => (k5 k (by omega) (by omega)).trans (q8 k (by omega) (by omega))
      have y22 : ∀ k, k < z' → M5 22 k = M3 22 k ∧ M5 23 k = M3 23 k := fun k a => ⟨(p9 k a).1.trans (f4 22 k (by omega)), (p9 k a).2.trans (f4 23 k (by omega))⟩
      refine c_oend hn hb hX hW (kac_cl A4 p1) hi p3 (by rw [k6 _ (by omega)]; exact b24) hk2 (by rw [k6 _ (by omega), g24]; exact g1) (by rw [k6 _ (by omega), g24]; exact gz 2 (by omega) (by omega)) (by rw [k6 _ (by omega), g24]; exact gz 3 (by omega) (by omega)) ⟨by omega, ⟨⟨z, z', ?_, ?_, by omega, seg_c q4 fun k _ b => y22 k b⟩, q5⟩, ⟨z', z2, p6, p7, Nat.le_refl _, p4⟩, p5⟩ ?_ (fun k hk' => ?_) (fun k hk' => ?_) (fr_tr f02 (fr_tr q1 (fr_tr (fr_dc f4d) p1))) (by dsimp only; omega) (by omega)
      · rw [k5 _ (by omega) (by omega)]; exact q6
      · rw [k5 _ (by omega) (by omega)]; exact q7
      · rw [p10, f4 21 4 (by omega), q10]; exact m4
      · rw [k6 _ (by omega)]; exact lo24 k hk'
      · have y := y22 k (by omega)
        have y2 := q9 k hk'
        have y3 := cl k
        exact ⟨y.1.trans (y2.1.trans y3.1), y.2.trans (y2.2.trans y3.2)⟩
end OD
