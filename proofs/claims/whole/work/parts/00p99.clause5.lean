section CM2
variable {X : MX} {N : NN} {tp : Nat → Int} {n : Nat} {W : Int}
theorem c_open {i : Nat} {a1 : Int} (hX : XOK X) (hi : i < 12) (h4 : N 21 4 = (i : Int)) : ∃ M, f_X8_open X 21 N a1 = some ((i : Int), M) ∧ M 24 (8 * i) = a1 ∧ (∀ k, 2 ≤ k → k < 8 → M 24 (8 * i + k) = 0) ∧ M 24 (8 * i + 1) = 1 ∧ M 21 4 = (i : Int) + 1 ∧ (∀ k, k < 8 * i → M 24 k = N 24 k) ∧ Fr fr24 N M := by
  have e : (((xK X (21 + 3)).2 : Nat) : Int) = 96 := by rw [hX.2.2.2.2.2.2.2.1]; rfl
  obtain ⟨M0, e0, g0, f0⟩ := c_fill (X := X) (N := N) (o := 21 + 3) (v := 0) (a := (i : Int) * 8) (b := ((i : Int) + 1) * 8) hX.2.2.2.2.2.2.2.1 (by omega) (by omega) (by omega) (by omega)
  have m4 : M0 21 4 = (i : Int) := by rw [f0 21 4 (by omega)]; exact h4
  obtain ⟨M, hM⟩ : ∃ M, M = m_up (m_up (m_up M0 24 (8 * i) a1) 24 (8 * i + 1) 1) 21 4 ((i : Int) + 1) := ⟨_, rfl⟩
  refine ⟨M, ?_, ?_, fun k a b => ?_, ?_, ?_, fun k hk => ?_, ?_⟩
  · unfold f_X8_open f_X8_open_j81
    rw [e, if_pos (by omega), h4, w_id (x := (i : Int) + 1) (by omega) (by omega), w_id (x := ((i : Int) + 1) * 8) (by omega) (by omega), if_neg (by omega), w_id (x := (i : Int) * 8) (by omega) (by omega), e0, Option.bind_some, m4, w_id (x := (i : Int) * 8) (by omega) (by omega), w_id (x := (i : Int) * 8 + 0) (by omega) (by omega), if_pos (by omega), show ((i : Int) * 8 + 0).toNat = 8 * i by omega]
    dsimp only
    have x1 : ∀ v, m_up M0 (21 + 3) (8 * i) v 21 4 = (i : Int) := fun v => by rw [up_o (by omega)]; exact m4
    rw [x1, w_id (x := (i : Int) * 8) (by omega) (by omega), w_id (x := (i : Int) * 8 + 1) (by omega) (by omega), if_pos (by omega), show ((i : Int) * 8 + 1).toNat = 8 * i + 1 by omega]
    have x2 : ∀ v, m_up (m_up M0 (21 + 3) (8 * i) a1) (21 + 3) (8 * i + 1) v 21 4 = (i : Int) := fun v => by rw [up_o (by omega)]; exact x1 a1
    rw [x2, up_s, w_id (x := (i : Int) + 1) (by omega) (by omega), w_id (x := (i : Int) + 1 - 1) (by omega) (by omega), show (i : Int) + 1 - 1 = (i : Int) by omega, hM]
  · rw [hM, up_o (by omega), up_k (by omega), up_s]
  · rw [hM, up_o (by omega), up_k (by omega), up_k (by omega)]
    have y := g0 (8 * i + k)
    rw [if_pos (by omega)] at y
    exact y
  · rw [hM, up_o (by omega), up_s]
  · rw [hM, up_s]
  · rw [hM, up_o (by omega), up_k (by omega), up_k (by omega)]
    have y := g0 k
    rw [if_neg (by omega)] at y
    exact y
  · rw [hM]
    exact fr_up (fr_up (fr_up (fr_mono f0 fun o k q => Or.inl q) (Or.inl rfl)) (Or.inl rfl)) (Or.inr ⟨rfl, rfl⟩)
theorem c_lawfin {M1 : NN} {t t1 np1 z z1 i : Nat} {k : Int} {ds : Option Den} (hn : n ≤ 400) (hb : ∀ j, j < n → 0 ≤ tp j ∧ tp j ≤ 255) (hX : XOK X) (hW : W = 9) (hA : KAc M1 tp n) (hi : i < 12) (h : CSt M1 tp n false t1 np1 z1) (hk : M1 24 (8 * i) = 256 + k) (hk2 : 0 ≤ k ∧ k ≤ 2) (hs0 : ∃ s0 s1 : Nat, M1 24 (8 * i + 4) = (s0 : Int) ∧ M1 24 (8 * i + 5) = (s1 : Int) ∧ s1 ≤ z1 ∧ ∀ D, ds = some D → Seg W (M1 22) (M1 23) s0 s1 28 D ∧ DBd D) (h2 : M1 24 (8 * i + 2) = 0) (h3 : M1 24 (8 * i + 3) = 0) (h4 : M1 21 4 = (i : Int) + 1) (hlo : ∀ k, k < 8 * i → M1 24 k = N 24 k) (hcl : ∀ k, k < z → M1 22 k = N 22 k ∧ M1 23 k = N 23 k) (hf : Fr frCl N M1) (ht : t < t1) (hzz : z ≤ z1) (hd : k = 2 ↔ ds = none) : Ok (f_X5_lawClause_j59 X M1 (i : Int)) (LCq W tp n N t z i (match pCl2 tp n t1 np1 with | .inl x => .inl x | .inr q => .inr (q.1, q.2.1, (k, q.2.2, ds)))) := by
  obtain ⟨s0, s1, a4, a5, sz, hs⟩ := hs0
  unfold f_X5_lawClause_j59 f_X5_lawClause_j71 f_X5_lawClause_j72 pCl2
  by_cases c : tkK tp n t1 = 259
  case neg =>
    have e : f_X5_condition X M1 (i : Int) = some (1, M1) := by unfold f_X5_condition; rw [if_neg (show ¬ M1 16 10 = 259 by rw [h.2.1]; exact c)]
    rw [e, Option.bind_some, if_neg (show ¬ (1 : Int) = 0 by omega), if_pos (by omega), if_neg c]
    refine ok_ret ⟨hf, rfl, z1, h, hzz, ⟨hk, hk2, s0, s1, 0, 0, a4, a5, h2, h3, sz, by omega, hd, hs, fun _ => ⟨rfl, rfl⟩, fun D e => ?_⟩, h4, hcl, hlo, ht⟩
    cases e
  rw [if_pos c]
  refine ok_bind (c_cond (W := W) hn hb hX (by rw [hW]; rfl) hA hi h c) ?_
  rintro ⟨v, M⟩ hq
  dsimp only
  cases hr : xpS tp n false true (t1 + 1) np1 with
  | inl x =>
    rw [hr] at hq
    obtain ⟨q1, q2, q3⟩ := xc_0 hq
    dsimp only at q2 q3
    subst q2
    rw [if_pos rfl, if_pos (by omega)]
    exact ok_ret ⟨fr_tr hf q1, rfl, q3⟩
  | inr q =>
    rw [hr] at hq
    obtain ⟨q1, q2, z', q3, q4, q5, q6, q7, q8, q9, q10, q11⟩ := xc_1 hq
    dsimp only at q1 q2 q3 q4 q6 q7 q8 q9 q10
    subst q2
    rw [if_pos rfl] at q5
    rw [if_neg (show ¬ (1 : Int) = 0 by omega), if_pos (by omega)]
    have zl := q4.1
    refine ok_ret ⟨fr_tr hf q1, rfl, z', q3, by omega, ⟨?_, hk2, s0, s1, z1, z', ?_, ?_, q6, q7, by omega, Nat.le_refl _, hd, fun D e => ?_, fun e => ?_, fun D e => ?_⟩, q10.trans h4, fun k hk' => ?_, fun k hk' => ?_, by dsimp only; omega⟩
    · dsimp only
      rw [q8 _ (by omega) (by omega)]; exact hk
    · dsimp only
      rw [q8 _ (by omega) (by omega)]; exact a4
    · dsimp only
      rw [q8 _ (by omega) (by omega)]; exact a5
    · obtain ⟨y1, y2⟩ := hs D e
      exact ⟨seg_c y1 fun k _ a2 => q9 k (by omega), y2⟩
    · cases e
    · have e' : q.2.2 = D := Option.some.inj e
      subst e'
      exact ⟨q4, q5⟩
    · have y := q9 k (by omega)
      have y2 := hcl k hk'
      exact ⟨y.1.trans y2.1, y.2.trans y2.2⟩
    · dsimp only
      rw [q8 _ (by omega) (by omega)]; exact hlo k hk'
theorem c_lawClause {t np z i : Nat} (hn : n ≤ 400) (hb : ∀ j, j < n → 0 ≤ tp j ∧ tp j ≤ 255) (hX : XOK X) (hW : W = 9) (hA : KAc N tp n) (hi : i < 12) (h : CSt N tp n false t np z) (h4 : N 21 4 = (i : Int)) : Ok (f_X5_lawClause X N) (LCq W tp n N t z i (pCl tp n t np)) := by
  unfold f_X5_lawClause pCl
  have bad : Ok (f_X5_lawClause_j20 X N) (LCq W tp n N t z i (.inl t)) := by
    unfold f_X5_lawClause_j20
    rw [c_wrong hn hA h, Option.bind_some, if_pos (by omega)]
    exact ok_ret ⟨fr_up fr_rfl (Or.inl (by unfold frRd; omega)), rfl, by dsimp only; exact up_s⟩
  by_cases c1 : tkK tp n t < 256
  · rw [if_pos (show N 16 10 < 256 by rw [h.2.1]; exact c1), if_pos (Or.inl c1)]
    exact bad
  rw [if_neg (show ¬ N 16 10 < 256 by rw [h.2.1]; exact c1)]
  by_cases c2 : 258 < tkK tp n t
  · rw [if_pos (show 258 < N 16 10 by rw [h.2.1]; exact c2), if_pos (Or.inr c2)]
    exact bad
  rw [if_neg (show ¬ 258 < N 16 10 by rw [h.2.1]; exact c2), if_neg (show ¬ (tkK tp n t < 256 ∨ 258 < tkK tp n t) by omega)]
  obtain ⟨M0, e0, g0, gz, g1, g4, gl, f0⟩ := c_open (X := X) (N := N) (i := i) (a1 := N 16 10) hX hi h4
  rw [e0, Option.bind_some]
  dsimp only
  have C0 := cst_24 h f0
  have A0 := kac_cl hA (fr_4c f0)
  obtain ⟨ad, C2⟩ := c_advance hn hb A0 C0 (by omega)
  obtain ⟨M2, hM2⟩ : ∃ M2, M2 = m_up (m_up M0 16 9 ((t : Int) + 1)) 16 10 (tkK tp n (t + 1)) := ⟨_, rfl⟩
  rw [← hM2] at ad C2
  have f2 : Fr (fun o k => o = 16 ∧ (k = 9 ∨ k = 10)) M0 M2 := by rw [hM2]; exact fr_up (fr_up fr_rfl (by omega)) (by omega)
  have f2d : Fr frRd M0 M2 := fr_mono f2 fun o k q => by unfold frRd; omega
  have A2 := kac_fr A0 f2d
  have f02 : Fr frCl N M2 := fr_tr (fr_4c f0) (fr_dc f2d)
  rw [ad, Option.bind_some, h.2.1]
  have g24 : ∀ k, M2 24 k = M0 24 k := fun k => f2 24 k (by omega)
  have b24 : M2 24 (8 * i) = 256 + (tkK tp n t - 256) := by rw [g24, g0, h.2.1]; omega
  have lo24 : ∀ k, k < 8 * i → M2 24 k = N 24 k := fun k hk => (g24 k).trans (gl k hk)
  have cl : ∀ k, M2 22 k = N 22 k ∧ M2 23 k = N 23 k := fun k => ⟨(f2 22 k (by omega)).trans (f0 22 k (by unfold fr24; omega)), (f2 23 k (by omega)).trans (f0 23 k (by unfold fr24; omega))⟩
  have m4 : M2 21 4 = (i : Int) + 1 := (f2 21 4 (by omega)).trans g4
  have zt := h.2.2.2.2.2.2.1
  unfold pCl1
  by_cases c3 : tkK tp n t = 258
  · rw [if_pos c3, if_pos c3]
    exact c_lawfin hn hb hX hW A2 hi C2 b24 (by omega) ⟨0, 0, by rw [g24]; exact gz 4 (by omega) (by omega), by rw [g24]; exact gz 5 (by omega) (by omega), by omega, fun D e => (by cases e)⟩ (by rw [g24]; exact gz 2 (by omega) (by omega)) (by rw [g24]; exact gz 3 (by omega) (by omega)) m4 lo24 (fun k _ => cl k) f02 (by omega) (Nat.le_refl _) (by constructor; intro _; rfl; intro _; omega)
  rw [if_neg c3, if_neg c3]
  refine ok_bind (c_sumOf (a := 4) (W := W) hn hb hX (by rw [hW]; rfl) A2 hi (by omega) C2 (by omega)) ?_
  rintro ⟨v, M3⟩ hq
  dsimp only
  cases hr : xpS tp n false false (t + 1) np with
  | inl x =>
    rw [hr] at hq
    obtain ⟨q1, q2, q3⟩ := xc_0 hq
    dsimp only at q2 q3
    subst q2
    unfold f_X5_lawClause_j71 f_X5_lawClause_j72
    rw [if_pos rfl, if_pos (by omega)]
    exact ok_ret ⟨fr_tr f02 q1, rfl, q3⟩
  | inr q =>
    rw [hr] at hq
    obtain ⟨q1, q2, z', q3, q4, q5, q6, q7, q8, q9, q10, q11⟩ := xc_1 hq
    dsimp only at q1 q2 q3 q4 q6 q7 q8 q9 q10
    subst q2
    rw [if_neg (show ¬ (false = true) by decide)] at q5
    rw [if_neg (show ¬ (1 : Int) = 0 by omega)]
    have zl := q4.1
    exact c_lawfin hn hb hX hW (kac_cl A2 q1) hi q3 (by rw [q8 _ (by omega) (by omega)]; exact b24) (by omega) ⟨z, z', q6, q7, Nat.le_refl _, fun D e => by
      have e' : q.2.2 = D := Option.some.inj e
      subst e'
      exact ⟨q4, q5⟩⟩ (by rw [q8 _ (by omega) (by omega), g24]; exact gz 2 (by omega) (by omega)) (by rw [q8 _ (by omega) (by omega), g24]; exact gz 3 (by omega) (by omega)) (q10.trans m4) (fun k hk' => by rw [q8 _ (by omega) (by omega)]; exact lo24 k hk') (fun k hk' => ⟨(q9 k hk').1.trans (cl k).1, (q9 k hk').2.trans (cl k).2⟩) (fr_tr f02 q1) (by omega) (by omega) (by constructor; intro y; omega; intro y; cases y)
end CM2
