/-! reading: the law that was read, as the class keeps it and as the reference keeps it -/
noncomputable def soB : Option Den → Env → Bool
  | none => fun _ => true
  | some D => fun e => decide (D e = some 1)
def smD : Option Den → Env → Option Int
  | none => fun _ => some 1
  | some D => D
noncomputable def clO (c : LC) : Cl := (c.1, soB c.2.1, smD c.2.2)
noncomputable def lawO (L : List LC) : Law := (L.length, fun i => clO (L.getD i (0, none, none)))
def CCt (W : Int) (N : NN) (t i : Nat) (c : LC) (z : Nat) : Prop := N (t + 3) (8 * i) = 256 + c.1 ∧ (0 ≤ c.1 ∧ c.1 ≤ 2) ∧ ∃ s0 s1 c0 c1 : Nat, N (t + 3) (8 * i + 4) = (s0 : Int) ∧ N (t + 3) (8 * i + 5) = (s1 : Int) ∧ N (t + 3) (8 * i + 2) = (c0 : Int) ∧ N (t + 3) (8 * i + 3) = (c1 : Int) ∧ s1 ≤ z ∧ c1 ≤ z ∧ (c.1 = 2 ↔ c.2.2 = none) ∧ (∀ D, c.2.2 = some D → Seg W (N (t + 1)) (N (t + 2)) s0 s1 28 D ∧ DBd D) ∧ (c.2.1 = none → c0 = 0 ∧ c1 = 0) ∧ ∀ D, c.2.1 = some D → Seg W (N (t + 1)) (N (t + 2)) c0 c1 28 D ∧ DBo D
section NL
variable {X : MX} {N : NN} {W : Int}
theorem cc_to {M : NN} {t i : Nat} {c : LC} {z : Nat} (h : CC1 W N i c z) (h24 : ∀ k, k < 8 * (i + 1) → M (t + 3) k = N 24 k) (hc : ∀ k, k < z → M (t + 1) k = N 22 k ∧ M (t + 2) k = N 23 k) : CCt W M t i c z := by
  obtain ⟨h1, h2, s0, s1, c0, c1, a1, a2, a3, a4, a5, a6, a7, a8, a9, a10⟩ := h
  refine ⟨(h24 _ (by omega)).trans h1, h2, s0, s1, c0, c1, (h24 _ (by omega)).trans a1, (h24 _ (by omega)).trans a2, (h24 _ (by omega)).trans a3, (h24 _ (by omega)).trans a4, a5, a6, a7, fun D e => ?_, a9, fun D e => ?_⟩
  · obtain ⟨y1, y2⟩ := a8 D e
    exact ⟨seg_c y1 fun k _ b => hc k (by omega), y2⟩
  · obtain ⟨y1, y2⟩ := a10 D e
    exact ⟨seg_c y1 fun k _ b => hc k (by omega), y2⟩
theorem getD_get {L : List LC} {i : Nat} (h : i < L.length) : ∃ c, L[i]? = some c ∧ L.getD i (0, none, none) = c := by
  refine ⟨L[i], List.getElem?_eq_getElem h, ?_⟩
  rw [List.getD_eq_getElem?_getD, List.getElem?_eq_getElem h]
  rfl
theorem ts_of {t z : Nat} {L : List LC} (ht : 104 ≤ t) (hz : z ≤ 400) (hl : L.length ≤ 12) (h3 : N t 3 = (z : Int)) (h4 : N t 4 = (L.length : Int)) (hT : ∀ X', agT X X' t → m_isT X' t) (k1 : z ≤ (xK X (t + 1)).2) (k2 : z ≤ (xK X (t + 2)).2) (k3 : 8 * L.length ≤ (xK X (t + 3)).2) (hc : ∀ i c, L[i]? = some c → CCt 9 N t i c z) : TS X N t (lawO L) := by
  refine ⟨ht, hl, fun X' ha e26 e27 => ⟨hT X' ha, fun N' hN => ?_⟩⟩
  have r0 := hN t (by omega) (by omega)
  have r1 := hN (t + 1) (by omega) (by omega)
  have r2 := hN (t + 2) (by omega) (by omega)
  have r3 := hN (t + 3) (by omega) (by omega)
  have x1 := (ha (t + 1) (by omega) (by omega)).1
  have x2 := (ha (t + 2) (by omega) (by omega)).1
  have x3 := (ha (t + 3) (by omega) (by omega)).1
  refine ⟨by unfold f_X8_clauses; rw [r0, h4]; rfl, fun i hi => ?_⟩
  have hi' : i < L.length := hi
  obtain ⟨c, c1, c2⟩ := getD_get hi'
  obtain ⟨g1, g2, s0, s1, c0, c1', a1, a2, a3, a4, a5, a6, a7, a8, a9, a10⟩ := hc i c c1
  have e2 : (lawO L).2 i = clO c := by unfold lawO; dsimp only; rw [c2]
  rw [e2]
  have sz : ((8 * L.length : Nat) : Int) ≤ (((xK X' (t + 3)).2 : Nat) : Int) := by rw [x3]; omega
  have wi : m_w ((i : Int) * 8) = (i : Int) * 8 := w_id (by omega) (by omega)
  have wk : ∀ k : Int, 0 ≤ k → k ≤ 8 → m_w ((i : Int) * 8 + k) = (i : Int) * 8 + k := fun k _ _ => w_id (by omega) (by omega)
  refine ⟨?_, fun e he hE => ⟨?_, fun hk => ?_, fun hk => ?_⟩⟩
  · unfold f_X8_part
    rw [wi, wk 0 (by omega) (by omega), if_pos (by omega), r3, show ((i : Int) * 8 + 0).toNat = 8 * i by omega, g1]
    rfl
  · unfold f_X8_isSo f_X8_isSo_j60
    rw [wi, wk 2 (by omega) (by omega), show (i : Int) * 8 + 2 + 1 = (i : Int) * 8 + 3 by omega, wk 3 (by omega) (by omega), if_pos (by omega), if_pos (by omega), r3, show ((i : Int) * 8 + 2).toNat = 8 * i + 2 by omega, show ((i : Int) * 8 + 3).toNat = 8 * i + 3 by omega, a3, a4]
    show Ok _ (fun (o : Int × NN) => o.1 = (if soB c.2.1 e = true then 1 else 0) ∧ Fr fr27 N' o.2)
    cases hd : c.2.1 with
    | none =>
      have y := a9 hd
      rw [if_neg (by omega)]
      exact ok_ret ⟨by rw [if_pos (show soB none e = true from rfl)], fr_rfl⟩
    | some D =>
      obtain ⟨y1, y2⟩ := a10 D hd
      have lt := y1.1
      rw [if_pos (by omega), if_pos (by omega), if_pos (by omega)]
      refine ok_bind (c_value (X := X') (W := 9) (t := t) (w := 26) (s := 27) (A := N (t + 1)) (R := N (t + 2)) (e := e) (sz := z) ⟨9, e26, rfl, by omega⟩ e27 (by rw [x1]; exact k1) (by rw [x2]; exact k2) a6 hz (by omega) (by omega) (by omega) (by rw [r0]; exact h3) (fun k _ => ⟨by rw [r1], by rw [r2]⟩) (fun k hk => hE k (by omega)) (show 28 ≤ 31 by omega) y1 he) ?_
      rintro ⟨v, M⟩ ⟨q1, q2⟩
      dsimp only at q1 q2 ⊢
      have fM : Fr fr27 N' M := fr_mono q2 fun o k q => q
      by_cases g : D e = some 1
      · rw [if_pos (show v = 1 by rw [q1, g]; rfl), if_pos (by omega), if_pos (show soB (some D) e = true from decide_eq_true g)]
        exact ok_ret ⟨rfl, fM⟩
      · have nv : ¬ v = 1 := by
          intro y
          rw [q1] at y
          cases hD : D e with
          | none => rw [hD] at y; exact absurd (show (-2000000000 : Int) = 1 from y) (by omega)
          | some v' =>
            rw [hD] at y
            have y' : v' = 1 := y
            exact g (by rw [hD, y'])
        rw [if_neg nv, if_pos (by omega), if_neg (show ¬ soB (some D) e = true from fun y => g (of_decide_eq_true y))]
        exact ok_ret ⟨rfl, fM⟩
  · unfold f_X8_sum
    rw [wi, wk 4 (by omega) (by omega), show (i : Int) * 8 + 4 + 1 = (i : Int) * 8 + 5 by omega, wk 5 (by omega) (by omega), if_pos (by omega), if_pos (by omega), r3, show ((i : Int) * 8 + 4).toNat = 8 * i + 4 by omega, show ((i : Int) * 8 + 5).toNat = 8 * i + 5 by omega, a1, a2]
    show Ok _ (fun (o : Int × NN) => o.1 = (smD c.2.2 e).getD (-2000000000) ∧ smD c.2.2 e ≠ some (-2000000000) ∧ Fr fr27 N' o.2)
    cases hd : c.2.2 with
    | none => exact absurd (a7.2 hd) hk
    | some D =>
      obtain ⟨y1, y2⟩ := a8 D hd
      refine ok_bind (c_value (X := X') (W := 9) (t := t) (w := 26) (s := 27) (A := N (t + 1)) (R := N (t + 2)) (e := e) (sz := z) ⟨9, e26, rfl, by omega⟩ e27 (by rw [x1]; exact k1) (by rw [x2]; exact k2) a5 hz (by omega) (by omega) (by omega) (by rw [r0]; exact h3) (fun k _ => ⟨by rw [r1], by rw [r2]⟩) (fun k hk => hE k (by omega)) (show 28 ≤ 31 by omega) y1 he) ?_
      rintro ⟨v, M⟩ ⟨q1, q2⟩
      refine ok_ret ⟨q1, fun y => ?_, fr_mono q2 fun o k q => q⟩
      have := y2 e he _ (show D e = some (-2000000000) from y)
      omega
  · show smD c.2.2 e = some 1
    rw [a7.1 hk]
    rfl
end NL
