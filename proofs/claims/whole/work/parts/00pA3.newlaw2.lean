section NM
variable {X : MX} {N M0 : NN} {s : Nat → Int}
def frRb (o k : Nat) : Prop := o = 83 ∨ (o = 64 ∧ (k = 37 ∨ k = 38 ∨ k = 39))
/-- the reference's row i holds what was read into 74, 75 and 76 -/
def RWs (s : Nat → Int) (M0 : NN) (len z : Nat) : Prop := s 1 = (len : Int) ∧ (∀ j, j < 8 * len → s (2 + j) = M0 74 j) ∧ (∀ k, k < z → s (98 + 2 * k) = M0 75 k ∧ s (99 + 2 * k) = M0 76 k) ∧ ∀ k : Nat, k < z → 0 ≤ M0 75 k ∧ M0 75 k ≤ 30
def RCt (N : NN) (i : Nat) (s : Nat → Int) (e : Env) : Prop := N 64 20 = 0 ∧ N 64 33 = 270 + 900 * (i : Int) ∧ (∀ j, j < 900 → N 66 (270 + 900 * i + j) = s j) ∧ ∀ j, j < 9 → N 81 (j + 1) = e j
theorem rct_fr {N' : NN} {i : Nat} {e : Env} (h : RCt N i s e) (f : Fr frRb N N') : RCt N' i s e := ⟨by rw [f 64 20 (by unfold frRb; omega)]; exact h.1, by rw [f 64 33 (by unfold frRb; omega)]; exact h.2.1, fun j hj => by rw [f 66 _ (by unfold frRb; omega)]; exact h.2.2.1 j hj, fun j hj => by rw [f 81 _ (by unfold frRb; omega)]; exact h.2.2.2 j hj⟩
theorem ref_val {i len z s0 s1 : Nat} {e : Env} {D : Den} (hi : i ≤ 5) (hw : RWs s M0 len z) (hz : z ≤ 400) (h : RCt N i s e) (h1 : s1 ≤ z) (hS : SgR 9 false M0 s0 s1 28 D) (he : EnvOK e) : Ok (f_X12_reckonAll X N (s0 : Int) (s1 : Int)) (fun M => Fr frRa N M ∧ ((∃ v, D e = some v ∧ M 64 37 = 0 ∧ M 64 38 = v) ∨ (D e = none ∧ M 64 37 = 1))) := by
  obtain ⟨w1, w2, w3, w4⟩ := hw
  have hS' : Seg 9 (fun k => nA (s (98 + 2 * k))) (fun k => nR false (s (98 + 2 * k)) (s (99 + 2 * k))) s0 s1 28 D := seg_c hS fun k _ b => by
    obtain ⟨y1, y2⟩ := w3 k (by omega)
    rw [y1, y2]
    exact ⟨rfl, rfl⟩
  refine ref_reckonAll (W := 9) (ord := false) (O := fun k => s (98 + 2 * k)) (P := fun k => s (99 + 2 * k)) (by omega) (fun k hk => ?_) (fun M n k hf hb hk => ?_) (fun M n k hf hk o1 o2 r1 r2 => ?_) (by omega) hS' he
  · show 0 ≤ s (98 + 2 * k) ∧ s (98 + 2 * k) ≤ 30
    rw [(w3 k (by omega)).1]
    exact w4 k (by omega)
  · have hc := rct_fr h (fr_mono hf fun o k q => by unfold frRk at q; unfold frRb; omega)
    have a1 := hc.2.2.1 (98 + 2 * k) (by omega)
    have a2 := hc.2.2.1 (99 + 2 * k) (by omega)
    unfold b_X12_reckonAll_10 f_X12_reckonAll_l10_j57
    rw [if_pos (by omega), if_pos hb, if_pos hc.1, hc.2.1, w_id (x := 270 + 900 * (i : Int) + 98) (by omega) (by omega), w_id (x := 2 * (k : Int)) (by omega) (by omega), w_id (x := 270 + 900 * (i : Int) + 98 + 2 * (k : Int)) (by omega) (by omega), if_pos (by omega), if_pos hc.1, w_id (x := 270 + 900 * (i : Int) + 98 + 2 * (k : Int) + 1) (by omega) (by omega), if_pos (by omega), show (270 + 900 * (i : Int) + 98 + 2 * (k : Int)).toNat = 270 + 900 * i + (98 + 2 * k) by omega, show (270 + 900 * (i : Int) + 98 + 2 * (k : Int) + 1).toNat = 270 + 900 * i + (99 + 2 * k) by omega, a1, a2]
  · have hc := rct_fr h (fr_mono hf fun o k q => by unfold frRk at q; unfold frRb; omega)
    have er : nR false (s (98 + 2 * k)) (s (99 + 2 * k)) = s (98 + 2 * k) - 1 := by
      have o1' : 1 ≤ s (98 + 2 * k) := o1
      have o2' : s (98 + 2 * k) < 20 := o2
      unfold nR
      rw [if_neg (by omega), if_pos o2', if_neg (by decide)]
    rw [er] at r1 r2 ⊢
    have a1 := hc.2.2.2 (s (98 + 2 * k) - 1).toNat (by omega)
    rw [show (s (98 + 2 * k) - 1).toNat + 1 = (s (98 + 2 * k)).toNat by omega] at a1
    unfold f_X12_reckonAll_l10_j95
    rw [if_pos o2, if_neg (by omega), if_pos hc.1, if_pos (by omega), a1, w_id (x := (k : Int) + 1) (by omega) (by omega)]
theorem rs_of {i z : Nat} {L : List LC} (hi : i ≤ 5) (hl : L.length ≤ 12) (hz : z ≤ 400) (hw : RWs s M0 L.length z) (hc : ∀ i c, L[i]? = some c → RC1 9 M0 i c z) : RS i s (lawO L) := by
  have key : ∀ c, c < L.length → ∃ c', L[c]? = some c' ∧ (lawO L).2 c = clO c' := fun c h => by
    obtain ⟨c', y1, y2⟩ := getD_get h
    exact ⟨c', y1, by unfold lawO; dsimp only; rw [y2]⟩
  refine ⟨hl, hw.1, fun c h => ?_, fun X N' x1 x2 x3 e he x4 c h => ?_⟩
  · have h' : c < L.length := h
    obtain ⟨c', y1, y2⟩ := key c h'
    rw [y2, hw.2.1 (8 * c) (by omega), (hc c c' y1).1]
    rfl
  have h' : c < L.length := h
  obtain ⟨c', y1, y2⟩ := key c h'
  rw [y2]
  have hR : RCt N' i s e := ⟨x1, x2, x3, x4⟩
  obtain ⟨g1, g2, s0, s1, c0, c1, a3, a4, a5, a6, b1, b2, b3, b4, b5, b6⟩ := hc c c' y1
  have cell : ∀ (M : NN) (j : Nat), RCt M i s e → j < 8 → M 66 (270 + 900 * (i : Int) + 2 + 8 * (c : Int) + j).toNat = M0 74 (8 * c + j) := fun M j hM hj => by
    rw [show (270 + 900 * (i : Int) + 2 + 8 * (c : Int) + j).toNat = 270 + 900 * i + (2 + (8 * c + j)) by omega, hM.2.2.1 _ (by omega), hw.2.1 _ (by omega)]
  obtain ⟨A, hA⟩ : ∃ A : Int, A = 270 + 900 * (i : Int) + 2 + 8 * (c : Int) := ⟨_, rfl⟩
  rw [← hA] at cell ⊢
  have Ab : 272 ≤ A ∧ A ≤ 4860 := by omega
  have cl2 : ∀ (M : NN) (j : Nat) (k : Int), RCt M i s e → j < 8 → k = A + (j : Int) → M 66 k.toNat = M0 74 (8 * c + j) := fun M j k hM hj hk => by rw [hk]; exact cell M j hM hj
  -- behind the condition
  have J : ∀ M : NN, Fr frRa N' M → Ok (f_X12_isSo_j59 X M A) (fun o => Fr frM1 N' o.2 ∧ o.1 = (if (smD c'.2.2 e).isSome then 1 else 0) ∧ (c'.1 ≠ 2 → ∀ v, smD c'.2.2 e = some v → o.2 64 39 = v)) := by
    intro M fM
    have hM := rct_fr hR (fr_mono fM fun o k q => by unfold frRa at q; unfold frRb; omega)
    have fM' : Fr frM1 N' M := fr_mono fM fun o k q => by unfold frRa at q; unfold frM1; omega
    unfold f_X12_isSo_j59 f_X12_isSo_j109
    rw [if_pos (by omega), cl2 M 0 A hM (by omega) (by omega), Nat.add_zero, g1]
    by_cases k2 : c'.1 = 2
    · rw [if_pos k2]
      exact ok_ret ⟨fM', by rw [b3.1 k2]; rfl, fun y => absurd k2 y⟩
    rw [if_neg k2, w_id (x := A + 3) (by omega) (by omega), w_id (x := A + 4) (by omega) (by omega), if_pos (by omega), if_pos (by omega), cl2 M 3 (A + 3) hM (by omega) rfl, cl2 M 4 (A + 4) hM (by omega) rfl, a3, a4]
    cases hd : c'.2.2 with
    | none => exact absurd (b3.2 hd) k2
    | some D =>
      obtain ⟨z1, z2⟩ := b4 D hd
      refine ok_bind (ref_val (X := X) hi hw hz hM b1 z1 he) ?_
      rintro M2 ⟨f2, R⟩
      dsimp only
      have fz : Fr frM1 N' (m_up M2 64 39 (M2 64 38)) := fr_up (fr_tr fM' (fr_mono f2 fun o k q => by unfold frRa at q; unfold frM1; omega)) (by unfold frM1; omega)
      rcases R with ⟨v, r1, r2, r3⟩ | ⟨r1, r2⟩
      · rw [if_pos (show m_up M2 64 39 (M2 64 38) 64 37 = 0 by rw [up_k (by omega)]; exact r2), if_pos (by omega)]
        refine ok_ret ⟨fz, ?_, fun _ v' y => ?_⟩
        · rw [if_pos]; show (D e).isSome = true; rw [r1]; rfl
        · have y' : D e = some v' := y
          rw [r1] at y'
          dsimp only
          rw [up_s, r3]
          exact Option.some.inj y'
      · rw [if_neg (show ¬ m_up M2 64 39 (M2 64 38) 64 37 = 0 by rw [up_k (by omega), r2]; omega), if_pos (by omega)]
        refine ok_ret ⟨fz, ?_, fun _ v' y => ?_⟩
        · rw [if_neg]; show ¬ (D e).isSome = true; rw [r1]; decide
        · have y' : D e = some v' := y
          rw [r1] at y'; cases y'
  refine ⟨fun k2 => ?_, ?_⟩
  · show smD c'.2.2 e = some 1
    rw [b3.1 k2]; rfl
  show Ok (f_X12_isSo X N' A) (fun (o : Int × NN) => Fr frM1 N' o.2 ∧ o.1 = (if soB c'.2.1 e = true ∧ (smD c'.2.2 e).isSome = true then 1 else 0) ∧ (soB c'.2.1 e = true → c'.1 ≠ 2 → ∀ v, smD c'.2.2 e = some v → o.2 64 39 = v))
  unfold f_X12_isSo f_X12_isSo_j57
  rw [w_id (x := A + 5) (by omega) (by omega), w_id (x := A + 6) (by omega) (by omega), if_pos (by omega), if_pos (by omega), cl2 N' 5 (A + 5) hR (by omega) rfl, cl2 N' 6 (A + 6) hR (by omega) rfl, a5, a6]
  cases hd : c'.2.1 with
  | none =>
    have y := b5 hd
    rw [if_neg (by omega)]
    refine ok_mono (J N' fr_rfl) ?_
    rintro o ⟨q1, q2, q3⟩
    refine ⟨q1, ?_, fun _ => q3⟩
    rw [q2]
    by_cases g : (smD c'.2.2 e).isSome = true
    · rw [if_pos g, if_pos ⟨rfl, g⟩]
    · rw [if_neg g, if_neg (fun y => g y.2)]
  | some D =>
    obtain ⟨z1, z2⟩ := b6 D hd
    have lt := z1.1
    rw [if_pos (by omega), if_pos (by omega), if_pos (by omega)]
    refine ok_bind (ref_val (X := X) hi hw hz hR b2 z1 he) ?_
    rintro M2 ⟨f2, R⟩
    have f2' : Fr frM1 N' M2 := fr_mono f2 fun o k q => by unfold frRa at q; unfold frM1; omega
    have no : ¬ D e = some 1 → Ok (some ((0 : Int), M2)) (fun (o : Int × NN) => Fr frM1 N' o.2 ∧ o.1 = (if soB (some D) e = true ∧ (smD c'.2.2 e).isSome = true then 1 else 0) ∧ (soB (some D) e = true → c'.1 ≠ 2 → ∀ v, smD c'.2.2 e = some v → o.2 64 39 = v)) := fun y => ok_ret ⟨f2', by rw [if_neg (fun q => y (of_decide_eq_true q.1))], fun q => absurd (of_decide_eq_true q) y⟩
    rcases R with ⟨v, r1, r2, r3⟩ | ⟨r1, r2⟩
    · have v01 := z2 e he v r1
      rw [if_pos r2, r3]
      by_cases v0 : v = 0
      · rw [if_pos (lcmp_eq.2 v0)]
        exact no (by rw [r1, v0]; intro y; exact absurd (Option.some.inj y) (by omega))
      · rw [if_neg (fun y => v0 (lcmp_eq.1 y))]
        have so : soB (some D) e = true := decide_eq_true (by rw [r1]; congr 1; omega)
        refine ok_mono (J M2 f2) ?_
        rintro o ⟨q1, q2, q3⟩
        refine ⟨q1, ?_, fun _ => q3⟩
        rw [q2]
        by_cases g : (smD c'.2.2 e).isSome = true
        · rw [if_pos g, if_pos ⟨so, g⟩]
        · rw [if_neg g, if_neg (fun y => g y.2)]
    · rw [if_neg (show ¬ M2 64 37 = 0 by rw [r2]; omega)]
      exact no (by rw [r1]; intro y; cases y)
end NM
