/-! orders: both sides -/
def frOo (o k : Nat) : Prop := o = 102 ∨ (75 ≤ o ∧ o ≤ 78) ∨ o = 71 ∨ o = 72 ∨ (o = 64 ∧ (k = 0 ∨ (13 ≤ k ∧ k ≤ 30) ∨ k = 66 ∨ k = 67 ∨ k = 68)) ∨ (o = 69 ∧ 4590 ≤ k)
def cnO (cn : Nat → Int) (f v : Int) : Nat → Int := ru (ru cn 8 f) 9 v
section OZ
variable {X : MX} {N M : NN} {B B' : Int} {q : Wd} {im : Nat → Option Wd} {un un' : Un} {tp : Tp} {cn rp : Nat → Int}
theorem minv_or {f v : Int} (hM : MInv N B q im un tp cn rp) (hf : Fr frOo N M) (h20 : M 64 20 = 0) (h13 : M 64 13 = 0) (h18 : M 64 18 = f) (h68 : M 64 68 = v) : MInv M B q im un (0, tp.2) (cnO cn f v) rp := by
  obtain ⟨a, b, c, d, e, g, k, u, t⟩ := hM
  have z : ∀ o, (65 ≤ o ∧ o ≤ 68) ∨ o = 70 ∨ o = 79 ∨ o = 80 ∨ o = 103 → M o = N o := fun o p => fr_of hf o fun k => by unfold frOo; omega
  have y : ∀ k, (k = 1 ∨ k = 8 ∨ k = 11 ∨ k = 72) → M 64 k = N 64 k := fun k p => hf 64 k (by unfold frOo; omega)
  refine ⟨mw_eq a (z _ (by omega)) (h20.trans a.2.2.2.1.symm), mim_eq b (z _ (by omega)) (z _ (by omega)), mun_eq u.1 c (y _ (by omega)) (fun k hk => hf 69 k (by unfold frOo; omega)) (z _ (by omega)), ⟨h13, fun j hj => by cases hj⟩, ?_, mdr_eq g (y _ (by omega)) (z _ (by omega)), mkn_eq k (z _ (by omega)) (z _ (by omega)), u, ⟨by show 0 ≤ 400; omega, fun j hj => by cases hj⟩⟩
  obtain ⟨e1, e2, e3, e4, e5⟩ := e
  unfold cnO
  refine ⟨?_, fun k k1 k2 => ?_, ?_, ?_, ?_⟩
  · rw [y 1 (by omega), ru_ne (by omega), ru_ne (by omega)]; exact e1
  · rw [z 65 (by omega), ru_ne (by omega), ru_ne (by omega)]; exact e2 k k1 k2
  · rw [y 11 (by omega), ru_ne (by omega), ru_ne (by omega)]; exact e3
  · rw [ru_ne (by omega), ru_eq (by omega)]; exact h18
  · rw [ru_eq (by omega)]; exact h68
theorem nC_Oo (h : Fr frOo N M) : Fr notC N M := fr_mono h fun o k z => by unfold frOo at z; unfold notC pC; omega
theorem nC_Rm (h : Fr frRm N M) : Fr notC N M := fr_mono h fun o k z => by unfold frRm frG frN at z; unfold notC pC; omega
theorem minv_rm {r' : Nat → Int} {lw' : Nat → Law} (hM : MInv N B q im un tp cn rp) (hW : MW M B' r' lw') (hU : MUn M un') (hV : UV B' r' un') (hf : Fr frRm N M) : MInv M B' (r', lw') im un' tp cn rp := by
  obtain ⟨a, b, c, d, e, f, g, u, t⟩ := hM
  have z : ∀ o, o ≠ 64 → o ≠ 66 → o ≠ 69 → o ≠ 70 → o ≠ 81 → o ≠ 82 → o ≠ 83 → M o = N o := fun o _ _ _ _ _ _ _ => fr_of hf o fun k => by unfold frRm frG frN; omega
  have y : ∀ k, (k = 1 ∨ k = 11 ∨ k = 13 ∨ k = 18 ∨ k = 68 ∨ k = 72) → M 64 k = N 64 k := fun k p => hf 64 k (by unfold frRm frG frN; omega)
  exact ⟨hW, mim_eq b (z _ (by omega) (by omega) (by omega) (by omega) (by omega) (by omega) (by omega)) (z _ (by omega) (by omega) (by omega) (by omega) (by omega) (by omega) (by omega)), hU, mtp_eq d (y _ (by omega)) (z _ (by omega) (by omega) (by omega) (by omega) (by omega) (by omega) (by omega)), mcn_eq e (y _ (by omega)) (z _ (by omega) (by omega) (by omega) (by omega) (by omega) (by omega) (by omega)) (y _ (by omega)) (y _ (by omega)) (y _ (by omega)), mdr_eq f (y _ (by omega)) (z _ (by omega) (by omega) (by omega) (by omega) (by omega) (by omega) (by omega)), mkn_eq g (z _ (by omega) (by omega) (by omega) (by omega) (by omega) (by omega) (by omega)) (z _ (by omega) (by omega) (by omega) (by omega) (by omega) (by omega) (by omega)), hV, t⟩
theorem r_orders (hM : MInv N B q im un tp cn rp) (hB : B + 300 ≤ 1000000) : Ok (f_X12_orders X N) (fun o => Fr notC N o.2 ∧ ((∃ f, pOx tp.2 tp.1 = .inl f ∧ o.1 = -6 ∧ MInv o.2 B q im un (0, tp.2) (rfu (cnO cn (tkS tp.2 tp.1 f) (-1)) (-6)) rp) ∨ (∃ (L : List OCl) (j : Nat), pOx tp.2 tp.1 = .inr L ∧ runO q.2 L 13 0 (q.1, un, 0, -1) = .inl j ∧ o.1 = -3 ∧ MInv o.2 B q im un (0, tp.2) (rfu (cnO cn (-1) (j : Int)) (-3)) rp) ∨ ∃ (L : List OCl) (s' : OS), pOx tp.2 tp.1 = .inr L ∧ runO q.2 L 13 0 (q.1, un, 0, -1) = .inr s' ∧ o.1 = s'.2.2.1 ∧ MInv o.2 (B + 240) (s'.1, q.2) im s'.2.1 (0, tp.2) (ru (cnO cn (-1) (-1)) 0 0) rp)) := by
  obtain ⟨r, lw⟩ := q
  have hW : MW N B r lw := hM.1
  have hV := hW.2.1
  have hU : UV B r un := hM.2.2.2.2.2.2.2.1
  have hT := hM.2.2.2.1
  have hTV := hM.2.2.2.2.2.2.2.2
  have w0 := kn_wc hM.2.2.2.2.2.2.1
  obtain ⟨N2, hN2⟩ : ∃ N2, N2 = m_up (m_up N 64 0 0) 64 68 (-1) := ⟨_, rfl⟩
  have f2 : Fr frOo N N2 := by rw [hN2]; exact fr_up (fr_up fr_rfl (by unfold frOo; omega)) (by unfold frOo; omega)
  have f2' : Fr (fun o k => o = 64 ∧ (k = 0 ∨ k = 68)) N N2 := by rw [hN2]; exact fr_up (fr_up fr_rfl (by omega)) (by omega)
  unfold f_X12_orders
  dsimp only
  rw [← hN2]
  refine r_oreads (X := X) (tp := tp.2) (n := tp.1) hTV.1 ⟨by rw [f2' 64 13 (by omega)]; exact hT.1, fun j hj => by rw [f2' 73 j (by omega)]; exact hT.2 j hj⟩ hTV.2 ⟨fun k hk => by rw [f2' 79 k (by omega)]; exact w0.1 k hk, fun k hk => by rw [f2' 80 k (by omega)]; exact w0.2 k hk⟩ (fun M hR fM => ?_)
  have f1 : Fr frOo N M := fr_tr f2 (fr_mono fM fun o k q => by unfold frTo at q; unfold frOo; omega)
  obtain ⟨⟨h20, h13⟩, hR⟩ := hR
  have h68 : M 64 68 = -1 := by rw [fM 64 68 (by unfold frTo; omega), hN2, up_s]
  cases hp : pOx tp.2 tp.1 with
  | inl f =>
    rw [hp] at hR
    rw [if_neg (show ¬ M 64 19 = 0 by rw [hR.1]; omega)]
    refine ok_mono (ms_refuse (X := X) (v := -6) (minv_or hM f1 h20 h13 hR.2 h68) (by omega) (by omega)) ?_
    rintro o ⟨o1, o2, o3⟩
    exact ⟨fr_tr (nC_Oo f1) o3, Or.inl ⟨f, rfl, o1, o2⟩⟩
  | inr L =>
    rw [hp] at hR
    obtain ⟨⟨h19, h18⟩, z, z4, l12, h21, h23, hcd, hcl⟩ := hR
    rw [if_pos h19]
    refine ok_bind (ref_keepRow (X := X) (a := 17) (by omega) (by omega)) ?_
    intro M1 ⟨k1, k2⟩
    change ∀ j : Nat, j < 270 → M1 69 (4590 + j) = M 66 j at k1
    change Fr (fun o k => o = 69 ∧ 4590 ≤ k ∧ k < 4590 + 270) M M1 at k2
    obtain ⟨_, e2, M2, rfl, c2, g2⟩ := cp77 (X := X) (N := M1) (a := M1 64 8)
    rw [e2, Option.bind_some]
    dsimp only
    obtain ⟨_, e3, M3, rfl, c3, g3⟩ := cp104 (X := X) (N := M2) (a := M1 64 8)
    rw [e3, Option.bind_some]
    dsimp only
    obtain ⟨M5, hM5⟩ : ∃ M5, M5 = m_up (m_up M3 64 66 0) 64 67 (-1) := ⟨_, rfl⟩
    rw [← hM5]
    have f5 : Fr (fun o k => o = 64 ∧ (k = 66 ∨ k = 67)) M3 M5 := by rw [hM5]; exact fr_up (fr_up fr_rfl (by omega)) (by omega)
    have fM5 : Fr (fun o k => (o = 69 ∧ 4590 ≤ k) ∨ o = 71 ∨ o = 72 ∨ (o = 64 ∧ (k = 66 ∨ k = 67))) M M5 := fr_tr (fr_mono k2 fun o k q => by omega) (fr_tr (fr_mono g2 fun o k q => by omega) (fr_tr (fr_mono g3 fun o k q => by omega) (fr_mono f5 fun o k q => by omega)))
    have fN5 : Fr frOo N M5 := fr_tr f1 (fr_mono fM5 fun o k q => by unfold frOo; omega)
    have i5 := minv_or hM fN5 ((fM5 64 20 (by omega)).trans h20) ((fM5 64 13 (by omega)).trans h13) ((fM5 64 18 (by omega)).trans h18) ((fM5 64 68 (by omega)).trans h68)
    have n8 : M1 64 8 = (un.1 : Int) := by
      have y := i5.2.2.1.1
      rw [fM5 64 8 (by omega)] at y
      rw [k2 64 8 (by omega)]; exact y
    have S5 : MSo B lw M5 (r, un, 0, -1) := by
      refine ⟨?_, i5.2.2.1, ?_, ?_, ?_, ?_, ?_, ?_⟩
      · dsimp only
        rw [Int.add_zero]
        exact i5.1
      · rw [hM5, up_k (by omega), up_s]
      · rw [hM5, up_s]
      · dsimp only
        rw [Int.add_zero]
        exact hU
      · dsimp only; omega
      · dsimp only; omega
      · dsimp only; omega
    have z7 : ∀ o, (o = 75 ∨ o = 76 ∨ o = 102) → ∀ k, M5 o k = M o k := fun o q k => fM5 o k (by omega)
    refine ok_bind (r_runL (X := X) (lw := lw) (L := L) (z := z) (had := M1 64 8) z4 l12 hB 13 0 (r, un, 0, -1) M5 rfl (Nat.zero_le _) ((fM5 64 21 (by omega)).trans h21) (fun j c hj => roc_mono (hcl j c hj) (Nat.le_refl _) (fun k _ => z7 102 (by omega) k) (fun k _ => ⟨z7 75 (by omega) k, z7 76 (by omega) k⟩)) (fun k hk => by rw [z7 75 (by omega) k]; exact hcd k hk) (show (0 : Int) ≤ 20 * ((0 : Nat) : Int) by omega) S5) ?_
    rintro o (⟨j, M6, e1, rfl, g6, m20⟩ | ⟨s', M6, e1, rfl, g6, S6, d6⟩)
    · dsimp only
      refine ok_bind (ref_putBack (X := X) (a := 17) (by omega) (by omega)) ?_
      intro M7 ⟨u1, u2⟩
      change ∀ j : Nat, j < 270 → M7 66 j = M6 69 (4590 + j) at u1
      obtain ⟨_, e8, M8, rfl, c8, g8⟩ := cp186 (X := X) (N := M7) (a := M1 64 8) (b := (j : Int))
      rw [e8, Option.bind_some]
      dsimp only
      obtain ⟨_, e9, M9, rfl, c9, g9⟩ := cp217 (X := X) (N := M8) (a := M1 64 8) (b := (j : Int))
      rw [e9, Option.bind_some]
      dsimp only
      obtain ⟨P, hP⟩ : ∃ P, P = m_up (m_up M9 64 8 (M1 64 8)) 64 68 (j : Int) := ⟨_, rfl⟩
      rw [← hP]
      have fP : Fr (fun o k => o = 64 ∧ (k = 8 ∨ k = 68)) M9 P := by rw [hP]; exact fr_up (fr_up fr_rfl (by omega)) (by omega)
      -- all that the reference keeps is as it was
      have g5P : Fr (fun o k => frRm o k ∨ (o = 69 ∧ k < 4320) ∨ o = 70 ∨ (o = 66 ∧ k < 270) ∨ (o = 64 ∧ (k = 8 ∨ k = 68))) M5 P := fr_tr (fr_mono g6 fun o k q => Or.inl q) (fr_tr (fr_mono u2 fun o k q => by omega) (fr_tr (fr_mono g8 fun o k q => by omega) (fr_tr (fr_mono g9 fun o k q => by omega) (fr_mono fP fun o k q => by omega))))
      have p64 : ∀ k, k = 1 ∨ k = 11 ∨ k = 13 ∨ k = 18 ∨ k = 72 → P 64 k = M5 64 k := fun k h => g5P 64 k (by unfold frRm frG frN; omega)
      have pO : ∀ o, (o = 65 ∨ o = 67 ∨ o = 68 ∨ o = 73 ∨ o = 79 ∨ o = 80 ∨ o = 103) → P o = M5 o := fun o h => fr_of g5P o fun k => by unfold frRm frG frN; omega
      have p66 : ∀ k, P 66 k = M5 66 k := by
        intro k
        rw [fP 66 k (by omega), g9 66 k (by omega), g8 66 k (by omega)]
        by_cases hk : k < 270
        · rw [u1 k hk, g6 69 _ (by unfold frRm frG frN; omega), f5 69 _ (by omega), g3 69 _ (by omega), g2 69 _ (by omega), k1 k hk, fM5 66 k (by omega)]
        · rw [u2 66 k (by omega), g6 66 k (by unfold frRm frG frN; omega)]
      have p69 : ∀ k, k < 4320 → P 69 k = M5 69 k := by
        intro k hk
        have a1 : M2 71 k = M1 69 k := c2 k hk
        rw [fP 69 k (by omega), g9 69 k (by omega), c8 k hk, u2 71 k (by omega), g6 71 k (by unfold frRm frG frN; omega), f5 71 k (by omega), g3 71 k (by omega), a1, f5 69 k (by omega), g3 69 k (by omega), g2 69 k (by omega)]
      have p70 : ∀ k, k < 16 → P 70 k = M5 70 k := by
        intro k hk
        have a1 : M3 72 k = M2 70 k := c3 k hk
        rw [fP 70 k (by omega), c9 k hk, g8 72 k (by omega), u2 72 k (by omega), g6 72 k (by unfold frRm frG frN; omega), f5 72 k (by omega), a1, f5 70 k (by omega), g3 70 k (by omega)]
      have p20 : P 64 20 = 0 := by rw [fP 64 20 (by omega), g9 64 20 (by omega), g8 64 20 (by omega), u2 64 20 (by omega)]; exact m20
      have p8 : P 64 8 = (un.1 : Int) := by rw [hP, up_k (by omega), up_s]; exact n8
      have p68 : P 64 68 = (j : Int) := by rw [hP, up_s]
      obtain ⟨a, b, c, d, e, g, kk, u, t⟩ := i5
      have e66 : P 66 = M5 66 := funext p66
      have iP : MInv P B (r, lw) im un (0, tp.2) (cnO cn (-1) (j : Int)) rp := by
        refine ⟨mw_eq a e66 (p20.trans a.2.2.2.1.symm), mim_eq b (pO _ (by omega)) (pO _ (by omega)), ⟨p8, fun i hi => ⟨fun j hj => ?_, ?_⟩⟩, mtp_eq d (p64 _ (by omega)) (pO _ (by omega)), ?_, mdr_eq g (p64 _ (by omega)) (pO _ (by omega)), mkn_eq kk (pO _ (by omega)) (pO _ (by omega)), u, t⟩
        · have := u.1
          rw [p69 _ (by omega)]; exact (c.2 i hi).1 j hj
        · have := u.1
          rw [p70 _ (by omega)]; exact (c.2 i hi).2
        · obtain ⟨e1, e2, e3, e4, e5⟩ := e
          unfold cnO at e1 e2 e3 e4 ⊢
          have r0 : ∀ (v : Int) (k : Nat), k ≠ 8 → k ≠ 9 → ru (ru cn 8 (-1)) 9 v k = cn k := fun v k a b => by rw [ru_ne (by omega), ru_ne (by omega)]
          have r8 : ∀ v : Int, ru (ru cn 8 (-1)) 9 v 8 = -1 := fun v => by rw [ru_ne (by omega), ru_eq (by omega)]
          refine ⟨?_, fun k k1 k2 => ?_, ?_, ?_, ?_⟩
          · rw [p64 1 (by omega), e1, r0 _ _ (by omega) (by omega), r0 _ _ (by omega) (by omega)]
          · rw [pO 65 (by omega), e2 k k1 k2, r0 _ _ (by omega) (by omega), r0 _ _ (by omega) (by omega)]
          · rw [p64 11 (by omega), e3, r0 _ _ (by omega) (by omega), r0 _ _ (by omega) (by omega)]
          · rw [p64 18 (by omega), e4, r8, r8]
          · rw [p68, ru_eq (by omega)]
      have fNP : Fr notC N P := fr_tr (nC_Oo fN5) (fr_mono g5P fun o k q => by unfold frRm frG frN at q; unfold notC pC; omega)
      refine ok_mono (ms_refuse (X := X) (v := -3) iP (by omega) (by omega)) ?_
      rintro o ⟨o1, o2, o3⟩
      exact ⟨fr_tr fNP o3, Or.inr (Or.inl ⟨L, j, rfl, e1, o1, o2⟩)⟩
    · dsimp only
      have w6 : MW M6 (B + 240) s'.1 lw := mw_B S6.1 (by omega) (by omega)
      have v6 : UV (B + 240) s'.1 s'.2.1 := uv_B S6.2.2.2.2.1 (by omega)
      have i6 := minv_rm i5 w6 S6.2.1 v6 g6
      rw [S6.2.2.1, ref_tellP i6.2.2.2.2.1 S6.2.2.2.2.2.1, Option.bind_some]
      exact ok_ret ⟨nC_64 (fr_tr (nC_Oo fN5) (nC_Rm g6)), Or.inr (Or.inr ⟨L, s', rfl, e1, rfl, minv_1 i6⟩)⟩
/-! the class -/
theorem cinv_tx {f : Int} (hC : CInv X N B q im un tp cn rp) (hf : Fr frTx N M) (h6 : M 16 6 = f) : CInv X (m_up M 16 5 0) B q im un (0, tp.2) (ru cn 8 f) rp := by
  obtain ⟨a, b, c, d, e, g, k⟩ := hC
  have z : ∀ o, ¬ (16 ≤ o ∧ o ≤ 24) → m_up M 16 5 0 o = N o := fun o p => by
    rw [up_of (by omega)]
    exact fr_of hf o fun k => by unfold frTx; omega
  refine ⟨cw_eq a (z _ (by omega)) (z _ (by omega)) (fun o p => z o (by omega)), lwf_eq b (z _ (by omega)), cim_eq c (fun o p p' => z o (by omega)) (fun o p => z o (by omega)), cun_eq d (z _ (by omega)) (z _ (by omega)) (z _ (by omega)), ⟨up_s, fun j hj => by cases hj⟩, ?_, cdr_eq k (z _ (by omega))⟩
  obtain ⟨g1, g2, g3, g4, g5⟩ := g
  refine ⟨?_, fun k k1 k2 => ?_, ?_, ?_, ?_⟩
  · rw [z 3 (by omega), ru_ne (by omega)]; exact g1
  · rw [z 63 (by omega), ru_ne (by omega)]; exact g2 k k1 k2
  · rw [z 3 (by omega), ru_ne (by omega)]; exact g3
  · rw [up_k (by omega), ru_eq (by omega)]; exact h6
  · rw [z 33 (by omega), ru_ne (by omega)]; exact g5
theorem nM_tx (hf : Fr frTx N M) : Fr notM N (m_up M 16 5 0) := fr_up (fr_mono hf fun o k z => by unfold frTx at z; unfold notM pM; omega) (by unfold notM pM; omega)
theorem cinv_o3 {r' : Nat → Int} {lw' : Nat → Law} {v : Int} (hC : CInv X N B q im un tp cn rp) (hW : CW X M 4 B' r' lw') (hL : LWF X M 4) (hU : CUn M un') (hB : B ≤ B') (hf : Fr frO3 N M) (h5 : M 33 5 = v) : CInv X M B' (r', lw') im un' tp (ru cn 9 v) rp := by
  obtain ⟨a, b, c, d, e, g, k⟩ := hC
  have z : ∀ o, ¬ (o = 5 ∨ o = 6 ∨ (13 ≤ o ∧ o ≤ 15) ∨ o = 26 ∨ o = 27 ∨ (33 ≤ o ∧ o ≤ 41)) → M o = N o := fun o p => fr_of hf o fun k => by unfold frO3 frOr frK; omega
  refine ⟨hW, hL, cim_B (cim_eq c (fun o p p' => z o (by omega)) (fun o p => z o (by omega))) hB hW.2.2.1, hU, ctp_eq e (by rw [z 16 (by omega)]) (z _ (by omega)), ?_, cdr_eq k (z _ (by omega))⟩
  obtain ⟨g1, g2, g3, g4, g5⟩ := g
  refine ⟨?_, fun k k1 k2 => ?_, ?_, ?_, ?_⟩
  · rw [z 3 (by omega), ru_ne (by omega)]; exact g1
  · rw [z 63 (by omega), ru_ne (by omega)]; exact g2 k k1 k2
  · rw [z 3 (by omega), ru_ne (by omega)]; exact g3
  · rw [z 16 (by omega), ru_ne (by omega)]; exact g4
  · rw [ru_eq (by omega)]; exact h5
theorem nM_o3 (hf : Fr frO3 N M) : Fr notM N M := fr_mono hf fun o k z => by unfold frO3 frOr frK at z; unfold notM pM; omega
theorem c_orders (hX : XOK X) (hC : CInv X N B q im un tp cn rp) (hM : MInv N B q im un tp cn rp) (hB : B + 300 ≤ 1000000) : Ok (f_X11_orders X N) (fun o => Fr notM N o.2 ∧ ((∃ f, pOx tp.2 tp.1 = .inl f ∧ o.1 = -6 ∧ CInv X o.2 B q im un (0, tp.2) (rfu (cnO cn (tkS tp.2 tp.1 f) (-1)) (-6)) rp) ∨ (∃ (L : List OCl) (j : Nat), pOx tp.2 tp.1 = .inr L ∧ runO q.2 L 13 0 (q.1, un, 0, -1) = .inl j ∧ o.1 = -3 ∧ CInv X o.2 B q im un (0, tp.2) (rfu (cnO cn (-1) (j : Int)) (-3)) rp) ∨ ∃ (L : List OCl) (s' : OS), pOx tp.2 tp.1 = .inr L ∧ runO q.2 L 13 0 (q.1, un, 0, -1) = .inr s' ∧ o.1 = s'.2.2.1 ∧ CInv X o.2 (B + 240) (s'.1, q.2) im s'.2.1 (0, tp.2) (ru (cnO cn (-1) (-1)) 0 0) rp)) := by
  obtain ⟨r, lw⟩ := q
  have hU : UV B r un := hM.2.2.2.2.2.2.2.1
  have hTV := hM.2.2.2.2.2.2.2.2
  unfold f_X11_orders
  refine ok_bind (c_oreads (X := X) (tp := tp.2) (n := tp.1) hTV.1 hC.2.2.2.2.1.2 hC.2.2.2.2.1.1 hTV.2 hX) ?_
  rintro ⟨v, M⟩ ⟨R, fM⟩
  dsimp only at fM ⊢
  unfold f_X5_cut
  rw [Option.bind_some]
  cases hp : pOx tp.2 tp.1 with
  | inl f =>
    rw [hp] at R
    obtain ⟨v0, h6⟩ := R
    dsimp only at v0 h6
    subst v0
    rw [if_pos rfl]
    unfold f_X3_forget
    dsimp only
    rw [Option.bind_some]
    have i1 := cinv_tx hC fM h6
    have f2 : Fr frO3 (m_up M 16 5 0) (m_up (m_up M 16 5 0) 33 5 (-1)) := fr_up fr_rfl (by unfold frO3; omega)
    have i2 : CInv X (m_up (m_up M 16 5 0) 33 5 (-1)) B (r, lw) im un (0, tp.2) (cnO cn (tkS tp.2 tp.1 f) (-1)) rp := cinv_o3 i1 (cw_eq i1.1 (up_of (by omega)) (up_of (by omega)) (fun o p => up_of (by omega))) (lwf_eq i1.2.1 (up_of (by omega))) (cun_eq i1.2.2.2.1 (up_of (by omega)) (up_of (by omega)) (up_of (by omega))) (Int.le_refl _) f2 up_s
    refine ok_mono (cs_refuse (v := -6) i2 (by omega) (by omega)) ?_
    rintro o ⟨o1, o2, o3⟩
    exact ⟨fr_tr (nM_tx fM) (fr_tr (nM_o3 f2) o3), Or.inl ⟨f, rfl, o1, o2⟩⟩
  | inr L =>
    rw [hp] at R
    obtain ⟨v1, z, z4, l12, h4, h3, h6, hcl⟩ := R
    dsimp only at v1 h4 h3 h6 hcl
    subst v1
    rw [if_neg (show ¬ (1 : Int) = 0 by omega)]
    unfold f_X5_text
    rw [Option.bind_some]
    have i1 := cinv_tx hC fM h6
    have z21 : ∀ o, 21 ≤ o ∧ o ≤ 24 → ∀ k, m_up M 16 5 0 o k = M o k := fun o p k => up_o (by omega)
    refine ok_bind (c_run (X := X) (L := L) (z := z) hX i1.2.1 i1.1 i1.2.2.2.1 hU z4 l12 ((z21 21 (by omega) 3).trans h3) ((z21 21 (by omega) 4).trans h4) (fun j c hj => coc_mono (hcl j c hj) (Nat.le_refl _) (fun k _ => z21 24 (by omega) k) (fun k _ => ⟨z21 22 (by omega) k, z21 23 (by omega) k⟩)) hB) ?_
    rintro ⟨v, P⟩ ⟨fP, lP, R⟩
    dsimp only at fP lP R ⊢
    rcases R with ⟨j, e1, v1, h5, w1, u1⟩ | ⟨s', e1, v1, h5, S1, d1⟩
    · subst v1
      rw [if_pos (show (-1 : Int) < 0 by omega)]
      have i2 : CInv X P B (r, lw) im un (0, tp.2) (cnO cn (-1) (j : Int)) rp := cinv_o3 i1 w1 lP u1 (Int.le_refl _) fP h5
      refine ok_mono (cs_refuse (v := -3) i2 (by omega) (by omega)) ?_
      rintro o ⟨o1, o2, o3⟩
      exact ⟨fr_tr (nM_tx fM) (fr_tr (nM_o3 fP) o3), Or.inr (Or.inl ⟨L, j, rfl, e1, o1, o2⟩)⟩
    · subst v1
      have d0 := S1.2.2.2.2.2.1
      rw [if_neg (show ¬ s'.2.2.1 < 0 by omega)]
      have i2 : CInv X P (B + 240) (s'.1, lw) im s'.2.1 (0, tp.2) (cnO cn (-1) (-1)) rp := cinv_o3 i1 (cw_B S1.1 (by omega) (by omega)) lP S1.2.1 (by omega) fP h5
      refine ok_mono (cs_accept (v := s'.2.2.1) i2) ?_
      rintro o ⟨o1, o2, o3⟩
      exact ⟨fr_tr (nM_tx fM) (fr_tr (nM_o3 fP) o3), Or.inr (Or.inr ⟨L, s', rfl, e1, o1, o2⟩)⟩
theorem sim_orders (h : Inv X N B) (hB : B + 300 ≤ 1000000) : Sim X N (B + 240) (f_X11_orders X N) (fun M => f_X12_orders X M) := by
  obtain ⟨hX, ⟨r, lw⟩, im, un, tp, cn, rp, hC, hM⟩ := h
  refine ok_mono (c_orders hX hC hM hB) ?_
  rintro ⟨v, M⟩ ⟨f, R⟩
  dsimp only at f R ⊢
  have hM2 : MInv M B (r, lw) im un tp cn rp := minv_eq hM fun o k p => f o k fun z => z p
  refine ok_mono (r_orders (X := X) hM2 hB) ?_
  rintro ⟨w, P⟩ ⟨g, S⟩
  dsimp only at g S ⊢
  have low : ∀ {q' : Wd} {un' : Un} {tp' : Tp} {cn' : Nat → Int}, CInv X M B q' im un' tp' cn' rp → MInv P B q' im un' tp' cn' rp → Inv X P (B + 240) := fun c m => inv_B (X := X) (B := B) ⟨hX, _, im, _, _, _, rp, cinv_eq c fun o k p => g o k fun z => z p, m⟩ (by omega) (by omega)
  rcases R with ⟨x, e, a1, a2⟩ | ⟨L, j, e, e', a1, a2⟩ | ⟨L, s', e, e', a1, a2⟩
  · rcases S with ⟨y, c, b1, b2⟩ | ⟨L2, j2, c, c', b1, b2⟩ | ⟨L2, s2, c, c', b1, b2⟩
    · rw [e] at c
      cases c
      exact ⟨b1.trans a1.symm, low a2 b2⟩
    · rw [e] at c; cases c
    · rw [e] at c; cases c
  · rcases S with ⟨y, c, b1, b2⟩ | ⟨L2, j2, c, c', b1, b2⟩ | ⟨L2, s2, c, c', b1, b2⟩
    · rw [e] at c; cases c
    · rw [e] at c
      cases c
      rw [e'] at c'
      cases c'
      exact ⟨b1.trans a1.symm, low a2 b2⟩
    · rw [e] at c
      cases c
      rw [e'] at c'
      cases c'
  · rcases S with ⟨y, c, b1, b2⟩ | ⟨L2, j2, c, c', b1, b2⟩ | ⟨L2, s2, c, c', b1, b2⟩
    · rw [e] at c; cases c
    · rw [e] at c
      cases c
      rw [e'] at c'
      cases c'
    · rw [e] at c
      cases c
      rw [e'] at c'
      cases c'
      exact ⟨b1.trans a1.symm, hX, _, im, _, _, _, rp, cinv_eq a2 fun o k p => g o k fun z => z p, b2⟩
end OZ
