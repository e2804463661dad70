/-! orders: a whole clause; the reference's -/
section OF
variable {X : MX} {N : NN} {tp : Nat → Int} {n : Nat} {W : Int}
theorem r_j122f {i f : Nat} (hi : i < 12) (h : FS2 N tp n f) : ∃ M, f_X12_readOrder_j122 X N (8 * i : Int) = some M ∧ FS2 M tp n f ∧ Fr fr102 N M := by
  have f1 : Fr fr102 N (m_up N 102 (8 * i + 7) 1) := fr_u102
  have h1 := fs2_102 h f1
  obtain ⟨M, e, h2, f2⟩ := r_j170f (X := X) hi h1
  refine ⟨M, ?_, h2, fr_tr f1 f2⟩
  unfold f_X12_readOrder_j122
  rw [w_id (x := (8 * i : Int) + 7) (by omega) (by omega), if_pos (by omega), show ((8 * i : Int) + 7).toNat = 8 * i + 7 by omega]
  dsimp only
  rw [if_neg (show ¬ m_up N 102 (8 * i + 7) 1 64 19 = 0 by rw [h1.1]; omega), e]
theorem r_j115f {i f : Nat} (hi : i < 12) (h : FS2 N tp n f) : ∃ M, f_X12_readOrder_j115 X N (8 * i : Int) = some M ∧ FS2 M tp n f ∧ Fr fr102 N M := by
  obtain ⟨M1, e1, h1, f1⟩ := r_rsF (X := X) (a := 8 * i + 3) (by omega) h
  obtain ⟨M, e, h2, f2⟩ := r_j122f (X := X) hi h1
  refine ⟨M, ?_, h2, fr_tr f1 f2⟩
  unfold f_X12_readOrder_j115
  rw [w_id (x := (8 * i : Int) + 3) (by omega) (by omega), show (8 * i : Int) + 3 = ((8 * i + 3 : Nat) : Int) by omega, e1, Option.bind_some, e]
theorem r_oend {M1 : NN} {t t1 np1 z z1 i : Nat} {k : Int} {ds : Option (Den × Den)} (hn : n ≤ 400) (hb : ∀ j, j < n → 0 ≤ tp j ∧ tp j ≤ 255) (hW : W = 32) (hi : i < 12) (h : RB M1 tp n true t1 np1) (hz : RZ M1 t1 z1) (hk : M1 102 (8 * i) = k) (hk2 : k = 0 ∨ k = 1) (hs : SmR W M1 i z1 k ds) (h21 : M1 64 21 = (i : Int) + 1) (hlo : ∀ k, k < 8 * i → M1 102 k = N 102 k) (hcl : ∀ k, k < z → M1 75 k = N 75 k ∧ M1 76 k = N 76 k) (hf : Fr frRor N M1) (ht : t < t1) (hzz : z ≤ z1) : Ok (f_X12_readOrder_j122 X M1 (8 * i : Int)) (ORq W tp n N t z i (pTC tp n k t1 np1 ds)) := by
  have e10 : wC 10 = 21279923 := wC_tab ⟨10, by decide⟩
  have J : ∀ (N3 : NN) (t3 : Nat) (v : Int), RB N3 tp n true t3 np1 → RZ N3 t3 z1 → N3 102 (8 * i + 7) = v → (1 ≤ v ∧ v ≤ 20) → (∀ k, k ≠ 8 * i + 7 → N3 102 k = M1 102 k) → (∀ k, N3 75 k = M1 75 k ∧ N3 76 k = M1 76 k) → N3 64 21 = M1 64 21 → Fr frRor M1 N3 → t1 ≤ t3 → Ok (f_X12_readOrder_j170 X N3 (8 * i : Int)) (ORq W tp n N t z i (match pCnd tp n t3 np1 with | .inl x => .inl x | .inr p => .inr (p.1, p.2.1, (k, v, p.2.2, ds)))) := by
    intro N3 t3 v b3 z3 hv hv2 h102 h75 h64 hf3 ht3
    refine ok_mono (r_j170 (X := X) hn hb hW hi b3 z3) ?_
    intro M R
    cases he : pCnd tp n t3 np1 with
    | inl x =>
      rw [he] at R
      exact ⟨fr_tr hf (fr_tr hf3 R.1), R.2⟩
    | inr p =>
      rw [he] at R
      obtain ⟨q1, z', q2, q3, q4, q5, q6, q7, q8, q9⟩ := R
      have g75 : ∀ k, k < z1 → M 75 k = M1 75 k ∧ M 76 k = M1 76 k := fun k hk' => ⟨(q6 k hk').1.trans (h75 k).1, (q6 k hk').2.trans (h75 k).2⟩
      have g102 : ∀ k, k ≠ 8 * i + 5 → k ≠ 8 * i + 6 → k ≠ 8 * i + 7 → M 102 k = M1 102 k := fun k a1 a2 a3 => (q7 k a1 a2).trans (h102 k a3)
      refine ⟨fr_tr hf (fr_tr hf3 q1), z', q2, q3, by omega, by rw [q8, h64]; exact h21, ⟨?_, hk2, ?_, hv2, q5, smr_mono hs q4 (fun j j1 j2 => g102 _ (by omega) (by omega) (by omega)) g75⟩, fun k hk' => ?_, fun k hk' => ?_, by dsimp only; omega⟩
      · rw [g102 _ (by omega) (by omega) (by omega)]; exact hk
      · rw [q7 _ (by omega) (by omega)]; exact hv
      · have y := g75 k (by omega)
        have y2 := hcl k hk'
        exact ⟨y.1.trans y2.1, y.2.trans y2.2⟩
      · rw [g102 _ (by omega) (by omega) (by omega)]; exact hlo k hk'
  obtain ⟨N2, hN⟩ : ∃ N2, N2 = m_up M1 102 (8 * i + 7) 1 := ⟨_, rfl⟩
  have f2 : Fr fr102 M1 N2 := by rw [hN]; exact fr_u102
  have b2 := rb_102 h f2
  have z2 := rz_ag hz (ag_102 f2)
  unfold f_X12_readOrder_j122 pTC pTi
  rw [w_id (x := (8 * i : Int) + 7) (by omega) (by omega), if_pos (by omega), show ((8 * i : Int) + 7).toNat = 8 * i + 7 by omega, ← hN]
  dsimp only
  rw [if_pos b2.2.2.1, ← e10, ref_isWord (by decide) hb b2.1, Option.bind_some]
  by_cases c : tkK tp n t1 = 266
  case neg =>
    rw [if_neg c, if_neg (show ¬ tkK tp n t1 = 256 + ((10 : Nat) : Int) from c), i00]
    exact J N2 t1 1 b2 z2 (by rw [hN, up_s]) (by omega) (fun k a => by rw [hN, up_k a]) (fun k => by rw [hN, up_o (by omega), up_o (by omega)]; exact ⟨rfl, rfl⟩) (by rw [hN, up_o (by omega)]) (fr_1o f2) (Nat.le_refl _)
  rw [if_pos c, if_pos (show tkK tp n t1 = 256 + ((10 : Nat) : Int) from c), i10]
  refine ok_bind (rb_next hn hb b2 (by omega)) ?_
  rintro M3 ⟨b3, f3⟩
  have z3 := rz_t (rz_ag z2 (ag_nx f3)) (show t1 ≤ t1 + 1 by omega)
  refine ok_bind (r_nmb hn hb b3) ?_
  rintro ⟨v, M4⟩ R
  dsimp only at R ⊢
  rw [if_pos (show 0 ≤ (8 * i : Int) + 7 ∧ (8 * i : Int) + 7 < 96 by omega)]
  have fz : Fr fr102 M4 (m_up M4 102 (8 * i + 7) v) := fr_u102
  rcases R with ⟨c4, r1, r2⟩ | ⟨c4, rfl, r1, r2⟩
  · rw [if_neg c4]
    obtain ⟨M, e, h2, f6⟩ := r_j170f (X := X) hi (fs2_102 r1 fz)
    rw [e]
    exact ok_ret ⟨fr_tr hf (fr_tr (fr_1o f2) (fr_tr (fr_xo (fr_nx f3)) (fr_tr (fr_xo r2) (fr_1o (fr_tr fz f6))))), h2⟩
  · rw [if_pos c4]
    have z4 := rz_t (rz_ag z3 (ag_nx r2)) (show t1 + 1 ≤ t1 + 2 by omega)
    have a75 : ∀ k, M4 75 k = M1 75 k ∧ M4 76 k = M1 76 k := fun k => by
      have y := (ag_nx r2).1 k
      have y2 := (ag_nx f3).1 k
      have y3 := (ag_102 f2).1 k
      exact ⟨y.1.trans (y2.1.trans y3.1), y.2.1.trans (y2.2.1.trans y3.2.1)⟩
    have a102 : ∀ k, M4 102 k = N2 102 k := fun k => (r2 102 k (by unfold frNx; omega)).trans (f3 102 k (by unfold frNx; omega))
    refine J _ (t1 + 2) (tkN tp n (t1 + 1)) (rb_102 r1 fz) (rz_ag z4 (ag_102 fz)) up_s c4.2 (fun k a => ?_) (fun k => ?_) ?_ (fr_tr (fr_1o f2) (fr_tr (fr_xo (fr_nx f3)) (fr_tr (fr_xo (fr_nx r2)) (fr_1o fz)))) (by omega)
    · rw [up_k a, a102, hN, up_k a]
    · rw [up_o (by omega), up_o (by omega)]; exact a75 k
    · rw [up_o (by omega), r2 64 21 (by unfold frNx; omega), f3 64 21 (by unfold frNx; omega), hN, up_o (by omega)]
theorem r_readOrder {t np z i : Nat} (hn : n ≤ 400) (hb : ∀ j, j < n → 0 ≤ tp j ∧ tp j ≤ 255) (hW : W = 32) (hi : i ≤ 12) (h : RB N tp n true t np) (hz : RZ N t z) (h21 : N 64 21 = (i : Int)) : Ok (f_X12_readOrder X N) (ORq W tp n N t z i (if i < 12 then pOc tp n t np else .inl t)) := by
  have e7 : wC 7 = 239301 := wC_tab ⟨7, by decide⟩
  have e9 : wC 9 = 754996 := wC_tab ⟨9, by decide⟩
  have e8 : wC 8 = 655 := wC_tab ⟨8, by decide⟩
  obtain ⟨k, hk⟩ : ∃ k : Int, k = if tkK tp n t = 263 then 0 else 1 := ⟨_, rfl⟩
  have hA : f_X12_readOrder X N = f_X12_readOrder_j29 X N (if tkK tp n t = 263 ∨ tkK tp n t = 265 then k else -1) := by
    unfold f_X12_readOrder
    rw [← e7, ref_isWord (by decide) hb h.1, Option.bind_some]
    by_cases c0 : tkK tp n t = 263
    · rw [if_pos (show tkK tp n t = 256 + ((7 : Nat) : Int) from c0), i10, if_pos (Or.inl c0), hk, if_pos c0]
    rw [if_neg (show ¬ tkK tp n t = 256 + ((7 : Nat) : Int) from c0), i00, ← e9, ref_isWord (by decide) hb h.1, Option.bind_some]
    by_cases c1 : tkK tp n t = 265
    · rw [if_pos (show tkK tp n t = 256 + ((9 : Nat) : Int) from c1), i10, if_pos (Or.inr c1), hk, if_neg c0]
    · rw [if_neg (show ¬ tkK tp n t = 256 + ((9 : Nat) : Int) from c1), i00, if_neg (show ¬ (tkK tp n t = 263 ∨ tkK tp n t = 265) by omega)]
  have hB : ∀ z0 : Int, f_X12_readOrder_j29 X N z0 = f_X12_readOrder_j50 X N z0 (if z0 ≠ -1 ∧ i < 12 then 1 else 0) := by
    intro z0
    unfold f_X12_readOrder_j29 f_X12_readOrder_j49
    by_cases c : z0 = -1
    · rw [if_pos c, if_neg (show ¬ (z0 ≠ -1 ∧ i < 12) from fun y => y.1 c)]
    · rw [if_neg c, h21]
      by_cases g : i < 12
      · rw [if_pos (by omega), if_pos (show z0 ≠ -1 ∧ i < 12 from ⟨c, g⟩)]
      · rw [if_neg (by omega), if_neg (show ¬ (z0 ≠ -1 ∧ i < 12) from fun y => g y.2)]
  have bad : ∀ z0 : Int, Ok (f_X12_readOrder_j50 X N z0 0) (ORq W tp n N t z i (.inl t)) := by
    intro z0
    obtain ⟨M, x1, x2, x3⟩ := rb_must0 (X := X) h
    unfold f_X12_readOrder_j50
    rw [x1, Option.bind_some, if_neg (show ¬ M 64 19 = 0 by rw [x2.1]; omega)]
    exact ok_ret ⟨fr_xo x3, x2⟩
  rw [hA, hB]
  unfold pOc
  by_cases ck : tkK tp n t = 263 ∨ tkK tp n t = 265
  case neg =>
    rw [if_neg ck, if_neg ck, if_neg (show ¬ ((-1 : Int) ≠ -1 ∧ i < 12) from fun y => y.1 rfl)]
    have e : (if i < 12 then (.inl t : Nat ⊕ (Nat × Nat × OCl)) else .inl t) = .inl t := by split <;> rfl
    rw [e]
    exact bad _
  have hk2 : k = 0 ∨ k = 1 := by rw [hk]; split <;> omega
  rw [if_pos ck, if_pos ck, ← hk]
  by_cases ci : i < 12
  case neg =>
    rw [if_neg (show ¬ (k ≠ -1 ∧ i < 12) from fun y => ci y.2), if_neg ci]
    exact bad _
  rw [if_pos (show k ≠ -1 ∧ i < 12 from ⟨by omega, ci⟩), if_pos ci]
  unfold f_X12_readOrder_j50
  refine ok_bind (rb_must1 hn hb h (by omega) (show (1 : Int) ≠ 0 by omega)) ?_
  rintro M9 ⟨b9, f9⟩
  have m21 : M9 64 21 = (i : Int) := by rw [f9 64 21 (by unfold frNx; omega)]; exact h21
  have z9 := rz_t (rz_ag hz (ag_nx f9)) (show t ≤ t + 1 by omega)
  obtain ⟨N18, hN⟩ : ∃ N18, N18 = m_up (m_up M9 64 21 ((i : Int) + 1)) 102 (8 * i) k := ⟨_, rfl⟩
  have f18 : Fr fr102 M9 N18 := by rw [hN]; exact fr_up (fr_up fr_rfl (Or.inr ⟨rfl, rfl⟩)) (Or.inl rfl)
  rw [if_pos b9.2.2.1, m21, w_id (x := 8 * (i : Int)) (by omega) (by omega), w_id (x := (i : Int) + 1) (by omega) (by omega)]
  dsimp only
  rw [if_pos (show 0 ≤ 8 * (i : Int) ∧ 8 * (i : Int) < 96 by omega), show (8 * (i : Int)).toNat = 8 * i by omega, ← hN]
  have b18 := rb_102 b9 f18
  have z18 := rz_ag z9 (ag_102 f18)
  have k18 : N18 102 (8 * i) = k := by rw [hN, up_s]
  have c18 : N18 64 21 = (i : Int) + 1 := by rw [hN, up_o (by omega), up_s]
  have l18 : ∀ k, k < 8 * i → N18 102 k = N 102 k := fun k hk' => by rw [hN, up_k (by omega), up_o (by omega), f9 102 k (by unfold frNx; omega)]
  have d18 : ∀ k, k < z → N18 75 k = N 75 k ∧ N18 76 k = N 76 k := fun k _ => by
    have y := (ag_102 f18).1 k
    have y2 := (ag_nx f9).1 k
    exact ⟨y.1.trans y2.1, y.2.1.trans y2.2.1⟩
  have f018 : Fr frRor N N18 := fr_tr (fr_xo (fr_nx f9)) (fr_1o f18)
  unfold pGv
  by_cases c3 : tkK tp n t = 263
  case neg =>
    have k1 : k = 1 := by rw [hk, if_neg c3]
    rw [if_neg (show ¬ k = 0 by omega), if_pos (show tkK tp n t = 265 by omega)]
    exact r_oend hn hb hW ci b18 z18 k18 hk2 (show SmR W N18 i z k none from k1) c18 l18 d18 f018 (by dsimp only; omega) (Nat.le_refl _)
  have k0 : k = 0 := by rw [hk, if_pos c3]
  rw [if_pos k0, if_neg (show ¬ tkK tp n t = 265 by omega), w_id (x := 8 * (i : Int) + 1) (by omega) (by omega), show 8 * (i : Int) + 1 = ((8 * i + 1 : Nat) : Int) by omega]
  refine ok_bind (r_rs (X := X) hn hb hW (by omega) b18 z18) ?_
  intro M1 R
  cases he : xpS tp n true false (t + 1) np with
  | inl x =>
    rw [he] at R
    obtain ⟨q1, q2⟩ := R
    obtain ⟨M, e, h2, f2⟩ := r_j115f (X := X) ci q2
    rw [if_neg (show ¬ M1 64 19 = 0 by rw [q2.1]; omega), e]
    exact ok_ret ⟨fr_tr f018 (fr_tr q1 (fr_1o f2)), h2⟩
  | inr q =>
    rw [he] at R
    obtain ⟨q1, z', q2, q3, q4, q5, q6, q7, q8, q9, q10⟩ := R
    rw [if_pos q2.2.2.1, ← e8, ref_isWord (by decide) hb q2.1, Option.bind_some]
    dsimp only
    by_cases c4 : tkK tp n q.1 = 264
    case neg =>
      rw [if_neg c4, if_neg (show ¬ tkK tp n q.1 = 256 + ((8 : Nat) : Int) from c4)]
      obtain ⟨M2, x1, x2, x3⟩ := rb_must0 (X := X) q2
      obtain ⟨M, e, h2, f2⟩ := r_j115f (X := X) ci x2
      rw [x1, Option.bind_some, e]
      exact ok_ret ⟨fr_tr f018 (fr_tr q1 (fr_tr (fr_xo x3) (fr_1o f2))), h2⟩
    rw [if_pos c4, if_pos (show tkK tp n q.1 = 256 + ((8 : Nat) : Int) from c4)]
    refine ok_bind (rb_must1 hn hb q2 (by omega) (show (1 : Int) ≠ 0 by omega)) ?_
    rintro M2 ⟨b2, f2⟩
    have z2 := rz_t (rz_ag q3 (ag_nx f2)) (show q.1 ≤ q.1 + 1 by omega)
    unfold f_X12_readOrder_j115
    rw [w_id (x := 8 * (i : Int) + 3) (by omega) (by omega), show 8 * (i : Int) + 3 = ((8 * i + 3 : Nat) : Int) by omega]
    refine ok_bind (r_rs (X := X) hn hb hW (by omega) b2 z2) ?_
    intro M3 R3
    cases hs : xpS tp n true false (q.1 + 1) q.2.1 with
    | inl x =>
      rw [hs] at R3
      obtain ⟨p1, p2⟩ := R3
      obtain ⟨M, e, h2, f3⟩ := r_j122f (X := X) ci p2
      rw [e]
      exact ok_ret ⟨fr_tr f018 (fr_tr q1 (fr_tr (fr_xo (fr_nx f2)) (fr_tr p1 (fr_1o f3)))), h2⟩
    | inr p =>
      rw [hs] at R3
      obtain ⟨p1, z3, p2, p3, p4, p5, p6, p7, p8, p9, p10⟩ := R3
      have h102 : ∀ k, k ≠ 8 * i + 3 → k ≠ 8 * i + 4 → M3 102 k = M1 102 k := fun k a b => (p8 k a (by omega)).trans (f2 102 k (by unfold frNx; omega))
      have h75 : ∀ k, k < z' → M3 75 k = M1 75 k ∧ M3 76 k = M1 76 k := fun k a => by
        have y := p7 k a
        have y2 := (ag_nx f2).1 k
        exact ⟨y.1.trans y2.1, y.2.trans y2.2.1⟩
      refine r_oend hn hb hW ci p2 p3 ?_ hk2 ⟨k0, ⟨sr_mono q5 (by omega) (h102 _ (by omega) (by omega)) (h102 _ (by omega) (by omega)) h75, q6⟩, p5, p6⟩ ?_ (fun k hk' => ?_) (fun k hk' => ?_) (fr_tr f018 (fr_tr q1 (fr_tr (fr_xo (fr_nx f2)) p1))) (by dsimp only; omega) (by omega)
      · rw [h102 _ (by omega) (by omega), q8 _ (by omega) (by omega)]; exact k18
      · rw [p9, f2 64 21 (by unfold frNx; omega), q9]; exact c18
      · rw [h102 _ (by omega) (by omega), q8 _ (by omega) (by omega)]; exact l18 k hk'
      · have y := h75 k (by omega)
        have y2 := q7 k hk'
        have y3 := d18 k hk'
        exact ⟨y.1.trans (y2.1.trans y3.1), y.2.trans (y2.2.trans y3.2)⟩
end OF
