/-! orders: the clauses; the reference's -/
def fr102 (o k : Nat) : Prop := o = 102 ∨ (o = 64 ∧ k = 21)
def frRor (o k : Nat) : Prop := frRx o k ∨ fr102 o k
def SRo (W : Int) (N : NN) (a z : Nat) (D : Den) : Prop := ∃ s0 s1 : Nat, N 102 a = (s0 : Int) ∧ N 102 (a + 1) = (s1 : Int) ∧ s1 ≤ z ∧ SgR W true N s0 s1 28 D
def CdR (W : Int) (N : NN) (a z : Nat) : Option Den → Prop
  | none => N 102 a = N 102 (a + 1)
  | some D => SRo W N a z D ∧ DBo D
def SmR (W : Int) (N : NN) (i z : Nat) (k : Int) : Option (Den × Den) → Prop
  | none => k = 1
  | some D => k = 0 ∧ (SRo W N (8 * i + 1) z D.1 ∧ DBd D.1) ∧ SRo W N (8 * i + 3) z D.2 ∧ DBd D.2
def ROC (W : Int) (N : NN) (i : Nat) (c : OCl) (z : Nat) : Prop := N 102 (8 * i) = c.1 ∧ (c.1 = 0 ∨ c.1 = 1) ∧ N 102 (8 * i + 7) = c.2.1 ∧ (1 ≤ c.2.1 ∧ c.2.1 ≤ 20) ∧ CdR W N (8 * i + 5) z c.2.2.1 ∧ SmR W N i z c.1 c.2.2.2
def ORq (W : Int) (tp : Nat → Int) (n : Nat) (N : NN) (t z i : Nat) (r : Nat ⊕ (Nat × Nat × OCl)) (M : NN) : Prop := Fr frRor N M ∧ match r with
  | .inl f => FS2 M tp n f
  | .inr q => ∃ z', RB M tp n true q.1 q.2.1 ∧ RZ M q.1 z' ∧ z ≤ z' ∧ M 64 21 = (i : Int) + 1 ∧ ROC W M i q.2.2 z' ∧ (∀ k, k < z → M 75 k = N 75 k ∧ M 76 k = N 76 k) ∧ (∀ k, k < 8 * i → M 102 k = N 102 k) ∧ t < q.1
def RSq (W : Int) (tp : Nat → Int) (n : Nat) (N : NN) (t z a : Nat) (r : PR) (M : NN) : Prop := Fr frRor N M ∧ match r with
  | .inl f => FS2 M tp n f
  | .inr q => ∃ z', RB M tp n true q.1 q.2.1 ∧ RZ M q.1 z' ∧ z ≤ z' ∧ SRo W M a z' q.2.2 ∧ DBd q.2.2 ∧ (∀ k, k < z → M 75 k = N 75 k ∧ M 76 k = N 76 k) ∧ (∀ k, k ≠ a → k ≠ a + 1 → M 102 k = N 102 k) ∧ M 64 21 = N 64 21 ∧ t < q.1
def RNq (W : Int) (tp : Nat → Int) (n : Nat) (N : NN) (t z i : Nat) (r : Nat ⊕ (Nat × Nat × Option Den)) (M : NN) : Prop := Fr frRor N M ∧ match r with
  | .inl f => FS2 M tp n f
  | .inr q => ∃ z', RB M tp n true q.1 q.2.1 ∧ RZ M q.1 z' ∧ z ≤ z' ∧ CdR W M (8 * i + 5) z' q.2.2 ∧ (∀ k, k < z → M 75 k = N 75 k ∧ M 76 k = N 76 k) ∧ (∀ k, k ≠ 8 * i + 5 → k ≠ 8 * i + 6 → M 102 k = N 102 k) ∧ M 64 21 = N 64 21 ∧ t ≤ q.1
section OE
variable {X : MX} {N : NN} {tp : Nat → Int} {n : Nat} {ord : Bool} {W : Int}
theorem rb_102 {M : NN} {t np : Nat} (h : RB N tp n ord t np) (f : Fr fr102 N M) : RB M tp n ord t np := by
  obtain ⟨h1, h2, h3, h4, h5, h6, h7, h8⟩ := h
  have e : ∀ k, k ≠ 21 → M 64 k = N 64 k := fun k a => f 64 k (by unfold fr102; omega)
  refine ⟨?_, ⟨(e 13 (by omega)).trans h2.1, fun j hj => (f 73 j (by unfold fr102; omega)).trans (h2.2 j hj)⟩, (e 19 (by omega)).trans h3, (e 20 (by omega)).trans h4, (e 26 (by omega)).trans h5, h6, h7, wtb_c h8 (fun k => f 79 k (by unfold fr102; omega)) (fun k => f 80 k (by unfold fr102; omega)) (e 18 (by omega))⟩
  unfold TKm LXm at h1 ⊢
  rw [e 14 (by omega), e 15 (by omega), e 16 (by omega), e 17 (by omega)]
  exact h1
theorem ag_102 {M : NN} (f : Fr fr102 N M) : Ag N M := ag_fr f fun o k q => by unfold fr102 at q; omega
theorem fs2_102 {M : NN} {f : Nat} (h : FS2 N tp n f) (g : Fr fr102 N M) : FS2 M tp n f := ⟨(g 64 19 (by unfold fr102; omega)).trans h.1, (g 64 18 (by unfold fr102; omega)).trans h.2⟩
theorem fr_xo {M : NN} (h : Fr frRx N M) : Fr frRor N M := fr_mono h fun o k q => Or.inl q
theorem fr_1o {M : NN} (h : Fr fr102 N M) : Fr frRor N M := fr_mono h fun o k q => Or.inr q
theorem fr_u102 {k : Nat} {v : Int} : Fr fr102 N (m_up N 102 k v) := fr_up fr_rfl (Or.inl rfl)
theorem sr_mono {M : NN} {a z z' : Nat} {D : Den} (h : SRo W N a z D) (hz : z ≤ z') (h1 : M 102 a = N 102 a) (h2 : M 102 (a + 1) = N 102 (a + 1)) (hc : ∀ k, k < z → M 75 k = N 75 k ∧ M 76 k = N 76 k) : SRo W M a z' D := by
  obtain ⟨s0, s1, e0, e1, l, g⟩ := h
  exact ⟨s0, s1, h1.trans e0, h2.trans e1, by omega, sg_c g fun k _ b => hc k (by omega)⟩
theorem cdr_mono {M : NN} {a z z' : Nat} {d : Option Den} (h : CdR W N a z d) (hz : z ≤ z') (h1 : M 102 a = N 102 a) (h2 : M 102 (a + 1) = N 102 (a + 1)) (hc : ∀ k, k < z → M 75 k = N 75 k ∧ M 76 k = N 76 k) : CdR W M a z' d := by
  cases d with
  | none => exact h1.trans (Eq.trans h h2.symm)
  | some D => exact ⟨sr_mono h.1 hz h1 h2 hc, h.2⟩
theorem smr_mono {M : NN} {i z z' : Nat} {k : Int} {d : Option (Den × Den)} (h : SmR W N i z k d) (hz : z ≤ z') (h1 : ∀ j, 1 ≤ j → j < 5 → M 102 (8 * i + j) = N 102 (8 * i + j)) (hc : ∀ k, k < z → M 75 k = N 75 k ∧ M 76 k = N 76 k) : SmR W M i z' k d := by
  cases d with
  | none => exact h
  | some D => exact ⟨h.1, ⟨sr_mono h.2.1.1 hz (h1 1 (by omega) (by omega)) (h1 2 (by omega) (by omega)) hc, h.2.1.2⟩, sr_mono h.2.2.1 hz (h1 3 (by omega) (by omega)) (h1 4 (by omega) (by omega)) hc, h.2.2.2⟩
theorem roc_mono {M : NN} {i : Nat} {c : OCl} {z z' : Nat} (h : ROC W N i c z) (hz : z ≤ z') (h102 : ∀ k, k < 8 * (i + 1) → M 102 k = N 102 k) (hc : ∀ k, k < z → M 75 k = N 75 k ∧ M 76 k = N 76 k) : ROC W M i c z' := by
  obtain ⟨a1, a2, a3, a4, a5, a6⟩ := h
  exact ⟨(h102 _ (by omega)).trans a1, a2, (h102 _ (by omega)).trans a3, a4, cdr_mono a5 hz (h102 _ (by omega)) (h102 _ (by omega)) hc, smr_mono a6 hz (fun j j1 j2 => h102 _ (by omega)) hc⟩
theorem r_rsF {a : Nat} {f : Nat} (ha : a + 1 < 96) (h : FS2 N tp n f) : ∃ M, f_X12_readSum X N (a : Int) = some M ∧ FS2 M tp n f ∧ Fr fr102 N M := by
  refine ⟨m_up (m_up N 102 a (N 64 23)) 102 (a + 1) (N 64 23), ?_, fs2_102 (fs2_102 h fr_u102) fr_u102, fr_up (fr_up fr_rfl (Or.inl rfl)) (Or.inl rfl)⟩
  unfold f_X12_readSum f_X12_readSum_j22
  rw [if_pos (by omega), Int.toNat_natCast]
  dsimp only
  rw [if_neg (show ¬ m_up N 102 a (N 64 23) 64 19 = 0 by rw [up_o (by omega), h.1]; omega), w_id (x := (a : Int) + 1) (by omega) (by omega), if_pos (by omega), show ((a : Int) + 1).toNat = a + 1 by omega, up_o (by omega)]
theorem r_rs {t np z a : Nat} (hn : n ≤ 400) (hb : ∀ j, j < n → 0 ≤ tp j ∧ tp j ≤ 255) (hW : W = 32) (ha : a + 1 < 96) (h : RB N tp n true t np) (hz : RZ N t z) : Ok (f_X12_readSum X N (a : Int)) (RSq W tp n N t z a (xpS tp n true false t np)) := by
  obtain ⟨N2, hN⟩ : ∃ N2, N2 = m_up N 102 a (z : Int) := ⟨_, rfl⟩
  have f2 : Fr fr102 N N2 := by rw [hN]; exact fr_u102
  have b2 := rb_102 h f2
  have z2 := rz_ag hz (ag_102 f2)
  unfold f_X12_readSum f_X12_readSum_j22
  rw [if_pos (by omega), Int.toNat_natCast, hz.1, ← hN]
  dsimp only
  rw [if_pos b2.2.2.1]
  refine ok_bind (r_exp (X := X) (a := 0) (bo := false) (W := W) hn hb (by rw [hW]; rfl) rfl b2 z2) ?_
  intro M R
  rw [w_id (x := (a : Int) + 1) (by omega) (by omega), if_pos (by omega), show ((a : Int) + 1).toNat = a + 1 by omega]
  have fz : Fr fr102 M (m_up M 102 (a + 1) (M 64 23)) := fr_u102
  cases he : xpS tp n true false t np with
  | inl x =>
    rw [he] at R
    obtain ⟨q1, q2⟩ := rx_0 R
    exact ok_ret ⟨fr_tr (fr_1o f2) (fr_tr (fr_xo q1) (fr_1o fz)), fs2_102 (fst_fs2 q2) fz⟩
  | inr q =>
    rw [he] at R
    obtain ⟨q1, z', q2, q3, q4, q5, q6, q7, q8⟩ := rx_1 R
    rw [if_neg (show ¬ (false = true) by decide)] at q8
    have g102 : ∀ k, M 102 k = N2 102 k := fun k => q1 102 k (by unfold frRx; omega)
    refine ok_ret ⟨fr_tr (fr_1o f2) (fr_tr (fr_xo q1) (fr_1o fz)), z', rb_102 q2 fz, rz_ag q3 (ag_102 fz), by omega, ⟨z, z', ?_, ?_, Nat.le_refl _, sg_c q4 fun k _ _ => ⟨up_o (by omega), up_o (by omega)⟩⟩, q8, fun k hk => ?_, fun k a1 a2 => ?_, ?_, q6⟩
    · rw [up_k (by omega), g102, hN, up_s]
    · rw [up_s]; exact q3.1
    · rw [up_o (by omega), up_o (by omega)]
      have y := q5 k hk
      rw [hN, up_o (by omega), up_o (by omega)] at y
      exact y
    · rw [up_k a2, g102, hN, up_k a1]
    · rw [up_o (by omega), q1 64 21 (by unfold frRx; omega), hN, up_o (by omega)]
theorem r_nmb {t np : Nat} (hn : n ≤ 400) (hb : ∀ j, j < n → 0 ≤ tp j ∧ tp j ≤ 255) (h : RB N tp n true t np) : Ok (f_X12_number X N 1 20) (fun o => (¬ (tkK tp n t = -2 ∧ 1 ≤ tkN tp n t ∧ tkN tp n t ≤ 20) ∧ FS2 o.2 tp n t ∧ Fr frRx N o.2) ∨ ((tkK tp n t = -2 ∧ 1 ≤ tkN tp n t ∧ tkN tp n t ≤ 20) ∧ o.1 = tkN tp n t ∧ RB o.2 tp n true (t + 1) np ∧ Fr frNx N o.2)) := by
  unfold f_X12_number f_X12_number_j32 f_X12_number_j33
  obtain ⟨n1, n2, _, _⟩ := ref_num hb h.1
  have bad : ∀ v : Int, ¬ (tkK tp n t = -2 ∧ 1 ≤ tkN tp n t ∧ tkN tp n t ≤ 20) → Ok (Option.bind (f_X12_must X N 0) (fun o4 => some (v, o4))) (fun o => (¬ (tkK tp n t = -2 ∧ 1 ≤ tkN tp n t ∧ tkN tp n t ≤ 20) ∧ FS2 o.2 tp n t ∧ Fr frRx N o.2) ∨ ((tkK tp n t = -2 ∧ 1 ≤ tkN tp n t ∧ tkN tp n t ≤ 20) ∧ o.1 = tkN tp n t ∧ RB o.2 tp n true (t + 1) np ∧ Fr frNx N o.2)) := by
    intro v c
    obtain ⟨M, x1, x2, x3⟩ := rb_must0 (X := X) h
    rw [x1, Option.bind_some]
    exact ok_ret (Or.inl ⟨c, x2, x3⟩)
  by_cases c2 : tkK tp n t = -2
  case neg =>
    rw [if_neg (fun y => c2 (n1.1 y))]
    exact bad _ (fun y => c2 y.1)
  have hm2 := n2 c2
  rw [if_pos (n1.2 c2), ref_in, Option.bind_some]
  by_cases c3 : 1 ≤ tkN tp n t ∧ tkN tp n t ≤ 20
  case neg =>
    rw [if_neg (show ¬ (1 ≤ N 64 17 ∧ N 64 17 ≤ 20) by omega), i00]
    exact bad _ (fun y => c3 y.2)
  rw [if_pos (show 1 ≤ N 64 17 ∧ N 64 17 ≤ 20 by omega), i10, w_id (x := N 64 17) (by omega) (by omega), show N 64 17 = tkN tp n t by omega]
  refine ok_bind (rb_must1 hn hb h (by omega) (show (1 : Int) ≠ 0 by omega)) ?_
  rintro M ⟨q1, q2⟩
  exact ok_ret (Or.inr ⟨⟨c2, c3⟩, rfl, q1, q2⟩)
theorem r_j208 {i : Nat} (hi : i < 12) : f_X12_readOrder_j208 X N (8 * i : Int) = some (m_up N 102 (8 * i + 6) (N 64 23)) := by
  unfold f_X12_readOrder_j208
  rw [w_id (x := (8 * i : Int) + 6) (by omega) (by omega), if_pos (by omega), show ((8 * i : Int) + 6).toNat = 8 * i + 6 by omega]
theorem r_j170f {i f : Nat} (hi : i < 12) (h : FS2 N tp n f) : ∃ M, f_X12_readOrder_j170 X N (8 * i : Int) = some M ∧ FS2 M tp n f ∧ Fr fr102 N M := by
  refine ⟨m_up (m_up N 102 (8 * i + 5) (N 64 23)) 102 (8 * i + 6) (N 64 23), ?_, fs2_102 (fs2_102 h fr_u102) fr_u102, fr_up (fr_up fr_rfl (Or.inl rfl)) (Or.inl rfl)⟩
  unfold f_X12_readOrder_j170
  rw [w_id (x := (8 * i : Int) + 5) (by omega) (by omega), if_pos (by omega), show ((8 * i : Int) + 5).toNat = 8 * i + 5 by omega]
  dsimp only
  rw [if_neg (show ¬ m_up N 102 (8 * i + 5) (N 64 23) 64 19 = 0 by rw [up_o (by omega), h.1]; omega), r_j208 hi, up_o (by omega)]
theorem r_j170 {t np z i : Nat} (hn : n ≤ 400) (hb : ∀ j, j < n → 0 ≤ tp j ∧ tp j ≤ 255) (hW : W = 32) (hi : i < 12) (h : RB N tp n true t np) (hz : RZ N t z) : Ok (f_X12_readOrder_j170 X N (8 * i : Int)) (RNq W tp n N t z i (pCnd tp n t np)) := by
  have e3 : wC 3 = 294 := wC_tab ⟨3, by decide⟩
  obtain ⟨N2, hN⟩ : ∃ N2, N2 = m_up N 102 (8 * i + 5) (z : Int) := ⟨_, rfl⟩
  have f2 : Fr fr102 N N2 := by rw [hN]; exact fr_u102
  have b2 := rb_102 h f2
  have z2 := rz_ag hz (ag_102 f2)
  unfold f_X12_readOrder_j170 pCnd
  rw [w_id (x := (8 * i : Int) + 5) (by omega) (by omega), if_pos (by omega), show ((8 * i : Int) + 5).toNat = 8 * i + 5 by omega, hz.1, ← hN]
  dsimp only
  rw [if_pos b2.2.2.1, ← e3, ref_isWord (by decide) hb b2.1, Option.bind_some]
  by_cases c : tkK tp n t = 259
  case neg =>
    rw [if_neg c, if_neg (show ¬ tkK tp n t = 256 + ((3 : Nat) : Int) from c), i00, r_j208 hi]
    have fz : Fr fr102 N2 (m_up N2 102 (8 * i + 6) (N2 64 23)) := fr_u102
    refine ok_ret ⟨fr_1o (fr_tr f2 fz), z, rb_102 b2 fz, rz_ag z2 (ag_102 fz), Nat.le_refl _, ?_, fun k hk => ?_, fun k a1 a2 => ?_, ?_, Nat.le_refl _⟩
    · show m_up N2 102 (8 * i + 6) (N2 64 23) 102 (8 * i + 5) = m_up N2 102 (8 * i + 6) (N2 64 23) 102 (8 * i + 5 + 1)
      rw [up_k (by omega), show 8 * i + 5 + 1 = 8 * i + 6 by omega, up_s, z2.1, hN, up_s]
    · rw [up_o (by omega), up_o (by omega), hN, up_o (by omega), up_o (by omega)]
      exact ⟨rfl, rfl⟩
    · rw [up_k a2, hN, up_k a1]
    · rw [up_o (by omega), hN, up_o (by omega)]
  rw [if_pos c, if_pos (show tkK tp n t = 256 + ((3 : Nat) : Int) from c), i10]
  refine ok_bind (rb_next hn hb b2 (by omega)) ?_
  rintro M1 ⟨b1, f1⟩
  have z1 := rz_t (rz_ag z2 (ag_nx f1)) (show t ≤ t + 1 by omega)
  refine ok_bind (r_exp (X := X) (a := 1) (bo := true) (W := W) hn hb (by rw [hW]; rfl) rfl b1 z1) ?_
  intro M2 R
  rw [r_j208 hi]
  have fz : Fr fr102 M2 (m_up M2 102 (8 * i + 6) (M2 64 23)) := fr_u102
  cases he : xpS tp n true true (t + 1) np with
  | inl x =>
    rw [he] at R
    obtain ⟨q1, q2⟩ := rx_0 R
    exact ok_ret ⟨fr_tr (fr_1o f2) (fr_tr (fr_xo (fr_nx f1)) (fr_tr (fr_xo q1) (fr_1o fz))), fs2_102 (fst_fs2 q2) fz⟩
  | inr q =>
    rw [he] at R
    obtain ⟨q1, z', q2, q3, q4, q5, q6, q7, q8⟩ := rx_1 R
    rw [if_pos rfl] at q8
    have g102 : ∀ k, M2 102 k = N2 102 k := fun k => (q1 102 k (by unfold frRx; omega)).trans (f1 102 k (by unfold frNx; omega))
    refine ok_ret ⟨fr_tr (fr_1o f2) (fr_tr (fr_xo (fr_nx f1)) (fr_tr (fr_xo q1) (fr_1o fz))), z', rb_102 q2 fz, rz_ag q3 (ag_102 fz), by omega, ⟨⟨z, z', ?_, ?_, Nat.le_refl _, sg_c q4 fun k _ _ => ⟨up_o (by omega), up_o (by omega)⟩⟩, q8⟩, fun k hk => ?_, fun k a1 a2 => ?_, ?_, by dsimp only; omega⟩
    · rw [up_k (by omega), g102, hN, up_s]
    · rw [show 8 * i + 5 + 1 = 8 * i + 6 by omega, up_s]; exact q3.1
    · rw [up_o (by omega), up_o (by omega)]
      have y := q5 k hk
      rw [f1 75 k (by unfold frNx; omega), f1 76 k (by unfold frNx; omega), hN, up_o (by omega), up_o (by omega)] at y
      exact y
    · rw [up_k a2, g102, hN, up_k a1]
    · rw [up_o (by omega), q1 64 21 (by unfold frRx; omega), f1 64 21 (by unfold frNx; omega), hN, up_o (by omega)]
end OE
