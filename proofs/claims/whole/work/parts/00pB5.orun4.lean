/-! orders are run: one step in the reference -/
def frSo (o k : Nat) : Prop := o = 83 ∨ (o = 64 ∧ (k = 20 ∨ k = 37 ∨ k = 38 ∨ k = 69))
def frRm (o k : Nat) : Prop := frG o k ∨ o = 82 ∨ (o = 64 ∧ (k = 20 ∨ k = 66 ∨ k = 67 ∨ k = 69))
def MSo (B : Int) (lw : Nat → Law) (N : NN) (s : OS) : Prop := MW N (B + s.2.2.1) s.1 lw ∧ MUn N s.2.1 ∧ N 64 66 = s.2.2.1 ∧ N 64 67 = s.2.2.2 ∧ UV (B + s.2.2.1) s.1 s.2.1 ∧ 0 ≤ s.2.2.1 ∧ -1 ≤ s.2.2.2 ∧ s.2.2.2 ≤ 999
section OM
variable {X : MX} {N : NN} {B : Int} {lw : Nat → Law} {r : Nat → Int} {dn la : Int}
theorem r_asked {o p : Int} (hr : ∀ i, i < 270 → N 66 i = r i) (hV : Vr B r) (ho : 5 ≤ o ∧ o < 20) (hn : 0 ≤ nR true o p) : f_X12_askedOf X N o p = some (envO r dn la (nR true o p).toNat) := by
  have v0 := hV.1
  have v1 := hV.2.1
  have en : nR true o p = if o = 5 then (if 0 ≤ p ∧ p ≤ 5 then 4 + p else -1) else if o = 6 then (if 0 ≤ p ∧ p ≤ 15 then 10 + p else -1) else if 0 ≤ p ∧ p ≤ 5 then 26 + p else -1 := by
    unfold nR
    rw [if_neg (by omega), if_pos ho.2, if_pos rfl, if_neg (by omega)]
  unfold f_X12_askedOf f_X12_askedOf_j24 f_X12_askedOf_j63
  by_cases c6 : o = 6
  · rw [if_neg (show ¬ o = 5 by omega), if_pos c6] at en
    by_cases cp : 0 ≤ p ∧ p ≤ 15
    case neg => rw [if_neg cp] at en; omega
    rw [if_pos cp] at en
    rw [en, if_pos c6, ref_isGood hr hV, Option.bind_some]
    obtain ⟨m, rfl⟩ := Int.eq_ofNat_of_zero_le cp.1
    have ex : envO r dn la (10 + (m : Int)).toNat = if (m : Int) < r 1 then rg r (m : Int) 0 else -1 := by
      rw [show (10 + (m : Int)).toNat = 10 + m by omega]
      unfold envO
      rw [if_neg (by omega), if_neg (by omega), if_neg (by omega), if_neg (by omega), if_neg (by omega), if_pos (by omega), show ((10 + m : Nat) : Int) - 10 = (m : Int) by omega]
    rw [ex]
    by_cases g : (m : Int) < r 1
    · rw [if_pos (show 0 ≤ (m : Int) ∧ (m : Int) < r 1 by omega), i10, ref_ofGood hr (by omega) (by omega) (by omega) (by omega), Option.bind_some, if_pos g]
    · rw [if_neg (show ¬ (0 ≤ (m : Int) ∧ (m : Int) < r 1) by omega), i00, if_neg g]
  by_cases c5 : o = 5
  · rw [if_pos c5] at en
    by_cases cp : 0 ≤ p ∧ p ≤ 5
    case neg => rw [if_neg cp] at en; omega
    rw [if_pos cp] at en
    rw [en, if_neg (show ¬ o = 6 from c6), ref_isLord hr hV, Option.bind_some]
    obtain ⟨m, rfl⟩ := Int.eq_ofNat_of_zero_le cp.1
    have ex : envO r dn la (4 + (m : Int)).toNat = if (m : Int) < r 0 then rl r (m : Int) 0 else -1 := by
      rw [show (4 + (m : Int)).toNat = 4 + m by omega]
      unfold envO
      rw [if_neg (by omega), if_neg (by omega), if_neg (by omega), if_neg (by omega), if_pos (by omega), show ((4 + m : Nat) : Int) - 4 = (m : Int) by omega]
    rw [ex]
    by_cases g : (m : Int) < r 0
    · rw [if_pos (show 0 ≤ (m : Int) ∧ (m : Int) < r 0 by omega), i10, if_pos c5, ref_ofLord hr (by omega) (by omega) (by omega) (by omega), Option.bind_some, if_pos g]
    · rw [if_neg (show ¬ (0 ≤ (m : Int) ∧ (m : Int) < r 0) by omega), i00, if_neg g]
  · rw [if_neg c5, if_neg c6] at en
    by_cases cp : 0 ≤ p ∧ p ≤ 5
    case neg => rw [if_neg cp] at en; omega
    rw [if_pos cp] at en
    rw [en, if_neg (show ¬ o = 6 from c6), ref_isLord hr hV, Option.bind_some]
    obtain ⟨m, rfl⟩ := Int.eq_ofNat_of_zero_le cp.1
    have ex : envO r dn la (26 + (m : Int)).toNat = if (m : Int) < r 0 then owesS r (m : Int) else -1 := by
      rw [show (26 + (m : Int)).toNat = 26 + m by omega]
      unfold envO
      rw [if_neg (by omega), if_neg (by omega), if_neg (by omega), if_neg (by omega), if_neg (by omega), if_neg (by omega), if_pos (by omega), show ((26 + m : Nat) : Int) - 26 = (m : Int) by omega]
    rw [ex]
    by_cases g : (m : Int) < r 0
    · rw [if_pos (show 0 ≤ (m : Int) ∧ (m : Int) < r 0 by omega), i10, if_neg c5, ref_debtsOf hr (by omega) (by omega), Option.bind_some, if_pos g]
    · rw [if_neg (show ¬ (0 ≤ (m : Int) ∧ (m : Int) < r 0) by omega), i00, if_neg g]
/-- what stands in the reference while a SUM of orders is reckoned -/
def OE1 (N : NN) (r : Nat → Int) (dn la : Int) (z : Nat) : Prop := (∀ i, i < 270 → N 66 i = r i) ∧ (N 82 1 = r 6 ∧ N 82 2 = r 1 ∧ N 82 3 = dn ∧ N 82 4 = la) ∧ ∀ k, k < z → 0 ≤ N 75 k ∧ N 75 k ≤ 30
theorem oe_fr {M : NN} {z : Nat} (h : OE1 N r dn la z) (f : Fr frSo N M) : OE1 M r dn la z := ⟨fun i hi => (f 66 i (by unfold frSo; omega)).trans (h.1 i hi), ⟨(f 82 1 (by unfold frSo; omega)).trans h.2.1.1, (f 82 2 (by unfold frSo; omega)).trans h.2.1.2.1, (f 82 3 (by unfold frSo; omega)).trans h.2.1.2.2.1, (f 82 4 (by unfold frSo; omega)).trans h.2.1.2.2.2⟩, fun k hk => by rw [f 75 k (by unfold frSo; omega)]; exact h.2.2 k hk⟩
theorem r_osum {D : Den} {a z : Nat} (hE : OE1 N r dn la z) (hV : Vr B r) (ha : a + 1 < 96) (hz : z ≤ 400) (hs : SRo 32 N a z D) (h69 : N 64 69 = 0) (he : EnvOK (envO r dn la)) : Ok (f_X12_sumOf X N (a : Int)) (fun o => Fr frSo N o.2 ∧ o.2 64 20 = 0 ∧ ((∃ v, D (envO r dn la) = some v ∧ o.1 = v ∧ o.2 64 69 = 0) ∨ (D (envO r dn la) = none ∧ o.2 64 69 = 1))) := by
  obtain ⟨s0, s1, e0, e1, l1, hS⟩ := hs
  obtain ⟨N1, hN⟩ : ∃ N1, N1 = m_up N 64 20 1 := ⟨_, rfl⟩
  have f1 : Fr frSo N N1 := by rw [hN]; exact fr_up fr_rfl (by unfold frSo; omega)
  have hE1 := oe_fr hE f1
  have n20 : N1 64 20 = 1 := by rw [hN, up_s]
  have hS1 : Seg 32 (fun k => nA (N1 75 k)) (fun k => nR true (N1 75 k) (N1 76 k)) s0 s1 28 D := seg_c hS fun k _ _ => by rw [f1 75 k (by unfold frSo; omega), f1 76 k (by unfold frSo; omega)]; exact ⟨rfl, rfl⟩
  unfold f_X12_sumOf
  rw [if_pos h69, ← hN]
  dsimp only
  rw [if_pos (by omega), w_id (x := (a : Int) + 1) (by omega) (by omega), if_pos (by omega), show ((a : Int) + 1).toNat = a + 1 by omega, Int.toNat_natCast, f1 102 a (by unfold frSo; omega), f1 102 (a + 1) (by unfold frSo; omega), e0, e1]
  refine ok_bind (ref_reckonAll (X := X) (N := N1) (W := 32) (e := envO r dn la) (ord := true) (O := fun k => N1 75 k) (P := fun k => N1 76 k) (i := s0) (j := s1) (d := 28) (D := D) (by omega) (fun k hk => hE1.2.2 k (by omega)) (fun M n k hf hb hk => ?_) (fun M n k hf hk o1 o2 r1 r2 => ?_) (by omega) hS1 he) ?_
  · have m20 : ¬ M 64 20 = 0 := by rw [hf 64 20 (by unfold frRk; omega), n20]; omega
    unfold b_X12_reckonAll_10 f_X12_reckonAll_l10_j57
    rw [if_pos (by omega), if_pos hb, if_neg m20, if_pos (by omega), if_neg m20, if_pos (by omega), Int.toNat_natCast, hf 75 k (by unfold frRk; omega), hf 76 k (by unfold frRk; omega)]
  · have m20 : ¬ M 64 20 = 0 := by rw [hf 64 20 (by unfold frRk; omega), n20]; omega
    have o1' : 1 ≤ N1 75 k := o1
    have o2' : N1 75 k < 20 := o2
    have r1' : 0 ≤ nR true (N1 75 k) (N1 76 k) := r1
    unfold f_X12_reckonAll_l10_j95
    rw [if_pos o2', if_neg (show ¬ N1 75 k = 0 by omega), if_neg m20, w_id (x := (k : Int) + 1) (by omega) (by omega)]
    by_cases c5 : N1 75 k < 5
    · have er : nR true (N1 75 k) (N1 76 k) = N1 75 k - 1 := by
        unfold nR
        rw [if_neg (by omega), if_pos o2', if_pos rfl, if_pos (by omega)]
      have ev : M 82 (N1 75 k).toNat = envO r dn la (nR true (N1 75 k) (N1 76 k)).toNat := by
        rw [er, hf 82 _ (by unfold frRk; omega)]
        rcases (show N1 75 k = 1 ∨ N1 75 k = 2 ∨ N1 75 k = 3 ∨ N1 75 k = 4 by omega) with c | c | c | c
        · rw [c]; exact hE1.2.1.1
        · rw [c]; exact hE1.2.1.2.1
        · rw [c]; exact hE1.2.1.2.2.1
        · rw [c]; exact hE1.2.1.2.2.2
      rw [if_pos c5, if_pos (by omega), ev]
    · rw [if_neg c5, r_asked (r := r) (dn := dn) (la := la) (fun i hi => (hf 66 i (by unfold frRk; omega)).trans (hE1.1 i hi)) hV ⟨by omega, o2'⟩ r1', Option.bind_some]
  intro M ⟨fM, R⟩
  have fMs : Fr frSo N M := fr_tr f1 (fr_mono fM fun o k q => by unfold frRa at q; unfold frSo; omega)
  have m37 : m_up M 64 20 0 64 37 = M 64 37 := up_k (by omega)
  have b01 : 0 ≤ M 64 37 ∧ M 64 37 ≤ 1 := by
    rcases R with ⟨v, y1, y2, y3⟩ | ⟨y1, y2⟩
    · omega
    · omega
  try dsimp only
  rw [m37, if_pos b01]
  have p20 : m_up (m_up M 64 20 0) 64 69 (M 64 37) 64 20 = 0 := (up_k (by omega)).trans up_s
  have p69 : m_up (m_up M 64 20 0) 64 69 (M 64 37) 64 69 = M 64 37 := up_s
  have p38 : m_up M 64 20 0 64 38 = M 64 38 := up_k (by omega)
  refine ok_ret ⟨fr_up (fr_up fMs (by unfold frSo; omega)) (by unfold frSo; omega), p20, ?_⟩
  rcases R with ⟨v, y1, y2, y3⟩ | ⟨y1, y2⟩
  · exact Or.inl ⟨v, y1, Eq.trans (by first | exact p38 | rfl) y3, p69.trans y2⟩
  · exact Or.inr ⟨y1, p69.trans y2⟩
theorem r_ooff {a : Nat} (h : N 64 69 = 1) : f_X12_sumOf X N (a : Int) = some (0, N) := by
  unfold f_X12_sumOf
  rw [if_neg (by rw [h]; omega)]
theorem fr_sm {M : NN} (h : Fr frSo N M) : Fr frRm N M := fr_mono h fun o k q => by unfold frSo at q; unfold frRm frG frN; omega
theorem fr_gm {M : NN} (h : Fr frG N M) : Fr frRm N M := fr_mono h fun o k q => Or.inl q
theorem ms_fr {M : NN} {s : OS} (h : MSo B lw N s) (f : Fr (fun o k => o = 82 ∨ frSo o k) N M) (h20 : M 64 20 = 0) : MSo B lw M s := by
  obtain ⟨a, b, c, d, e⟩ := h
  exact ⟨mw_eq a (fr_of f 66 fun k => by unfold frSo; omega) (h20.trans a.2.2.2.1.symm), mun_eq e.1.1 b (f 64 8 (by unfold frSo; omega)) (fun k _ => f 69 k (by unfold frSo; omega)) (fr_of f 70 fun k => by unfold frSo; omega), (f 64 66 (by unfold frSo; omega)).trans c, (f 64 67 (by unfold frSo; omega)).trans d, e⟩
theorem r_act {s : OS} {c : OCl} {z i : Nat} (hi : i < 12) (hz : z ≤ 400) (hc : ROC 32 N i c z) (hB : B + 300 ≤ 1000000) (hd : s.2.2.1 ≤ 280) (h : MSo B lw N s) (hE : OE1 N s.1 s.2.2.1 s.2.2.2 z) (h69 : N 64 69 = 0) : Ok (f_X12_run_j94 X N (8 * i : Int)) (fun o => Fr frRm N o.2 ∧ o.2 64 20 = 0 ∧ ((actO lw s c.2.2.2 = none ∧ o.1 = -3) ∨ ∃ s', actO lw s c.2.2.2 = some s' ∧ o.1 = 0 ∧ MSo B lw o.2 s' ∧ s'.2.2.1 ≤ s.2.2.1 + 1)) := by
  obtain ⟨r, un, dn, la⟩ := s
  have hW : MW N (B + dn) r lw := h.1
  have hV : Vr (B + dn) r := hW.2.1
  have hU : UV (B + dn) r un := h.2.2.2.2.1
  have d0 : 0 ≤ dn := h.2.2.2.2.2.1
  have l0 : -1 ≤ la ∧ la ≤ 999 := h.2.2.2.2.2.2
  have hd' : dn ≤ 280 := hd
  have hE' : OE1 N r dn la z := hE
  have he : EnvOK (envO r dn la) := envO_ok hV ⟨d0, by omega⟩ l0
  have v0 := hV.1
  have v1 := hV.2.1
  have v6 := hV.2.2.2.2.2.2.1
  obtain ⟨ca, ck, _, _, _, cs⟩ := hc
  unfold f_X12_run_j94
  rw [if_pos (by omega), show (8 * i : Int).toNat = 8 * i by omega, ca]
  cases hdd : c.2.2.2 with
  | none =>
    rw [hdd] at cs
    have k1 : c.1 = 1 := cs
    have ea : actO lw (r, un, dn, la) none = if r 6 ≤ 998 then some ((waitS r lw 0).1, pushU un r 1, dn + 1, la) else none := rfl
    rw [if_pos k1, ea]
    refine ok_bind (ref_waitNow (X := X) hW h.2.1 hU.1) ?_
    rintro ⟨v, M⟩ ⟨p1, p2⟩
    dsimp only at p1 p2 ⊢
    rcases p1 with ⟨y, z1, w, u⟩ | ⟨y, z1, w⟩
    · obtain ⟨w1, w2, w3, w4, w5⟩ := wait_vr (lw := lw) (b := 0) hV y
      rw [if_pos y, if_neg (show ¬ v < 0 by omega)]
      unfold f_X12_run_j201
      have n66 : M 64 66 = dn := by rw [p2 64 66 (by unfold frG frN; omega)]; exact h.2.2.1
      have n67 : M 64 67 = la := by rw [p2 64 67 (by unfold frG frN; omega)]; exact h.2.2.2.1
      rw [n66, w_id (by omega) (by omega)]
      dsimp only
      have n20 : M 64 20 = 0 := w.2.2.2.1
      have w5 : MW (m_up M 64 66 (dn + 1)) (B + (dn + 1)) (waitS r lw 0).1 lw := mw_B (mw_eq w (up_of (by omega)) (up_k (by omega))) (by omega) (by omega)
      have u5 : MUn (m_up M 64 66 (dn + 1)) (pushU un r 1) := by
        have : (pushU un r 1).1 ≤ 16 := by unfold pushU; have := hU.1; split <;> (dsimp only; omega)
        exact mun_eq this u (up_k (by omega)) (fun k _ => up_o (by omega)) (up_of (by omega))
      have v5 : UV (B + (dn + 1)) (waitS r lw 0).1 (pushU un r 1) := uv_push hU hV (by omega) (by omega) (w2.1 0 (by omega)) (w2.1 1 (by omega)) w2.2.1 w2.2.2.1
      have s6 : m_up M 64 66 (dn + 1) 64 66 = dn + 1 := up_s
      have s7 : m_up M 64 66 (dn + 1) 64 67 = la := (up_k (by omega)).trans n67
      have s20 : m_up M 64 66 (dn + 1) 64 20 = 0 := (up_k (by omega)).trans n20
      generalize (waitS r lw 0).1 = r' at w5 v5 ⊢
      exact ok_ret ⟨fr_up (fr_gm p2) (by unfold frRm; omega), s20, Or.inr ⟨(r', pushU un r 1, dn + 1, la), rfl, rfl, ⟨w5, u5, s6, s7, v5, show 0 ≤ dn + 1 by omega, l0.1, l0.2⟩, Int.le_refl _⟩⟩
    · subst z1; subst w
      rw [if_neg (show ¬ r 6 ≤ 998 by omega), if_pos (show (-3 : Int) < 0 by omega)]
      exact ok_ret ⟨fr_rfl, hW.2.2.2.1, Or.inl ⟨rfl, rfl⟩⟩
  | some D =>
    rw [hdd] at cs
    obtain ⟨k0, ⟨sA, bA⟩, sB, bB⟩ := cs
    have ea : actO lw (r, un, dn, la) (some D) = giveO lw (r, un, dn, la) (D.1 (envO r dn la)) (D.2 (envO r dn la)) := rfl
    rw [if_neg (show ¬ c.1 = 1 by omega), ea, w_id (x := (8 * i : Int) + 1) (by omega) (by omega), w_id (x := (8 * i : Int) + 3) (by omega) (by omega), show (8 * i : Int) + 1 = ((8 * i + 1 : Nat) : Int) by omega, show (8 * i : Int) + 3 = ((8 * i + 3 : Nat) : Int) by omega]
    refine ok_bind (r_osum (X := X) hE' hV (by omega) hz sA h69 he) ?_
    rintro ⟨a, M⟩ ⟨f1, m20, R⟩
    dsimp only at f1 m20 R ⊢
    have stop : ∀ M : NN, Fr frRm N M → M 64 20 = 0 → giveO lw (r, un, dn, la) (D.1 (envO r dn la)) (D.2 (envO r dn la)) = none → Ok (f_X12_run_j173 X M) (fun o => Fr frRm N o.2 ∧ o.2 64 20 = 0 ∧ ((giveO lw (r, un, dn, la) (D.1 (envO r dn la)) (D.2 (envO r dn la)) = none ∧ o.1 = -3) ∨ ∃ s', giveO lw (r, un, dn, la) (D.1 (envO r dn la)) (D.2 (envO r dn la)) = some s' ∧ o.1 = 0 ∧ MSo B lw o.2 s' ∧ s'.2.2.1 ≤ dn + 1)) := fun M f m e => ok_ret ⟨f, m, Or.inl ⟨e, rfl⟩⟩
    rcases R with ⟨a', ha, rfl, m69⟩ | ⟨ha, m69⟩
    case inr =>
      rw [r_ooff m69, Option.bind_some]
      dsimp only
      rw [if_neg (show ¬ M 64 69 = 0 by rw [m69]; omega)]
      exact stop M (fr_sm f1) m20 (by rw [ha]; rfl)
    have sB' : SRo 32 M (8 * i + 3) z D.2 := sr_mono sB (Nat.le_refl _) (f1 102 _ (by unfold frSo; omega)) (f1 102 _ (by unfold frSo; omega)) (fun k _ => ⟨f1 75 k (by unfold frSo; omega), f1 76 k (by unfold frSo; omega)⟩)
    refine ok_bind (r_osum (X := X) (oe_fr hE' f1) hV (by omega) hz sB' m69 he) ?_
    rintro ⟨b, M2⟩ ⟨f2, m20', R⟩
    dsimp only at f2 m20' R ⊢
    have f02 : Fr frSo N M2 := fr_tr f1 f2
    rcases R with ⟨b', hb, rfl, m69'⟩ | ⟨hb, m69'⟩
    case inr =>
      rw [if_neg (show ¬ M2 64 69 = 0 by rw [m69']; omega)]
      exact stop M2 (fr_sm f02) m20' (by rw [ha, hb]; rfl)
    have S2 : MSo B lw M2 (r, un, dn, la) := ms_fr h (fr_mono f02 fun o k q => Or.inr q) m20'
    have g66 : ∀ k, M2 66 k = N 66 k := fun k => f02 66 k (by unfold frSo; omega)
    have e : giveO lw (r, un, dn, la) (D.1 (envO r dn la)) (D.2 (envO r dn la)) = if (0 ≤ a ∧ a < r 1) ∧ (0 ≤ b ∧ b < r 0) ∧ canB r lw a b = true then some (handS r lw a b, pushU un r 0, dn + 1, worthS r lw a (rg r a 0) b) else none := by rw [ha, hb]; rfl
    rw [if_pos m69', ref_in, Option.bind_some, g66, g66, hW.1 1 (by omega), hW.1 0 (by omega), wl_id (x := r 1 - 1) (by omega) (by omega), wl_id (x := r 0 - 1) (by omega) (by omega)]
    by_cases ya : 0 ≤ a ∧ a < r 1
    case neg =>
      rw [if_neg (show ¬ (0 ≤ a ∧ a ≤ r 1 - 1) by omega), i00]
      exact stop M2 (fr_sm f02) m20' (by rw [e, if_neg (fun y => ya y.1)])
    rw [if_pos (show 0 ≤ a ∧ a ≤ r 1 - 1 by omega), i10, ref_in, Option.bind_some]
    by_cases yb : 0 ≤ b ∧ b < r 0
    case neg =>
      rw [if_neg (show ¬ (0 ≤ b ∧ b ≤ r 0 - 1) by omega), i00]
      exact stop M2 (fr_sm f02) m20' (by rw [e, if_neg (fun y => yb y.2.1)])
    rw [if_pos (show 0 ≤ b ∧ b ≤ r 0 - 1 by omega), i10, w_id (x := a) (by omega) (by omega), w_id (x := b) (by omega) (by omega)]
    have hM2 : MW M2 (B + dn) r lw := S2.1
    refine ok_bind (ref_giveNow (X := X) hM2 S2.2.1 hU.1 (by omega) ya.1 ya.2 yb.1 yb.2) ?_
    rintro ⟨v, M3⟩ ⟨p1, p2⟩
    dsimp only at p1 p2 ⊢
    have f03 : Fr frRm N M3 := fr_tr (fr_sm f02) (fr_gm p2)
    rcases p1 with ⟨cn, w0, w, u⟩ | ⟨cn, w0, w, u⟩
    case inr =>
      subst w0
      rw [if_pos (show (-3 : Int) < 0 by omega)]
      exact ok_ret ⟨f03, w.2.2.2.1, Or.inl ⟨by rw [e, if_neg (fun y => cn (canB_iff.1 y.2.2))], rfl⟩⟩
    subst w0
    have hwb := worthS_b r lw a (rg r a 0) b
    have hn : ∀ j : Nat, j < 9 → handS r lw a b j = r j := fun j hj => hand_ne hV ya.1 ya.2 yb.1 hj
    rw [if_neg (show ¬ worthS r lw a (rg r a 0) b < 0 by omega)]
    unfold f_X12_run_j201
    have n66 : M3 64 66 = dn := by rw [p2 64 66 (by unfold frG frN; omega)]; exact S2.2.2.1
    rw [up_k (by omega), n66, w_id (by omega) (by omega)]
    dsimp only
    obtain ⟨P, hP⟩ : ∃ P, P = m_up (m_up M3 64 67 (worthS r lw a (rg r a 0) b)) 64 66 (dn + 1) := ⟨_, rfl⟩
    have fP : Fr (fun o k => o = 64 ∧ (k = 66 ∨ k = 67)) M3 P := by rw [hP]; exact fr_up (fr_up fr_rfl (by omega)) (by omega)
    have zP : ∀ o, o ≠ 64 → P o = M3 o := fun o q => fr_of fP o fun k => by omega
    rw [← hP]
    have w5 : MW P (B + (dn + 1)) (handS r lw a b) lw := by
      rw [show B + (dn + 1) = B + dn + 1 by omega]
      exact mw_eq w (zP _ (by omega)) (fP 64 20 (by omega))
    have u5 : MUn P (pushU un r 0) := by
      have : (pushU un r 0).1 ≤ 16 := by unfold pushU; have := hU.1; split <;> (dsimp only; omega)
      exact mun_eq this u (fP 64 8 (by omega)) (fun k _ => fP 69 k (by omega)) (zP _ (by omega))
    have v5 : UV (B + (dn + 1)) (handS r lw a b) (pushU un r 0) := uv_push hU hV (by omega) (by omega) (hn 0 (by omega)) (hn 1 (by omega)) (hn 7 (by omega)) (hn 8 (by omega))
    have s6 : P 64 66 = dn + 1 := by rw [hP, up_s]
    have s7 : P 64 67 = worthS r lw a (rg r a 0) b := by rw [hP, up_k (by omega), up_s]
    have s20 : P 64 20 = 0 := (fP 64 20 (by omega)).trans w.2.2.2.1
    exact ok_ret ⟨fr_tr f03 (fr_mono fP fun o k q => by unfold frRm; omega), s20, Or.inr ⟨(handS r lw a b, pushU un r 0, dn + 1, worthS r lw a (rg r a 0) b), by rw [e, if_pos ⟨ya, yb, canB_iff.2 cn⟩], rfl, ⟨w5, u5, s6, s7, v5, show 0 ≤ dn + 1 by omega, show -1 ≤ worthS r lw a (rg r a 0) b by omega, show worthS r lw a (rg r a 0) b ≤ 999 by omega⟩, Int.le_refl _⟩⟩
theorem r_step {s : OS} {c : OCl} {z i : Nat} (hi : i < 12) (hz : z ≤ 400) (hc : ROC 32 N i c z) (hcd : ∀ k, k < z → 0 ≤ N 75 k ∧ N 75 k ≤ 30) (hB : B + 300 ≤ 1000000) (hd : s.2.2.1 ≤ 280) (h : MSo B lw N s) : Ok (f_X12_run X N (8 * i : Int)) (fun o => Fr frRm N o.2 ∧ o.2 64 20 = 0 ∧ ((stepO lw c s = none ∧ o.1 = -3) ∨ ∃ s', stepO lw c s = some s' ∧ o.1 = 0 ∧ MSo B lw o.2 s' ∧ s'.2.2.1 ≤ s.2.2.1 + 1)) := by
  obtain ⟨r, un, dn, la⟩ := s
  have hW : MW N (B + dn) r lw := h.1
  have hV : Vr (B + dn) r := hW.2.1
  have d0 : 0 ≤ dn := h.2.2.2.2.2.1
  have l0 : -1 ≤ la ∧ la ≤ 999 := h.2.2.2.2.2.2
  have hd' : dn ≤ 280 := hd
  have he : EnvOK (envO r dn la) := envO_ok hV ⟨d0, by omega⟩ l0
  have es : stepO lw c (r, un, dn, la) = if soB c.2.2.1 (envO r dn la) = true then actO lw (r, un, dn, la) c.2.2.2 else some (r, un, dn, la) := rfl
  have x1 : m_up N 82 1 (r 6) 66 1 = r 1 := by rw [up_o (by omega)]; exact hW.1 1 (by omega)
  have x2 : m_up (m_up N 82 1 (r 6)) 82 2 (r 1) 64 66 = dn := by rw [up_o (by omega), up_o (by omega)]; exact h.2.2.1
  have x3 : m_up (m_up (m_up N 82 1 (r 6)) 82 2 (r 1)) 82 3 dn 64 67 = la := by rw [up_o (by omega), up_o (by omega), up_o (by omega)]; exact h.2.2.2.1
  obtain ⟨N6, hN⟩ : ∃ N6, N6 = m_up (m_up (m_up (m_up (m_up N 82 1 (r 6)) 82 2 (r 1)) 82 3 dn) 82 4 la) 64 69 0 := ⟨_, rfl⟩
  have f6 : Fr (fun o k => o = 82 ∨ (o = 64 ∧ k = 69)) N N6 := by rw [hN]; exact fr_up (fr_up (fr_up (fr_up (fr_up fr_rfl (by omega)) (by omega)) (by omega)) (by omega)) (by omega)
  unfold f_X12_run
  rw [ref_year hW.1, Option.bind_some]
  dsimp only
  rw [x1, x2, x3, ← hN, w_id (x := (8 * i : Int) + 5) (by omega) (by omega), w_id (x := (8 * i : Int) + 6) (by omega) (by omega), if_pos (by omega), if_pos (by omega), show ((8 * i : Int) + 5).toNat = 8 * i + 5 by omega, show ((8 * i : Int) + 6).toNat = 8 * i + 5 + 1 by omega]
  have n69 : N6 64 69 = 0 := by rw [hN, up_s]
  have n20 : N6 64 20 = 0 := (f6 64 20 (by omega)).trans hW.2.2.2.1
  have S6 : MSo B lw N6 (r, un, dn, la) := ms_fr h (fr_mono f6 fun o k q => by unfold frSo; omega) n20
  have E6 : OE1 N6 r dn la z := ⟨fun j hj => (f6 66 j (by omega)).trans (hW.1 j hj), ⟨by rw [hN, up_o (by omega), up_k (by omega), up_k (by omega), up_k (by omega), up_s], by rw [hN, up_o (by omega), up_k (by omega), up_k (by omega), up_s], by rw [hN, up_o (by omega), up_k (by omega), up_s], by rw [hN, up_o (by omega), up_s]⟩, fun k hk => by rw [f6 75 k (by omega)]; exact hcd k hk⟩
  have c6 : ROC 32 N6 i c z := roc_mono hc (Nat.le_refl _) (fun k _ => f6 102 k (by omega)) (fun k _ => ⟨f6 75 k (by omega), f6 76 k (by omega)⟩)
  have fm6 : Fr frRm N N6 := fr_mono f6 fun o k q => by unfold frRm; omega
  obtain ⟨_, _, _, _, cd, _⟩ := id c6
  cases hcc : c.2.2.1 with
  | none =>
    rw [hcc] at cd es
    have so : soB none (envO r dn la) = true := rfl
    rw [if_pos so] at es
    have cd' : N6 102 (8 * i + 5) = N6 102 (8 * i + 5 + 1) := cd
    rw [if_neg (by omega), es]
    refine ok_mono (r_act (X := X) hi hz c6 hB hd S6 E6 n69) ?_
    rintro o ⟨a1, a2, a3⟩
    exact ⟨fr_tr fm6 a1, a2, a3⟩
  | some D =>
    rw [hcc] at cd es
    obtain ⟨sD, oD⟩ := cd
    obtain ⟨s0, s1, e0, e1, l1, hS⟩ := id sD
    have lt := hS.1
    rw [if_pos (by rw [e0, e1]; omega), show (8 * i : Int) + 5 = ((8 * i + 5 : Nat) : Int) by omega]
    refine ok_bind (r_osum (X := X) E6 hV (by omega) hz sD n69 he) ?_
    rintro ⟨v, M⟩ ⟨f1, m20, R⟩
    dsimp only at f1 m20 R ⊢
    have fM : Fr frRm N M := fr_tr fm6 (fr_sm f1)
    have SM : MSo B lw M (r, un, dn, la) := ms_fr S6 (fr_mono f1 fun o k q => Or.inr q) m20
    have no : ¬ D (envO r dn la) = some 1 → Ok (f_X12_run_j92 X M) (fun o => Fr frRm N o.2 ∧ o.2 64 20 = 0 ∧ ((stepO lw c (r, un, dn, la) = none ∧ o.1 = -3) ∨ ∃ s', stepO lw c (r, un, dn, la) = some s' ∧ o.1 = 0 ∧ MSo B lw o.2 s' ∧ s'.2.2.1 ≤ dn + 1)) := fun y => by
      have so : ¬ soB (some D) (envO r dn la) = true := fun q => y (of_decide_eq_true q)
      rw [if_neg so] at es
      exact ok_ret ⟨fM, m20, Or.inr ⟨_, es, rfl, SM, by dsimp only; omega⟩⟩
    rcases R with ⟨v', hv, rfl, m69⟩ | ⟨hv, m69⟩
    · rw [if_pos m69]
      have v01 := oD _ he v hv
      by_cases v0 : v = 0
      · rw [if_pos (lcmp_eq.2 v0)]
        exact no (by rw [hv, v0]; intro y; exact absurd (Option.some.inj y) (by omega))
      · rw [if_neg (fun y => v0 (lcmp_eq.1 y))]
        have so : soB (some D) (envO r dn la) = true := decide_eq_true (by rw [hv]; congr 1; omega)
        rw [if_pos so] at es
        rw [es]
        have cM : ROC 32 M i c z := roc_mono c6 (Nat.le_refl _) (fun k _ => f1 102 k (by unfold frSo; omega)) (fun k _ => ⟨f1 75 k (by unfold frSo; omega), f1 76 k (by unfold frSo; omega)⟩)
        refine ok_mono (r_act (X := X) hi hz cM hB hd SM (oe_fr E6 f1) m69) ?_
        rintro o ⟨a1, a2, a3⟩
        exact ⟨fr_tr fM a1, a2, a3⟩
    · rw [if_neg (show ¬ M 64 69 = 0 by rw [m69]; omega)]
      exact no (by rw [hv]; intro y; cases y)
end OM
