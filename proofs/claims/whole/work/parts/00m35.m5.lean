-- X12_at
theorem t_X12_at_j25 {d n0 s0 nF sF : Nat} {X : MX} {Ω : Nat → MS → Prop} {N : NN} (hsk : m_Sk X) (hd : 8 ≤ d) (hG : m_G d yX12_at.cls yX12_at.name cX12_at 3 n0 s0 nF sF Ω) {out : (Int × NN)} (hE : m_Gd d yX12_at cX12_at 3 (some .int) X (some (.inl out.1)) out.2 X Ω) (hF : f_X12_at_j25 X N = some out) : Ω 25 ([none, none, none], [], N, X) := by
  unfold f_X12_at_j25 at hF
  refine s_iconst hG dX12_at_25 ⟨by decide, by decide⟩ ?_
  cases hF
  exact s_iret hE dX12_at_26 rfl
theorem t_X12_at_j56 {d n0 s0 nF sF : Nat} {X : MX} {Ω : Nat → MS → Prop} {N : NN} {z0 : Int} (hsk : m_Sk X) (hd : 8 ≤ d) (hG : m_G d yX12_at.cls yX12_at.name cX12_at 3 n0 s0 nF sF Ω) {out : (Int × NN)} (hE : m_Gd d yX12_at cX12_at 3 (some .int) X (some (.inl out.1)) out.2 X Ω) (hF : f_X12_at_j56 X N z0 = some out) : Ω 56 ([none, none, none], [(.inl z0)], N, X) := by
  unfold f_X12_at_j56 at hF
  cases hF
  exact s_iret hE dX12_at_56 rfl
theorem t_X12_at {d : Nat} {X : MX} {N : NN} {a1 : Int} {a2 : Int} {out : (Int × NN)} (hsk : m_Sk X) (hd : 8 ≤ d) (hF : f_X12_at X N a1 a2 = some out) : m_Call d yX12_at cX12_at 3 (some .int) [(.inr (.inr 64)), (.inl a1), (.inl a2)] N X (some (.inl out.1)) out.2 X := by
  refine m_mk (ls0 := [some (.inr (.inr 64)), some (.inl a1), some (.inl a2)]) (by decide) rfl (Nat.le_of_ble_eq_true rfl) (Nat.le_refl _) (Nat.le_refl _) (fun Ω hE => ?_)
  have hG := hE.G
  unfold f_X12_at at hF
  refine s_aload_n hG dX12_at_0 rfl ?_
  refine s_iconst hG dX12_at_1 ⟨by decide, by decide⟩ ?_
  refine s_puti hG dX12_at_2 fl_RX12_166 (fun h => by cases h) (sk_k hsk 64 rfl) rfl ?_
  refine s_aload_n hG dX12_at_5 rfl ?_
  refine s_iload_n hG dX12_at_6 rfl ?_
  obtain ⟨o2, ho2, hF⟩ := bd_some hF
  refine s_callV (d' := d - 1) (ci := 12) (args := [.inl a1]) hG (by omega) dX12_at_7 cv_RX12_225 cw_X12_isGood rfl rfl (sk_k hsk 64 rfl) (Nat.le_of_ble_eq_true rfl) rfl (t_X12_isGood hsk (by omega) ho2) ?_
  refine s_if_eq hG 25 dX12_at_10 (by decide) (fun c10 => ?_) (fun c10 => ?_)
  · replace hF := Eq.trans (if_pos c10).symm hF
    refine m_weak (ls1 := [none, none, none]) hG trivial ?_
    exact t_X12_at_j25 hsk hd hG hE hF
  · replace hF := Eq.trans (if_neg c10).symm hF
    refine s_iload_n hG dX12_at_13 rfl ?_
    refine s_i2l hG dX12_at_14 ?_
    refine s_lconst (v := 0) hG dX12_at_15 rfl ⟨by decide, by decide⟩ ?_
    refine s_ldc2 hG dX12_at_16 kc_RX12_228 ⟨by decide, by decide⟩ ?_
    obtain ⟨o3, ho3, hF⟩ := bd_some hF
    refine s_callS (d' := d - 1) (args := [.inr (.inl a2), .inr (.inl 0), .inr (.inl 5)]) hG (by omega) dX12_at_19 cs_RX12_179 cw_X12_in rfl (Nat.le_of_ble_eq_true rfl) rfl (t_X12_in hsk (by omega) ho3) ?_
    refine s_if_ne hG 27 dX12_at_22 (by decide) (fun c9 => ?_) (fun c9 => ?_)
    · replace hF := Eq.trans (if_pos c9).symm hF
      refine m_weak (ls1 := [none, none, none]) hG trivial ?_
      exact t_X12_at_j25 hsk hd hG hE hF
    · replace hF := Eq.trans (if_neg c9).symm hF
      refine s_iload_n hG dX12_at_27 rfl ?_
      refine s_iconst hG dX12_at_28 ⟨by decide, by decide⟩ ?_
      refine s_icmp_ge hG 41 dX12_at_29 (by decide) (fun c8 => ?_) (fun c8 => ?_)
      · replace hF := Eq.trans (if_pos c8).symm hF
        refine s_aload_n hG dX12_at_32 rfl ?_
        refine s_iload_n hG dX12_at_33 rfl ?_
        refine s_iload_n hG dX12_at_34 rfl ?_
        obtain ⟨o4, ho4, hF⟩ := bd_some hF
        refine s_callV (d' := d - 1) (ci := 12) (args := [.inl a1, .inl a2]) hG (by omega) dX12_at_35 cv_RX12_190 cw_X12_ofGood rfl rfl (sk_k hsk 64 rfl) (Nat.le_of_ble_eq_true rfl) rfl (t_X12_ofGood hsk (by omega) ho4) ?_
        refine s_goto hG 56 dX12_at_38 (by decide) ?_
        refine m_weak (ls1 := [none, none, none]) hG trivial ?_
        exact t_X12_at_j56 hsk hd hG hE hF
      · replace hF := Eq.trans (if_neg c8).symm hF
        refine s_aload_n hG dX12_at_41 rfl ?_
        refine s_iload_n hG dX12_at_42 rfl ?_
        refine s_aload_n hG dX12_at_43 rfl ?_
        refine s_iload_n hG dX12_at_44 rfl ?_
        refine s_iconst hG dX12_at_45 ⟨by decide, by decide⟩ ?_
        obtain ⟨o5, ho5, hF⟩ := bd_some hF
        refine s_callV (d' := d - 1) (ci := 12) (args := [.inl a1, .inl 0]) hG (by omega) dX12_at_46 cv_RX12_190 cw_X12_ofGood rfl rfl (sk_k hsk 64 rfl) (Nat.le_of_ble_eq_true rfl) rfl (t_X12_ofGood hsk (by omega) ho5) ?_
        refine s_aload_n hG dX12_at_49 rfl ?_
        obtain ⟨o6, ho6, hF⟩ := bd_some hF
        refine s_callV (d' := d - 1) (ci := 12) (args := []) hG (by omega) dX12_at_50 cv_RX12_210 cw_X12_year rfl rfl (sk_k hsk 64 rfl) (Nat.le_of_ble_eq_true rfl) rfl (t_X12_year hsk (by omega) ho6) ?_
        obtain ⟨o7, ho7, hF⟩ := bd_some hF
        refine s_callV (d' := d - 1) (ci := 12) (args := [.inl a1, .inl o5, .inl o6]) hG (by omega) dX12_at_53 cv_RX12_194 cw_X12_costOf rfl rfl (sk_k hsk 64 rfl) (Nat.le_of_ble_eq_true rfl) rfl (t_X12_costOf hsk (by omega) ho7) ?_
        refine m_weak (ls1 := [none, none, none]) hG trivial ?_
        exact t_X12_at_j56 hsk hd hG hE hF
-- X12_tell
theorem t_X12_tell_j28 {d n0 s0 nF sF : Nat} {X : MX} {Ω : Nat → MS → Prop} {N : NN} {a1 : Int} (hsk : m_Sk X) (hd : 1 ≤ d) (hG : m_G d yX12_tell.cls yX12_tell.name cX12_tell 2 n0 s0 nF sF Ω) {out : (Int × NN)} (hE : m_Gd d yX12_tell cX12_tell 2 (some .int) X (some (.inl out.1)) out.2 X Ω) (hF : f_X12_tell_j28 X N a1 = some out) : Ω 28 ([none, some (.inl a1)], [], N, X) := by
  unfold f_X12_tell_j28 at hF
  refine s_iload_n hG dX12_tell_28 rfl ?_
  cases hF
  exact s_iret hE dX12_tell_29 rfl
theorem t_X12_tell_j10 {d n0 s0 nF sF : Nat} {X : MX} {Ω : Nat → MS → Prop} {N : NN} {a1 : Int} {z1 : Int} (hsk : m_Sk X) (hd : 1 ≤ d) (hG : m_G d yX12_tell.cls yX12_tell.name cX12_tell 2 n0 s0 nF sF Ω) {out : (Int × NN)} (hE : m_Gd d yX12_tell cX12_tell 2 (some .int) X (some (.inl out.1)) out.2 X Ω) (hF : f_X12_tell_j10 X N a1 z1 = some out) : Ω 10 ([some (.inr (.inr 64)), some (.inl a1)], [(.inl z1), (.inr (.inr 64))], N, X) := by
  unfold f_X12_tell_j10 at hF
  refine s_puti hG dX12_tell_10 fl_RX12_169 (fun h => by cases h) (sk_k hsk 64 rfl) rfl ?_
  refine s_iload_n hG dX12_tell_13 rfl ?_
  refine s_if_ge hG 28 dX12_tell_14 (by decide) (fun c6 => ?_) (fun c6 => ?_)
  · replace hF := Eq.trans (if_pos c6).symm hF
    refine s_aload_n hG dX12_tell_17 rfl ?_
    refine s_getr (r := 65) hG dX12_tell_18 fl_RX12_7 (sk_k hsk 64 rfl) rfl (sk_R hsk 64 2 rfl) ?_
    refine s_iload_n hG dX12_tell_21 rfl ?_
    refine s_ineg hG dX12_tell_22 ?_
    refine s_dup2 hG dX12_tell_23 rfl rfl ?_
    obtain ⟨g3, hF⟩ := gd_some hF
    refine s_ialdj (j := (m_w (-a1)).toNat) hG dX12_tell_24 (sk_K hsk 65 rfl) g3 rfl ?_
    refine s_iconst hG dX12_tell_25 ⟨by decide, by decide⟩ ?_
    refine s_iadd hG dX12_tell_26 ?_
    obtain ⟨g4, hF⟩ := gd_some hF
    refine s_iastj (j := (m_w (-a1)).toNat) hG dX12_tell_27 (sk_K hsk 65 rfl) g4 rfl ?_
    refine m_weak (ls1 := [none, some (.inl a1)]) hG ⟨rfl, trivial⟩ ?_
    exact t_X12_tell_j28 hsk hd hG hE hF
  · replace hF := Eq.trans (if_neg c6).symm hF
    refine m_weak (ls1 := [none, some (.inl a1)]) hG ⟨rfl, trivial⟩ ?_
    exact t_X12_tell_j28 hsk hd hG hE hF
theorem t_X12_tell {d : Nat} {X : MX} {N : NN} {a1 : Int} {out : (Int × NN)} (hsk : m_Sk X) (hd : 1 ≤ d) (hF : f_X12_tell X N a1 = some out) : m_Call d yX12_tell cX12_tell 2 (some .int) [(.inr (.inr 64)), (.inl a1)] N X (some (.inl out.1)) out.2 X := by
  refine m_mk (ls0 := [some (.inr (.inr 64)), some (.inl a1)]) (by decide) rfl (Nat.le_of_ble_eq_true rfl) (Nat.le_refl _) (Nat.le_refl _) (fun Ω hE => ?_)
  have hG := hE.G
  unfold f_X12_tell at hF
  refine s_aload_n hG dX12_tell_0 rfl ?_
  refine s_iload_n hG dX12_tell_1 rfl ?_
  refine s_if_ge hG 9 dX12_tell_2 (by decide) (fun c1 => ?_) (fun c1 => ?_)
  · replace hF := Eq.trans (if_pos c1).symm hF
    refine s_iload_n hG dX12_tell_5 rfl ?_
    refine s_goto hG 10 dX12_tell_6 (by decide) ?_
    exact t_X12_tell_j10 hsk hd hG hE hF
  · replace hF := Eq.trans (if_neg c1).symm hF
    refine s_iconst hG dX12_tell_9 ⟨by decide, by decide⟩ ?_
    exact t_X12_tell_j10 hsk hd hG hE hF
-- X12_keepRow
theorem t_X12_keepRow_b2 {d n0 s0 nF sF : Nat} {X : MX} {Ω : Nat → MS → Prop} {N : NN} {a1 : Int} {a2 : Int} (hsk : m_Sk X) (hd : 1 ≤ d) (hG : m_G d yX12_keepRow.cls yX12_keepRow.name cX12_keepRow 3 n0 s0 nF sF Ω) {out : ((NN × Int × Int) ⊕ NN)} (hK0 : ∀ s' : (NN × Int × Int), out = .inl s' → Ω 2 ([some (.inr (.inr 64)), some (.inl (s'.2.1)), some (.inl (s'.2.2))], [], s'.1, X)) (hK1 : ∀ t : NN, out = .inr t → Ω 33 ([none, none, none], [], t, X)) (hF : b_X12_keepRow_2 X N a1 a2 = some out) : Ω 2 ([some (.inr (.inr 64)), some (.inl a1), some (.inl a2)], [], N, X) := by
  unfold b_X12_keepRow_2 at hF
  refine s_iload_n hG dX12_keepRow_2 rfl ?_
  refine s_sipush hG dX12_keepRow_3 sp_270 ⟨by decide, by decide⟩ ?_
  refine s_icmp_ge hG 33 dX12_keepRow_6 (by decide) (fun c4 => ?_) (fun c4 => ?_)
  · replace hF := Eq.trans (if_pos c4).symm hF
    refine s_aload_n hG dX12_keepRow_9 rfl ?_
    refine s_getr (r := 69) hG dX12_keepRow_10 fl_RX12_23 (sk_k hsk 64 rfl) rfl (sk_R hsk 64 6 rfl) ?_
    refine s_sipush hG dX12_keepRow_13 sp_270 ⟨by decide, by decide⟩ ?_
    refine s_iload_n hG dX12_keepRow_16 rfl ?_
    refine s_imul hG dX12_keepRow_17 ?_
    refine s_iload_n hG dX12_keepRow_18 rfl ?_
    refine s_iadd hG dX12_keepRow_19 ?_
    refine s_aload_n hG dX12_keepRow_20 rfl ?_
    refine s_getr (r := 66) hG dX12_keepRow_21 fl_RX12_13 (sk_k hsk 64 rfl) rfl (sk_R hsk 64 3 rfl) ?_
    refine s_iload_n hG dX12_keepRow_24 rfl ?_
    obtain ⟨g1, hF⟩ := gd_some hF
    refine s_ialdj (j := a2.toNat) hG dX12_keepRow_25 (sk_K hsk 66 rfl) g1 rfl ?_
    obtain ⟨g2, hF⟩ := gd_some hF
    refine s_iastj (j := (m_w ((m_w (270 * a1)) + a2)).toNat) hG dX12_keepRow_26 (sk_K hsk 69 rfl) g2 rfl ?_
    refine s_iinc hG dX12_keepRow_27 (by decide) rfl rfl ?_
    refine s_goto hG 2 dX12_keepRow_30 (by decide) ?_
    cases hF
    exact hK0 _ rfl
  · replace hF := Eq.trans (if_neg c4).symm hF
    cases hF
    refine m_weak (ls1 := [none, none, none]) hG trivial ?_
    exact hK1 _ rfl
theorem t_X12_keepRow_lp2 {d n0 s0 nF sF : Nat} {X : MX} {Ω : Nat → MS → Prop} {N : NN} {a1 : Int} {a2 : Int} (hsk : m_Sk X) (hd : 1 ≤ d) (hG : m_G d yX12_keepRow.cls yX12_keepRow.name cX12_keepRow 3 n0 s0 nF sF Ω) {t : NN} (hK1 : Ω 33 ([none, none, none], [], t, X)) (hl : lp (fun s => b_X12_keepRow_2 X s.1 s.2.1 s.2.2) (N, a1, a2) = some t) : Ω 2 ([some (.inr (.inr 64)), some (.inl a1), some (.inl a2)], [], N, X) := by
  refine lp_ok (P := fun s => Ω 2 ([some (.inr (.inr 64)), some (.inl s.2.1), some (.inl s.2.2)], [], s.1, X)) (K := fun t => Ω 33 ([none, none, none], [], t, X)) (fun s out hF hK0 hK1 => ?_) hl hK1
  exact t_X12_keepRow_b2 hsk hd hG (out := out) (fun s' e => hK0 s' e) (fun t' e => hK1 t' e) hF
theorem t_X12_keepRow {d : Nat} {X : MX} {N : NN} {a1 : Int} {out : NN} (hsk : m_Sk X) (hd : 1 ≤ d) (hF : f_X12_keepRow X N a1 = some out) : m_Call d yX12_keepRow cX12_keepRow 3 none [(.inr (.inr 64)), (.inl a1)] N X none out X := by
  refine m_mk (ls0 := [some (.inr (.inr 64)), some (.inl a1), none]) (by decide) rfl (Nat.le_of_ble_eq_true rfl) (Nat.le_refl _) (Nat.le_refl _) (fun Ω hE => ?_)
  have hG := hE.G
  unfold f_X12_keepRow at hF
  refine s_iconst hG dX12_keepRow_0 ⟨by decide, by decide⟩ ?_
  refine s_istore_n hG dX12_keepRow_1 (by decide) rfl ?_
  obtain ⟨o5, hlo5, hF⟩ := bd_some hF
  refine t_X12_keepRow_lp2 hsk hd hG ?_ hlo5
  cases hF
  exact s_vret hE dX12_keepRow_33 rfl
-- X12_remember
theorem t_X12_remember_b11 {d n0 s0 nF sF : Nat} {X : MX} {Ω : Nat → MS → Prop} {N : NN} {a1 : Int} {a2 : Int} (hsk : m_Sk X) (hd : 2 ≤ d) (hG : m_G d yX12_remember.cls yX12_remember.name cX12_remember 3 n0 s0 nF sF Ω) {out : ((NN × Int × Int) ⊕ (NN × Int))} (hK0 : ∀ s' : (NN × Int × Int), out = .inl s' → Ω 11 ([some (.inr (.inr 64)), some (.inl (s'.2.1)), some (.inl (s'.2.2))], [], s'.1, X)) (hK1 : ∀ t : (NN × Int), out = .inr t → Ω 40 ([some (.inr (.inr 64)), some (.inl t.2), none], [], t.1, X)) (hF : b_X12_remember_11 X N a1 a2 = some out) : Ω 11 ([some (.inr (.inr 64)), some (.inl a1), some (.inl a2)], [], N, X) := by
  unfold b_X12_remember_11 at hF
  refine s_iload_n hG dX12_remember_11 rfl ?_
  refine s_sipush hG dX12_remember_12 sp_4050 ⟨by decide, by decide⟩ ?_
  refine s_icmp_ge hG 40 dX12_remember_15 (by decide) (fun c4 => ?_) (fun c4 => ?_)
  · replace hF := Eq.trans (if_pos c4).symm hF
    refine s_aload_n hG dX12_remember_18 rfl ?_
    refine s_getr (r := 69) hG dX12_remember_19 fl_RX12_23 (sk_k hsk 64 rfl) rfl (sk_R hsk 64 6 rfl) ?_
    refine s_iload_n hG dX12_remember_22 rfl ?_
    refine s_aload_n hG dX12_remember_23 rfl ?_
    refine s_getr (r := 69) hG dX12_remember_24 fl_RX12_23 (sk_k hsk 64 rfl) rfl (sk_R hsk 64 6 rfl) ?_
    refine s_iload_n hG dX12_remember_27 rfl ?_
    refine s_sipush hG dX12_remember_28 sp_270 ⟨by decide, by decide⟩ ?_
    refine s_iadd hG dX12_remember_31 ?_
    obtain ⟨g1, hF⟩ := gd_some hF
    refine s_ialdj (j := (m_w (a2 + 270)).toNat) hG dX12_remember_32 (sk_K hsk 69 rfl) g1 rfl ?_
    obtain ⟨g2, hF⟩ := gd_some hF
    refine s_iastj (j := a2.toNat) hG dX12_remember_33 (sk_K hsk 69 rfl) g2 rfl ?_
    refine s_iinc hG dX12_remember_34 (by decide) rfl rfl ?_
    refine s_goto hG 11 dX12_remember_37 (by decide) ?_
    cases hF
    exact hK0 _ rfl
  · replace hF := Eq.trans (if_neg c4).symm hF
    cases hF
    refine m_weak (ls1 := [some (.inr (.inr 64)), some (.inl a1), none]) hG ⟨rfl, ⟨rfl, trivial⟩⟩ ?_
    exact hK1 _ rfl
theorem t_X12_remember_lp11 {d n0 s0 nF sF : Nat} {X : MX} {Ω : Nat → MS → Prop} {N : NN} {a1 : Int} {a2 : Int} (hsk : m_Sk X) (hd : 2 ≤ d) (hG : m_G d yX12_remember.cls yX12_remember.name cX12_remember 3 n0 s0 nF sF Ω) {t : (NN × Int)} (hK1 : Ω 40 ([some (.inr (.inr 64)), some (.inl t.2), none], [], t.1, X)) (hl : lp (fun s => b_X12_remember_11 X s.1 s.2.1 s.2.2) (N, a1, a2) = some t) : Ω 11 ([some (.inr (.inr 64)), some (.inl a1), some (.inl a2)], [], N, X) := by
  refine lp_ok (P := fun s => Ω 11 ([some (.inr (.inr 64)), some (.inl s.2.1), some (.inl s.2.2)], [], s.1, X)) (K := fun t => Ω 40 ([some (.inr (.inr 64)), some (.inl t.2), none], [], t.1, X)) (fun s out hF hK0 hK1 => ?_) hl hK1
  exact t_X12_remember_b11 hsk hd hG (out := out) (fun s' e => hK0 s' e) (fun t' e => hK1 t' e) hF
theorem t_X12_remember_b42 {d n0 s0 nF sF : Nat} {X : MX} {Ω : Nat → MS → Prop} {N : NN} {a1 : Int} {a2 : Int} (hsk : m_Sk X) (hd : 2 ≤ d) (hG : m_G d yX12_remember.cls yX12_remember.name cX12_remember 3 n0 s0 nF sF Ω) {out : ((NN × Int × Int) ⊕ (NN × Int))} (hK0 : ∀ s' : (NN × Int × Int), out = .inl s' → Ω 42 ([some (.inr (.inr 64)), some (.inl (s'.2.1)), some (.inl (s'.2.2))], [], s'.1, X)) (hK1 : ∀ t : (NN × Int), out = .inr t → Ω 68 ([some (.inr (.inr 64)), some (.inl t.2), none], [], t.1, X)) (hF : b_X12_remember_42 X N a1 a2 = some out) : Ω 42 ([some (.inr (.inr 64)), some (.inl a1), some (.inl a2)], [], N, X) := by
  unfold b_X12_remember_42 at hF
  refine s_iload_n hG dX12_remember_42 rfl ?_
  refine s_bipush hG dX12_remember_43 bp_15 ⟨by decide, by decide⟩ ?_
  refine s_icmp_ge hG 68 dX12_remember_45 (by decide) (fun c9 => ?_) (fun c9 => ?_)
  · replace hF := Eq.trans (if_pos c9).symm hF
    refine s_aload_n hG dX12_remember_48 rfl ?_
    refine s_getr (r := 70) hG dX12_remember_49 fl_RX12_26 (sk_k hsk 64 rfl) rfl (sk_R hsk 64 7 rfl) ?_
    refine s_iload_n hG dX12_remember_52 rfl ?_
    refine s_aload_n hG dX12_remember_53 rfl ?_
    refine s_getr (r := 70) hG dX12_remember_54 fl_RX12_26 (sk_k hsk 64 rfl) rfl (sk_R hsk 64 7 rfl) ?_
    refine s_iload_n hG dX12_remember_57 rfl ?_
    refine s_iconst hG dX12_remember_58 ⟨by decide, by decide⟩ ?_
    refine s_iadd hG dX12_remember_59 ?_
    obtain ⟨g6, hF⟩ := gd_some hF
    refine s_ialdj (j := (m_w (a2 + 1)).toNat) hG dX12_remember_60 (sk_K hsk 70 rfl) g6 rfl ?_
    obtain ⟨g7, hF⟩ := gd_some hF
    refine s_iastj (j := a2.toNat) hG dX12_remember_61 (sk_K hsk 70 rfl) g7 rfl ?_
    refine s_iinc hG dX12_remember_62 (by decide) rfl rfl ?_
    refine s_goto hG 42 dX12_remember_65 (by decide) ?_
    cases hF
    exact hK0 _ rfl
  · replace hF := Eq.trans (if_neg c9).symm hF
    cases hF
    refine m_weak (ls1 := [some (.inr (.inr 64)), some (.inl a1), none]) hG ⟨rfl, ⟨rfl, trivial⟩⟩ ?_
    exact hK1 _ rfl
theorem t_X12_remember_lp42 {d n0 s0 nF sF : Nat} {X : MX} {Ω : Nat → MS → Prop} {N : NN} {a1 : Int} {a2 : Int} (hsk : m_Sk X) (hd : 2 ≤ d) (hG : m_G d yX12_remember.cls yX12_remember.name cX12_remember 3 n0 s0 nF sF Ω) {t : (NN × Int)} (hK1 : Ω 68 ([some (.inr (.inr 64)), some (.inl t.2), none], [], t.1, X)) (hl : lp (fun s => b_X12_remember_42 X s.1 s.2.1 s.2.2) (N, a1, a2) = some t) : Ω 42 ([some (.inr (.inr 64)), some (.inl a1), some (.inl a2)], [], N, X) := by
  refine lp_ok (P := fun s => Ω 42 ([some (.inr (.inr 64)), some (.inl s.2.1), some (.inl s.2.2)], [], s.1, X)) (K := fun t => Ω 68 ([some (.inr (.inr 64)), some (.inl t.2), none], [], t.1, X)) (fun s out hF hK0 hK1 => ?_) hl hK1
  exact t_X12_remember_b42 hsk hd hG (out := out) (fun s' e => hK0 s' e) (fun t' e => hK1 t' e) hF
theorem t_X12_remember_j78 {d n0 s0 nF sF : Nat} {X : MX} {Ω : Nat → MS → Prop} {N : NN} {a1 : Int} (hsk : m_Sk X) (hd : 2 ≤ d) (hG : m_G d yX12_remember.cls yX12_remember.name cX12_remember 3 n0 s0 nF sF Ω) {out : NN} (hE : m_Gd d yX12_remember cX12_remember 3 none X none out X Ω) (hF : f_X12_remember_j78 X N a1 = some out) : Ω 78 ([some (.inr (.inr 64)), some (.inl a1), none], [], N, X) := by
  unfold f_X12_remember_j78 at hF
  refine s_aload_n hG dX12_remember_78 rfl ?_
  refine s_aload_n hG dX12_remember_79 rfl ?_
  refine s_geti hG dX12_remember_80 fl_RX12_172 (sk_k hsk 64 rfl) rfl ?_
  obtain ⟨o13, ho13, hF⟩ := bd_some hF
  refine s_callV (d' := d - 1) (ci := 12) (args := [.inl (N 64 8)]) hG (by omega) dX12_remember_83 cv_RX12_462 cw_X12_keepRow rfl rfl (sk_k hsk 64 rfl) (Nat.le_of_ble_eq_true rfl) rfl (t_X12_keepRow hsk (by omega) ho13) ?_
  refine s_aload_n hG dX12_remember_86 rfl ?_
  refine s_getr (r := 70) hG dX12_remember_87 fl_RX12_26 (sk_k hsk 64 rfl) rfl (sk_R hsk 64 7 rfl) ?_
  refine s_aload_n hG dX12_remember_90 rfl ?_
  refine s_geti hG dX12_remember_91 fl_RX12_172 (sk_k hsk 64 rfl) rfl ?_
  refine s_iload_n hG dX12_remember_94 rfl ?_
  obtain ⟨g14, hF⟩ := gd_some hF
  refine s_iastj (j := (o13 64 8).toNat) hG dX12_remember_95 (sk_K hsk 70 rfl) g14 rfl ?_
  refine s_aload_n hG dX12_remember_96 rfl ?_
  refine s_dup hG dX12_remember_97 rfl ?_
  refine s_geti hG dX12_remember_98 fl_RX12_172 (sk_k hsk 64 rfl) rfl ?_
  refine s_iconst hG dX12_remember_101 ⟨by decide, by decide⟩ ?_
  refine s_iadd hG dX12_remember_102 ?_
  refine s_puti hG dX12_remember_103 fl_RX12_172 (fun h => by cases h) (sk_k hsk 64 rfl) rfl ?_
  cases hF
  exact s_vret hE dX12_remember_106 rfl
theorem t_X12_remember {d : Nat} {X : MX} {N : NN} {a1 : Int} {out : NN} (hsk : m_Sk X) (hd : 2 ≤ d) (hF : f_X12_remember X N a1 = some out) : m_Call d yX12_remember cX12_remember 3 none [(.inr (.inr 64)), (.inl a1)] N X none out X := by
  refine m_mk (ls0 := [some (.inr (.inr 64)), some (.inl a1), none]) (by decide) rfl (Nat.le_of_ble_eq_true rfl) (Nat.le_refl _) (Nat.le_refl _) (fun Ω hE => ?_)
  have hG := hE.G
  unfold f_X12_remember at hF
  refine s_aload_n hG dX12_remember_0 rfl ?_
  refine s_geti hG dX12_remember_1 fl_RX12_172 (sk_k hsk 64 rfl) rfl ?_
  refine s_bipush hG dX12_remember_4 bp_16 ⟨by decide, by decide⟩ ?_
  refine s_icmp_ne hG 78 dX12_remember_6 (by decide) (fun c12 => ?_) (fun c12 => ?_)
  · replace hF := Eq.trans (if_pos c12).symm hF
    refine s_iconst hG dX12_remember_9 ⟨by decide, by decide⟩ ?_
    refine s_istore_n hG dX12_remember_10 (by decide) rfl ?_
    obtain ⟨o5, hlo5, hF⟩ := bd_some hF
    refine t_X12_remember_lp11 hsk hd hG ?_ hlo5
    refine s_iconst hG dX12_remember_40 ⟨by decide, by decide⟩ ?_
    refine s_istore_n hG dX12_remember_41 (by decide) rfl ?_
    obtain ⟨o10, hlo10, hF⟩ := bd_some hF
    refine t_X12_remember_lp42 hsk hd hG ?_ hlo10
    refine s_aload_n hG dX12_remember_68 rfl ?_
    refine s_dup hG dX12_remember_69 rfl ?_
    refine s_geti hG dX12_remember_70 fl_RX12_172 (sk_k hsk 64 rfl) rfl ?_
    refine s_iconst hG dX12_remember_73 ⟨by decide, by decide⟩ ?_
    refine s_isub hG dX12_remember_74 ?_
    refine s_puti hG dX12_remember_75 fl_RX12_172 (fun h => by cases h) (sk_k hsk 64 rfl) rfl ?_
    exact t_X12_remember_j78 hsk hd hG hE hF
  · replace hF := Eq.trans (if_neg c12).symm hF
    exact t_X12_remember_j78 hsk hd hG hE hF
-- X12_costs
theorem t_X12_costs_l5_j40 {d n0 s0 nF sF : Nat} {X : MX} {Ω : Nat → MS → Prop} {N : NN} {a1 : Int} {a2 : Int} {a4 : Int} {z0 : Int} {z1 : Int} (hsk : m_Sk X) (hd : 8 ≤ d) (hG : m_G d yX12_costs.cls yX12_costs.name cX12_costs 5 n0 s0 nF sF Ω) {out : ((NN × Int × Int × Int × Int) ⊕ (NN × Int))} (hK0 : ∀ s' : (NN × Int × Int × Int × Int), out = .inl s' → Ω 5 ([some (.inr (.inr 64)), some (.inl (s'.2.1)), some (.inl (s'.2.2.1)), some (.inl (s'.2.2.2.1)), some (.inl (s'.2.2.2.2))], [], s'.1, X)) (hK1 : ∀ t : (NN × Int), out = .inr t → Ω 48 ([none, none, none, some (.inl t.2), none], [], t.1, X)) (hF : f_X12_costs_l5_j40 X N a1 a2 a4 z0 z1 = some out) : Ω 40 ([some (.inr (.inr 64)), some (.inl a1), some (.inl a2), none, some (.inl a4)], [(.inl z1), (.inl z0)], N, X) := by
  unfold f_X12_costs_l5_j40 at hF
  refine s_iadd hG dX12_costs_40 ?_
  refine s_istore_n hG dX12_costs_41 (by decide) rfl ?_
  refine s_iinc hG dX12_costs_42 (by decide) rfl rfl ?_
  refine s_goto hG 5 dX12_costs_45 (by decide) ?_
  cases hF
  exact hK0 _ rfl
theorem t_X12_costs_b5 {d n0 s0 nF sF : Nat} {X : MX} {Ω : Nat → MS → Prop} {N : NN} {a1 : Int} {a2 : Int} {a3 : Int} {a4 : Int} (hsk : m_Sk X) (hd : 8 ≤ d) (hG : m_G d yX12_costs.cls yX12_costs.name cX12_costs 5 n0 s0 nF sF Ω) {out : ((NN × Int × Int × Int × Int) ⊕ (NN × Int))} (hK0 : ∀ s' : (NN × Int × Int × Int × Int), out = .inl s' → Ω 5 ([some (.inr (.inr 64)), some (.inl (s'.2.1)), some (.inl (s'.2.2.1)), some (.inl (s'.2.2.2.1)), some (.inl (s'.2.2.2.2))], [], s'.1, X)) (hK1 : ∀ t : (NN × Int), out = .inr t → Ω 48 ([none, none, none, some (.inl t.2), none], [], t.1, X)) (hF : b_X12_costs_5 X N a1 a2 a3 a4 = some out) : Ω 5 ([some (.inr (.inr 64)), some (.inl a1), some (.inl a2), some (.inl a3), some (.inl a4)], [], N, X) := by
  unfold b_X12_costs_5 at hF
  refine s_iload hG dX12_costs_5 rfl ?_
  refine s_aload_n hG dX12_costs_7 rfl ?_
  refine s_getr (r := 66) hG dX12_costs_8 fl_RX12_13 (sk_k hsk 64 rfl) rfl (sk_R hsk 64 3 rfl) ?_
  refine s_iconst hG dX12_costs_11 ⟨by decide, by decide⟩ ?_
  refine s_ialdj (j := 1) hG dX12_costs_12 (sk_K hsk 66 rfl) ⟨by decide, by decide⟩ rfl ?_
  refine s_icmp_ge hG 48 dX12_costs_13 (by decide) (fun c4 => ?_) (fun c4 => ?_)
  · replace hF := Eq.trans (if_pos c4).symm hF
    refine s_iload_n hG dX12_costs_16 rfl ?_
    refine s_aload_n hG dX12_costs_17 rfl ?_
    refine s_iload hG dX12_costs_18 rfl ?_
    refine s_iconst hG dX12_costs_20 ⟨by decide, by decide⟩ ?_
    obtain ⟨o1, ho1, hF⟩ := bd_some hF
    refine s_callV (d' := d - 1) (ci := 12) (args := [.inl a4, .inl 0]) hG (by omega) dX12_costs_21 cv_RX12_190 cw_X12_ofGood rfl rfl (sk_k hsk 64 rfl) (Nat.le_of_ble_eq_true rfl) rfl (t_X12_ofGood hsk (by omega) ho1) ?_
    refine s_iload_n hG dX12_costs_24 rfl ?_
    refine s_icmp_ne hG 39 dX12_costs_25 (by decide) (fun c3 => ?_) (fun c3 => ?_)
    · replace hF := Eq.trans (if_pos c3).symm hF
      refine s_aload_n hG dX12_costs_28 rfl ?_
      refine s_iload hG dX12_costs_29 rfl ?_
      refine s_iload_n hG dX12_costs_31 rfl ?_
      refine s_iload_n hG dX12_costs_32 rfl ?_
      obtain ⟨o2, ho2, hF⟩ := bd_some hF
      refine s_callV (d' := d - 1) (ci := 12) (args := [.inl a4, .inl a1, .inl a2]) hG (by omega) dX12_costs_33 cv_RX12_194 cw_X12_costOf rfl rfl (sk_k hsk 64 rfl) (Nat.le_of_ble_eq_true rfl) rfl (t_X12_costOf hsk (by omega) ho2) ?_
      refine s_goto hG 40 dX12_costs_36 (by decide) ?_
      refine m_weak (ls1 := [some (.inr (.inr 64)), some (.inl a1), some (.inl a2), none, some (.inl a4)]) hG ⟨rfl, ⟨rfl, ⟨rfl, ⟨rfl, trivial⟩⟩⟩⟩ ?_
      exact t_X12_costs_l5_j40 hsk hd hG hK0 hK1 hF
    · replace hF := Eq.trans (if_neg c3).symm hF
      refine s_iconst hG dX12_costs_39 ⟨by decide, by decide⟩ ?_
      refine m_weak (ls1 := [some (.inr (.inr 64)), some (.inl a1), some (.inl a2), none, some (.inl a4)]) hG ⟨rfl, ⟨rfl, ⟨rfl, ⟨rfl, trivial⟩⟩⟩⟩ ?_
      exact t_X12_costs_l5_j40 hsk hd hG hK0 hK1 hF
  · replace hF := Eq.trans (if_neg c4).symm hF
    cases hF
    refine m_weak (ls1 := [none, none, none, some (.inl a3), none]) hG ⟨rfl, trivial⟩ ?_
    exact hK1 _ rfl
theorem t_X12_costs_lp5 {d n0 s0 nF sF : Nat} {X : MX} {Ω : Nat → MS → Prop} {N : NN} {a1 : Int} {a2 : Int} {a3 : Int} {a4 : Int} (hsk : m_Sk X) (hd : 8 ≤ d) (hG : m_G d yX12_costs.cls yX12_costs.name cX12_costs 5 n0 s0 nF sF Ω) {t : (NN × Int)} (hK1 : Ω 48 ([none, none, none, some (.inl t.2), none], [], t.1, X)) (hl : lp (fun s => b_X12_costs_5 X s.1 s.2.1 s.2.2.1 s.2.2.2.1 s.2.2.2.2) (N, a1, a2, a3, a4) = some t) : Ω 5 ([some (.inr (.inr 64)), some (.inl a1), some (.inl a2), some (.inl a3), some (.inl a4)], [], N, X) := by
  refine lp_ok (P := fun s => Ω 5 ([some (.inr (.inr 64)), some (.inl s.2.1), some (.inl s.2.2.1), some (.inl s.2.2.2.1), some (.inl s.2.2.2.2)], [], s.1, X)) (K := fun t => Ω 48 ([none, none, none, some (.inl t.2), none], [], t.1, X)) (fun s out hF hK0 hK1 => ?_) hl hK1
  exact t_X12_costs_b5 hsk hd hG (out := out) (fun s' e => hK0 s' e) (fun t' e => hK1 t' e) hF
theorem t_X12_costs {d : Nat} {X : MX} {N : NN} {a1 : Int} {a2 : Int} {out : (Int × NN)} (hsk : m_Sk X) (hd : 8 ≤ d) (hF : f_X12_costs X N a1 a2 = some out) : m_Call d yX12_costs cX12_costs 5 (some .int) [(.inr (.inr 64)), (.inl a1), (.inl a2)] N X (some (.inl out.1)) out.2 X := by
  refine m_mk (ls0 := [some (.inr (.inr 64)), some (.inl a1), some (.inl a2), none, none]) (by decide) rfl (Nat.le_of_ble_eq_true rfl) (Nat.le_refl _) (Nat.le_refl _) (fun Ω hE => ?_)
  have hG := hE.G
  unfold f_X12_costs at hF
  refine s_iconst hG dX12_costs_0 ⟨by decide, by decide⟩ ?_
  refine s_istore_n hG dX12_costs_1 (by decide) rfl ?_
  refine s_iconst hG dX12_costs_2 ⟨by decide, by decide⟩ ?_
  refine s_istore hG dX12_costs_3 (by decide) rfl ?_
  obtain ⟨o5, hlo5, hF⟩ := bd_some hF
  refine t_X12_costs_lp5 hsk hd hG ?_ hlo5
  refine s_iload_n hG dX12_costs_48 rfl ?_
  cases hF
  exact s_iret hE dX12_costs_49 rfl
-- X12_is
theorem t_X12_is_j14 {d n0 s0 nF sF : Nat} {X : MX} {N : NN} {Ω : Nat → MS → Prop} {z0 : Int} (hsk : m_Sk X) (hd : 1 ≤ d) (hG : m_G d yX12_is.cls yX12_is.name cX12_is 2 n0 s0 nF sF Ω) {out : Int} (hE : m_Gd d yX12_is cX12_is 2 (some .boolean) X (some (.inl out)) N X Ω) (hF : f_X12_is_j14 X N z0 = some out) : Ω 14 ([none, none], [(.inl z0)], N, X) := by
  unfold f_X12_is_j14 at hF
  obtain ⟨g2, hF⟩ := gd_some hF
  cases hF
  exact s_zret hE dX12_is_14 rfl g2
theorem t_X12_is {d : Nat} {X : MX} {N : NN} {a0 : Int} {a1 : Int} {out : Int} (hsk : m_Sk X) (hd : 1 ≤ d) (hF : f_X12_is X N a0 a1 = some out) : m_Call d yX12_is cX12_is 2 (some .boolean) [(.inl a0), (.inl a1)] N X (some (.inl out)) N X := by
  refine m_mk (ls0 := [some (.inl a0), some (.inl a1)]) (by decide) rfl (Nat.le_of_ble_eq_true rfl) (Nat.le_refl _) (Nat.le_refl _) (fun Ω hE => ?_)
  have hG := hE.G
  unfold f_X12_is at hF
  refine s_iload_n hG dX12_is_0 rfl ?_
  refine s_iload_n hG dX12_is_1 rfl ?_
  refine s_ishr hG dX12_is_2 ?_
  refine s_iconst hG dX12_is_3 ⟨by decide, by decide⟩ ?_
  refine s_iand hG dX12_is_4 ?_
  refine s_iconst hG dX12_is_5 ⟨by decide, by decide⟩ ?_
  refine s_icmp_ne hG 13 dX12_is_6 (by decide) (fun c1 => ?_) (fun c1 => ?_)
  · replace hF := Eq.trans (if_pos c1).symm hF
    refine s_iconst hG dX12_is_9 ⟨by decide, by decide⟩ ?_
    refine s_goto hG 14 dX12_is_10 (by decide) ?_
    refine m_weak (ls1 := [none, none]) hG trivial ?_
    exact t_X12_is_j14 hsk hd hG hE hF
  · replace hF := Eq.trans (if_neg c1).symm hF
    refine s_iconst hG dX12_is_13 ⟨by decide, by decide⟩ ?_
    refine m_weak (ls1 := [none, none]) hG trivial ?_
    exact t_X12_is_j14 hsk hd hG hE hF
-- X12_wait1
theorem t_X12_wait1_b144 {d n0 s0 nF sF : Nat} {X : MX} {Ω : Nat → MS → Prop} {N : NN} {a1 : Int} {a2 : Int} {a6 : Int} (hsk : m_Sk X) (hd : 9 ≤ d) (hG : m_G d yX12_wait1.cls yX12_wait1.name cX12_wait1 7 n0 s0 nF sF Ω) {out : ((NN × Int × Int × Int) ⊕ (NN × Int × Int))} (hK0 : ∀ s' : (NN × Int × Int × Int), out = .inl s' → Ω 144 ([some (.inr (.inr 64)), some (.inl (s'.2.1)), some (.inl (s'.2.2.1)), none, none, none, some (.inl (s'.2.2.2))], [], s'.1, X)) (hK1 : ∀ t : (NN × Int × Int), out = .inr t → Ω 181 ([some (.inr (.inr 64)), some (.inl t.2.1), some (.inl t.2.2), none, none, none, none], [], t.1, X)) (hF : b_X12_wait1_144 X N a1 a2 a6 = some out) : Ω 144 ([some (.inr (.inr 64)), some (.inl a1), some (.inl a2), none, none, none, some (.inl a6)], [], N, X) := by
  unfold b_X12_wait1_144 at hF
  refine s_iload hG dX12_wait1_144 rfl ?_
  refine s_bipush hG dX12_wait1_146 bp_6 ⟨by decide, by decide⟩ ?_
  refine s_icmp_ge hG 181 dX12_wait1_148 (by decide) (fun c24 => ?_) (fun c24 => ?_)
  · replace hF := Eq.trans (if_pos c24).symm hF
    refine s_aload_n hG dX12_wait1_151 rfl ?_
    refine s_getr (r := 66) hG dX12_wait1_152 fl_RX12_13 (sk_k hsk 64 rfl) rfl (sk_R hsk 64 3 rfl) ?_
    refine s_iload_n hG dX12_wait1_155 rfl ?_
    refine s_iload hG dX12_wait1_156 rfl ?_
    obtain ⟨o18, ho18, hF⟩ := bd_some hF
    refine s_callS (d' := d - 1) (args := [.inl a2, .inl a6]) hG (by omega) dX12_wait1_158 cs_RX12_452 cw_X12_debtAt rfl (Nat.le_of_ble_eq_true rfl) rfl (t_X12_debtAt hsk (by omega) ho18) ?_
    refine s_iconst hG dX12_wait1_161 ⟨by decide, by decide⟩ ?_
    obtain ⟨g19, hF⟩ := gd_some hF
    refine s_iastj (j := o18.toNat) hG dX12_wait1_162 (sk_K hsk 66 rfl) g19 rfl ?_
    refine s_aload_n hG dX12_wait1_163 rfl ?_
    refine s_getr (r := 66) hG dX12_wait1_164 fl_RX12_13 (sk_k hsk 64 rfl) rfl (sk_R hsk 64 3 rfl) ?_
    refine s_iload hG dX12_wait1_167 rfl ?_
    refine s_iload_n hG dX12_wait1_169 rfl ?_
    obtain ⟨o21, ho21, hF⟩ := bd_some hF
    refine s_callS (d' := d - 1) (args := [.inl a6, .inl a2]) hG (by omega) dX12_wait1_170 cs_RX12_452 cw_X12_debtAt rfl (Nat.le_of_ble_eq_true rfl) rfl (t_X12_debtAt hsk (by omega) ho21) ?_
    refine s_iconst hG dX12_wait1_173 ⟨by decide, by decide⟩ ?_
    obtain ⟨g22, hF⟩ := gd_some hF
    refine s_iastj (j := o21.toNat) hG dX12_wait1_174 (sk_K hsk 66 rfl) g22 rfl ?_
    refine s_iinc hG dX12_wait1_175 (by decide) rfl rfl ?_
    refine s_goto hG 144 dX12_wait1_178 (by decide) ?_
    cases hF
    exact hK0 _ rfl
  · replace hF := Eq.trans (if_neg c24).symm hF
    cases hF
    refine m_weak (ls1 := [some (.inr (.inr 64)), some (.inl a1), some (.inl a2), none, none, none, none]) hG ⟨rfl, ⟨rfl, ⟨rfl, trivial⟩⟩⟩ ?_
    exact hK1 _ rfl
theorem t_X12_wait1_lp144 {d n0 s0 nF sF : Nat} {X : MX} {Ω : Nat → MS → Prop} {N : NN} {a1 : Int} {a2 : Int} {a6 : Int} (hsk : m_Sk X) (hd : 9 ≤ d) (hG : m_G d yX12_wait1.cls yX12_wait1.name cX12_wait1 7 n0 s0 nF sF Ω) {t : (NN × Int × Int)} (hK1 : Ω 181 ([some (.inr (.inr 64)), some (.inl t.2.1), some (.inl t.2.2), none, none, none, none], [], t.1, X)) (hl : lp (fun s => b_X12_wait1_144 X s.1 s.2.1 s.2.2.1 s.2.2.2) (N, a1, a2, a6) = some t) : Ω 144 ([some (.inr (.inr 64)), some (.inl a1), some (.inl a2), none, none, none, some (.inl a6)], [], N, X) := by
  refine lp_ok (P := fun s => Ω 144 ([some (.inr (.inr 64)), some (.inl s.2.1), some (.inl s.2.2.1), none, none, none, some (.inl s.2.2.2)], [], s.1, X)) (K := fun t => Ω 181 ([some (.inr (.inr 64)), some (.inl t.2.1), some (.inl t.2.2), none, none, none, none], [], t.1, X)) (fun s out hF hK0 hK1 => ?_) hl hK1
  exact t_X12_wait1_b144 hsk hd hG (out := out) (fun s' e => hK0 s' e) (fun t' e => hK1 t' e) hF
theorem t_X12_wait1_l15_j181 {d n0 s0 nF sF : Nat} {X : MX} {Ω : Nat → MS → Prop} {N : NN} {a1 : Int} {a2 : Int} (hsk : m_Sk X) (hd : 9 ≤ d) (hG : m_G d yX12_wait1.cls yX12_wait1.name cX12_wait1 7 n0 s0 nF sF Ω) {out : ((NN × Int × Int) ⊕ (NN × Int))} (hK0 : ∀ s' : (NN × Int × Int), out = .inl s' → Ω 15 ([some (.inr (.inr 64)), some (.inl (s'.2.1)), some (.inl (s'.2.2)), none, none, none, none], [], s'.1, X)) (hK1 : ∀ t : (NN × Int), out = .inr t → Ω 187 ([some (.inr (.inr 64)), some (.inl t.2), none, none, none, none, none], [], t.1, X)) (hF : f_X12_wait1_l15_j181 X N a1 a2 = some out) : Ω 181 ([some (.inr (.inr 64)), some (.inl a1), some (.inl a2), none, none, none, none], [], N, X) := by
  unfold f_X12_wait1_l15_j181 at hF
  refine s_iinc hG dX12_wait1_181 (by decide) rfl rfl ?_
  refine s_goto hG 15 dX12_wait1_184 (by decide) ?_
  cases hF
  exact hK0 _ rfl
theorem t_X12_wait1_l15_j130 {d n0 s0 nF sF : Nat} {X : MX} {Ω : Nat → MS → Prop} {N : NN} {a2 : Int} {a3 : Int} {z0 : Int} {z1 : Int} (hsk : m_Sk X) (hd : 9 ≤ d) (hG : m_G d yX12_wait1.cls yX12_wait1.name cX12_wait1 7 n0 s0 nF sF Ω) {out : ((NN × Int × Int) ⊕ (NN × Int))} (hK0 : ∀ s' : (NN × Int × Int), out = .inl s' → Ω 15 ([some (.inr (.inr 64)), some (.inl (s'.2.1)), some (.inl (s'.2.2)), none, none, none, none], [], s'.1, X)) (hK1 : ∀ t : (NN × Int), out = .inr t → Ω 187 ([some (.inr (.inr 64)), some (.inl t.2), none, none, none, none, none], [], t.1, X)) (hF : f_X12_wait1_l15_j130 X N a2 a3 z0 z1 = some out) : Ω 130 ([some (.inr (.inr 64)), none, some (.inl a2), some (.inl a3), none, none, none], [(.inl z1), (.inl z0)], N, X) := by
  unfold f_X12_wait1_l15_j130 at hF
  refine s_iadd hG dX12_wait1_130 ?_
  refine s_istore_n hG dX12_wait1_131 (by decide) rfl ?_
  refine s_aload_n hG dX12_wait1_132 rfl ?_
  refine s_getr (r := 66) hG dX12_wait1_133 fl_RX12_13 (sk_k hsk 64 rfl) rfl (sk_R hsk 64 3 rfl) ?_
  refine s_iload_n hG dX12_wait1_136 rfl ?_
  refine s_iconst hG dX12_wait1_137 ⟨by decide, by decide⟩ ?_
  refine s_iadd hG dX12_wait1_138 ?_
  refine s_iconst hG dX12_wait1_139 ⟨by decide, by decide⟩ ?_
  obtain ⟨g16, hF⟩ := gd_some hF
  refine s_iastj (j := (m_w (a3 + 2)).toNat) hG dX12_wait1_140 (sk_K hsk 66 rfl) g16 rfl ?_
  refine s_iconst hG dX12_wait1_141 ⟨by decide, by decide⟩ ?_
  refine s_istore hG dX12_wait1_142 (by decide) rfl ?_
  obtain ⟨o25, hlo25, hF⟩ := bd_some hF
  refine m_weak (ls1 := [some (.inr (.inr 64)), some (.inl (m_w (z0 + z1))), some (.inl a2), none, none, none, some (.inl 0)]) hG ⟨rfl, ⟨rfl, ⟨rfl, ⟨rfl, trivial⟩⟩⟩⟩ ?_
  refine t_X12_wait1_lp144 hsk hd hG ?_ hlo25
  exact t_X12_wait1_l15_j181 hsk hd hG hK0 hK1 hF
theorem t_X12_wait1_l15_j105 {d n0 s0 nF sF : Nat} {X : MX} {Ω : Nat → MS → Prop} {N : NN} {a1 : Int} {a2 : Int} {a3 : Int} {a4 : Int} {a5 : Int} {z1 : Int} {z2 : Int} (hsk : m_Sk X) (hd : 9 ≤ d) (hG : m_G d yX12_wait1.cls yX12_wait1.name cX12_wait1 7 n0 s0 nF sF Ω) {out : ((NN × Int × Int) ⊕ (NN × Int))} (hK0 : ∀ s' : (NN × Int × Int), out = .inl s' → Ω 15 ([some (.inr (.inr 64)), some (.inl (s'.2.1)), some (.inl (s'.2.2)), none, none, none, none], [], s'.1, X)) (hK1 : ∀ t : (NN × Int), out = .inr t → Ω 187 ([some (.inr (.inr 64)), some (.inl t.2), none, none, none, none, none], [], t.1, X)) (hF : f_X12_wait1_l15_j105 X N a1 a2 a3 a4 a5 z1 z2 = some out) : Ω 105 ([some (.inr (.inr 64)), some (.inl a1), some (.inl a2), some (.inl a3), some (.inl a4), some (.inl a5), none], [(.inl z2), (.inl z1), (.inr (.inr 66))], N, X) := by
  unfold f_X12_wait1_l15_j105 at hF
  obtain ⟨g11, hF⟩ := gd_some hF
  refine s_iastj (j := z1.toNat) hG dX12_wait1_105 (sk_K hsk 66 rfl) g11 rfl ?_
  refine s_iload hG dX12_wait1_106 rfl ?_
  refine s_iload hG dX12_wait1_108 rfl ?_
  refine s_icmp_ge hG 181 dX12_wait1_110 (by decide) (fun c15 => ?_) (fun c15 => ?_)
  · replace hF := Eq.trans (if_pos c15).symm hF
    refine s_iload_n hG dX12_wait1_113 rfl ?_
    refine s_aload_n hG dX12_wait1_114 rfl ?_
    refine s_getr (r := 66) hG dX12_wait1_115 fl_RX12_13 (sk_k hsk 64 rfl) rfl (sk_R hsk 64 3 rfl) ?_
    refine s_iload_n hG dX12_wait1_118 rfl ?_
    refine s_iconst hG dX12_wait1_119 ⟨by decide, by decide⟩ ?_
    refine s_iadd hG dX12_wait1_120 ?_
    obtain ⟨g13, hF⟩ := gd_some hF
    refine s_ialdj (j := (m_w (a3 + 2)).toNat) hG dX12_wait1_121 (sk_K hsk 66 rfl) g13 rfl ?_
    refine s_if_ne hG 129 dX12_wait1_122 (by decide) (fun c14 => ?_) (fun c14 => ?_)
    · replace hF := Eq.trans (if_pos c14).symm hF
      refine s_iconst hG dX12_wait1_125 ⟨by decide, by decide⟩ ?_
      refine s_goto hG 130 dX12_wait1_126 (by decide) ?_
      refine m_weak (ls1 := [some (.inr (.inr 64)), none, some (.inl a2), some (.inl a3), none, none, none]) hG ⟨rfl, ⟨rfl, ⟨rfl, trivial⟩⟩⟩ ?_
      exact t_X12_wait1_l15_j130 hsk hd hG hK0 hK1 hF
    · replace hF := Eq.trans (if_neg c14).symm hF
      refine s_iconst hG dX12_wait1_129 ⟨by decide, by decide⟩ ?_
      refine m_weak (ls1 := [some (.inr (.inr 64)), none, some (.inl a2), some (.inl a3), none, none, none]) hG ⟨rfl, ⟨rfl, ⟨rfl, trivial⟩⟩⟩ ?_
      exact t_X12_wait1_l15_j130 hsk hd hG hK0 hK1 hF
  · replace hF := Eq.trans (if_neg c15).symm hF
    refine m_weak (ls1 := [some (.inr (.inr 64)), some (.inl a1), some (.inl a2), none, none, none, none]) hG ⟨rfl, ⟨rfl, ⟨rfl, trivial⟩⟩⟩ ?_
    exact t_X12_wait1_l15_j181 hsk hd hG hK0 hK1 hF
theorem t_X12_wait1_l15_j62 {d n0 s0 nF sF : Nat} {X : MX} {Ω : Nat → MS → Prop} {N : NN} {a1 : Int} {a2 : Int} {a3 : Int} {z0 : Int} {z1 : Int} (hsk : m_Sk X) (hd : 9 ≤ d) (hG : m_G d yX12_wait1.cls yX12_wait1.name cX12_wait1 7 n0 s0 nF sF Ω) {out : ((NN × Int × Int) ⊕ (NN × Int))} (hK0 : ∀ s' : (NN × Int × Int), out = .inl s' → Ω 15 ([some (.inr (.inr 64)), some (.inl (s'.2.1)), some (.inl (s'.2.2)), none, none, none, none], [], s'.1, X)) (hK1 : ∀ t : (NN × Int), out = .inr t → Ω 187 ([some (.inr (.inr 64)), some (.inl t.2), none, none, none, none, none], [], t.1, X)) (hF : f_X12_wait1_l15_j62 X N a1 a2 a3 z0 z1 = some out) : Ω 62 ([some (.inr (.inr 64)), some (.inl a1), some (.inl a2), some (.inl a3), none, none, none], [(.inl z1), (.inl z0)], N, X) := by
  unfold f_X12_wait1_l15_j62 at hF
  refine s_iadd hG dX12_wait1_62 ?_
  refine s_i2l hG dX12_wait1_63 ?_
  refine s_iconst hG dX12_wait1_64 ⟨by decide, by decide⟩ ?_
  refine s_sipush hG dX12_wait1_65 sp_9999 ⟨by decide, by decide⟩ ?_
  obtain ⟨o7, ho7, hF⟩ := bd_some hF
  refine s_callS (d' := d - 1) (args := [.inr (.inl (m_w (z0 + z1))), .inl 0, .inl 9999]) hG (by omega) dX12_wait1_68 cs_RX12_439 cw_X12_within rfl (Nat.le_of_ble_eq_true rfl) rfl (t_X12_within hsk (by omega) ho7) ?_
  refine s_istore hG dX12_wait1_71 (by decide) rfl ?_
  refine s_aload_n hG dX12_wait1_73 rfl ?_
  refine s_iload_n hG dX12_wait1_74 rfl ?_
  refine s_aload_n hG dX12_wait1_75 rfl ?_
  obtain ⟨o8, ho8, hF⟩ := bd_some hF
  refine s_callV (d' := d - 1) (ci := 12) (args := []) hG (by omega) dX12_wait1_76 cv_RX12_210 cw_X12_year rfl rfl (sk_k hsk 64 rfl) (Nat.le_of_ble_eq_true rfl) rfl (t_X12_year hsk (by omega) ho8) ?_
  obtain ⟨o9, ho9, hF⟩ := bd_some hF
  refine s_callV (d' := d - 1) (ci := 12) (args := [.inl a2, .inl o8]) hG (by omega) dX12_wait1_79 cv_RX12_214 cw_X12_costs rfl rfl (sk_k hsk 64 rfl) (Nat.le_of_ble_eq_true rfl) rfl (t_X12_costs hsk (by omega) ho9) ?_
  refine s_istore hG dX12_wait1_82 (by decide) rfl ?_
  refine s_aload_n hG dX12_wait1_84 rfl ?_
  refine s_getr (r := 66) hG dX12_wait1_85 fl_RX12_13 (sk_k hsk 64 rfl) rfl (sk_R hsk 64 3 rfl) ?_
  refine s_iload_n hG dX12_wait1_88 rfl ?_
  refine s_iload hG dX12_wait1_89 rfl ?_
  refine s_iload hG dX12_wait1_91 rfl ?_
  refine s_icmp_ge hG 100 dX12_wait1_93 (by decide) (fun c10 => ?_) (fun c10 => ?_)
  · replace hF := Eq.trans (if_pos c10).symm hF
    refine s_iconst hG dX12_wait1_96 ⟨by decide, by decide⟩ ?_
    refine s_goto hG 105 dX12_wait1_97 (by decide) ?_
    exact t_X12_wait1_l15_j105 hsk hd hG hK0 hK1 hF
  · replace hF := Eq.trans (if_neg c10).symm hF
    refine s_iload hG dX12_wait1_100 rfl ?_
    refine s_iload hG dX12_wait1_102 rfl ?_
    refine s_isub hG dX12_wait1_104 ?_
    exact t_X12_wait1_l15_j105 hsk hd hG hK0 hK1 hF
theorem t_X12_wait1_b15 {d n0 s0 nF sF : Nat} {X : MX} {Ω : Nat → MS → Prop} {N : NN} {a1 : Int} {a2 : Int} (hsk : m_Sk X) (hd : 9 ≤ d) (hG : m_G d yX12_wait1.cls yX12_wait1.name cX12_wait1 7 n0 s0 nF sF Ω) {out : ((NN × Int × Int) ⊕ (NN × Int))} (hK0 : ∀ s' : (NN × Int × Int), out = .inl s' → Ω 15 ([some (.inr (.inr 64)), some (.inl (s'.2.1)), some (.inl (s'.2.2)), none, none, none, none], [], s'.1, X)) (hK1 : ∀ t : (NN × Int), out = .inr t → Ω 187 ([some (.inr (.inr 64)), some (.inl t.2), none, none, none, none, none], [], t.1, X)) (hF : b_X12_wait1_15 X N a1 a2 = some out) : Ω 15 ([some (.inr (.inr 64)), some (.inl a1), some (.inl a2), none, none, none, none], [], N, X) := by
  unfold b_X12_wait1_15 at hF
  refine s_iload_n hG dX12_wait1_15 rfl ?_
  refine s_aload_n hG dX12_wait1_16 rfl ?_
  refine s_getr (r := 66) hG dX12_wait1_17 fl_RX12_13 (sk_k hsk 64 rfl) rfl (sk_R hsk 64 3 rfl) ?_
  refine s_iconst hG dX12_wait1_20 ⟨by decide, by decide⟩ ?_
  refine s_ialdj (j := 0) hG dX12_wait1_21 (sk_K hsk 66 rfl) ⟨by decide, by decide⟩ rfl ?_
  refine s_icmp_ge hG 187 dX12_wait1_22 (by decide) (fun c6 => ?_) (fun c6 => ?_)
  · replace hF := Eq.trans (if_pos c6).symm hF
    refine s_bipush hG dX12_wait1_25 bp_9 ⟨by decide, by decide⟩ ?_
    refine s_bipush hG dX12_wait1_27 bp_6 ⟨by decide, by decide⟩ ?_
    refine s_iload_n hG dX12_wait1_29 rfl ?_
    refine s_imul hG dX12_wait1_30 ?_
    refine s_iadd hG dX12_wait1_31 ?_
    refine s_istore_n hG dX12_wait1_32 (by decide) rfl ?_
    refine s_aload_n hG dX12_wait1_33 rfl ?_
    refine s_getr (r := 66) hG dX12_wait1_34 fl_RX12_13 (sk_k hsk 64 rfl) rfl (sk_R hsk 64 3 rfl) ?_
    refine s_iload_n hG dX12_wait1_37 rfl ?_
    obtain ⟨g2, hF⟩ := gd_some hF
    refine s_ialdj (j := (m_w (9 + (m_w (6 * a2)))).toNat) hG dX12_wait1_38 (sk_K hsk 66 rfl) g2 rfl ?_
    refine s_aload_n hG dX12_wait1_39 rfl ?_
    refine s_geti hG dX12_wait1_40 fl_RX12_455 (sk_k hsk 64 rfl) rfl ?_
    refine s_iload_n hG dX12_wait1_43 rfl ?_
    obtain ⟨o3, ho3, hF⟩ := bd_some hF
    refine s_callS (d' := d - 1) (args := [.inl (N 64 40), .inl a2]) hG (by omega) dX12_wait1_44 cs_RX12_458 cw_X12_is rfl (Nat.le_of_ble_eq_true rfl) rfl (t_X12_is hsk (by omega) ho3) ?_
    refine s_if_eq hG 54 dX12_wait1_47 (by decide) (fun c5 => ?_) (fun c5 => ?_)
    · replace hF := Eq.trans (if_pos c5).symm hF
      refine s_aload_n hG dX12_wait1_54 rfl ?_
      refine s_getr (r := 66) hG dX12_wait1_55 fl_RX12_13 (sk_k hsk 64 rfl) rfl (sk_R hsk 64 3 rfl) ?_
      refine s_iload_n hG dX12_wait1_58 rfl ?_
      refine s_iconst hG dX12_wait1_59 ⟨by decide, by decide⟩ ?_
      refine s_iadd hG dX12_wait1_60 ?_
      obtain ⟨g4, hF⟩ := gd_some hF
      refine s_ialdj (j := (m_w ((m_w (9 + (m_w (6 * a2)))) + 1)).toNat) hG dX12_wait1_61 (sk_K hsk 66 rfl) g4 rfl ?_
      exact t_X12_wait1_l15_j62 hsk hd hG hK0 hK1 hF
    · replace hF := Eq.trans (if_neg c5).symm hF
      refine s_iconst hG dX12_wait1_50 ⟨by decide, by decide⟩ ?_
      refine s_goto hG 62 dX12_wait1_51 (by decide) ?_
      exact t_X12_wait1_l15_j62 hsk hd hG hK0 hK1 hF
  · replace hF := Eq.trans (if_neg c6).symm hF
    cases hF
    refine m_weak (ls1 := [some (.inr (.inr 64)), some (.inl a1), none, none, none, none, none]) hG ⟨rfl, ⟨rfl, trivial⟩⟩ ?_
    exact hK1 _ rfl
theorem t_X12_wait1_lp15 {d n0 s0 nF sF : Nat} {X : MX} {Ω : Nat → MS → Prop} {N : NN} {a1 : Int} {a2 : Int} (hsk : m_Sk X) (hd : 9 ≤ d) (hG : m_G d yX12_wait1.cls yX12_wait1.name cX12_wait1 7 n0 s0 nF sF Ω) {t : (NN × Int)} (hK1 : Ω 187 ([some (.inr (.inr 64)), some (.inl t.2), none, none, none, none, none], [], t.1, X)) (hl : lp (fun s => b_X12_wait1_15 X s.1 s.2.1 s.2.2) (N, a1, a2) = some t) : Ω 15 ([some (.inr (.inr 64)), some (.inl a1), some (.inl a2), none, none, none, none], [], N, X) := by
  refine lp_ok (P := fun s => Ω 15 ([some (.inr (.inr 64)), some (.inl s.2.1), some (.inl s.2.2), none, none, none, none], [], s.1, X)) (K := fun t => Ω 187 ([some (.inr (.inr 64)), some (.inl t.2), none, none, none, none, none], [], t.1, X)) (fun s out hF hK0 hK1 => ?_) hl hK1
  exact t_X12_wait1_b15 hsk hd hG (out := out) (fun s' e => hK0 s' e) (fun t' e => hK1 t' e) hF
theorem t_X12_wait1_l189_j285 {d n0 s0 nF sF : Nat} {X : MX} {Ω : Nat → MS → Prop} {N : NN} {a1 : Int} {a2 : Int} (hsk : m_Sk X) (hd : 9 ≤ d) (hG : m_G d yX12_wait1.cls yX12_wait1.name cX12_wait1 7 n0 s0 nF sF Ω) {out : ((NN × Int × Int) ⊕ (NN × Int))} (hK0 : ∀ s' : (NN × Int × Int), out = .inl s' → Ω 189 ([some (.inr (.inr 64)), some (.inl (s'.2.1)), some (.inl (s'.2.2)), none, none, none, none], [], s'.1, X)) (hK1 : ∀ t : (NN × Int), out = .inr t → Ω 291 ([none, some (.inl t.2), none, none, none, none, none], [], t.1, X)) (hF : f_X12_wait1_l189_j285 X N a1 a2 = some out) : Ω 285 ([some (.inr (.inr 64)), some (.inl a1), some (.inl a2), none, none, none, none], [], N, X) := by
  unfold f_X12_wait1_l189_j285 at hF
  refine s_iinc hG dX12_wait1_285 (by decide) rfl rfl ?_
  refine s_goto hG 189 dX12_wait1_288 (by decide) ?_
  cases hF
  exact hK0 _ rfl
theorem t_X12_wait1_b189 {d n0 s0 nF sF : Nat} {X : MX} {Ω : Nat → MS → Prop} {N : NN} {a1 : Int} {a2 : Int} (hsk : m_Sk X) (hd : 9 ≤ d) (hG : m_G d yX12_wait1.cls yX12_wait1.name cX12_wait1 7 n0 s0 nF sF Ω) {out : ((NN × Int × Int) ⊕ (NN × Int))} (hK0 : ∀ s' : (NN × Int × Int), out = .inl s' → Ω 189 ([some (.inr (.inr 64)), some (.inl (s'.2.1)), some (.inl (s'.2.2)), none, none, none, none], [], s'.1, X)) (hK1 : ∀ t : (NN × Int), out = .inr t → Ω 291 ([none, some (.inl t.2), none, none, none, none, none], [], t.1, X)) (hF : b_X12_wait1_189 X N a1 a2 = some out) : Ω 189 ([some (.inr (.inr 64)), some (.inl a1), some (.inl a2), none, none, none, none], [], N, X) := by
  unfold b_X12_wait1_189 at hF
  refine s_iload_n hG dX12_wait1_189 rfl ?_
  refine s_bipush hG dX12_wait1_190 bp_36 ⟨by decide, by decide⟩ ?_
  refine s_icmp_ge hG 291 dX12_wait1_192 (by decide) (fun c40 => ?_) (fun c40 => ?_)
  · replace hF := Eq.trans (if_pos c40).symm hF
    refine s_sipush hG dX12_wait1_195 sp_141 ⟨by decide, by decide⟩ ?_
    refine s_iconst hG dX12_wait1_198 ⟨by decide, by decide⟩ ?_
    refine s_iload_n hG dX12_wait1_199 rfl ?_
    refine s_imul hG dX12_wait1_200 ?_
    refine s_iadd hG dX12_wait1_201 ?_
    refine s_istore_n hG dX12_wait1_202 (by decide) rfl ?_
    refine s_aload_n hG dX12_wait1_203 rfl ?_
    refine s_getr (r := 66) hG dX12_wait1_204 fl_RX12_13 (sk_k hsk 64 rfl) rfl (sk_R hsk 64 3 rfl) ?_
    refine s_iload_n hG dX12_wait1_207 rfl ?_
    obtain ⟨g27, hF⟩ := gd_some hF
    refine s_ialdj (j := (m_w (141 + (m_w (2 * a2)))).toNat) hG dX12_wait1_208 (sk_K hsk 66 rfl) g27 rfl ?_
    refine s_iconst hG dX12_wait1_209 ⟨by decide, by decide⟩ ?_
    refine s_icmp_eq hG 285 dX12_wait1_210 (by decide) (fun c39 => ?_) (fun c39 => ?_)
    · replace hF := Eq.trans (if_pos c39).symm hF
      refine m_weak (ls1 := [some (.inr (.inr 64)), some (.inl a1), some (.inl a2), none, none, none, none]) hG ⟨rfl, ⟨rfl, ⟨rfl, trivial⟩⟩⟩ ?_
      exact t_X12_wait1_l189_j285 hsk hd hG hK0 hK1 hF
    · replace hF := Eq.trans (if_neg c39).symm hF
      refine s_aload_n hG dX12_wait1_213 rfl ?_
      obtain ⟨o28, ho28, hF⟩ := bd_some hF
      refine s_callV (d' := d - 1) (ci := 12) (args := []) hG (by omega) dX12_wait1_214 cv_RX12_210 cw_X12_year rfl rfl (sk_k hsk 64 rfl) (Nat.le_of_ble_eq_true rfl) rfl (t_X12_year hsk (by omega) ho28) ?_
      refine s_aload_n hG dX12_wait1_217 rfl ?_
      refine s_getr (r := 66) hG dX12_wait1_218 fl_RX12_13 (sk_k hsk 64 rfl) rfl (sk_R hsk 64 3 rfl) ?_
      refine s_iload_n hG dX12_wait1_221 rfl ?_
      refine s_iconst hG dX12_wait1_222 ⟨by decide, by decide⟩ ?_
      refine s_iadd hG dX12_wait1_223 ?_
      obtain ⟨g29, hF⟩ := gd_some hF
      refine s_ialdj (j := (m_w ((m_w (141 + (m_w (2 * a2)))) + 1)).toNat) hG dX12_wait1_224 (sk_K hsk 66 rfl) g29 rfl ?_
      refine s_isub hG dX12_wait1_225 ?_
      refine s_aload_n hG dX12_wait1_226 rfl ?_
      refine s_getr (r := 66) hG dX12_wait1_227 fl_RX12_13 (sk_k hsk 64 rfl) rfl (sk_R hsk 64 3 rfl) ?_
      refine s_bipush hG dX12_wait1_230 bp_7 ⟨by decide, by decide⟩ ?_
      refine s_ialdj (j := 7) hG dX12_wait1_232 (sk_K hsk 66 rfl) ⟨by decide, by decide⟩ rfl ?_
      refine s_icmp_lt hG 285 dX12_wait1_233 (by decide) (fun c38 => ?_) (fun c38 => ?_)
      · replace hF := Eq.trans (if_pos c38).symm hF
        refine m_weak (ls1 := [some (.inr (.inr 64)), some (.inl a1), some (.inl a2), none, none, none, none]) hG ⟨rfl, ⟨rfl, ⟨rfl, trivial⟩⟩⟩ ?_
        exact t_X12_wait1_l189_j285 hsk hd hG hK0 hK1 hF
      · replace hF := Eq.trans (if_neg c38).symm hF
        refine s_aload_n hG dX12_wait1_236 rfl ?_
        refine s_getr (r := 66) hG dX12_wait1_237 fl_RX12_13 (sk_k hsk 64 rfl) rfl (sk_R hsk 64 3 rfl) ?_
        refine s_bipush hG dX12_wait1_240 bp_9 ⟨by decide, by decide⟩ ?_
        refine s_bipush hG dX12_wait1_242 bp_6 ⟨by decide, by decide⟩ ?_
        refine s_iload_n hG dX12_wait1_244 rfl ?_
        refine s_bipush hG dX12_wait1_245 bp_6 ⟨by decide, by decide⟩ ?_
        refine s_idiv hG dX12_wait1_247 (by decide) ?_
        refine s_imul hG dX12_wait1_248 ?_
        refine s_iadd hG dX12_wait1_249 ?_
        refine s_iconst hG dX12_wait1_250 ⟨by decide, by decide⟩ ?_
        refine s_iadd hG dX12_wait1_251 ?_
        refine s_dup2 hG dX12_wait1_252 rfl rfl ?_
        obtain ⟨g30, hF⟩ := gd_some hF
        refine s_ialdj (j := (m_w ((m_w (9 + (m_w (6 * (m_div a2 6))))) + 4)).toNat) hG dX12_wait1_253 (sk_K hsk 66 rfl) g30 rfl ?_
        refine s_iconst hG dX12_wait1_254 ⟨by decide, by decide⟩ ?_
        refine s_iadd hG dX12_wait1_255 ?_
        obtain ⟨g31, hF⟩ := gd_some hF
        refine s_iastj (j := (m_w ((m_w (9 + (m_w (6 * (m_div a2 6))))) + 4)).toNat) hG dX12_wait1_256 (sk_K hsk 66 rfl) g31 rfl ?_
        refine s_aload_n hG dX12_wait1_257 rfl ?_
        refine s_getr (r := 66) hG dX12_wait1_258 fl_RX12_13 (sk_k hsk 64 rfl) rfl (sk_R hsk 64 3 rfl) ?_
        refine s_bipush hG dX12_wait1_261 bp_9 ⟨by decide, by decide⟩ ?_
        refine s_bipush hG dX12_wait1_263 bp_6 ⟨by decide, by decide⟩ ?_
        refine s_iload_n hG dX12_wait1_265 rfl ?_
        refine s_bipush hG dX12_wait1_266 bp_6 ⟨by decide, by decide⟩ ?_
        refine s_irem hG dX12_wait1_268 (by decide) ?_
        refine s_imul hG dX12_wait1_269 ?_
        refine s_iadd hG dX12_wait1_270 ?_
        refine s_iconst hG dX12_wait1_271 ⟨by decide, by decide⟩ ?_
        refine s_iadd hG dX12_wait1_272 ?_
        refine s_dup2 hG dX12_wait1_273 rfl rfl ?_
        obtain ⟨g33, hF⟩ := gd_some hF
        refine s_ialdj (j := (m_w ((m_w (9 + (m_w (6 * (m_rem a2 6))))) + 5)).toNat) hG dX12_wait1_274 (sk_K hsk 66 rfl) g33 rfl ?_
        refine s_iconst hG dX12_wait1_275 ⟨by decide, by decide⟩ ?_
        refine s_iadd hG dX12_wait1_276 ?_
        obtain ⟨g34, hF⟩ := gd_some hF
        refine s_iastj (j := (m_w ((m_w (9 + (m_w (6 * (m_rem a2 6))))) + 5)).toNat) hG dX12_wait1_277 (sk_K hsk 66 rfl) g34 rfl ?_
        refine s_aload_n hG dX12_wait1_278 rfl ?_
        refine s_getr (r := 66) hG dX12_wait1_279 fl_RX12_13 (sk_k hsk 64 rfl) rfl (sk_R hsk 64 3 rfl) ?_
        refine s_iload_n hG dX12_wait1_282 rfl ?_
        refine s_iconst hG dX12_wait1_283 ⟨by decide, by decide⟩ ?_
        obtain ⟨g36, hF⟩ := gd_some hF
        refine s_iastj (j := (m_w (141 + (m_w (2 * a2)))).toNat) hG dX12_wait1_284 (sk_K hsk 66 rfl) g36 rfl ?_
        refine m_weak (ls1 := [some (.inr (.inr 64)), some (.inl a1), some (.inl a2), none, none, none, none]) hG ⟨rfl, ⟨rfl, ⟨rfl, trivial⟩⟩⟩ ?_
        exact t_X12_wait1_l189_j285 hsk hd hG hK0 hK1 hF
  · replace hF := Eq.trans (if_neg c40).symm hF
    cases hF
    refine m_weak (ls1 := [none, some (.inl a1), none, none, none, none, none]) hG ⟨rfl, trivial⟩ ?_
    exact hK1 _ rfl
theorem t_X12_wait1_lp189 {d n0 s0 nF sF : Nat} {X : MX} {Ω : Nat → MS → Prop} {N : NN} {a1 : Int} {a2 : Int} (hsk : m_Sk X) (hd : 9 ≤ d) (hG : m_G d yX12_wait1.cls yX12_wait1.name cX12_wait1 7 n0 s0 nF sF Ω) {t : (NN × Int)} (hK1 : Ω 291 ([none, some (.inl t.2), none, none, none, none, none], [], t.1, X)) (hl : lp (fun s => b_X12_wait1_189 X s.1 s.2.1 s.2.2) (N, a1, a2) = some t) : Ω 189 ([some (.inr (.inr 64)), some (.inl a1), some (.inl a2), none, none, none, none], [], N, X) := by
  refine lp_ok (P := fun s => Ω 189 ([some (.inr (.inr 64)), some (.inl s.2.1), some (.inl s.2.2), none, none, none, none], [], s.1, X)) (K := fun t => Ω 291 ([none, some (.inl t.2), none, none, none, none, none], [], t.1, X)) (fun s out hF hK0 hK1 => ?_) hl hK1
  exact t_X12_wait1_b189 hsk hd hG (out := out) (fun s' e => hK0 s' e) (fun t' e => hK1 t' e) hF
theorem t_X12_wait1 {d : Nat} {X : MX} {N : NN} {out : (Int × NN)} (hsk : m_Sk X) (hd : 9 ≤ d) (hF : f_X12_wait1 X N = some out) : m_Call d yX12_wait1 cX12_wait1 7 (some .int) [(.inr (.inr 64))] N X (some (.inl out.1)) out.2 X := by
  refine m_mk (ls0 := [some (.inr (.inr 64)), none, none, none, none, none, none]) (by decide) rfl (Nat.le_of_ble_eq_true rfl) (Nat.le_refl _) (Nat.le_refl _) (fun Ω hE => ?_)
  have hG := hE.G
  unfold f_X12_wait1 at hF
  refine s_aload_n hG dX12_wait1_0 rfl ?_
  refine s_getr (r := 66) hG dX12_wait1_1 fl_RX12_13 (sk_k hsk 64 rfl) rfl (sk_R hsk 64 3 rfl) ?_
  refine s_bipush hG dX12_wait1_4 bp_6 ⟨by decide, by decide⟩ ?_
  refine s_dup2 hG dX12_wait1_6 rfl rfl ?_
  refine s_ialdj (j := 6) hG dX12_wait1_7 (sk_K hsk 66 rfl) ⟨by decide, by decide⟩ rfl ?_
  refine s_iconst hG dX12_wait1_8 ⟨by decide, by decide⟩ ?_
  refine s_iadd hG dX12_wait1_9 ?_
  refine s_iastj (j := 6) hG dX12_wait1_10 (sk_K hsk 66 rfl) ⟨by decide, by decide⟩ rfl ?_
  refine s_iconst hG dX12_wait1_11 ⟨by decide, by decide⟩ ?_
  refine s_istore_n hG dX12_wait1_12 (by decide) rfl ?_
  refine s_iconst hG dX12_wait1_13 ⟨by decide, by decide⟩ ?_
  refine s_istore_n hG dX12_wait1_14 (by decide) rfl ?_
  obtain ⟨o26, hlo26, hF⟩ := bd_some hF
  refine t_X12_wait1_lp15 hsk hd hG ?_ hlo26
  refine s_iconst hG dX12_wait1_187 ⟨by decide, by decide⟩ ?_
  refine s_istore_n hG dX12_wait1_188 (by decide) rfl ?_
  obtain ⟨o41, hlo41, hF⟩ := bd_some hF
  refine t_X12_wait1_lp189 hsk hd hG ?_ hlo41
  refine s_iload_n hG dX12_wait1_291 rfl ?_
  cases hF
  exact s_iret hE dX12_wait1_292 rfl
-- X12_waitNow
theorem t_X12_waitNow {d : Nat} {X : MX} {N : NN} {out : (Int × NN)} (hsk : m_Sk X) (hd : 10 ≤ d) (hF : f_X12_waitNow X N = some out) : m_Call d yX12_waitNow cX12_waitNow 1 (some .int) [(.inr (.inr 64))] N X (some (.inl out.1)) out.2 X := by
  refine m_mk (ls0 := [some (.inr (.inr 64))]) (by decide) rfl (Nat.le_of_ble_eq_true rfl) (Nat.le_refl _) (Nat.le_refl _) (fun Ω hE => ?_)
  have hG := hE.G
  unfold f_X12_waitNow at hF
  refine s_aload_n hG dX12_waitNow_0 rfl ?_
  obtain ⟨o1, ho1, hF⟩ := bd_some hF
  refine s_callV (d' := d - 1) (ci := 12) (args := []) hG (by omega) dX12_waitNow_1 cv_RX12_210 cw_X12_year rfl rfl (sk_k hsk 64 rfl) (Nat.le_of_ble_eq_true rfl) rfl (t_X12_year hsk (by omega) ho1) ?_
  refine s_sipush hG dX12_waitNow_4 sp_999 ⟨by decide, by decide⟩ ?_
  refine s_icmp_ne hG 13 dX12_waitNow_7 (by decide) (fun c5 => ?_) (fun c5 => ?_)
  · replace hF := Eq.trans (if_pos c5).symm hF
    refine s_bipush hG dX12_waitNow_10 bp_m3 ⟨by decide, by decide⟩ ?_
    cases hF
    exact s_iret hE dX12_waitNow_12 rfl
  · replace hF := Eq.trans (if_neg c5).symm hF
    refine s_aload_n hG dX12_waitNow_13 rfl ?_
    refine s_iconst hG dX12_waitNow_14 ⟨by decide, by decide⟩ ?_
    obtain ⟨o2, ho2, hF⟩ := bd_some hF
    refine s_callV (d' := d - 1) (ci := 12) (args := [.inl 1]) hG (by omega) dX12_waitNow_15 cv_RX12_468 cw_X12_remember rfl rfl (sk_k hsk 64 rfl) (Nat.le_of_ble_eq_true rfl) rfl (t_X12_remember hsk (by omega) ho2) ?_
    refine s_aload_n hG dX12_waitNow_18 rfl ?_
    refine s_iconst hG dX12_waitNow_19 ⟨by decide, by decide⟩ ?_
    refine s_puti hG dX12_waitNow_20 fl_RX12_455 (fun h => by cases h) (sk_k hsk 64 rfl) rfl ?_
    refine s_aload_n hG dX12_waitNow_23 rfl ?_
    obtain ⟨o4, ho4, hF⟩ := bd_some hF
    refine s_callV (d' := d - 1) (ci := 12) (args := []) hG (by omega) dX12_waitNow_24 cv_RX12_474 cw_X12_wait1 rfl rfl (sk_k hsk 64 rfl) (Nat.le_of_ble_eq_true rfl) rfl (t_X12_wait1 hsk (by omega) ho4) ?_
    cases hF
    exact s_iret hE dX12_waitNow_27 rfl
-- X12_await
theorem t_X12_await {d : Nat} {X : MX} {N : NN} {out : (Int × NN)} (hsk : m_Sk X) (hd : 11 ≤ d) (hF : f_X12_await X N = some out) : m_Call d yX12_await cX12_await 1 (some .int) [(.inr (.inr 64))] N X (some (.inl out.1)) out.2 X := by
  refine m_mk (ls0 := [some (.inr (.inr 64))]) (by decide) rfl (Nat.le_of_ble_eq_true rfl) (Nat.le_refl _) (Nat.le_refl _) (fun Ω hE => ?_)
  have hG := hE.G
  unfold f_X12_await at hF
  refine s_aload_n hG dX12_await_0 rfl ?_
  refine s_iconst hG dX12_await_1 ⟨by decide, by decide⟩ ?_
  refine s_puti hG dX12_await_2 fl_RX12_166 (fun h => by cases h) (sk_k hsk 64 rfl) rfl ?_
  refine s_aload_n hG dX12_await_5 rfl ?_
  refine s_aload_n hG dX12_await_6 rfl ?_
  obtain ⟨o2, ho2, hF⟩ := bd_some hF
  refine s_callV (d' := d - 1) (ci := 12) (args := []) hG (by omega) dX12_await_7 cv_RX12_480 cw_X12_waitNow rfl rfl (sk_k hsk 64 rfl) (Nat.le_of_ble_eq_true rfl) rfl (t_X12_waitNow hsk (by omega) ho2) ?_
  obtain ⟨o3, ho3, hF⟩ := bd_some hF
  refine s_callV (d' := d - 1) (ci := 12) (args := [.inl o2.1]) hG (by omega) dX12_await_10 cv_RX12_175 cw_X12_tell rfl rfl (sk_k hsk 64 rfl) (Nat.le_of_ble_eq_true rfl) rfl (t_X12_tell hsk (by omega) ho3) ?_
  cases hF
  exact s_iret hE dX12_await_13 rfl
-- X12_settled
theorem t_X12_settled_j13 {d n0 s0 nF sF : Nat} {X : MX} {Ω : Nat → MS → Prop} {N : NN} {a1 : Int} {z1 : Int} (hsk : m_Sk X) (hd : 2 ≤ d) (hG : m_G d yX12_settled.cls yX12_settled.name cX12_settled 2 n0 s0 nF sF Ω) {out : (Int × NN)} (hE : m_Gd d yX12_settled cX12_settled 2 (some .int) X (some (.inl out.1)) out.2 X Ω) (hF : f_X12_settled_j13 X N a1 z1 = some out) : Ω 13 ([some (.inr (.inr 64)), some (.inl a1)], [(.inl z1), (.inr (.inr 64))], N, X) := by
  unfold f_X12_settled_j13 at hF
  refine s_puti hG dX12_settled_13 fl_RX12_172 (fun h => by cases h) (sk_k hsk 64 rfl) rfl ?_
  refine s_aload_n hG dX12_settled_16 rfl ?_
  refine s_iload_n hG dX12_settled_17 rfl ?_
  obtain ⟨o3, ho3, hF⟩ := bd_some hF
  refine s_callV (d' := d - 1) (ci := 12) (args := [.inl a1]) hG (by omega) dX12_settled_18 cv_RX12_175 cw_X12_tell rfl rfl (sk_k hsk 64 rfl) (Nat.le_of_ble_eq_true rfl) rfl (t_X12_tell hsk (by omega) ho3) ?_
  cases hF
  exact s_iret hE dX12_settled_21 rfl
theorem t_X12_settled {d : Nat} {X : MX} {N : NN} {a1 : Int} {out : (Int × NN)} (hsk : m_Sk X) (hd : 2 ≤ d) (hF : f_X12_settled X N a1 = some out) : m_Call d yX12_settled cX12_settled 2 (some .int) [(.inr (.inr 64)), (.inl a1)] N X (some (.inl out.1)) out.2 X := by
  refine m_mk (ls0 := [some (.inr (.inr 64)), some (.inl a1)]) (by decide) rfl (Nat.le_of_ble_eq_true rfl) (Nat.le_refl _) (Nat.le_refl _) (fun Ω hE => ?_)
  have hG := hE.G
  unfold f_X12_settled at hF
  refine s_aload_n hG dX12_settled_0 rfl ?_
  refine s_iload_n hG dX12_settled_1 rfl ?_
  refine s_if_ge hG 12 dX12_settled_2 (by decide) (fun c1 => ?_) (fun c1 => ?_)
  · replace hF := Eq.trans (if_pos c1).symm hF
    refine s_aload_n hG dX12_settled_5 rfl ?_
    refine s_geti hG dX12_settled_6 fl_RX12_172 (sk_k hsk 64 rfl) rfl ?_
    refine s_goto hG 13 dX12_settled_9 (by decide) ?_
    exact t_X12_settled_j13 hsk hd hG hE hF
  · replace hF := Eq.trans (if_neg c1).symm hF
    refine s_iconst hG dX12_settled_12 ⟨by decide, by decide⟩ ?_
    exact t_X12_settled_j13 hsk hd hG hE hF
-- X12_back
theorem t_X12_back_b39 {d n0 s0 nF sF : Nat} {X : MX} {Ω : Nat → MS → Prop} {N : NN} {a1 : Int} {a2 : Int} (hsk : m_Sk X) (hd : 3 ≤ d) (hG : m_G d yX12_back.cls yX12_back.name cX12_back 3 n0 s0 nF sF Ω) {out : ((NN × Int × Int) ⊕ NN)} (hK0 : ∀ s' : (NN × Int × Int), out = .inl s' → Ω 39 ([some (.inr (.inr 64)), some (.inl (s'.2.1)), some (.inl (s'.2.2))], [], s'.1, X)) (hK1 : ∀ t : NN, out = .inr t → Ω 70 ([some (.inr (.inr 64)), none, none], [], t, X)) (hF : b_X12_back_39 X N a1 a2 = some out) : Ω 39 ([some (.inr (.inr 64)), some (.inl a1), some (.inl a2)], [], N, X) := by
  unfold b_X12_back_39 at hF
  refine s_iload_n hG dX12_back_39 rfl ?_
  refine s_sipush hG dX12_back_40 sp_5670 ⟨by decide, by decide⟩ ?_
  refine s_icmp_ge hG 70 dX12_back_43 (by decide) (fun c9 => ?_) (fun c9 => ?_)
  · replace hF := Eq.trans (if_pos c9).symm hF
    refine s_aload_n hG dX12_back_46 rfl ?_
    refine s_getr (r := 66) hG dX12_back_47 fl_RX12_13 (sk_k hsk 64 rfl) rfl (sk_R hsk 64 3 rfl) ?_
    refine s_iload_n hG dX12_back_50 rfl ?_
    refine s_aload_n hG dX12_back_51 rfl ?_
    refine s_getr (r := 67) hG dX12_back_52 fl_RX12_16 (sk_k hsk 64 rfl) rfl (sk_R hsk 64 4 rfl) ?_
    refine s_sipush hG dX12_back_55 sp_5670 ⟨by decide, by decide⟩ ?_
    refine s_iload_n hG dX12_back_58 rfl ?_
    refine s_imul hG dX12_back_59 ?_
    refine s_iload_n hG dX12_back_60 rfl ?_
    refine s_iadd hG dX12_back_61 ?_
    obtain ⟨g6, hF⟩ := gd_some hF
    refine s_ialdj (j := (m_w ((m_w (5670 * a1)) + a2)).toNat) hG dX12_back_62 (sk_K hsk 67 rfl) g6 rfl ?_
    obtain ⟨g7, hF⟩ := gd_some hF
    refine s_iastj (j := a2.toNat) hG dX12_back_63 (sk_K hsk 66 rfl) g7 rfl ?_
    refine s_iinc hG dX12_back_64 (by decide) rfl rfl ?_
    refine s_goto hG 39 dX12_back_67 (by decide) ?_
    cases hF
    exact hK0 _ rfl
  · replace hF := Eq.trans (if_neg c9).symm hF
    cases hF
    refine m_weak (ls1 := [some (.inr (.inr 64)), none, none]) hG ⟨rfl, trivial⟩ ?_
    exact hK1 _ rfl
theorem t_X12_back_lp39 {d n0 s0 nF sF : Nat} {X : MX} {Ω : Nat → MS → Prop} {N : NN} {a1 : Int} {a2 : Int} (hsk : m_Sk X) (hd : 3 ≤ d) (hG : m_G d yX12_back.cls yX12_back.name cX12_back 3 n0 s0 nF sF Ω) {t : NN} (hK1 : Ω 70 ([some (.inr (.inr 64)), none, none], [], t, X)) (hl : lp (fun s => b_X12_back_39 X s.1 s.2.1 s.2.2) (N, a1, a2) = some t) : Ω 39 ([some (.inr (.inr 64)), some (.inl a1), some (.inl a2)], [], N, X) := by
  refine lp_ok (P := fun s => Ω 39 ([some (.inr (.inr 64)), some (.inl s.2.1), some (.inl s.2.2)], [], s.1, X)) (K := fun t => Ω 70 ([some (.inr (.inr 64)), none, none], [], t, X)) (fun s out hF hK0 hK1 => ?_) hl hK1
  exact t_X12_back_b39 hsk hd hG (out := out) (fun s' e => hK0 s' e) (fun t' e => hK1 t' e) hF
theorem t_X12_back {d : Nat} {X : MX} {N : NN} {a1 : Int} {out : (Int × NN)} (hsk : m_Sk X) (hd : 3 ≤ d) (hF : f_X12_back X N a1 = some out) : m_Call d yX12_back cX12_back 3 (some .int) [(.inr (.inr 64)), (.inl a1)] N X (some (.inl out.1)) out.2 X := by
  refine m_mk (ls0 := [some (.inr (.inr 64)), some (.inl a1), none]) (by decide) rfl (Nat.le_of_ble_eq_true rfl) (Nat.le_refl _) (Nat.le_refl _) (fun Ω hE => ?_)
  have hG := hE.G
  unfold f_X12_back at hF
  refine s_aload_n hG dX12_back_0 rfl ?_
  refine s_iconst hG dX12_back_1 ⟨by decide, by decide⟩ ?_
  refine s_puti hG dX12_back_2 fl_RX12_166 (fun h => by cases h) (sk_k hsk 64 rfl) rfl ?_
  refine s_iload_n hG dX12_back_5 rfl ?_
  refine s_i2l hG dX12_back_6 ?_
  refine s_lconst (v := 0) hG dX12_back_7 rfl ⟨by decide, by decide⟩ ?_
  refine s_lconst (v := 1) hG dX12_back_8 rfl ⟨by decide, by decide⟩ ?_
  obtain ⟨o2, ho2, hF⟩ := bd_some hF
  refine s_callS (d' := d - 1) (args := [.inr (.inl a1), .inr (.inl 0), .inr (.inl 1)]) hG (by omega) dX12_back_9 cs_RX12_179 cw_X12_in rfl (Nat.le_of_ble_eq_true rfl) rfl (t_X12_in hsk (by omega) ho2) ?_
  refine s_if_ne hG 21 dX12_back_12 (by decide) (fun c13 => ?_) (fun c13 => ?_)
  · replace hF := Eq.trans (if_pos c13).symm hF
    refine s_aload_n hG dX12_back_15 rfl ?_
    refine s_iconst hG dX12_back_16 ⟨by decide, by decide⟩ ?_
    obtain ⟨o3, ho3, hF⟩ := bd_some hF
    refine s_callV (d' := d - 1) (ci := 12) (args := [.inl (-1)]) hG (by omega) dX12_back_17 cv_RX12_175 cw_X12_tell rfl rfl (sk_k hsk 64 rfl) (Nat.le_of_ble_eq_true rfl) rfl (t_X12_tell hsk (by omega) ho3) ?_
    cases hF
    exact s_iret hE dX12_back_20 rfl
  · replace hF := Eq.trans (if_neg c13).symm hF
    refine s_aload_n hG dX12_back_21 rfl ?_
    refine s_getr (r := 68) hG dX12_back_22 fl_RX12_19 (sk_k hsk 64 rfl) rfl (sk_R hsk 64 5 rfl) ?_
    refine s_iload_n hG dX12_back_25 rfl ?_
    obtain ⟨g4, hF⟩ := gd_some hF
    refine s_zaldj (j := a1.toNat) hG dX12_back_26 (sk_K hsk 68 rfl) g4 rfl ?_
    refine s_if_ne hG 37 dX12_back_27 (by decide) (fun c12 => ?_) (fun c12 => ?_)
    · replace hF := Eq.trans (if_pos c12).symm hF
      refine s_aload_n hG dX12_back_30 rfl ?_
      refine s_bipush hG dX12_back_31 bp_m2 ⟨by decide, by decide⟩ ?_
      obtain ⟨o5, ho5, hF⟩ := bd_some hF
      refine s_callV (d' := d - 1) (ci := 12) (args := [.inl (-2)]) hG (by omega) dX12_back_33 cv_RX12_175 cw_X12_tell rfl rfl (sk_k hsk 64 rfl) (Nat.le_of_ble_eq_true rfl) rfl (t_X12_tell hsk (by omega) ho5) ?_
      cases hF
      exact s_iret hE dX12_back_36 rfl
    · replace hF := Eq.trans (if_neg c12).symm hF
      refine s_iconst hG dX12_back_37 ⟨by decide, by decide⟩ ?_
      refine s_istore_n hG dX12_back_38 (by decide) rfl ?_
      obtain ⟨o10, hlo10, hF⟩ := bd_some hF
      refine t_X12_back_lp39 hsk hd hG ?_ hlo10
      refine s_aload_n hG dX12_back_70 rfl ?_
      refine s_iconst hG dX12_back_71 ⟨by decide, by decide⟩ ?_
      obtain ⟨o11, ho11, hF⟩ := bd_some hF
      refine s_callV (d' := d - 1) (ci := 12) (args := [.inl 0]) hG (by omega) dX12_back_72 cv_RX12_183 cw_X12_settled rfl rfl (sk_k hsk 64 rfl) (Nat.le_of_ble_eq_true rfl) rfl (t_X12_settled hsk (by omega) ho11) ?_
      cases hF
      exact s_iret hE dX12_back_75 rfl
-- X12_beats
theorem t_X12_beats_l34_j84 {d n0 s0 nF sF : Nat} {X : MX} {Ω : Nat → MS → Prop} {N : NN} {a1 : Int} {a2 : Int} {a3 : Int} {a5 : Int} {z0 : Int} (hsk : m_Sk X) (hd : 8 ≤ d) (hG : m_G d yX12_beats.cls yX12_beats.name cX12_beats 7 n0 s0 nF sF Ω) {out : ((NN × Int × Int × Int × Int × Int) ⊕ (NN × Int × Int × Int × Int))} (hK0 : ∀ s' : (NN × Int × Int × Int × Int × Int), out = .inl s' → Ω 34 ([some (.inr (.inr 64)), some (.inl (s'.2.1)), some (.inl (s'.2.2.1)), some (.inl (s'.2.2.2.1)), some (.inl (s'.2.2.2.2.1)), some (.inl (s'.2.2.2.2.2)), none], [], s'.1, X)) (hK1 : ∀ t : (NN × Int × Int × Int × Int), out = .inr t → Ω 92 ([some (.inr (.inr 64)), some (.inl t.2.1), some (.inl t.2.2.1), some (.inl t.2.2.2.1), some (.inl t.2.2.2.2), none, none], [], t.1, X)) (hF : f_X12_beats_l34_j84 X N a1 a2 a3 a5 z0 = some out) : Ω 84 ([some (.inr (.inr 64)), some (.inl a1), some (.inl a2), some (.inl a3), none, some (.inl a5), none], [(.inl z0)], N, X) := by
  unfold f_X12_beats_l34_j84 at hF
  refine s_istore hG dX12_beats_84 (by decide) rfl ?_
  refine s_iinc hG dX12_beats_86 (by decide) rfl rfl ?_
  refine s_goto hG 34 dX12_beats_89 (by decide) ?_
  cases hF
  exact hK0 _ rfl
theorem t_X12_beats_l34_j68 {d n0 s0 nF sF : Nat} {X : MX} {Ω : Nat → MS → Prop} {N : NN} {a1 : Int} {a2 : Int} {a3 : Int} {a4 : Int} {a5 : Int} {z0 : Int} (hsk : m_Sk X) (hd : 8 ≤ d) (hG : m_G d yX12_beats.cls yX12_beats.name cX12_beats 7 n0 s0 nF sF Ω) {out : ((NN × Int × Int × Int × Int × Int) ⊕ (NN × Int × Int × Int × Int))} (hK0 : ∀ s' : (NN × Int × Int × Int × Int × Int), out = .inl s' → Ω 34 ([some (.inr (.inr 64)), some (.inl (s'.2.1)), some (.inl (s'.2.2.1)), some (.inl (s'.2.2.2.1)), some (.inl (s'.2.2.2.2.1)), some (.inl (s'.2.2.2.2.2)), none], [], s'.1, X)) (hK1 : ∀ t : (NN × Int × Int × Int × Int), out = .inr t → Ω 92 ([some (.inr (.inr 64)), some (.inl t.2.1), some (.inl t.2.2.1), some (.inl t.2.2.2.1), some (.inl t.2.2.2.2), none, none], [], t.1, X)) (hF : f_X12_beats_l34_j68 X N a1 a2 a3 a4 a5 z0 = some out) : Ω 68 ([some (.inr (.inr 64)), some (.inl a1), some (.inl a2), some (.inl a3), some (.inl a4), some (.inl a5), none], [(.inl z0)], N, X) := by
  unfold f_X12_beats_l34_j68 at hF
  refine s_istore hG dX12_beats_68 (by decide) rfl ?_
  refine s_iload hG dX12_beats_70 rfl ?_
  refine s_iload hG dX12_beats_72 rfl ?_
  refine s_icmp_le hG 82 dX12_beats_74 (by decide) (fun c8 => ?_) (fun c8 => ?_)
  · replace hF := Eq.trans (if_pos c8).symm hF
    refine s_iload hG dX12_beats_77 rfl ?_
    refine s_goto hG 84 dX12_beats_79 (by decide) ?_
    refine m_weak (ls1 := [some (.inr (.inr 64)), some (.inl a1), some (.inl a2), some (.inl a3), none, some (.inl a5), none]) hG ⟨rfl, ⟨rfl, ⟨rfl, ⟨rfl, ⟨rfl, trivial⟩⟩⟩⟩⟩ ?_
    exact t_X12_beats_l34_j84 hsk hd hG hK0 hK1 hF
  · replace hF := Eq.trans (if_neg c8).symm hF
    refine s_iload hG dX12_beats_82 rfl ?_
    refine m_weak (ls1 := [some (.inr (.inr 64)), some (.inl a1), some (.inl a2), some (.inl a3), none, some (.inl a5), none]) hG ⟨rfl, ⟨rfl, ⟨rfl, ⟨rfl, ⟨rfl, trivial⟩⟩⟩⟩⟩ ?_
    exact t_X12_beats_l34_j84 hsk hd hG hK0 hK1 hF
theorem t_X12_beats_b34 {d n0 s0 nF sF : Nat} {X : MX} {Ω : Nat → MS → Prop} {N : NN} {a1 : Int} {a2 : Int} {a3 : Int} {a4 : Int} {a5 : Int} (hsk : m_Sk X) (hd : 8 ≤ d) (hG : m_G d yX12_beats.cls yX12_beats.name cX12_beats 7 n0 s0 nF sF Ω) {out : ((NN × Int × Int × Int × Int × Int) ⊕ (NN × Int × Int × Int × Int))} (hK0 : ∀ s' : (NN × Int × Int × Int × Int × Int), out = .inl s' → Ω 34 ([some (.inr (.inr 64)), some (.inl (s'.2.1)), some (.inl (s'.2.2.1)), some (.inl (s'.2.2.2.1)), some (.inl (s'.2.2.2.2.1)), some (.inl (s'.2.2.2.2.2)), none], [], s'.1, X)) (hK1 : ∀ t : (NN × Int × Int × Int × Int), out = .inr t → Ω 92 ([some (.inr (.inr 64)), some (.inl t.2.1), some (.inl t.2.2.1), some (.inl t.2.2.2.1), some (.inl t.2.2.2.2), none, none], [], t.1, X)) (hF : b_X12_beats_34 X N a1 a2 a3 a4 a5 = some out) : Ω 34 ([some (.inr (.inr 64)), some (.inl a1), some (.inl a2), some (.inl a3), some (.inl a4), some (.inl a5), none], [], N, X) := by
  unfold b_X12_beats_34 at hF
  refine s_iload hG dX12_beats_34 rfl ?_
  refine s_aload_n hG dX12_beats_36 rfl ?_
  refine s_getr (r := 66) hG dX12_beats_37 fl_RX12_13 (sk_k hsk 64 rfl) rfl (sk_R hsk 64 3 rfl) ?_
  refine s_iconst hG dX12_beats_40 ⟨by decide, by decide⟩ ?_
  refine s_ialdj (j := 1) hG dX12_beats_41 (sk_K hsk 66 rfl) ⟨by decide, by decide⟩ rfl ?_
  refine s_icmp_ge hG 92 dX12_beats_42 (by decide) (fun c7 => ?_) (fun c7 => ?_)
  · replace hF := Eq.trans (if_pos c7).symm hF
    refine s_aload_n hG dX12_beats_45 rfl ?_
    refine s_iload hG dX12_beats_46 rfl ?_
    refine s_iconst hG dX12_beats_48 ⟨by decide, by decide⟩ ?_
    obtain ⟨o4, ho4, hF⟩ := bd_some hF
    refine s_callV (d' := d - 1) (ci := 12) (args := [.inl a5, .inl 0]) hG (by omega) dX12_beats_49 cv_RX12_190 cw_X12_ofGood rfl rfl (sk_k hsk 64 rfl) (Nat.le_of_ble_eq_true rfl) rfl (t_X12_ofGood hsk (by omega) ho4) ?_
    refine s_iload_n hG dX12_beats_52 rfl ?_
    refine s_icmp_ne hG 67 dX12_beats_53 (by decide) (fun c6 => ?_) (fun c6 => ?_)
    · replace hF := Eq.trans (if_pos c6).symm hF
      refine s_aload_n hG dX12_beats_56 rfl ?_
      refine s_iload hG dX12_beats_57 rfl ?_
      refine s_iload_n hG dX12_beats_59 rfl ?_
      refine s_iload_n hG dX12_beats_60 rfl ?_
      obtain ⟨o5, ho5, hF⟩ := bd_some hF
      refine s_callV (d' := d - 1) (ci := 12) (args := [.inl a5, .inl a2, .inl a1]) hG (by omega) dX12_beats_61 cv_RX12_445 cw_X12_worthOf rfl rfl (sk_k hsk 64 rfl) (Nat.le_of_ble_eq_true rfl) rfl (t_X12_worthOf hsk (by omega) ho5) ?_
      refine s_goto hG 68 dX12_beats_64 (by decide) ?_
      exact t_X12_beats_l34_j68 hsk hd hG hK0 hK1 hF
    · replace hF := Eq.trans (if_neg c6).symm hF
      refine s_iconst hG dX12_beats_67 ⟨by decide, by decide⟩ ?_
      exact t_X12_beats_l34_j68 hsk hd hG hK0 hK1 hF
  · replace hF := Eq.trans (if_neg c7).symm hF
    cases hF
    refine m_weak (ls1 := [some (.inr (.inr 64)), some (.inl a1), some (.inl a2), some (.inl a3), some (.inl a4), none, none]) hG ⟨rfl, ⟨rfl, ⟨rfl, ⟨rfl, ⟨rfl, trivial⟩⟩⟩⟩⟩ ?_
    exact hK1 _ rfl
theorem t_X12_beats_lp34 {d n0 s0 nF sF : Nat} {X : MX} {Ω : Nat → MS → Prop} {N : NN} {a1 : Int} {a2 : Int} {a3 : Int} {a4 : Int} {a5 : Int} (hsk : m_Sk X) (hd : 8 ≤ d) (hG : m_G d yX12_beats.cls yX12_beats.name cX12_beats 7 n0 s0 nF sF Ω) {t : (NN × Int × Int × Int × Int)} (hK1 : Ω 92 ([some (.inr (.inr 64)), some (.inl t.2.1), some (.inl t.2.2.1), some (.inl t.2.2.2.1), some (.inl t.2.2.2.2), none, none], [], t.1, X)) (hl : lp (fun s => b_X12_beats_34 X s.1 s.2.1 s.2.2.1 s.2.2.2.1 s.2.2.2.2.1 s.2.2.2.2.2) (N, a1, a2, a3, a4, a5) = some t) : Ω 34 ([some (.inr (.inr 64)), some (.inl a1), some (.inl a2), some (.inl a3), some (.inl a4), some (.inl a5), none], [], N, X) := by
  refine lp_ok (P := fun s => Ω 34 ([some (.inr (.inr 64)), some (.inl s.2.1), some (.inl s.2.2.1), some (.inl s.2.2.2.1), some (.inl s.2.2.2.2.1), some (.inl s.2.2.2.2.2), none], [], s.1, X)) (K := fun t => Ω 92 ([some (.inr (.inr 64)), some (.inl t.2.1), some (.inl t.2.2.1), some (.inl t.2.2.2.1), some (.inl t.2.2.2.2), none, none], [], t.1, X)) (fun s out hF hK0 hK1 => ?_) hl hK1
  exact t_X12_beats_b34 hsk hd hG (out := out) (fun s' e => hK0 s' e) (fun t' e => hK1 t' e) hF
theorem t_X12_beats_l98_j145 {d n0 s0 nF sF : Nat} {X : MX} {Ω : Nat → MS → Prop} {N : NN} {a1 : Int} {a2 : Int} {a3 : Int} {a4 : Int} {a5 : Int} {a6 : Int} (hsk : m_Sk X) (hd : 8 ≤ d) (hG : m_G d yX12_beats.cls yX12_beats.name cX12_beats 7 n0 s0 nF sF Ω) {out : ((NN × Int × Int × Int × Int × Int × Int) ⊕ ((NN × Int × Int) ⊕ (NN × Int)))} (hK0 : ∀ s' : (NN × Int × Int × Int × Int × Int × Int), out = .inl s' → Ω 98 ([some (.inr (.inr 64)), some (.inl (s'.2.1)), some (.inl (s'.2.2.1)), some (.inl (s'.2.2.2.1)), some (.inl (s'.2.2.2.2.1)), some (.inl (s'.2.2.2.2.2.1)), some (.inl (s'.2.2.2.2.2.2))], [], s'.1, X)) (hK1 : ∀ t : ((NN × Int × Int) ⊕ (NN × Int)), out = .inr t → match t with | .inl e => Ω 151 ([none, none, none, some (.inl e.2.1), none, some (.inl e.2.2), none], [], e.1, X) | .inr e => Ω 139 ([none, none, none, none, none, none, some (.inl e.2)], [], e.1, X)) (hF : f_X12_beats_l98_j145 X N a1 a2 a3 a4 a5 a6 = some out) : Ω 145 ([some (.inr (.inr 64)), some (.inl a1), some (.inl a2), some (.inl a3), some (.inl a4), some (.inl a5), some (.inl a6)], [], N, X) := by
  unfold f_X12_beats_l98_j145 at hF
  refine s_iinc hG dX12_beats_145 (by decide) rfl rfl ?_
  refine s_goto hG 98 dX12_beats_148 (by decide) ?_
  cases hF
  exact hK0 _ rfl
theorem t_X12_beats_b98 {d n0 s0 nF sF : Nat} {X : MX} {Ω : Nat → MS → Prop} {N : NN} {a1 : Int} {a2 : Int} {a3 : Int} {a4 : Int} {a5 : Int} {a6 : Int} (hsk : m_Sk X) (hd : 8 ≤ d) (hG : m_G d yX12_beats.cls yX12_beats.name cX12_beats 7 n0 s0 nF sF Ω) {out : ((NN × Int × Int × Int × Int × Int × Int) ⊕ ((NN × Int × Int) ⊕ (NN × Int)))} (hK0 : ∀ s' : (NN × Int × Int × Int × Int × Int × Int), out = .inl s' → Ω 98 ([some (.inr (.inr 64)), some (.inl (s'.2.1)), some (.inl (s'.2.2.1)), some (.inl (s'.2.2.2.1)), some (.inl (s'.2.2.2.2.1)), some (.inl (s'.2.2.2.2.2.1)), some (.inl (s'.2.2.2.2.2.2))], [], s'.1, X)) (hK1 : ∀ t : ((NN × Int × Int) ⊕ (NN × Int)), out = .inr t → match t with | .inl e => Ω 151 ([none, none, none, some (.inl e.2.1), none, some (.inl e.2.2), none], [], e.1, X) | .inr e => Ω 139 ([none, none, none, none, none, none, some (.inl e.2)], [], e.1, X)) (hF : b_X12_beats_98 X N a1 a2 a3 a4 a5 a6 = some out) : Ω 98 ([some (.inr (.inr 64)), some (.inl a1), some (.inl a2), some (.inl a3), some (.inl a4), some (.inl a5), some (.inl a6)], [], N, X) := by
  unfold b_X12_beats_98 at hF
  refine s_iload hG dX12_beats_98 rfl ?_
  refine s_aload_n hG dX12_beats_100 rfl ?_
  refine s_getr (r := 66) hG dX12_beats_101 fl_RX12_13 (sk_k hsk 64 rfl) rfl (sk_R hsk 64 3 rfl) ?_
  refine s_iconst hG dX12_beats_104 ⟨by decide, by decide⟩ ?_
  refine s_ialdj (j := 1) hG dX12_beats_105 (sk_K hsk 66 rfl) ⟨by decide, by decide⟩ rfl ?_
  refine s_icmp_ge hG 151 dX12_beats_106 (by decide) (fun c15 => ?_) (fun c15 => ?_)
  · replace hF := Eq.trans (if_pos c15).symm hF
    refine s_aload_n hG dX12_beats_109 rfl ?_
    refine s_iload hG dX12_beats_110 rfl ?_
    refine s_iconst hG dX12_beats_112 ⟨by decide, by decide⟩ ?_
    obtain ⟨o10, ho10, hF⟩ := bd_some hF
    refine s_callV (d' := d - 1) (ci := 12) (args := [.inl a6, .inl 0]) hG (by omega) dX12_beats_113 cv_RX12_190 cw_X12_ofGood rfl rfl (sk_k hsk 64 rfl) (Nat.le_of_ble_eq_true rfl) rfl (t_X12_ofGood hsk (by omega) ho10) ?_
    refine s_iload_n hG dX12_beats_116 rfl ?_
    refine s_icmp_ne hG 145 dX12_beats_117 (by decide) (fun c14 => ?_) (fun c14 => ?_)
    · replace hF := Eq.trans (if_pos c14).symm hF
      refine s_aload_n hG dX12_beats_120 rfl ?_
      refine s_iload hG dX12_beats_121 rfl ?_
      refine s_iload_n hG dX12_beats_123 rfl ?_
      refine s_iload_n hG dX12_beats_124 rfl ?_
      obtain ⟨o11, ho11, hF⟩ := bd_some hF
      refine s_callV (d' := d - 1) (ci := 12) (args := [.inl a6, .inl a1, .inl a2]) hG (by omega) dX12_beats_125 cv_RX12_445 cw_X12_worthOf rfl rfl (sk_k hsk 64 rfl) (Nat.le_of_ble_eq_true rfl) rfl (t_X12_worthOf hsk (by omega) ho11) ?_
      refine s_iload hG dX12_beats_128 rfl ?_
      refine s_icmp_le hG 145 dX12_beats_130 (by decide) (fun c13 => ?_) (fun c13 => ?_)
      · replace hF := Eq.trans (if_pos c13).symm hF
        refine s_iload hG dX12_beats_133 rfl ?_
        refine s_iload_n hG dX12_beats_135 rfl ?_
        refine s_icmp_ne hG 142 dX12_beats_136 (by decide) (fun c12 => ?_) (fun c12 => ?_)
        · replace hF := Eq.trans (if_pos c12).symm hF
          cases hF
          refine m_weak (ls1 := [none, none, none, none, none, none, some (.inl a6)]) hG ⟨rfl, trivial⟩ ?_
          exact hK1 _ rfl
        · replace hF := Eq.trans (if_neg c12).symm hF
          refine s_iinc hG dX12_beats_142 (by decide) rfl rfl ?_
          exact t_X12_beats_l98_j145 hsk hd hG hK0 hK1 hF
      · replace hF := Eq.trans (if_neg c13).symm hF
        exact t_X12_beats_l98_j145 hsk hd hG hK0 hK1 hF
    · replace hF := Eq.trans (if_neg c14).symm hF
      exact t_X12_beats_l98_j145 hsk hd hG hK0 hK1 hF
  · replace hF := Eq.trans (if_neg c15).symm hF
    cases hF
    refine m_weak (ls1 := [none, none, none, some (.inl a3), none, some (.inl a5), none]) hG ⟨rfl, ⟨rfl, trivial⟩⟩ ?_
    exact hK1 _ rfl
theorem t_X12_beats_lp98 {d n0 s0 nF sF : Nat} {X : MX} {Ω : Nat → MS → Prop} {N : NN} {a1 : Int} {a2 : Int} {a3 : Int} {a4 : Int} {a5 : Int} {a6 : Int} (hsk : m_Sk X) (hd : 8 ≤ d) (hG : m_G d yX12_beats.cls yX12_beats.name cX12_beats 7 n0 s0 nF sF Ω) {t : ((NN × Int × Int) ⊕ (NN × Int))} (hK1 : match t with | .inl e => Ω 151 ([none, none, none, some (.inl e.2.1), none, some (.inl e.2.2), none], [], e.1, X) | .inr e => Ω 139 ([none, none, none, none, none, none, some (.inl e.2)], [], e.1, X)) (hl : lp (fun s => b_X12_beats_98 X s.1 s.2.1 s.2.2.1 s.2.2.2.1 s.2.2.2.2.1 s.2.2.2.2.2.1 s.2.2.2.2.2.2) (N, a1, a2, a3, a4, a5, a6) = some t) : Ω 98 ([some (.inr (.inr 64)), some (.inl a1), some (.inl a2), some (.inl a3), some (.inl a4), some (.inl a5), some (.inl a6)], [], N, X) := by
  refine lp_ok (P := fun s => Ω 98 ([some (.inr (.inr 64)), some (.inl s.2.1), some (.inl s.2.2.1), some (.inl s.2.2.2.1), some (.inl s.2.2.2.2.1), some (.inl s.2.2.2.2.2.1), some (.inl s.2.2.2.2.2.2)], [], s.1, X)) (K := fun t => match t with | .inl e => Ω 151 ([none, none, none, some (.inl e.2.1), none, some (.inl e.2.2), none], [], e.1, X) | .inr e => Ω 139 ([none, none, none, none, none, none, some (.inl e.2)], [], e.1, X)) (fun s out hF hK0 hK1 => ?_) hl hK1
  exact t_X12_beats_b98 hsk hd hG (out := out) (fun s' e => hK0 s' e) (fun t' e => hK1 t' e) hF
theorem t_X12_beats_j26 {d n0 s0 nF sF : Nat} {X : MX} {Ω : Nat → MS → Prop} {N : NN} (hsk : m_Sk X) (hd : 8 ≤ d) (hG : m_G d yX12_beats.cls yX12_beats.name cX12_beats 7 n0 s0 nF sF Ω) {out : (Int × NN)} (hE : m_Gd d yX12_beats cX12_beats 7 (some .int) X (some (.inl out.1)) out.2 X Ω) (hF : f_X12_beats_j26 X N = some out) : Ω 26 ([none, none, none, none, none, none, none], [], N, X) := by
  unfold f_X12_beats_j26 at hF
  refine s_iconst hG dX12_beats_26 ⟨by decide, by decide⟩ ?_
  cases hF
  exact s_iret hE dX12_beats_27 rfl
theorem t_X12_beats_j162 {d n0 s0 nF sF : Nat} {X : MX} {Ω : Nat → MS → Prop} {N : NN} {z0 : Int} (hsk : m_Sk X) (hd : 8 ≤ d) (hG : m_G d yX12_beats.cls yX12_beats.name cX12_beats 7 n0 s0 nF sF Ω) {out : (Int × NN)} (hE : m_Gd d yX12_beats cX12_beats 7 (some .int) X (some (.inl out.1)) out.2 X Ω) (hF : f_X12_beats_j162 X N z0 = some out) : Ω 162 ([none, none, none, none, none, none, none], [(.inl z0)], N, X) := by
  unfold f_X12_beats_j162 at hF
  cases hF
  exact s_iret hE dX12_beats_162 rfl
theorem t_X12_beats {d : Nat} {X : MX} {N : NN} {a1 : Int} {a2 : Int} {a3 : Int} {out : (Int × NN)} (hsk : m_Sk X) (hd : 8 ≤ d) (hF : f_X12_beats X N a1 a2 a3 = some out) : m_Call d yX12_beats cX12_beats 7 (some .int) [(.inr (.inr 64)), (.inl a1), (.inl a2), (.inl a3)] N X (some (.inl out.1)) out.2 X := by
  refine m_mk (ls0 := [some (.inr (.inr 64)), some (.inl a1), some (.inl a2), some (.inl a3), none, none, none]) (by decide) rfl (Nat.le_of_ble_eq_true rfl) (Nat.le_refl _) (Nat.le_refl _) (fun Ω hE => ?_)
  have hG := hE.G
  unfold f_X12_beats at hF
  refine s_aload_n hG dX12_beats_0 rfl ?_
  refine s_iconst hG dX12_beats_1 ⟨by decide, by decide⟩ ?_
  refine s_puti hG dX12_beats_2 fl_RX12_166 (fun h => by cases h) (sk_k hsk 64 rfl) rfl ?_
  refine s_aload_n hG dX12_beats_5 rfl ?_
  refine s_iload_n hG dX12_beats_6 rfl ?_
  obtain ⟨o2, ho2, hF⟩ := bd_some hF
  refine s_callV (d' := d - 1) (ci := 12) (args := [.inl a1]) hG (by omega) dX12_beats_7 cv_RX12_198 cw_X12_isLord rfl rfl (sk_k hsk 64 rfl) (Nat.le_of_ble_eq_true rfl) rfl (t_X12_isLord hsk (by omega) ho2) ?_
  refine s_if_eq hG 26 dX12_beats_10 (by decide) (fun c20 => ?_) (fun c20 => ?_)
  · replace hF := Eq.trans (if_pos c20).symm hF
    refine m_weak (ls1 := [none, none, none, none, none, none, none]) hG trivial ?_
    exact t_X12_beats_j26 hsk hd hG hE hF
  · replace hF := Eq.trans (if_neg c20).symm hF
    refine s_aload_n hG dX12_beats_13 rfl ?_
    refine s_iload_n hG dX12_beats_14 rfl ?_
    obtain ⟨o3, ho3, hF⟩ := bd_some hF
    refine s_callV (d' := d - 1) (ci := 12) (args := [.inl a2]) hG (by omega) dX12_beats_15 cv_RX12_198 cw_X12_isLord rfl rfl (sk_k hsk 64 rfl) (Nat.le_of_ble_eq_true rfl) rfl (t_X12_isLord hsk (by omega) ho3) ?_
    refine s_if_eq hG 26 dX12_beats_18 (by decide) (fun c19 => ?_) (fun c19 => ?_)
    · replace hF := Eq.trans (if_pos c19).symm hF
      refine m_weak (ls1 := [none, none, none, none, none, none, none]) hG trivial ?_
      exact t_X12_beats_j26 hsk hd hG hE hF
    · replace hF := Eq.trans (if_neg c19).symm hF
      refine s_iload_n hG dX12_beats_21 rfl ?_
      refine s_iload_n hG dX12_beats_22 rfl ?_
      refine s_icmp_ne hG 28 dX12_beats_23 (by decide) (fun c18 => ?_) (fun c18 => ?_)
      · replace hF := Eq.trans (if_pos c18).symm hF
        refine m_weak (ls1 := [none, none, none, none, none, none, none]) hG trivial ?_
        exact t_X12_beats_j26 hsk hd hG hE hF
      · replace hF := Eq.trans (if_neg c18).symm hF
        refine s_iconst hG dX12_beats_28 ⟨by decide, by decide⟩ ?_
        refine s_istore hG dX12_beats_29 (by decide) rfl ?_
        refine s_iconst hG dX12_beats_31 ⟨by decide, by decide⟩ ?_
        refine s_istore hG dX12_beats_32 (by decide) rfl ?_
        obtain ⟨o9, hlo9, hF⟩ := bd_some hF
        refine t_X12_beats_lp34 hsk hd hG ?_ hlo9
        refine s_iconst hG dX12_beats_92 ⟨by decide, by decide⟩ ?_
        refine s_istore hG dX12_beats_93 (by decide) rfl ?_
        refine s_iconst hG dX12_beats_95 ⟨by decide, by decide⟩ ?_
        refine s_istore hG dX12_beats_96 (by decide) rfl ?_
        obtain ⟨o16, hlo16, hF⟩ := bd_some hF
        refine t_X12_beats_lp98 hsk hd hG ?_ hlo16
        match o16, hF with
        | .inl e16, hF =>
              try dsimp only at hF
              refine s_iload_n hG dX12_beats_151 rfl ?_
              refine s_iconst hG dX12_beats_152 ⟨by decide, by decide⟩ ?_
              refine s_icmp_ne hG 161 dX12_beats_153 (by decide) (fun c17 => ?_) (fun c17 => ?_)
              · replace hF := Eq.trans (if_pos c17).symm hF
                refine s_iload hG dX12_beats_156 rfl ?_
                refine s_goto hG 162 dX12_beats_158 (by decide) ?_
                refine m_weak (ls1 := [none, none, none, none, none, none, none]) hG trivial ?_
                exact t_X12_beats_j162 hsk hd hG hE hF
              · replace hF := Eq.trans (if_neg c17).symm hF
                refine s_iconst hG dX12_beats_161 ⟨by decide, by decide⟩ ?_
                refine m_weak (ls1 := [none, none, none, none, none, none, none]) hG trivial ?_
                exact t_X12_beats_j162 hsk hd hG hE hF
        | .inr e16, hF =>
              try dsimp only at hF
              refine s_iload hG dX12_beats_139 rfl ?_
              cases hF
              exact s_iret hE dX12_beats_141 rfl
-- X12_isDigit
theorem t_X12_isDigit_j17 {d n0 s0 nF sF : Nat} {X : MX} {N : NN} {Ω : Nat → MS → Prop} {z0 : Int} (hsk : m_Sk X) (hd : 1 ≤ d) (hG : m_G d yX12_isDigit.cls yX12_isDigit.name cX12_isDigit 1 n0 s0 nF sF Ω) {out : Int} (hE : m_Gd d yX12_isDigit cX12_isDigit 1 (some .boolean) X (some (.inl out)) N X Ω) (hF : f_X12_isDigit_j17 X N z0 = some out) : Ω 17 ([none], [(.inl z0)], N, X) := by
  unfold f_X12_isDigit_j17 at hF
  obtain ⟨g3, hF⟩ := gd_some hF
  cases hF
  exact s_zret hE dX12_isDigit_17 rfl g3
theorem t_X12_isDigit_j16 {d n0 s0 nF sF : Nat} {X : MX} {N : NN} {Ω : Nat → MS → Prop} (hsk : m_Sk X) (hd : 1 ≤ d) (hG : m_G d yX12_isDigit.cls yX12_isDigit.name cX12_isDigit 1 n0 s0 nF sF Ω) {out : Int} (hE : m_Gd d yX12_isDigit cX12_isDigit 1 (some .boolean) X (some (.inl out)) N X Ω) (hF : f_X12_isDigit_j16 X N = some out) : Ω 16 ([none], [], N, X) := by
  unfold f_X12_isDigit_j16 at hF
  refine s_iconst hG dX12_isDigit_16 ⟨by decide, by decide⟩ ?_
  exact t_X12_isDigit_j17 hsk hd hG hE hF
theorem t_X12_isDigit {d : Nat} {X : MX} {N : NN} {a0 : Int} {out : Int} (hsk : m_Sk X) (hd : 1 ≤ d) (hF : f_X12_isDigit X N a0 = some out) : m_Call d yX12_isDigit cX12_isDigit 1 (some .boolean) [(.inl a0)] N X (some (.inl out)) N X := by
  refine m_mk (ls0 := [some (.inl a0)]) (by decide) rfl (Nat.le_of_ble_eq_true rfl) (Nat.le_refl _) (Nat.le_refl _) (fun Ω hE => ?_)
  have hG := hE.G
  unfold f_X12_isDigit at hF
  refine s_iload_n hG dX12_isDigit_0 rfl ?_
  refine s_bipush hG dX12_isDigit_1 bp_48 ⟨by decide, by decide⟩ ?_
  refine s_icmp_lt hG 16 dX12_isDigit_3 (by decide) (fun c2 => ?_) (fun c2 => ?_)
  · replace hF := Eq.trans (if_pos c2).symm hF
    refine m_weak (ls1 := [none]) hG trivial ?_
    exact t_X12_isDigit_j16 hsk hd hG hE hF
  · replace hF := Eq.trans (if_neg c2).symm hF
    refine s_iload_n hG dX12_isDigit_6 rfl ?_
    refine s_bipush hG dX12_isDigit_7 bp_57 ⟨by decide, by decide⟩ ?_
    refine s_icmp_gt hG 16 dX12_isDigit_9 (by decide) (fun c1 => ?_) (fun c1 => ?_)
    · replace hF := Eq.trans (if_pos c1).symm hF
      refine m_weak (ls1 := [none]) hG trivial ?_
      exact t_X12_isDigit_j16 hsk hd hG hE hF
    · replace hF := Eq.trans (if_neg c1).symm hF
      refine s_iconst hG dX12_isDigit_12 ⟨by decide, by decide⟩ ?_
      refine s_goto hG 17 dX12_isDigit_13 (by decide) ?_
      refine m_weak (ls1 := [none]) hG trivial ?_
      exact t_X12_isDigit_j17 hsk hd hG hE hF
-- X12_isSmall
theorem t_X12_isSmall_j17 {d n0 s0 nF sF : Nat} {X : MX} {N : NN} {Ω : Nat → MS → Prop} {z0 : Int} (hsk : m_Sk X) (hd : 1 ≤ d) (hG : m_G d yX12_isSmall.cls yX12_isSmall.name cX12_isSmall 1 n0 s0 nF sF Ω) {out : Int} (hE : m_Gd d yX12_isSmall cX12_isSmall 1 (some .boolean) X (some (.inl out)) N X Ω) (hF : f_X12_isSmall_j17 X N z0 = some out) : Ω 17 ([none], [(.inl z0)], N, X) := by
  unfold f_X12_isSmall_j17 at hF
  obtain ⟨g3, hF⟩ := gd_some hF
  cases hF
  exact s_zret hE dX12_isSmall_17 rfl g3
theorem t_X12_isSmall_j16 {d n0 s0 nF sF : Nat} {X : MX} {N : NN} {Ω : Nat → MS → Prop} (hsk : m_Sk X) (hd : 1 ≤ d) (hG : m_G d yX12_isSmall.cls yX12_isSmall.name cX12_isSmall 1 n0 s0 nF sF Ω) {out : Int} (hE : m_Gd d yX12_isSmall cX12_isSmall 1 (some .boolean) X (some (.inl out)) N X Ω) (hF : f_X12_isSmall_j16 X N = some out) : Ω 16 ([none], [], N, X) := by
  unfold f_X12_isSmall_j16 at hF
  refine s_iconst hG dX12_isSmall_16 ⟨by decide, by decide⟩ ?_
  exact t_X12_isSmall_j17 hsk hd hG hE hF
theorem t_X12_isSmall {d : Nat} {X : MX} {N : NN} {a0 : Int} {out : Int} (hsk : m_Sk X) (hd : 1 ≤ d) (hF : f_X12_isSmall X N a0 = some out) : m_Call d yX12_isSmall cX12_isSmall 1 (some .boolean) [(.inl a0)] N X (some (.inl out)) N X := by
  refine m_mk (ls0 := [some (.inl a0)]) (by decide) rfl (Nat.le_of_ble_eq_true rfl) (Nat.le_refl _) (Nat.le_refl _) (fun Ω hE => ?_)
  have hG := hE.G
  unfold f_X12_isSmall at hF
  refine s_iload_n hG dX12_isSmall_0 rfl ?_
  refine s_bipush hG dX12_isSmall_1 bp_97 ⟨by decide, by decide⟩ ?_
  refine s_icmp_lt hG 16 dX12_isSmall_3 (by decide) (fun c2 => ?_) (fun c2 => ?_)
  · replace hF := Eq.trans (if_pos c2).symm hF
    refine m_weak (ls1 := [none]) hG trivial ?_
    exact t_X12_isSmall_j16 hsk hd hG hE hF
  · replace hF := Eq.trans (if_neg c2).symm hF
    refine s_iload_n hG dX12_isSmall_6 rfl ?_
    refine s_bipush hG dX12_isSmall_7 bp_122 ⟨by decide, by decide⟩ ?_
    refine s_icmp_gt hG 16 dX12_isSmall_9 (by decide) (fun c1 => ?_) (fun c1 => ?_)
    · replace hF := Eq.trans (if_pos c1).symm hF
      refine m_weak (ls1 := [none]) hG trivial ?_
      exact t_X12_isSmall_j16 hsk hd hG hE hF
    · replace hF := Eq.trans (if_neg c1).symm hF
      refine s_iconst hG dX12_isSmall_12 ⟨by decide, by decide⟩ ?_
      refine s_goto hG 17 dX12_isSmall_13 (by decide) ?_
      refine m_weak (ls1 := [none]) hG trivial ?_
      exact t_X12_isSmall_j17 hsk hd hG hE hF
-- X12_next
theorem t_X12_next_b8 {d n0 s0 nF sF : Nat} {X : MX} {Ω : Nat → MS → Prop} {N : NN} (hsk : m_Sk X) (hd : 2 ≤ d) (hG : m_G d yX12_next.cls yX12_next.name cX12_next 1 n0 s0 nF sF Ω) {out : (NN ⊕ NN)} (hK0 : ∀ s' : NN, out = .inl s' → Ω 8 ([some (.inr (.inr 64))], [], s', X)) (hK1 : ∀ t : NN, out = .inr t → Ω 46 ([some (.inr (.inr 64))], [], t, X)) (hF : b_X12_next_8 X N = some out) : Ω 8 ([some (.inr (.inr 64))], [], N, X) := by
  unfold b_X12_next_8 at hF
  refine s_aload_n hG dX12_next_8 rfl ?_
  refine s_geti hG dX12_next_9 fl_RX12_256 (sk_k hsk 64 rfl) rfl ?_
  refine s_aload_n hG dX12_next_12 rfl ?_
  refine s_geti hG dX12_next_13 fl_RX12_236 (sk_k hsk 64 rfl) rfl ?_
  refine s_icmp_ge hG 46 dX12_next_16 (by decide) (fun c5 => ?_) (fun c5 => ?_)
  · replace hF := Eq.trans (if_pos c5).symm hF
    refine s_aload_n hG dX12_next_19 rfl ?_
    refine s_getr (r := 73) hG dX12_next_20 fl_RX12_35 (sk_k hsk 64 rfl) rfl (sk_R hsk 64 12 rfl) ?_
    refine s_aload_n hG dX12_next_23 rfl ?_
    refine s_geti hG dX12_next_24 fl_RX12_256 (sk_k hsk 64 rfl) rfl ?_
    obtain ⟨g2, hF⟩ := gd_some hF
    refine s_ialdj (j := (N 64 14).toNat) hG dX12_next_27 (sk_K hsk 73 rfl) g2 rfl ?_
    refine s_bipush hG dX12_next_28 bp_32 ⟨by decide, by decide⟩ ?_
    refine s_icmp_ne hG 46 dX12_next_30 (by decide) (fun c4 => ?_) (fun c4 => ?_)
    · replace hF := Eq.trans (if_pos c4).symm hF
      refine s_aload_n hG dX12_next_33 rfl ?_
      refine s_dup hG dX12_next_34 rfl ?_
      refine s_geti hG dX12_next_35 fl_RX12_256 (sk_k hsk 64 rfl) rfl ?_
      refine s_iconst hG dX12_next_38 ⟨by decide, by decide⟩ ?_
      refine s_iadd hG dX12_next_39 ?_
      refine s_puti hG dX12_next_40 fl_RX12_256 (fun h => by cases h) (sk_k hsk 64 rfl) rfl ?_
      refine s_goto hG 8 dX12_next_43 (by decide) ?_
      cases hF
      exact hK0 _ rfl
    · replace hF := Eq.trans (if_neg c4).symm hF
      cases hF
      exact hK1 _ rfl
  · replace hF := Eq.trans (if_neg c5).symm hF
    cases hF
    exact hK1 _ rfl
theorem t_X12_next_lp8 {d n0 s0 nF sF : Nat} {X : MX} {Ω : Nat → MS → Prop} {N : NN} (hsk : m_Sk X) (hd : 2 ≤ d) (hG : m_G d yX12_next.cls yX12_next.name cX12_next 1 n0 s0 nF sF Ω) {t : NN} (hK1 : Ω 46 ([some (.inr (.inr 64))], [], t, X)) (hl : lp (fun s => b_X12_next_8 X s) N = some t) : Ω 8 ([some (.inr (.inr 64))], [], N, X) := by
  refine lp_ok (P := fun s => Ω 8 ([some (.inr (.inr 64))], [], s, X)) (K := fun t => Ω 46 ([some (.inr (.inr 64))], [], t, X)) (fun s out hF hK0 hK1 => ?_) hl hK1
  exact t_X12_next_b8 hsk hd hG (out := out) (fun s' e => hK0 s' e) (fun t' e => hK1 t' e) hF
theorem t_X12_next_l149_j227 {d n0 s0 nF sF : Nat} {X : MX} {Ω : Nat → MS → Prop} {N : NN} {z1 : Int} (hsk : m_Sk X) (hd : 2 ≤ d) (hG : m_G d yX12_next.cls yX12_next.name cX12_next 1 n0 s0 nF sF Ω) {out : (NN ⊕ NN)} (hK0 : ∀ s' : NN, out = .inl s' → Ω 149 ([some (.inr (.inr 64))], [], s', X)) (hK1 : ∀ t : NN, out = .inr t → Ω 243 ([some (.inr (.inr 64))], [], t, X)) (hF : f_X12_next_l149_j227 X N z1 = some out) : Ω 227 ([some (.inr (.inr 64))], [(.inr (.inl z1)), (.inr (.inr 64))], N, X) := by
  unfold f_X12_next_l149_j227 at hF
  refine s_putl hG dX12_next_227 fl_RX12_259 (fun h => by cases h) (sk_k hsk 64 rfl) rfl ?_
  refine s_aload_n hG dX12_next_230 rfl ?_
  refine s_dup hG dX12_next_231 rfl ?_
  refine s_geti hG dX12_next_232 fl_RX12_246 (sk_k hsk 64 rfl) rfl ?_
  refine s_iconst hG dX12_next_235 ⟨by decide, by decide⟩ ?_
  refine s_iadd hG dX12_next_236 ?_
  refine s_puti hG dX12_next_237 fl_RX12_246 (fun h => by cases h) (sk_k hsk 64 rfl) rfl ?_
  refine s_goto hG 149 dX12_next_240 (by decide) ?_
  cases hF
  exact hK0 _ rfl
theorem t_X12_next_b149 {d n0 s0 nF sF : Nat} {X : MX} {Ω : Nat → MS → Prop} {N : NN} (hsk : m_Sk X) (hd : 2 ≤ d) (hG : m_G d yX12_next.cls yX12_next.name cX12_next 1 n0 s0 nF sF Ω) {out : (NN ⊕ NN)} (hK0 : ∀ s' : NN, out = .inl s' → Ω 149 ([some (.inr (.inr 64))], [], s', X)) (hK1 : ∀ t : NN, out = .inr t → Ω 243 ([some (.inr (.inr 64))], [], t, X)) (hF : b_X12_next_149 X N = some out) : Ω 149 ([some (.inr (.inr 64))], [], N, X) := by
  unfold b_X12_next_149 at hF
  refine s_aload_n hG dX12_next_149 rfl ?_
  refine s_geti hG dX12_next_150 fl_RX12_269 (sk_k hsk 64 rfl) rfl ?_
  refine s_iconst hG dX12_next_153 ⟨by decide, by decide⟩ ?_
  refine s_icmp_ne hG 243 dX12_next_154 (by decide) (fun c27 => ?_) (fun c27 => ?_)
  · replace hF := Eq.trans (if_pos c27).symm hF
    refine s_aload_n hG dX12_next_157 rfl ?_
    refine s_geti hG dX12_next_158 fl_RX12_246 (sk_k hsk 64 rfl) rfl ?_
    refine s_aload_n hG dX12_next_161 rfl ?_
    refine s_geti hG dX12_next_162 fl_RX12_236 (sk_k hsk 64 rfl) rfl ?_
    refine s_icmp_ge hG 243 dX12_next_165 (by decide) (fun c26 => ?_) (fun c26 => ?_)
    · replace hF := Eq.trans (if_pos c26).symm hF
      refine s_aload_n hG dX12_next_168 rfl ?_
      refine s_getr (r := 73) hG dX12_next_169 fl_RX12_35 (sk_k hsk 64 rfl) rfl (sk_R hsk 64 12 rfl) ?_
      refine s_aload_n hG dX12_next_172 rfl ?_
      refine s_geti hG dX12_next_173 fl_RX12_246 (sk_k hsk 64 rfl) rfl ?_
      obtain ⟨g21, hF⟩ := gd_some hF
      refine s_ialdj (j := (N 64 15).toNat) hG dX12_next_176 (sk_K hsk 73 rfl) g21 rfl ?_
      obtain ⟨o22, ho22, hF⟩ := bd_some hF
      refine s_callS (d' := d - 1) (args := [.inl (N 73 ((N 64 15).toNat))]) hG (by omega) dX12_next_177 cs_RX12_263 cw_X12_isSmall rfl (Nat.le_of_ble_eq_true rfl) rfl (t_X12_isSmall hsk (by omega) ho22) ?_
      refine s_if_eq hG 243 dX12_next_180 (by decide) (fun c25 => ?_) (fun c25 => ?_)
      · replace hF := Eq.trans (if_pos c25).symm hF
        cases hF
        exact hK1 _ rfl
      · replace hF := Eq.trans (if_neg c25).symm hF
        refine s_aload_n hG dX12_next_183 rfl ?_
        refine s_aload_n hG dX12_next_184 rfl ?_
        refine s_geti hG dX12_next_185 fl_RX12_246 (sk_k hsk 64 rfl) rfl ?_
        refine s_aload_n hG dX12_next_188 rfl ?_
        refine s_geti hG dX12_next_189 fl_RX12_256 (sk_k hsk 64 rfl) rfl ?_
        refine s_isub hG dX12_next_192 ?_
        refine s_bipush hG dX12_next_193 bp_10 ⟨by decide, by decide⟩ ?_
        refine s_icmp_ge hG 224 dX12_next_195 (by decide) (fun c24 => ?_) (fun c24 => ?_)
        · replace hF := Eq.trans (if_pos c24).symm hF
          refine s_aload_n hG dX12_next_198 rfl ?_
          refine s_getl hG dX12_next_199 fl_RX12_259 (sk_k hsk 64 rfl) rfl ?_
          refine s_ldc2 hG dX12_next_202 kc_RX12_272 ⟨by decide, by decide⟩ ?_
          refine s_lmul hG dX12_next_205 ?_
          refine s_aload_n hG dX12_next_206 rfl ?_
          refine s_getr (r := 73) hG dX12_next_207 fl_RX12_35 (sk_k hsk 64 rfl) rfl (sk_R hsk 64 12 rfl) ?_
          refine s_aload_n hG dX12_next_210 rfl ?_
          refine s_geti hG dX12_next_211 fl_RX12_246 (sk_k hsk 64 rfl) rfl ?_
          obtain ⟨g23, hF⟩ := gd_some hF
          refine s_ialdj (j := (N 64 15).toNat) hG dX12_next_214 (sk_K hsk 73 rfl) g23 rfl ?_
          refine s_i2l hG dX12_next_215 ?_
          refine s_ladd hG dX12_next_216 ?_
          refine s_ldc2 hG dX12_next_217 kc_RX12_274 ⟨by decide, by decide⟩ ?_
          refine s_lsub hG dX12_next_220 ?_
          refine s_goto hG 227 dX12_next_221 (by decide) ?_
          exact t_X12_next_l149_j227 hsk hd hG hK0 hK1 hF
        · replace hF := Eq.trans (if_neg c24).symm hF
          refine s_ldc2 hG dX12_next_224 kc_RX12_276 ⟨by decide, by decide⟩ ?_
          exact t_X12_next_l149_j227 hsk hd hG hK0 hK1 hF
    · replace hF := Eq.trans (if_neg c26).symm hF
      cases hF
      exact hK1 _ rfl
  · replace hF := Eq.trans (if_neg c27).symm hF
    cases hF
    exact hK1 _ rfl
theorem t_X12_next_lp149 {d n0 s0 nF sF : Nat} {X : MX} {Ω : Nat → MS → Prop} {N : NN} (hsk : m_Sk X) (hd : 2 ≤ d) (hG : m_G d yX12_next.cls yX12_next.name cX12_next 1 n0 s0 nF sF Ω) {t : NN} (hK1 : Ω 243 ([some (.inr (.inr 64))], [], t, X)) (hl : lp (fun s => b_X12_next_149 X s) N = some t) : Ω 149 ([some (.inr (.inr 64))], [], N, X) := by
  refine lp_ok (P := fun s => Ω 149 ([some (.inr (.inr 64))], [], s, X)) (K := fun t => Ω 243 ([some (.inr (.inr 64))], [], t, X)) (fun s out hF hK0 hK1 => ?_) hl hK1
  exact t_X12_next_b149 hsk hd hG (out := out) (fun s' e => hK0 s' e) (fun t' e => hK1 t' e) hF
theorem t_X12_next_l243_j319 {d n0 s0 nF sF : Nat} {X : MX} {Ω : Nat → MS → Prop} {N : NN} {z1 : Int} (hsk : m_Sk X) (hd : 2 ≤ d) (hG : m_G d yX12_next.cls yX12_next.name cX12_next 1 n0 s0 nF sF Ω) {out : (NN ⊕ NN)} (hK0 : ∀ s' : NN, out = .inl s' → Ω 243 ([some (.inr (.inr 64))], [], s', X)) (hK1 : ∀ t : NN, out = .inr t → Ω 335 ([none], [], t, X)) (hF : f_X12_next_l243_j319 X N z1 = some out) : Ω 319 ([some (.inr (.inr 64))], [(.inr (.inl z1)), (.inr (.inr 64))], N, X) := by
  unfold f_X12_next_l243_j319 at hF
  refine s_putl hG dX12_next_319 fl_RX12_259 (fun h => by cases h) (sk_k hsk 64 rfl) rfl ?_
  refine s_aload_n hG dX12_next_322 rfl ?_
  refine s_dup hG dX12_next_323 rfl ?_
  refine s_geti hG dX12_next_324 fl_RX12_246 (sk_k hsk 64 rfl) rfl ?_
  refine s_iconst hG dX12_next_327 ⟨by decide, by decide⟩ ?_
  refine s_iadd hG dX12_next_328 ?_
  refine s_puti hG dX12_next_329 fl_RX12_246 (fun h => by cases h) (sk_k hsk 64 rfl) rfl ?_
  refine s_goto hG 243 dX12_next_332 (by decide) ?_
  cases hF
  exact hK0 _ rfl
theorem t_X12_next_b243 {d n0 s0 nF sF : Nat} {X : MX} {Ω : Nat → MS → Prop} {N : NN} (hsk : m_Sk X) (hd : 2 ≤ d) (hG : m_G d yX12_next.cls yX12_next.name cX12_next 1 n0 s0 nF sF Ω) {out : (NN ⊕ NN)} (hK0 : ∀ s' : NN, out = .inl s' → Ω 243 ([some (.inr (.inr 64))], [], s', X)) (hK1 : ∀ t : NN, out = .inr t → Ω 335 ([none], [], t, X)) (hF : b_X12_next_243 X N = some out) : Ω 243 ([some (.inr (.inr 64))], [], N, X) := by
  unfold b_X12_next_243 at hF
  refine s_aload_n hG dX12_next_243 rfl ?_
  refine s_geti hG dX12_next_244 fl_RX12_269 (sk_k hsk 64 rfl) rfl ?_
  refine s_iconst hG dX12_next_247 ⟨by decide, by decide⟩ ?_
  refine s_icmp_ne hG 335 dX12_next_248 (by decide) (fun c37 => ?_) (fun c37 => ?_)
  · replace hF := Eq.trans (if_pos c37).symm hF
    refine s_aload_n hG dX12_next_251 rfl ?_
    refine s_geti hG dX12_next_252 fl_RX12_246 (sk_k hsk 64 rfl) rfl ?_
    refine s_aload_n hG dX12_next_255 rfl ?_
    refine s_geti hG dX12_next_256 fl_RX12_236 (sk_k hsk 64 rfl) rfl ?_
    refine s_icmp_ge hG 335 dX12_next_259 (by decide) (fun c36 => ?_) (fun c36 => ?_)
    · replace hF := Eq.trans (if_pos c36).symm hF
      refine s_aload_n hG dX12_next_262 rfl ?_
      refine s_getr (r := 73) hG dX12_next_263 fl_RX12_35 (sk_k hsk 64 rfl) rfl (sk_R hsk 64 12 rfl) ?_
      refine s_aload_n hG dX12_next_266 rfl ?_
      refine s_geti hG dX12_next_267 fl_RX12_246 (sk_k hsk 64 rfl) rfl ?_
      obtain ⟨g31, hF⟩ := gd_some hF
      refine s_ialdj (j := (N 64 15).toNat) hG dX12_next_270 (sk_K hsk 73 rfl) g31 rfl ?_
      obtain ⟨o32, ho32, hF⟩ := bd_some hF
      refine s_callS (d' := d - 1) (args := [.inl (N 73 ((N 64 15).toNat))]) hG (by omega) dX12_next_271 cs_RX12_266 cw_X12_isDigit rfl (Nat.le_of_ble_eq_true rfl) rfl (t_X12_isDigit hsk (by omega) ho32) ?_
      refine s_if_eq hG 335 dX12_next_274 (by decide) (fun c35 => ?_) (fun c35 => ?_)
      · replace hF := Eq.trans (if_pos c35).symm hF
        cases hF
        refine m_weak (ls1 := [none]) hG trivial ?_
        exact hK1 _ rfl
      · replace hF := Eq.trans (if_neg c35).symm hF
        refine s_aload_n hG dX12_next_277 rfl ?_
        refine s_aload_n hG dX12_next_278 rfl ?_
        refine s_getl hG dX12_next_279 fl_RX12_259 (sk_k hsk 64 rfl) rfl ?_
        refine s_ldc2 hG dX12_next_282 kc_RX12_278 ⟨by decide, by decide⟩ ?_
        refine s_lcmp hG dX12_next_285 ?_
        refine s_if_le hG 296 dX12_next_286 (by decide) (fun c34 => ?_) (fun c34 => ?_)
        · replace hF := Eq.trans (if_pos c34).symm hF
          refine s_aload_n hG dX12_next_289 rfl ?_
          refine s_getl hG dX12_next_290 fl_RX12_259 (sk_k hsk 64 rfl) rfl ?_
          refine s_goto hG 319 dX12_next_293 (by decide) ?_
          exact t_X12_next_l243_j319 hsk hd hG hK0 hK1 hF
        · replace hF := Eq.trans (if_neg c34).symm hF
          refine s_aload_n hG dX12_next_296 rfl ?_
          refine s_getl hG dX12_next_297 fl_RX12_259 (sk_k hsk 64 rfl) rfl ?_
          refine s_ldc2 hG dX12_next_300 kc_RX12_280 ⟨by decide, by decide⟩ ?_
          refine s_lmul hG dX12_next_303 ?_
          refine s_aload_n hG dX12_next_304 rfl ?_
          refine s_getr (r := 73) hG dX12_next_305 fl_RX12_35 (sk_k hsk 64 rfl) rfl (sk_R hsk 64 12 rfl) ?_
          refine s_aload_n hG dX12_next_308 rfl ?_
          refine s_geti hG dX12_next_309 fl_RX12_246 (sk_k hsk 64 rfl) rfl ?_
          obtain ⟨g33, hF⟩ := gd_some hF
          refine s_ialdj (j := (N 64 15).toNat) hG dX12_next_312 (sk_K hsk 73 rfl) g33 rfl ?_
          refine s_i2l hG dX12_next_313 ?_
          refine s_ladd hG dX12_next_314 ?_
          refine s_ldc2 hG dX12_next_315 kc_RX12_282 ⟨by decide, by decide⟩ ?_
          refine s_lsub hG dX12_next_318 ?_
          exact t_X12_next_l243_j319 hsk hd hG hK0 hK1 hF
    · replace hF := Eq.trans (if_neg c36).symm hF
      cases hF
      refine m_weak (ls1 := [none]) hG trivial ?_
      exact hK1 _ rfl
  · replace hF := Eq.trans (if_neg c37).symm hF
    cases hF
    refine m_weak (ls1 := [none]) hG trivial ?_
    exact hK1 _ rfl
theorem t_X12_next_lp243 {d n0 s0 nF sF : Nat} {X : MX} {Ω : Nat → MS → Prop} {N : NN} (hsk : m_Sk X) (hd : 2 ≤ d) (hG : m_G d yX12_next.cls yX12_next.name cX12_next 1 n0 s0 nF sF Ω) {t : NN} (hK1 : Ω 335 ([none], [], t, X)) (hl : lp (fun s => b_X12_next_243 X s) N = some t) : Ω 243 ([some (.inr (.inr 64))], [], N, X) := by
  refine lp_ok (P := fun s => Ω 243 ([some (.inr (.inr 64))], [], s, X)) (K := fun t => Ω 335 ([none], [], t, X)) (fun s out hF hK0 hK1 => ?_) hl hK1
  exact t_X12_next_b243 hsk hd hG (out := out) (fun s' e => hK0 s' e) (fun t' e => hK1 t' e) hF
theorem t_X12_next_j149 {d n0 s0 nF sF : Nat} {X : MX} {Ω : Nat → MS → Prop} {N : NN} (hsk : m_Sk X) (hd : 2 ≤ d) (hG : m_G d yX12_next.cls yX12_next.name cX12_next 1 n0 s0 nF sF Ω) {out : NN} (hE : m_Gd d yX12_next cX12_next 1 none X none out X Ω) (hF : f_X12_next_j149 X N = some out) : Ω 149 ([some (.inr (.inr 64))], [], N, X) := by
  unfold f_X12_next_j149 at hF
  obtain ⟨o30, hlo30, hF⟩ := bd_some hF
  refine t_X12_next_lp149 hsk hd hG ?_ hlo30
  obtain ⟨o40, hlo40, hF⟩ := bd_some hF
  refine t_X12_next_lp243 hsk hd hG ?_ hlo40
  cases hF
  exact s_vret hE dX12_next_335 rfl
theorem t_X12_next_j114 {d n0 s0 nF sF : Nat} {X : MX} {Ω : Nat → MS → Prop} {N : NN} {z1 : Int} (hsk : m_Sk X) (hd : 2 ≤ d) (hG : m_G d yX12_next.cls yX12_next.name cX12_next 1 n0 s0 nF sF Ω) {out : NN} (hE : m_Gd d yX12_next cX12_next 1 none X none out X Ω) (hF : f_X12_next_j114 X N z1 = some out) : Ω 114 ([some (.inr (.inr 64))], [(.inl z1), (.inr (.inr 64))], N, X) := by
  unfold f_X12_next_j114 at hF
  refine s_puti hG dX12_next_114 fl_RX12_269 (fun h => by cases h) (sk_k hsk 64 rfl) rfl ?_
  let N16 : NN := m_up N 64 16 z1
  refine s_aload_n hG dX12_next_117 rfl ?_
  refine s_geti hG dX12_next_118 fl_RX12_269 (sk_k hsk 64 rfl) rfl ?_
  refine s_iconst hG dX12_next_121 ⟨by decide, by decide⟩ ?_
  refine s_icmp_ne hG 149 dX12_next_122 (by decide) (fun c20 => ?_) (fun c20 => ?_)
  · replace hF := Eq.trans (if_pos c20).symm hF
    refine s_aload_n hG dX12_next_125 rfl ?_
    refine s_aload_n hG dX12_next_126 rfl ?_
    refine s_getr (r := 73) hG dX12_next_127 fl_RX12_35 (sk_k hsk 64 rfl) rfl (sk_R hsk 64 12 rfl) ?_
    refine s_aload_n hG dX12_next_130 rfl ?_
    refine s_geti hG dX12_next_131 fl_RX12_256 (sk_k hsk 64 rfl) rfl ?_
    obtain ⟨g17, hF⟩ := gd_some hF
    refine s_ialdj (j := (N16 64 14).toNat) hG dX12_next_134 (sk_K hsk 73 rfl) g17 rfl ?_
    refine s_i2l hG dX12_next_135 ?_
    refine s_putl hG dX12_next_136 fl_RX12_259 (fun h => by cases h) (sk_k hsk 64 rfl) rfl ?_
    refine s_aload_n hG dX12_next_139 rfl ?_
    refine s_dup hG dX12_next_140 rfl ?_
    refine s_geti hG dX12_next_141 fl_RX12_246 (sk_k hsk 64 rfl) rfl ?_
    refine s_iconst hG dX12_next_144 ⟨by decide, by decide⟩ ?_
    refine s_iadd hG dX12_next_145 ?_
    refine s_puti hG dX12_next_146 fl_RX12_246 (fun h => by cases h) (sk_k hsk 64 rfl) rfl ?_
    exact t_X12_next_j149 hsk hd hG hE hF
  · replace hF := Eq.trans (if_neg c20).symm hF
    exact t_X12_next_j149 hsk hd hG hE hF
theorem t_X12_next {d : Nat} {X : MX} {N : NN} {out : NN} (hsk : m_Sk X) (hd : 2 ≤ d) (hF : f_X12_next X N = some out) : m_Call d yX12_next cX12_next 1 none [(.inr (.inr 64))] N X none out X := by
  refine m_mk (ls0 := [some (.inr (.inr 64))]) (by decide) rfl (Nat.le_of_ble_eq_true rfl) (Nat.le_refl _) (Nat.le_refl _) (fun Ω hE => ?_)
  have hG := hE.G
  unfold f_X12_next at hF
  refine s_aload_n hG dX12_next_0 rfl ?_
  refine s_aload_n hG dX12_next_1 rfl ?_
  refine s_geti hG dX12_next_2 fl_RX12_246 (sk_k hsk 64 rfl) rfl ?_
  refine s_puti hG dX12_next_5 fl_RX12_256 (fun h => by cases h) (sk_k hsk 64 rfl) rfl ?_
  obtain ⟨o6, hlo6, hF⟩ := bd_some hF
  refine t_X12_next_lp8 hsk hd hG ?_ hlo6
  refine s_aload_n hG dX12_next_46 rfl ?_
  refine s_aload_n hG dX12_next_47 rfl ?_
  refine s_geti hG dX12_next_48 fl_RX12_256 (sk_k hsk 64 rfl) rfl ?_
  refine s_puti hG dX12_next_51 fl_RX12_246 (fun h => by cases h) (sk_k hsk 64 rfl) rfl ?_
  let N7 : NN := m_up o6 64 15 (o6 64 14)
  refine s_aload_n hG dX12_next_54 rfl ?_
  refine s_lconst (v := 0) hG dX12_next_55 rfl ⟨by decide, by decide⟩ ?_
  refine s_putl hG dX12_next_56 fl_RX12_259 (fun h => by cases h) (sk_k hsk 64 rfl) rfl ?_
  let N8 : NN := m_up N7 64 17 0
  refine s_aload_n hG dX12_next_59 rfl ?_
  refine s_aload_n hG dX12_next_60 rfl ?_
  refine s_geti hG dX12_next_61 fl_RX12_256 (sk_k hsk 64 rfl) rfl ?_
  refine s_aload_n hG dX12_next_64 rfl ?_
  refine s_geti hG dX12_next_65 fl_RX12_236 (sk_k hsk 64 rfl) rfl ?_
  refine s_icmp_ne hG 75 dX12_next_68 (by decide) (fun c15 => ?_) (fun c15 => ?_)
  · replace hF := Eq.trans (if_pos c15).symm hF
    refine s_iconst hG dX12_next_71 ⟨by decide, by decide⟩ ?_
    refine s_goto hG 114 dX12_next_72 (by decide) ?_
    exact t_X12_next_j114 hsk hd hG hE hF
  · replace hF := Eq.trans (if_neg c15).symm hF
    refine s_aload_n hG dX12_next_75 rfl ?_
    refine s_getr (r := 73) hG dX12_next_76 fl_RX12_35 (sk_k hsk 64 rfl) rfl (sk_R hsk 64 12 rfl) ?_
    refine s_aload_n hG dX12_next_79 rfl ?_
    refine s_geti hG dX12_next_80 fl_RX12_256 (sk_k hsk 64 rfl) rfl ?_
    obtain ⟨g9, hF⟩ := gd_some hF
    refine s_ialdj (j := (N8 64 14).toNat) hG dX12_next_83 (sk_K hsk 73 rfl) g9 rfl ?_
    obtain ⟨o10, ho10, hF⟩ := bd_some hF
    refine s_callS (d' := d - 1) (args := [.inl (N8 73 ((N8 64 14).toNat))]) hG (by omega) dX12_next_84 cs_RX12_263 cw_X12_isSmall rfl (Nat.le_of_ble_eq_true rfl) rfl (t_X12_isSmall hsk (by omega) ho10) ?_
    refine s_if_eq hG 94 dX12_next_87 (by decide) (fun c14 => ?_) (fun c14 => ?_)
    · replace hF := Eq.trans (if_pos c14).symm hF
      refine s_aload_n hG dX12_next_94 rfl ?_
      refine s_getr (r := 73) hG dX12_next_95 fl_RX12_35 (sk_k hsk 64 rfl) rfl (sk_R hsk 64 12 rfl) ?_
      refine s_aload_n hG dX12_next_98 rfl ?_
      refine s_geti hG dX12_next_99 fl_RX12_256 (sk_k hsk 64 rfl) rfl ?_
      obtain ⟨g11, hF⟩ := gd_some hF
      refine s_ialdj (j := (N8 64 14).toNat) hG dX12_next_102 (sk_K hsk 73 rfl) g11 rfl ?_
      obtain ⟨o12, ho12, hF⟩ := bd_some hF
      refine s_callS (d' := d - 1) (args := [.inl (N8 73 ((N8 64 14).toNat))]) hG (by omega) dX12_next_103 cs_RX12_266 cw_X12_isDigit rfl (Nat.le_of_ble_eq_true rfl) rfl (t_X12_isDigit hsk (by omega) ho12) ?_
      refine s_if_eq hG 113 dX12_next_106 (by decide) (fun c13 => ?_) (fun c13 => ?_)
      · replace hF := Eq.trans (if_pos c13).symm hF
        refine s_iconst hG dX12_next_113 ⟨by decide, by decide⟩ ?_
        exact t_X12_next_j114 hsk hd hG hE hF
      · replace hF := Eq.trans (if_neg c13).symm hF
        refine s_iconst hG dX12_next_109 ⟨by decide, by decide⟩ ?_
        refine s_goto hG 114 dX12_next_110 (by decide) ?_
        exact t_X12_next_j114 hsk hd hG hE hF
    · replace hF := Eq.trans (if_neg c14).symm hF
      refine s_iconst hG dX12_next_90 ⟨by decide, by decide⟩ ?_
      refine s_goto hG 114 dX12_next_91 (by decide) ?_
      exact t_X12_next_j114 hsk hd hG hE hF
-- X12_begin
theorem t_X12_begin {d : Nat} {X : MX} {N : NN} {out : NN} (hsk : m_Sk X) (hd : 3 ≤ d) (hF : f_X12_begin X N = some out) : m_Call d yX12_begin cX12_begin 1 none [(.inr (.inr 64))] N X none out X := by
  refine m_mk (ls0 := [some (.inr (.inr 64))]) (by decide) rfl (Nat.le_of_ble_eq_true rfl) (Nat.le_refl _) (Nat.le_refl _) (fun Ω hE => ?_)
  have hG := hE.G
  unfold f_X12_begin at hF
  refine s_aload_n hG dX12_begin_0 rfl ?_
  refine s_iconst hG dX12_begin_1 ⟨by decide, by decide⟩ ?_
  refine s_puti hG dX12_begin_2 fl_RX12_246 (fun h => by cases h) (sk_k hsk 64 rfl) rfl ?_
  refine s_aload_n hG dX12_begin_5 rfl ?_
  refine s_iconst hG dX12_begin_6 ⟨by decide, by decide⟩ ?_
  refine s_putz hG dX12_begin_7 fl_RX12_249 (fun h => by cases h) (sk_k hsk 64 rfl) rfl ⟨by decide, by decide⟩ ?_
  refine s_aload_n hG dX12_begin_10 rfl ?_
  refine s_iconst hG dX12_begin_11 ⟨by decide, by decide⟩ ?_
  refine s_puti hG dX12_begin_12 fl_RX12_38 (fun h => by cases h) (sk_k hsk 64 rfl) rfl ?_
  refine s_aload_n hG dX12_begin_15 rfl ?_
  obtain ⟨o4, ho4, hF⟩ := bd_some hF
  refine s_callV (d' := d - 1) (ci := 12) (args := []) hG (by omega) dX12_begin_16 cv_RX12_253 cw_X12_next rfl rfl (sk_k hsk 64 rfl) (Nat.le_of_ble_eq_true rfl) rfl (t_X12_next hsk (by omega) ho4) ?_
  cases hF
  exact s_vret hE dX12_begin_19 rfl
-- X12_beginText
theorem t_X12_beginText {d : Nat} {X : MX} {N : NN} {a1 : Int} {out : NN} (hsk : m_Sk X) (hd : 4 ≤ d) (hF : f_X12_beginText X N a1 = some out) : m_Call d yX12_beginText cX12_beginText 2 none [(.inr (.inr 64)), (.inl a1)] N X none out X := by
  refine m_mk (ls0 := [some (.inr (.inr 64)), some (.inl a1)]) (by decide) rfl (Nat.le_of_ble_eq_true rfl) (Nat.le_refl _) (Nat.le_refl _) (fun Ω hE => ?_)
  have hG := hE.G
  unfold f_X12_beginText at hF
  refine s_aload_n hG dX12_beginText_0 rfl ?_
  refine s_iload_n hG dX12_beginText_1 rfl ?_
  obtain ⟨g1, hF⟩ := gd_some hF
  refine s_putz hG dX12_beginText_2 fl_RX12_326 (fun h => by cases h) (sk_k hsk 64 rfl) rfl g1 ?_
  refine s_aload_n hG dX12_beginText_5 rfl ?_
  obtain ⟨o3, ho3, hF⟩ := bd_some hF
  refine s_callV (d' := d - 1) (ci := 12) (args := []) hG (by omega) dX12_beginText_6 cv_RX12_376 cw_X12_begin rfl rfl (sk_k hsk 64 rfl) (Nat.le_of_ble_eq_true rfl) rfl (t_X12_begin hsk (by omega) ho3) ?_
  refine s_aload_n hG dX12_beginText_9 rfl ?_
  refine s_iconst hG dX12_beginText_10 ⟨by decide, by decide⟩ ?_
  refine s_puti hG dX12_beginText_11 fl_RX12_379 (fun h => by cases h) (sk_k hsk 64 rfl) rfl ?_
  refine s_aload_n hG dX12_beginText_14 rfl ?_
  refine s_iconst hG dX12_beginText_15 ⟨by decide, by decide⟩ ?_
  refine s_puti hG dX12_beginText_16 fl_RX12_288 (fun h => by cases h) (sk_k hsk 64 rfl) rfl ?_
  refine s_aload_n hG dX12_beginText_19 rfl ?_
  refine s_iconst hG dX12_beginText_20 ⟨by decide, by decide⟩ ?_
  refine s_puti hG dX12_beginText_21 fl_RX12_317 (fun h => by cases h) (sk_k hsk 64 rfl) rfl ?_
  cases hF
  exact s_vret hE dX12_beginText_24 rfl
-- X12_binds
theorem t_X12_binds_j62 {d n0 s0 nF sF : Nat} {X : MX} {N : NN} {Ω : Nat → MS → Prop} {z0 : Int} (hsk : m_Sk X) (hd : 1 ≤ d) (hG : m_G d yX12_binds.cls yX12_binds.name cX12_binds 1 n0 s0 nF sF Ω) {out : Int} (hE : m_Gd d yX12_binds cX12_binds 1 (some .int) X (some (.inl out)) N X Ω) (hF : f_X12_binds_j62 X N z0 = some out) : Ω 62 ([none], [(.inl z0)], N, X) := by
  unfold f_X12_binds_j62 at hF
  cases hF
  exact s_iret hE dX12_binds_62 rfl
theorem t_X12_binds {d : Nat} {X : MX} {N : NN} {a0 : Int} {out : Int} (hsk : m_Sk X) (hd : 1 ≤ d) (hF : f_X12_binds X N a0 = some out) : m_Call d yX12_binds cX12_binds 1 (some .int) [(.inl a0)] N X (some (.inl out)) N X := by
  refine m_mk (ls0 := [some (.inl a0)]) (by decide) rfl (Nat.le_of_ble_eq_true rfl) (Nat.le_refl _) (Nat.le_refl _) (fun Ω hE => ?_)
  have hG := hE.G
  unfold f_X12_binds at hF
  refine s_iload_n hG dX12_binds_0 rfl ?_
  refine s_bipush hG dX12_binds_1 bp_31 ⟨by decide, by decide⟩ ?_
  refine s_icmp_lt hG 10 dX12_binds_3 (by decide) (fun c6 => ?_) (fun c6 => ?_)
  · replace hF := Eq.trans (if_pos c6).symm hF
    refine s_iload_n hG dX12_binds_10 rfl ?_
    refine s_bipush hG dX12_binds_11 bp_30 ⟨by decide, by decide⟩ ?_
    refine s_icmp_ne hG 20 dX12_binds_13 (by decide) (fun c5 => ?_) (fun c5 => ?_)
    · replace hF := Eq.trans (if_pos c5).symm hF
      refine s_iconst hG dX12_binds_16 ⟨by decide, by decide⟩ ?_
      refine s_goto hG 62 dX12_binds_17 (by decide) ?_
      refine m_weak (ls1 := [none]) hG trivial ?_
      exact t_X12_binds_j62 hsk hd hG hE hF
    · replace hF := Eq.trans (if_neg c5).symm hF
      refine s_iload_n hG dX12_binds_20 rfl ?_
      refine s_bipush hG dX12_binds_21 bp_29 ⟨by decide, by decide⟩ ?_
      refine s_icmp_ne hG 30 dX12_binds_23 (by decide) (fun c4 => ?_) (fun c4 => ?_)
      · replace hF := Eq.trans (if_pos c4).symm hF
        refine s_iconst hG dX12_binds_26 ⟨by decide, by decide⟩ ?_
        refine s_goto hG 62 dX12_binds_27 (by decide) ?_
        refine m_weak (ls1 := [none]) hG trivial ?_
        exact t_X12_binds_j62 hsk hd hG hE hF
      · replace hF := Eq.trans (if_neg c4).symm hF
        refine s_iload_n hG dX12_binds_30 rfl ?_
        refine s_bipush hG dX12_binds_31 bp_28 ⟨by decide, by decide⟩ ?_
        refine s_icmp_ne hG 40 dX12_binds_33 (by decide) (fun c3 => ?_) (fun c3 => ?_)
        · replace hF := Eq.trans (if_pos c3).symm hF
          refine s_iconst hG dX12_binds_36 ⟨by decide, by decide⟩ ?_
          refine s_goto hG 62 dX12_binds_37 (by decide) ?_
          refine m_weak (ls1 := [none]) hG trivial ?_
          exact t_X12_binds_j62 hsk hd hG hE hF
        · replace hF := Eq.trans (if_neg c3).symm hF
          refine s_iload_n hG dX12_binds_40 rfl ?_
          refine s_bipush hG dX12_binds_41 bp_25 ⟨by decide, by decide⟩ ?_
          refine s_icmp_lt hG 50 dX12_binds_43 (by decide) (fun c2 => ?_) (fun c2 => ?_)
          · replace hF := Eq.trans (if_pos c2).symm hF
            refine s_iload_n hG dX12_binds_50 rfl ?_
            refine s_bipush hG dX12_binds_51 bp_22 ⟨by decide, by decide⟩ ?_
            refine s_icmp_lt hG 61 dX12_binds_53 (by decide) (fun c1 => ?_) (fun c1 => ?_)
            · replace hF := Eq.trans (if_pos c1).symm hF
              refine s_iconst hG dX12_binds_61 ⟨by decide, by decide⟩ ?_
              refine m_weak (ls1 := [none]) hG trivial ?_
              exact t_X12_binds_j62 hsk hd hG hE hF
            · replace hF := Eq.trans (if_neg c1).symm hF
              refine s_bipush hG dX12_binds_56 bp_6 ⟨by decide, by decide⟩ ?_
              refine s_goto hG 62 dX12_binds_58 (by decide) ?_
              refine m_weak (ls1 := [none]) hG trivial ?_
              exact t_X12_binds_j62 hsk hd hG hE hF
          · replace hF := Eq.trans (if_neg c2).symm hF
            refine s_iconst hG dX12_binds_46 ⟨by decide, by decide⟩ ?_
            refine s_goto hG 62 dX12_binds_47 (by decide) ?_
            refine m_weak (ls1 := [none]) hG trivial ?_
            exact t_X12_binds_j62 hsk hd hG hE hF
  · replace hF := Eq.trans (if_neg c6).symm hF
    refine s_iconst hG dX12_binds_6 ⟨by decide, by decide⟩ ?_
    refine s_goto hG 62 dX12_binds_7 (by decide) ?_
    refine m_weak (ls1 := [none]) hG trivial ?_
    exact t_X12_binds_j62 hsk hd hG hE hF
-- X12_inner
theorem t_X12_inner_l4_j33 {d n0 s0 nF sF : Nat} {X : MX} {N : NN} {Ω : Nat → MS → Prop} {a2 : Int} {z0 : Int} (hsk : m_Sk X) (hd : 1 ≤ d) (hG : m_G d yX12_inner.cls yX12_inner.name cX12_inner 3 n0 s0 nF sF Ω) {out : ((Int × Int) ⊕ Int)} (hK0 : ∀ s' : (Int × Int), out = .inl s' → Ω 4 ([some (.inr (.inr 64)), some (.inl (s'.1)), some (.inl (s'.2))], [], N, X)) (hK1 : ∀ t : Int, out = .inr t → Ω 40 ([none, some (.inl t), none], [], N, X)) (hF : f_X12_inner_l4_j33 X N a2 z0 = some out) : Ω 33 ([some (.inr (.inr 64)), none, some (.inl a2)], [(.inl z0)], N, X) := by
  unfold f_X12_inner_l4_j33 at hF
  refine s_istore_n hG dX12_inner_33 (by decide) rfl ?_
  refine s_iinc hG dX12_inner_34 (by decide) rfl rfl ?_
  refine s_goto hG 4 dX12_inner_37 (by decide) ?_
  cases hF
  exact hK0 _ rfl
theorem t_X12_inner_b4 {d n0 s0 nF sF : Nat} {X : MX} {N : NN} {Ω : Nat → MS → Prop} {a1 : Int} {a2 : Int} (hsk : m_Sk X) (hd : 1 ≤ d) (hG : m_G d yX12_inner.cls yX12_inner.name cX12_inner 3 n0 s0 nF sF Ω) {out : ((Int × Int) ⊕ Int)} (hK0 : ∀ s' : (Int × Int), out = .inl s' → Ω 4 ([some (.inr (.inr 64)), some (.inl (s'.1)), some (.inl (s'.2))], [], N, X)) (hK1 : ∀ t : Int, out = .inr t → Ω 40 ([none, some (.inl t), none], [], N, X)) (hF : b_X12_inner_4 X N a1 a2 = some out) : Ω 4 ([some (.inr (.inr 64)), some (.inl a1), some (.inl a2)], [], N, X) := by
  unfold b_X12_inner_4 at hF
  refine s_iload_n hG dX12_inner_4 rfl ?_
  refine s_aload_n hG dX12_inner_5 rfl ?_
  refine s_geti hG dX12_inner_6 fl_RX12_291 (sk_k hsk 64 rfl) rfl ?_
  refine s_icmp_ge hG 40 dX12_inner_9 (by decide) (fun c4 => ?_) (fun c4 => ?_)
  · replace hF := Eq.trans (if_pos c4).symm hF
    refine s_aload_n hG dX12_inner_12 rfl ?_
    refine s_getr (r := 77) hG dX12_inner_13 fl_RX12_51 (sk_k hsk 64 rfl) rfl (sk_R hsk 64 27 rfl) ?_
    refine s_iload_n hG dX12_inner_16 rfl ?_
    obtain ⟨g1, hF⟩ := gd_some hF
    refine s_ialdj (j := a2.toNat) hG dX12_inner_17 (sk_K hsk 77 rfl) g1 rfl ?_
    refine s_bipush hG dX12_inner_18 bp_31 ⟨by decide, by decide⟩ ?_
    refine s_icmp_lt hG 32 dX12_inner_20 (by decide) (fun c3 => ?_) (fun c3 => ?_)
    · replace hF := Eq.trans (if_pos c3).symm hF
      refine s_iload_n hG dX12_inner_32 rfl ?_
      refine m_weak (ls1 := [some (.inr (.inr 64)), none, some (.inl a2)]) hG ⟨rfl, ⟨rfl, trivial⟩⟩ ?_
      exact t_X12_inner_l4_j33 hsk hd hG hK0 hK1 hF
    · replace hF := Eq.trans (if_neg c3).symm hF
      refine s_aload_n hG dX12_inner_23 rfl ?_
      refine s_getr (r := 77) hG dX12_inner_24 fl_RX12_51 (sk_k hsk 64 rfl) rfl (sk_R hsk 64 27 rfl) ?_
      refine s_iload_n hG dX12_inner_27 rfl ?_
      obtain ⟨g2, hF⟩ := gd_some hF
      refine s_ialdj (j := a2.toNat) hG dX12_inner_28 (sk_K hsk 77 rfl) g2 rfl ?_
      refine s_goto hG 33 dX12_inner_29 (by decide) ?_
      refine m_weak (ls1 := [some (.inr (.inr 64)), none, some (.inl a2)]) hG ⟨rfl, ⟨rfl, trivial⟩⟩ ?_
      exact t_X12_inner_l4_j33 hsk hd hG hK0 hK1 hF
  · replace hF := Eq.trans (if_neg c4).symm hF
    cases hF
    refine m_weak (ls1 := [none, some (.inl a1), none]) hG ⟨rfl, trivial⟩ ?_
    exact hK1 _ rfl
theorem t_X12_inner_lp4 {d n0 s0 nF sF : Nat} {X : MX} {N : NN} {Ω : Nat → MS → Prop} {a1 : Int} {a2 : Int} (hsk : m_Sk X) (hd : 1 ≤ d) (hG : m_G d yX12_inner.cls yX12_inner.name cX12_inner 3 n0 s0 nF sF Ω) {t : Int} (hK1 : Ω 40 ([none, some (.inl t), none], [], N, X)) (hl : lp (fun s => b_X12_inner_4 X N s.1 s.2) (a1, a2) = some t) : Ω 4 ([some (.inr (.inr 64)), some (.inl a1), some (.inl a2)], [], N, X) := by
  refine lp_ok (P := fun s => Ω 4 ([some (.inr (.inr 64)), some (.inl s.1), some (.inl s.2)], [], N, X)) (K := fun t => Ω 40 ([none, some (.inl t), none], [], N, X)) (fun s out hF hK0 hK1 => ?_) hl hK1
  exact t_X12_inner_b4 hsk hd hG (out := out) (fun s' e => hK0 s' e) (fun t' e => hK1 t' e) hF
theorem t_X12_inner {d : Nat} {X : MX} {N : NN} {out : Int} (hsk : m_Sk X) (hd : 1 ≤ d) (hF : f_X12_inner X N = some out) : m_Call d yX12_inner cX12_inner 3 (some .int) [(.inr (.inr 64))] N X (some (.inl out)) N X := by
  refine m_mk (ls0 := [some (.inr (.inr 64)), none, none]) (by decide) rfl (Nat.le_of_ble_eq_true rfl) (Nat.le_refl _) (Nat.le_refl _) (fun Ω hE => ?_)
  have hG := hE.G
  unfold f_X12_inner at hF
  refine s_iconst hG dX12_inner_0 ⟨by decide, by decide⟩ ?_
  refine s_istore_n hG dX12_inner_1 (by decide) rfl ?_
  refine s_iconst hG dX12_inner_2 ⟨by decide, by decide⟩ ?_
  refine s_istore_n hG dX12_inner_3 (by decide) rfl ?_
  obtain ⟨o5, hlo5, hF⟩ := bd_some hF
  refine t_X12_inner_lp4 hsk hd hG ?_ hlo5
  refine s_iload_n hG dX12_inner_40 rfl ?_
  cases hF
  exact s_iret hE dX12_inner_41 rfl
-- X12_isCompared
theorem t_X12_isCompared_b7 {d n0 s0 nF sF : Nat} {X : MX} {N : NN} {Ω : Nat → MS → Prop} {a1 : Int} (hsk : m_Sk X) (hd : 2 ≤ d) (hG : m_G d yX12_isCompared.cls yX12_isCompared.name cX12_isCompared 2 n0 s0 nF sF Ω) {out : (Int ⊕ Int)} (hK0 : ∀ s' : Int, out = .inl s' → Ω 7 ([some (.inr (.inr 64)), some (.inl (s'))], [], N, X)) (hK1 : ∀ t : Int, out = .inr t → Ω 36 ([some (.inr (.inr 64)), some (.inl t)], [], N, X)) (hF : b_X12_isCompared_7 X N a1 = some out) : Ω 7 ([some (.inr (.inr 64)), some (.inl a1)], [], N, X) := by
  unfold b_X12_isCompared_7 at hF
  refine s_iload_n hG dX12_isCompared_7 rfl ?_
  refine s_if_lt hG 36 dX12_isCompared_8 (by decide) (fun c4 => ?_) (fun c4 => ?_)
  · replace hF := Eq.trans (if_pos c4).symm hF
    cases hF
    exact hK1 _ rfl
  · replace hF := Eq.trans (if_neg c4).symm hF
    refine s_aload_n hG dX12_isCompared_11 rfl ?_
    refine s_getr (r := 77) hG dX12_isCompared_12 fl_RX12_51 (sk_k hsk 64 rfl) rfl (sk_R hsk 64 27 rfl) ?_
    refine s_iload_n hG dX12_isCompared_15 rfl ?_
    obtain ⟨g1, hF⟩ := gd_some hF
    refine s_ialdj (j := a1.toNat) hG dX12_isCompared_16 (sk_K hsk 77 rfl) g1 rfl ?_
    refine s_i2l hG dX12_isCompared_17 ?_
    refine s_ldc2 hG dX12_isCompared_18 kc_RX12_220 ⟨by decide, by decide⟩ ?_
    refine s_ldc2 hG dX12_isCompared_21 kc_RX12_301 ⟨by decide, by decide⟩ ?_
    obtain ⟨o2, ho2, hF⟩ := bd_some hF
    refine s_callS (d' := d - 1) (args := [.inr (.inl (N 77 a1.toNat)), .inr (.inl 20), .inr (.inl 24)]) hG (by omega) dX12_isCompared_24 cs_RX12_179 cw_X12_in rfl (Nat.le_of_ble_eq_true rfl) rfl (t_X12_in hsk (by omega) ho2) ?_
    refine s_if_eq hG 36 dX12_isCompared_27 (by decide) (fun c3 => ?_) (fun c3 => ?_)
    · replace hF := Eq.trans (if_pos c3).symm hF
      cases hF
      exact hK1 _ rfl
    · replace hF := Eq.trans (if_neg c3).symm hF
      refine s_iinc hG dX12_isCompared_30 (by decide) rfl rfl ?_
      refine s_goto hG 7 dX12_isCompared_33 (by decide) ?_
      cases hF
      exact hK0 _ rfl
theorem t_X12_isCompared_lp7 {d n0 s0 nF sF : Nat} {X : MX} {N : NN} {Ω : Nat → MS → Prop} {a1 : Int} (hsk : m_Sk X) (hd : 2 ≤ d) (hG : m_G d yX12_isCompared.cls yX12_isCompared.name cX12_isCompared 2 n0 s0 nF sF Ω) {t : Int} (hK1 : Ω 36 ([some (.inr (.inr 64)), some (.inl t)], [], N, X)) (hl : lp (fun s => b_X12_isCompared_7 X N s) a1 = some t) : Ω 7 ([some (.inr (.inr 64)), some (.inl a1)], [], N, X) := by
  refine lp_ok (P := fun s => Ω 7 ([some (.inr (.inr 64)), some (.inl s)], [], N, X)) (K := fun t => Ω 36 ([some (.inr (.inr 64)), some (.inl t)], [], N, X)) (fun s out hF hK0 hK1 => ?_) hl hK1
  exact t_X12_isCompared_b7 hsk hd hG (out := out) (fun s' e => hK0 s' e) (fun t' e => hK1 t' e) hF
theorem t_X12_isCompared_j64 {d n0 s0 nF sF : Nat} {X : MX} {N : NN} {Ω : Nat → MS → Prop} {z0 : Int} (hsk : m_Sk X) (hd : 2 ≤ d) (hG : m_G d yX12_isCompared.cls yX12_isCompared.name cX12_isCompared 2 n0 s0 nF sF Ω) {out : Int} (hE : m_Gd d yX12_isCompared cX12_isCompared 2 (some .boolean) X (some (.inl out)) N X Ω) (hF : f_X12_isCompared_j64 X N z0 = some out) : Ω 64 ([none, none], [(.inl z0)], N, X) := by
  unfold f_X12_isCompared_j64 at hF
  obtain ⟨g10, hF⟩ := gd_some hF
  cases hF
  exact s_zret hE dX12_isCompared_64 rfl g10
theorem t_X12_isCompared_j63 {d n0 s0 nF sF : Nat} {X : MX} {N : NN} {Ω : Nat → MS → Prop} (hsk : m_Sk X) (hd : 2 ≤ d) (hG : m_G d yX12_isCompared.cls yX12_isCompared.name cX12_isCompared 2 n0 s0 nF sF Ω) {out : Int} (hE : m_Gd d yX12_isCompared cX12_isCompared 2 (some .boolean) X (some (.inl out)) N X Ω) (hF : f_X12_isCompared_j63 X N = some out) : Ω 63 ([none, none], [], N, X) := by
  unfold f_X12_isCompared_j63 at hF
  refine s_iconst hG dX12_isCompared_63 ⟨by decide, by decide⟩ ?_
  exact t_X12_isCompared_j64 hsk hd hG hE hF
theorem t_X12_isCompared {d : Nat} {X : MX} {N : NN} {out : Int} (hsk : m_Sk X) (hd : 2 ≤ d) (hF : f_X12_isCompared X N = some out) : m_Call d yX12_isCompared cX12_isCompared 2 (some .boolean) [(.inr (.inr 64))] N X (some (.inl out)) N X := by
  refine m_mk (ls0 := [some (.inr (.inr 64)), none]) (by decide) rfl (Nat.le_of_ble_eq_true rfl) (Nat.le_refl _) (Nat.le_refl _) (fun Ω hE => ?_)
  have hG := hE.G
  unfold f_X12_isCompared at hF
  refine s_aload_n hG dX12_isCompared_0 rfl ?_
  refine s_geti hG dX12_isCompared_1 fl_RX12_291 (sk_k hsk 64 rfl) rfl ?_
  refine s_iconst hG dX12_isCompared_4 ⟨by decide, by decide⟩ ?_
  refine s_isub hG dX12_isCompared_5 ?_
  refine s_istore_n hG dX12_isCompared_6 (by decide) rfl ?_
  obtain ⟨o5, hlo5, hF⟩ := bd_some hF
  refine t_X12_isCompared_lp7 hsk hd hG ?_ hlo5
  refine s_iload_n hG dX12_isCompared_36 rfl ?_
  refine s_if_lt hG 63 dX12_isCompared_37 (by decide) (fun c9 => ?_) (fun c9 => ?_)
  · replace hF := Eq.trans (if_pos c9).symm hF
    refine m_weak (ls1 := [none, none]) hG trivial ?_
    exact t_X12_isCompared_j63 hsk hd hG hE hF
  · replace hF := Eq.trans (if_neg c9).symm hF
    refine s_aload_n hG dX12_isCompared_40 rfl ?_
    refine s_getr (r := 77) hG dX12_isCompared_41 fl_RX12_51 (sk_k hsk 64 rfl) rfl (sk_R hsk 64 27 rfl) ?_
    refine s_iload_n hG dX12_isCompared_44 rfl ?_
    obtain ⟨g6, hF⟩ := gd_some hF
    refine s_ialdj (j := o5.toNat) hG dX12_isCompared_45 (sk_K hsk 77 rfl) g6 rfl ?_
    refine s_i2l hG dX12_isCompared_46 ?_
    refine s_ldc2 hG dX12_isCompared_47 kc_RX12_303 ⟨by decide, by decide⟩ ?_
    refine s_ldc2 hG dX12_isCompared_50 kc_RX12_305 ⟨by decide, by decide⟩ ?_
    obtain ⟨o7, ho7, hF⟩ := bd_some hF
    refine s_callS (d' := d - 1) (args := [.inr (.inl (N 77 o5.toNat)), .inr (.inl 25), .inr (.inl 27)]) hG (by omega) dX12_isCompared_53 cs_RX12_179 cw_X12_in rfl (Nat.le_of_ble_eq_true rfl) rfl (t_X12_in hsk (by omega) ho7) ?_
    refine s_if_eq hG 63 dX12_isCompared_56 (by decide) (fun c8 => ?_) (fun c8 => ?_)
    · replace hF := Eq.trans (if_pos c8).symm hF
      refine m_weak (ls1 := [none, none]) hG trivial ?_
      exact t_X12_isCompared_j63 hsk hd hG hE hF
    · replace hF := Eq.trans (if_neg c8).symm hF
      refine s_iconst hG dX12_isCompared_59 ⟨by decide, by decide⟩ ?_
      refine s_goto hG 64 dX12_isCompared_60 (by decide) ?_
      refine m_weak (ls1 := [none, none]) hG trivial ?_
      exact t_X12_isCompared_j64 hsk hd hG hE hF
-- X12_isSign
theorem t_X12_isSign_j23 {d n0 s0 nF sF : Nat} {X : MX} {N : NN} {Ω : Nat → MS → Prop} {z0 : Int} (hsk : m_Sk X) (hd : 1 ≤ d) (hG : m_G d yX12_isSign.cls yX12_isSign.name cX12_isSign 2 n0 s0 nF sF Ω) {out : Int} (hE : m_Gd d yX12_isSign cX12_isSign 2 (some .boolean) X (some (.inl out)) N X Ω) (hF : f_X12_isSign_j23 X N z0 = some out) : Ω 23 ([none, none], [(.inl z0)], N, X) := by
  unfold f_X12_isSign_j23 at hF
  obtain ⟨g3, hF⟩ := gd_some hF
  cases hF
  exact s_zret hE dX12_isSign_23 rfl g3
theorem t_X12_isSign_j22 {d n0 s0 nF sF : Nat} {X : MX} {N : NN} {Ω : Nat → MS → Prop} (hsk : m_Sk X) (hd : 1 ≤ d) (hG : m_G d yX12_isSign.cls yX12_isSign.name cX12_isSign 2 n0 s0 nF sF Ω) {out : Int} (hE : m_Gd d yX12_isSign cX12_isSign 2 (some .boolean) X (some (.inl out)) N X Ω) (hF : f_X12_isSign_j22 X N = some out) : Ω 22 ([none, none], [], N, X) := by
  unfold f_X12_isSign_j22 at hF
  refine s_iconst hG dX12_isSign_22 ⟨by decide, by decide⟩ ?_
  exact t_X12_isSign_j23 hsk hd hG hE hF
theorem t_X12_isSign {d : Nat} {X : MX} {N : NN} {a1 : Int} {out : Int} (hsk : m_Sk X) (hd : 1 ≤ d) (hF : f_X12_isSign X N a1 = some out) : m_Call d yX12_isSign cX12_isSign 2 (some .boolean) [(.inr (.inr 64)), (.inl a1)] N X (some (.inl out)) N X := by
  refine m_mk (ls0 := [some (.inr (.inr 64)), some (.inl a1)]) (by decide) rfl (Nat.le_of_ble_eq_true rfl) (Nat.le_refl _) (Nat.le_refl _) (fun Ω hE => ?_)
  have hG := hE.G
  unfold f_X12_isSign at hF
  refine s_aload_n hG dX12_isSign_0 rfl ?_
  refine s_geti hG dX12_isSign_1 fl_RX12_269 (sk_k hsk 64 rfl) rfl ?_
  refine s_iconst hG dX12_isSign_4 ⟨by decide, by decide⟩ ?_
  refine s_icmp_ne hG 22 dX12_isSign_5 (by decide) (fun c2 => ?_) (fun c2 => ?_)
  · replace hF := Eq.trans (if_pos c2).symm hF
    refine s_aload_n hG dX12_isSign_8 rfl ?_
    refine s_getl hG dX12_isSign_9 fl_RX12_259 (sk_k hsk 64 rfl) rfl ?_
    refine s_iload_n hG dX12_isSign_12 rfl ?_
    refine s_i2l hG dX12_isSign_13 ?_
    refine s_lcmp hG dX12_isSign_14 ?_
    refine s_if_ne hG 22 dX12_isSign_15 (by decide) (fun c1 => ?_) (fun c1 => ?_)
    · replace hF := Eq.trans (if_pos c1).symm hF
      refine s_iconst hG dX12_isSign_18 ⟨by decide, by decide⟩ ?_
      refine s_goto hG 23 dX12_isSign_19 (by decide) ?_
      refine m_weak (ls1 := [none, none]) hG trivial ?_
      exact t_X12_isSign_j23 hsk hd hG hE hF
    · replace hF := Eq.trans (if_neg c1).symm hF
      refine m_weak (ls1 := [none, none]) hG trivial ?_
      exact t_X12_isSign_j22 hsk hd hG hE hF
  · replace hF := Eq.trans (if_neg c2).symm hF
    refine m_weak (ls1 := [none, none]) hG trivial ?_
    exact t_X12_isSign_j22 hsk hd hG hE hF
-- X12_must
theorem t_X12_must_j24 {d n0 s0 nF sF : Nat} {X : MX} {Ω : Nat → MS → Prop} {N : NN} (hsk : m_Sk X) (hd : 3 ≤ d) (hG : m_G d yX12_must.cls yX12_must.name cX12_must 2 n0 s0 nF sF Ω) {out : NN} (hE : m_Gd d yX12_must cX12_must 2 none X none out X Ω) (hF : f_X12_must_j24 X N = some out) : Ω 24 ([some (.inr (.inr 64)), none], [], N, X) := by
  unfold f_X12_must_j24 at hF
  refine s_aload_n hG dX12_must_24 rfl ?_
  refine s_getz hG dX12_must_25 fl_RX12_249 (sk_k hsk 64 rfl) rfl ?_
  refine s_if_ne hG 35 dX12_must_28 (by decide) (fun c6 => ?_) (fun c6 => ?_)
  · replace hF := Eq.trans (if_pos c6).symm hF
    refine s_aload_n hG dX12_must_31 rfl ?_
    obtain ⟨o5, ho5, hF⟩ := bd_some hF
    refine s_callV (d' := d - 1) (ci := 12) (args := []) hG (by omega) dX12_must_32 cv_RX12_253 cw_X12_next rfl rfl (sk_k hsk 64 rfl) (Nat.le_of_ble_eq_true rfl) rfl (t_X12_next hsk (by omega) ho5) ?_
    cases hF
    exact s_vret hE dX12_must_35 rfl
  · replace hF := Eq.trans (if_neg c6).symm hF
    cases hF
    exact s_vret hE dX12_must_35 rfl
theorem t_X12_must {d : Nat} {X : MX} {N : NN} {a1 : Int} {out : NN} (hsk : m_Sk X) (hd : 3 ≤ d) (hF : f_X12_must X N a1 = some out) : m_Call d yX12_must cX12_must 2 none [(.inr (.inr 64)), (.inl a1)] N X none out X := by
  refine m_mk (ls0 := [some (.inr (.inr 64)), some (.inl a1)]) (by decide) rfl (Nat.le_of_ble_eq_true rfl) (Nat.le_refl _) (Nat.le_refl _) (fun Ω hE => ?_)
  have hG := hE.G
  unfold f_X12_must at hF
  refine s_aload_n hG dX12_must_0 rfl ?_
  refine s_getz hG dX12_must_1 fl_RX12_249 (sk_k hsk 64 rfl) rfl ?_
  refine s_if_ne hG 24 dX12_must_4 (by decide) (fun c4 => ?_) (fun c4 => ?_)
  · replace hF := Eq.trans (if_pos c4).symm hF
    refine s_iload_n hG dX12_must_7 rfl ?_
    refine s_if_ne hG 24 dX12_must_8 (by decide) (fun c3 => ?_) (fun c3 => ?_)
    · replace hF := Eq.trans (if_pos c3).symm hF
      refine s_aload_n hG dX12_must_11 rfl ?_
      refine s_iconst hG dX12_must_12 ⟨by decide, by decide⟩ ?_
      refine s_putz hG dX12_must_13 fl_RX12_249 (fun h => by cases h) (sk_k hsk 64 rfl) rfl ⟨by decide, by decide⟩ ?_
      refine s_aload_n hG dX12_must_16 rfl ?_
      refine s_aload_n hG dX12_must_17 rfl ?_
      refine s_geti hG dX12_must_18 fl_RX12_256 (sk_k hsk 64 rfl) rfl ?_
      refine s_puti hG dX12_must_21 fl_RX12_38 (fun h => by cases h) (sk_k hsk 64 rfl) rfl ?_
      refine m_weak (ls1 := [some (.inr (.inr 64)), none]) hG ⟨rfl, trivial⟩ ?_
      exact t_X12_must_j24 hsk hd hG hE hF
    · replace hF := Eq.trans (if_neg c3).symm hF
      refine m_weak (ls1 := [some (.inr (.inr 64)), none]) hG ⟨rfl, trivial⟩ ?_
      exact t_X12_must_j24 hsk hd hG hE hF
  · replace hF := Eq.trans (if_neg c4).symm hF
    refine m_weak (ls1 := [some (.inr (.inr 64)), none]) hG ⟨rfl, trivial⟩ ?_
    exact t_X12_must_j24 hsk hd hG hE hF
-- X12_push
theorem t_X12_push {d : Nat} {X : MX} {N : NN} {a1 : Int} {a2 : Int} {out : NN} (hsk : m_Sk X) (hd : 1 ≤ d) (hF : f_X12_push X N a1 a2 = some out) : m_Call d yX12_push cX12_push 3 none [(.inr (.inr 64)), (.inl a1), (.inl a2)] N X none out X := by
  refine m_mk (ls0 := [some (.inr (.inr 64)), some (.inl a1), some (.inl a2)]) (by decide) rfl (Nat.le_of_ble_eq_true rfl) (Nat.le_refl _) (Nat.le_refl _) (fun Ω hE => ?_)
  have hG := hE.G
  unfold f_X12_push at hF
  refine s_aload_n hG dX12_push_0 rfl ?_
  refine s_getr (r := 77) hG dX12_push_1 fl_RX12_51 (sk_k hsk 64 rfl) rfl (sk_R hsk 64 27 rfl) ?_
  refine s_aload_n hG dX12_push_4 rfl ?_
  refine s_geti hG dX12_push_5 fl_RX12_291 (sk_k hsk 64 rfl) rfl ?_
  refine s_iload_n hG dX12_push_8 rfl ?_
  obtain ⟨g1, hF⟩ := gd_some hF
  refine s_iastj (j := (N 64 29).toNat) hG dX12_push_9 (sk_K hsk 77 rfl) g1 rfl ?_
  let N2 : NN := m_up N 77 ((N 64 29).toNat) a1
  refine s_aload_n hG dX12_push_10 rfl ?_
  refine s_getr (r := 78) hG dX12_push_11 fl_RX12_54 (sk_k hsk 64 rfl) rfl (sk_R hsk 64 28 rfl) ?_
  refine s_aload_n hG dX12_push_14 rfl ?_
  refine s_geti hG dX12_push_15 fl_RX12_291 (sk_k hsk 64 rfl) rfl ?_
  refine s_iload_n hG dX12_push_18 rfl ?_
  obtain ⟨g3, hF⟩ := gd_some hF
  refine s_iastj (j := (N2 64 29).toNat) hG dX12_push_19 (sk_K hsk 78 rfl) g3 rfl ?_
  refine s_aload_n hG dX12_push_20 rfl ?_
  refine s_dup hG dX12_push_21 rfl ?_
  refine s_geti hG dX12_push_22 fl_RX12_291 (sk_k hsk 64 rfl) rfl ?_
  refine s_iconst hG dX12_push_25 ⟨by decide, by decide⟩ ?_
  refine s_iadd hG dX12_push_26 ?_
  refine s_puti hG dX12_push_27 fl_RX12_291 (fun h => by cases h) (sk_k hsk 64 rfl) rfl ?_
  cases hF
  exact s_vret hE dX12_push_30 rfl
-- X12_emit
theorem t_X12_emit {d : Nat} {X : MX} {N : NN} {a1 : Int} {a2 : Int} {out : NN} (hsk : m_Sk X) (hd : 1 ≤ d) (hF : f_X12_emit X N a1 a2 = some out) : m_Call d yX12_emit cX12_emit 3 none [(.inr (.inr 64)), (.inl a1), (.inl a2)] N X none out X := by
  refine m_mk (ls0 := [some (.inr (.inr 64)), some (.inl a1), some (.inl a2)]) (by decide) rfl (Nat.le_of_ble_eq_true rfl) (Nat.le_refl _) (Nat.le_refl _) (fun Ω hE => ?_)
  have hG := hE.G
  unfold f_X12_emit at hF
  refine s_aload_n hG dX12_emit_0 rfl ?_
  refine s_getr (r := 75) hG dX12_emit_1 fl_RX12_45 (sk_k hsk 64 rfl) rfl (sk_R hsk 64 24 rfl) ?_
  refine s_aload_n hG dX12_emit_4 rfl ?_
  refine s_geti hG dX12_emit_5 fl_RX12_288 (sk_k hsk 64 rfl) rfl ?_
  refine s_iload_n hG dX12_emit_8 rfl ?_
  obtain ⟨g1, hF⟩ := gd_some hF
  refine s_iastj (j := (N 64 23).toNat) hG dX12_emit_9 (sk_K hsk 75 rfl) g1 rfl ?_
  let N2 : NN := m_up N 75 ((N 64 23).toNat) a1
  refine s_aload_n hG dX12_emit_10 rfl ?_
  refine s_getr (r := 76) hG dX12_emit_11 fl_RX12_48 (sk_k hsk 64 rfl) rfl (sk_R hsk 64 25 rfl) ?_
  refine s_aload_n hG dX12_emit_14 rfl ?_
  refine s_geti hG dX12_emit_15 fl_RX12_288 (sk_k hsk 64 rfl) rfl ?_
  refine s_iload_n hG dX12_emit_18 rfl ?_
  obtain ⟨g3, hF⟩ := gd_some hF
  refine s_iastj (j := (N2 64 23).toNat) hG dX12_emit_19 (sk_K hsk 76 rfl) g3 rfl ?_
  refine s_aload_n hG dX12_emit_20 rfl ?_
  refine s_dup hG dX12_emit_21 rfl ?_
  refine s_geti hG dX12_emit_22 fl_RX12_288 (sk_k hsk 64 rfl) rfl ?_
  refine s_iconst hG dX12_emit_25 ⟨by decide, by decide⟩ ?_
  refine s_iadd hG dX12_emit_26 ?_
  refine s_puti hG dX12_emit_27 fl_RX12_288 (fun h => by cases h) (sk_k hsk 64 rfl) rfl ?_
  cases hF
  exact s_vret hE dX12_emit_30 rfl
-- X12_settle
theorem t_X12_settle_l0_j63 {d n0 s0 nF sF : Nat} {X : MX} {Ω : Nat → MS → Prop} {N : NN} {a1 : Int} (hsk : m_Sk X) (hd : 2 ≤ d) (hG : m_G d yX12_settle.cls yX12_settle.name cX12_settle 2 n0 s0 nF sF Ω) {out : ((NN × Int) ⊕ NN)} (hK0 : ∀ s' : (NN × Int), out = .inl s' → Ω 0 ([some (.inr (.inr 64)), some (.inl (s'.2))], [], s'.1, X)) (hK1 : ∀ t : NN, out = .inr t → Ω 101 ([none, none], [], t, X)) (hF : f_X12_settle_l0_j63 X N a1 = some out) : Ω 63 ([some (.inr (.inr 64)), some (.inl a1)], [], N, X) := by
  unfold f_X12_settle_l0_j63 at hF
  refine s_aload_n hG dX12_settle_63 rfl ?_
  refine s_getr (r := 76) hG dX12_settle_64 fl_RX12_48 (sk_k hsk 64 rfl) rfl (sk_R hsk 64 25 rfl) ?_
  refine s_aload_n hG dX12_settle_67 rfl ?_
  refine s_getr (r := 78) hG dX12_settle_68 fl_RX12_54 (sk_k hsk 64 rfl) rfl (sk_R hsk 64 28 rfl) ?_
  refine s_aload_n hG dX12_settle_71 rfl ?_
  refine s_geti hG dX12_settle_72 fl_RX12_291 (sk_k hsk 64 rfl) rfl ?_
  obtain ⟨g12, hF⟩ := gd_some hF
  refine s_ialdj (j := (N 64 29).toNat) hG dX12_settle_75 (sk_K hsk 78 rfl) g12 rfl ?_
  refine s_aload_n hG dX12_settle_76 rfl ?_
  refine s_geti hG dX12_settle_77 fl_RX12_288 (sk_k hsk 64 rfl) rfl ?_
  obtain ⟨g13, hF⟩ := gd_some hF
  refine s_iastj (j := (N 78 ((N 64 29).toNat)).toNat) hG dX12_settle_80 (sk_K hsk 76 rfl) g13 rfl ?_
  refine s_goto hG 0 dX12_settle_81 (by decide) ?_
  cases hF
  exact hK0 _ rfl
theorem t_X12_settle_b0 {d n0 s0 nF sF : Nat} {X : MX} {Ω : Nat → MS → Prop} {N : NN} {a1 : Int} (hsk : m_Sk X) (hd : 2 ≤ d) (hG : m_G d yX12_settle.cls yX12_settle.name cX12_settle 2 n0 s0 nF sF Ω) {out : ((NN × Int) ⊕ NN)} (hK0 : ∀ s' : (NN × Int), out = .inl s' → Ω 0 ([some (.inr (.inr 64)), some (.inl (s'.2))], [], s'.1, X)) (hK1 : ∀ t : NN, out = .inr t → Ω 101 ([none, none], [], t, X)) (hF : b_X12_settle_0 X N a1 = some out) : Ω 0 ([some (.inr (.inr 64)), some (.inl a1)], [], N, X) := by
  unfold b_X12_settle_0 at hF
  refine s_aload_n hG dX12_settle_0 rfl ?_
  refine s_geti hG dX12_settle_1 fl_RX12_291 (sk_k hsk 64 rfl) rfl ?_
  refine s_if_le hG 101 dX12_settle_4 (by decide) (fun c11 => ?_) (fun c11 => ?_)
  · replace hF := Eq.trans (if_pos c11).symm hF
    refine s_aload_n hG dX12_settle_7 rfl ?_
    refine s_getr (r := 77) hG dX12_settle_8 fl_RX12_51 (sk_k hsk 64 rfl) rfl (sk_R hsk 64 27 rfl) ?_
    refine s_aload_n hG dX12_settle_11 rfl ?_
    refine s_geti hG dX12_settle_12 fl_RX12_291 (sk_k hsk 64 rfl) rfl ?_
    refine s_iconst hG dX12_settle_15 ⟨by decide, by decide⟩ ?_
    refine s_isub hG dX12_settle_16 ?_
    obtain ⟨g1, hF⟩ := gd_some hF
    refine s_ialdj (j := (m_w ((N 64 29) - 1)).toNat) hG dX12_settle_17 (sk_K hsk 77 rfl) g1 rfl ?_
    obtain ⟨o2, ho2, hF⟩ := bd_some hF
    refine s_callS (d' := d - 1) (args := [.inl (N 77 ((m_w ((N 64 29) - 1)).toNat))]) hG (by omega) dX12_settle_18 cs_RX12_294 cw_X12_binds rfl (Nat.le_of_ble_eq_true rfl) rfl (t_X12_binds hsk (by omega) ho2) ?_
    refine s_iload_n hG dX12_settle_21 rfl ?_
    refine s_icmp_lt hG 101 dX12_settle_22 (by decide) (fun c10 => ?_) (fun c10 => ?_)
    · replace hF := Eq.trans (if_pos c10).symm hF
      cases hF
      refine m_weak (ls1 := [none, none]) hG trivial ?_
      exact hK1 _ rfl
    · replace hF := Eq.trans (if_neg c10).symm hF
      refine s_aload_n hG dX12_settle_25 rfl ?_
      refine s_dup hG dX12_settle_26 rfl ?_
      refine s_geti hG dX12_settle_27 fl_RX12_291 (sk_k hsk 64 rfl) rfl ?_
      refine s_iconst hG dX12_settle_30 ⟨by decide, by decide⟩ ?_
      refine s_isub hG dX12_settle_31 ?_
      refine s_puti hG dX12_settle_32 fl_RX12_291 (fun h => by cases h) (sk_k hsk 64 rfl) rfl ?_
      let N3 : NN := m_up N 64 29 (m_w ((N 64 29) - 1))
      refine s_aload_n hG dX12_settle_35 rfl ?_
      refine s_getr (r := 77) hG dX12_settle_36 fl_RX12_51 (sk_k hsk 64 rfl) rfl (sk_R hsk 64 27 rfl) ?_
      refine s_aload_n hG dX12_settle_39 rfl ?_
      refine s_geti hG dX12_settle_40 fl_RX12_291 (sk_k hsk 64 rfl) rfl ?_
      obtain ⟨g4, hF⟩ := gd_some hF
      refine s_ialdj (j := (N3 64 29).toNat) hG dX12_settle_43 (sk_K hsk 77 rfl) g4 rfl ?_
      refine s_bipush hG dX12_settle_44 bp_29 ⟨by decide, by decide⟩ ?_
      refine s_icmp_eq hG 63 dX12_settle_46 (by decide) (fun c9 => ?_) (fun c9 => ?_)
      · replace hF := Eq.trans (if_pos c9).symm hF
        exact t_X12_settle_l0_j63 hsk hd hG hK0 hK1 hF
      · replace hF := Eq.trans (if_neg c9).symm hF
        refine s_aload_n hG dX12_settle_49 rfl ?_
        refine s_getr (r := 77) hG dX12_settle_50 fl_RX12_51 (sk_k hsk 64 rfl) rfl (sk_R hsk 64 27 rfl) ?_
        refine s_aload_n hG dX12_settle_53 rfl ?_
        refine s_geti hG dX12_settle_54 fl_RX12_291 (sk_k hsk 64 rfl) rfl ?_
        obtain ⟨g5, hF⟩ := gd_some hF
        refine s_ialdj (j := (N3 64 29).toNat) hG dX12_settle_57 (sk_K hsk 77 rfl) g5 rfl ?_
        refine s_bipush hG dX12_settle_58 bp_30 ⟨by decide, by decide⟩ ?_
        refine s_icmp_ne hG 84 dX12_settle_60 (by decide) (fun c8 => ?_) (fun c8 => ?_)
        · replace hF := Eq.trans (if_pos c8).symm hF
          exact t_X12_settle_l0_j63 hsk hd hG hK0 hK1 hF
        · replace hF := Eq.trans (if_neg c8).symm hF
          refine s_aload_n hG dX12_settle_84 rfl ?_
          refine s_aload_n hG dX12_settle_85 rfl ?_
          refine s_getr (r := 77) hG dX12_settle_86 fl_RX12_51 (sk_k hsk 64 rfl) rfl (sk_R hsk 64 27 rfl) ?_
          refine s_aload_n hG dX12_settle_89 rfl ?_
          refine s_geti hG dX12_settle_90 fl_RX12_291 (sk_k hsk 64 rfl) rfl ?_
          obtain ⟨g6, hF⟩ := gd_some hF
          refine s_ialdj (j := (N3 64 29).toNat) hG dX12_settle_93 (sk_K hsk 77 rfl) g6 rfl ?_
          refine s_iconst hG dX12_settle_94 ⟨by decide, by decide⟩ ?_
          obtain ⟨o7, ho7, hF⟩ := bd_some hF
          refine s_callV (d' := d - 1) (ci := 12) (args := [.inl (N3 77 ((N3 64 29).toNat)), .inl 0]) hG (by omega) dX12_settle_95 cv_RX12_297 cw_X12_emit rfl rfl (sk_k hsk 64 rfl) (Nat.le_of_ble_eq_true rfl) rfl (t_X12_emit hsk (by omega) ho7) ?_
          refine s_goto hG 0 dX12_settle_98 (by decide) ?_
          cases hF
          exact hK0 _ rfl
  · replace hF := Eq.trans (if_neg c11).symm hF
    cases hF
    refine m_weak (ls1 := [none, none]) hG trivial ?_
    exact hK1 _ rfl
theorem t_X12_settle_lp0 {d n0 s0 nF sF : Nat} {X : MX} {Ω : Nat → MS → Prop} {N : NN} {a1 : Int} (hsk : m_Sk X) (hd : 2 ≤ d) (hG : m_G d yX12_settle.cls yX12_settle.name cX12_settle 2 n0 s0 nF sF Ω) {t : NN} (hK1 : Ω 101 ([none, none], [], t, X)) (hl : lp (fun s => b_X12_settle_0 X s.1 s.2) (N, a1) = some t) : Ω 0 ([some (.inr (.inr 64)), some (.inl a1)], [], N, X) := by
  refine lp_ok (P := fun s => Ω 0 ([some (.inr (.inr 64)), some (.inl s.2)], [], s.1, X)) (K := fun t => Ω 101 ([none, none], [], t, X)) (fun s out hF hK0 hK1 => ?_) hl hK1
  exact t_X12_settle_b0 hsk hd hG (out := out) (fun s' e => hK0 s' e) (fun t' e => hK1 t' e) hF
theorem t_X12_settle {d : Nat} {X : MX} {N : NN} {a1 : Int} {out : NN} (hsk : m_Sk X) (hd : 2 ≤ d) (hF : f_X12_settle X N a1 = some out) : m_Call d yX12_settle cX12_settle 2 none [(.inr (.inr 64)), (.inl a1)] N X none out X := by
  refine m_mk (ls0 := [some (.inr (.inr 64)), some (.inl a1)]) (by decide) rfl (Nat.le_of_ble_eq_true rfl) (Nat.le_refl _) (Nat.le_refl _) (fun Ω hE => ?_)
  have hG := hE.G
  unfold f_X12_settle at hF
  obtain ⟨o15, hlo15, hF⟩ := bd_some hF
  refine t_X12_settle_lp0 hsk hd hG ?_ hlo15
  cases hF
  exact s_vret hE dX12_settle_101 rfl
-- X12_behindSum
theorem t_X12_behindSum_j245 {d n0 s0 nF sF : Nat} {X : MX} {Ω : Nat → MS → Prop} {N : NN} (hsk : m_Sk X) (hd : 4 ≤ d) (hG : m_G d yX12_behindSum.cls yX12_behindSum.name cX12_behindSum 4 n0 s0 nF sF Ω) {out : (Int × NN)} (hE : m_Gd d yX12_behindSum cX12_behindSum 4 (some .int) X (some (.inl out.1)) out.2 X Ω) (hF : f_X12_behindSum_j245 X N = some out) : Ω 245 ([none, none, none, none], [], N, X) := by
  unfold f_X12_behindSum_j245 at hF
  refine s_iconst hG dX12_behindSum_245 ⟨by decide, by decide⟩ ?_
  cases hF
  exact s_iret hE dX12_behindSum_246 rfl
theorem t_X12_behindSum_j224 {d n0 s0 nF sF : Nat} {X : MX} {Ω : Nat → MS → Prop} {N : NN} {a2 : Int} {z1 : Int} (hsk : m_Sk X) (hd : 4 ≤ d) (hG : m_G d yX12_behindSum.cls yX12_behindSum.name cX12_behindSum 4 n0 s0 nF sF Ω) {out : (Int × NN)} (hE : m_Gd d yX12_behindSum cX12_behindSum 4 (some .int) X (some (.inl out.1)) out.2 X Ω) (hF : f_X12_behindSum_j224 X N a2 z1 = some out) : Ω 224 ([some (.inr (.inr 64)), none, some (.inl a2), none], [(.inl z1), (.inr (.inr 64))], N, X) := by
  unfold f_X12_behindSum_j224 at hF
  obtain ⟨o35, ho35, hF⟩ := bd_some hF
  refine s_callV (d' := d - 1) (ci := 12) (args := [.inl z1]) hG (by omega) dX12_behindSum_224 cv_RX12_284 cw_X12_must rfl rfl (sk_k hsk 64 rfl) (Nat.le_of_ble_eq_true rfl) rfl (t_X12_must hsk (by omega) ho35) ?_
  refine s_aload_n hG dX12_behindSum_227 rfl ?_
  refine s_getz hG dX12_behindSum_228 fl_RX12_249 (sk_k hsk 64 rfl) rfl ?_
  refine s_if_ne hG 245 dX12_behindSum_231 (by decide) (fun c38 => ?_) (fun c38 => ?_)
  · replace hF := Eq.trans (if_pos c38).symm hF
    refine s_aload_n hG dX12_behindSum_234 rfl ?_
    refine s_iconst hG dX12_behindSum_235 ⟨by decide, by decide⟩ ?_
    obtain ⟨o36, ho36, hF⟩ := bd_some hF
    refine s_callV (d' := d - 1) (ci := 12) (args := [.inl 5]) hG (by omega) dX12_behindSum_236 cv_RX12_352 cw_X12_settle rfl rfl (sk_k hsk 64 rfl) (Nat.le_of_ble_eq_true rfl) rfl (t_X12_settle hsk (by omega) ho36) ?_
    refine s_aload_n hG dX12_behindSum_239 rfl ?_
    refine s_iload_n hG dX12_behindSum_240 rfl ?_
    refine s_iconst hG dX12_behindSum_241 ⟨by decide, by decide⟩ ?_
    obtain ⟨o37, ho37, hF⟩ := bd_some hF
    refine s_callV (d' := d - 1) (ci := 12) (args := [.inl a2, .inl 0]) hG (by omega) dX12_behindSum_242 cv_RX12_314 cw_X12_push rfl rfl (sk_k hsk 64 rfl) (Nat.le_of_ble_eq_true rfl) rfl (t_X12_push hsk (by omega) ho37) ?_
    refine m_weak (ls1 := [none, none, none, none]) hG trivial ?_
    exact t_X12_behindSum_j245 hsk hd hG hE hF
  · replace hF := Eq.trans (if_neg c38).symm hF
    refine m_weak (ls1 := [none, none, none, none]) hG trivial ?_
    exact t_X12_behindSum_j245 hsk hd hG hE hF
theorem t_X12_behindSum_j219 {d n0 s0 nF sF : Nat} {X : MX} {Ω : Nat → MS → Prop} {N : NN} {a2 : Int} (hsk : m_Sk X) (hd : 4 ≤ d) (hG : m_G d yX12_behindSum.cls yX12_behindSum.name cX12_behindSum 4 n0 s0 nF sF Ω) {out : (Int × NN)} (hE : m_Gd d yX12_behindSum cX12_behindSum 4 (some .int) X (some (.inl out.1)) out.2 X Ω) (hF : f_X12_behindSum_j219 X N a2 = some out) : Ω 219 ([some (.inr (.inr 64)), none, some (.inl a2), none], [(.inr (.inr 64))], N, X) := by
  unfold f_X12_behindSum_j219 at hF
  refine s_iconst hG dX12_behindSum_219 ⟨by decide, by decide⟩ ?_
  refine s_goto hG 224 dX12_behindSum_220 (by decide) ?_
  exact t_X12_behindSum_j224 hsk hd hG hE hF
theorem t_X12_behindSum_j202 {d n0 s0 nF sF : Nat} {X : MX} {Ω : Nat → MS → Prop} {N : NN} {z0 : Int} (hsk : m_Sk X) (hd : 4 ≤ d) (hG : m_G d yX12_behindSum.cls yX12_behindSum.name cX12_behindSum 4 n0 s0 nF sF Ω) {out : (Int × NN)} (hE : m_Gd d yX12_behindSum cX12_behindSum 4 (some .int) X (some (.inl out.1)) out.2 X Ω) (hF : f_X12_behindSum_j202 X N z0 = some out) : Ω 202 ([some (.inr (.inr 64)), none, none, none], [(.inl z0)], N, X) := by
  unfold f_X12_behindSum_j202 at hF
  refine s_istore_n hG dX12_behindSum_202 (by decide) rfl ?_
  refine s_aload_n hG dX12_behindSum_203 rfl ?_
  refine s_iload_n hG dX12_behindSum_204 rfl ?_
  refine s_bipush hG dX12_behindSum_205 bp_27 ⟨by decide, by decide⟩ ?_
  refine s_icmp_ne hG 219 dX12_behindSum_207 (by decide) (fun c34 => ?_) (fun c34 => ?_)
  · replace hF := Eq.trans (if_pos c34).symm hF
    refine s_aload_n hG dX12_behindSum_210 rfl ?_
    refine s_bipush hG dX12_behindSum_211 bp_61 ⟨by decide, by decide⟩ ?_
    obtain ⟨o32, ho32, hF⟩ := bd_some hF
    refine s_callV (d' := d - 1) (ci := 12) (args := [.inl 61]) hG (by omega) dX12_behindSum_213 cv_RX12_320 cw_X12_isSign rfl rfl (sk_k hsk 64 rfl) (Nat.le_of_ble_eq_true rfl) rfl (t_X12_isSign hsk (by omega) ho32) ?_
    refine s_if_eq hG 223 dX12_behindSum_216 (by decide) (fun c33 => ?_) (fun c33 => ?_)
    · replace hF := Eq.trans (if_pos c33).symm hF
      refine s_iconst hG dX12_behindSum_223 ⟨by decide, by decide⟩ ?_
      exact t_X12_behindSum_j224 hsk hd hG hE hF
    · replace hF := Eq.trans (if_neg c33).symm hF
      exact t_X12_behindSum_j219 hsk hd hG hE hF
  · replace hF := Eq.trans (if_neg c34).symm hF
    exact t_X12_behindSum_j219 hsk hd hG hE hF
theorem t_X12_behindSum_j163 {d n0 s0 nF sF : Nat} {X : MX} {Ω : Nat → MS → Prop} {N : NN} (hsk : m_Sk X) (hd : 4 ≤ d) (hG : m_G d yX12_behindSum.cls yX12_behindSum.name cX12_behindSum 4 n0 s0 nF sF Ω) {out : (Int × NN)} (hE : m_Gd d yX12_behindSum cX12_behindSum 4 (some .int) X (some (.inl out.1)) out.2 X Ω) (hF : f_X12_behindSum_j163 X N = some out) : Ω 163 ([some (.inr (.inr 64)), none, none, none], [], N, X) := by
  unfold f_X12_behindSum_j163 at hF
  refine s_aload_n hG dX12_behindSum_163 rfl ?_
  obtain ⟨o26, ho26, hF⟩ := bd_some hF
  refine s_callV (d' := d - 1) (ci := 12) (args := []) hG (by omega) dX12_behindSum_164 cv_RX12_358 cw_X12_isCompared rfl rfl (sk_k hsk 64 rfl) (Nat.le_of_ble_eq_true rfl) rfl (t_X12_isCompared hsk (by omega) ho26) ?_
  refine s_if_eq hG 172 dX12_behindSum_167 (by decide) (fun c31 => ?_) (fun c31 => ?_)
  · replace hF := Eq.trans (if_pos c31).symm hF
    refine s_aload_n hG dX12_behindSum_172 rfl ?_
    refine s_bipush hG dX12_behindSum_173 bp_60 ⟨by decide, by decide⟩ ?_
    obtain ⟨o27, ho27, hF⟩ := bd_some hF
    refine s_callV (d' := d - 1) (ci := 12) (args := [.inl 60]) hG (by omega) dX12_behindSum_175 cv_RX12_320 cw_X12_isSign rfl rfl (sk_k hsk 64 rfl) (Nat.le_of_ble_eq_true rfl) rfl (t_X12_isSign hsk (by omega) ho27) ?_
    refine s_if_eq hG 186 dX12_behindSum_178 (by decide) (fun c30 => ?_) (fun c30 => ?_)
    · replace hF := Eq.trans (if_pos c30).symm hF
      refine s_aload_n hG dX12_behindSum_186 rfl ?_
      refine s_bipush hG dX12_behindSum_187 bp_62 ⟨by decide, by decide⟩ ?_
      obtain ⟨o28, ho28, hF⟩ := bd_some hF
      refine s_callV (d' := d - 1) (ci := 12) (args := [.inl 62]) hG (by omega) dX12_behindSum_189 cv_RX12_320 cw_X12_isSign rfl rfl (sk_k hsk 64 rfl) (Nat.le_of_ble_eq_true rfl) rfl (t_X12_isSign hsk (by omega) ho28) ?_
      refine s_if_eq hG 200 dX12_behindSum_192 (by decide) (fun c29 => ?_) (fun c29 => ?_)
      · replace hF := Eq.trans (if_pos c29).symm hF
        refine s_bipush hG dX12_behindSum_200 bp_27 ⟨by decide, by decide⟩ ?_
        exact t_X12_behindSum_j202 hsk hd hG hE hF
      · replace hF := Eq.trans (if_neg c29).symm hF
        refine s_bipush hG dX12_behindSum_195 bp_26 ⟨by decide, by decide⟩ ?_
        refine s_goto hG 202 dX12_behindSum_197 (by decide) ?_
        exact t_X12_behindSum_j202 hsk hd hG hE hF
    · replace hF := Eq.trans (if_neg c30).symm hF
      refine s_bipush hG dX12_behindSum_181 bp_25 ⟨by decide, by decide⟩ ?_
      refine s_goto hG 202 dX12_behindSum_183 (by decide) ?_
      exact t_X12_behindSum_j202 hsk hd hG hE hF
  · replace hF := Eq.trans (if_neg c31).symm hF
    refine s_iconst hG dX12_behindSum_170 ⟨by decide, by decide⟩ ?_
    cases hF
    exact s_iret hE dX12_behindSum_171 rfl
theorem t_X12_behindSum_j150 {d n0 s0 nF sF : Nat} {X : MX} {Ω : Nat → MS → Prop} {N : NN} (hsk : m_Sk X) (hd : 4 ≤ d) (hG : m_G d yX12_behindSum.cls yX12_behindSum.name cX12_behindSum 4 n0 s0 nF sF Ω) {out : (Int × NN)} (hE : m_Gd d yX12_behindSum cX12_behindSum 4 (some .int) X (some (.inl out.1)) out.2 X Ω) (hF : f_X12_behindSum_j150 X N = some out) : Ω 150 ([none, none, none, none], [], N, X) := by
  unfold f_X12_behindSum_j150 at hF
  refine s_iconst hG dX12_behindSum_150 ⟨by decide, by decide⟩ ?_
  cases hF
  exact s_iret hE dX12_behindSum_151 rfl
theorem t_X12_behindSum_j71 {d n0 s0 nF sF : Nat} {X : MX} {Ω : Nat → MS → Prop} {N : NN} {a1 : Int} {z0 : Int} (hsk : m_Sk X) (hd : 4 ≤ d) (hG : m_G d yX12_behindSum.cls yX12_behindSum.name cX12_behindSum 4 n0 s0 nF sF Ω) {out : (Int × NN)} (hE : m_Gd d yX12_behindSum cX12_behindSum 4 (some .int) X (some (.inl out.1)) out.2 X Ω) (hF : f_X12_behindSum_j71 X N a1 z0 = some out) : Ω 71 ([some (.inr (.inr 64)), some (.inl a1), none, none], [(.inl z0)], N, X) := by
  unfold f_X12_behindSum_j71 at hF
  refine s_istore_n hG dX12_behindSum_71 (by decide) rfl ?_
  refine s_iload_n hG dX12_behindSum_72 rfl ?_
  refine s_iconst hG dX12_behindSum_73 ⟨by decide, by decide⟩ ?_
  refine s_icmp_eq hG 97 dX12_behindSum_74 (by decide) (fun c25 => ?_) (fun c25 => ?_)
  · replace hF := Eq.trans (if_pos c25).symm hF
    refine s_aload_n hG dX12_behindSum_97 rfl ?_
    obtain ⟨o11, ho11, hF⟩ := bd_some hF
    refine s_callV (d' := d - 1) (ci := 12) (args := []) hG (by omega) dX12_behindSum_98 cv_RX12_355 cw_X12_inner rfl rfl (sk_k hsk 64 rfl) (Nat.le_of_ble_eq_true rfl) rfl (t_X12_inner hsk (by omega) ho11) ?_
    refine s_istore_n hG dX12_behindSum_101 (by decide) rfl ?_
    refine s_iload_n hG dX12_behindSum_102 rfl ?_
    refine s_bipush hG dX12_behindSum_103 bp_32 ⟨by decide, by decide⟩ ?_
    refine s_icmp_ne hG 152 dX12_behindSum_105 (by decide) (fun c20 => ?_) (fun c20 => ?_)
    · replace hF := Eq.trans (if_pos c20).symm hF
      refine s_aload_n hG dX12_behindSum_108 rfl ?_
      refine s_aload_n hG dX12_behindSum_109 rfl ?_
      refine s_bipush hG dX12_behindSum_110 bp_93 ⟨by decide, by decide⟩ ?_
      obtain ⟨o12, ho12, hF⟩ := bd_some hF
      refine s_callV (d' := d - 1) (ci := 12) (args := [.inl 93]) hG (by omega) dX12_behindSum_112 cv_RX12_320 cw_X12_isSign rfl rfl (sk_k hsk 64 rfl) (Nat.le_of_ble_eq_true rfl) rfl (t_X12_isSign hsk (by omega) ho12) ?_
      obtain ⟨o13, ho13, hF⟩ := bd_some hF
      refine s_callV (d' := d - 1) (ci := 12) (args := [.inl o12]) hG (by omega) dX12_behindSum_115 cv_RX12_284 cw_X12_must rfl rfl (sk_k hsk 64 rfl) (Nat.le_of_ble_eq_true rfl) rfl (t_X12_must hsk (by omega) ho13) ?_
      refine s_aload_n hG dX12_behindSum_118 rfl ?_
      refine s_getz hG dX12_behindSum_119 fl_RX12_249 (sk_k hsk 64 rfl) rfl ?_
      refine s_if_ne hG 150 dX12_behindSum_122 (by decide) (fun c17 => ?_) (fun c17 => ?_)
      · replace hF := Eq.trans (if_pos c17).symm hF
        refine s_aload_n hG dX12_behindSum_125 rfl ?_
        refine s_iconst hG dX12_behindSum_126 ⟨by decide, by decide⟩ ?_
        obtain ⟨o14, ho14, hF⟩ := bd_some hF
        refine s_callV (d' := d - 1) (ci := 12) (args := [.inl 5]) hG (by omega) dX12_behindSum_127 cv_RX12_352 cw_X12_settle rfl rfl (sk_k hsk 64 rfl) (Nat.le_of_ble_eq_true rfl) rfl (t_X12_settle hsk (by omega) ho14) ?_
        refine s_aload_n hG dX12_behindSum_130 rfl ?_
        refine s_dup hG dX12_behindSum_131 rfl ?_
        refine s_geti hG dX12_behindSum_132 fl_RX12_291 (sk_k hsk 64 rfl) rfl ?_
        refine s_iconst hG dX12_behindSum_135 ⟨by decide, by decide⟩ ?_
        refine s_isub hG dX12_behindSum_136 ?_
        refine s_puti hG dX12_behindSum_137 fl_RX12_291 (fun h => by cases h) (sk_k hsk 64 rfl) rfl ?_
        refine s_aload_n hG dX12_behindSum_140 rfl ?_
        refine s_dup hG dX12_behindSum_141 rfl ?_
        refine s_geti hG dX12_behindSum_142 fl_RX12_311 (sk_k hsk 64 rfl) rfl ?_
        refine s_iconst hG dX12_behindSum_145 ⟨by decide, by decide⟩ ?_
        refine s_isub hG dX12_behindSum_146 ?_
        refine s_puti hG dX12_behindSum_147 fl_RX12_311 (fun h => by cases h) (sk_k hsk 64 rfl) rfl ?_
        refine m_weak (ls1 := [none, none, none, none]) hG trivial ?_
        exact t_X12_behindSum_j150 hsk hd hG hE hF
      · replace hF := Eq.trans (if_neg c17).symm hF
        refine m_weak (ls1 := [none, none, none, none]) hG trivial ?_
        exact t_X12_behindSum_j150 hsk hd hG hE hF
    · replace hF := Eq.trans (if_neg c20).symm hF
      refine s_iload_n hG dX12_behindSum_152 rfl ?_
      refine s_iconst hG dX12_behindSum_153 ⟨by decide, by decide⟩ ?_
      refine s_icmp_ne hG 163 dX12_behindSum_154 (by decide) (fun c19 => ?_) (fun c19 => ?_)
      · replace hF := Eq.trans (if_pos c19).symm hF
        refine s_iload_n hG dX12_behindSum_157 rfl ?_
        refine s_if_ne hG 163 dX12_behindSum_158 (by decide) (fun c18 => ?_) (fun c18 => ?_)
        · replace hF := Eq.trans (if_pos c18).symm hF
          refine s_iconst hG dX12_behindSum_161 ⟨by decide, by decide⟩ ?_
          cases hF
          exact s_iret hE dX12_behindSum_162 rfl
        · replace hF := Eq.trans (if_neg c18).symm hF
          refine m_weak (ls1 := [some (.inr (.inr 64)), none, none, none]) hG ⟨rfl, trivial⟩ ?_
          exact t_X12_behindSum_j163 hsk hd hG hE hF
      · replace hF := Eq.trans (if_neg c19).symm hF
        refine m_weak (ls1 := [some (.inr (.inr 64)), none, none, none]) hG ⟨rfl, trivial⟩ ?_
        exact t_X12_behindSum_j163 hsk hd hG hE hF
  · replace hF := Eq.trans (if_neg c25).symm hF
    refine s_aload_n hG dX12_behindSum_77 rfl ?_
    refine s_iload_n hG dX12_behindSum_78 rfl ?_
    obtain ⟨o21, ho21, hF⟩ := bd_some hF
    refine s_callS (d' := d - 1) (args := [.inl z0]) hG (by omega) dX12_behindSum_79 cs_RX12_294 cw_X12_binds rfl (Nat.le_of_ble_eq_true rfl) rfl (t_X12_binds hsk (by omega) ho21) ?_
    obtain ⟨o22, ho22, hF⟩ := bd_some hF
    refine s_callV (d' := d - 1) (ci := 12) (args := [.inl o21]) hG (by omega) dX12_behindSum_82 cv_RX12_352 cw_X12_settle rfl rfl (sk_k hsk 64 rfl) (Nat.le_of_ble_eq_true rfl) rfl (t_X12_settle hsk (by omega) ho22) ?_
    refine s_aload_n hG dX12_behindSum_85 rfl ?_
    refine s_iload_n hG dX12_behindSum_86 rfl ?_
    refine s_iconst hG dX12_behindSum_87 ⟨by decide, by decide⟩ ?_
    obtain ⟨o23, ho23, hF⟩ := bd_some hF
    refine s_callV (d' := d - 1) (ci := 12) (args := [.inl z0, .inl 0]) hG (by omega) dX12_behindSum_88 cv_RX12_314 cw_X12_push rfl rfl (sk_k hsk 64 rfl) (Nat.le_of_ble_eq_true rfl) rfl (t_X12_push hsk (by omega) ho23) ?_
    refine s_aload_n hG dX12_behindSum_91 rfl ?_
    obtain ⟨o24, ho24, hF⟩ := bd_some hF
    refine s_callV (d' := d - 1) (ci := 12) (args := []) hG (by omega) dX12_behindSum_92 cv_RX12_253 cw_X12_next rfl rfl (sk_k hsk 64 rfl) (Nat.le_of_ble_eq_true rfl) rfl (t_X12_next hsk (by omega) ho24) ?_
    refine s_iconst hG dX12_behindSum_95 ⟨by decide, by decide⟩ ?_
    cases hF
    exact s_iret hE dX12_behindSum_96 rfl
theorem t_X12_behindSum {d : Nat} {X : MX} {N : NN} {a1 : Int} {out : (Int × NN)} (hsk : m_Sk X) (hd : 4 ≤ d) (hF : f_X12_behindSum X N a1 = some out) : m_Call d yX12_behindSum cX12_behindSum 4 (some .int) [(.inr (.inr 64)), (.inl a1)] N X (some (.inl out.1)) out.2 X := by
  refine m_mk (ls0 := [some (.inr (.inr 64)), some (.inl a1), none, none]) (by decide) rfl (Nat.le_of_ble_eq_true rfl) (Nat.le_refl _) (Nat.le_refl _) (fun Ω hE => ?_)
  have hG := hE.G
  unfold f_X12_behindSum at hF
  refine s_aload_n hG dX12_behindSum_0 rfl ?_
  refine s_bipush hG dX12_behindSum_1 bp_43 ⟨by decide, by decide⟩ ?_
  obtain ⟨o1, ho1, hF⟩ := bd_some hF
  refine s_callV (d' := d - 1) (ci := 12) (args := [.inl 43]) hG (by omega) dX12_behindSum_3 cv_RX12_320 cw_X12_isSign rfl rfl (sk_k hsk 64 rfl) (Nat.le_of_ble_eq_true rfl) rfl (t_X12_isSign hsk (by omega) ho1) ?_
  refine s_if_eq hG 14 dX12_behindSum_6 (by decide) (fun c10 => ?_) (fun c10 => ?_)
  · replace hF := Eq.trans (if_pos c10).symm hF
    refine s_aload_n hG dX12_behindSum_14 rfl ?_
    refine s_bipush hG dX12_behindSum_15 bp_45 ⟨by decide, by decide⟩ ?_
    obtain ⟨o2, ho2, hF⟩ := bd_some hF
    refine s_callV (d' := d - 1) (ci := 12) (args := [.inl 45]) hG (by omega) dX12_behindSum_17 cv_RX12_320 cw_X12_isSign rfl rfl (sk_k hsk 64 rfl) (Nat.le_of_ble_eq_true rfl) rfl (t_X12_isSign hsk (by omega) ho2) ?_
    refine s_if_eq hG 28 dX12_behindSum_20 (by decide) (fun c9 => ?_) (fun c9 => ?_)
    · replace hF := Eq.trans (if_pos c9).symm hF
      refine s_aload_n hG dX12_behindSum_28 rfl ?_
      refine s_bipush hG dX12_behindSum_29 bp_42 ⟨by decide, by decide⟩ ?_
      obtain ⟨o3, ho3, hF⟩ := bd_some hF
      refine s_callV (d' := d - 1) (ci := 12) (args := [.inl 42]) hG (by omega) dX12_behindSum_31 cv_RX12_320 cw_X12_isSign rfl rfl (sk_k hsk 64 rfl) (Nat.le_of_ble_eq_true rfl) rfl (t_X12_isSign hsk (by omega) ho3) ?_
      refine s_if_eq hG 42 dX12_behindSum_34 (by decide) (fun c8 => ?_) (fun c8 => ?_)
      · replace hF := Eq.trans (if_pos c8).symm hF
        refine s_aload_n hG dX12_behindSum_42 rfl ?_
        refine s_bipush hG dX12_behindSum_43 bp_47 ⟨by decide, by decide⟩ ?_
        obtain ⟨o4, ho4, hF⟩ := bd_some hF
        refine s_callV (d' := d - 1) (ci := 12) (args := [.inl 47]) hG (by omega) dX12_behindSum_45 cv_RX12_320 cw_X12_isSign rfl rfl (sk_k hsk 64 rfl) (Nat.le_of_ble_eq_true rfl) rfl (t_X12_isSign hsk (by omega) ho4) ?_
        refine s_if_eq hG 56 dX12_behindSum_48 (by decide) (fun c7 => ?_) (fun c7 => ?_)
        · replace hF := Eq.trans (if_pos c7).symm hF
          refine s_aload_n hG dX12_behindSum_56 rfl ?_
          refine s_bipush hG dX12_behindSum_57 bp_37 ⟨by decide, by decide⟩ ?_
          obtain ⟨o5, ho5, hF⟩ := bd_some hF
          refine s_callV (d' := d - 1) (ci := 12) (args := [.inl 37]) hG (by omega) dX12_behindSum_59 cv_RX12_320 cw_X12_isSign rfl rfl (sk_k hsk 64 rfl) (Nat.le_of_ble_eq_true rfl) rfl (t_X12_isSign hsk (by omega) ho5) ?_
          refine s_if_eq hG 70 dX12_behindSum_62 (by decide) (fun c6 => ?_) (fun c6 => ?_)
          · replace hF := Eq.trans (if_pos c6).symm hF
            refine s_iconst hG dX12_behindSum_70 ⟨by decide, by decide⟩ ?_
            exact t_X12_behindSum_j71 hsk hd hG hE hF
          · replace hF := Eq.trans (if_neg c6).symm hF
            refine s_bipush hG dX12_behindSum_65 bp_24 ⟨by decide, by decide⟩ ?_
            refine s_goto hG 71 dX12_behindSum_67 (by decide) ?_
            exact t_X12_behindSum_j71 hsk hd hG hE hF
        · replace hF := Eq.trans (if_neg c7).symm hF
          refine s_bipush hG dX12_behindSum_51 bp_23 ⟨by decide, by decide⟩ ?_
          refine s_goto hG 71 dX12_behindSum_53 (by decide) ?_
          exact t_X12_behindSum_j71 hsk hd hG hE hF
      · replace hF := Eq.trans (if_neg c8).symm hF
        refine s_bipush hG dX12_behindSum_37 bp_22 ⟨by decide, by decide⟩ ?_
        refine s_goto hG 71 dX12_behindSum_39 (by decide) ?_
        exact t_X12_behindSum_j71 hsk hd hG hE hF
    · replace hF := Eq.trans (if_neg c9).symm hF
      refine s_bipush hG dX12_behindSum_23 bp_21 ⟨by decide, by decide⟩ ?_
      refine s_goto hG 71 dX12_behindSum_25 (by decide) ?_
      exact t_X12_behindSum_j71 hsk hd hG hE hF
  · replace hF := Eq.trans (if_neg c10).symm hF
    refine s_bipush hG dX12_behindSum_9 bp_20 ⟨by decide, by decide⟩ ?_
    refine s_goto hG 71 dX12_behindSum_11 (by decide) ?_
    exact t_X12_behindSum_j71 hsk hd hG hE hF
-- X12_isWord
theorem t_X12_isWord_j22 {d n0 s0 nF sF : Nat} {X : MX} {N : NN} {Ω : Nat → MS → Prop} {z0 : Int} (hsk : m_Sk X) (hd : 1 ≤ d) (hG : m_G d yX12_isWord.cls yX12_isWord.name cX12_isWord 3 n0 s0 nF sF Ω) {out : Int} (hE : m_Gd d yX12_isWord cX12_isWord 3 (some .boolean) X (some (.inl out)) N X Ω) (hF : f_X12_isWord_j22 X N z0 = some out) : Ω 22 ([none, none, none], [(.inl z0)], N, X) := by
  unfold f_X12_isWord_j22 at hF
  obtain ⟨g3, hF⟩ := gd_some hF
  cases hF
  exact s_zret hE dX12_isWord_22 rfl g3
theorem t_X12_isWord_j21 {d n0 s0 nF sF : Nat} {X : MX} {N : NN} {Ω : Nat → MS → Prop} (hsk : m_Sk X) (hd : 1 ≤ d) (hG : m_G d yX12_isWord.cls yX12_isWord.name cX12_isWord 3 n0 s0 nF sF Ω) {out : Int} (hE : m_Gd d yX12_isWord cX12_isWord 3 (some .boolean) X (some (.inl out)) N X Ω) (hF : f_X12_isWord_j21 X N = some out) : Ω 21 ([none, none, none], [], N, X) := by
  unfold f_X12_isWord_j21 at hF
  refine s_iconst hG dX12_isWord_21 ⟨by decide, by decide⟩ ?_
  exact t_X12_isWord_j22 hsk hd hG hE hF
theorem t_X12_isWord {d : Nat} {X : MX} {N : NN} {a1 : Int} {out : Int} (hsk : m_Sk X) (hd : 1 ≤ d) (hF : f_X12_isWord X N a1 = some out) : m_Call d yX12_isWord cX12_isWord 3 (some .boolean) [(.inr (.inr 64)), (.inr (.inl a1))] N X (some (.inl out)) N X := by
  refine m_mk (ls0 := [some (.inr (.inr 64)), some (.inr (.inl a1)), none]) (by decide) rfl (Nat.le_of_ble_eq_true rfl) (Nat.le_refl _) (Nat.le_refl _) (fun Ω hE => ?_)
  have hG := hE.G
  unfold f_X12_isWord at hF
  refine s_aload_n hG dX12_isWord_0 rfl ?_
  refine s_geti hG dX12_isWord_1 fl_RX12_269 (sk_k hsk 64 rfl) rfl ?_
  refine s_iconst hG dX12_isWord_4 ⟨by decide, by decide⟩ ?_
  refine s_icmp_ne hG 21 dX12_isWord_5 (by decide) (fun c2 => ?_) (fun c2 => ?_)
  · replace hF := Eq.trans (if_pos c2).symm hF
    refine s_aload_n hG dX12_isWord_8 rfl ?_
    refine s_getl hG dX12_isWord_9 fl_RX12_259 (sk_k hsk 64 rfl) rfl ?_
    refine s_lload_n hG dX12_isWord_12 rfl ?_
    refine s_lcmp hG dX12_isWord_13 ?_
    refine s_if_ne hG 21 dX12_isWord_14 (by decide) (fun c1 => ?_) (fun c1 => ?_)
    · replace hF := Eq.trans (if_pos c1).symm hF
      refine s_iconst hG dX12_isWord_17 ⟨by decide, by decide⟩ ?_
      refine s_goto hG 22 dX12_isWord_18 (by decide) ?_
      refine m_weak (ls1 := [none, none, none]) hG trivial ?_
      exact t_X12_isWord_j22 hsk hd hG hE hF
    · replace hF := Eq.trans (if_neg c1).symm hF
      refine m_weak (ls1 := [none, none, none]) hG trivial ?_
      exact t_X12_isWord_j21 hsk hd hG hE hF
  · replace hF := Eq.trans (if_neg c2).symm hF
    refine m_weak (ls1 := [none, none, none]) hG trivial ?_
    exact t_X12_isWord_j21 hsk hd hG hE hF
-- X12_behindTest
theorem t_X12_behindTest_j66 {d n0 s0 nF sF : Nat} {X : MX} {Ω : Nat → MS → Prop} {N : NN} {z1 : Int} (hsk : m_Sk X) (hd : 4 ≤ d) (hG : m_G d yX12_behindTest.cls yX12_behindTest.name cX12_behindTest 2 n0 s0 nF sF Ω) {out : (Int × NN)} (hE : m_Gd d yX12_behindTest cX12_behindTest 2 (some .int) X (some (.inl out.1)) out.2 X Ω) (hF : f_X12_behindTest_j66 X N z1 = some out) : Ω 66 ([some (.inr (.inr 64)), none], [(.inl z1), (.inr (.inr 64))], N, X) := by
  unfold f_X12_behindTest_j66 at hF
  refine s_iconst hG dX12_behindTest_66 ⟨by decide, by decide⟩ ?_
  obtain ⟨o18, ho18, hF⟩ := bd_some hF
  refine s_callV (d' := d - 1) (ci := 12) (args := [.inl z1, .inl 0]) hG (by omega) dX12_behindTest_67 cv_RX12_297 cw_X12_emit rfl rfl (sk_k hsk 64 rfl) (Nat.le_of_ble_eq_true rfl) rfl (t_X12_emit hsk (by omega) ho18) ?_
  refine s_aload_n hG dX12_behindTest_70 rfl ?_
  obtain ⟨o19, ho19, hF⟩ := bd_some hF
  refine s_callV (d' := d - 1) (ci := 12) (args := []) hG (by omega) dX12_behindTest_71 cv_RX12_253 cw_X12_next rfl rfl (sk_k hsk 64 rfl) (Nat.le_of_ble_eq_true rfl) rfl (t_X12_next hsk (by omega) ho19) ?_
  refine s_iconst hG dX12_behindTest_74 ⟨by decide, by decide⟩ ?_
  cases hF
  exact s_iret hE dX12_behindTest_75 rfl
theorem t_X12_behindTest_j47 {d n0 s0 nF sF : Nat} {X : MX} {Ω : Nat → MS → Prop} {N : NN} {a1 : Int} {z1 : Int} (hsk : m_Sk X) (hd : 4 ≤ d) (hG : m_G d yX12_behindTest.cls yX12_behindTest.name cX12_behindTest 2 n0 s0 nF sF Ω) {out : (Int × NN)} (hE : m_Gd d yX12_behindTest cX12_behindTest 2 (some .int) X (some (.inl out.1)) out.2 X Ω) (hF : f_X12_behindTest_j47 X N a1 z1 = some out) : Ω 47 ([some (.inr (.inr 64)), some (.inl a1)], [(.inl z1), (.inr (.inr 64))], N, X) := by
  unfold f_X12_behindTest_j47 at hF
  refine s_aload_n hG dX12_behindTest_47 rfl ?_
  refine s_geti hG dX12_behindTest_48 fl_RX12_288 (sk_k hsk 64 rfl) rfl ?_
  obtain ⟨o16, ho16, hF⟩ := bd_some hF
  refine s_callV (d' := d - 1) (ci := 12) (args := [.inl z1, .inl (N 64 23)]) hG (by omega) dX12_behindTest_51 cv_RX12_314 cw_X12_push rfl rfl (sk_k hsk 64 rfl) (Nat.le_of_ble_eq_true rfl) rfl (t_X12_push hsk (by omega) ho16) ?_
  refine s_aload_n hG dX12_behindTest_54 rfl ?_
  refine s_iload_n hG dX12_behindTest_55 rfl ?_
  refine s_if_eq hG 64 dX12_behindTest_56 (by decide) (fun c17 => ?_) (fun c17 => ?_)
  · replace hF := Eq.trans (if_pos c17).symm hF
    refine s_bipush hG dX12_behindTest_64 bp_30 ⟨by decide, by decide⟩ ?_
    refine m_weak (ls1 := [some (.inr (.inr 64)), none]) hG ⟨rfl, trivial⟩ ?_
    exact t_X12_behindTest_j66 hsk hd hG hE hF
  · replace hF := Eq.trans (if_neg c17).symm hF
    refine s_bipush hG dX12_behindTest_59 bp_29 ⟨by decide, by decide⟩ ?_
    refine s_goto hG 66 dX12_behindTest_61 (by decide) ?_
    refine m_weak (ls1 := [some (.inr (.inr 64)), none]) hG ⟨rfl, trivial⟩ ?_
    exact t_X12_behindTest_j66 hsk hd hG hE hF
theorem t_X12_behindTest_j32 {d n0 s0 nF sF : Nat} {X : MX} {Ω : Nat → MS → Prop} {N : NN} {a1 : Int} {z1 : Int} (hsk : m_Sk X) (hd : 4 ≤ d) (hG : m_G d yX12_behindTest.cls yX12_behindTest.name cX12_behindTest 2 n0 s0 nF sF Ω) {out : (Int × NN)} (hE : m_Gd d yX12_behindTest cX12_behindTest 2 (some .int) X (some (.inl out.1)) out.2 X Ω) (hF : f_X12_behindTest_j32 X N a1 z1 = some out) : Ω 32 ([some (.inr (.inr 64)), some (.inl a1)], [(.inl z1), (.inr (.inr 64))], N, X) := by
  unfold f_X12_behindTest_j32 at hF
  obtain ⟨o14, ho14, hF⟩ := bd_some hF
  refine s_callV (d' := d - 1) (ci := 12) (args := [.inl z1]) hG (by omega) dX12_behindTest_32 cv_RX12_352 cw_X12_settle rfl rfl (sk_k hsk 64 rfl) (Nat.le_of_ble_eq_true rfl) rfl (t_X12_settle hsk (by omega) ho14) ?_
  refine s_aload_n hG dX12_behindTest_35 rfl ?_
  refine s_iload_n hG dX12_behindTest_36 rfl ?_
  refine s_if_eq hG 45 dX12_behindTest_37 (by decide) (fun c15 => ?_) (fun c15 => ?_)
  · replace hF := Eq.trans (if_pos c15).symm hF
    refine s_bipush hG dX12_behindTest_45 bp_30 ⟨by decide, by decide⟩ ?_
    exact t_X12_behindTest_j47 hsk hd hG hE hF
  · replace hF := Eq.trans (if_neg c15).symm hF
    refine s_bipush hG dX12_behindTest_40 bp_29 ⟨by decide, by decide⟩ ?_
    refine s_goto hG 47 dX12_behindTest_42 (by decide) ?_
    exact t_X12_behindTest_j47 hsk hd hG hE hF
theorem t_X12_behindTest_j22 {d n0 s0 nF sF : Nat} {X : MX} {Ω : Nat → MS → Prop} {N : NN} {a1 : Int} (hsk : m_Sk X) (hd : 4 ≤ d) (hG : m_G d yX12_behindTest.cls yX12_behindTest.name cX12_behindTest 2 n0 s0 nF sF Ω) {out : (Int × NN)} (hE : m_Gd d yX12_behindTest cX12_behindTest 2 (some .int) X (some (.inl out.1)) out.2 X Ω) (hF : f_X12_behindTest_j22 X N a1 = some out) : Ω 22 ([some (.inr (.inr 64)), some (.inl a1)], [], N, X) := by
  unfold f_X12_behindTest_j22 at hF
  refine s_aload_n hG dX12_behindTest_22 rfl ?_
  refine s_iload_n hG dX12_behindTest_23 rfl ?_
  refine s_if_eq hG 31 dX12_behindTest_24 (by decide) (fun c13 => ?_) (fun c13 => ?_)
  · replace hF := Eq.trans (if_pos c13).symm hF
    refine s_iconst hG dX12_behindTest_31 ⟨by decide, by decide⟩ ?_
    exact t_X12_behindTest_j32 hsk hd hG hE hF
  · replace hF := Eq.trans (if_neg c13).symm hF
    refine s_iconst hG dX12_behindTest_27 ⟨by decide, by decide⟩ ?_
    refine s_goto hG 32 dX12_behindTest_28 (by decide) ?_
    exact t_X12_behindTest_j32 hsk hd hG hE hF
theorem t_X12_behindTest_j128 {d n0 s0 nF sF : Nat} {X : MX} {Ω : Nat → MS → Prop} {N : NN} (hsk : m_Sk X) (hd : 4 ≤ d) (hG : m_G d yX12_behindTest.cls yX12_behindTest.name cX12_behindTest 2 n0 s0 nF sF Ω) {out : (Int × NN)} (hE : m_Gd d yX12_behindTest cX12_behindTest 2 (some .int) X (some (.inl out.1)) out.2 X Ω) (hF : f_X12_behindTest_j128 X N = some out) : Ω 128 ([none, none], [], N, X) := by
  unfold f_X12_behindTest_j128 at hF
  refine s_iconst hG dX12_behindTest_128 ⟨by decide, by decide⟩ ?_
  cases hF
  exact s_iret hE dX12_behindTest_129 rfl
theorem t_X12_behindTest {d : Nat} {X : MX} {N : NN} {out : (Int × NN)} (hsk : m_Sk X) (hd : 4 ≤ d) (hF : f_X12_behindTest X N = some out) : m_Call d yX12_behindTest cX12_behindTest 2 (some .int) [(.inr (.inr 64))] N X (some (.inl out.1)) out.2 X := by
  refine m_mk (ls0 := [some (.inr (.inr 64)), none]) (by decide) rfl (Nat.le_of_ble_eq_true rfl) (Nat.le_refl _) (Nat.le_refl _) (fun Ω hE => ?_)
  have hG := hE.G
  unfold f_X12_behindTest at hF
  refine s_aload_n hG dX12_behindTest_0 rfl ?_
  refine s_ldc2 hG dX12_behindTest_1 kc_RX12_362 ⟨by decide, by decide⟩ ?_
  obtain ⟨o1, ho1, hF⟩ := bd_some hF
  refine s_callV (d' := d - 1) (ci := 12) (args := [.inr (.inl 1476)]) hG (by omega) dX12_behindTest_4 cv_RX12_307 cw_X12_isWord rfl rfl (sk_k hsk 64 rfl) (Nat.le_of_ble_eq_true rfl) rfl (t_X12_isWord hsk (by omega) ho1) ?_
  refine s_istore_n hG dX12_behindTest_7 (by decide) rfl ?_
  refine s_iload_n hG dX12_behindTest_8 rfl ?_
  refine s_if_ne hG 22 dX12_behindTest_9 (by decide) (fun c12 => ?_) (fun c12 => ?_)
  · replace hF := Eq.trans (if_pos c12).symm hF
    refine s_aload_n hG dX12_behindTest_12 rfl ?_
    refine s_ldc2 hG dX12_behindTest_13 kc_RX12_364 ⟨by decide, by decide⟩ ?_
    obtain ⟨o2, ho2, hF⟩ := bd_some hF
    refine s_callV (d' := d - 1) (ci := 12) (args := [.inr (.inl 498)]) hG (by omega) dX12_behindTest_16 cv_RX12_307 cw_X12_isWord rfl rfl (sk_k hsk 64 rfl) (Nat.le_of_ble_eq_true rfl) rfl (t_X12_isWord hsk (by omega) ho2) ?_
    refine s_if_eq hG 76 dX12_behindTest_19 (by decide) (fun c11 => ?_) (fun c11 => ?_)
    · replace hF := Eq.trans (if_pos c11).symm hF
      refine s_aload_n hG dX12_behindTest_76 rfl ?_
      obtain ⟨o3, ho3, hF⟩ := bd_some hF
      refine s_callV (d' := d - 1) (ci := 12) (args := []) hG (by omega) dX12_behindTest_77 cv_RX12_355 cw_X12_inner rfl rfl (sk_k hsk 64 rfl) (Nat.le_of_ble_eq_true rfl) rfl (t_X12_inner hsk (by omega) ho3) ?_
      refine s_iconst hG dX12_behindTest_80 ⟨by decide, by decide⟩ ?_
      refine s_icmp_ne hG 86 dX12_behindTest_81 (by decide) (fun c10 => ?_) (fun c10 => ?_)
      · replace hF := Eq.trans (if_pos c10).symm hF
        refine s_iconst hG dX12_behindTest_84 ⟨by decide, by decide⟩ ?_
        cases hF
        exact s_iret hE dX12_behindTest_85 rfl
      · replace hF := Eq.trans (if_neg c10).symm hF
        refine s_aload_n hG dX12_behindTest_86 rfl ?_
        refine s_aload_n hG dX12_behindTest_87 rfl ?_
        refine s_bipush hG dX12_behindTest_88 bp_41 ⟨by decide, by decide⟩ ?_
        obtain ⟨o4, ho4, hF⟩ := bd_some hF
        refine s_callV (d' := d - 1) (ci := 12) (args := [.inl 41]) hG (by omega) dX12_behindTest_90 cv_RX12_320 cw_X12_isSign rfl rfl (sk_k hsk 64 rfl) (Nat.le_of_ble_eq_true rfl) rfl (t_X12_isSign hsk (by omega) ho4) ?_
        obtain ⟨o5, ho5, hF⟩ := bd_some hF
        refine s_callV (d' := d - 1) (ci := 12) (args := [.inl o4]) hG (by omega) dX12_behindTest_93 cv_RX12_284 cw_X12_must rfl rfl (sk_k hsk 64 rfl) (Nat.le_of_ble_eq_true rfl) rfl (t_X12_must hsk (by omega) ho5) ?_
        refine s_aload_n hG dX12_behindTest_96 rfl ?_
        refine s_getz hG dX12_behindTest_97 fl_RX12_249 (sk_k hsk 64 rfl) rfl ?_
        refine s_if_ne hG 128 dX12_behindTest_100 (by decide) (fun c9 => ?_) (fun c9 => ?_)
        · replace hF := Eq.trans (if_pos c9).symm hF
          refine s_aload_n hG dX12_behindTest_103 rfl ?_
          refine s_iconst hG dX12_behindTest_104 ⟨by decide, by decide⟩ ?_
          obtain ⟨o6, ho6, hF⟩ := bd_some hF
          refine s_callV (d' := d - 1) (ci := 12) (args := [.inl 1]) hG (by omega) dX12_behindTest_105 cv_RX12_352 cw_X12_settle rfl rfl (sk_k hsk 64 rfl) (Nat.le_of_ble_eq_true rfl) rfl (t_X12_settle hsk (by omega) ho6) ?_
          refine s_aload_n hG dX12_behindTest_108 rfl ?_
          refine s_dup hG dX12_behindTest_109 rfl ?_
          refine s_geti hG dX12_behindTest_110 fl_RX12_291 (sk_k hsk 64 rfl) rfl ?_
          refine s_iconst hG dX12_behindTest_113 ⟨by decide, by decide⟩ ?_
          refine s_isub hG dX12_behindTest_114 ?_
          refine s_puti hG dX12_behindTest_115 fl_RX12_291 (fun h => by cases h) (sk_k hsk 64 rfl) rfl ?_
          refine s_aload_n hG dX12_behindTest_118 rfl ?_
          refine s_dup hG dX12_behindTest_119 rfl ?_
          refine s_geti hG dX12_behindTest_120 fl_RX12_311 (sk_k hsk 64 rfl) rfl ?_
          refine s_iconst hG dX12_behindTest_123 ⟨by decide, by decide⟩ ?_
          refine s_isub hG dX12_behindTest_124 ?_
          refine s_puti hG dX12_behindTest_125 fl_RX12_311 (fun h => by cases h) (sk_k hsk 64 rfl) rfl ?_
          refine m_weak (ls1 := [none, none]) hG trivial ?_
          exact t_X12_behindTest_j128 hsk hd hG hE hF
        · replace hF := Eq.trans (if_neg c9).symm hF
          refine m_weak (ls1 := [none, none]) hG trivial ?_
          exact t_X12_behindTest_j128 hsk hd hG hE hF
    · replace hF := Eq.trans (if_neg c11).symm hF
      exact t_X12_behindTest_j22 hsk hd hG hE hF
  · replace hF := Eq.trans (if_neg c12).symm hF
    exact t_X12_behindTest_j22 hsk hd hG hE hF
-- X12_toldBy
theorem t_X12_toldBy {d : Nat} {X : MX} {N : NN} {a1 : Int} {a2 : Int} {out : (Int × NN)} (hsk : m_Sk X) (hd : 7 ≤ d) (hF : f_X12_toldBy X N a1 a2 = some out) : m_Call d yX12_toldBy cX12_toldBy 3 (some .int) [(.inr (.inr 64)), (.inl a1), (.inl a2)] N X (some (.inl out.1)) out.2 X := by
  refine m_mk (ls0 := [some (.inr (.inr 64)), some (.inl a1), some (.inl a2)]) (by decide) rfl (Nat.le_of_ble_eq_true rfl) (Nat.le_refl _) (Nat.le_refl _) (fun Ω hE => ?_)
  have hG := hE.G
  unfold f_X12_toldBy at hF
  refine s_aload_n hG dX12_toldBy_0 rfl ?_
  refine s_iconst hG dX12_toldBy_1 ⟨by decide, by decide⟩ ?_
  refine s_iload_n hG dX12_toldBy_2 rfl ?_
  refine s_iconst hG dX12_toldBy_3 ⟨by decide, by decide⟩ ?_
  refine s_iconst hG dX12_toldBy_4 ⟨by decide, by decide⟩ ?_
  refine s_iload_n hG dX12_toldBy_5 rfl ?_
  refine s_aload_n hG dX12_toldBy_6 rfl ?_
  obtain ⟨o1, ho1, hF⟩ := bd_some hF
  refine s_callV (d' := d - 1) (ci := 12) (args := []) hG (by omega) dX12_toldBy_7 cv_RX12_210 cw_X12_year rfl rfl (sk_k hsk 64 rfl) (Nat.le_of_ble_eq_true rfl) rfl (t_X12_year hsk (by omega) ho1) ?_
  refine s_aload_n hG dX12_toldBy_10 rfl ?_
  refine s_iload_n hG dX12_toldBy_11 rfl ?_
  refine s_iconst hG dX12_toldBy_12 ⟨by decide, by decide⟩ ?_
  obtain ⟨o2, ho2, hF⟩ := bd_some hF
  refine s_callV (d' := d - 1) (ci := 12) (args := [.inl a2, .inl 2]) hG (by omega) dX12_toldBy_13 cv_RX12_190 cw_X12_ofGood rfl rfl (sk_k hsk 64 rfl) (Nat.le_of_ble_eq_true rfl) rfl (t_X12_ofGood hsk (by omega) ho2) ?_
  refine s_i2l hG dX12_toldBy_16 ?_
  obtain ⟨o3, ho3, hF⟩ := bd_some hF
  refine s_callV (d' := d - 1) (ci := 12) (args := [.inl 0, .inl a2, .inl (-1), .inl (-1), .inl a1, .inl o1, .inr (.inl o2)]) hG (by omega) dX12_toldBy_17 cv_RX12_435 cw_X12_tells1 rfl rfl (sk_k hsk 64 rfl) (Nat.le_of_ble_eq_true rfl) rfl (t_X12_tells1 hsk (by omega) ho3) ?_
  refine s_iconst hG dX12_toldBy_20 ⟨by decide, by decide⟩ ?_
  refine s_sipush hG dX12_toldBy_21 sp_999 ⟨by decide, by decide⟩ ?_
  obtain ⟨o4, ho4, hF⟩ := bd_some hF
  refine s_callS (d' := d - 1) (args := [.inr (.inl o3.1), .inl 0, .inl 999]) hG (by omega) dX12_toldBy_24 cs_RX12_439 cw_X12_within rfl (Nat.le_of_ble_eq_true rfl) rfl (t_X12_within hsk (by omega) ho4) ?_
  cases hF
  exact s_iret hE dX12_toldBy_27 rfl
-- X12_middle
theorem t_X12_middle_b44 {d n0 s0 nF sF : Nat} {X : MX} {Ω : Nat → MS → Prop} {N : NN} {a1 : Int} {a2 : Int} {a3 : Int} {a4 : Int} {a5 : Int} {a6 : Int} {a7 : Int} (hsk : m_Sk X) (hd : 8 ≤ d) (hG : m_G d yX12_middle.cls yX12_middle.name cX12_middle 8 n0 s0 nF sF Ω) {out : ((NN × Int × Int × Int × Int × Int × Int × Int) ⊕ (NN × Int × Int × Int × Int × Int × Int × Int))} (hK0 : ∀ s' : (NN × Int × Int × Int × Int × Int × Int × Int), out = .inl s' → Ω 44 ([some (.inr (.inr 64)), some (.inl (s'.2.1)), some (.inl (s'.2.2.1)), some (.inl (s'.2.2.2.1)), some (.inl (s'.2.2.2.2.1)), some (.inl (s'.2.2.2.2.2.1)), some (.inl (s'.2.2.2.2.2.2.1)), some (.inl (s'.2.2.2.2.2.2.2))], [], s'.1, X)) (hK1 : ∀ t : (NN × Int × Int × Int × Int × Int × Int × Int), out = .inr t → Ω 85 ([some (.inr (.inr 64)), some (.inl t.2.1), some (.inl t.2.2.1), some (.inl t.2.2.2.1), some (.inl t.2.2.2.2.1), some (.inl t.2.2.2.2.2.1), some (.inl t.2.2.2.2.2.2.1), some (.inl t.2.2.2.2.2.2.2)], [], t.1, X)) (hF : b_X12_middle_44 X N a1 a2 a3 a4 a5 a6 a7 = some out) : Ω 44 ([some (.inr (.inr 64)), some (.inl a1), some (.inl a2), some (.inl a3), some (.inl a4), some (.inl a5), some (.inl a6), some (.inl a7)], [], N, X) := by
  unfold b_X12_middle_44 at hF
  refine s_iload hG dX12_middle_44 rfl ?_
  refine s_if_le hG 85 dX12_middle_46 (by decide) (fun c10 => ?_) (fun c10 => ?_)
  · replace hF := Eq.trans (if_pos c10).symm hF
    refine s_aload_n hG dX12_middle_49 rfl ?_
    refine s_getr (r := 92) hG dX12_middle_50 fl_RX12_127 (sk_k hsk 64 rfl) rfl (sk_R hsk 64 49 rfl) ?_
    refine s_iload hG dX12_middle_53 rfl ?_
    refine s_iconst hG dX12_middle_55 ⟨by decide, by decide⟩ ?_
    refine s_isub hG dX12_middle_56 ?_
    obtain ⟨g5, hF⟩ := gd_some hF
    refine s_ialdj (j := (m_w (a7 - 1)).toNat) hG dX12_middle_57 (sk_K hsk 92 rfl) g5 rfl ?_
    refine s_iload hG dX12_middle_58 rfl ?_
    refine s_icmp_le hG 85 dX12_middle_60 (by decide) (fun c9 => ?_) (fun c9 => ?_)
    · replace hF := Eq.trans (if_pos c9).symm hF
      refine s_aload_n hG dX12_middle_63 rfl ?_
      refine s_getr (r := 92) hG dX12_middle_64 fl_RX12_127 (sk_k hsk 64 rfl) rfl (sk_R hsk 64 49 rfl) ?_
      refine s_iload hG dX12_middle_67 rfl ?_
      refine s_aload_n hG dX12_middle_69 rfl ?_
      refine s_getr (r := 92) hG dX12_middle_70 fl_RX12_127 (sk_k hsk 64 rfl) rfl (sk_R hsk 64 49 rfl) ?_
      refine s_iload hG dX12_middle_73 rfl ?_
      refine s_iconst hG dX12_middle_75 ⟨by decide, by decide⟩ ?_
      refine s_isub hG dX12_middle_76 ?_
      obtain ⟨g6, hF⟩ := gd_some hF
      refine s_ialdj (j := (m_w (a7 - 1)).toNat) hG dX12_middle_77 (sk_K hsk 92 rfl) g6 rfl ?_
      obtain ⟨g7, hF⟩ := gd_some hF
      refine s_iastj (j := a7.toNat) hG dX12_middle_78 (sk_K hsk 92 rfl) g7 rfl ?_
      refine s_iinc hG dX12_middle_79 (by decide) rfl rfl ?_
      refine s_goto hG 44 dX12_middle_82 (by decide) ?_
      cases hF
      exact hK0 _ rfl
    · replace hF := Eq.trans (if_neg c9).symm hF
      cases hF
      exact hK1 _ rfl
  · replace hF := Eq.trans (if_neg c10).symm hF
    cases hF
    exact hK1 _ rfl
theorem t_X12_middle_lp44 {d n0 s0 nF sF : Nat} {X : MX} {Ω : Nat → MS → Prop} {N : NN} {a1 : Int} {a2 : Int} {a3 : Int} {a4 : Int} {a5 : Int} {a6 : Int} {a7 : Int} (hsk : m_Sk X) (hd : 8 ≤ d) (hG : m_G d yX12_middle.cls yX12_middle.name cX12_middle 8 n0 s0 nF sF Ω) {t : (NN × Int × Int × Int × Int × Int × Int × Int)} (hK1 : Ω 85 ([some (.inr (.inr 64)), some (.inl t.2.1), some (.inl t.2.2.1), some (.inl t.2.2.2.1), some (.inl t.2.2.2.2.1), some (.inl t.2.2.2.2.2.1), some (.inl t.2.2.2.2.2.2.1), some (.inl t.2.2.2.2.2.2.2)], [], t.1, X)) (hl : lp (fun s => b_X12_middle_44 X s.1 s.2.1 s.2.2.1 s.2.2.2.1 s.2.2.2.2.1 s.2.2.2.2.2.1 s.2.2.2.2.2.2.1 s.2.2.2.2.2.2.2) (N, a1, a2, a3, a4, a5, a6, a7) = some t) : Ω 44 ([some (.inr (.inr 64)), some (.inl a1), some (.inl a2), some (.inl a3), some (.inl a4), some (.inl a5), some (.inl a6), some (.inl a7)], [], N, X) := by
  refine lp_ok (P := fun s => Ω 44 ([some (.inr (.inr 64)), some (.inl s.2.1), some (.inl s.2.2.1), some (.inl s.2.2.2.1), some (.inl s.2.2.2.2.1), some (.inl s.2.2.2.2.2.1), some (.inl s.2.2.2.2.2.2.1), some (.inl s.2.2.2.2.2.2.2)], [], s.1, X)) (K := fun t => Ω 85 ([some (.inr (.inr 64)), some (.inl t.2.1), some (.inl t.2.2.1), some (.inl t.2.2.2.1), some (.inl t.2.2.2.2.1), some (.inl t.2.2.2.2.2.1), some (.inl t.2.2.2.2.2.2.1), some (.inl t.2.2.2.2.2.2.2)], [], t.1, X)) (fun s out hF hK0 hK1 => ?_) hl hK1
  exact t_X12_middle_b44 hsk hd hG (out := out) (fun s' e => hK0 s' e) (fun t' e => hK1 t' e) hF
theorem t_X12_middle_l11_j38 {d n0 s0 nF sF : Nat} {X : MX} {Ω : Nat → MS → Prop} {N : NN} {a1 : Int} {a2 : Int} {a3 : Int} {a4 : Int} {a5 : Int} {z0 : Int} (hsk : m_Sk X) (hd : 8 ≤ d) (hG : m_G d yX12_middle.cls yX12_middle.name cX12_middle 8 n0 s0 nF sF Ω) {out : ((NN × Int × Int × Int × Int × Int) ⊕ (NN × Int))} (hK0 : ∀ s' : (NN × Int × Int × Int × Int × Int), out = .inl s' → Ω 11 ([some (.inr (.inr 64)), some (.inl (s'.2.1)), some (.inl (s'.2.2.1)), some (.inl (s'.2.2.2.1)), some (.inl (s'.2.2.2.2.1)), some (.inl (s'.2.2.2.2.2)), none, none], [], s'.1, X)) (hK1 : ∀ t : (NN × Int), out = .inr t → Ω 100 ([some (.inr (.inr 64)), none, none, none, some (.inl t.2), none, none, none], [], t.1, X)) (hF : f_X12_middle_l11_j38 X N a1 a2 a3 a4 a5 z0 = some out) : Ω 38 ([some (.inr (.inr 64)), some (.inl a1), some (.inl a2), some (.inl a3), some (.inl a4), some (.inl a5), none, none], [(.inl z0)], N, X) := by
  unfold f_X12_middle_l11_j38 at hF
  refine s_istore hG dX12_middle_38 (by decide) rfl ?_
  refine s_iload hG dX12_middle_40 rfl ?_
  refine s_istore hG dX12_middle_42 (by decide) rfl ?_
  obtain ⟨o11, hlo11, hF⟩ := bd_some hF
  refine t_X12_middle_lp44 hsk hd hG ?_ hlo11
  refine s_aload_n hG dX12_middle_85 rfl ?_
  refine s_getr (r := 92) hG dX12_middle_86 fl_RX12_127 (sk_k hsk 64 rfl) rfl (sk_R hsk 64 49 rfl) ?_
  refine s_iload hG dX12_middle_89 rfl ?_
  refine s_iload hG dX12_middle_91 rfl ?_
  obtain ⟨g12, hF⟩ := gd_some hF
  refine s_iastj (j := o11.2.2.2.2.2.2.2.toNat) hG dX12_middle_93 (sk_K hsk 92 rfl) g12 rfl ?_
  refine s_iinc hG dX12_middle_94 (by decide) rfl rfl ?_
  refine s_goto hG 11 dX12_middle_97 (by decide) ?_
  cases hF
  refine m_weak (ls1 := [some (.inr (.inr 64)), some (.inl o11.2.1), some (.inl o11.2.2.1), some (.inl o11.2.2.2.1), some (.inl o11.2.2.2.2.1), some (.inl (m_w (o11.2.2.2.2.2.1 + 1))), none, none]) hG ⟨rfl, ⟨rfl, ⟨rfl, ⟨rfl, ⟨rfl, ⟨rfl, trivial⟩⟩⟩⟩⟩⟩ ?_
  exact hK0 _ rfl
theorem t_X12_middle_b11 {d n0 s0 nF sF : Nat} {X : MX} {Ω : Nat → MS → Prop} {N : NN} {a1 : Int} {a2 : Int} {a3 : Int} {a4 : Int} {a5 : Int} (hsk : m_Sk X) (hd : 8 ≤ d) (hG : m_G d yX12_middle.cls yX12_middle.name cX12_middle 8 n0 s0 nF sF Ω) {out : ((NN × Int × Int × Int × Int × Int) ⊕ (NN × Int))} (hK0 : ∀ s' : (NN × Int × Int × Int × Int × Int), out = .inl s' → Ω 11 ([some (.inr (.inr 64)), some (.inl (s'.2.1)), some (.inl (s'.2.2.1)), some (.inl (s'.2.2.2.1)), some (.inl (s'.2.2.2.2.1)), some (.inl (s'.2.2.2.2.2)), none, none], [], s'.1, X)) (hK1 : ∀ t : (NN × Int), out = .inr t → Ω 100 ([some (.inr (.inr 64)), none, none, none, some (.inl t.2), none, none, none], [], t.1, X)) (hF : b_X12_middle_11 X N a1 a2 a3 a4 a5 = some out) : Ω 11 ([some (.inr (.inr 64)), some (.inl a1), some (.inl a2), some (.inl a3), some (.inl a4), some (.inl a5), none, none], [], N, X) := by
  unfold b_X12_middle_11 at hF
  refine s_iload hG dX12_middle_11 rfl ?_
  refine s_iload hG dX12_middle_13 rfl ?_
  refine s_icmp_ge hG 100 dX12_middle_15 (by decide) (fun c4 => ?_) (fun c4 => ?_)
  · replace hF := Eq.trans (if_pos c4).symm hF
    refine s_iload_n hG dX12_middle_18 rfl ?_
    refine s_iload hG dX12_middle_19 rfl ?_
    obtain ⟨o1, ho1, hF⟩ := bd_some hF
    refine s_callS (d' := d - 1) (args := [.inl a2, .inl a5]) hG (by omega) dX12_middle_21 cs_RX12_458 cw_X12_is rfl (Nat.le_of_ble_eq_true rfl) rfl (t_X12_is hsk (by omega) ho1) ?_
    refine s_if_eq hG 31 dX12_middle_24 (by decide) (fun c3 => ?_) (fun c3 => ?_)
    · replace hF := Eq.trans (if_pos c3).symm hF
      refine s_aload_n hG dX12_middle_31 rfl ?_
      refine s_iload hG dX12_middle_32 rfl ?_
      refine s_iload_n hG dX12_middle_34 rfl ?_
      obtain ⟨o2, ho2, hF⟩ := bd_some hF
      refine s_callV (d' := d - 1) (ci := 12) (args := [.inl a5, .inl a1]) hG (by omega) dX12_middle_35 cv_RX12_519 cw_X12_toldBy rfl rfl (sk_k hsk 64 rfl) (Nat.le_of_ble_eq_true rfl) rfl (t_X12_toldBy hsk (by omega) ho2) ?_
      exact t_X12_middle_l11_j38 hsk hd hG hK0 hK1 hF
    · replace hF := Eq.trans (if_neg c3).symm hF
      refine s_iload_n hG dX12_middle_27 rfl ?_
      refine s_goto hG 38 dX12_middle_28 (by decide) ?_
      exact t_X12_middle_l11_j38 hsk hd hG hK0 hK1 hF
  · replace hF := Eq.trans (if_neg c4).symm hF
    cases hF
    refine m_weak (ls1 := [some (.inr (.inr 64)), none, none, none, some (.inl a4), none, none, none]) hG ⟨rfl, ⟨rfl, trivial⟩⟩ ?_
    exact hK1 _ rfl
theorem t_X12_middle_lp11 {d n0 s0 nF sF : Nat} {X : MX} {Ω : Nat → MS → Prop} {N : NN} {a1 : Int} {a2 : Int} {a3 : Int} {a4 : Int} {a5 : Int} (hsk : m_Sk X) (hd : 8 ≤ d) (hG : m_G d yX12_middle.cls yX12_middle.name cX12_middle 8 n0 s0 nF sF Ω) {t : (NN × Int)} (hK1 : Ω 100 ([some (.inr (.inr 64)), none, none, none, some (.inl t.2), none, none, none], [], t.1, X)) (hl : lp (fun s => b_X12_middle_11 X s.1 s.2.1 s.2.2.1 s.2.2.2.1 s.2.2.2.2.1 s.2.2.2.2.2) (N, a1, a2, a3, a4, a5) = some t) : Ω 11 ([some (.inr (.inr 64)), some (.inl a1), some (.inl a2), some (.inl a3), some (.inl a4), some (.inl a5), none, none], [], N, X) := by
  refine lp_ok (P := fun s => Ω 11 ([some (.inr (.inr 64)), some (.inl s.2.1), some (.inl s.2.2.1), some (.inl s.2.2.2.1), some (.inl s.2.2.2.2.1), some (.inl s.2.2.2.2.2), none, none], [], s.1, X)) (K := fun t => Ω 100 ([some (.inr (.inr 64)), none, none, none, some (.inl t.2), none, none, none], [], t.1, X)) (fun s out hF hK0 hK1 => ?_) hl hK1
  exact t_X12_middle_b11 hsk hd hG (out := out) (fun s' e => hK0 s' e) (fun t' e => hK1 t' e) hF
theorem t_X12_middle_j120 {d n0 s0 nF sF : Nat} {X : MX} {Ω : Nat → MS → Prop} {N : NN} {z0 : Int} (hsk : m_Sk X) (hd : 8 ≤ d) (hG : m_G d yX12_middle.cls yX12_middle.name cX12_middle 8 n0 s0 nF sF Ω) {out : (Int × NN)} (hE : m_Gd d yX12_middle cX12_middle 8 (some .int) X (some (.inl out.1)) out.2 X Ω) (hF : f_X12_middle_j120 X N z0 = some out) : Ω 120 ([none, none, none, none, none, none, none, none], [(.inl z0)], N, X) := by
  unfold f_X12_middle_j120 at hF
  cases hF
  exact s_iret hE dX12_middle_120 rfl
theorem t_X12_middle {d : Nat} {X : MX} {N : NN} {a1 : Int} {a2 : Int} {a3 : Int} {out : (Int × NN)} (hsk : m_Sk X) (hd : 8 ≤ d) (hF : f_X12_middle X N a1 a2 a3 = some out) : m_Call d yX12_middle cX12_middle 8 (some .int) [(.inr (.inr 64)), (.inl a1), (.inl a2), (.inl a3)] N X (some (.inl out.1)) out.2 X := by
  refine m_mk (ls0 := [some (.inr (.inr 64)), some (.inl a1), some (.inl a2), some (.inl a3), none, none, none, none]) (by decide) rfl (Nat.le_of_ble_eq_true rfl) (Nat.le_refl _) (Nat.le_refl _) (fun Ω hE => ?_)
  have hG := hE.G
  unfold f_X12_middle at hF
  refine s_aload_n hG dX12_middle_0 rfl ?_
  refine s_getr (r := 66) hG dX12_middle_1 fl_RX12_13 (sk_k hsk 64 rfl) rfl (sk_R hsk 64 3 rfl) ?_
  refine s_iconst hG dX12_middle_4 ⟨by decide, by decide⟩ ?_
  refine s_ialdj (j := 2) hG dX12_middle_5 (sk_K hsk 66 rfl) ⟨by decide, by decide⟩ rfl ?_
  refine s_istore hG dX12_middle_6 (by decide) rfl ?_
  refine s_iconst hG dX12_middle_8 ⟨by decide, by decide⟩ ?_
  refine s_istore hG dX12_middle_9 (by decide) rfl ?_
  obtain ⟨o14, hlo14, hF⟩ := bd_some hF
  refine t_X12_middle_lp11 hsk hd hG ?_ hlo14
  refine s_iload hG dX12_middle_100 rfl ?_
  refine s_if_ne hG 109 dX12_middle_102 (by decide) (fun c16 => ?_) (fun c16 => ?_)
  · replace hF := Eq.trans (if_pos c16).symm hF
    refine s_iconst hG dX12_middle_105 ⟨by decide, by decide⟩ ?_
    refine s_goto hG 120 dX12_middle_106 (by decide) ?_
    refine m_weak (ls1 := [none, none, none, none, none, none, none, none]) hG trivial ?_
    exact t_X12_middle_j120 hsk hd hG hE hF
  · replace hF := Eq.trans (if_neg c16).symm hF
    refine s_aload_n hG dX12_middle_109 rfl ?_
    refine s_getr (r := 92) hG dX12_middle_110 fl_RX12_127 (sk_k hsk 64 rfl) rfl (sk_R hsk 64 49 rfl) ?_
    refine s_iload hG dX12_middle_113 rfl ?_
    refine s_iconst hG dX12_middle_115 ⟨by decide, by decide⟩ ?_
    refine s_isub hG dX12_middle_116 ?_
    refine s_iconst hG dX12_middle_117 ⟨by decide, by decide⟩ ?_
    refine s_idiv hG dX12_middle_118 (by decide) ?_
    obtain ⟨g15, hF⟩ := gd_some hF
    refine s_ialdj (j := (m_div (m_w (o14.2 - 1)) 2).toNat) hG dX12_middle_119 (sk_K hsk 92 rfl) g15 rfl ?_
    refine m_weak (ls1 := [none, none, none, none, none, none, none, none]) hG trivial ?_
    exact t_X12_middle_j120 hsk hd hG hE hF
-- X12_bribe
theorem t_X12_bribe_l108_j184 {d n0 s0 nF sF : Nat} {X : MX} {Ω : Nat → MS → Prop} {N : NN} {a1 : Int} {a3 : Int} {a4 : Int} {a5 : Int} {a6 : Int} {a7 : Int} {a8 : Int} {a10 : Int} {a11 : Int} {z0 : Int} {z1 : Int} (hsk : m_Sk X) (hd : 9 ≤ d) (hG : m_G d yX12_bribe.cls yX12_bribe.name cX12_bribe 13 n0 s0 nF sF Ω) {out : ((NN × Int × Int × Int × Int × Int × Int × Int × Int × Int × Int) ⊕ (NN × Int × Int × Int × Int × Int × Int × Int × Int × Int))} (hK0 : ∀ s' : (NN × Int × Int × Int × Int × Int × Int × Int × Int × Int × Int), out = .inl s' → Ω 108 ([some (.inr (.inr 64)), some (.inl (s'.2.1)), none, some (.inl (s'.2.2.1)), some (.inl (s'.2.2.2.1)), some (.inl (s'.2.2.2.2.1)), some (.inl (s'.2.2.2.2.2.1)), some (.inl (s'.2.2.2.2.2.2.1)), some (.inl (s'.2.2.2.2.2.2.2.1)), some (.inl (s'.2.2.2.2.2.2.2.2.1)), some (.inl (s'.2.2.2.2.2.2.2.2.2.1)), some (.inl (s'.2.2.2.2.2.2.2.2.2.2)), none], [], s'.1, X)) (hK1 : ∀ t : (NN × Int × Int × Int × Int × Int × Int × Int × Int × Int), out = .inr t → Ω 193 ([some (.inr (.inr 64)), some (.inl t.2.1), none, some (.inl t.2.2.1), some (.inl t.2.2.2.1), some (.inl t.2.2.2.2.1), some (.inl t.2.2.2.2.2.1), some (.inl t.2.2.2.2.2.2.1), some (.inl t.2.2.2.2.2.2.2.1), some (.inl t.2.2.2.2.2.2.2.2.1), some (.inl t.2.2.2.2.2.2.2.2.2), none, none], [], t.1, X)) (hF : f_X12_bribe_l108_j184 X N a1 a3 a4 a5 a6 a7 a8 a10 a11 z0 z1 = some out) : Ω 184 ([some (.inr (.inr 64)), some (.inl a1), none, some (.inl a3), some (.inl a4), some (.inl a5), some (.inl a6), some (.inl a7), some (.inl a8), none, some (.inl a10), some (.inl a11), none], [(.inl z1), (.inl z0)], N, X) := by
  unfold f_X12_bribe_l108_j184 at hF
  refine s_iadd hG dX12_bribe_184 ?_
  refine s_istore hG dX12_bribe_185 (by decide) rfl ?_
  refine s_iinc hG dX12_bribe_187 (by decide) rfl rfl ?_
  refine s_goto hG 108 dX12_bribe_190 (by decide) ?_
  cases hF
  exact hK0 _ rfl
theorem t_X12_bribe_l108_j152 {d n0 s0 nF sF : Nat} {X : MX} {Ω : Nat → MS → Prop} {N : NN} {a1 : Int} {a3 : Int} {a4 : Int} {a5 : Int} {a6 : Int} {a7 : Int} {a8 : Int} {a9 : Int} {a11 : Int} {a12 : Int} {z0 : Int} (hsk : m_Sk X) (hd : 9 ≤ d) (hG : m_G d yX12_bribe.cls yX12_bribe.name cX12_bribe 13 n0 s0 nF sF Ω) {out : ((NN × Int × Int × Int × Int × Int × Int × Int × Int × Int × Int) ⊕ (NN × Int × Int × Int × Int × Int × Int × Int × Int × Int))} (hK0 : ∀ s' : (NN × Int × Int × Int × Int × Int × Int × Int × Int × Int × Int), out = .inl s' → Ω 108 ([some (.inr (.inr 64)), some (.inl (s'.2.1)), none, some (.inl (s'.2.2.1)), some (.inl (s'.2.2.2.1)), some (.inl (s'.2.2.2.2.1)), some (.inl (s'.2.2.2.2.2.1)), some (.inl (s'.2.2.2.2.2.2.1)), some (.inl (s'.2.2.2.2.2.2.2.1)), some (.inl (s'.2.2.2.2.2.2.2.2.1)), some (.inl (s'.2.2.2.2.2.2.2.2.2.1)), some (.inl (s'.2.2.2.2.2.2.2.2.2.2)), none], [], s'.1, X)) (hK1 : ∀ t : (NN × Int × Int × Int × Int × Int × Int × Int × Int × Int), out = .inr t → Ω 193 ([some (.inr (.inr 64)), some (.inl t.2.1), none, some (.inl t.2.2.1), some (.inl t.2.2.2.1), some (.inl t.2.2.2.2.1), some (.inl t.2.2.2.2.2.1), some (.inl t.2.2.2.2.2.2.1), some (.inl t.2.2.2.2.2.2.2.1), some (.inl t.2.2.2.2.2.2.2.2.1), some (.inl t.2.2.2.2.2.2.2.2.2), none, none], [], t.1, X)) (hF : f_X12_bribe_l108_j152 X N a1 a3 a4 a5 a6 a7 a8 a9 a11 a12 z0 = some out) : Ω 152 ([some (.inr (.inr 64)), some (.inl a1), none, some (.inl a3), some (.inl a4), some (.inl a5), some (.inl a6), some (.inl a7), some (.inl a8), some (.inl a9), none, some (.inl a11), some (.inl a12)], [(.inl z0)], N, X) := by
  unfold f_X12_bribe_l108_j152 at hF
  refine s_istore hG dX12_bribe_152 (by decide) rfl ?_
  refine s_iload hG dX12_bribe_154 rfl ?_
  refine s_iload hG dX12_bribe_156 rfl ?_
  refine s_iload hG dX12_bribe_158 rfl ?_
  obtain ⟨o15, ho15, hF⟩ := bd_some hF
  refine s_callS (d' := d - 1) (args := [.inl a8, .inl a11]) hG (by omega) dX12_bribe_160 cs_RX12_458 cw_X12_is rfl (Nat.le_of_ble_eq_true rfl) rfl (t_X12_is hsk (by omega) ho15) ?_
  refine s_if_eq hG 183 dX12_bribe_163 (by decide) (fun c17 => ?_) (fun c17 => ?_)
  · replace hF := Eq.trans (if_pos c17).symm hF
    refine s_iconst hG dX12_bribe_183 ⟨by decide, by decide⟩ ?_
    refine m_weak (ls1 := [some (.inr (.inr 64)), some (.inl a1), none, some (.inl a3), some (.inl a4), some (.inl a5), some (.inl a6), some (.inl a7), some (.inl a8), none, some (.inl z0), some (.inl a11), none]) hG ⟨rfl, ⟨rfl, ⟨rfl, ⟨rfl, ⟨rfl, ⟨rfl, ⟨rfl, ⟨rfl, ⟨rfl, ⟨rfl, trivial⟩⟩⟩⟩⟩⟩⟩⟩⟩⟩ ?_
    exact t_X12_bribe_l108_j184 hsk hd hG hK0 hK1 hF
  · replace hF := Eq.trans (if_neg c17).symm hF
    refine s_iload hG dX12_bribe_166 rfl ?_
    refine s_aload_n hG dX12_bribe_168 rfl ?_
    refine s_getr (r := 66) hG dX12_bribe_169 fl_RX12_13 (sk_k hsk 64 rfl) rfl (sk_R hsk 64 3 rfl) ?_
    refine s_sipush hG dX12_bribe_172 sp_213 ⟨by decide, by decide⟩ ?_
    refine s_iload hG dX12_bribe_175 rfl ?_
    refine s_iadd hG dX12_bribe_177 ?_
    obtain ⟨g16, hF⟩ := gd_some hF
    refine s_ialdj (j := (m_w (213 + a11)).toNat) hG dX12_bribe_178 (sk_K hsk 66 rfl) g16 rfl ?_
    refine s_imul hG dX12_bribe_179 ?_
    refine s_goto hG 184 dX12_bribe_180 (by decide) ?_
    refine m_weak (ls1 := [some (.inr (.inr 64)), some (.inl a1), none, some (.inl a3), some (.inl a4), some (.inl a5), some (.inl a6), some (.inl a7), some (.inl a8), none, some (.inl z0), some (.inl a11), none]) hG ⟨rfl, ⟨rfl, ⟨rfl, ⟨rfl, ⟨rfl, ⟨rfl, ⟨rfl, ⟨rfl, ⟨rfl, ⟨rfl, trivial⟩⟩⟩⟩⟩⟩⟩⟩⟩⟩ ?_
    exact t_X12_bribe_l108_j184 hsk hd hG hK0 hK1 hF
theorem t_X12_bribe_l108_j151 {d n0 s0 nF sF : Nat} {X : MX} {Ω : Nat → MS → Prop} {N : NN} {a1 : Int} {a3 : Int} {a4 : Int} {a5 : Int} {a6 : Int} {a7 : Int} {a8 : Int} {a9 : Int} {a11 : Int} {a12 : Int} (hsk : m_Sk X) (hd : 9 ≤ d) (hG : m_G d yX12_bribe.cls yX12_bribe.name cX12_bribe 13 n0 s0 nF sF Ω) {out : ((NN × Int × Int × Int × Int × Int × Int × Int × Int × Int × Int) ⊕ (NN × Int × Int × Int × Int × Int × Int × Int × Int × Int))} (hK0 : ∀ s' : (NN × Int × Int × Int × Int × Int × Int × Int × Int × Int × Int), out = .inl s' → Ω 108 ([some (.inr (.inr 64)), some (.inl (s'.2.1)), none, some (.inl (s'.2.2.1)), some (.inl (s'.2.2.2.1)), some (.inl (s'.2.2.2.2.1)), some (.inl (s'.2.2.2.2.2.1)), some (.inl (s'.2.2.2.2.2.2.1)), some (.inl (s'.2.2.2.2.2.2.2.1)), some (.inl (s'.2.2.2.2.2.2.2.2.1)), some (.inl (s'.2.2.2.2.2.2.2.2.2.1)), some (.inl (s'.2.2.2.2.2.2.2.2.2.2)), none], [], s'.1, X)) (hK1 : ∀ t : (NN × Int × Int × Int × Int × Int × Int × Int × Int × Int), out = .inr t → Ω 193 ([some (.inr (.inr 64)), some (.inl t.2.1), none, some (.inl t.2.2.1), some (.inl t.2.2.2.1), some (.inl t.2.2.2.2.1), some (.inl t.2.2.2.2.2.1), some (.inl t.2.2.2.2.2.2.1), some (.inl t.2.2.2.2.2.2.2.1), some (.inl t.2.2.2.2.2.2.2.2.1), some (.inl t.2.2.2.2.2.2.2.2.2), none, none], [], t.1, X)) (hF : f_X12_bribe_l108_j151 X N a1 a3 a4 a5 a6 a7 a8 a9 a11 a12 = some out) : Ω 151 ([some (.inr (.inr 64)), some (.inl a1), none, some (.inl a3), some (.inl a4), some (.inl a5), some (.inl a6), some (.inl a7), some (.inl a8), some (.inl a9), none, some (.inl a11), some (.inl a12)], [], N, X) := by
  unfold f_X12_bribe_l108_j151 at hF
  refine s_iconst hG dX12_bribe_151 ⟨by decide, by decide⟩ ?_
  exact t_X12_bribe_l108_j152 hsk hd hG hK0 hK1 hF
theorem t_X12_bribe_l108_j147 {d n0 s0 nF sF : Nat} {X : MX} {Ω : Nat → MS → Prop} {N : NN} {a1 : Int} {a3 : Int} {a4 : Int} {a5 : Int} {a6 : Int} {a7 : Int} {a8 : Int} {a9 : Int} {a11 : Int} {a12 : Int} (hsk : m_Sk X) (hd : 9 ≤ d) (hG : m_G d yX12_bribe.cls yX12_bribe.name cX12_bribe 13 n0 s0 nF sF Ω) {out : ((NN × Int × Int × Int × Int × Int × Int × Int × Int × Int × Int) ⊕ (NN × Int × Int × Int × Int × Int × Int × Int × Int × Int))} (hK0 : ∀ s' : (NN × Int × Int × Int × Int × Int × Int × Int × Int × Int × Int), out = .inl s' → Ω 108 ([some (.inr (.inr 64)), some (.inl (s'.2.1)), none, some (.inl (s'.2.2.1)), some (.inl (s'.2.2.2.1)), some (.inl (s'.2.2.2.2.1)), some (.inl (s'.2.2.2.2.2.1)), some (.inl (s'.2.2.2.2.2.2.1)), some (.inl (s'.2.2.2.2.2.2.2.1)), some (.inl (s'.2.2.2.2.2.2.2.2.1)), some (.inl (s'.2.2.2.2.2.2.2.2.2.1)), some (.inl (s'.2.2.2.2.2.2.2.2.2.2)), none], [], s'.1, X)) (hK1 : ∀ t : (NN × Int × Int × Int × Int × Int × Int × Int × Int × Int), out = .inr t → Ω 193 ([some (.inr (.inr 64)), some (.inl t.2.1), none, some (.inl t.2.2.1), some (.inl t.2.2.2.1), some (.inl t.2.2.2.2.1), some (.inl t.2.2.2.2.2.1), some (.inl t.2.2.2.2.2.2.1), some (.inl t.2.2.2.2.2.2.2.1), some (.inl t.2.2.2.2.2.2.2.2.1), some (.inl t.2.2.2.2.2.2.2.2.2), none, none], [], t.1, X)) (hF : f_X12_bribe_l108_j147 X N a1 a3 a4 a5 a6 a7 a8 a9 a11 a12 = some out) : Ω 147 ([some (.inr (.inr 64)), some (.inl a1), none, some (.inl a3), some (.inl a4), some (.inl a5), some (.inl a6), some (.inl a7), some (.inl a8), some (.inl a9), none, some (.inl a11), some (.inl a12)], [], N, X) := by
  unfold f_X12_bribe_l108_j147 at hF
  refine s_iconst hG dX12_bribe_147 ⟨by decide, by decide⟩ ?_
  refine s_goto hG 152 dX12_bribe_148 (by decide) ?_
  exact t_X12_bribe_l108_j152 hsk hd hG hK0 hK1 hF
theorem t_X12_bribe_b108 {d n0 s0 nF sF : Nat} {X : MX} {Ω : Nat → MS → Prop} {N : NN} {a1 : Int} {a3 : Int} {a4 : Int} {a5 : Int} {a6 : Int} {a7 : Int} {a8 : Int} {a9 : Int} {a10 : Int} {a11 : Int} (hsk : m_Sk X) (hd : 9 ≤ d) (hG : m_G d yX12_bribe.cls yX12_bribe.name cX12_bribe 13 n0 s0 nF sF Ω) {out : ((NN × Int × Int × Int × Int × Int × Int × Int × Int × Int × Int) ⊕ (NN × Int × Int × Int × Int × Int × Int × Int × Int × Int))} (hK0 : ∀ s' : (NN × Int × Int × Int × Int × Int × Int × Int × Int × Int × Int), out = .inl s' → Ω 108 ([some (.inr (.inr 64)), some (.inl (s'.2.1)), none, some (.inl (s'.2.2.1)), some (.inl (s'.2.2.2.1)), some (.inl (s'.2.2.2.2.1)), some (.inl (s'.2.2.2.2.2.1)), some (.inl (s'.2.2.2.2.2.2.1)), some (.inl (s'.2.2.2.2.2.2.2.1)), some (.inl (s'.2.2.2.2.2.2.2.2.1)), some (.inl (s'.2.2.2.2.2.2.2.2.2.1)), some (.inl (s'.2.2.2.2.2.2.2.2.2.2)), none], [], s'.1, X)) (hK1 : ∀ t : (NN × Int × Int × Int × Int × Int × Int × Int × Int × Int), out = .inr t → Ω 193 ([some (.inr (.inr 64)), some (.inl t.2.1), none, some (.inl t.2.2.1), some (.inl t.2.2.2.1), some (.inl t.2.2.2.2.1), some (.inl t.2.2.2.2.2.1), some (.inl t.2.2.2.2.2.2.1), some (.inl t.2.2.2.2.2.2.2.1), some (.inl t.2.2.2.2.2.2.2.2.1), some (.inl t.2.2.2.2.2.2.2.2.2), none, none], [], t.1, X)) (hF : b_X12_bribe_108 X N a1 a3 a4 a5 a6 a7 a8 a9 a10 a11 = some out) : Ω 108 ([some (.inr (.inr 64)), some (.inl a1), none, some (.inl a3), some (.inl a4), some (.inl a5), some (.inl a6), some (.inl a7), some (.inl a8), some (.inl a9), some (.inl a10), some (.inl a11), none], [], N, X) := by
  unfold b_X12_bribe_108 at hF
  refine s_iload hG dX12_bribe_108 rfl ?_
  refine s_iload hG dX12_bribe_110 rfl ?_
  refine s_icmp_ge hG 193 dX12_bribe_112 (by decide) (fun c14 => ?_) (fun c14 => ?_)
  · replace hF := Eq.trans (if_pos c14).symm hF
    refine s_iload hG dX12_bribe_115 rfl ?_
    refine s_aload_n hG dX12_bribe_117 rfl ?_
    refine s_iload hG dX12_bribe_118 rfl ?_
    refine s_iload_n hG dX12_bribe_120 rfl ?_
    obtain ⟨o9, ho9, hF⟩ := bd_some hF
    refine s_callV (d' := d - 1) (ci := 12) (args := [.inl a11, .inl a1]) hG (by omega) dX12_bribe_121 cv_RX12_519 cw_X12_toldBy rfl rfl (sk_k hsk 64 rfl) (Nat.le_of_ble_eq_true rfl) rfl (t_X12_toldBy hsk (by omega) ho9) ?_
    refine s_isub hG dX12_bribe_124 ?_
    refine s_istore hG dX12_bribe_125 (by decide) rfl ?_
    refine s_iload hG dX12_bribe_127 rfl ?_
    refine s_if_eq hG 151 dX12_bribe_129 (by decide) (fun c13 => ?_) (fun c13 => ?_)
    · replace hF := Eq.trans (if_pos c13).symm hF
      refine m_weak (ls1 := [some (.inr (.inr 64)), some (.inl a1), none, some (.inl a3), some (.inl a4), some (.inl a5), some (.inl a6), some (.inl a7), some (.inl a8), some (.inl a9), none, some (.inl a11), some (.inl (m_w (a5 - o9.1)))]) hG ⟨rfl, ⟨rfl, ⟨rfl, ⟨rfl, ⟨rfl, ⟨rfl, ⟨rfl, ⟨rfl, ⟨rfl, ⟨rfl, ⟨rfl, trivial⟩⟩⟩⟩⟩⟩⟩⟩⟩⟩⟩ ?_
      exact t_X12_bribe_l108_j151 hsk hd hG hK0 hK1 hF
    · replace hF := Eq.trans (if_neg c13).symm hF
      refine s_iload hG dX12_bribe_132 rfl ?_
      refine s_iload hG dX12_bribe_134 rfl ?_
      obtain ⟨o10, ho10, hF⟩ := bd_some hF
      refine s_callS (d' := d - 1) (args := [.inl a8, .inl a11]) hG (by omega) dX12_bribe_136 cs_RX12_458 cw_X12_is rfl (Nat.le_of_ble_eq_true rfl) rfl (t_X12_is hsk (by omega) ho10) ?_
      refine s_if_eq hG 147 dX12_bribe_139 (by decide) (fun c12 => ?_) (fun c12 => ?_)
      · replace hF := Eq.trans (if_pos c12).symm hF
        refine m_weak (ls1 := [some (.inr (.inr 64)), some (.inl a1), none, some (.inl a3), some (.inl a4), some (.inl a5), some (.inl a6), some (.inl a7), some (.inl a8), some (.inl a9), none, some (.inl a11), some (.inl (m_w (a5 - o9.1)))]) hG ⟨rfl, ⟨rfl, ⟨rfl, ⟨rfl, ⟨rfl, ⟨rfl, ⟨rfl, ⟨rfl, ⟨rfl, ⟨rfl, ⟨rfl, trivial⟩⟩⟩⟩⟩⟩⟩⟩⟩⟩⟩ ?_
        exact t_X12_bribe_l108_j147 hsk hd hG hK0 hK1 hF
      · replace hF := Eq.trans (if_neg c12).symm hF
        refine s_iload hG dX12_bribe_142 rfl ?_
        refine s_if_le hG 151 dX12_bribe_144 (by decide) (fun c11 => ?_) (fun c11 => ?_)
        · replace hF := Eq.trans (if_pos c11).symm hF
          refine m_weak (ls1 := [some (.inr (.inr 64)), some (.inl a1), none, some (.inl a3), some (.inl a4), some (.inl a5), some (.inl a6), some (.inl a7), some (.inl a8), some (.inl a9), none, some (.inl a11), some (.inl (m_w (a5 - o9.1)))]) hG ⟨rfl, ⟨rfl, ⟨rfl, ⟨rfl, ⟨rfl, ⟨rfl, ⟨rfl, ⟨rfl, ⟨rfl, ⟨rfl, ⟨rfl, trivial⟩⟩⟩⟩⟩⟩⟩⟩⟩⟩⟩ ?_
          exact t_X12_bribe_l108_j147 hsk hd hG hK0 hK1 hF
        · replace hF := Eq.trans (if_neg c11).symm hF
          refine m_weak (ls1 := [some (.inr (.inr 64)), some (.inl a1), none, some (.inl a3), some (.inl a4), some (.inl a5), some (.inl a6), some (.inl a7), some (.inl a8), some (.inl a9), none, some (.inl a11), some (.inl (m_w (a5 - o9.1)))]) hG ⟨rfl, ⟨rfl, ⟨rfl, ⟨rfl, ⟨rfl, ⟨rfl, ⟨rfl, ⟨rfl, ⟨rfl, ⟨rfl, ⟨rfl, trivial⟩⟩⟩⟩⟩⟩⟩⟩⟩⟩⟩ ?_
          exact t_X12_bribe_l108_j151 hsk hd hG hK0 hK1 hF
  · replace hF := Eq.trans (if_neg c14).symm hF
    cases hF
    refine m_weak (ls1 := [some (.inr (.inr 64)), some (.inl a1), none, some (.inl a3), some (.inl a4), some (.inl a5), some (.inl a6), some (.inl a7), some (.inl a8), some (.inl a9), some (.inl a10), none, none]) hG ⟨rfl, ⟨rfl, ⟨rfl, ⟨rfl, ⟨rfl, ⟨rfl, ⟨rfl, ⟨rfl, ⟨rfl, ⟨rfl, trivial⟩⟩⟩⟩⟩⟩⟩⟩⟩⟩ ?_
    exact hK1 _ rfl
theorem t_X12_bribe_lp108 {d n0 s0 nF sF : Nat} {X : MX} {Ω : Nat → MS → Prop} {N : NN} {a1 : Int} {a3 : Int} {a4 : Int} {a5 : Int} {a6 : Int} {a7 : Int} {a8 : Int} {a9 : Int} {a10 : Int} {a11 : Int} (hsk : m_Sk X) (hd : 9 ≤ d) (hG : m_G d yX12_bribe.cls yX12_bribe.name cX12_bribe 13 n0 s0 nF sF Ω) {t : (NN × Int × Int × Int × Int × Int × Int × Int × Int × Int)} (hK1 : Ω 193 ([some (.inr (.inr 64)), some (.inl t.2.1), none, some (.inl t.2.2.1), some (.inl t.2.2.2.1), some (.inl t.2.2.2.2.1), some (.inl t.2.2.2.2.2.1), some (.inl t.2.2.2.2.2.2.1), some (.inl t.2.2.2.2.2.2.2.1), some (.inl t.2.2.2.2.2.2.2.2.1), some (.inl t.2.2.2.2.2.2.2.2.2), none, none], [], t.1, X)) (hl : lp (fun s => b_X12_bribe_108 X s.1 s.2.1 s.2.2.1 s.2.2.2.1 s.2.2.2.2.1 s.2.2.2.2.2.1 s.2.2.2.2.2.2.1 s.2.2.2.2.2.2.2.1 s.2.2.2.2.2.2.2.2.1 s.2.2.2.2.2.2.2.2.2.1 s.2.2.2.2.2.2.2.2.2.2) (N, a1, a3, a4, a5, a6, a7, a8, a9, a10, a11) = some t) : Ω 108 ([some (.inr (.inr 64)), some (.inl a1), none, some (.inl a3), some (.inl a4), some (.inl a5), some (.inl a6), some (.inl a7), some (.inl a8), some (.inl a9), some (.inl a10), some (.inl a11), none], [], N, X) := by
  refine lp_ok (P := fun s => Ω 108 ([some (.inr (.inr 64)), some (.inl s.2.1), none, some (.inl s.2.2.1), some (.inl s.2.2.2.1), some (.inl s.2.2.2.2.1), some (.inl s.2.2.2.2.2.1), some (.inl s.2.2.2.2.2.2.1), some (.inl s.2.2.2.2.2.2.2.1), some (.inl s.2.2.2.2.2.2.2.2.1), some (.inl s.2.2.2.2.2.2.2.2.2.1), some (.inl s.2.2.2.2.2.2.2.2.2.2), none], [], s.1, X)) (K := fun t => Ω 193 ([some (.inr (.inr 64)), some (.inl t.2.1), none, some (.inl t.2.2.1), some (.inl t.2.2.2.1), some (.inl t.2.2.2.2.1), some (.inl t.2.2.2.2.2.1), some (.inl t.2.2.2.2.2.2.1), some (.inl t.2.2.2.2.2.2.2.1), some (.inl t.2.2.2.2.2.2.2.2.1), some (.inl t.2.2.2.2.2.2.2.2.2), none, none], [], t.1, X)) (fun s out hF hK0 hK1 => ?_) hl hK1
  exact t_X12_bribe_b108 hsk hd hG (out := out) (fun s' e => hK0 s' e) (fun t' e => hK1 t' e) hF
theorem t_X12_bribe_l73_j227 {d n0 s0 nF sF : Nat} {X : MX} {Ω : Nat → MS → Prop} {N : NN} {a1 : Int} {a3 : Int} {a4 : Int} {a5 : Int} {a6 : Int} {a7 : Int} {a8 : Int} (hsk : m_Sk X) (hd : 9 ≤ d) (hG : m_G d yX12_bribe.cls yX12_bribe.name cX12_bribe 13 n0 s0 nF sF Ω) {out : ((NN × Int × Int × Int × Int × Int × Int × Int) ⊕ (NN × Int × Int × Int))} (hK0 : ∀ s' : (NN × Int × Int × Int × Int × Int × Int × Int), out = .inl s' → Ω 73 ([some (.inr (.inr 64)), some (.inl (s'.2.1)), none, some (.inl (s'.2.2.1)), some (.inl (s'.2.2.2.1)), some (.inl (s'.2.2.2.2.1)), some (.inl (s'.2.2.2.2.2.1)), some (.inl (s'.2.2.2.2.2.2.1)), some (.inl (s'.2.2.2.2.2.2.2)), none, none, none, none], [], s'.1, X)) (hK1 : ∀ t : (NN × Int × Int × Int), out = .inr t → Ω 233 ([none, none, none, some (.inl t.2.1), none, none, some (.inl t.2.2.1), some (.inl t.2.2.2), none, none, none, none, none], [], t.1, X)) (hF : f_X12_bribe_l73_j227 X N a1 a3 a4 a5 a6 a7 a8 = some out) : Ω 227 ([some (.inr (.inr 64)), some (.inl a1), none, some (.inl a3), some (.inl a4), some (.inl a5), some (.inl a6), some (.inl a7), some (.inl a8), none, none, none, none], [], N, X) := by
  unfold f_X12_bribe_l73_j227 at hF
  refine s_iinc hG dX12_bribe_227 (by decide) rfl rfl ?_
  refine s_goto hG 73 dX12_bribe_230 (by decide) ?_
  cases hF
  exact hK0 _ rfl
theorem t_X12_bribe_l73_j103 {d n0 s0 nF sF : Nat} {X : MX} {Ω : Nat → MS → Prop} {N : NN} {a1 : Int} {a3 : Int} {a4 : Int} {a5 : Int} {a6 : Int} {a7 : Int} {a8 : Int} {a9 : Int} {z0 : Int} (hsk : m_Sk X) (hd : 9 ≤ d) (hG : m_G d yX12_bribe.cls yX12_bribe.name cX12_bribe 13 n0 s0 nF sF Ω) {out : ((NN × Int × Int × Int × Int × Int × Int × Int) ⊕ (NN × Int × Int × Int))} (hK0 : ∀ s' : (NN × Int × Int × Int × Int × Int × Int × Int), out = .inl s' → Ω 73 ([some (.inr (.inr 64)), some (.inl (s'.2.1)), none, some (.inl (s'.2.2.1)), some (.inl (s'.2.2.2.1)), some (.inl (s'.2.2.2.2.1)), some (.inl (s'.2.2.2.2.2.1)), some (.inl (s'.2.2.2.2.2.2.1)), some (.inl (s'.2.2.2.2.2.2.2)), none, none, none, none], [], s'.1, X)) (hK1 : ∀ t : (NN × Int × Int × Int), out = .inr t → Ω 233 ([none, none, none, some (.inl t.2.1), none, none, some (.inl t.2.2.1), some (.inl t.2.2.2), none, none, none, none, none], [], t.1, X)) (hF : f_X12_bribe_l73_j103 X N a1 a3 a4 a5 a6 a7 a8 a9 z0 = some out) : Ω 103 ([some (.inr (.inr 64)), some (.inl a1), none, some (.inl a3), some (.inl a4), some (.inl a5), some (.inl a6), some (.inl a7), some (.inl a8), some (.inl a9), none, none, none], [(.inl z0)], N, X) := by
  unfold f_X12_bribe_l73_j103 at hF
  refine s_istore hG dX12_bribe_103 (by decide) rfl ?_
  refine s_iconst hG dX12_bribe_105 ⟨by decide, by decide⟩ ?_
  refine s_istore hG dX12_bribe_106 (by decide) rfl ?_
  obtain ⟨o18, hlo18, hF⟩ := bd_some hF
  refine t_X12_bribe_lp108 hsk hd hG ?_ hlo18
  refine s_iload hG dX12_bribe_193 rfl ?_
  refine s_if_eq hG 227 dX12_bribe_195 (by decide) (fun c22 => ?_) (fun c22 => ?_)
  · replace hF := Eq.trans (if_pos c22).symm hF
    refine m_weak (ls1 := [some (.inr (.inr 64)), some (.inl o18.2.1), none, some (.inl o18.2.2.1), some (.inl o18.2.2.2.1), some (.inl o18.2.2.2.2.1), some (.inl o18.2.2.2.2.2.1), some (.inl o18.2.2.2.2.2.2.1), some (.inl o18.2.2.2.2.2.2.2.1), none, none, none, none]) hG ⟨rfl, ⟨rfl, ⟨rfl, ⟨rfl, ⟨rfl, ⟨rfl, ⟨rfl, ⟨rfl, trivial⟩⟩⟩⟩⟩⟩⟩⟩ ?_
    exact t_X12_bribe_l73_j227 hsk hd hG hK0 hK1 hF
  · replace hF := Eq.trans (if_neg c22).symm hF
    refine s_iload hG dX12_bribe_198 rfl ?_
    refine s_iload hG dX12_bribe_200 rfl ?_
    refine s_icmp_ge hG 227 dX12_bribe_202 (by decide) (fun c21 => ?_) (fun c21 => ?_)
    · replace hF := Eq.trans (if_pos c21).symm hF
      refine s_aload_n hG dX12_bribe_205 rfl ?_
      refine s_iload_n hG dX12_bribe_206 rfl ?_
      refine s_iload hG dX12_bribe_207 rfl ?_
      refine s_iload hG dX12_bribe_209 rfl ?_
      obtain ⟨o19, ho19, hF⟩ := bd_some hF
      refine s_callV (d' := d - 1) (ci := 12) (args := [.inl o18.2.1, .inl o18.2.2.2.2.2.2.2.1, .inl o18.2.2.2.2.1]) hG (by omega) dX12_bribe_211 cv_RX12_522 cw_X12_middle rfl rfl (sk_k hsk 64 rfl) (Nat.le_of_ble_eq_true rfl) rfl (t_X12_middle hsk (by omega) ho19) ?_
      refine s_iload hG dX12_bribe_214 rfl ?_
      refine s_icmp_lt hG 227 dX12_bribe_216 (by decide) (fun c20 => ?_) (fun c20 => ?_)
      · replace hF := Eq.trans (if_pos c20).symm hF
        refine m_weak (ls1 := [some (.inr (.inr 64)), some (.inl o18.2.1), none, some (.inl o18.2.2.1), some (.inl o18.2.2.2.1), some (.inl o18.2.2.2.2.1), some (.inl o18.2.2.2.2.2.1), some (.inl o18.2.2.2.2.2.2.1), some (.inl o18.2.2.2.2.2.2.2.1), none, none, none, none]) hG ⟨rfl, ⟨rfl, ⟨rfl, ⟨rfl, ⟨rfl, ⟨rfl, ⟨rfl, ⟨rfl, trivial⟩⟩⟩⟩⟩⟩⟩⟩ ?_
        exact t_X12_bribe_l73_j227 hsk hd hG hK0 hK1 hF
      · replace hF := Eq.trans (if_neg c20).symm hF
        refine s_iload hG dX12_bribe_219 rfl ?_
        refine s_istore hG dX12_bribe_221 (by decide) rfl ?_
        refine s_iload hG dX12_bribe_223 rfl ?_
        refine s_istore hG dX12_bribe_225 (by decide) rfl ?_
        refine m_weak (ls1 := [some (.inr (.inr 64)), some (.inl o18.2.1), none, some (.inl o18.2.2.1), some (.inl o18.2.2.2.1), some (.inl o18.2.2.2.2.1), some (.inl o18.2.2.2.2.2.2.2.2.1), some (.inl o18.2.2.2.2.2.2.2.1), some (.inl o18.2.2.2.2.2.2.2.1), none, none, none, none]) hG ⟨rfl, ⟨rfl, ⟨rfl, ⟨rfl, ⟨rfl, ⟨rfl, ⟨rfl, ⟨rfl, trivial⟩⟩⟩⟩⟩⟩⟩⟩ ?_
        exact t_X12_bribe_l73_j227 hsk hd hG hK0 hK1 hF
    · replace hF := Eq.trans (if_neg c21).symm hF
      refine m_weak (ls1 := [some (.inr (.inr 64)), some (.inl o18.2.1), none, some (.inl o18.2.2.1), some (.inl o18.2.2.2.1), some (.inl o18.2.2.2.2.1), some (.inl o18.2.2.2.2.2.1), some (.inl o18.2.2.2.2.2.2.1), some (.inl o18.2.2.2.2.2.2.2.1), none, none, none, none]) hG ⟨rfl, ⟨rfl, ⟨rfl, ⟨rfl, ⟨rfl, ⟨rfl, ⟨rfl, ⟨rfl, trivial⟩⟩⟩⟩⟩⟩⟩⟩ ?_
      exact t_X12_bribe_l73_j227 hsk hd hG hK0 hK1 hF
theorem t_X12_bribe_l73_j98 {d n0 s0 nF sF : Nat} {X : MX} {Ω : Nat → MS → Prop} {N : NN} {a1 : Int} {a3 : Int} {a4 : Int} {a5 : Int} {a6 : Int} {a7 : Int} {a8 : Int} {a9 : Int} (hsk : m_Sk X) (hd : 9 ≤ d) (hG : m_G d yX12_bribe.cls yX12_bribe.name cX12_bribe 13 n0 s0 nF sF Ω) {out : ((NN × Int × Int × Int × Int × Int × Int × Int) ⊕ (NN × Int × Int × Int))} (hK0 : ∀ s' : (NN × Int × Int × Int × Int × Int × Int × Int), out = .inl s' → Ω 73 ([some (.inr (.inr 64)), some (.inl (s'.2.1)), none, some (.inl (s'.2.2.1)), some (.inl (s'.2.2.2.1)), some (.inl (s'.2.2.2.2.1)), some (.inl (s'.2.2.2.2.2.1)), some (.inl (s'.2.2.2.2.2.2.1)), some (.inl (s'.2.2.2.2.2.2.2)), none, none, none, none], [], s'.1, X)) (hK1 : ∀ t : (NN × Int × Int × Int), out = .inr t → Ω 233 ([none, none, none, some (.inl t.2.1), none, none, some (.inl t.2.2.1), some (.inl t.2.2.2), none, none, none, none, none], [], t.1, X)) (hF : f_X12_bribe_l73_j98 X N a1 a3 a4 a5 a6 a7 a8 a9 = some out) : Ω 98 ([some (.inr (.inr 64)), some (.inl a1), none, some (.inl a3), some (.inl a4), some (.inl a5), some (.inl a6), some (.inl a7), some (.inl a8), some (.inl a9), none, none, none], [], N, X) := by
  unfold f_X12_bribe_l73_j98 at hF
  refine s_iconst hG dX12_bribe_98 ⟨by decide, by decide⟩ ?_
  refine s_goto hG 103 dX12_bribe_99 (by decide) ?_
  exact t_X12_bribe_l73_j103 hsk hd hG hK0 hK1 hF
theorem t_X12_bribe_b73 {d n0 s0 nF sF : Nat} {X : MX} {Ω : Nat → MS → Prop} {N : NN} {a1 : Int} {a3 : Int} {a4 : Int} {a5 : Int} {a6 : Int} {a7 : Int} {a8 : Int} (hsk : m_Sk X) (hd : 9 ≤ d) (hG : m_G d yX12_bribe.cls yX12_bribe.name cX12_bribe 13 n0 s0 nF sF Ω) {out : ((NN × Int × Int × Int × Int × Int × Int × Int) ⊕ (NN × Int × Int × Int))} (hK0 : ∀ s' : (NN × Int × Int × Int × Int × Int × Int × Int), out = .inl s' → Ω 73 ([some (.inr (.inr 64)), some (.inl (s'.2.1)), none, some (.inl (s'.2.2.1)), some (.inl (s'.2.2.2.1)), some (.inl (s'.2.2.2.2.1)), some (.inl (s'.2.2.2.2.2.1)), some (.inl (s'.2.2.2.2.2.2.1)), some (.inl (s'.2.2.2.2.2.2.2)), none, none, none, none], [], s'.1, X)) (hK1 : ∀ t : (NN × Int × Int × Int), out = .inr t → Ω 233 ([none, none, none, some (.inl t.2.1), none, none, some (.inl t.2.2.1), some (.inl t.2.2.2), none, none, none, none, none], [], t.1, X)) (hF : b_X12_bribe_73 X N a1 a3 a4 a5 a6 a7 a8 = some out) : Ω 73 ([some (.inr (.inr 64)), some (.inl a1), none, some (.inl a3), some (.inl a4), some (.inl a5), some (.inl a6), some (.inl a7), some (.inl a8), none, none, none, none], [], N, X) := by
  unfold b_X12_bribe_73 at hF
  refine s_iload hG dX12_bribe_73 rfl ?_
  refine s_iconst hG dX12_bribe_75 ⟨by decide, by decide⟩ ?_
  refine s_iload hG dX12_bribe_76 rfl ?_
  refine s_ishl hG dX12_bribe_78 ?_
  refine s_icmp_ge hG 233 dX12_bribe_79 (by decide) (fun c8 => ?_) (fun c8 => ?_)
  · replace hF := Eq.trans (if_pos c8).symm hF
    refine s_iconst hG dX12_bribe_82 ⟨by decide, by decide⟩ ?_
    refine s_istore hG dX12_bribe_83 (by decide) rfl ?_
    refine s_iload hG dX12_bribe_85 rfl ?_
    refine s_if_eq hG 98 dX12_bribe_87 (by decide) (fun c7 => ?_) (fun c7 => ?_)
    · replace hF := Eq.trans (if_pos c7).symm hF
      exact t_X12_bribe_l73_j98 hsk hd hG hK0 hK1 hF
    · replace hF := Eq.trans (if_neg c7).symm hF
      refine s_iload hG dX12_bribe_90 rfl ?_
      refine s_sipush hG dX12_bribe_92 sp_999 ⟨by decide, by decide⟩ ?_
      refine s_icmp_gt hG 102 dX12_bribe_95 (by decide) (fun c6 => ?_) (fun c6 => ?_)
      · replace hF := Eq.trans (if_pos c6).symm hF
        refine s_iconst hG dX12_bribe_102 ⟨by decide, by decide⟩ ?_
        exact t_X12_bribe_l73_j103 hsk hd hG hK0 hK1 hF
      · replace hF := Eq.trans (if_neg c6).symm hF
        exact t_X12_bribe_l73_j98 hsk hd hG hK0 hK1 hF
  · replace hF := Eq.trans (if_neg c8).symm hF
    cases hF
    refine m_weak (ls1 := [none, none, none, some (.inl a3), none, none, some (.inl a6), some (.inl a7), none, none, none, none, none]) hG ⟨rfl, ⟨rfl, ⟨rfl, trivial⟩⟩⟩ ?_
    exact hK1 _ rfl
theorem t_X12_bribe_lp73 {d n0 s0 nF sF : Nat} {X : MX} {Ω : Nat → MS → Prop} {N : NN} {a1 : Int} {a3 : Int} {a4 : Int} {a5 : Int} {a6 : Int} {a7 : Int} {a8 : Int} (hsk : m_Sk X) (hd : 9 ≤ d) (hG : m_G d yX12_bribe.cls yX12_bribe.name cX12_bribe 13 n0 s0 nF sF Ω) {t : (NN × Int × Int × Int)} (hK1 : Ω 233 ([none, none, none, some (.inl t.2.1), none, none, some (.inl t.2.2.1), some (.inl t.2.2.2), none, none, none, none, none], [], t.1, X)) (hl : lp (fun s => b_X12_bribe_73 X s.1 s.2.1 s.2.2.1 s.2.2.2.1 s.2.2.2.2.1 s.2.2.2.2.2.1 s.2.2.2.2.2.2.1 s.2.2.2.2.2.2.2) (N, a1, a3, a4, a5, a6, a7, a8) = some t) : Ω 73 ([some (.inr (.inr 64)), some (.inl a1), none, some (.inl a3), some (.inl a4), some (.inl a5), some (.inl a6), some (.inl a7), some (.inl a8), none, none, none, none], [], N, X) := by
  refine lp_ok (P := fun s => Ω 73 ([some (.inr (.inr 64)), some (.inl s.2.1), none, some (.inl s.2.2.1), some (.inl s.2.2.2.1), some (.inl s.2.2.2.2.1), some (.inl s.2.2.2.2.2.1), some (.inl s.2.2.2.2.2.2.1), some (.inl s.2.2.2.2.2.2.2), none, none, none, none], [], s.1, X)) (K := fun t => Ω 233 ([none, none, none, some (.inl t.2.1), none, none, some (.inl t.2.2.1), some (.inl t.2.2.2), none, none, none, none, none], [], t.1, X)) (fun s out hF hK0 hK1 => ?_) hl hK1
  exact t_X12_bribe_b73 hsk hd hG (out := out) (fun s' e => hK0 s' e) (fun t' e => hK1 t' e) hF
theorem t_X12_bribe_j49 {d n0 s0 nF sF : Nat} {X : MX} {Ω : Nat → MS → Prop} {N : NN} (hsk : m_Sk X) (hd : 9 ≤ d) (hG : m_G d yX12_bribe.cls yX12_bribe.name cX12_bribe 13 n0 s0 nF sF Ω) {out : (Int × NN)} (hE : m_Gd d yX12_bribe cX12_bribe 13 (some .int) X (some (.inl out.1)) out.2 X Ω) (hF : f_X12_bribe_j49 X N = some out) : Ω 49 ([none, none, none, none, none, none, none, none, none, none, none, none, none], [], N, X) := by
  unfold f_X12_bribe_j49 at hF
  refine s_iconst hG dX12_bribe_49 ⟨by decide, by decide⟩ ?_
  cases hF
  exact s_iret hE dX12_bribe_50 rfl
theorem t_X12_bribe_j254 {d n0 s0 nF sF : Nat} {X : MX} {Ω : Nat → MS → Prop} {N : NN} {z0 : Int} (hsk : m_Sk X) (hd : 9 ≤ d) (hG : m_G d yX12_bribe.cls yX12_bribe.name cX12_bribe 13 n0 s0 nF sF Ω) {out : (Int × NN)} (hE : m_Gd d yX12_bribe cX12_bribe 13 (some .int) X (some (.inl out.1)) out.2 X Ω) (hF : f_X12_bribe_j254 X N z0 = some out) : Ω 254 ([none, none, none, none, none, none, none, none, none, none, none, none, none], [(.inl z0)], N, X) := by
  unfold f_X12_bribe_j254 at hF
  cases hF
  exact s_iret hE dX12_bribe_254 rfl
theorem t_X12_bribe {d : Nat} {X : MX} {N : NN} {a1 : Int} {a2 : Int} {a3 : Int} {out : (Int × NN)} (hsk : m_Sk X) (hd : 9 ≤ d) (hF : f_X12_bribe X N a1 a2 a3 = some out) : m_Call d yX12_bribe cX12_bribe 13 (some .int) [(.inr (.inr 64)), (.inl a1), (.inl a2), (.inl a3)] N X (some (.inl out.1)) out.2 X := by
  refine m_mk (ls0 := [some (.inr (.inr 64)), some (.inl a1), some (.inl a2), some (.inl a3), none, none, none, none, none, none, none, none, none]) (by decide) rfl (Nat.le_of_ble_eq_true rfl) (Nat.le_refl _) (Nat.le_refl _) (fun Ω hE => ?_)
  have hG := hE.G
  unfold f_X12_bribe at hF
  refine s_aload_n hG dX12_bribe_0 rfl ?_
  refine s_iconst hG dX12_bribe_1 ⟨by decide, by decide⟩ ?_
  refine s_puti hG dX12_bribe_2 fl_RX12_166 (fun h => by cases h) (sk_k hsk 64 rfl) rfl ?_
  let N1 : NN := m_up N 64 0 0
  refine s_aload_n hG dX12_bribe_5 rfl ?_
  refine s_getr (r := 66) hG dX12_bribe_6 fl_RX12_13 (sk_k hsk 64 rfl) rfl (sk_R hsk 64 3 rfl) ?_
  refine s_iconst hG dX12_bribe_9 ⟨by decide, by decide⟩ ?_
  refine s_ialdj (j := 2) hG dX12_bribe_10 (sk_K hsk 66 rfl) ⟨by decide, by decide⟩ rfl ?_
  refine s_istore hG dX12_bribe_11 (by decide) rfl ?_
  refine s_aload_n hG dX12_bribe_13 rfl ?_
  refine s_iload_n hG dX12_bribe_14 rfl ?_
  obtain ⟨o2, ho2, hF⟩ := bd_some hF
  refine s_callV (d' := d - 1) (ci := 12) (args := [.inl a1]) hG (by omega) dX12_bribe_15 cv_RX12_225 cw_X12_isGood rfl rfl (sk_k hsk 64 rfl) (Nat.le_of_ble_eq_true rfl) rfl (t_X12_isGood hsk (by omega) ho2) ?_
  refine s_if_eq hG 49 dX12_bribe_18 (by decide) (fun c30 => ?_) (fun c30 => ?_)
  · replace hF := Eq.trans (if_pos c30).symm hF
    refine m_weak (ls1 := [none, none, none, none, none, none, none, none, none, none, none, none, none]) hG trivial ?_
    exact t_X12_bribe_j49 hsk hd hG hE hF
  · replace hF := Eq.trans (if_neg c30).symm hF
    refine s_aload_n hG dX12_bribe_21 rfl ?_
    refine s_iload_n hG dX12_bribe_22 rfl ?_
    obtain ⟨o3, ho3, hF⟩ := bd_some hF
    refine s_callV (d' := d - 1) (ci := 12) (args := [.inl a2]) hG (by omega) dX12_bribe_23 cv_RX12_225 cw_X12_isGood rfl rfl (sk_k hsk 64 rfl) (Nat.le_of_ble_eq_true rfl) rfl (t_X12_isGood hsk (by omega) ho3) ?_
    refine s_if_eq hG 49 dX12_bribe_26 (by decide) (fun c29 => ?_) (fun c29 => ?_)
    · replace hF := Eq.trans (if_pos c29).symm hF
      refine m_weak (ls1 := [none, none, none, none, none, none, none, none, none, none, none, none, none]) hG trivial ?_
      exact t_X12_bribe_j49 hsk hd hG hE hF
    · replace hF := Eq.trans (if_neg c29).symm hF
      refine s_iload_n hG dX12_bribe_29 rfl ?_
      refine s_iload_n hG dX12_bribe_30 rfl ?_
      refine s_icmp_eq hG 49 dX12_bribe_31 (by decide) (fun c28 => ?_) (fun c28 => ?_)
      · replace hF := Eq.trans (if_pos c28).symm hF
        refine m_weak (ls1 := [none, none, none, none, none, none, none, none, none, none, none, none, none]) hG trivial ?_
        exact t_X12_bribe_j49 hsk hd hG hE hF
      · replace hF := Eq.trans (if_neg c28).symm hF
        refine s_iload_n hG dX12_bribe_34 rfl ?_
        refine s_i2l hG dX12_bribe_35 ?_
        refine s_lconst (v := 0) hG dX12_bribe_36 rfl ⟨by decide, by decide⟩ ?_
        refine s_lconst (v := 1) hG dX12_bribe_37 rfl ⟨by decide, by decide⟩ ?_
        obtain ⟨o4, ho4, hF⟩ := bd_some hF
        refine s_callS (d' := d - 1) (args := [.inr (.inl a3), .inr (.inl 0), .inr (.inl 1)]) hG (by omega) dX12_bribe_38 cs_RX12_179 cw_X12_in rfl (Nat.le_of_ble_eq_true rfl) rfl (t_X12_in hsk (by omega) ho4) ?_
        refine s_if_eq hG 49 dX12_bribe_41 (by decide) (fun c27 => ?_) (fun c27 => ?_)
        · replace hF := Eq.trans (if_pos c27).symm hF
          refine m_weak (ls1 := [none, none, none, none, none, none, none, none, none, none, none, none, none]) hG trivial ?_
          exact t_X12_bribe_j49 hsk hd hG hE hF
        · replace hF := Eq.trans (if_neg c27).symm hF
          refine s_iload hG dX12_bribe_44 rfl ?_
          refine s_if_ne hG 51 dX12_bribe_46 (by decide) (fun c26 => ?_) (fun c26 => ?_)
          · replace hF := Eq.trans (if_pos c26).symm hF
            refine m_weak (ls1 := [none, none, none, none, none, none, none, none, none, none, none, none, none]) hG trivial ?_
            exact t_X12_bribe_j49 hsk hd hG hE hF
          · replace hF := Eq.trans (if_neg c26).symm hF
            refine s_aload_n hG dX12_bribe_51 rfl ?_
            refine s_iload_n hG dX12_bribe_52 rfl ?_
            refine s_iconst hG dX12_bribe_53 ⟨by decide, by decide⟩ ?_
            refine s_iconst hG dX12_bribe_54 ⟨by decide, by decide⟩ ?_
            obtain ⟨o5, ho5, hF⟩ := bd_some hF
            refine s_callV (d' := d - 1) (ci := 12) (args := [.inl a2, .inl 0, .inl 0]) hG (by omega) dX12_bribe_55 cv_RX12_522 cw_X12_middle rfl rfl (sk_k hsk 64 rfl) (Nat.le_of_ble_eq_true rfl) rfl (t_X12_middle hsk (by omega) ho5) ?_
            refine s_iconst hG dX12_bribe_58 ⟨by decide, by decide⟩ ?_
            refine s_iadd hG dX12_bribe_59 ?_
            refine s_istore hG dX12_bribe_60 (by decide) rfl ?_
            refine s_ldcw hG dX12_bribe_62 kc_RX12_515 ⟨by decide, by decide⟩ ?_
            refine s_istore hG dX12_bribe_65 (by decide) rfl ?_
            refine s_iconst hG dX12_bribe_67 ⟨by decide, by decide⟩ ?_
            refine s_istore hG dX12_bribe_68 (by decide) rfl ?_
            refine s_iconst hG dX12_bribe_70 ⟨by decide, by decide⟩ ?_
            refine s_istore hG dX12_bribe_71 (by decide) rfl ?_
            obtain ⟨o23, hlo23, hF⟩ := bd_some hF
            refine m_weak (ls1 := [some (.inr (.inr 64)), some (.inl a1), none, some (.inl a3), some (.inl (N1 66 2)), some (.inl (m_w (o5.1 + 1))), some (.inl 100000000), some (.inl (-1)), some (.inl 0), none, none, none, none]) hG ⟨rfl, ⟨rfl, ⟨rfl, ⟨rfl, ⟨rfl, ⟨rfl, ⟨rfl, ⟨rfl, trivial⟩⟩⟩⟩⟩⟩⟩⟩ ?_
            refine t_X12_bribe_lp73 hsk hd hG ?_ hlo23
            refine s_iload hG dX12_bribe_233 rfl ?_
            refine s_iconst hG dX12_bribe_235 ⟨by decide, by decide⟩ ?_
            refine s_icmp_ne hG 243 dX12_bribe_236 (by decide) (fun c25 => ?_) (fun c25 => ?_)
            · replace hF := Eq.trans (if_pos c25).symm hF
              refine s_iconst hG dX12_bribe_239 ⟨by decide, by decide⟩ ?_
              refine s_goto hG 254 dX12_bribe_240 (by decide) ?_
              refine m_weak (ls1 := [none, none, none, none, none, none, none, none, none, none, none, none, none]) hG trivial ?_
              exact t_X12_bribe_j254 hsk hd hG hE hF
            · replace hF := Eq.trans (if_neg c25).symm hF
              refine s_iload_n hG dX12_bribe_243 rfl ?_
              refine s_if_ne hG 252 dX12_bribe_244 (by decide) (fun c24 => ?_) (fun c24 => ?_)
              · replace hF := Eq.trans (if_pos c24).symm hF
                refine s_iload hG dX12_bribe_247 rfl ?_
                refine s_goto hG 254 dX12_bribe_249 (by decide) ?_
                refine m_weak (ls1 := [none, none, none, none, none, none, none, none, none, none, none, none, none]) hG trivial ?_
                exact t_X12_bribe_j254 hsk hd hG hE hF
              · replace hF := Eq.trans (if_neg c24).symm hF
                refine s_iload hG dX12_bribe_252 rfl ?_
                refine m_weak (ls1 := [none, none, none, none, none, none, none, none, none, none, none, none, none]) hG trivial ?_
                exact t_X12_bribe_j254 hsk hd hG hE hF
-- X12_canBe
theorem t_X12_canBe_j76 {d n0 s0 nF sF : Nat} {X : MX} {N : NN} {Ω : Nat → MS → Prop} {z0 : Int} (hsk : m_Sk X) (hd : 3 ≤ d) (hG : m_G d yX12_canBe.cls yX12_canBe.name cX12_canBe 5 n0 s0 nF sF Ω) {out : Int} (hE : m_Gd d yX12_canBe cX12_canBe 5 (some .boolean) X (some (.inl out)) N X Ω) (hF : f_X12_canBe_j76 X N z0 = some out) : Ω 76 ([none, none, none, none, none], [(.inl z0)], N, X) := by
  unfold f_X12_canBe_j76 at hF
  obtain ⟨g11, hF⟩ := gd_some hF
  cases hF
  exact s_zret hE dX12_canBe_76 rfl g11
theorem t_X12_canBe_j75 {d n0 s0 nF sF : Nat} {X : MX} {N : NN} {Ω : Nat → MS → Prop} (hsk : m_Sk X) (hd : 3 ≤ d) (hG : m_G d yX12_canBe.cls yX12_canBe.name cX12_canBe 5 n0 s0 nF sF Ω) {out : Int} (hE : m_Gd d yX12_canBe cX12_canBe 5 (some .boolean) X (some (.inl out)) N X Ω) (hF : f_X12_canBe_j75 X N = some out) : Ω 75 ([none, none, none, none, none], [], N, X) := by
  unfold f_X12_canBe_j75 at hF
  refine s_iconst hG dX12_canBe_75 ⟨by decide, by decide⟩ ?_
  exact t_X12_canBe_j76 hsk hd hG hE hF
theorem t_X12_canBe {d : Nat} {X : MX} {N : NN} {a1 : Int} {out : Int} (hsk : m_Sk X) (hd : 3 ≤ d) (hF : f_X12_canBe X N a1 = some out) : m_Call d yX12_canBe cX12_canBe 5 (some .boolean) [(.inr (.inr 64)), (.inl a1)] N X (some (.inl out)) N X := by
  refine m_mk (ls0 := [some (.inr (.inr 64)), some (.inl a1), none, none, none]) (by decide) rfl (Nat.le_of_ble_eq_true rfl) (Nat.le_refl _) (Nat.le_refl _) (fun Ω hE => ?_)
  have hG := hE.G
  unfold f_X12_canBe at hF
  refine s_iload_n hG dX12_canBe_0 rfl ?_
  refine s_bipush hG dX12_canBe_1 bp_6 ⟨by decide, by decide⟩ ?_
  refine s_idiv hG dX12_canBe_3 (by decide) ?_
  refine s_istore_n hG dX12_canBe_4 (by decide) rfl ?_
  refine s_iload_n hG dX12_canBe_5 rfl ?_
  refine s_bipush hG dX12_canBe_6 bp_6 ⟨by decide, by decide⟩ ?_
  refine s_irem hG dX12_canBe_8 (by decide) ?_
  refine s_istore_n hG dX12_canBe_9 (by decide) rfl ?_
  refine s_aload_n hG dX12_canBe_10 rfl ?_
  refine s_getr (r := 98) hG dX12_canBe_11 fl_RX12_145 (sk_k hsk 64 rfl) rfl (sk_R hsk 64 60 rfl) ?_
  refine s_iload_n hG dX12_canBe_14 rfl ?_
  obtain ⟨g1, hF⟩ := gd_some hF
  refine s_ialdj (j := (m_div a1 6).toNat) hG dX12_canBe_15 (sk_K hsk 98 rfl) g1 rfl ?_
  refine s_istore hG dX12_canBe_16 (by decide) rfl ?_
  refine s_aload_n hG dX12_canBe_18 rfl ?_
  refine s_iload_n hG dX12_canBe_19 rfl ?_
  obtain ⟨o2, ho2, hF⟩ := bd_some hF
  refine s_callV (d' := d - 1) (ci := 12) (args := [.inl (m_rem a1 6)]) hG (by omega) dX12_canBe_20 cv_RX12_198 cw_X12_isLord rfl rfl (sk_k hsk 64 rfl) (Nat.le_of_ble_eq_true rfl) rfl (t_X12_isLord hsk (by omega) ho2) ?_
  refine s_if_eq hG 75 dX12_canBe_23 (by decide) (fun c10 => ?_) (fun c10 => ?_)
  · replace hF := Eq.trans (if_pos c10).symm hF
    refine m_weak (ls1 := [none, none, none, none, none]) hG trivial ?_
    exact t_X12_canBe_j75 hsk hd hG hE hF
  · replace hF := Eq.trans (if_neg c10).symm hF
    refine s_iload_n hG dX12_canBe_26 rfl ?_
    refine s_iload hG dX12_canBe_27 rfl ?_
    refine s_icmp_eq hG 75 dX12_canBe_29 (by decide) (fun c9 => ?_) (fun c9 => ?_)
    · replace hF := Eq.trans (if_pos c9).symm hF
      refine m_weak (ls1 := [none, none, none, none, none]) hG trivial ?_
      exact t_X12_canBe_j75 hsk hd hG hE hF
    · replace hF := Eq.trans (if_neg c9).symm hF
      refine s_aload_n hG dX12_canBe_32 rfl ?_
      refine s_iload hG dX12_canBe_33 rfl ?_
      refine s_iconst hG dX12_canBe_35 ⟨by decide, by decide⟩ ?_
      obtain ⟨o3, ho3, hF⟩ := bd_some hF
      refine s_callV (d' := d - 1) (ci := 12) (args := [.inl (N 98 ((m_div a1 6).toNat)), .inl 2]) hG (by omega) dX12_canBe_36 cv_RX12_204 cw_X12_ofLord rfl rfl (sk_k hsk 64 rfl) (Nat.le_of_ble_eq_true rfl) rfl (t_X12_ofLord hsk (by omega) ho3) ?_
      refine s_if_ne hG 75 dX12_canBe_39 (by decide) (fun c8 => ?_) (fun c8 => ?_)
      · replace hF := Eq.trans (if_pos c8).symm hF
        refine s_aload_n hG dX12_canBe_42 rfl ?_
        refine s_iload_n hG dX12_canBe_43 rfl ?_
        refine s_iconst hG dX12_canBe_44 ⟨by decide, by decide⟩ ?_
        obtain ⟨o4, ho4, hF⟩ := bd_some hF
        refine s_callV (d' := d - 1) (ci := 12) (args := [.inl (m_rem a1 6), .inl 2]) hG (by omega) dX12_canBe_45 cv_RX12_204 cw_X12_ofLord rfl rfl (sk_k hsk 64 rfl) (Nat.le_of_ble_eq_true rfl) rfl (t_X12_ofLord hsk (by omega) ho4) ?_
        refine s_if_ne hG 75 dX12_canBe_48 (by decide) (fun c7 => ?_) (fun c7 => ?_)
        · replace hF := Eq.trans (if_pos c7).symm hF
          refine s_aload_n hG dX12_canBe_51 rfl ?_
          refine s_getr (r := 97) hG dX12_canBe_52 fl_RX12_142 (sk_k hsk 64 rfl) rfl (sk_R hsk 64 59 rfl) ?_
          refine s_bipush hG dX12_canBe_55 bp_36 ⟨by decide, by decide⟩ ?_
          refine s_iload_n hG dX12_canBe_57 rfl ?_
          refine s_imul hG dX12_canBe_58 ?_
          refine s_bipush hG dX12_canBe_59 bp_6 ⟨by decide, by decide⟩ ?_
          refine s_iload hG dX12_canBe_61 rfl ?_
          refine s_imul hG dX12_canBe_63 ?_
          refine s_iadd hG dX12_canBe_64 ?_
          refine s_iload_n hG dX12_canBe_65 rfl ?_
          refine s_iadd hG dX12_canBe_66 ?_
          obtain ⟨g5, hF⟩ := gd_some hF
          refine s_zaldj (j := (m_w ((m_w ((m_w (36 * (m_div a1 6))) + (m_w (6 * (N 98 ((m_div a1 6).toNat)))))) + (m_rem a1 6))).toNat) hG dX12_canBe_67 (sk_K hsk 97 rfl) g5 rfl ?_
          refine s_if_ne hG 75 dX12_canBe_68 (by decide) (fun c6 => ?_) (fun c6 => ?_)
          · replace hF := Eq.trans (if_pos c6).symm hF
            refine s_iconst hG dX12_canBe_71 ⟨by decide, by decide⟩ ?_
            refine s_goto hG 76 dX12_canBe_72 (by decide) ?_
            refine m_weak (ls1 := [none, none, none, none, none]) hG trivial ?_
            exact t_X12_canBe_j76 hsk hd hG hE hF
          · replace hF := Eq.trans (if_neg c6).symm hF
            refine m_weak (ls1 := [none, none, none, none, none]) hG trivial ?_
            exact t_X12_canBe_j75 hsk hd hG hE hF
        · replace hF := Eq.trans (if_neg c7).symm hF
          refine m_weak (ls1 := [none, none, none, none, none]) hG trivial ?_
          exact t_X12_canBe_j75 hsk hd hG hE hF
      · replace hF := Eq.trans (if_neg c8).symm hF
        refine m_weak (ls1 := [none, none, none, none, none]) hG trivial ?_
        exact t_X12_canBe_j75 hsk hd hG hE hF
-- X12_canGive
theorem t_X12_canGive_j55 {d n0 s0 nF sF : Nat} {X : MX} {N : NN} {Ω : Nat → MS → Prop} {z0 : Int} (hsk : m_Sk X) (hd : 2 ≤ d) (hG : m_G d yX12_canGive.cls yX12_canGive.name cX12_canGive 5 n0 s0 nF sF Ω) {out : Int} (hE : m_Gd d yX12_canGive cX12_canGive 5 (some .boolean) X (some (.inl out)) N X Ω) (hF : f_X12_canGive_j55 X N z0 = some out) : Ω 55 ([none, none, none, none, none], [(.inl z0)], N, X) := by
  unfold f_X12_canGive_j55 at hF
  obtain ⟨g10, hF⟩ := gd_some hF
  cases hF
  exact s_zret hE dX12_canGive_55 rfl g10
theorem t_X12_canGive_j54 {d n0 s0 nF sF : Nat} {X : MX} {N : NN} {Ω : Nat → MS → Prop} (hsk : m_Sk X) (hd : 2 ≤ d) (hG : m_G d yX12_canGive.cls yX12_canGive.name cX12_canGive 5 n0 s0 nF sF Ω) {out : Int} (hE : m_Gd d yX12_canGive cX12_canGive 5 (some .boolean) X (some (.inl out)) N X Ω) (hF : f_X12_canGive_j54 X N = some out) : Ω 54 ([none, none, none, none, none], [], N, X) := by
  unfold f_X12_canGive_j54 at hF
  refine s_iconst hG dX12_canGive_54 ⟨by decide, by decide⟩ ?_
  exact t_X12_canGive_j55 hsk hd hG hE hF
theorem t_X12_canGive_j50 {d n0 s0 nF sF : Nat} {X : MX} {N : NN} {Ω : Nat → MS → Prop} (hsk : m_Sk X) (hd : 2 ≤ d) (hG : m_G d yX12_canGive.cls yX12_canGive.name cX12_canGive 5 n0 s0 nF sF Ω) {out : Int} (hE : m_Gd d yX12_canGive cX12_canGive 5 (some .boolean) X (some (.inl out)) N X Ω) (hF : f_X12_canGive_j50 X N = some out) : Ω 50 ([none, none, none, none, none], [], N, X) := by
  unfold f_X12_canGive_j50 at hF
  refine s_iconst hG dX12_canGive_50 ⟨by decide, by decide⟩ ?_
  refine s_goto hG 55 dX12_canGive_51 (by decide) ?_
  exact t_X12_canGive_j55 hsk hd hG hE hF
theorem t_X12_canGive {d : Nat} {X : MX} {N : NN} {a1 : Int} {a2 : Int} {a3 : Int} {a4 : Int} {out : Int} (hsk : m_Sk X) (hd : 2 ≤ d) (hF : f_X12_canGive X N a1 a2 a3 a4 = some out) : m_Call d yX12_canGive cX12_canGive 5 (some .boolean) [(.inr (.inr 64)), (.inl a1), (.inl a2), (.inl a3), (.inl a4)] N X (some (.inl out)) N X := by
  refine m_mk (ls0 := [some (.inr (.inr 64)), some (.inl a1), some (.inl a2), some (.inl a3), some (.inl a4)]) (by decide) rfl (Nat.le_of_ble_eq_true rfl) (Nat.le_refl _) (Nat.le_refl _) (fun Ω hE => ?_)
  have hG := hE.G
  unfold f_X12_canGive at hF
  refine s_iload hG dX12_canGive_0 rfl ?_
  refine s_bipush hG dX12_canGive_2 bp_6 ⟨by decide, by decide⟩ ?_
  refine s_idiv hG dX12_canGive_4 (by decide) ?_
  refine s_iload_n hG dX12_canGive_5 rfl ?_
  refine s_icmp_ne hG 54 dX12_canGive_6 (by decide) (fun c9 => ?_) (fun c9 => ?_)
  · replace hF := Eq.trans (if_pos c9).symm hF
    refine s_aload_n hG dX12_canGive_9 rfl ?_
    refine s_getr (r := 84) hG dX12_canGive_10 fl_RX12_103 (sk_k hsk 64 rfl) rfl (sk_R hsk 64 41 rfl) ?_
    refine s_iload hG dX12_canGive_13 rfl ?_
    obtain ⟨g1, hF⟩ := gd_some hF
    refine s_ialdj (j := a4.toNat) hG dX12_canGive_15 (sk_K hsk 84 rfl) g1 rfl ?_
    refine s_iconst hG dX12_canGive_16 ⟨by decide, by decide⟩ ?_
    refine s_icmp_eq hG 54 dX12_canGive_17 (by decide) (fun c8 => ?_) (fun c8 => ?_)
    · replace hF := Eq.trans (if_pos c8).symm hF
      refine m_weak (ls1 := [none, none, none, none, none]) hG trivial ?_
      exact t_X12_canGive_j54 hsk hd hG hE hF
    · replace hF := Eq.trans (if_neg c8).symm hF
      refine s_iload_n hG dX12_canGive_20 rfl ?_
      refine s_iload hG dX12_canGive_21 rfl ?_
      obtain ⟨o2, ho2, hF⟩ := bd_some hF
      refine s_callS (d' := d - 1) (args := [.inl a1, .inl a4]) hG (by omega) dX12_canGive_23 cs_RX12_458 cw_X12_is rfl (Nat.le_of_ble_eq_true rfl) rfl (t_X12_is hsk (by omega) ho2) ?_
      refine s_if_ne hG 54 dX12_canGive_26 (by decide) (fun c7 => ?_) (fun c7 => ?_)
      · replace hF := Eq.trans (if_pos c7).symm hF
        refine s_iload_n hG dX12_canGive_29 rfl ?_
        refine s_iconst hG dX12_canGive_30 ⟨by decide, by decide⟩ ?_
        refine s_icmp_eq hG 50 dX12_canGive_31 (by decide) (fun c6 => ?_) (fun c6 => ?_)
        · replace hF := Eq.trans (if_pos c6).symm hF
          refine m_weak (ls1 := [none, none, none, none, none]) hG trivial ?_
          exact t_X12_canGive_j50 hsk hd hG hE hF
        · replace hF := Eq.trans (if_neg c6).symm hF
          refine s_aload_n hG dX12_canGive_34 rfl ?_
          refine s_getr (r := 85) hG dX12_canGive_35 fl_RX12_106 (sk_k hsk 64 rfl) rfl (sk_R hsk 64 42 rfl) ?_
          refine s_iload hG dX12_canGive_38 rfl ?_
          obtain ⟨g3, hF⟩ := gd_some hF
          refine s_ialdj (j := a4.toNat) hG dX12_canGive_40 (sk_K hsk 85 rfl) g3 rfl ?_
          refine s_aload_n hG dX12_canGive_41 rfl ?_
          refine s_getr (r := 85) hG dX12_canGive_42 fl_RX12_106 (sk_k hsk 64 rfl) rfl (sk_R hsk 64 42 rfl) ?_
          refine s_iload_n hG dX12_canGive_45 rfl ?_
          obtain ⟨g4, hF⟩ := gd_some hF
          refine s_ialdj (j := a2.toNat) hG dX12_canGive_46 (sk_K hsk 85 rfl) g4 rfl ?_
          refine s_icmp_le hG 54 dX12_canGive_47 (by decide) (fun c5 => ?_) (fun c5 => ?_)
          · replace hF := Eq.trans (if_pos c5).symm hF
            refine m_weak (ls1 := [none, none, none, none, none]) hG trivial ?_
            exact t_X12_canGive_j50 hsk hd hG hE hF
          · replace hF := Eq.trans (if_neg c5).symm hF
            refine m_weak (ls1 := [none, none, none, none, none]) hG trivial ?_
            exact t_X12_canGive_j54 hsk hd hG hE hF
      · replace hF := Eq.trans (if_neg c7).symm hF
        refine m_weak (ls1 := [none, none, none, none, none]) hG trivial ?_
        exact t_X12_canGive_j54 hsk hd hG hE hF
  · replace hF := Eq.trans (if_neg c9).symm hF
    refine m_weak (ls1 := [none, none, none, none, none]) hG trivial ?_
    exact t_X12_canGive_j54 hsk hd hG hE hF
-- X12_count
theorem t_X12_count_j199 {d n0 s0 nF sF : Nat} {X : MX} {Ω : Nat → MS → Prop} {N : NN} {z0 : Int} (hsk : m_Sk X) (hd : 4 ≤ d) (hG : m_G d yX12_count.cls yX12_count.name cX12_count 2 n0 s0 nF sF Ω) {out : (Int × NN)} (hE : m_Gd d yX12_count cX12_count 2 (some .int) X (some (.inl out.1)) out.2 X Ω) (hF : f_X12_count_j199 X N z0 = some out) : Ω 199 ([none, none], [(.inl z0)], N, X) := by
  unfold f_X12_count_j199 at hF
  cases hF
  exact s_iret hE dX12_count_199 rfl
theorem t_X12_count {d : Nat} {X : MX} {N : NN} {a1 : Int} {out : (Int × NN)} (hsk : m_Sk X) (hd : 4 ≤ d) (hF : f_X12_count X N a1 = some out) : m_Call d yX12_count cX12_count 2 (some .int) [(.inr (.inr 64)), (.inl a1)] N X (some (.inl out.1)) out.2 X := by
  refine m_mk (ls0 := [some (.inr (.inr 64)), some (.inl a1)]) (by decide) rfl (Nat.le_of_ble_eq_true rfl) (Nat.le_refl _) (Nat.le_refl _) (fun Ω hE => ?_)
  have hG := hE.G
  unfold f_X12_count at hF
  refine s_aload_n hG dX12_count_0 rfl ?_
  refine s_iconst hG dX12_count_1 ⟨by decide, by decide⟩ ?_
  refine s_puti hG dX12_count_2 fl_RX12_166 (fun h => by cases h) (sk_k hsk 64 rfl) rfl ?_
  refine s_iload_n hG dX12_count_5 rfl ?_
  by_cases c20 : a1 = 0
  · replace hF := Eq.trans (if_pos c20).symm hF
    refine s_tableIn hG (off := 70) 76 dX12_count_6 (by omega) (by omega) (by rw [c20]; rfl) (by decide) ?_
    refine s_aload_n hG dX12_count_76 rfl ?_
    refine s_getr (r := 66) hG dX12_count_77 fl_RX12_13 (sk_k hsk 64 rfl) rfl (sk_R hsk 64 3 rfl) ?_
    refine s_iconst hG dX12_count_80 ⟨by decide, by decide⟩ ?_
    refine s_ialdj (j := 0) hG dX12_count_81 (sk_K hsk 66 rfl) ⟨by decide, by decide⟩ rfl ?_
    cases hF
    exact s_iret hE dX12_count_82 rfl
  · replace hF := Eq.trans (if_neg c20).symm hF
    by_cases c19 : a1 = 1
    · replace hF := Eq.trans (if_pos c19).symm hF
      refine s_tableIn hG (off := 77) 83 dX12_count_6 (by omega) (by omega) (by rw [c19]; rfl) (by decide) ?_
      refine s_aload_n hG dX12_count_83 rfl ?_
      refine s_getr (r := 66) hG dX12_count_84 fl_RX12_13 (sk_k hsk 64 rfl) rfl (sk_R hsk 64 3 rfl) ?_
      refine s_iconst hG dX12_count_87 ⟨by decide, by decide⟩ ?_
      refine s_ialdj (j := 1) hG dX12_count_88 (sk_K hsk 66 rfl) ⟨by decide, by decide⟩ rfl ?_
      cases hF
      exact s_iret hE dX12_count_89 rfl
    · replace hF := Eq.trans (if_neg c19).symm hF
      by_cases c18 : a1 = 2
      · replace hF := Eq.trans (if_pos c18).symm hF
        refine s_tableIn hG (off := 84) 90 dX12_count_6 (by omega) (by omega) (by rw [c18]; rfl) (by decide) ?_
        refine s_aload_n hG dX12_count_90 rfl ?_
        refine s_getr (r := 66) hG dX12_count_91 fl_RX12_13 (sk_k hsk 64 rfl) rfl (sk_R hsk 64 3 rfl) ?_
        refine s_iconst hG dX12_count_94 ⟨by decide, by decide⟩ ?_
        refine s_ialdj (j := 2) hG dX12_count_95 (sk_K hsk 66 rfl) ⟨by decide, by decide⟩ rfl ?_
        cases hF
        exact s_iret hE dX12_count_96 rfl
      · replace hF := Eq.trans (if_neg c18).symm hF
        by_cases c17 : a1 = 3
        · replace hF := Eq.trans (if_pos c17).symm hF
          refine s_tableIn hG (off := 91) 97 dX12_count_6 (by omega) (by omega) (by rw [c17]; rfl) (by decide) ?_
          refine s_aload_n hG dX12_count_97 rfl ?_
          refine s_getr (r := 66) hG dX12_count_98 fl_RX12_13 (sk_k hsk 64 rfl) rfl (sk_R hsk 64 3 rfl) ?_
          refine s_iconst hG dX12_count_101 ⟨by decide, by decide⟩ ?_
          refine s_ialdj (j := 3) hG dX12_count_102 (sk_K hsk 66 rfl) ⟨by decide, by decide⟩ rfl ?_
          cases hF
          exact s_iret hE dX12_count_103 rfl
        · replace hF := Eq.trans (if_neg c17).symm hF
          by_cases c16 : a1 = 4
          · replace hF := Eq.trans (if_pos c16).symm hF
            refine s_tableIn hG (off := 98) 104 dX12_count_6 (by omega) (by omega) (by rw [c16]; rfl) (by decide) ?_
            refine s_aload_n hG dX12_count_104 rfl ?_
            refine s_getr (r := 66) hG dX12_count_105 fl_RX12_13 (sk_k hsk 64 rfl) rfl (sk_R hsk 64 3 rfl) ?_
            refine s_iconst hG dX12_count_108 ⟨by decide, by decide⟩ ?_
            refine s_ialdj (j := 4) hG dX12_count_109 (sk_K hsk 66 rfl) ⟨by decide, by decide⟩ rfl ?_
            cases hF
            exact s_iret hE dX12_count_110 rfl
          · replace hF := Eq.trans (if_neg c16).symm hF
            by_cases c15 : a1 = 5
            · replace hF := Eq.trans (if_pos c15).symm hF
              refine s_tableIn hG (off := 105) 111 dX12_count_6 (by omega) (by omega) (by rw [c15]; rfl) (by decide) ?_
              refine s_aload_n hG dX12_count_111 rfl ?_
              obtain ⟨o2, ho2, hF⟩ := bd_some hF
              refine s_callV (d' := d - 1) (ci := 12) (args := []) hG (by omega) dX12_count_112 cv_RX12_630 cw_X12_allDebts rfl rfl (sk_k hsk 64 rfl) (Nat.le_of_ble_eq_true rfl) rfl (t_X12_allDebts hsk (by omega) ho2) ?_
              cases hF
              exact s_iret hE dX12_count_115 rfl
            · replace hF := Eq.trans (if_neg c15).symm hF
              by_cases c14 : a1 = 6
              · replace hF := Eq.trans (if_pos c14).symm hF
                refine s_tableIn hG (off := 110) 116 dX12_count_6 (by omega) (by omega) (by rw [c14]; rfl) (by decide) ?_
                refine s_aload_n hG dX12_count_116 rfl ?_
                refine s_geti hG dX12_count_117 fl_RX12_172 (sk_k hsk 64 rfl) rfl ?_
                cases hF
                exact s_iret hE dX12_count_120 rfl
              · replace hF := Eq.trans (if_neg c14).symm hF
                by_cases c13 : a1 = 7
                · replace hF := Eq.trans (if_pos c13).symm hF
                  refine s_tableIn hG (off := 115) 121 dX12_count_6 (by omega) (by omega) (by rw [c13]; rfl) (by decide) ?_
                  refine s_aload_n hG dX12_count_121 rfl ?_
                  refine s_geti hG dX12_count_122 fl_RX12_236 (sk_k hsk 64 rfl) rfl ?_
                  cases hF
                  exact s_iret hE dX12_count_125 rfl
                · replace hF := Eq.trans (if_neg c13).symm hF
                  by_cases c12 : a1 = 8
                  · replace hF := Eq.trans (if_pos c12).symm hF
                    refine s_tableIn hG (off := 120) 126 dX12_count_6 (by omega) (by omega) (by rw [c12]; rfl) (by decide) ?_
                    refine s_aload_n hG dX12_count_126 rfl ?_
                    refine s_getr (r := 65) hG dX12_count_127 fl_RX12_7 (sk_k hsk 64 rfl) rfl (sk_R hsk 64 2 rfl) ?_
                    refine s_iconst hG dX12_count_130 ⟨by decide, by decide⟩ ?_
                    refine s_ialdj (j := 1) hG dX12_count_131 (sk_K hsk 65 rfl) ⟨by decide, by decide⟩ rfl ?_
                    cases hF
                    exact s_iret hE dX12_count_132 rfl
                  · replace hF := Eq.trans (if_neg c12).symm hF
                    by_cases c11 : a1 = 9
                    · replace hF := Eq.trans (if_pos c11).symm hF
                      refine s_tableIn hG (off := 127) 133 dX12_count_6 (by omega) (by omega) (by rw [c11]; rfl) (by decide) ?_
                      refine s_aload_n hG dX12_count_133 rfl ?_
                      refine s_getr (r := 65) hG dX12_count_134 fl_RX12_7 (sk_k hsk 64 rfl) rfl (sk_R hsk 64 2 rfl) ?_
                      refine s_iconst hG dX12_count_137 ⟨by decide, by decide⟩ ?_
                      refine s_ialdj (j := 2) hG dX12_count_138 (sk_K hsk 65 rfl) ⟨by decide, by decide⟩ rfl ?_
                      cases hF
                      exact s_iret hE dX12_count_139 rfl
                    · replace hF := Eq.trans (if_neg c11).symm hF
                      by_cases c10 : a1 = 10
                      · replace hF := Eq.trans (if_pos c10).symm hF
                        refine s_tableIn hG (off := 134) 140 dX12_count_6 (by omega) (by omega) (by rw [c10]; rfl) (by decide) ?_
                        refine s_aload_n hG dX12_count_140 rfl ?_
                        refine s_getr (r := 65) hG dX12_count_141 fl_RX12_7 (sk_k hsk 64 rfl) rfl (sk_R hsk 64 2 rfl) ?_
                        refine s_iconst hG dX12_count_144 ⟨by decide, by decide⟩ ?_
                        refine s_ialdj (j := 3) hG dX12_count_145 (sk_K hsk 65 rfl) ⟨by decide, by decide⟩ rfl ?_
                        cases hF
                        exact s_iret hE dX12_count_146 rfl
                      · replace hF := Eq.trans (if_neg c10).symm hF
                        by_cases c9 : a1 = 11
                        · replace hF := Eq.trans (if_pos c9).symm hF
                          refine s_tableIn hG (off := 141) 147 dX12_count_6 (by omega) (by omega) (by rw [c9]; rfl) (by decide) ?_
                          refine s_aload_n hG dX12_count_147 rfl ?_
                          refine s_getr (r := 65) hG dX12_count_148 fl_RX12_7 (sk_k hsk 64 rfl) rfl (sk_R hsk 64 2 rfl) ?_
                          refine s_iconst hG dX12_count_151 ⟨by decide, by decide⟩ ?_
                          refine s_ialdj (j := 5) hG dX12_count_152 (sk_K hsk 65 rfl) ⟨by decide, by decide⟩ rfl ?_
                          cases hF
                          exact s_iret hE dX12_count_153 rfl
                        · replace hF := Eq.trans (if_neg c9).symm hF
                          by_cases c8 : a1 = 12
                          · replace hF := Eq.trans (if_pos c8).symm hF
                            refine s_tableIn hG (off := 148) 154 dX12_count_6 (by omega) (by omega) (by rw [c8]; rfl) (by decide) ?_
                            refine s_aload_n hG dX12_count_154 rfl ?_
                            refine s_getr (r := 65) hG dX12_count_155 fl_RX12_7 (sk_k hsk 64 rfl) rfl (sk_R hsk 64 2 rfl) ?_
                            refine s_bipush hG dX12_count_158 bp_6 ⟨by decide, by decide⟩ ?_
                            refine s_ialdj (j := 6) hG dX12_count_160 (sk_K hsk 65 rfl) ⟨by decide, by decide⟩ rfl ?_
                            cases hF
                            exact s_iret hE dX12_count_161 rfl
                          · replace hF := Eq.trans (if_neg c8).symm hF
                            by_cases c7 : a1 = 13
                            · replace hF := Eq.trans (if_pos c7).symm hF
                              refine s_tableIn hG (off := 156) 162 dX12_count_6 (by omega) (by omega) (by rw [c7]; rfl) (by decide) ?_
                              refine s_aload_n hG dX12_count_162 rfl ?_
                              refine s_getr (r := 66) hG dX12_count_163 fl_RX12_13 (sk_k hsk 64 rfl) rfl (sk_R hsk 64 3 rfl) ?_
                              refine s_iconst hG dX12_count_166 ⟨by decide, by decide⟩ ?_
                              refine s_ialdj (j := 5) hG dX12_count_167 (sk_K hsk 66 rfl) ⟨by decide, by decide⟩ rfl ?_
                              cases hF
                              exact s_iret hE dX12_count_168 rfl
                            · replace hF := Eq.trans (if_neg c7).symm hF
                              refine s_tableOut hG 169 dX12_count_6 (by omega) (by decide) ?_
                              refine s_iload_n hG dX12_count_169 rfl ?_
                              refine s_i2l hG dX12_count_170 ?_
                              refine s_ldc2 hG dX12_count_171 kc_RX12_633 ⟨by decide, by decide⟩ ?_
                              refine s_ldc2 hG dX12_count_174 kc_RX12_635 ⟨by decide, by decide⟩ ?_
                              obtain ⟨o3, ho3, hF⟩ := bd_some hF
                              refine s_callS (d' := d - 1) (args := [.inr (.inl a1), .inr (.inl 14), .inr (.inl 16)]) hG (by omega) dX12_count_177 cs_RX12_179 cw_X12_in rfl (Nat.le_of_ble_eq_true rfl) rfl (t_X12_in hsk (by omega) ho3) ?_
                              refine s_if_eq hG 198 dX12_count_180 (by decide) (fun c5 => ?_) (fun c5 => ?_)
                              · replace hF := Eq.trans (if_pos c5).symm hF
                                refine s_iconst hG dX12_count_198 ⟨by decide, by decide⟩ ?_
                                refine m_weak (ls1 := [none, none]) hG trivial ?_
                                exact t_X12_count_j199 hsk hd hG hE hF
                              · replace hF := Eq.trans (if_neg c5).symm hF
                                refine s_aload_n hG dX12_count_183 rfl ?_
                                refine s_getr (r := 66) hG dX12_count_184 fl_RX12_13 (sk_k hsk 64 rfl) rfl (sk_R hsk 64 3 rfl) ?_
                                refine s_bipush hG dX12_count_187 bp_6 ⟨by decide, by decide⟩ ?_
                                refine s_iload_n hG dX12_count_189 rfl ?_
                                refine s_iadd hG dX12_count_190 ?_
                                refine s_bipush hG dX12_count_191 bp_14 ⟨by decide, by decide⟩ ?_
                                refine s_isub hG dX12_count_193 ?_
                                obtain ⟨g4, hF⟩ := gd_some hF
                                refine s_ialdj (j := (m_w ((m_w (6 + a1)) - 14)).toNat) hG dX12_count_194 (sk_K hsk 66 rfl) g4 rfl ?_
                                refine s_goto hG 199 dX12_count_195 (by decide) ?_
                                refine m_weak (ls1 := [none, none]) hG trivial ?_
                                exact t_X12_count_j199 hsk hd hG hE hF
-- X12_debt
theorem t_X12_debt_j31 {d n0 s0 nF sF : Nat} {X : MX} {Ω : Nat → MS → Prop} {N : NN} (hsk : m_Sk X) (hd : 3 ≤ d) (hG : m_G d yX12_debt.cls yX12_debt.name cX12_debt 5 n0 s0 nF sF Ω) {out : (Int × NN)} (hE : m_Gd d yX12_debt cX12_debt 5 (some .int) X (some (.inl out.1)) out.2 X Ω) (hF : f_X12_debt_j31 X N = some out) : Ω 31 ([none, none, none, none, none], [], N, X) := by
  unfold f_X12_debt_j31 at hF
  refine s_iconst hG dX12_debt_31 ⟨by decide, by decide⟩ ?_
  cases hF
  exact s_iret hE dX12_debt_32 rfl
theorem t_X12_debt_j64 {d n0 s0 nF sF : Nat} {X : MX} {Ω : Nat → MS → Prop} {N : NN} {z0 : Int} (hsk : m_Sk X) (hd : 3 ≤ d) (hG : m_G d yX12_debt.cls yX12_debt.name cX12_debt 5 n0 s0 nF sF Ω) {out : (Int × NN)} (hE : m_Gd d yX12_debt cX12_debt 5 (some .int) X (some (.inl out.1)) out.2 X Ω) (hF : f_X12_debt_j64 X N z0 = some out) : Ω 64 ([none, none, none, none, none], [(.inl z0)], N, X) := by
  unfold f_X12_debt_j64 at hF
  cases hF
  exact s_iret hE dX12_debt_64 rfl
theorem t_X12_debt {d : Nat} {X : MX} {N : NN} {a1 : Int} {a2 : Int} {a3 : Int} {out : (Int × NN)} (hsk : m_Sk X) (hd : 3 ≤ d) (hF : f_X12_debt X N a1 a2 a3 = some out) : m_Call d yX12_debt cX12_debt 5 (some .int) [(.inr (.inr 64)), (.inl a1), (.inl a2), (.inl a3)] N X (some (.inl out.1)) out.2 X := by
  refine m_mk (ls0 := [some (.inr (.inr 64)), some (.inl a1), some (.inl a2), some (.inl a3), none]) (by decide) rfl (Nat.le_of_ble_eq_true rfl) (Nat.le_refl _) (Nat.le_refl _) (fun Ω hE => ?_)
  have hG := hE.G
  unfold f_X12_debt at hF
  refine s_aload_n hG dX12_debt_0 rfl ?_
  refine s_iconst hG dX12_debt_1 ⟨by decide, by decide⟩ ?_
  refine s_puti hG dX12_debt_2 fl_RX12_166 (fun h => by cases h) (sk_k hsk 64 rfl) rfl ?_
  refine s_aload_n hG dX12_debt_5 rfl ?_
  refine s_iload_n hG dX12_debt_6 rfl ?_
  obtain ⟨o2, ho2, hF⟩ := bd_some hF
  refine s_callV (d' := d - 1) (ci := 12) (args := [.inl a1]) hG (by omega) dX12_debt_7 cv_RX12_198 cw_X12_isLord rfl rfl (sk_k hsk 64 rfl) (Nat.le_of_ble_eq_true rfl) rfl (t_X12_isLord hsk (by omega) ho2) ?_
  refine s_if_eq hG 31 dX12_debt_10 (by decide) (fun c11 => ?_) (fun c11 => ?_)
  · replace hF := Eq.trans (if_pos c11).symm hF
    refine m_weak (ls1 := [none, none, none, none, none]) hG trivial ?_
    exact t_X12_debt_j31 hsk hd hG hE hF
  · replace hF := Eq.trans (if_neg c11).symm hF
    refine s_aload_n hG dX12_debt_13 rfl ?_
    refine s_iload_n hG dX12_debt_14 rfl ?_
    obtain ⟨o3, ho3, hF⟩ := bd_some hF
    refine s_callV (d' := d - 1) (ci := 12) (args := [.inl a2]) hG (by omega) dX12_debt_15 cv_RX12_198 cw_X12_isLord rfl rfl (sk_k hsk 64 rfl) (Nat.le_of_ble_eq_true rfl) rfl (t_X12_isLord hsk (by omega) ho3) ?_
    refine s_if_eq hG 31 dX12_debt_18 (by decide) (fun c10 => ?_) (fun c10 => ?_)
    · replace hF := Eq.trans (if_pos c10).symm hF
      refine m_weak (ls1 := [none, none, none, none, none]) hG trivial ?_
      exact t_X12_debt_j31 hsk hd hG hE hF
    · replace hF := Eq.trans (if_neg c10).symm hF
      refine s_iload_n hG dX12_debt_21 rfl ?_
      refine s_i2l hG dX12_debt_22 ?_
      refine s_lconst (v := 0) hG dX12_debt_23 rfl ⟨by decide, by decide⟩ ?_
      refine s_lconst (v := 1) hG dX12_debt_24 rfl ⟨by decide, by decide⟩ ?_
      obtain ⟨o4, ho4, hF⟩ := bd_some hF
      refine s_callS (d' := d - 1) (args := [.inr (.inl a3), .inr (.inl 0), .inr (.inl 1)]) hG (by omega) dX12_debt_25 cs_RX12_179 cw_X12_in rfl (Nat.le_of_ble_eq_true rfl) rfl (t_X12_in hsk (by omega) ho4) ?_
      refine s_if_ne hG 33 dX12_debt_28 (by decide) (fun c9 => ?_) (fun c9 => ?_)
      · replace hF := Eq.trans (if_pos c9).symm hF
        refine m_weak (ls1 := [none, none, none, none, none]) hG trivial ?_
        exact t_X12_debt_j31 hsk hd hG hE hF
      · replace hF := Eq.trans (if_neg c9).symm hF
        refine s_iload_n hG dX12_debt_33 rfl ?_
        refine s_iload_n hG dX12_debt_34 rfl ?_
        obtain ⟨o5, ho5, hF⟩ := bd_some hF
        refine s_callS (d' := d - 1) (args := [.inl a1, .inl a2]) hG (by omega) dX12_debt_35 cs_RX12_452 cw_X12_debtAt rfl (Nat.le_of_ble_eq_true rfl) rfl (t_X12_debtAt hsk (by omega) ho5) ?_
        refine s_istore hG dX12_debt_38 (by decide) rfl ?_
        refine s_aload_n hG dX12_debt_40 rfl ?_
        refine s_getr (r := 66) hG dX12_debt_41 fl_RX12_13 (sk_k hsk 64 rfl) rfl (sk_R hsk 64 3 rfl) ?_
        refine s_iload hG dX12_debt_44 rfl ?_
        obtain ⟨g6, hF⟩ := gd_some hF
        refine s_ialdj (j := o5.toNat) hG dX12_debt_46 (sk_K hsk 66 rfl) g6 rfl ?_
        refine s_iconst hG dX12_debt_47 ⟨by decide, by decide⟩ ?_
        refine s_icmp_ne hG 55 dX12_debt_48 (by decide) (fun c8 => ?_) (fun c8 => ?_)
        · replace hF := Eq.trans (if_pos c8).symm hF
          refine s_iconst hG dX12_debt_51 ⟨by decide, by decide⟩ ?_
          refine s_goto hG 64 dX12_debt_52 (by decide) ?_
          refine m_weak (ls1 := [none, none, none, none, none]) hG trivial ?_
          exact t_X12_debt_j64 hsk hd hG hE hF
        · replace hF := Eq.trans (if_neg c8).symm hF
          refine s_aload_n hG dX12_debt_55 rfl ?_
          refine s_getr (r := 66) hG dX12_debt_56 fl_RX12_13 (sk_k hsk 64 rfl) rfl (sk_R hsk 64 3 rfl) ?_
          refine s_iload hG dX12_debt_59 rfl ?_
          refine s_iload_n hG dX12_debt_61 rfl ?_
          refine s_iadd hG dX12_debt_62 ?_
          obtain ⟨g7, hF⟩ := gd_some hF
          refine s_ialdj (j := (m_w (o5 + a3)).toNat) hG dX12_debt_63 (sk_K hsk 66 rfl) g7 rfl ?_
          refine m_weak (ls1 := [none, none, none, none, none]) hG trivial ?_
          exact t_X12_debt_j64 hsk hd hG hE hF
-- X12_draw
theorem t_X12_draw {d : Nat} {X : MX} {N : NN} {a1 : Int} {out : (Int × NN)} (hsk : m_Sk X) (hd : 1 ≤ d) (hF : f_X12_draw X N a1 = some out) : m_Call d yX12_draw cX12_draw 2 (some .int) [(.inr (.inr 64)), (.inl a1)] N X (some (.inl out.1)) out.2 X := by
  refine m_mk (ls0 := [some (.inr (.inr 64)), some (.inl a1)]) (by decide) rfl (Nat.le_of_ble_eq_true rfl) (Nat.le_refl _) (Nat.le_refl _) (fun Ω hE => ?_)
  have hG := hE.G
  unfold f_X12_draw at hF
  refine s_aload_n hG dX12_draw_0 rfl ?_
  refine s_aload_n hG dX12_draw_1 rfl ?_
  refine s_getl hG dX12_draw_2 fl_RX12_611 (sk_k hsk 64 rfl) rfl ?_
  refine s_ldc2 hG dX12_draw_5 kc_RX12_614 ⟨by decide, by decide⟩ ?_
  refine s_lmul hG dX12_draw_8 ?_
  refine s_ldc2 hG dX12_draw_9 kc_RX12_616 ⟨by decide, by decide⟩ ?_
  refine s_ladd hG dX12_draw_12 ?_
  refine s_ldc2 hG dX12_draw_13 kc_RX12_618 ⟨by decide, by decide⟩ ?_
  refine s_lrem hG dX12_draw_16 (by decide) ?_
  refine s_putl hG dX12_draw_17 fl_RX12_611 (fun h => by cases h) (sk_k hsk 64 rfl) rfl ?_
  refine s_aload_n hG dX12_draw_20 rfl ?_
  refine s_getl hG dX12_draw_21 fl_RX12_611 (sk_k hsk 64 rfl) rfl ?_
  refine s_iload_n hG dX12_draw_24 rfl ?_
  refine s_i2l hG dX12_draw_25 ?_
  obtain ⟨g2, hF⟩ := gd_some hF
  refine s_lrem hG dX12_draw_26 g2 ?_
  refine s_l2i hG dX12_draw_27 ?_
  cases hF
  exact s_iret hE dX12_draw_28 rfl
-- X12_drawn
theorem t_X12_drawn_j48 {d n0 s0 nF sF : Nat} {X : MX} {Ω : Nat → MS → Prop} {N : NN} {z0 : Int} (hsk : m_Sk X) (hd : 2 ≤ d) (hG : m_G d yX12_drawn.cls yX12_drawn.name cX12_drawn 3 n0 s0 nF sF Ω) {out : (Int × NN)} (hE : m_Gd d yX12_drawn cX12_drawn 3 (some .int) X (some (.inl out.1)) out.2 X Ω) (hF : f_X12_drawn_j48 X N z0 = some out) : Ω 48 ([none, none, none], [(.inl z0)], N, X) := by
  unfold f_X12_drawn_j48 at hF
  cases hF
  exact s_iret hE dX12_drawn_48 rfl
theorem t_X12_drawn_j47 {d n0 s0 nF sF : Nat} {X : MX} {Ω : Nat → MS → Prop} {N : NN} (hsk : m_Sk X) (hd : 2 ≤ d) (hG : m_G d yX12_drawn.cls yX12_drawn.name cX12_drawn 3 n0 s0 nF sF Ω) {out : (Int × NN)} (hE : m_Gd d yX12_drawn cX12_drawn 3 (some .int) X (some (.inl out.1)) out.2 X Ω) (hF : f_X12_drawn_j47 X N = some out) : Ω 47 ([none, none, none], [], N, X) := by
  unfold f_X12_drawn_j47 at hF
  refine s_iconst hG dX12_drawn_47 ⟨by decide, by decide⟩ ?_
  exact t_X12_drawn_j48 hsk hd hG hE hF
theorem t_X12_drawn {d : Nat} {X : MX} {N : NN} {a1 : Int} {a2 : Int} {out : (Int × NN)} (hsk : m_Sk X) (hd : 2 ≤ d) (hF : f_X12_drawn X N a1 a2 = some out) : m_Call d yX12_drawn cX12_drawn 3 (some .int) [(.inr (.inr 64)), (.inl a1), (.inl a2)] N X (some (.inl out.1)) out.2 X := by
  refine m_mk (ls0 := [some (.inr (.inr 64)), some (.inl a1), some (.inl a2)]) (by decide) rfl (Nat.le_of_ble_eq_true rfl) (Nat.le_refl _) (Nat.le_refl _) (fun Ω hE => ?_)
  have hG := hE.G
  unfold f_X12_drawn at hF
  refine s_aload_n hG dX12_drawn_0 rfl ?_
  refine s_iconst hG dX12_drawn_1 ⟨by decide, by decide⟩ ?_
  refine s_puti hG dX12_drawn_2 fl_RX12_166 (fun h => by cases h) (sk_k hsk 64 rfl) rfl ?_
  let N1 : NN := m_up N 64 0 0
  refine s_iload_n hG dX12_drawn_5 rfl ?_
  refine s_i2l hG dX12_drawn_6 ?_
  refine s_lconst (v := 0) hG dX12_drawn_7 rfl ⟨by decide, by decide⟩ ?_
  refine s_aload_n hG dX12_drawn_8 rfl ?_
  refine s_geti hG dX12_drawn_9 fl_RX12_625 (sk_k hsk 64 rfl) rfl ?_
  refine s_i2l hG dX12_drawn_12 ?_
  refine s_lconst (v := 1) hG dX12_drawn_13 rfl ⟨by decide, by decide⟩ ?_
  refine s_lsub hG dX12_drawn_14 ?_
  obtain ⟨o2, ho2, hF⟩ := bd_some hF
  refine s_callS (d' := d - 1) (args := [.inr (.inl a1), .inr (.inl 0), .inr (.inl (m_wl ((N1 64 72) - 1)))]) hG (by omega) dX12_drawn_15 cs_RX12_179 cw_X12_in rfl (Nat.le_of_ble_eq_true rfl) rfl (t_X12_in hsk (by omega) ho2) ?_
  refine s_if_eq hG 47 dX12_drawn_18 (by decide) (fun c6 => ?_) (fun c6 => ?_)
  · replace hF := Eq.trans (if_pos c6).symm hF
    refine m_weak (ls1 := [none, none, none]) hG trivial ?_
    exact t_X12_drawn_j47 hsk hd hG hE hF
  · replace hF := Eq.trans (if_neg c6).symm hF
    refine s_iload_n hG dX12_drawn_21 rfl ?_
    refine s_i2l hG dX12_drawn_22 ?_
    refine s_lconst (v := 0) hG dX12_drawn_23 rfl ⟨by decide, by decide⟩ ?_
    refine s_ldc2 hG dX12_drawn_24 kc_RX12_628 ⟨by decide, by decide⟩ ?_
    obtain ⟨o3, ho3, hF⟩ := bd_some hF
    refine s_callS (d' := d - 1) (args := [.inr (.inl a2), .inr (.inl 0), .inr (.inl 6)]) hG (by omega) dX12_drawn_27 cs_RX12_179 cw_X12_in rfl (Nat.le_of_ble_eq_true rfl) rfl (t_X12_in hsk (by omega) ho3) ?_
    refine s_if_eq hG 47 dX12_drawn_30 (by decide) (fun c5 => ?_) (fun c5 => ?_)
    · replace hF := Eq.trans (if_pos c5).symm hF
      refine m_weak (ls1 := [none, none, none]) hG trivial ?_
      exact t_X12_drawn_j47 hsk hd hG hE hF
    · replace hF := Eq.trans (if_neg c5).symm hF
      refine s_aload_n hG dX12_drawn_33 rfl ?_
      refine s_getr (r := 103) hG dX12_drawn_34 fl_RX12_163 (sk_k hsk 64 rfl) rfl (sk_R hsk 64 71 rfl) ?_
      refine s_bipush hG dX12_drawn_37 bp_7 ⟨by decide, by decide⟩ ?_
      refine s_iload_n hG dX12_drawn_39 rfl ?_
      refine s_imul hG dX12_drawn_40 ?_
      refine s_iload_n hG dX12_drawn_41 rfl ?_
      refine s_iadd hG dX12_drawn_42 ?_
      obtain ⟨g4, hF⟩ := gd_some hF
      refine s_ialdj (j := (m_w ((m_w (7 * a1)) + a2)).toNat) hG dX12_drawn_43 (sk_K hsk 103 rfl) g4 rfl ?_
      refine s_goto hG 48 dX12_drawn_44 (by decide) ?_
      refine m_weak (ls1 := [none, none, none]) hG trivial ?_
      exact t_X12_drawn_j48 hsk hd hG hE hF
-- X12_dross
theorem t_X12_dross {d : Nat} {X : MX} {N : NN} {out : (Int × NN)} (hsk : m_Sk X) (hd : 1 ≤ d) (hF : f_X12_dross X N = some out) : m_Call d yX12_dross cX12_dross 1 (some .int) [(.inr (.inr 64))] N X (some (.inl out.1)) out.2 X := by
  refine m_mk (ls0 := [some (.inr (.inr 64))]) (by decide) rfl (Nat.le_of_ble_eq_true rfl) (Nat.le_refl _) (Nat.le_refl _) (fun Ω hE => ?_)
  have hG := hE.G
  unfold f_X12_dross at hF
  refine s_aload_n hG dX12_dross_0 rfl ?_
  refine s_iconst hG dX12_dross_1 ⟨by decide, by decide⟩ ?_
  refine s_puti hG dX12_dross_2 fl_RX12_166 (fun h => by cases h) (sk_k hsk 64 rfl) rfl ?_
  refine s_aload_n hG dX12_dross_5 rfl ?_
  refine s_geti hG dX12_dross_6 fl_RX12_239 (sk_k hsk 64 rfl) rfl ?_
  cases hF
  exact s_iret hE dX12_dross_9 rfl
-- X12_grainLeft
theorem t_X12_grainLeft_l10_j47 {d n0 s0 nF sF : Nat} {X : MX} {N : NN} {Ω : Nat → MS → Prop} {a1 : Int} {a2 : Int} {a4 : Int} {z0 : Int} {z1 : Int} (hsk : m_Sk X) (hd : 2 ≤ d) (hG : m_G d yX12_grainLeft.cls yX12_grainLeft.name cX12_grainLeft 5 n0 s0 nF sF Ω) {out : ((Int × Int × Int × Int) ⊕ Int)} (hK0 : ∀ s' : (Int × Int × Int × Int), out = .inl s' → Ω 10 ([some (.inr (.inr 64)), some (.inl (s'.1)), some (.inl (s'.2.1)), some (.inl (s'.2.2.1)), some (.inl (s'.2.2.2))], [], N, X)) (hK1 : ∀ t : Int, out = .inr t → Ω 55 ([none, none, none, some (.inl t), none], [], N, X)) (hF : f_X12_grainLeft_l10_j47 X N a1 a2 a4 z0 z1 = some out) : Ω 47 ([some (.inr (.inr 64)), some (.inl a1), some (.inl a2), none, some (.inl a4)], [(.inl z1), (.inl z0)], N, X) := by
  unfold f_X12_grainLeft_l10_j47 at hF
  refine s_isub hG dX12_grainLeft_47 ?_
  refine s_istore_n hG dX12_grainLeft_48 (by decide) rfl ?_
  refine s_iinc hG dX12_grainLeft_49 (by decide) rfl rfl ?_
  refine s_goto hG 10 dX12_grainLeft_52 (by decide) ?_
  cases hF
  exact hK0 _ rfl
theorem t_X12_grainLeft_l10_j46 {d n0 s0 nF sF : Nat} {X : MX} {N : NN} {Ω : Nat → MS → Prop} {a1 : Int} {a2 : Int} {a4 : Int} {z0 : Int} (hsk : m_Sk X) (hd : 2 ≤ d) (hG : m_G d yX12_grainLeft.cls yX12_grainLeft.name cX12_grainLeft 5 n0 s0 nF sF Ω) {out : ((Int × Int × Int × Int) ⊕ Int)} (hK0 : ∀ s' : (Int × Int × Int × Int), out = .inl s' → Ω 10 ([some (.inr (.inr 64)), some (.inl (s'.1)), some (.inl (s'.2.1)), some (.inl (s'.2.2.1)), some (.inl (s'.2.2.2))], [], N, X)) (hK1 : ∀ t : Int, out = .inr t → Ω 55 ([none, none, none, some (.inl t), none], [], N, X)) (hF : f_X12_grainLeft_l10_j46 X N a1 a2 a4 z0 = some out) : Ω 46 ([some (.inr (.inr 64)), some (.inl a1), some (.inl a2), none, some (.inl a4)], [(.inl z0)], N, X) := by
  unfold f_X12_grainLeft_l10_j46 at hF
  refine s_iconst hG dX12_grainLeft_46 ⟨by decide, by decide⟩ ?_
  exact t_X12_grainLeft_l10_j47 hsk hd hG hK0 hK1 hF
theorem t_X12_grainLeft_b10 {d n0 s0 nF sF : Nat} {X : MX} {N : NN} {Ω : Nat → MS → Prop} {a1 : Int} {a2 : Int} {a3 : Int} {a4 : Int} (hsk : m_Sk X) (hd : 2 ≤ d) (hG : m_G d yX12_grainLeft.cls yX12_grainLeft.name cX12_grainLeft 5 n0 s0 nF sF Ω) {out : ((Int × Int × Int × Int) ⊕ Int)} (hK0 : ∀ s' : (Int × Int × Int × Int), out = .inl s' → Ω 10 ([some (.inr (.inr 64)), some (.inl (s'.1)), some (.inl (s'.2.1)), some (.inl (s'.2.2.1)), some (.inl (s'.2.2.2))], [], N, X)) (hK1 : ∀ t : Int, out = .inr t → Ω 55 ([none, none, none, some (.inl t), none], [], N, X)) (hF : b_X12_grainLeft_10 X N a1 a2 a3 a4 = some out) : Ω 10 ([some (.inr (.inr 64)), some (.inl a1), some (.inl a2), some (.inl a3), some (.inl a4)], [], N, X) := by
  unfold b_X12_grainLeft_10 at hF
  refine s_iload hG dX12_grainLeft_10 rfl ?_
  refine s_bipush hG dX12_grainLeft_12 bp_12 ⟨by decide, by decide⟩ ?_
  refine s_icmp_ge hG 55 dX12_grainLeft_14 (by decide) (fun c6 => ?_) (fun c6 => ?_)
  · replace hF := Eq.trans (if_pos c6).symm hF
    refine s_iload_n hG dX12_grainLeft_17 rfl ?_
    refine s_iload_n hG dX12_grainLeft_18 rfl ?_
    refine s_iload hG dX12_grainLeft_19 rfl ?_
    obtain ⟨o2, ho2, hF⟩ := bd_some hF
    refine s_callS (d' := d - 1) (args := [.inl a1, .inl a4]) hG (by omega) dX12_grainLeft_21 cs_RX12_458 cw_X12_is rfl (Nat.le_of_ble_eq_true rfl) rfl (t_X12_is hsk (by omega) ho2) ?_
    refine s_if_eq hG 46 dX12_grainLeft_24 (by decide) (fun c5 => ?_) (fun c5 => ?_)
    · replace hF := Eq.trans (if_pos c5).symm hF
      refine m_weak (ls1 := [some (.inr (.inr 64)), some (.inl a1), some (.inl a2), none, some (.inl a4)]) hG ⟨rfl, ⟨rfl, ⟨rfl, ⟨rfl, trivial⟩⟩⟩⟩ ?_
      exact t_X12_grainLeft_l10_j46 hsk hd hG hK0 hK1 hF
    · replace hF := Eq.trans (if_neg c5).symm hF
      refine s_iload hG dX12_grainLeft_27 rfl ?_
      refine s_bipush hG dX12_grainLeft_29 bp_6 ⟨by decide, by decide⟩ ?_
      refine s_idiv hG dX12_grainLeft_31 (by decide) ?_
      refine s_iload_n hG dX12_grainLeft_32 rfl ?_
      refine s_icmp_eq hG 46 dX12_grainLeft_33 (by decide) (fun c4 => ?_) (fun c4 => ?_)
      · replace hF := Eq.trans (if_pos c4).symm hF
        refine m_weak (ls1 := [some (.inr (.inr 64)), some (.inl a1), some (.inl a2), none, some (.inl a4)]) hG ⟨rfl, ⟨rfl, ⟨rfl, ⟨rfl, trivial⟩⟩⟩⟩ ?_
        exact t_X12_grainLeft_l10_j46 hsk hd hG hK0 hK1 hF
      · replace hF := Eq.trans (if_neg c4).symm hF
        refine s_aload_n hG dX12_grainLeft_36 rfl ?_
        refine s_getr (r := 86) hG dX12_grainLeft_37 fl_RX12_109 (sk_k hsk 64 rfl) rfl (sk_R hsk 64 43 rfl) ?_
        refine s_iload hG dX12_grainLeft_40 rfl ?_
        obtain ⟨g3, hF⟩ := gd_some hF
        refine s_ialdj (j := a4.toNat) hG dX12_grainLeft_42 (sk_K hsk 86 rfl) g3 rfl ?_
        refine s_goto hG 47 dX12_grainLeft_43 (by decide) ?_
        refine m_weak (ls1 := [some (.inr (.inr 64)), some (.inl a1), some (.inl a2), none, some (.inl a4)]) hG ⟨rfl, ⟨rfl, ⟨rfl, ⟨rfl, trivial⟩⟩⟩⟩ ?_
        exact t_X12_grainLeft_l10_j47 hsk hd hG hK0 hK1 hF
  · replace hF := Eq.trans (if_neg c6).symm hF
    cases hF
    refine m_weak (ls1 := [none, none, none, some (.inl a3), none]) hG ⟨rfl, trivial⟩ ?_
    exact hK1 _ rfl
theorem t_X12_grainLeft_lp10 {d n0 s0 nF sF : Nat} {X : MX} {N : NN} {Ω : Nat → MS → Prop} {a1 : Int} {a2 : Int} {a3 : Int} {a4 : Int} (hsk : m_Sk X) (hd : 2 ≤ d) (hG : m_G d yX12_grainLeft.cls yX12_grainLeft.name cX12_grainLeft 5 n0 s0 nF sF Ω) {t : Int} (hK1 : Ω 55 ([none, none, none, some (.inl t), none], [], N, X)) (hl : lp (fun s => b_X12_grainLeft_10 X N s.1 s.2.1 s.2.2.1 s.2.2.2) (a1, a2, a3, a4) = some t) : Ω 10 ([some (.inr (.inr 64)), some (.inl a1), some (.inl a2), some (.inl a3), some (.inl a4)], [], N, X) := by
  refine lp_ok (P := fun s => Ω 10 ([some (.inr (.inr 64)), some (.inl s.1), some (.inl s.2.1), some (.inl s.2.2.1), some (.inl s.2.2.2)], [], N, X)) (K := fun t => Ω 55 ([none, none, none, some (.inl t), none], [], N, X)) (fun s out hF hK0 hK1 => ?_) hl hK1
  exact t_X12_grainLeft_b10 hsk hd hG (out := out) (fun s' e => hK0 s' e) (fun t' e => hK1 t' e) hF
theorem t_X12_grainLeft {d : Nat} {X : MX} {N : NN} {a1 : Int} {a2 : Int} {out : Int} (hsk : m_Sk X) (hd : 2 ≤ d) (hF : f_X12_grainLeft X N a1 a2 = some out) : m_Call d yX12_grainLeft cX12_grainLeft 5 (some .int) [(.inr (.inr 64)), (.inl a1), (.inl a2)] N X (some (.inl out)) N X := by
  refine m_mk (ls0 := [some (.inr (.inr 64)), some (.inl a1), some (.inl a2), none, none]) (by decide) rfl (Nat.le_of_ble_eq_true rfl) (Nat.le_refl _) (Nat.le_refl _) (fun Ω hE => ?_)
  have hG := hE.G
  unfold f_X12_grainLeft at hF
  refine s_aload_n hG dX12_grainLeft_0 rfl ?_
  refine s_getr (r := 88) hG dX12_grainLeft_1 fl_RX12_115 (sk_k hsk 64 rfl) rfl (sk_R hsk 64 45 rfl) ?_
  refine s_iload_n hG dX12_grainLeft_4 rfl ?_
  obtain ⟨g1, hF⟩ := gd_some hF
  refine s_ialdj (j := a2.toNat) hG dX12_grainLeft_5 (sk_K hsk 88 rfl) g1 rfl ?_
  refine s_istore_n hG dX12_grainLeft_6 (by decide) rfl ?_
  refine s_iconst hG dX12_grainLeft_7 ⟨by decide, by decide⟩ ?_
  refine s_istore hG dX12_grainLeft_8 (by decide) rfl ?_
  obtain ⟨o7, hlo7, hF⟩ := bd_some hF
  refine t_X12_grainLeft_lp10 hsk hd hG ?_ hlo7
  refine s_iload_n hG dX12_grainLeft_55 rfl ?_
  cases hF
  exact s_iret hE dX12_grainLeft_56 rfl
-- X12_isWon
theorem t_X12_isWon_j35 {d n0 s0 nF sF : Nat} {X : MX} {N : NN} {Ω : Nat → MS → Prop} {z0 : Int} (hsk : m_Sk X) (hd : 3 ≤ d) (hG : m_G d yX12_isWon.cls yX12_isWon.name cX12_isWon 4 n0 s0 nF sF Ω) {out : Int} (hE : m_Gd d yX12_isWon cX12_isWon 4 (some .boolean) X (some (.inl out)) N X Ω) (hF : f_X12_isWon_j35 X N z0 = some out) : Ω 35 ([none, none, none, none], [(.inl z0)], N, X) := by
  unfold f_X12_isWon_j35 at hF
  obtain ⟨g6, hF⟩ := gd_some hF
  cases hF
  exact s_zret hE dX12_isWon_35 rfl g6
theorem t_X12_isWon_j30 {d n0 s0 nF sF : Nat} {X : MX} {N : NN} {Ω : Nat → MS → Prop} (hsk : m_Sk X) (hd : 3 ≤ d) (hG : m_G d yX12_isWon.cls yX12_isWon.name cX12_isWon 4 n0 s0 nF sF Ω) {out : Int} (hE : m_Gd d yX12_isWon cX12_isWon 4 (some .boolean) X (some (.inl out)) N X Ω) (hF : f_X12_isWon_j30 X N = some out) : Ω 30 ([none, none, none, none], [], N, X) := by
  unfold f_X12_isWon_j30 at hF
  refine s_iconst hG dX12_isWon_30 ⟨by decide, by decide⟩ ?_
  refine s_goto hG 35 dX12_isWon_31 (by decide) ?_
  exact t_X12_isWon_j35 hsk hd hG hE hF
theorem t_X12_isWon {d : Nat} {X : MX} {N : NN} {a1 : Int} {a2 : Int} {a3 : Int} {out : Int} (hsk : m_Sk X) (hd : 3 ≤ d) (hF : f_X12_isWon X N a1 a2 a3 = some out) : m_Call d yX12_isWon cX12_isWon 4 (some .boolean) [(.inr (.inr 64)), (.inl a1), (.inl a2), (.inl a3)] N X (some (.inl out)) N X := by
  refine m_mk (ls0 := [some (.inr (.inr 64)), some (.inl a1), some (.inl a2), some (.inl a3)]) (by decide) rfl (Nat.le_of_ble_eq_true rfl) (Nat.le_refl _) (Nat.le_refl _) (fun Ω hE => ?_)
  have hG := hE.G
  unfold f_X12_isWon at hF
  refine s_aload_n hG dX12_isWon_0 rfl ?_
  refine s_iload_n hG dX12_isWon_1 rfl ?_
  refine s_iconst hG dX12_isWon_2 ⟨by decide, by decide⟩ ?_
  refine s_iload_n hG dX12_isWon_3 rfl ?_
  refine s_isub hG dX12_isWon_4 ?_
  obtain ⟨o1, ho1, hF⟩ := bd_some hF
  refine s_callV (d' := d - 1) (ci := 12) (args := [.inl a1, .inl (m_w (1 - a2))]) hG (by omega) dX12_isWon_5 cv_RX12_486 cw_X12_grainLeft rfl rfl (sk_k hsk 64 rfl) (Nat.le_of_ble_eq_true rfl) rfl (t_X12_grainLeft hsk (by omega) ho1) ?_
  refine s_aload_n hG dX12_isWon_8 rfl ?_
  refine s_getr (r := 86) hG dX12_isWon_9 fl_RX12_109 (sk_k hsk 64 rfl) rfl (sk_R hsk 64 43 rfl) ?_
  refine s_iload_n hG dX12_isWon_12 rfl ?_
  obtain ⟨g2, hF⟩ := gd_some hF
  refine s_ialdj (j := a3.toNat) hG dX12_isWon_13 (sk_K hsk 86 rfl) g2 rfl ?_
  refine s_icmp_lt hG 30 dX12_isWon_14 (by decide) (fun c5 => ?_) (fun c5 => ?_)
  · replace hF := Eq.trans (if_pos c5).symm hF
    refine m_weak (ls1 := [none, none, none, none]) hG trivial ?_
    exact t_X12_isWon_j30 hsk hd hG hE hF
  · replace hF := Eq.trans (if_neg c5).symm hF
    refine s_aload_n hG dX12_isWon_17 rfl ?_
    refine s_getr (r := 87) hG dX12_isWon_18 fl_RX12_112 (sk_k hsk 64 rfl) rfl (sk_R hsk 64 44 rfl) ?_
    refine s_iload_n hG dX12_isWon_21 rfl ?_
    refine s_iconst hG dX12_isWon_22 ⟨by decide, by decide⟩ ?_
    refine s_iload_n hG dX12_isWon_23 rfl ?_
    refine s_ishl hG dX12_isWon_24 ?_
    refine s_ior hG dX12_isWon_25 ?_
    obtain ⟨g3, hF⟩ := gd_some hF
    refine s_zaldj (j := (m_or a1 (m_shl 1 a3)).toNat) hG dX12_isWon_26 (sk_K hsk 87 rfl) g3 rfl ?_
    refine s_if_ne hG 34 dX12_isWon_27 (by decide) (fun c4 => ?_) (fun c4 => ?_)
    · replace hF := Eq.trans (if_pos c4).symm hF
      refine m_weak (ls1 := [none, none, none, none]) hG trivial ?_
      exact t_X12_isWon_j30 hsk hd hG hE hF
    · replace hF := Eq.trans (if_neg c4).symm hF
      refine s_iconst hG dX12_isWon_34 ⟨by decide, by decide⟩ ?_
      refine m_weak (ls1 := [none, none, none, none]) hG trivial ?_
      exact t_X12_isWon_j35 hsk hd hG hE hF
