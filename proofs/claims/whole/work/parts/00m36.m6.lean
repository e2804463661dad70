-- X12_lastOf
theorem t_X12_lastOf_l4_j43 {d n0 s0 nF sF : Nat} {X : MX} {N : NN} {Ω : Nat → MS → Prop} {a1 : Int} {a3 : Int} {z0 : Int} (hsk : m_Sk X) (hd : 2 ≤ d) (hG : m_G d yX12_lastOf.cls yX12_lastOf.name cX12_lastOf 4 n0 s0 nF sF Ω) {out : ((Int × Int × Int) ⊕ Int)} (hK0 : ∀ s' : (Int × Int × Int), out = .inl s' → Ω 4 ([some (.inr (.inr 64)), some (.inl (s'.1)), some (.inl (s'.2.1)), some (.inl (s'.2.2))], [], N, X)) (hK1 : ∀ t : Int, out = .inr t → Ω 50 ([none, none, some (.inl t), none], [], N, X)) (hF : f_X12_lastOf_l4_j43 X N a1 a3 z0 = some out) : Ω 43 ([some (.inr (.inr 64)), some (.inl a1), none, some (.inl a3)], [(.inl z0)], N, X) := by
  unfold f_X12_lastOf_l4_j43 at hF
  refine s_istore_n hG dX12_lastOf_43 (by decide) rfl ?_
  refine s_iinc hG dX12_lastOf_44 (by decide) rfl rfl ?_
  refine s_goto hG 4 dX12_lastOf_47 (by decide) ?_
  cases hF
  exact hK0 _ rfl
theorem t_X12_lastOf_l4_j42 {d n0 s0 nF sF : Nat} {X : MX} {N : NN} {Ω : Nat → MS → Prop} {a1 : Int} {a2 : Int} {a3 : Int} (hsk : m_Sk X) (hd : 2 ≤ d) (hG : m_G d yX12_lastOf.cls yX12_lastOf.name cX12_lastOf 4 n0 s0 nF sF Ω) {out : ((Int × Int × Int) ⊕ Int)} (hK0 : ∀ s' : (Int × Int × Int), out = .inl s' → Ω 4 ([some (.inr (.inr 64)), some (.inl (s'.1)), some (.inl (s'.2.1)), some (.inl (s'.2.2))], [], N, X)) (hK1 : ∀ t : Int, out = .inr t → Ω 50 ([none, none, some (.inl t), none], [], N, X)) (hF : f_X12_lastOf_l4_j42 X N a1 a2 a3 = some out) : Ω 42 ([some (.inr (.inr 64)), some (.inl a1), some (.inl a2), some (.inl a3)], [], N, X) := by
  unfold f_X12_lastOf_l4_j42 at hF
  refine s_iload_n hG dX12_lastOf_42 rfl ?_
  refine m_weak (ls1 := [some (.inr (.inr 64)), some (.inl a1), none, some (.inl a3)]) hG ⟨rfl, ⟨rfl, ⟨rfl, trivial⟩⟩⟩ ?_
  exact t_X12_lastOf_l4_j43 hsk hd hG hK0 hK1 hF
theorem t_X12_lastOf_l4_j38 {d n0 s0 nF sF : Nat} {X : MX} {N : NN} {Ω : Nat → MS → Prop} {a1 : Int} {a3 : Int} (hsk : m_Sk X) (hd : 2 ≤ d) (hG : m_G d yX12_lastOf.cls yX12_lastOf.name cX12_lastOf 4 n0 s0 nF sF Ω) {out : ((Int × Int × Int) ⊕ Int)} (hK0 : ∀ s' : (Int × Int × Int), out = .inl s' → Ω 4 ([some (.inr (.inr 64)), some (.inl (s'.1)), some (.inl (s'.2.1)), some (.inl (s'.2.2))], [], N, X)) (hK1 : ∀ t : Int, out = .inr t → Ω 50 ([none, none, some (.inl t), none], [], N, X)) (hF : f_X12_lastOf_l4_j38 X N a1 a3 = some out) : Ω 38 ([some (.inr (.inr 64)), some (.inl a1), none, some (.inl a3)], [], N, X) := by
  unfold f_X12_lastOf_l4_j38 at hF
  refine s_iload_n hG dX12_lastOf_38 rfl ?_
  refine s_goto hG 43 dX12_lastOf_39 (by decide) ?_
  exact t_X12_lastOf_l4_j43 hsk hd hG hK0 hK1 hF
theorem t_X12_lastOf_b4 {d n0 s0 nF sF : Nat} {X : MX} {N : NN} {Ω : Nat → MS → Prop} {a1 : Int} {a2 : Int} {a3 : Int} (hsk : m_Sk X) (hd : 2 ≤ d) (hG : m_G d yX12_lastOf.cls yX12_lastOf.name cX12_lastOf 4 n0 s0 nF sF Ω) {out : ((Int × Int × Int) ⊕ Int)} (hK0 : ∀ s' : (Int × Int × Int), out = .inl s' → Ω 4 ([some (.inr (.inr 64)), some (.inl (s'.1)), some (.inl (s'.2.1)), some (.inl (s'.2.2))], [], N, X)) (hK1 : ∀ t : Int, out = .inr t → Ω 50 ([none, none, some (.inl t), none], [], N, X)) (hF : b_X12_lastOf_4 X N a1 a2 a3 = some out) : Ω 4 ([some (.inr (.inr 64)), some (.inl a1), some (.inl a2), some (.inl a3)], [], N, X) := by
  unfold b_X12_lastOf_4 at hF
  refine s_iload_n hG dX12_lastOf_4 rfl ?_
  refine s_bipush hG dX12_lastOf_5 bp_12 ⟨by decide, by decide⟩ ?_
  refine s_icmp_ge hG 50 dX12_lastOf_7 (by decide) (fun c7 => ?_) (fun c7 => ?_)
  · replace hF := Eq.trans (if_pos c7).symm hF
    refine s_iload_n hG dX12_lastOf_10 rfl ?_
    refine s_iload_n hG dX12_lastOf_11 rfl ?_
    obtain ⟨o1, ho1, hF⟩ := bd_some hF
    refine s_callS (d' := d - 1) (args := [.inl a1, .inl a3]) hG (by omega) dX12_lastOf_12 cs_RX12_458 cw_X12_is rfl (Nat.le_of_ble_eq_true rfl) rfl (t_X12_is hsk (by omega) ho1) ?_
    refine s_if_eq hG 42 dX12_lastOf_15 (by decide) (fun c6 => ?_) (fun c6 => ?_)
    · replace hF := Eq.trans (if_pos c6).symm hF
      exact t_X12_lastOf_l4_j42 hsk hd hG hK0 hK1 hF
    · replace hF := Eq.trans (if_neg c6).symm hF
      refine s_iload_n hG dX12_lastOf_18 rfl ?_
      refine s_iconst hG dX12_lastOf_19 ⟨by decide, by decide⟩ ?_
      refine s_icmp_eq hG 38 dX12_lastOf_20 (by decide) (fun c5 => ?_) (fun c5 => ?_)
      · replace hF := Eq.trans (if_pos c5).symm hF
        refine m_weak (ls1 := [some (.inr (.inr 64)), some (.inl a1), none, some (.inl a3)]) hG ⟨rfl, ⟨rfl, ⟨rfl, trivial⟩⟩⟩ ?_
        exact t_X12_lastOf_l4_j38 hsk hd hG hK0 hK1 hF
      · replace hF := Eq.trans (if_neg c5).symm hF
        refine s_aload_n hG dX12_lastOf_23 rfl ?_
        refine s_getr (r := 85) hG dX12_lastOf_24 fl_RX12_106 (sk_k hsk 64 rfl) rfl (sk_R hsk 64 42 rfl) ?_
        refine s_iload_n hG dX12_lastOf_27 rfl ?_
        obtain ⟨g2, hF⟩ := gd_some hF
        refine s_ialdj (j := a3.toNat) hG dX12_lastOf_28 (sk_K hsk 85 rfl) g2 rfl ?_
        refine s_aload_n hG dX12_lastOf_29 rfl ?_
        refine s_getr (r := 85) hG dX12_lastOf_30 fl_RX12_106 (sk_k hsk 64 rfl) rfl (sk_R hsk 64 42 rfl) ?_
        refine s_iload_n hG dX12_lastOf_33 rfl ?_
        obtain ⟨g3, hF⟩ := gd_some hF
        refine s_ialdj (j := a2.toNat) hG dX12_lastOf_34 (sk_K hsk 85 rfl) g3 rfl ?_
        refine s_icmp_le hG 42 dX12_lastOf_35 (by decide) (fun c4 => ?_) (fun c4 => ?_)
        · replace hF := Eq.trans (if_pos c4).symm hF
          refine m_weak (ls1 := [some (.inr (.inr 64)), some (.inl a1), none, some (.inl a3)]) hG ⟨rfl, ⟨rfl, ⟨rfl, trivial⟩⟩⟩ ?_
          exact t_X12_lastOf_l4_j38 hsk hd hG hK0 hK1 hF
        · replace hF := Eq.trans (if_neg c4).symm hF
          exact t_X12_lastOf_l4_j42 hsk hd hG hK0 hK1 hF
  · replace hF := Eq.trans (if_neg c7).symm hF
    cases hF
    refine m_weak (ls1 := [none, none, some (.inl a2), none]) hG ⟨rfl, trivial⟩ ?_
    exact hK1 _ rfl
theorem t_X12_lastOf_lp4 {d n0 s0 nF sF : Nat} {X : MX} {N : NN} {Ω : Nat → MS → Prop} {a1 : Int} {a2 : Int} {a3 : Int} (hsk : m_Sk X) (hd : 2 ≤ d) (hG : m_G d yX12_lastOf.cls yX12_lastOf.name cX12_lastOf 4 n0 s0 nF sF Ω) {t : Int} (hK1 : Ω 50 ([none, none, some (.inl t), none], [], N, X)) (hl : lp (fun s => b_X12_lastOf_4 X N s.1 s.2.1 s.2.2) (a1, a2, a3) = some t) : Ω 4 ([some (.inr (.inr 64)), some (.inl a1), some (.inl a2), some (.inl a3)], [], N, X) := by
  refine lp_ok (P := fun s => Ω 4 ([some (.inr (.inr 64)), some (.inl s.1), some (.inl s.2.1), some (.inl s.2.2)], [], N, X)) (K := fun t => Ω 50 ([none, none, some (.inl t), none], [], N, X)) (fun s out hF hK0 hK1 => ?_) hl hK1
  exact t_X12_lastOf_b4 hsk hd hG (out := out) (fun s' e => hK0 s' e) (fun t' e => hK1 t' e) hF
theorem t_X12_lastOf {d : Nat} {X : MX} {N : NN} {a1 : Int} {out : Int} (hsk : m_Sk X) (hd : 2 ≤ d) (hF : f_X12_lastOf X N a1 = some out) : m_Call d yX12_lastOf cX12_lastOf 4 (some .int) [(.inr (.inr 64)), (.inl a1)] N X (some (.inl out)) N X := by
  refine m_mk (ls0 := [some (.inr (.inr 64)), some (.inl a1), none, none]) (by decide) rfl (Nat.le_of_ble_eq_true rfl) (Nat.le_refl _) (Nat.le_refl _) (fun Ω hE => ?_)
  have hG := hE.G
  unfold f_X12_lastOf at hF
  refine s_iconst hG dX12_lastOf_0 ⟨by decide, by decide⟩ ?_
  refine s_istore_n hG dX12_lastOf_1 (by decide) rfl ?_
  refine s_iconst hG dX12_lastOf_2 ⟨by decide, by decide⟩ ?_
  refine s_istore_n hG dX12_lastOf_3 (by decide) rfl ?_
  obtain ⟨o8, hlo8, hF⟩ := bd_some hF
  refine t_X12_lastOf_lp4 hsk hd hG ?_ hlo8
  refine s_iload_n hG dX12_lastOf_50 rfl ?_
  cases hF
  exact s_iret hE dX12_lastOf_51 rfl
-- X12_findWins
theorem t_X12_findWins_l39_j84 {d n0 s0 nF sF : Nat} {X : MX} {Ω : Nat → MS → Prop} {N : NN} {a1 : Int} {a2 : Int} {a3 : Int} {a5 : Int} {z0 : Int} (hsk : m_Sk X) (hd : 4 ≤ d) (hG : m_G d yX12_findWins.cls yX12_findWins.name cX12_findWins 6 n0 s0 nF sF Ω) {out : ((NN × Int × Int × Int × Int × Int) ⊕ (NN × Int × Int))} (hK0 : ∀ s' : (NN × Int × Int × Int × Int × Int), out = .inl s' → Ω 39 ([some (.inr (.inr 64)), some (.inl (s'.2.1)), some (.inl (s'.2.2.1)), some (.inl (s'.2.2.2.1)), some (.inl (s'.2.2.2.2.1)), some (.inl (s'.2.2.2.2.2))], [], s'.1, X)) (hK1 : ∀ t : (NN × Int × Int), out = .inr t → Ω 92 ([some (.inr (.inr 64)), some (.inl t.2.1), none, none, some (.inl t.2.2), none], [], t.1, X)) (hF : f_X12_findWins_l39_j84 X N a1 a2 a3 a5 z0 = some out) : Ω 84 ([some (.inr (.inr 64)), some (.inl a1), some (.inl a2), some (.inl a3), none, some (.inl a5)], [(.inl z0)], N, X) := by
  unfold f_X12_findWins_l39_j84 at hF
  refine s_istore hG dX12_findWins_84 (by decide) rfl ?_
  refine s_iinc hG dX12_findWins_86 (by decide) rfl rfl ?_
  refine s_goto hG 39 dX12_findWins_89 (by decide) ?_
  cases hF
  exact hK0 _ rfl
theorem t_X12_findWins_l39_j83 {d n0 s0 nF sF : Nat} {X : MX} {Ω : Nat → MS → Prop} {N : NN} {a1 : Int} {a2 : Int} {a3 : Int} {a5 : Int} (hsk : m_Sk X) (hd : 4 ≤ d) (hG : m_G d yX12_findWins.cls yX12_findWins.name cX12_findWins 6 n0 s0 nF sF Ω) {out : ((NN × Int × Int × Int × Int × Int) ⊕ (NN × Int × Int))} (hK0 : ∀ s' : (NN × Int × Int × Int × Int × Int), out = .inl s' → Ω 39 ([some (.inr (.inr 64)), some (.inl (s'.2.1)), some (.inl (s'.2.2.1)), some (.inl (s'.2.2.2.1)), some (.inl (s'.2.2.2.2.1)), some (.inl (s'.2.2.2.2.2))], [], s'.1, X)) (hK1 : ∀ t : (NN × Int × Int), out = .inr t → Ω 92 ([some (.inr (.inr 64)), some (.inl t.2.1), none, none, some (.inl t.2.2), none], [], t.1, X)) (hF : f_X12_findWins_l39_j83 X N a1 a2 a3 a5 = some out) : Ω 83 ([some (.inr (.inr 64)), some (.inl a1), some (.inl a2), some (.inl a3), none, some (.inl a5)], [], N, X) := by
  unfold f_X12_findWins_l39_j83 at hF
  refine s_iconst hG dX12_findWins_83 ⟨by decide, by decide⟩ ?_
  exact t_X12_findWins_l39_j84 hsk hd hG hK0 hK1 hF
theorem t_X12_findWins_b39 {d n0 s0 nF sF : Nat} {X : MX} {Ω : Nat → MS → Prop} {N : NN} {a1 : Int} {a2 : Int} {a3 : Int} {a4 : Int} {a5 : Int} (hsk : m_Sk X) (hd : 4 ≤ d) (hG : m_G d yX12_findWins.cls yX12_findWins.name cX12_findWins 6 n0 s0 nF sF Ω) {out : ((NN × Int × Int × Int × Int × Int) ⊕ (NN × Int × Int))} (hK0 : ∀ s' : (NN × Int × Int × Int × Int × Int), out = .inl s' → Ω 39 ([some (.inr (.inr 64)), some (.inl (s'.2.1)), some (.inl (s'.2.2.1)), some (.inl (s'.2.2.2.1)), some (.inl (s'.2.2.2.2.1)), some (.inl (s'.2.2.2.2.2))], [], s'.1, X)) (hK1 : ∀ t : (NN × Int × Int), out = .inr t → Ω 92 ([some (.inr (.inr 64)), some (.inl t.2.1), none, none, some (.inl t.2.2), none], [], t.1, X)) (hF : b_X12_findWins_39 X N a1 a2 a3 a4 a5 = some out) : Ω 39 ([some (.inr (.inr 64)), some (.inl a1), some (.inl a2), some (.inl a3), some (.inl a4), some (.inl a5)], [], N, X) := by
  unfold b_X12_findWins_39 at hF
  refine s_iload hG dX12_findWins_39 rfl ?_
  refine s_bipush hG dX12_findWins_41 bp_6 ⟨by decide, by decide⟩ ?_
  refine s_iload_n hG dX12_findWins_43 rfl ?_
  refine s_imul hG dX12_findWins_44 ?_
  refine s_bipush hG dX12_findWins_45 bp_6 ⟨by decide, by decide⟩ ?_
  refine s_iadd hG dX12_findWins_47 ?_
  refine s_icmp_ge hG 92 dX12_findWins_48 (by decide) (fun c9 => ?_) (fun c9 => ?_)
  · replace hF := Eq.trans (if_pos c9).symm hF
    refine s_iload hG dX12_findWins_51 rfl ?_
    refine s_if_ne hG 92 dX12_findWins_53 (by decide) (fun c8 => ?_) (fun c8 => ?_)
    · replace hF := Eq.trans (if_pos c8).symm hF
      refine s_aload_n hG dX12_findWins_56 rfl ?_
      refine s_iload_n hG dX12_findWins_57 rfl ?_
      refine s_iload_n hG dX12_findWins_58 rfl ?_
      refine s_iload_n hG dX12_findWins_59 rfl ?_
      refine s_iload hG dX12_findWins_60 rfl ?_
      obtain ⟨o4, ho4, hF⟩ := bd_some hF
      refine s_callV (d' := d - 1) (ci := 12) (args := [.inl a1, .inl a2, .inl a3, .inl a5]) hG (by omega) dX12_findWins_62 cv_RX12_492 cw_X12_canGive rfl rfl (sk_k hsk 64 rfl) (Nat.le_of_ble_eq_true rfl) rfl (t_X12_canGive hsk (by omega) ho4) ?_
      refine s_if_eq hG 83 dX12_findWins_65 (by decide) (fun c7 => ?_) (fun c7 => ?_)
      · replace hF := Eq.trans (if_pos c7).symm hF
        refine m_weak (ls1 := [some (.inr (.inr 64)), some (.inl a1), some (.inl a2), some (.inl a3), none, some (.inl a5)]) hG ⟨rfl, ⟨rfl, ⟨rfl, ⟨rfl, ⟨rfl, trivial⟩⟩⟩⟩⟩ ?_
        exact t_X12_findWins_l39_j83 hsk hd hG hK0 hK1 hF
      · replace hF := Eq.trans (if_neg c7).symm hF
        refine s_aload_n hG dX12_findWins_68 rfl ?_
        refine s_iload_n hG dX12_findWins_69 rfl ?_
        refine s_iload_n hG dX12_findWins_70 rfl ?_
        refine s_iload hG dX12_findWins_71 rfl ?_
        obtain ⟨o5, ho5, hF⟩ := bd_some hF
        refine s_callV (d' := d - 1) (ci := 12) (args := [.inl a1, .inl a3, .inl a5]) hG (by omega) dX12_findWins_73 cv_RX12_496 cw_X12_isWon rfl rfl (sk_k hsk 64 rfl) (Nat.le_of_ble_eq_true rfl) rfl (t_X12_isWon hsk (by omega) ho5) ?_
        refine s_if_eq hG 83 dX12_findWins_76 (by decide) (fun c6 => ?_) (fun c6 => ?_)
        · replace hF := Eq.trans (if_pos c6).symm hF
          refine m_weak (ls1 := [some (.inr (.inr 64)), some (.inl a1), some (.inl a2), some (.inl a3), none, some (.inl a5)]) hG ⟨rfl, ⟨rfl, ⟨rfl, ⟨rfl, ⟨rfl, trivial⟩⟩⟩⟩⟩ ?_
          exact t_X12_findWins_l39_j83 hsk hd hG hK0 hK1 hF
        · replace hF := Eq.trans (if_neg c6).symm hF
          refine s_iconst hG dX12_findWins_79 ⟨by decide, by decide⟩ ?_
          refine s_goto hG 84 dX12_findWins_80 (by decide) ?_
          refine m_weak (ls1 := [some (.inr (.inr 64)), some (.inl a1), some (.inl a2), some (.inl a3), none, some (.inl a5)]) hG ⟨rfl, ⟨rfl, ⟨rfl, ⟨rfl, ⟨rfl, trivial⟩⟩⟩⟩⟩ ?_
          exact t_X12_findWins_l39_j84 hsk hd hG hK0 hK1 hF
    · replace hF := Eq.trans (if_neg c8).symm hF
      cases hF
      refine m_weak (ls1 := [some (.inr (.inr 64)), some (.inl a1), none, none, some (.inl a4), none]) hG ⟨rfl, ⟨rfl, ⟨rfl, trivial⟩⟩⟩ ?_
      exact hK1 _ rfl
  · replace hF := Eq.trans (if_neg c9).symm hF
    cases hF
    refine m_weak (ls1 := [some (.inr (.inr 64)), some (.inl a1), none, none, some (.inl a4), none]) hG ⟨rfl, ⟨rfl, ⟨rfl, trivial⟩⟩⟩ ?_
    exact hK1 _ rfl
theorem t_X12_findWins_lp39 {d n0 s0 nF sF : Nat} {X : MX} {Ω : Nat → MS → Prop} {N : NN} {a1 : Int} {a2 : Int} {a3 : Int} {a4 : Int} {a5 : Int} (hsk : m_Sk X) (hd : 4 ≤ d) (hG : m_G d yX12_findWins.cls yX12_findWins.name cX12_findWins 6 n0 s0 nF sF Ω) {t : (NN × Int × Int)} (hK1 : Ω 92 ([some (.inr (.inr 64)), some (.inl t.2.1), none, none, some (.inl t.2.2), none], [], t.1, X)) (hl : lp (fun s => b_X12_findWins_39 X s.1 s.2.1 s.2.2.1 s.2.2.2.1 s.2.2.2.2.1 s.2.2.2.2.2) (N, a1, a2, a3, a4, a5) = some t) : Ω 39 ([some (.inr (.inr 64)), some (.inl a1), some (.inl a2), some (.inl a3), some (.inl a4), some (.inl a5)], [], N, X) := by
  refine lp_ok (P := fun s => Ω 39 ([some (.inr (.inr 64)), some (.inl s.2.1), some (.inl s.2.2.1), some (.inl s.2.2.2.1), some (.inl s.2.2.2.2.1), some (.inl s.2.2.2.2.2)], [], s.1, X)) (K := fun t => Ω 92 ([some (.inr (.inr 64)), some (.inl t.2.1), none, none, some (.inl t.2.2), none], [], t.1, X)) (fun s out hF hK0 hK1 => ?_) hl hK1
  exact t_X12_findWins_b39 hsk hd hG (out := out) (fun s' e => hK0 s' e) (fun t' e => hK1 t' e) hF
theorem t_X12_findWins_l4_j29 {d n0 s0 nF sF : Nat} {X : MX} {Ω : Nat → MS → Prop} {N : NN} {a1 : Int} {a2 : Int} {z0 : Int} (hsk : m_Sk X) (hd : 4 ≤ d) (hG : m_G d yX12_findWins.cls yX12_findWins.name cX12_findWins 6 n0 s0 nF sF Ω) {out : ((NN × Int) ⊕ NN)} (hK0 : ∀ s' : (NN × Int), out = .inl s' → Ω 4 ([some (.inr (.inr 64)), some (.inl (s'.2)), none, none, none, none], [], s'.1, X)) (hK1 : ∀ t : NN, out = .inr t → Ω 106 ([none, none, none, none, none, none], [], t, X)) (hF : f_X12_findWins_l4_j29 X N a1 a2 z0 = some out) : Ω 29 ([some (.inr (.inr 64)), some (.inl a1), some (.inl a2), none, none, none], [(.inl z0)], N, X) := by
  unfold f_X12_findWins_l4_j29 at hF
  refine s_istore_n hG dX12_findWins_29 (by decide) rfl ?_
  refine s_iconst hG dX12_findWins_30 ⟨by decide, by decide⟩ ?_
  refine s_istore hG dX12_findWins_31 (by decide) rfl ?_
  refine s_bipush hG dX12_findWins_33 bp_6 ⟨by decide, by decide⟩ ?_
  refine s_iload_n hG dX12_findWins_35 rfl ?_
  refine s_imul hG dX12_findWins_36 ?_
  refine s_istore hG dX12_findWins_37 (by decide) rfl ?_
  obtain ⟨o10, hlo10, hF⟩ := bd_some hF
  refine t_X12_findWins_lp39 hsk hd hG ?_ hlo10
  refine s_aload_n hG dX12_findWins_92 rfl ?_
  refine s_getr (r := 87) hG dX12_findWins_93 fl_RX12_112 (sk_k hsk 64 rfl) rfl (sk_R hsk 64 44 rfl) ?_
  refine s_iload_n hG dX12_findWins_96 rfl ?_
  refine s_iload hG dX12_findWins_97 rfl ?_
  obtain ⟨g11, hF⟩ := gd_some hF
  obtain ⟨g12, hF⟩ := gd_some hF
  refine s_zastj (j := o10.2.1.toNat) hG dX12_findWins_99 (sk_K hsk 87 rfl) g11 rfl g12 ?_
  refine s_iinc hG dX12_findWins_100 (by decide) rfl rfl ?_
  refine s_goto hG 4 dX12_findWins_103 (by decide) ?_
  cases hF
  refine m_weak (ls1 := [some (.inr (.inr 64)), some (.inl (m_w (o10.2.1 + (-1)))), none, none, none, none]) hG ⟨rfl, ⟨rfl, trivial⟩⟩ ?_
  exact hK0 _ rfl
theorem t_X12_findWins_b4 {d n0 s0 nF sF : Nat} {X : MX} {Ω : Nat → MS → Prop} {N : NN} {a1 : Int} (hsk : m_Sk X) (hd : 4 ≤ d) (hG : m_G d yX12_findWins.cls yX12_findWins.name cX12_findWins 6 n0 s0 nF sF Ω) {out : ((NN × Int) ⊕ NN)} (hK0 : ∀ s' : (NN × Int), out = .inl s' → Ω 4 ([some (.inr (.inr 64)), some (.inl (s'.2)), none, none, none, none], [], s'.1, X)) (hK1 : ∀ t : NN, out = .inr t → Ω 106 ([none, none, none, none, none, none], [], t, X)) (hF : b_X12_findWins_4 X N a1 = some out) : Ω 4 ([some (.inr (.inr 64)), some (.inl a1), none, none, none, none], [], N, X) := by
  unfold b_X12_findWins_4 at hF
  refine s_iload_n hG dX12_findWins_4 rfl ?_
  refine s_if_lt hG 106 dX12_findWins_5 (by decide) (fun c3 => ?_) (fun c3 => ?_)
  · replace hF := Eq.trans (if_pos c3).symm hF
    cases hF
    refine m_weak (ls1 := [none, none, none, none, none, none]) hG trivial ?_
    exact hK1 _ rfl
  · replace hF := Eq.trans (if_neg c3).symm hF
    refine s_aload_n hG dX12_findWins_8 rfl ?_
    refine s_iload_n hG dX12_findWins_9 rfl ?_
    obtain ⟨o1, ho1, hF⟩ := bd_some hF
    refine s_callV (d' := d - 1) (ci := 12) (args := [.inl a1]) hG (by omega) dX12_findWins_10 cv_RX12_489 cw_X12_lastOf rfl rfl (sk_k hsk 64 rfl) (Nat.le_of_ble_eq_true rfl) rfl (t_X12_lastOf hsk (by omega) ho1) ?_
    refine s_istore_n hG dX12_findWins_13 (by decide) rfl ?_
    refine s_iload_n hG dX12_findWins_14 rfl ?_
    refine s_iconst hG dX12_findWins_15 ⟨by decide, by decide⟩ ?_
    refine s_icmp_ne hG 23 dX12_findWins_16 (by decide) (fun c2 => ?_) (fun c2 => ?_)
    · replace hF := Eq.trans (if_pos c2).symm hF
      refine s_iconst hG dX12_findWins_19 ⟨by decide, by decide⟩ ?_
      refine s_goto hG 29 dX12_findWins_20 (by decide) ?_
      exact t_X12_findWins_l4_j29 hsk hd hG hK0 hK1 hF
    · replace hF := Eq.trans (if_neg c2).symm hF
      refine s_iconst hG dX12_findWins_23 ⟨by decide, by decide⟩ ?_
      refine s_iload_n hG dX12_findWins_24 rfl ?_
      refine s_bipush hG dX12_findWins_25 bp_6 ⟨by decide, by decide⟩ ?_
      refine s_idiv hG dX12_findWins_27 (by decide) ?_
      refine s_isub hG dX12_findWins_28 ?_
      exact t_X12_findWins_l4_j29 hsk hd hG hK0 hK1 hF
theorem t_X12_findWins_lp4 {d n0 s0 nF sF : Nat} {X : MX} {Ω : Nat → MS → Prop} {N : NN} {a1 : Int} (hsk : m_Sk X) (hd : 4 ≤ d) (hG : m_G d yX12_findWins.cls yX12_findWins.name cX12_findWins 6 n0 s0 nF sF Ω) {t : NN} (hK1 : Ω 106 ([none, none, none, none, none, none], [], t, X)) (hl : lp (fun s => b_X12_findWins_4 X s.1 s.2) (N, a1) = some t) : Ω 4 ([some (.inr (.inr 64)), some (.inl a1), none, none, none, none], [], N, X) := by
  refine lp_ok (P := fun s => Ω 4 ([some (.inr (.inr 64)), some (.inl s.2), none, none, none, none], [], s.1, X)) (K := fun t => Ω 106 ([none, none, none, none, none, none], [], t, X)) (fun s out hF hK0 hK1 => ?_) hl hK1
  exact t_X12_findWins_b4 hsk hd hG (out := out) (fun s' e => hK0 s' e) (fun t' e => hK1 t' e) hF
theorem t_X12_findWins {d : Nat} {X : MX} {N : NN} {out : NN} (hsk : m_Sk X) (hd : 4 ≤ d) (hF : f_X12_findWins X N = some out) : m_Call d yX12_findWins cX12_findWins 6 none [(.inr (.inr 64))] N X none out X := by
  refine m_mk (ls0 := [some (.inr (.inr 64)), none, none, none, none, none]) (by decide) rfl (Nat.le_of_ble_eq_true rfl) (Nat.le_refl _) (Nat.le_refl _) (fun Ω hE => ?_)
  have hG := hE.G
  unfold f_X12_findWins at hF
  refine s_sipush hG dX12_findWins_0 sp_4095 ⟨by decide, by decide⟩ ?_
  refine s_istore_n hG dX12_findWins_3 (by decide) rfl ?_
  obtain ⟨o14, hlo14, hF⟩ := bd_some hF
  refine t_X12_findWins_lp4 hsk hd hG ?_ hlo14
  cases hF
  exact s_vret hE dX12_findWins_106 rfl
-- X12_layGoods
theorem t_X12_layGoods_b6 {d n0 s0 nF sF : Nat} {X : MX} {Ω : Nat → MS → Prop} {N : NN} {a1 : Int} {a2 : Int} {a3 : Int} {a4 : Int} {a5 : Int} (hsk : m_Sk X) (hd : 8 ≤ d) (hG : m_G d yX12_layGoods.cls yX12_layGoods.name cX12_layGoods 7 n0 s0 nF sF Ω) {out : ((NN × Int × Int × Int × Int × Int) ⊕ (NN × Int × Int × Int × Int))} (hK0 : ∀ s' : (NN × Int × Int × Int × Int × Int), out = .inl s' → Ω 6 ([some (.inr (.inr 64)), some (.inl (s'.2.1)), some (.inl (s'.2.2.1)), some (.inl (s'.2.2.2.1)), some (.inl (s'.2.2.2.2.1)), some (.inl (s'.2.2.2.2.2)), none], [], s'.1, X)) (hK1 : ∀ t : (NN × Int × Int × Int × Int), out = .inr t → Ω 32 ([some (.inr (.inr 64)), some (.inl t.2.1), some (.inl t.2.2.1), some (.inl t.2.2.2.1), some (.inl t.2.2.2.2), none, none], [], t.1, X)) (hF : b_X12_layGoods_6 X N a1 a2 a3 a4 a5 = some out) : Ω 6 ([some (.inr (.inr 64)), some (.inl a1), some (.inl a2), some (.inl a3), some (.inl a4), some (.inl a5), none], [], N, X) := by
  unfold b_X12_layGoods_6 at hF
  refine s_iload hG dX12_layGoods_6 rfl ?_
  refine s_bipush hG dX12_layGoods_8 bp_6 ⟨by decide, by decide⟩ ?_
  refine s_icmp_ge hG 32 dX12_layGoods_10 (by decide) (fun c3 => ?_) (fun c3 => ?_)
  · replace hF := Eq.trans (if_pos c3).symm hF
    refine s_aload_n hG dX12_layGoods_13 rfl ?_
    refine s_getr (r := 84) hG dX12_layGoods_14 fl_RX12_103 (sk_k hsk 64 rfl) rfl (sk_R hsk 64 41 rfl) ?_
    refine s_bipush hG dX12_layGoods_17 bp_6 ⟨by decide, by decide⟩ ?_
    refine s_iload_n hG dX12_layGoods_19 rfl ?_
    refine s_imul hG dX12_layGoods_20 ?_
    refine s_iload hG dX12_layGoods_21 rfl ?_
    refine s_iadd hG dX12_layGoods_23 ?_
    refine s_iconst hG dX12_layGoods_24 ⟨by decide, by decide⟩ ?_
    obtain ⟨g1, hF⟩ := gd_some hF
    refine s_iastj (j := (m_w ((m_w (6 * a1)) + a5)).toNat) hG dX12_layGoods_25 (sk_K hsk 84 rfl) g1 rfl ?_
    refine s_iinc hG dX12_layGoods_26 (by decide) rfl rfl ?_
    refine s_goto hG 6 dX12_layGoods_29 (by decide) ?_
    cases hF
    exact hK0 _ rfl
  · replace hF := Eq.trans (if_neg c3).symm hF
    cases hF
    refine m_weak (ls1 := [some (.inr (.inr 64)), some (.inl a1), some (.inl a2), some (.inl a3), some (.inl a4), none, none]) hG ⟨rfl, ⟨rfl, ⟨rfl, ⟨rfl, ⟨rfl, trivial⟩⟩⟩⟩⟩ ?_
    exact hK1 _ rfl
theorem t_X12_layGoods_lp6 {d n0 s0 nF sF : Nat} {X : MX} {Ω : Nat → MS → Prop} {N : NN} {a1 : Int} {a2 : Int} {a3 : Int} {a4 : Int} {a5 : Int} (hsk : m_Sk X) (hd : 8 ≤ d) (hG : m_G d yX12_layGoods.cls yX12_layGoods.name cX12_layGoods 7 n0 s0 nF sF Ω) {t : (NN × Int × Int × Int × Int)} (hK1 : Ω 32 ([some (.inr (.inr 64)), some (.inl t.2.1), some (.inl t.2.2.1), some (.inl t.2.2.2.1), some (.inl t.2.2.2.2), none, none], [], t.1, X)) (hl : lp (fun s => b_X12_layGoods_6 X s.1 s.2.1 s.2.2.1 s.2.2.2.1 s.2.2.2.2.1 s.2.2.2.2.2) (N, a1, a2, a3, a4, a5) = some t) : Ω 6 ([some (.inr (.inr 64)), some (.inl a1), some (.inl a2), some (.inl a3), some (.inl a4), some (.inl a5), none], [], N, X) := by
  refine lp_ok (P := fun s => Ω 6 ([some (.inr (.inr 64)), some (.inl s.2.1), some (.inl s.2.2.1), some (.inl s.2.2.2.1), some (.inl s.2.2.2.2.1), some (.inl s.2.2.2.2.2), none], [], s.1, X)) (K := fun t => Ω 32 ([some (.inr (.inr 64)), some (.inl t.2.1), some (.inl t.2.2.1), some (.inl t.2.2.2.1), some (.inl t.2.2.2.2), none, none], [], t.1, X)) (fun s out hF hK0 hK1 => ?_) hl hK1
  exact t_X12_layGoods_b6 hsk hd hG (out := out) (fun s' e => hK0 s' e) (fun t' e => hK1 t' e) hF
theorem t_X12_layGoods_l35_j144 {d n0 s0 nF sF : Nat} {X : MX} {Ω : Nat → MS → Prop} {N : NN} {a1 : Int} {a2 : Int} {a3 : Int} {a4 : Int} {a5 : Int} (hsk : m_Sk X) (hd : 8 ≤ d) (hG : m_G d yX12_layGoods.cls yX12_layGoods.name cX12_layGoods 7 n0 s0 nF sF Ω) {out : ((NN × Int × Int × Int × Int × Int) ⊕ (NN × Int × Int))} (hK0 : ∀ s' : (NN × Int × Int × Int × Int × Int), out = .inl s' → Ω 35 ([some (.inr (.inr 64)), some (.inl (s'.2.1)), some (.inl (s'.2.2.1)), some (.inl (s'.2.2.2.1)), some (.inl (s'.2.2.2.2.1)), some (.inl (s'.2.2.2.2.2)), none], [], s'.1, X)) (hK1 : ∀ t : (NN × Int × Int), out = .inr t → Ω 150 ([some (.inr (.inr 64)), some (.inl t.2.1), some (.inl t.2.2), none, none, none, none], [], t.1, X)) (hF : f_X12_layGoods_l35_j144 X N a1 a2 a3 a4 a5 = some out) : Ω 144 ([some (.inr (.inr 64)), some (.inl a1), some (.inl a2), some (.inl a3), some (.inl a4), some (.inl a5), none], [], N, X) := by
  unfold f_X12_layGoods_l35_j144 at hF
  refine s_iinc hG dX12_layGoods_144 (by decide) rfl rfl ?_
  refine s_goto hG 35 dX12_layGoods_147 (by decide) ?_
  cases hF
  exact hK0 _ rfl
theorem t_X12_layGoods_l35_j107 {d n0 s0 nF sF : Nat} {X : MX} {Ω : Nat → MS → Prop} {N : NN} {a1 : Int} {a2 : Int} {a3 : Int} {a4 : Int} {a5 : Int} {a6 : Int} {z1 : Int} {z2 : Int} (hsk : m_Sk X) (hd : 8 ≤ d) (hG : m_G d yX12_layGoods.cls yX12_layGoods.name cX12_layGoods 7 n0 s0 nF sF Ω) {out : ((NN × Int × Int × Int × Int × Int) ⊕ (NN × Int × Int))} (hK0 : ∀ s' : (NN × Int × Int × Int × Int × Int), out = .inl s' → Ω 35 ([some (.inr (.inr 64)), some (.inl (s'.2.1)), some (.inl (s'.2.2.1)), some (.inl (s'.2.2.2.1)), some (.inl (s'.2.2.2.2.1)), some (.inl (s'.2.2.2.2.2)), none], [], s'.1, X)) (hK1 : ∀ t : (NN × Int × Int), out = .inr t → Ω 150 ([some (.inr (.inr 64)), some (.inl t.2.1), some (.inl t.2.2), none, none, none, none], [], t.1, X)) (hF : f_X12_layGoods_l35_j107 X N a1 a2 a3 a4 a5 a6 z1 z2 = some out) : Ω 107 ([some (.inr (.inr 64)), some (.inl a1), some (.inl a2), some (.inl a3), some (.inl a4), some (.inl a5), some (.inl a6)], [(.inl z2), (.inl z1), (.inr (.inr 84))], N, X) := by
  unfold f_X12_layGoods_l35_j107 at hF
  obtain ⟨g13, hF⟩ := gd_some hF
  refine s_iastj (j := z1.toNat) hG dX12_layGoods_107 (sk_K hsk 84 rfl) g13 rfl ?_
  refine s_aload_n hG dX12_layGoods_108 rfl ?_
  refine s_getr (r := 85) hG dX12_layGoods_109 fl_RX12_106 (sk_k hsk 64 rfl) rfl (sk_R hsk 64 42 rfl) ?_
  refine s_iload hG dX12_layGoods_112 rfl ?_
  refine s_aload_n hG dX12_layGoods_114 rfl ?_
  refine s_iload hG dX12_layGoods_115 rfl ?_
  refine s_iload_n hG dX12_layGoods_117 rfl ?_
  refine s_iload_n hG dX12_layGoods_118 rfl ?_
  obtain ⟨o15, ho15, hF⟩ := bd_some hF
  refine s_callV (d' := d - 1) (ci := 12) (args := [.inl a5, .inl a2, .inl a3]) hG (by omega) dX12_layGoods_119 cv_RX12_445 cw_X12_worthOf rfl rfl (sk_k hsk 64 rfl) (Nat.le_of_ble_eq_true rfl) rfl (t_X12_worthOf hsk (by omega) ho15) ?_
  obtain ⟨g16, hF⟩ := gd_some hF
  refine s_iastj (j := a6.toNat) hG dX12_layGoods_122 (sk_K hsk 85 rfl) g16 rfl ?_
  refine s_aload_n hG dX12_layGoods_123 rfl ?_
  refine s_getr (r := 86) hG dX12_layGoods_124 fl_RX12_109 (sk_k hsk 64 rfl) rfl (sk_R hsk 64 43 rfl) ?_
  refine s_iload hG dX12_layGoods_127 rfl ?_
  refine s_aload_n hG dX12_layGoods_129 rfl ?_
  refine s_iload hG dX12_layGoods_130 rfl ?_
  refine s_iload_n hG dX12_layGoods_132 rfl ?_
  refine s_aload_n hG dX12_layGoods_133 rfl ?_
  obtain ⟨o18, ho18, hF⟩ := bd_some hF
  refine s_callV (d' := d - 1) (ci := 12) (args := []) hG (by omega) dX12_layGoods_134 cv_RX12_210 cw_X12_year rfl rfl (sk_k hsk 64 rfl) (Nat.le_of_ble_eq_true rfl) rfl (t_X12_year hsk (by omega) ho18) ?_
  obtain ⟨o19, ho19, hF⟩ := bd_some hF
  refine s_callV (d' := d - 1) (ci := 12) (args := [.inl a5, .inl a3, .inl o18]) hG (by omega) dX12_layGoods_137 cv_RX12_194 cw_X12_costOf rfl rfl (sk_k hsk 64 rfl) (Nat.le_of_ble_eq_true rfl) rfl (t_X12_costOf hsk (by omega) ho19) ?_
  obtain ⟨g20, hF⟩ := gd_some hF
  refine s_iastj (j := a6.toNat) hG dX12_layGoods_140 (sk_K hsk 86 rfl) g20 rfl ?_
  refine s_iinc hG dX12_layGoods_141 (by decide) rfl rfl ?_
  refine m_weak (ls1 := [some (.inr (.inr 64)), some (.inl a1), some (.inl a2), some (.inl a3), some (.inl (m_w (a4 + 1))), some (.inl a5), none]) hG ⟨rfl, ⟨rfl, ⟨rfl, ⟨rfl, ⟨rfl, ⟨rfl, trivial⟩⟩⟩⟩⟩⟩ ?_
  exact t_X12_layGoods_l35_j144 hsk hd hG hK0 hK1 hF
theorem t_X12_layGoods_b35 {d n0 s0 nF sF : Nat} {X : MX} {Ω : Nat → MS → Prop} {N : NN} {a1 : Int} {a2 : Int} {a3 : Int} {a4 : Int} {a5 : Int} (hsk : m_Sk X) (hd : 8 ≤ d) (hG : m_G d yX12_layGoods.cls yX12_layGoods.name cX12_layGoods 7 n0 s0 nF sF Ω) {out : ((NN × Int × Int × Int × Int × Int) ⊕ (NN × Int × Int))} (hK0 : ∀ s' : (NN × Int × Int × Int × Int × Int), out = .inl s' → Ω 35 ([some (.inr (.inr 64)), some (.inl (s'.2.1)), some (.inl (s'.2.2.1)), some (.inl (s'.2.2.2.1)), some (.inl (s'.2.2.2.2.1)), some (.inl (s'.2.2.2.2.2)), none], [], s'.1, X)) (hK1 : ∀ t : (NN × Int × Int), out = .inr t → Ω 150 ([some (.inr (.inr 64)), some (.inl t.2.1), some (.inl t.2.2), none, none, none, none], [], t.1, X)) (hF : b_X12_layGoods_35 X N a1 a2 a3 a4 a5 = some out) : Ω 35 ([some (.inr (.inr 64)), some (.inl a1), some (.inl a2), some (.inl a3), some (.inl a4), some (.inl a5), none], [], N, X) := by
  unfold b_X12_layGoods_35 at hF
  refine s_iload hG dX12_layGoods_35 rfl ?_
  refine s_aload_n hG dX12_layGoods_37 rfl ?_
  refine s_getr (r := 66) hG dX12_layGoods_38 fl_RX12_13 (sk_k hsk 64 rfl) rfl (sk_R hsk 64 3 rfl) ?_
  refine s_iconst hG dX12_layGoods_41 ⟨by decide, by decide⟩ ?_
  refine s_ialdj (j := 1) hG dX12_layGoods_42 (sk_K hsk 66 rfl) ⟨by decide, by decide⟩ rfl ?_
  refine s_icmp_ge hG 150 dX12_layGoods_43 (by decide) (fun c12 => ?_) (fun c12 => ?_)
  · replace hF := Eq.trans (if_pos c12).symm hF
    refine s_iload hG dX12_layGoods_46 rfl ?_
    refine s_bipush hG dX12_layGoods_48 bp_6 ⟨by decide, by decide⟩ ?_
    refine s_icmp_ge hG 150 dX12_layGoods_50 (by decide) (fun c11 => ?_) (fun c11 => ?_)
    · replace hF := Eq.trans (if_pos c11).symm hF
      refine s_aload_n hG dX12_layGoods_53 rfl ?_
      refine s_iload hG dX12_layGoods_54 rfl ?_
      refine s_iconst hG dX12_layGoods_56 ⟨by decide, by decide⟩ ?_
      obtain ⟨o5, ho5, hF⟩ := bd_some hF
      refine s_callV (d' := d - 1) (ci := 12) (args := [.inl a5, .inl 0]) hG (by omega) dX12_layGoods_57 cv_RX12_190 cw_X12_ofGood rfl rfl (sk_k hsk 64 rfl) (Nat.le_of_ble_eq_true rfl) rfl (t_X12_ofGood hsk (by omega) ho5) ?_
      refine s_iload_n hG dX12_layGoods_60 rfl ?_
      refine s_icmp_ne hG 144 dX12_layGoods_61 (by decide) (fun c10 => ?_) (fun c10 => ?_)
      · replace hF := Eq.trans (if_pos c10).symm hF
        refine s_aload_n hG dX12_layGoods_64 rfl ?_
        refine s_iload hG dX12_layGoods_65 rfl ?_
        refine s_iconst hG dX12_layGoods_67 ⟨by decide, by decide⟩ ?_
        obtain ⟨o6, ho6, hF⟩ := bd_some hF
        refine s_callV (d' := d - 1) (ci := 12) (args := [.inl a5, .inl 1]) hG (by omega) dX12_layGoods_68 cv_RX12_190 cw_X12_ofGood rfl rfl (sk_k hsk 64 rfl) (Nat.le_of_ble_eq_true rfl) rfl (t_X12_ofGood hsk (by omega) ho6) ?_
        refine s_iload_n hG dX12_layGoods_71 rfl ?_
        refine s_icmp_ne hG 144 dX12_layGoods_72 (by decide) (fun c9 => ?_) (fun c9 => ?_)
        · replace hF := Eq.trans (if_pos c9).symm hF
          refine s_bipush hG dX12_layGoods_75 bp_6 ⟨by decide, by decide⟩ ?_
          refine s_iload_n hG dX12_layGoods_77 rfl ?_
          refine s_imul hG dX12_layGoods_78 ?_
          refine s_iload hG dX12_layGoods_79 rfl ?_
          refine s_iadd hG dX12_layGoods_81 ?_
          refine s_istore hG dX12_layGoods_82 (by decide) rfl ?_
          refine s_aload_n hG dX12_layGoods_84 rfl ?_
          refine s_getr (r := 84) hG dX12_layGoods_85 fl_RX12_103 (sk_k hsk 64 rfl) rfl (sk_R hsk 64 41 rfl) ?_
          refine s_iload hG dX12_layGoods_88 rfl ?_
          refine s_aload_n hG dX12_layGoods_90 rfl ?_
          refine s_iload hG dX12_layGoods_91 rfl ?_
          refine s_iload_n hG dX12_layGoods_93 rfl ?_
          refine s_iload_n hG dX12_layGoods_94 rfl ?_
          obtain ⟨o7, ho7, hF⟩ := bd_some hF
          refine s_callV (d' := d - 1) (ci := 12) (args := [.inl a5, .inl a2, .inl a3]) hG (by omega) dX12_layGoods_95 cv_RX12_448 cw_X12_isBarred rfl rfl (sk_k hsk 64 rfl) (Nat.le_of_ble_eq_true rfl) rfl (t_X12_isBarred hsk (by omega) ho7) ?_
          refine s_if_eq hG 105 dX12_layGoods_98 (by decide) (fun c8 => ?_) (fun c8 => ?_)
          · replace hF := Eq.trans (if_pos c8).symm hF
            refine s_iload hG dX12_layGoods_105 rfl ?_
            exact t_X12_layGoods_l35_j107 hsk hd hG hK0 hK1 hF
          · replace hF := Eq.trans (if_neg c8).symm hF
            refine s_iconst hG dX12_layGoods_101 ⟨by decide, by decide⟩ ?_
            refine s_goto hG 107 dX12_layGoods_102 (by decide) ?_
            exact t_X12_layGoods_l35_j107 hsk hd hG hK0 hK1 hF
        · replace hF := Eq.trans (if_neg c9).symm hF
          exact t_X12_layGoods_l35_j144 hsk hd hG hK0 hK1 hF
      · replace hF := Eq.trans (if_neg c10).symm hF
        exact t_X12_layGoods_l35_j144 hsk hd hG hK0 hK1 hF
    · replace hF := Eq.trans (if_neg c11).symm hF
      cases hF
      refine m_weak (ls1 := [some (.inr (.inr 64)), some (.inl a1), some (.inl a2), none, none, none, none]) hG ⟨rfl, ⟨rfl, ⟨rfl, trivial⟩⟩⟩ ?_
      exact hK1 _ rfl
  · replace hF := Eq.trans (if_neg c12).symm hF
    cases hF
    refine m_weak (ls1 := [some (.inr (.inr 64)), some (.inl a1), some (.inl a2), none, none, none, none]) hG ⟨rfl, ⟨rfl, ⟨rfl, trivial⟩⟩⟩ ?_
    exact hK1 _ rfl
theorem t_X12_layGoods_lp35 {d n0 s0 nF sF : Nat} {X : MX} {Ω : Nat → MS → Prop} {N : NN} {a1 : Int} {a2 : Int} {a3 : Int} {a4 : Int} {a5 : Int} (hsk : m_Sk X) (hd : 8 ≤ d) (hG : m_G d yX12_layGoods.cls yX12_layGoods.name cX12_layGoods 7 n0 s0 nF sF Ω) {t : (NN × Int × Int)} (hK1 : Ω 150 ([some (.inr (.inr 64)), some (.inl t.2.1), some (.inl t.2.2), none, none, none, none], [], t.1, X)) (hl : lp (fun s => b_X12_layGoods_35 X s.1 s.2.1 s.2.2.1 s.2.2.2.1 s.2.2.2.2.1 s.2.2.2.2.2) (N, a1, a2, a3, a4, a5) = some t) : Ω 35 ([some (.inr (.inr 64)), some (.inl a1), some (.inl a2), some (.inl a3), some (.inl a4), some (.inl a5), none], [], N, X) := by
  refine lp_ok (P := fun s => Ω 35 ([some (.inr (.inr 64)), some (.inl s.2.1), some (.inl s.2.2.1), some (.inl s.2.2.2.1), some (.inl s.2.2.2.2.1), some (.inl s.2.2.2.2.2), none], [], s.1, X)) (K := fun t => Ω 150 ([some (.inr (.inr 64)), some (.inl t.2.1), some (.inl t.2.2), none, none, none, none], [], t.1, X)) (fun s out hF hK0 hK1 => ?_) hl hK1
  exact t_X12_layGoods_b35 hsk hd hG (out := out) (fun s' e => hK0 s' e) (fun t' e => hK1 t' e) hF
theorem t_X12_layGoods {d : Nat} {X : MX} {N : NN} {a1 : Int} {a2 : Int} {a3 : Int} {out : NN} (hsk : m_Sk X) (hd : 8 ≤ d) (hF : f_X12_layGoods X N a1 a2 a3 = some out) : m_Call d yX12_layGoods cX12_layGoods 7 none [(.inr (.inr 64)), (.inl a1), (.inl a2), (.inl a3)] N X none out X := by
  refine m_mk (ls0 := [some (.inr (.inr 64)), some (.inl a1), some (.inl a2), some (.inl a3), none, none, none]) (by decide) rfl (Nat.le_of_ble_eq_true rfl) (Nat.le_refl _) (Nat.le_refl _) (fun Ω hE => ?_)
  have hG := hE.G
  unfold f_X12_layGoods at hF
  refine s_iconst hG dX12_layGoods_0 ⟨by decide, by decide⟩ ?_
  refine s_istore hG dX12_layGoods_1 (by decide) rfl ?_
  refine s_iconst hG dX12_layGoods_3 ⟨by decide, by decide⟩ ?_
  refine s_istore hG dX12_layGoods_4 (by decide) rfl ?_
  obtain ⟨o4, hlo4, hF⟩ := bd_some hF
  refine t_X12_layGoods_lp6 hsk hd hG ?_ hlo4
  refine s_iconst hG dX12_layGoods_32 ⟨by decide, by decide⟩ ?_
  refine s_istore hG dX12_layGoods_33 (by decide) rfl ?_
  obtain ⟨o22, hlo22, hF⟩ := bd_some hF
  refine t_X12_layGoods_lp35 hsk hd hG ?_ hlo22
  refine s_aload_n hG dX12_layGoods_150 rfl ?_
  refine s_getr (r := 88) hG dX12_layGoods_151 fl_RX12_115 (sk_k hsk 64 rfl) rfl (sk_R hsk 64 45 rfl) ?_
  refine s_iload_n hG dX12_layGoods_154 rfl ?_
  refine s_aload_n hG dX12_layGoods_155 rfl ?_
  refine s_iload_n hG dX12_layGoods_156 rfl ?_
  refine s_iconst hG dX12_layGoods_157 ⟨by decide, by decide⟩ ?_
  obtain ⟨o23, ho23, hF⟩ := bd_some hF
  refine s_callV (d' := d - 1) (ci := 12) (args := [.inl o22.2.2, .inl 0]) hG (by omega) dX12_layGoods_158 cv_RX12_204 cw_X12_ofLord rfl rfl (sk_k hsk 64 rfl) (Nat.le_of_ble_eq_true rfl) rfl (t_X12_ofLord hsk (by omega) ho23) ?_
  obtain ⟨g24, hF⟩ := gd_some hF
  refine s_iastj (j := o22.2.1.toNat) hG dX12_layGoods_161 (sk_K hsk 88 rfl) g24 rfl ?_
  cases hF
  exact s_vret hE dX12_layGoods_162 rfl
-- X12_playOf
theorem t_X12_playOf_l51_j112 {d n0 s0 nF sF : Nat} {X : MX} {N : NN} {Ω : Nat → MS → Prop} {a1 : Int} {a2 : Int} {a4 : Int} {a5 : Int} {a7 : Int} {a8 : Int} {z0 : Int} (hsk : m_Sk X) (hd : 4 ≤ d) (hG : m_G d yX12_playOf.cls yX12_playOf.name cX12_playOf 10 n0 s0 nF sF Ω) {out : ((Int × Int × Int × Int × Int × Int × Int) ⊕ (Int × Int × Int × Int × Int))} (hK0 : ∀ s' : (Int × Int × Int × Int × Int × Int × Int), out = .inl s' → Ω 51 ([some (.inr (.inr 64)), some (.inl (s'.1)), some (.inl (s'.2.1)), none, some (.inl (s'.2.2.1)), some (.inl (s'.2.2.2.1)), some (.inl (s'.2.2.2.2.1)), some (.inl (s'.2.2.2.2.2.1)), some (.inl (s'.2.2.2.2.2.2)), none], [], N, X)) (hK1 : ∀ t : (Int × Int × Int × Int × Int), out = .inr t → Ω 120 ([some (.inr (.inr 64)), some (.inl t.1), some (.inl t.2.1), none, none, some (.inl t.2.2.1), some (.inl t.2.2.2.1), some (.inl t.2.2.2.2), none, none], [], N, X)) (hF : f_X12_playOf_l51_j112 X N a1 a2 a4 a5 a7 a8 z0 = some out) : Ω 112 ([some (.inr (.inr 64)), some (.inl a1), some (.inl a2), none, some (.inl a4), some (.inl a5), none, some (.inl a7), some (.inl a8), none], [(.inl z0)], N, X) := by
  unfold f_X12_playOf_l51_j112 at hF
  refine s_istore hG dX12_playOf_112 (by decide) rfl ?_
  refine s_iinc hG dX12_playOf_114 (by decide) rfl rfl ?_
  refine s_goto hG 51 dX12_playOf_117 (by decide) ?_
  cases hF
  exact hK0 _ rfl
theorem t_X12_playOf_l51_j110 {d n0 s0 nF sF : Nat} {X : MX} {N : NN} {Ω : Nat → MS → Prop} {a1 : Int} {a2 : Int} {a4 : Int} {a5 : Int} {a6 : Int} {a7 : Int} {a8 : Int} (hsk : m_Sk X) (hd : 4 ≤ d) (hG : m_G d yX12_playOf.cls yX12_playOf.name cX12_playOf 10 n0 s0 nF sF Ω) {out : ((Int × Int × Int × Int × Int × Int × Int) ⊕ (Int × Int × Int × Int × Int))} (hK0 : ∀ s' : (Int × Int × Int × Int × Int × Int × Int), out = .inl s' → Ω 51 ([some (.inr (.inr 64)), some (.inl (s'.1)), some (.inl (s'.2.1)), none, some (.inl (s'.2.2.1)), some (.inl (s'.2.2.2.1)), some (.inl (s'.2.2.2.2.1)), some (.inl (s'.2.2.2.2.2.1)), some (.inl (s'.2.2.2.2.2.2)), none], [], N, X)) (hK1 : ∀ t : (Int × Int × Int × Int × Int), out = .inr t → Ω 120 ([some (.inr (.inr 64)), some (.inl t.1), some (.inl t.2.1), none, none, some (.inl t.2.2.1), some (.inl t.2.2.2.1), some (.inl t.2.2.2.2), none, none], [], N, X)) (hF : f_X12_playOf_l51_j110 X N a1 a2 a4 a5 a6 a7 a8 = some out) : Ω 110 ([some (.inr (.inr 64)), some (.inl a1), some (.inl a2), none, some (.inl a4), some (.inl a5), some (.inl a6), some (.inl a7), some (.inl a8), none], [], N, X) := by
  unfold f_X12_playOf_l51_j110 at hF
  refine s_iload hG dX12_playOf_110 rfl ?_
  refine m_weak (ls1 := [some (.inr (.inr 64)), some (.inl a1), some (.inl a2), none, some (.inl a4), some (.inl a5), none, some (.inl a7), some (.inl a8), none]) hG ⟨rfl, ⟨rfl, ⟨rfl, ⟨rfl, ⟨rfl, ⟨rfl, ⟨rfl, trivial⟩⟩⟩⟩⟩⟩⟩ ?_
  exact t_X12_playOf_l51_j112 hsk hd hG hK0 hK1 hF
theorem t_X12_playOf_l51_j86 {d n0 s0 nF sF : Nat} {X : MX} {N : NN} {Ω : Nat → MS → Prop} {a1 : Int} {a2 : Int} {a4 : Int} {a5 : Int} {a6 : Int} {a8 : Int} {a9 : Int} {z0 : Int} (hsk : m_Sk X) (hd : 4 ≤ d) (hG : m_G d yX12_playOf.cls yX12_playOf.name cX12_playOf 10 n0 s0 nF sF Ω) {out : ((Int × Int × Int × Int × Int × Int × Int) ⊕ (Int × Int × Int × Int × Int))} (hK0 : ∀ s' : (Int × Int × Int × Int × Int × Int × Int), out = .inl s' → Ω 51 ([some (.inr (.inr 64)), some (.inl (s'.1)), some (.inl (s'.2.1)), none, some (.inl (s'.2.2.1)), some (.inl (s'.2.2.2.1)), some (.inl (s'.2.2.2.2.1)), some (.inl (s'.2.2.2.2.2.1)), some (.inl (s'.2.2.2.2.2.2)), none], [], N, X)) (hK1 : ∀ t : (Int × Int × Int × Int × Int), out = .inr t → Ω 120 ([some (.inr (.inr 64)), some (.inl t.1), some (.inl t.2.1), none, none, some (.inl t.2.2.1), some (.inl t.2.2.2.1), some (.inl t.2.2.2.2), none, none], [], N, X)) (hF : f_X12_playOf_l51_j86 X N a1 a2 a4 a5 a6 a8 a9 z0 = some out) : Ω 86 ([some (.inr (.inr 64)), some (.inl a1), some (.inl a2), none, some (.inl a4), some (.inl a5), some (.inl a6), none, some (.inl a8), some (.inl a9)], [(.inl z0)], N, X) := by
  unfold f_X12_playOf_l51_j86 at hF
  refine s_istore hG dX12_playOf_86 (by decide) rfl ?_
  refine s_iload hG dX12_playOf_88 rfl ?_
  refine s_if_eq hG 110 dX12_playOf_90 (by decide) (fun c9 => ?_) (fun c9 => ?_)
  · replace hF := Eq.trans (if_pos c9).symm hF
    refine m_weak (ls1 := [some (.inr (.inr 64)), some (.inl a1), some (.inl a2), none, some (.inl a4), some (.inl a5), some (.inl a6), some (.inl z0), some (.inl a8), none]) hG ⟨rfl, ⟨rfl, ⟨rfl, ⟨rfl, ⟨rfl, ⟨rfl, ⟨rfl, ⟨rfl, trivial⟩⟩⟩⟩⟩⟩⟩⟩ ?_
    exact t_X12_playOf_l51_j110 hsk hd hG hK0 hK1 hF
  · replace hF := Eq.trans (if_neg c9).symm hF
    refine s_aload_n hG dX12_playOf_93 rfl ?_
    refine s_iload_n hG dX12_playOf_94 rfl ?_
    refine s_iload hG dX12_playOf_95 rfl ?_
    refine s_iload hG dX12_playOf_97 rfl ?_
    obtain ⟨o7, ho7, hF⟩ := bd_some hF
    refine s_callV (d' := d - 1) (ci := 12) (args := [.inl a1, .inl a5, .inl a8]) hG (by omega) dX12_playOf_99 cv_RX12_496 cw_X12_isWon rfl rfl (sk_k hsk 64 rfl) (Nat.le_of_ble_eq_true rfl) rfl (t_X12_isWon hsk (by omega) ho7) ?_
    refine s_if_eq hG 110 dX12_playOf_102 (by decide) (fun c8 => ?_) (fun c8 => ?_)
    · replace hF := Eq.trans (if_pos c8).symm hF
      refine m_weak (ls1 := [some (.inr (.inr 64)), some (.inl a1), some (.inl a2), none, some (.inl a4), some (.inl a5), some (.inl a6), some (.inl z0), some (.inl a8), none]) hG ⟨rfl, ⟨rfl, ⟨rfl, ⟨rfl, ⟨rfl, ⟨rfl, ⟨rfl, ⟨rfl, trivial⟩⟩⟩⟩⟩⟩⟩⟩ ?_
      exact t_X12_playOf_l51_j110 hsk hd hG hK0 hK1 hF
    · replace hF := Eq.trans (if_neg c8).symm hF
      refine s_iload hG dX12_playOf_105 rfl ?_
      refine s_goto hG 112 dX12_playOf_107 (by decide) ?_
      refine m_weak (ls1 := [some (.inr (.inr 64)), some (.inl a1), some (.inl a2), none, some (.inl a4), some (.inl a5), none, some (.inl z0), some (.inl a8), none]) hG ⟨rfl, ⟨rfl, ⟨rfl, ⟨rfl, ⟨rfl, ⟨rfl, ⟨rfl, trivial⟩⟩⟩⟩⟩⟩⟩ ?_
      exact t_X12_playOf_l51_j112 hsk hd hG hK0 hK1 hF
theorem t_X12_playOf_b51 {d n0 s0 nF sF : Nat} {X : MX} {N : NN} {Ω : Nat → MS → Prop} {a1 : Int} {a2 : Int} {a4 : Int} {a5 : Int} {a6 : Int} {a7 : Int} {a8 : Int} (hsk : m_Sk X) (hd : 4 ≤ d) (hG : m_G d yX12_playOf.cls yX12_playOf.name cX12_playOf 10 n0 s0 nF sF Ω) {out : ((Int × Int × Int × Int × Int × Int × Int) ⊕ (Int × Int × Int × Int × Int))} (hK0 : ∀ s' : (Int × Int × Int × Int × Int × Int × Int), out = .inl s' → Ω 51 ([some (.inr (.inr 64)), some (.inl (s'.1)), some (.inl (s'.2.1)), none, some (.inl (s'.2.2.1)), some (.inl (s'.2.2.2.1)), some (.inl (s'.2.2.2.2.1)), some (.inl (s'.2.2.2.2.2.1)), some (.inl (s'.2.2.2.2.2.2)), none], [], N, X)) (hK1 : ∀ t : (Int × Int × Int × Int × Int), out = .inr t → Ω 120 ([some (.inr (.inr 64)), some (.inl t.1), some (.inl t.2.1), none, none, some (.inl t.2.2.1), some (.inl t.2.2.2.1), some (.inl t.2.2.2.2), none, none], [], N, X)) (hF : b_X12_playOf_51 X N a1 a2 a4 a5 a6 a7 a8 = some out) : Ω 51 ([some (.inr (.inr 64)), some (.inl a1), some (.inl a2), none, some (.inl a4), some (.inl a5), some (.inl a6), some (.inl a7), some (.inl a8), none], [], N, X) := by
  unfold b_X12_playOf_51 at hF
  refine s_iload hG dX12_playOf_51 rfl ?_
  refine s_bipush hG dX12_playOf_53 bp_6 ⟨by decide, by decide⟩ ?_
  refine s_iload hG dX12_playOf_55 rfl ?_
  refine s_imul hG dX12_playOf_57 ?_
  refine s_icmp_lt hG 120 dX12_playOf_58 (by decide) (fun c6 => ?_) (fun c6 => ?_)
  · replace hF := Eq.trans (if_pos c6).symm hF
    cases hF
    refine m_weak (ls1 := [some (.inr (.inr 64)), some (.inl a1), some (.inl a2), none, none, some (.inl a5), some (.inl a6), some (.inl a7), none, none]) hG ⟨rfl, ⟨rfl, ⟨rfl, ⟨rfl, ⟨rfl, ⟨rfl, trivial⟩⟩⟩⟩⟩⟩ ?_
    exact hK1 _ rfl
  · replace hF := Eq.trans (if_neg c6).symm hF
    refine s_aload_n hG dX12_playOf_61 rfl ?_
    refine s_iload_n hG dX12_playOf_62 rfl ?_
    refine s_iload hG dX12_playOf_63 rfl ?_
    refine s_iload hG dX12_playOf_65 rfl ?_
    refine s_iload hG dX12_playOf_67 rfl ?_
    obtain ⟨o4, ho4, hF⟩ := bd_some hF
    refine s_callV (d' := d - 1) (ci := 12) (args := [.inl a1, .inl a4, .inl a5, .inl a8]) hG (by omega) dX12_playOf_69 cv_RX12_492 cw_X12_canGive rfl rfl (sk_k hsk 64 rfl) (Nat.le_of_ble_eq_true rfl) rfl (t_X12_canGive hsk (by omega) ho4) ?_
    refine s_istore hG dX12_playOf_72 (by decide) rfl ?_
    refine s_iload hG dX12_playOf_74 rfl ?_
    refine s_if_eq hG 84 dX12_playOf_76 (by decide) (fun c5 => ?_) (fun c5 => ?_)
    · replace hF := Eq.trans (if_pos c5).symm hF
      refine s_iload hG dX12_playOf_84 rfl ?_
      refine m_weak (ls1 := [some (.inr (.inr 64)), some (.inl a1), some (.inl a2), none, some (.inl a4), some (.inl a5), some (.inl a6), none, some (.inl a8), some (.inl o4)]) hG ⟨rfl, ⟨rfl, ⟨rfl, ⟨rfl, ⟨rfl, ⟨rfl, ⟨rfl, ⟨rfl, trivial⟩⟩⟩⟩⟩⟩⟩⟩ ?_
      exact t_X12_playOf_l51_j86 hsk hd hG hK0 hK1 hF
    · replace hF := Eq.trans (if_neg c5).symm hF
      refine s_iload hG dX12_playOf_79 rfl ?_
      refine s_goto hG 86 dX12_playOf_81 (by decide) ?_
      refine m_weak (ls1 := [some (.inr (.inr 64)), some (.inl a1), some (.inl a2), none, some (.inl a4), some (.inl a5), some (.inl a6), none, some (.inl a8), some (.inl o4)]) hG ⟨rfl, ⟨rfl, ⟨rfl, ⟨rfl, ⟨rfl, ⟨rfl, ⟨rfl, ⟨rfl, trivial⟩⟩⟩⟩⟩⟩⟩⟩ ?_
      exact t_X12_playOf_l51_j86 hsk hd hG hK0 hK1 hF
theorem t_X12_playOf_lp51 {d n0 s0 nF sF : Nat} {X : MX} {N : NN} {Ω : Nat → MS → Prop} {a1 : Int} {a2 : Int} {a4 : Int} {a5 : Int} {a6 : Int} {a7 : Int} {a8 : Int} (hsk : m_Sk X) (hd : 4 ≤ d) (hG : m_G d yX12_playOf.cls yX12_playOf.name cX12_playOf 10 n0 s0 nF sF Ω) {t : (Int × Int × Int × Int × Int)} (hK1 : Ω 120 ([some (.inr (.inr 64)), some (.inl t.1), some (.inl t.2.1), none, none, some (.inl t.2.2.1), some (.inl t.2.2.2.1), some (.inl t.2.2.2.2), none, none], [], N, X)) (hl : lp (fun s => b_X12_playOf_51 X N s.1 s.2.1 s.2.2.1 s.2.2.2.1 s.2.2.2.2.1 s.2.2.2.2.2.1 s.2.2.2.2.2.2) (a1, a2, a4, a5, a6, a7, a8) = some t) : Ω 51 ([some (.inr (.inr 64)), some (.inl a1), some (.inl a2), none, some (.inl a4), some (.inl a5), some (.inl a6), some (.inl a7), some (.inl a8), none], [], N, X) := by
  refine lp_ok (P := fun s => Ω 51 ([some (.inr (.inr 64)), some (.inl s.1), some (.inl s.2.1), none, some (.inl s.2.2.1), some (.inl s.2.2.2.1), some (.inl s.2.2.2.2.1), some (.inl s.2.2.2.2.2.1), some (.inl s.2.2.2.2.2.2), none], [], N, X)) (K := fun t => Ω 120 ([some (.inr (.inr 64)), some (.inl t.1), some (.inl t.2.1), none, none, some (.inl t.2.2.1), some (.inl t.2.2.2.1), some (.inl t.2.2.2.2), none, none], [], N, X)) (fun s out hF hK0 hK1 => ?_) hl hK1
  exact t_X12_playOf_b51 hsk hd hG (out := out) (fun s' e => hK0 s' e) (fun t' e => hK1 t' e) hF
theorem t_X12_playOf_l6_j195 {d n0 s0 nF sF : Nat} {X : MX} {N : NN} {Ω : Nat → MS → Prop} {a2 : Int} {a3 : Int} {z0 : Int} {z1 : Int} (hsk : m_Sk X) (hd : 4 ≤ d) (hG : m_G d yX12_playOf.cls yX12_playOf.name cX12_playOf 10 n0 s0 nF sF Ω) {out : ((Int × Int × Int) ⊕ Int)} (hK0 : ∀ s' : (Int × Int × Int), out = .inl s' → Ω 6 ([some (.inr (.inr 64)), some (.inl (s'.1)), some (.inl (s'.2.1)), some (.inl (s'.2.2)), none, none, none, none, none, none], [], N, X)) (hK1 : ∀ t : Int, out = .inr t → Ω 200 ([none, none, some (.inl t), none, none, none, none, none, none, none], [], N, X)) (hF : f_X12_playOf_l6_j195 X N a2 a3 z0 z1 = some out) : Ω 195 ([some (.inr (.inr 64)), none, some (.inl a2), some (.inl a3), none, none, none, none, none, none], [(.inl z1), (.inl z0)], N, X) := by
  unfold f_X12_playOf_l6_j195 at hF
  refine s_ior hG dX12_playOf_195 ?_
  refine s_istore_n hG dX12_playOf_196 (by decide) rfl ?_
  refine s_goto hG 6 dX12_playOf_197 (by decide) ?_
  cases hF
  exact hK0 _ rfl
theorem t_X12_playOf_l6_j178 {d n0 s0 nF sF : Nat} {X : MX} {N : NN} {Ω : Nat → MS → Prop} {a1 : Int} {a3 : Int} {a6 : Int} {z0 : Int} {z1 : Int} (hsk : m_Sk X) (hd : 4 ≤ d) (hG : m_G d yX12_playOf.cls yX12_playOf.name cX12_playOf 10 n0 s0 nF sF Ω) {out : ((Int × Int × Int) ⊕ Int)} (hK0 : ∀ s' : (Int × Int × Int), out = .inl s' → Ω 6 ([some (.inr (.inr 64)), some (.inl (s'.1)), some (.inl (s'.2.1)), some (.inl (s'.2.2)), none, none, none, none, none, none], [], N, X)) (hK1 : ∀ t : Int, out = .inr t → Ω 200 ([none, none, some (.inl t), none, none, none, none, none, none, none], [], N, X)) (hF : f_X12_playOf_l6_j178 X N a1 a3 a6 z0 z1 = some out) : Ω 178 ([some (.inr (.inr 64)), some (.inl a1), none, some (.inl a3), none, none, some (.inl a6), none, none, none], [(.inl z1), (.inl z0)], N, X) := by
  unfold f_X12_playOf_l6_j178 at hF
  refine s_iadd hG dX12_playOf_178 ?_
  refine s_istore_n hG dX12_playOf_179 (by decide) rfl ?_
  refine s_iload_n hG dX12_playOf_180 rfl ?_
  refine s_iload hG dX12_playOf_181 rfl ?_
  refine s_iconst hG dX12_playOf_183 ⟨by decide, by decide⟩ ?_
  refine s_icmp_ne hG 191 dX12_playOf_184 (by decide) (fun c17 => ?_) (fun c17 => ?_)
  · replace hF := Eq.trans (if_pos c17).symm hF
    refine s_iconst hG dX12_playOf_187 ⟨by decide, by decide⟩ ?_
    refine s_goto hG 195 dX12_playOf_188 (by decide) ?_
    refine m_weak (ls1 := [some (.inr (.inr 64)), none, some (.inl (m_w (z0 + z1))), some (.inl a3), none, none, none, none, none, none]) hG ⟨rfl, ⟨rfl, ⟨rfl, trivial⟩⟩⟩ ?_
    exact t_X12_playOf_l6_j195 hsk hd hG hK0 hK1 hF
  · replace hF := Eq.trans (if_neg c17).symm hF
    refine s_iconst hG dX12_playOf_191 ⟨by decide, by decide⟩ ?_
    refine s_iload hG dX12_playOf_192 rfl ?_
    refine s_ishl hG dX12_playOf_194 ?_
    refine m_weak (ls1 := [some (.inr (.inr 64)), none, some (.inl (m_w (z0 + z1))), some (.inl a3), none, none, none, none, none, none]) hG ⟨rfl, ⟨rfl, ⟨rfl, trivial⟩⟩⟩ ?_
    exact t_X12_playOf_l6_j195 hsk hd hG hK0 hK1 hF
theorem t_X12_playOf_l6_j165 {d n0 s0 nF sF : Nat} {X : MX} {N : NN} {Ω : Nat → MS → Prop} {a1 : Int} {a2 : Int} {a6 : Int} {z0 : Int} (hsk : m_Sk X) (hd : 4 ≤ d) (hG : m_G d yX12_playOf.cls yX12_playOf.name cX12_playOf 10 n0 s0 nF sF Ω) {out : ((Int × Int × Int) ⊕ Int)} (hK0 : ∀ s' : (Int × Int × Int), out = .inl s' → Ω 6 ([some (.inr (.inr 64)), some (.inl (s'.1)), some (.inl (s'.2.1)), some (.inl (s'.2.2)), none, none, none, none, none, none], [], N, X)) (hK1 : ∀ t : Int, out = .inr t → Ω 200 ([none, none, some (.inl t), none, none, none, none, none, none, none], [], N, X)) (hF : f_X12_playOf_l6_j165 X N a1 a2 a6 z0 = some out) : Ω 165 ([some (.inr (.inr 64)), some (.inl a1), some (.inl a2), none, none, none, some (.inl a6), none, none, none], [(.inl z0)], N, X) := by
  unfold f_X12_playOf_l6_j165 at hF
  refine s_istore_n hG dX12_playOf_165 (by decide) rfl ?_
  refine s_iload_n hG dX12_playOf_166 rfl ?_
  refine s_iload hG dX12_playOf_167 rfl ?_
  refine s_iconst hG dX12_playOf_169 ⟨by decide, by decide⟩ ?_
  refine s_icmp_ne hG 177 dX12_playOf_170 (by decide) (fun c16 => ?_) (fun c16 => ?_)
  · replace hF := Eq.trans (if_pos c16).symm hF
    refine s_iconst hG dX12_playOf_173 ⟨by decide, by decide⟩ ?_
    refine s_goto hG 178 dX12_playOf_174 (by decide) ?_
    refine m_weak (ls1 := [some (.inr (.inr 64)), some (.inl a1), none, some (.inl z0), none, none, some (.inl a6), none, none, none]) hG ⟨rfl, ⟨rfl, ⟨rfl, ⟨rfl, trivial⟩⟩⟩⟩ ?_
    exact t_X12_playOf_l6_j178 hsk hd hG hK0 hK1 hF
  · replace hF := Eq.trans (if_neg c16).symm hF
    refine s_iconst hG dX12_playOf_177 ⟨by decide, by decide⟩ ?_
    refine m_weak (ls1 := [some (.inr (.inr 64)), some (.inl a1), none, some (.inl z0), none, none, some (.inl a6), none, none, none]) hG ⟨rfl, ⟨rfl, ⟨rfl, ⟨rfl, trivial⟩⟩⟩⟩ ?_
    exact t_X12_playOf_l6_j178 hsk hd hG hK0 hK1 hF
theorem t_X12_playOf_l6_j164 {d n0 s0 nF sF : Nat} {X : MX} {N : NN} {Ω : Nat → MS → Prop} {a1 : Int} {a2 : Int} {a6 : Int} (hsk : m_Sk X) (hd : 4 ≤ d) (hG : m_G d yX12_playOf.cls yX12_playOf.name cX12_playOf 10 n0 s0 nF sF Ω) {out : ((Int × Int × Int) ⊕ Int)} (hK0 : ∀ s' : (Int × Int × Int), out = .inl s' → Ω 6 ([some (.inr (.inr 64)), some (.inl (s'.1)), some (.inl (s'.2.1)), some (.inl (s'.2.2)), none, none, none, none, none, none], [], N, X)) (hK1 : ∀ t : Int, out = .inr t → Ω 200 ([none, none, some (.inl t), none, none, none, none, none, none, none], [], N, X)) (hF : f_X12_playOf_l6_j164 X N a1 a2 a6 = some out) : Ω 164 ([some (.inr (.inr 64)), some (.inl a1), some (.inl a2), none, none, none, some (.inl a6), none, none, none], [], N, X) := by
  unfold f_X12_playOf_l6_j164 at hF
  refine s_iconst hG dX12_playOf_164 ⟨by decide, by decide⟩ ?_
  exact t_X12_playOf_l6_j165 hsk hd hG hK0 hK1 hF
theorem t_X12_playOf_l6_j133 {d n0 s0 nF sF : Nat} {X : MX} {N : NN} {Ω : Nat → MS → Prop} {a1 : Int} {a2 : Int} {a5 : Int} {z0 : Int} (hsk : m_Sk X) (hd : 4 ≤ d) (hG : m_G d yX12_playOf.cls yX12_playOf.name cX12_playOf 10 n0 s0 nF sF Ω) {out : ((Int × Int × Int) ⊕ Int)} (hK0 : ∀ s' : (Int × Int × Int), out = .inl s' → Ω 6 ([some (.inr (.inr 64)), some (.inl (s'.1)), some (.inl (s'.2.1)), some (.inl (s'.2.2)), none, none, none, none, none, none], [], N, X)) (hK1 : ∀ t : Int, out = .inr t → Ω 200 ([none, none, some (.inl t), none, none, none, none, none, none, none], [], N, X)) (hF : f_X12_playOf_l6_j133 X N a1 a2 a5 z0 = some out) : Ω 133 ([some (.inr (.inr 64)), some (.inl a1), some (.inl a2), none, none, some (.inl a5), none, none, none, none], [(.inl z0)], N, X) := by
  unfold f_X12_playOf_l6_j133 at hF
  refine s_istore hG dX12_playOf_133 (by decide) rfl ?_
  refine s_iload hG dX12_playOf_135 rfl ?_
  refine s_iconst hG dX12_playOf_137 ⟨by decide, by decide⟩ ?_
  refine s_icmp_eq hG 164 dX12_playOf_138 (by decide) (fun c15 => ?_) (fun c15 => ?_)
  · replace hF := Eq.trans (if_pos c15).symm hF
    refine m_weak (ls1 := [some (.inr (.inr 64)), some (.inl a1), some (.inl a2), none, none, none, some (.inl z0), none, none, none]) hG ⟨rfl, ⟨rfl, ⟨rfl, ⟨rfl, trivial⟩⟩⟩⟩ ?_
    exact t_X12_playOf_l6_j164 hsk hd hG hK0 hK1 hF
  · replace hF := Eq.trans (if_neg c15).symm hF
    refine s_aload_n hG dX12_playOf_141 rfl ?_
    refine s_iload_n hG dX12_playOf_142 rfl ?_
    refine s_iconst hG dX12_playOf_143 ⟨by decide, by decide⟩ ?_
    refine s_iload hG dX12_playOf_144 rfl ?_
    refine s_isub hG dX12_playOf_146 ?_
    obtain ⟨o12, ho12, hF⟩ := bd_some hF
    refine s_callV (d' := d - 1) (ci := 12) (args := [.inl a1, .inl (m_w (1 - a5))]) hG (by omega) dX12_playOf_147 cv_RX12_486 cw_X12_grainLeft rfl rfl (sk_k hsk 64 rfl) (Nat.le_of_ble_eq_true rfl) rfl (t_X12_grainLeft hsk (by omega) ho12) ?_
    refine s_aload_n hG dX12_playOf_150 rfl ?_
    refine s_getr (r := 86) hG dX12_playOf_151 fl_RX12_109 (sk_k hsk 64 rfl) rfl (sk_R hsk 64 43 rfl) ?_
    refine s_iload hG dX12_playOf_154 rfl ?_
    obtain ⟨g13, hF⟩ := gd_some hF
    refine s_ialdj (j := z0.toNat) hG dX12_playOf_156 (sk_K hsk 86 rfl) g13 rfl ?_
    refine s_icmp_lt hG 164 dX12_playOf_157 (by decide) (fun c14 => ?_) (fun c14 => ?_)
    · replace hF := Eq.trans (if_pos c14).symm hF
      refine m_weak (ls1 := [some (.inr (.inr 64)), some (.inl a1), some (.inl a2), none, none, none, some (.inl z0), none, none, none]) hG ⟨rfl, ⟨rfl, ⟨rfl, ⟨rfl, trivial⟩⟩⟩⟩ ?_
      exact t_X12_playOf_l6_j164 hsk hd hG hK0 hK1 hF
    · replace hF := Eq.trans (if_neg c14).symm hF
      refine s_iconst hG dX12_playOf_160 ⟨by decide, by decide⟩ ?_
      refine s_goto hG 165 dX12_playOf_161 (by decide) ?_
      refine m_weak (ls1 := [some (.inr (.inr 64)), some (.inl a1), some (.inl a2), none, none, none, some (.inl z0), none, none, none]) hG ⟨rfl, ⟨rfl, ⟨rfl, ⟨rfl, trivial⟩⟩⟩⟩ ?_
      exact t_X12_playOf_l6_j165 hsk hd hG hK0 hK1 hF
theorem t_X12_playOf_l6_j34 {d n0 s0 nF sF : Nat} {X : MX} {N : NN} {Ω : Nat → MS → Prop} {a1 : Int} {a2 : Int} {a4 : Int} {z0 : Int} (hsk : m_Sk X) (hd : 4 ≤ d) (hG : m_G d yX12_playOf.cls yX12_playOf.name cX12_playOf 10 n0 s0 nF sF Ω) {out : ((Int × Int × Int) ⊕ Int)} (hK0 : ∀ s' : (Int × Int × Int), out = .inl s' → Ω 6 ([some (.inr (.inr 64)), some (.inl (s'.1)), some (.inl (s'.2.1)), some (.inl (s'.2.2)), none, none, none, none, none, none], [], N, X)) (hK1 : ∀ t : Int, out = .inr t → Ω 200 ([none, none, some (.inl t), none, none, none, none, none, none, none], [], N, X)) (hF : f_X12_playOf_l6_j34 X N a1 a2 a4 z0 = some out) : Ω 34 ([some (.inr (.inr 64)), some (.inl a1), some (.inl a2), none, some (.inl a4), none, none, none, none, none], [(.inl z0)], N, X) := by
  unfold f_X12_playOf_l6_j34 at hF
  refine s_istore hG dX12_playOf_34 (by decide) rfl ?_
  refine s_iconst hG dX12_playOf_36 ⟨by decide, by decide⟩ ?_
  refine s_istore hG dX12_playOf_37 (by decide) rfl ?_
  refine s_iconst hG dX12_playOf_39 ⟨by decide, by decide⟩ ?_
  refine s_istore hG dX12_playOf_40 (by decide) rfl ?_
  refine s_bipush hG dX12_playOf_42 bp_6 ⟨by decide, by decide⟩ ?_
  refine s_iload hG dX12_playOf_44 rfl ?_
  refine s_imul hG dX12_playOf_46 ?_
  refine s_iconst hG dX12_playOf_47 ⟨by decide, by decide⟩ ?_
  refine s_iadd hG dX12_playOf_48 ?_
  refine s_istore hG dX12_playOf_49 (by decide) rfl ?_
  obtain ⟨o10, hlo10, hF⟩ := bd_some hF
  refine t_X12_playOf_lp51 hsk hd hG ?_ hlo10
  refine s_iload hG dX12_playOf_120 rfl ?_
  refine s_iconst hG dX12_playOf_122 ⟨by decide, by decide⟩ ?_
  refine s_icmp_ne hG 131 dX12_playOf_123 (by decide) (fun c11 => ?_) (fun c11 => ?_)
  · replace hF := Eq.trans (if_pos c11).symm hF
    refine s_iload hG dX12_playOf_126 rfl ?_
    refine s_goto hG 133 dX12_playOf_128 (by decide) ?_
    refine m_weak (ls1 := [some (.inr (.inr 64)), some (.inl o10.1), some (.inl o10.2.1), none, none, some (.inl o10.2.2.1), none, none, none, none]) hG ⟨rfl, ⟨rfl, ⟨rfl, ⟨rfl, trivial⟩⟩⟩⟩ ?_
    exact t_X12_playOf_l6_j133 hsk hd hG hK0 hK1 hF
  · replace hF := Eq.trans (if_neg c11).symm hF
    refine s_iload hG dX12_playOf_131 rfl ?_
    refine m_weak (ls1 := [some (.inr (.inr 64)), some (.inl o10.1), some (.inl o10.2.1), none, none, some (.inl o10.2.2.1), none, none, none, none]) hG ⟨rfl, ⟨rfl, ⟨rfl, ⟨rfl, trivial⟩⟩⟩⟩ ?_
    exact t_X12_playOf_l6_j133 hsk hd hG hK0 hK1 hF
theorem t_X12_playOf_b6 {d n0 s0 nF sF : Nat} {X : MX} {N : NN} {Ω : Nat → MS → Prop} {a1 : Int} {a2 : Int} {a3 : Int} (hsk : m_Sk X) (hd : 4 ≤ d) (hG : m_G d yX12_playOf.cls yX12_playOf.name cX12_playOf 10 n0 s0 nF sF Ω) {out : ((Int × Int × Int) ⊕ Int)} (hK0 : ∀ s' : (Int × Int × Int), out = .inl s' → Ω 6 ([some (.inr (.inr 64)), some (.inl (s'.1)), some (.inl (s'.2.1)), some (.inl (s'.2.2)), none, none, none, none, none, none], [], N, X)) (hK1 : ∀ t : Int, out = .inr t → Ω 200 ([none, none, some (.inl t), none, none, none, none, none, none, none], [], N, X)) (hF : b_X12_playOf_6 X N a1 a2 a3 = some out) : Ω 6 ([some (.inr (.inr 64)), some (.inl a1), some (.inl a2), some (.inl a3), none, none, none, none, none, none], [], N, X) := by
  unfold b_X12_playOf_6 at hF
  refine s_iload_n hG dX12_playOf_6 rfl ?_
  refine s_if_eq hG 200 dX12_playOf_7 (by decide) (fun c3 => ?_) (fun c3 => ?_)
  · replace hF := Eq.trans (if_pos c3).symm hF
    cases hF
    refine m_weak (ls1 := [none, none, some (.inl a2), none, none, none, none, none, none, none]) hG ⟨rfl, trivial⟩ ?_
    exact hK1 _ rfl
  · replace hF := Eq.trans (if_neg c3).symm hF
    refine s_aload_n hG dX12_playOf_10 rfl ?_
    refine s_iload_n hG dX12_playOf_11 rfl ?_
    obtain ⟨o1, ho1, hF⟩ := bd_some hF
    refine s_callV (d' := d - 1) (ci := 12) (args := [.inl a1]) hG (by omega) dX12_playOf_12 cv_RX12_489 cw_X12_lastOf rfl rfl (sk_k hsk 64 rfl) (Nat.le_of_ble_eq_true rfl) rfl (t_X12_lastOf hsk (by omega) ho1) ?_
    refine s_istore hG dX12_playOf_15 (by decide) rfl ?_
    refine s_iload hG dX12_playOf_17 rfl ?_
    refine s_iconst hG dX12_playOf_19 ⟨by decide, by decide⟩ ?_
    refine s_icmp_ne hG 27 dX12_playOf_20 (by decide) (fun c2 => ?_) (fun c2 => ?_)
    · replace hF := Eq.trans (if_pos c2).symm hF
      refine s_iconst hG dX12_playOf_23 ⟨by decide, by decide⟩ ?_
      refine s_goto hG 34 dX12_playOf_24 (by decide) ?_
      refine m_weak (ls1 := [some (.inr (.inr 64)), some (.inl a1), some (.inl a2), none, some (.inl o1), none, none, none, none, none]) hG ⟨rfl, ⟨rfl, ⟨rfl, ⟨rfl, trivial⟩⟩⟩⟩ ?_
      exact t_X12_playOf_l6_j34 hsk hd hG hK0 hK1 hF
    · replace hF := Eq.trans (if_neg c2).symm hF
      refine s_iconst hG dX12_playOf_27 ⟨by decide, by decide⟩ ?_
      refine s_iload hG dX12_playOf_28 rfl ?_
      refine s_bipush hG dX12_playOf_30 bp_6 ⟨by decide, by decide⟩ ?_
      refine s_idiv hG dX12_playOf_32 (by decide) ?_
      refine s_isub hG dX12_playOf_33 ?_
      refine m_weak (ls1 := [some (.inr (.inr 64)), some (.inl a1), some (.inl a2), none, some (.inl o1), none, none, none, none, none]) hG ⟨rfl, ⟨rfl, ⟨rfl, ⟨rfl, trivial⟩⟩⟩⟩ ?_
      exact t_X12_playOf_l6_j34 hsk hd hG hK0 hK1 hF
theorem t_X12_playOf_lp6 {d n0 s0 nF sF : Nat} {X : MX} {N : NN} {Ω : Nat → MS → Prop} {a1 : Int} {a2 : Int} {a3 : Int} (hsk : m_Sk X) (hd : 4 ≤ d) (hG : m_G d yX12_playOf.cls yX12_playOf.name cX12_playOf 10 n0 s0 nF sF Ω) {t : Int} (hK1 : Ω 200 ([none, none, some (.inl t), none, none, none, none, none, none, none], [], N, X)) (hl : lp (fun s => b_X12_playOf_6 X N s.1 s.2.1 s.2.2) (a1, a2, a3) = some t) : Ω 6 ([some (.inr (.inr 64)), some (.inl a1), some (.inl a2), some (.inl a3), none, none, none, none, none, none], [], N, X) := by
  refine lp_ok (P := fun s => Ω 6 ([some (.inr (.inr 64)), some (.inl s.1), some (.inl s.2.1), some (.inl s.2.2), none, none, none, none, none, none], [], N, X)) (K := fun t => Ω 200 ([none, none, some (.inl t), none, none, none, none, none, none, none], [], N, X)) (fun s out hF hK0 hK1 => ?_) hl hK1
  exact t_X12_playOf_b6 hsk hd hG (out := out) (fun s' e => hK0 s' e) (fun t' e => hK1 t' e) hF
theorem t_X12_playOf {d : Nat} {X : MX} {N : NN} {out : Int} (hsk : m_Sk X) (hd : 4 ≤ d) (hF : f_X12_playOf X N = some out) : m_Call d yX12_playOf cX12_playOf 10 (some .int) [(.inr (.inr 64))] N X (some (.inl out)) N X := by
  refine m_mk (ls0 := [some (.inr (.inr 64)), none, none, none, none, none, none, none, none, none]) (by decide) rfl (Nat.le_of_ble_eq_true rfl) (Nat.le_refl _) (Nat.le_refl _) (fun Ω hE => ?_)
  have hG := hE.G
  unfold f_X12_playOf at hF
  refine s_iconst hG dX12_playOf_0 ⟨by decide, by decide⟩ ?_
  refine s_istore_n hG dX12_playOf_1 (by decide) rfl ?_
  refine s_iconst hG dX12_playOf_2 ⟨by decide, by decide⟩ ?_
  refine s_istore_n hG dX12_playOf_3 (by decide) rfl ?_
  refine s_iconst hG dX12_playOf_4 ⟨by decide, by decide⟩ ?_
  refine s_istore_n hG dX12_playOf_5 (by decide) rfl ?_
  obtain ⟨o18, hlo18, hF⟩ := bd_some hF
  refine t_X12_playOf_lp6 hsk hd hG ?_ hlo18
  refine s_iload_n hG dX12_playOf_200 rfl ?_
  cases hF
  exact s_iret hE dX12_playOf_201 rfl
-- X12_duel
theorem t_X12_duel_l96_j136 {d n0 s0 nF sF : Nat} {X : MX} {Ω : Nat → MS → Prop} {N : NN} {a3 : Int} {a4 : Int} {a5 : Int} {a6 : Int} (hsk : m_Sk X) (hd : 9 ≤ d) (hG : m_G d yX12_duel.cls yX12_duel.name cX12_duel 7 n0 s0 nF sF Ω) {out : ((NN × Int × Int × Int × Int) ⊕ (NN × Int × Int × Int))} (hK0 : ∀ s' : (NN × Int × Int × Int × Int), out = .inl s' → Ω 96 ([some (.inr (.inr 64)), none, none, some (.inl (s'.2.1)), some (.inl (s'.2.2.1)), some (.inl (s'.2.2.2.1)), some (.inl (s'.2.2.2.2))], [], s'.1, X)) (hK1 : ∀ t : (NN × Int × Int × Int), out = .inr t → Ω 142 ([none, none, none, some (.inl t.2.1), some (.inl t.2.2.1), some (.inl t.2.2.2), none], [], t.1, X)) (hF : f_X12_duel_l96_j136 X N a3 a4 a5 a6 = some out) : Ω 136 ([some (.inr (.inr 64)), none, none, some (.inl a3), some (.inl a4), some (.inl a5), some (.inl a6)], [], N, X) := by
  unfold f_X12_duel_l96_j136 at hF
  refine s_iinc hG dX12_duel_136 (by decide) rfl rfl ?_
  refine s_goto hG 96 dX12_duel_139 (by decide) ?_
  cases hF
  exact hK0 _ rfl
theorem t_X12_duel_b96 {d n0 s0 nF sF : Nat} {X : MX} {Ω : Nat → MS → Prop} {N : NN} {a3 : Int} {a4 : Int} {a5 : Int} {a6 : Int} (hsk : m_Sk X) (hd : 9 ≤ d) (hG : m_G d yX12_duel.cls yX12_duel.name cX12_duel 7 n0 s0 nF sF Ω) {out : ((NN × Int × Int × Int × Int) ⊕ (NN × Int × Int × Int))} (hK0 : ∀ s' : (NN × Int × Int × Int × Int), out = .inl s' → Ω 96 ([some (.inr (.inr 64)), none, none, some (.inl (s'.2.1)), some (.inl (s'.2.2.1)), some (.inl (s'.2.2.2.1)), some (.inl (s'.2.2.2.2))], [], s'.1, X)) (hK1 : ∀ t : (NN × Int × Int × Int), out = .inr t → Ω 142 ([none, none, none, some (.inl t.2.1), some (.inl t.2.2.1), some (.inl t.2.2.2), none], [], t.1, X)) (hF : b_X12_duel_96 X N a3 a4 a5 a6 = some out) : Ω 96 ([some (.inr (.inr 64)), none, none, some (.inl a3), some (.inl a4), some (.inl a5), some (.inl a6)], [], N, X) := by
  unfold b_X12_duel_96 at hF
  refine s_iload hG dX12_duel_96 rfl ?_
  refine s_if_lt hG 142 dX12_duel_98 (by decide) (fun c15 => ?_) (fun c15 => ?_)
  · replace hF := Eq.trans (if_pos c15).symm hF
    cases hF
    refine m_weak (ls1 := [none, none, none, some (.inl a3), some (.inl a4), some (.inl a5), none]) hG ⟨rfl, ⟨rfl, ⟨rfl, trivial⟩⟩⟩ ?_
    exact hK1 _ rfl
  · replace hF := Eq.trans (if_neg c15).symm hF
    refine s_aload_n hG dX12_duel_101 rfl ?_
    refine s_iconst hG dX12_duel_102 ⟨by decide, by decide⟩ ?_
    refine s_iconst hG dX12_duel_103 ⟨by decide, by decide⟩ ?_
    refine s_iconst hG dX12_duel_104 ⟨by decide, by decide⟩ ?_
    refine s_iload hG dX12_duel_105 rfl ?_
    obtain ⟨o10, ho10, hF⟩ := bd_some hF
    refine s_callV (d' := d - 1) (ci := 12) (args := [.inl 0, .inl (-1), .inl 0, .inl a6]) hG (by omega) dX12_duel_107 cv_RX12_492 cw_X12_canGive rfl rfl (sk_k hsk 64 rfl) (Nat.le_of_ble_eq_true rfl) rfl (t_X12_canGive hsk (by omega) ho10) ?_
    refine s_if_eq hG 136 dX12_duel_110 (by decide) (fun c14 => ?_) (fun c14 => ?_)
    · replace hF := Eq.trans (if_pos c14).symm hF
      exact t_X12_duel_l96_j136 hsk hd hG hK0 hK1 hF
    · replace hF := Eq.trans (if_neg c14).symm hF
      refine s_aload_n hG dX12_duel_113 rfl ?_
      refine s_iconst hG dX12_duel_114 ⟨by decide, by decide⟩ ?_
      refine s_iconst hG dX12_duel_115 ⟨by decide, by decide⟩ ?_
      refine s_iload hG dX12_duel_116 rfl ?_
      obtain ⟨o11, ho11, hF⟩ := bd_some hF
      refine s_callV (d' := d - 1) (ci := 12) (args := [.inl 0, .inl 0, .inl a6]) hG (by omega) dX12_duel_118 cv_RX12_496 cw_X12_isWon rfl rfl (sk_k hsk 64 rfl) (Nat.le_of_ble_eq_true rfl) rfl (t_X12_isWon hsk (by omega) ho11) ?_
      refine s_if_eq hG 136 dX12_duel_121 (by decide) (fun c13 => ?_) (fun c13 => ?_)
      · replace hF := Eq.trans (if_pos c13).symm hF
        exact t_X12_duel_l96_j136 hsk hd hG hK0 hK1 hF
      · replace hF := Eq.trans (if_neg c13).symm hF
        refine s_iinc hG dX12_duel_124 (by decide) rfl rfl ?_
        refine s_aload_n hG dX12_duel_127 rfl ?_
        refine s_getr (r := 84) hG dX12_duel_128 fl_RX12_103 (sk_k hsk 64 rfl) rfl (sk_R hsk 64 41 rfl) ?_
        refine s_iload hG dX12_duel_131 rfl ?_
        obtain ⟨g12, hF⟩ := gd_some hF
        refine s_ialdj (j := a6.toNat) hG dX12_duel_133 (sk_K hsk 84 rfl) g12 rfl ?_
        refine s_istore hG dX12_duel_134 (by decide) rfl ?_
        exact t_X12_duel_l96_j136 hsk hd hG hK0 hK1 hF
theorem t_X12_duel_lp96 {d n0 s0 nF sF : Nat} {X : MX} {Ω : Nat → MS → Prop} {N : NN} {a3 : Int} {a4 : Int} {a5 : Int} {a6 : Int} (hsk : m_Sk X) (hd : 9 ≤ d) (hG : m_G d yX12_duel.cls yX12_duel.name cX12_duel 7 n0 s0 nF sF Ω) {t : (NN × Int × Int × Int)} (hK1 : Ω 142 ([none, none, none, some (.inl t.2.1), some (.inl t.2.2.1), some (.inl t.2.2.2), none], [], t.1, X)) (hl : lp (fun s => b_X12_duel_96 X s.1 s.2.1 s.2.2.1 s.2.2.2.1 s.2.2.2.2) (N, a3, a4, a5, a6) = some t) : Ω 96 ([some (.inr (.inr 64)), none, none, some (.inl a3), some (.inl a4), some (.inl a5), some (.inl a6)], [], N, X) := by
  refine lp_ok (P := fun s => Ω 96 ([some (.inr (.inr 64)), none, none, some (.inl s.2.1), some (.inl s.2.2.1), some (.inl s.2.2.2.1), some (.inl s.2.2.2.2)], [], s.1, X)) (K := fun t => Ω 142 ([none, none, none, some (.inl t.2.1), some (.inl t.2.2.1), some (.inl t.2.2.2), none], [], t.1, X)) (fun s out hF hK0 hK1 => ?_) hl hK1
  exact t_X12_duel_b96 hsk hd hG (out := out) (fun s' e => hK0 s' e) (fun t' e => hK1 t' e) hF
theorem t_X12_duel_j38 {d n0 s0 nF sF : Nat} {X : MX} {Ω : Nat → MS → Prop} {N : NN} (hsk : m_Sk X) (hd : 9 ≤ d) (hG : m_G d yX12_duel.cls yX12_duel.name cX12_duel 7 n0 s0 nF sF Ω) {out : (Int × NN)} (hE : m_Gd d yX12_duel cX12_duel 7 (some .int) X (some (.inl out.1)) out.2 X Ω) (hF : f_X12_duel_j38 X N = some out) : Ω 38 ([none, none, none, none, none, none, none], [], N, X) := by
  unfold f_X12_duel_j38 at hF
  refine s_iconst hG dX12_duel_38 ⟨by decide, by decide⟩ ?_
  cases hF
  exact s_iret hE dX12_duel_39 rfl
theorem t_X12_duel_j154 {d n0 s0 nF sF : Nat} {X : MX} {Ω : Nat → MS → Prop} {N : NN} {z0 : Int} (hsk : m_Sk X) (hd : 9 ≤ d) (hG : m_G d yX12_duel.cls yX12_duel.name cX12_duel 7 n0 s0 nF sF Ω) {out : (Int × NN)} (hE : m_Gd d yX12_duel cX12_duel 7 (some .int) X (some (.inl out.1)) out.2 X Ω) (hF : f_X12_duel_j154 X N z0 = some out) : Ω 154 ([none, none, none, none, none, none, none], [(.inl z0)], N, X) := by
  unfold f_X12_duel_j154 at hF
  cases hF
  exact s_iret hE dX12_duel_154 rfl
theorem t_X12_duel_j76 {d n0 s0 nF sF : Nat} {X : MX} {Ω : Nat → MS → Prop} {N : NN} {z0 : Int} (hsk : m_Sk X) (hd : 9 ≤ d) (hG : m_G d yX12_duel.cls yX12_duel.name cX12_duel 7 n0 s0 nF sF Ω) {out : (Int × NN)} (hE : m_Gd d yX12_duel cX12_duel 7 (some .int) X (some (.inl out.1)) out.2 X Ω) (hF : f_X12_duel_j76 X N z0 = some out) : Ω 76 ([none, none, none, none, none, none, none], [(.inl z0)], N, X) := by
  unfold f_X12_duel_j76 at hF
  cases hF
  exact s_iret hE dX12_duel_76 rfl
theorem t_X12_duel {d : Nat} {X : MX} {N : NN} {a1 : Int} {a2 : Int} {a3 : Int} {out : (Int × NN)} (hsk : m_Sk X) (hd : 9 ≤ d) (hF : f_X12_duel X N a1 a2 a3 = some out) : m_Call d yX12_duel cX12_duel 7 (some .int) [(.inr (.inr 64)), (.inl a1), (.inl a2), (.inl a3)] N X (some (.inl out.1)) out.2 X := by
  refine m_mk (ls0 := [some (.inr (.inr 64)), some (.inl a1), some (.inl a2), some (.inl a3), none, none, none]) (by decide) rfl (Nat.le_of_ble_eq_true rfl) (Nat.le_refl _) (Nat.le_refl _) (fun Ω hE => ?_)
  have hG := hE.G
  unfold f_X12_duel at hF
  refine s_aload_n hG dX12_duel_0 rfl ?_
  refine s_iconst hG dX12_duel_1 ⟨by decide, by decide⟩ ?_
  refine s_puti hG dX12_duel_2 fl_RX12_166 (fun h => by cases h) (sk_k hsk 64 rfl) rfl ?_
  refine s_aload_n hG dX12_duel_5 rfl ?_
  refine s_iload_n hG dX12_duel_6 rfl ?_
  obtain ⟨o2, ho2, hF⟩ := bd_some hF
  refine s_callV (d' := d - 1) (ci := 12) (args := [.inl a1]) hG (by omega) dX12_duel_7 cv_RX12_198 cw_X12_isLord rfl rfl (sk_k hsk 64 rfl) (Nat.le_of_ble_eq_true rfl) rfl (t_X12_isLord hsk (by omega) ho2) ?_
  refine s_if_eq hG 38 dX12_duel_10 (by decide) (fun c23 => ?_) (fun c23 => ?_)
  · replace hF := Eq.trans (if_pos c23).symm hF
    refine m_weak (ls1 := [none, none, none, none, none, none, none]) hG trivial ?_
    exact t_X12_duel_j38 hsk hd hG hE hF
  · replace hF := Eq.trans (if_neg c23).symm hF
    refine s_aload_n hG dX12_duel_13 rfl ?_
    refine s_iload_n hG dX12_duel_14 rfl ?_
    obtain ⟨o3, ho3, hF⟩ := bd_some hF
    refine s_callV (d' := d - 1) (ci := 12) (args := [.inl a2]) hG (by omega) dX12_duel_15 cv_RX12_198 cw_X12_isLord rfl rfl (sk_k hsk 64 rfl) (Nat.le_of_ble_eq_true rfl) rfl (t_X12_isLord hsk (by omega) ho3) ?_
    refine s_if_eq hG 38 dX12_duel_18 (by decide) (fun c22 => ?_) (fun c22 => ?_)
    · replace hF := Eq.trans (if_pos c22).symm hF
      refine m_weak (ls1 := [none, none, none, none, none, none, none]) hG trivial ?_
      exact t_X12_duel_j38 hsk hd hG hE hF
    · replace hF := Eq.trans (if_neg c22).symm hF
      refine s_iload_n hG dX12_duel_21 rfl ?_
      refine s_iload_n hG dX12_duel_22 rfl ?_
      refine s_icmp_eq hG 38 dX12_duel_23 (by decide) (fun c21 => ?_) (fun c21 => ?_)
      · replace hF := Eq.trans (if_pos c21).symm hF
        refine m_weak (ls1 := [none, none, none, none, none, none, none]) hG trivial ?_
        exact t_X12_duel_j38 hsk hd hG hE hF
      · replace hF := Eq.trans (if_neg c21).symm hF
        refine s_iload_n hG dX12_duel_26 rfl ?_
        refine s_i2l hG dX12_duel_27 ?_
        refine s_lconst (v := 0) hG dX12_duel_28 rfl ⟨by decide, by decide⟩ ?_
        refine s_ldc2 hG dX12_duel_29 kc_RX12_232 ⟨by decide, by decide⟩ ?_
        obtain ⟨o4, ho4, hF⟩ := bd_some hF
        refine s_callS (d' := d - 1) (args := [.inr (.inl a3), .inr (.inl 0), .inr (.inl 3)]) hG (by omega) dX12_duel_32 cs_RX12_179 cw_X12_in rfl (Nat.le_of_ble_eq_true rfl) rfl (t_X12_in hsk (by omega) ho4) ?_
        refine s_if_ne hG 40 dX12_duel_35 (by decide) (fun c20 => ?_) (fun c20 => ?_)
        · replace hF := Eq.trans (if_pos c20).symm hF
          refine m_weak (ls1 := [none, none, none, none, none, none, none]) hG trivial ?_
          exact t_X12_duel_j38 hsk hd hG hE hF
        · replace hF := Eq.trans (if_neg c20).symm hF
          refine s_aload_n hG dX12_duel_40 rfl ?_
          refine s_iconst hG dX12_duel_41 ⟨by decide, by decide⟩ ?_
          refine s_iload_n hG dX12_duel_42 rfl ?_
          refine s_iload_n hG dX12_duel_43 rfl ?_
          obtain ⟨o5, ho5, hF⟩ := bd_some hF
          refine s_callV (d' := d - 1) (ci := 12) (args := [.inl 0, .inl a1, .inl a2]) hG (by omega) dX12_duel_44 cv_RX12_499 cw_X12_layGoods rfl rfl (sk_k hsk 64 rfl) (Nat.le_of_ble_eq_true rfl) rfl (t_X12_layGoods hsk (by omega) ho5) ?_
          refine s_aload_n hG dX12_duel_47 rfl ?_
          refine s_iconst hG dX12_duel_48 ⟨by decide, by decide⟩ ?_
          refine s_iload_n hG dX12_duel_49 rfl ?_
          refine s_iload_n hG dX12_duel_50 rfl ?_
          obtain ⟨o6, ho6, hF⟩ := bd_some hF
          refine s_callV (d' := d - 1) (ci := 12) (args := [.inl 1, .inl a2, .inl a1]) hG (by omega) dX12_duel_51 cv_RX12_499 cw_X12_layGoods rfl rfl (sk_k hsk 64 rfl) (Nat.le_of_ble_eq_true rfl) rfl (t_X12_layGoods hsk (by omega) ho6) ?_
          refine s_aload_n hG dX12_duel_54 rfl ?_
          obtain ⟨o7, ho7, hF⟩ := bd_some hF
          refine s_callV (d' := d - 1) (ci := 12) (args := []) hG (by omega) dX12_duel_55 cv_RX12_503 cw_X12_findWins rfl rfl (sk_k hsk 64 rfl) (Nat.le_of_ble_eq_true rfl) rfl (t_X12_findWins hsk (by omega) ho7) ?_
          refine s_iload_n hG dX12_duel_58 rfl ?_
          refine s_if_ne hG 77 dX12_duel_59 (by decide) (fun c19 => ?_) (fun c19 => ?_)
          · replace hF := Eq.trans (if_pos c19).symm hF
            refine s_aload_n hG dX12_duel_62 rfl ?_
            refine s_getr (r := 87) hG dX12_duel_63 fl_RX12_112 (sk_k hsk 64 rfl) rfl (sk_R hsk 64 44 rfl) ?_
            refine s_iconst hG dX12_duel_66 ⟨by decide, by decide⟩ ?_
            refine s_zaldj (j := 0) hG dX12_duel_67 (sk_K hsk 87 rfl) ⟨by decide, by decide⟩ rfl ?_
            refine s_if_eq hG 75 dX12_duel_68 (by decide) (fun c8 => ?_) (fun c8 => ?_)
            · replace hF := Eq.trans (if_pos c8).symm hF
              refine s_iload_n hG dX12_duel_75 rfl ?_
              refine m_weak (ls1 := [none, none, none, none, none, none, none]) hG trivial ?_
              exact t_X12_duel_j76 hsk hd hG hE hF
            · replace hF := Eq.trans (if_neg c8).symm hF
              refine s_iload_n hG dX12_duel_71 rfl ?_
              refine s_goto hG 76 dX12_duel_72 (by decide) ?_
              refine m_weak (ls1 := [none, none, none, none, none, none, none]) hG trivial ?_
              exact t_X12_duel_j76 hsk hd hG hE hF
          · replace hF := Eq.trans (if_neg c19).symm hF
            refine s_iload_n hG dX12_duel_77 rfl ?_
            refine s_iconst hG dX12_duel_78 ⟨by decide, by decide⟩ ?_
            refine s_icmp_ne hG 87 dX12_duel_79 (by decide) (fun c18 => ?_) (fun c18 => ?_)
            · replace hF := Eq.trans (if_pos c18).symm hF
              refine s_aload_n hG dX12_duel_82 rfl ?_
              obtain ⟨o9, ho9, hF⟩ := bd_some hF
              refine s_callV (d' := d - 1) (ci := 12) (args := []) hG (by omega) dX12_duel_83 cv_RX12_506 cw_X12_playOf rfl rfl (sk_k hsk 64 rfl) (Nat.le_of_ble_eq_true rfl) rfl (t_X12_playOf hsk (by omega) ho9) ?_
              cases hF
              exact s_iret hE dX12_duel_86 rfl
            · replace hF := Eq.trans (if_neg c18).symm hF
              refine s_iconst hG dX12_duel_87 ⟨by decide, by decide⟩ ?_
              refine s_istore hG dX12_duel_88 (by decide) rfl ?_
              refine s_iconst hG dX12_duel_90 ⟨by decide, by decide⟩ ?_
              refine s_istore hG dX12_duel_91 (by decide) rfl ?_
              refine s_iconst hG dX12_duel_93 ⟨by decide, by decide⟩ ?_
              refine s_istore hG dX12_duel_94 (by decide) rfl ?_
              obtain ⟨o16, hlo16, hF⟩ := bd_some hF
              refine m_weak (ls1 := [some (.inr (.inr 64)), none, none, some (.inl a3), some (.inl 0), some (.inl (-1)), some (.inl 5)]) hG ⟨rfl, ⟨rfl, ⟨rfl, ⟨rfl, ⟨rfl, trivial⟩⟩⟩⟩⟩ ?_
              refine t_X12_duel_lp96 hsk hd hG ?_ hlo16
              refine s_iload_n hG dX12_duel_142 rfl ?_
              refine s_iconst hG dX12_duel_143 ⟨by decide, by decide⟩ ?_
              refine s_icmp_ne hG 152 dX12_duel_144 (by decide) (fun c17 => ?_) (fun c17 => ?_)
              · replace hF := Eq.trans (if_pos c17).symm hF
                refine s_iload hG dX12_duel_147 rfl ?_
                refine s_goto hG 154 dX12_duel_149 (by decide) ?_
                refine m_weak (ls1 := [none, none, none, none, none, none, none]) hG trivial ?_
                exact t_X12_duel_j154 hsk hd hG hE hF
              · replace hF := Eq.trans (if_neg c17).symm hF
                refine s_iload hG dX12_duel_152 rfl ?_
                refine m_weak (ls1 := [none, none, none, none, none, none, none]) hG trivial ?_
                exact t_X12_duel_j154 hsk hd hG hE hF
-- X12_end
theorem t_X12_end_j17 {d n0 s0 nF sF : Nat} {X : MX} {Ω : Nat → MS → Prop} {N : NN} (hsk : m_Sk X) (hd : 1 ≤ d) (hG : m_G d yX12_end.cls yX12_end.name cX12_end 2 n0 s0 nF sF Ω) {out : (Int × NN)} (hE : m_Gd d yX12_end cX12_end 2 (some .int) X (some (.inl out.1)) out.2 X Ω) (hF : f_X12_end_j17 X N = some out) : Ω 17 ([none, none], [], N, X) := by
  unfold f_X12_end_j17 at hF
  refine s_iconst hG dX12_end_17 ⟨by decide, by decide⟩ ?_
  cases hF
  exact s_iret hE dX12_end_18 rfl
theorem t_X12_end {d : Nat} {X : MX} {N : NN} {a1 : Int} {out : (Int × NN)} (hsk : m_Sk X) (hd : 1 ≤ d) (hF : f_X12_end X N a1 = some out) : m_Call d yX12_end cX12_end 2 (some .int) [(.inr (.inr 64)), (.inl a1)] N X (some (.inl out.1)) out.2 X := by
  refine m_mk (ls0 := [some (.inr (.inr 64)), some (.inl a1)]) (by decide) rfl (Nat.le_of_ble_eq_true rfl) (Nat.le_refl _) (Nat.le_refl _) (fun Ω hE => ?_)
  have hG := hE.G
  unfold f_X12_end at hF
  refine s_aload_n hG dX12_end_0 rfl ?_
  refine s_iconst hG dX12_end_1 ⟨by decide, by decide⟩ ?_
  refine s_puti hG dX12_end_2 fl_RX12_166 (fun h => by cases h) (sk_k hsk 64 rfl) rfl ?_
  refine s_iload_n hG dX12_end_5 rfl ?_
  refine s_if_lt hG 17 dX12_end_6 (by decide) (fun c4 => ?_) (fun c4 => ?_)
  · replace hF := Eq.trans (if_pos c4).symm hF
    refine m_weak (ls1 := [none, none]) hG trivial ?_
    exact t_X12_end_j17 hsk hd hG hE hF
  · replace hF := Eq.trans (if_neg c4).symm hF
    refine s_iload_n hG dX12_end_9 rfl ?_
    refine s_aload_n hG dX12_end_10 rfl ?_
    refine s_geti hG dX12_end_11 fl_RX12_236 (sk_k hsk 64 rfl) rfl ?_
    refine s_icmp_le hG 19 dX12_end_14 (by decide) (fun c3 => ?_) (fun c3 => ?_)
    · replace hF := Eq.trans (if_pos c3).symm hF
      refine m_weak (ls1 := [none, none]) hG trivial ?_
      exact t_X12_end_j17 hsk hd hG hE hF
    · replace hF := Eq.trans (if_neg c3).symm hF
      refine s_aload_n hG dX12_end_19 rfl ?_
      refine s_iload_n hG dX12_end_20 rfl ?_
      refine s_puti hG dX12_end_21 fl_RX12_236 (fun h => by cases h) (sk_k hsk 64 rfl) rfl ?_
      refine s_iload_n hG dX12_end_24 rfl ?_
      cases hF
      exact s_iret hE dX12_end_25 rfl
-- X12_endText
theorem t_X12_endText_j19 {d n0 s0 nF sF : Nat} {X : MX} {Ω : Nat → MS → Prop} {N : NN} (hsk : m_Sk X) (hd : 4 ≤ d) (hG : m_G d yX12_endText.cls yX12_endText.name cX12_endText 1 n0 s0 nF sF Ω) {out : NN} (hE : m_Gd d yX12_endText cX12_endText 1 none X none out X Ω) (hF : f_X12_endText_j19 X N = some out) : Ω 19 ([some (.inr (.inr 64))], [], N, X) := by
  unfold f_X12_endText_j19 at hF
  refine s_aload_n hG dX12_endText_19 rfl ?_
  refine s_iconst hG dX12_endText_20 ⟨by decide, by decide⟩ ?_
  refine s_putz hG dX12_endText_21 fl_RX12_326 (fun h => by cases h) (sk_k hsk 64 rfl) rfl ⟨by decide, by decide⟩ ?_
  refine s_aload_n hG dX12_endText_24 rfl ?_
  refine s_iconst hG dX12_endText_25 ⟨by decide, by decide⟩ ?_
  refine s_puti hG dX12_endText_26 fl_RX12_236 (fun h => by cases h) (sk_k hsk 64 rfl) rfl ?_
  cases hF
  exact s_vret hE dX12_endText_29 rfl
theorem t_X12_endText {d : Nat} {X : MX} {N : NN} {out : NN} (hsk : m_Sk X) (hd : 4 ≤ d) (hF : f_X12_endText X N = some out) : m_Call d yX12_endText cX12_endText 1 none [(.inr (.inr 64))] N X none out X := by
  refine m_mk (ls0 := [some (.inr (.inr 64))]) (by decide) rfl (Nat.le_of_ble_eq_true rfl) (Nat.le_refl _) (Nat.le_refl _) (fun Ω hE => ?_)
  have hG := hE.G
  unfold f_X12_endText at hF
  refine s_aload_n hG dX12_endText_0 rfl ?_
  refine s_getz hG dX12_endText_1 fl_RX12_249 (sk_k hsk 64 rfl) rfl ?_
  refine s_if_ne hG 19 dX12_endText_4 (by decide) (fun c3 => ?_) (fun c3 => ?_)
  · replace hF := Eq.trans (if_pos c3).symm hF
    refine s_aload_n hG dX12_endText_7 rfl ?_
    refine s_geti hG dX12_endText_8 fl_RX12_269 (sk_k hsk 64 rfl) rfl ?_
    refine s_if_eq hG 19 dX12_endText_11 (by decide) (fun c2 => ?_) (fun c2 => ?_)
    · replace hF := Eq.trans (if_pos c2).symm hF
      exact t_X12_endText_j19 hsk hd hG hE hF
    · replace hF := Eq.trans (if_neg c2).symm hF
      refine s_aload_n hG dX12_endText_14 rfl ?_
      refine s_iconst hG dX12_endText_15 ⟨by decide, by decide⟩ ?_
      obtain ⟨o1, ho1, hF⟩ := bd_some hF
      refine s_callV (d' := d - 1) (ci := 12) (args := [.inl 0]) hG (by omega) dX12_endText_16 cv_RX12_284 cw_X12_must rfl rfl (sk_k hsk 64 rfl) (Nat.le_of_ble_eq_true rfl) rfl (t_X12_must hsk (by omega) ho1) ?_
      exact t_X12_endText_j19 hsk hd hG hE hF
  · replace hF := Eq.trans (if_neg c3).symm hF
    exact t_X12_endText_j19 hsk hd hG hE hF
-- X12_fault
theorem t_X12_fault {d : Nat} {X : MX} {N : NN} {out : (Int × NN)} (hsk : m_Sk X) (hd : 1 ≤ d) (hF : f_X12_fault X N = some out) : m_Call d yX12_fault cX12_fault 1 (some .int) [(.inr (.inr 64))] N X (some (.inl out.1)) out.2 X := by
  refine m_mk (ls0 := [some (.inr (.inr 64))]) (by decide) rfl (Nat.le_of_ble_eq_true rfl) (Nat.le_refl _) (Nat.le_refl _) (fun Ω hE => ?_)
  have hG := hE.G
  unfold f_X12_fault at hF
  refine s_aload_n hG dX12_fault_0 rfl ?_
  refine s_iconst hG dX12_fault_1 ⟨by decide, by decide⟩ ?_
  refine s_puti hG dX12_fault_2 fl_RX12_166 (fun h => by cases h) (sk_k hsk 64 rfl) rfl ?_
  refine s_aload_n hG dX12_fault_5 rfl ?_
  refine s_geti hG dX12_fault_6 fl_RX12_38 (sk_k hsk 64 rfl) rfl ?_
  cases hF
  exact s_iret hE dX12_fault_9 rfl
-- X12_four
theorem t_X12_four_b3 {d n0 s0 nF sF : Nat} {X : MX} {Ω : Nat → MS → Prop} {N : NN} {a1 : Int} {a2 : Int} (hsk : m_Sk X) (hd : 1 ≤ d) (hG : m_G d yX12_four.cls yX12_four.name cX12_four 3 n0 s0 nF sF Ω) {out : ((NN × Int × Int) ⊕ NN)} (hK0 : ∀ s' : (NN × Int × Int), out = .inl s' → Ω 3 ([some (.inr (.inr 64)), some (.inl (s'.2.1)), some (.inl (s'.2.2))], [], s'.1, X)) (hK1 : ∀ t : NN, out = .inr t → Ω 39 ([none, none, none], [], t, X)) (hF : b_X12_four_3 X N a1 a2 = some out) : Ω 3 ([some (.inr (.inr 64)), some (.inl a1), some (.inl a2)], [], N, X) := by
  unfold b_X12_four_3 at hF
  refine s_iload_n hG dX12_four_3 rfl ?_
  refine s_if_lt hG 39 dX12_four_4 (by decide) (fun c4 => ?_) (fun c4 => ?_)
  · replace hF := Eq.trans (if_pos c4).symm hF
    cases hF
    refine m_weak (ls1 := [none, none, none]) hG trivial ?_
    exact hK1 _ rfl
  · replace hF := Eq.trans (if_neg c4).symm hF
    refine s_aload_n hG dX12_four_7 rfl ?_
    refine s_getr (r := 73) hG dX12_four_8 fl_RX12_35 (sk_k hsk 64 rfl) rfl (sk_R hsk 64 12 rfl) ?_
    refine s_aload_n hG dX12_four_11 rfl ?_
    refine s_geti hG dX12_four_12 fl_RX12_236 (sk_k hsk 64 rfl) rfl ?_
    refine s_iload_n hG dX12_four_15 rfl ?_
    refine s_iload_n hG dX12_four_16 rfl ?_
    refine s_ishr hG dX12_four_17 ?_
    refine s_sipush hG dX12_four_18 sp_255 ⟨by decide, by decide⟩ ?_
    refine s_iand hG dX12_four_21 ?_
    obtain ⟨g1, hF⟩ := gd_some hF
    refine s_iastj (j := (N 64 13).toNat) hG dX12_four_22 (sk_K hsk 73 rfl) g1 rfl ?_
    refine s_aload_n hG dX12_four_23 rfl ?_
    refine s_dup hG dX12_four_24 rfl ?_
    refine s_geti hG dX12_four_25 fl_RX12_236 (sk_k hsk 64 rfl) rfl ?_
    refine s_iconst hG dX12_four_28 ⟨by decide, by decide⟩ ?_
    refine s_iadd hG dX12_four_29 ?_
    refine s_puti hG dX12_four_30 fl_RX12_236 (fun h => by cases h) (sk_k hsk 64 rfl) rfl ?_
    refine s_iinc hG dX12_four_33 (by decide) rfl rfl ?_
    refine s_goto hG 3 dX12_four_36 (by decide) ?_
    cases hF
    exact hK0 _ rfl
theorem t_X12_four_lp3 {d n0 s0 nF sF : Nat} {X : MX} {Ω : Nat → MS → Prop} {N : NN} {a1 : Int} {a2 : Int} (hsk : m_Sk X) (hd : 1 ≤ d) (hG : m_G d yX12_four.cls yX12_four.name cX12_four 3 n0 s0 nF sF Ω) {t : NN} (hK1 : Ω 39 ([none, none, none], [], t, X)) (hl : lp (fun s => b_X12_four_3 X s.1 s.2.1 s.2.2) (N, a1, a2) = some t) : Ω 3 ([some (.inr (.inr 64)), some (.inl a1), some (.inl a2)], [], N, X) := by
  refine lp_ok (P := fun s => Ω 3 ([some (.inr (.inr 64)), some (.inl s.2.1), some (.inl s.2.2)], [], s.1, X)) (K := fun t => Ω 39 ([none, none, none], [], t, X)) (fun s out hF hK0 hK1 => ?_) hl hK1
  exact t_X12_four_b3 hsk hd hG (out := out) (fun s' e => hK0 s' e) (fun t' e => hK1 t' e) hF
theorem t_X12_four {d : Nat} {X : MX} {N : NN} {a1 : Int} {out : NN} (hsk : m_Sk X) (hd : 1 ≤ d) (hF : f_X12_four X N a1 = some out) : m_Call d yX12_four cX12_four 3 none [(.inr (.inr 64)), (.inl a1)] N X none out X := by
  refine m_mk (ls0 := [some (.inr (.inr 64)), some (.inl a1), none]) (by decide) rfl (Nat.le_of_ble_eq_true rfl) (Nat.le_refl _) (Nat.le_refl _) (fun Ω hE => ?_)
  have hG := hE.G
  unfold f_X12_four at hF
  refine s_bipush hG dX12_four_0 bp_24 ⟨by decide, by decide⟩ ?_
  refine s_istore_n hG dX12_four_2 (by decide) rfl ?_
  obtain ⟨o5, hlo5, hF⟩ := bd_some hF
  refine t_X12_four_lp3 hsk hd hG ?_ hlo5
  cases hF
  exact s_vret hE dX12_four_39 rfl
-- X12_feed
theorem t_X12_feed {d : Nat} {X : MX} {N : NN} {a1 : Int} {a2 : Int} {a3 : Int} {a4 : Int} {a5 : Int} {out : (Int × NN)} (hsk : m_Sk X) (hd : 2 ≤ d) (hF : f_X12_feed X N a1 a2 a3 a4 a5 = some out) : m_Call d yX12_feed cX12_feed 6 (some .int) [(.inr (.inr 64)), (.inl a1), (.inl a2), (.inl a3), (.inl a4), (.inl a5)] N X (some (.inl out.1)) out.2 X := by
  refine m_mk (ls0 := [some (.inr (.inr 64)), some (.inl a1), some (.inl a2), some (.inl a3), some (.inl a4), some (.inl a5)]) (by decide) rfl (Nat.le_of_ble_eq_true rfl) (Nat.le_refl _) (Nat.le_refl _) (fun Ω hE => ?_)
  have hG := hE.G
  unfold f_X12_feed at hF
  refine s_aload_n hG dX12_feed_0 rfl ?_
  refine s_iconst hG dX12_feed_1 ⟨by decide, by decide⟩ ?_
  refine s_puti hG dX12_feed_2 fl_RX12_166 (fun h => by cases h) (sk_k hsk 64 rfl) rfl ?_
  refine s_aload_n hG dX12_feed_5 rfl ?_
  refine s_geti hG dX12_feed_6 fl_RX12_236 (sk_k hsk 64 rfl) rfl ?_
  refine s_bipush hG dX12_feed_9 bp_20 ⟨by decide, by decide⟩ ?_
  refine s_iadd hG dX12_feed_11 ?_
  refine s_sipush hG dX12_feed_12 sp_400 ⟨by decide, by decide⟩ ?_
  refine s_icmp_le hG 20 dX12_feed_15 (by decide) (fun c7 => ?_) (fun c7 => ?_)
  · replace hF := Eq.trans (if_pos c7).symm hF
    refine s_iconst hG dX12_feed_18 ⟨by decide, by decide⟩ ?_
    cases hF
    exact s_iret hE dX12_feed_19 rfl
  · replace hF := Eq.trans (if_neg c7).symm hF
    refine s_aload_n hG dX12_feed_20 rfl ?_
    refine s_iload_n hG dX12_feed_21 rfl ?_
    obtain ⟨o2, ho2, hF⟩ := bd_some hF
    refine s_callV (d' := d - 1) (ci := 12) (args := [.inl a1]) hG (by omega) dX12_feed_22 cv_RX12_242 cw_X12_four rfl rfl (sk_k hsk 64 rfl) (Nat.le_of_ble_eq_true rfl) rfl (t_X12_four hsk (by omega) ho2) ?_
    refine s_aload_n hG dX12_feed_25 rfl ?_
    refine s_iload_n hG dX12_feed_26 rfl ?_
    obtain ⟨o3, ho3, hF⟩ := bd_some hF
    refine s_callV (d' := d - 1) (ci := 12) (args := [.inl a2]) hG (by omega) dX12_feed_27 cv_RX12_242 cw_X12_four rfl rfl (sk_k hsk 64 rfl) (Nat.le_of_ble_eq_true rfl) rfl (t_X12_four hsk (by omega) ho3) ?_
    refine s_aload_n hG dX12_feed_30 rfl ?_
    refine s_iload_n hG dX12_feed_31 rfl ?_
    obtain ⟨o4, ho4, hF⟩ := bd_some hF
    refine s_callV (d' := d - 1) (ci := 12) (args := [.inl a3]) hG (by omega) dX12_feed_32 cv_RX12_242 cw_X12_four rfl rfl (sk_k hsk 64 rfl) (Nat.le_of_ble_eq_true rfl) rfl (t_X12_four hsk (by omega) ho4) ?_
    refine s_aload_n hG dX12_feed_35 rfl ?_
    refine s_iload hG dX12_feed_36 rfl ?_
    obtain ⟨o5, ho5, hF⟩ := bd_some hF
    refine s_callV (d' := d - 1) (ci := 12) (args := [.inl a4]) hG (by omega) dX12_feed_38 cv_RX12_242 cw_X12_four rfl rfl (sk_k hsk 64 rfl) (Nat.le_of_ble_eq_true rfl) rfl (t_X12_four hsk (by omega) ho5) ?_
    refine s_aload_n hG dX12_feed_41 rfl ?_
    refine s_iload hG dX12_feed_42 rfl ?_
    obtain ⟨o6, ho6, hF⟩ := bd_some hF
    refine s_callV (d' := d - 1) (ci := 12) (args := [.inl a5]) hG (by omega) dX12_feed_44 cv_RX12_242 cw_X12_four rfl rfl (sk_k hsk 64 rfl) (Nat.le_of_ble_eq_true rfl) rfl (t_X12_four hsk (by omega) ho6) ?_
    refine s_aload_n hG dX12_feed_47 rfl ?_
    refine s_geti hG dX12_feed_48 fl_RX12_236 (sk_k hsk 64 rfl) rfl ?_
    cases hF
    exact s_iret hE dX12_feed_51 rfl
-- X12_isTold
theorem t_X12_isTold_l4_j48 {d n0 s0 nF sF : Nat} {X : MX} {N : NN} {Ω : Nat → MS → Prop} {a2 : Int} {z0 : Int} (hsk : m_Sk X) (hd : 2 ≤ d) (hG : m_G d yX12_isTold.cls yX12_isTold.name cX12_isTold 3 n0 s0 nF sF Ω) {out : ((Int × Int) ⊕ Int)} (hK0 : ∀ s' : (Int × Int), out = .inl s' → Ω 4 ([some (.inr (.inr 64)), some (.inl (s'.1)), some (.inl (s'.2))], [], N, X)) (hK1 : ∀ t : Int, out = .inr t → Ω 55 ([none, some (.inl t), none], [], N, X)) (hF : f_X12_isTold_l4_j48 X N a2 z0 = some out) : Ω 48 ([some (.inr (.inr 64)), none, some (.inl a2)], [(.inl z0)], N, X) := by
  unfold f_X12_isTold_l4_j48 at hF
  refine s_istore_n hG dX12_isTold_48 (by decide) rfl ?_
  refine s_iinc hG dX12_isTold_49 (by decide) rfl rfl ?_
  refine s_goto hG 4 dX12_isTold_52 (by decide) ?_
  cases hF
  exact hK0 _ rfl
theorem t_X12_isTold_l4_j47 {d n0 s0 nF sF : Nat} {X : MX} {N : NN} {Ω : Nat → MS → Prop} {a2 : Int} (hsk : m_Sk X) (hd : 2 ≤ d) (hG : m_G d yX12_isTold.cls yX12_isTold.name cX12_isTold 3 n0 s0 nF sF Ω) {out : ((Int × Int) ⊕ Int)} (hK0 : ∀ s' : (Int × Int), out = .inl s' → Ω 4 ([some (.inr (.inr 64)), some (.inl (s'.1)), some (.inl (s'.2))], [], N, X)) (hK1 : ∀ t : Int, out = .inr t → Ω 55 ([none, some (.inl t), none], [], N, X)) (hF : f_X12_isTold_l4_j47 X N a2 = some out) : Ω 47 ([some (.inr (.inr 64)), none, some (.inl a2)], [], N, X) := by
  unfold f_X12_isTold_l4_j47 at hF
  refine s_iconst hG dX12_isTold_47 ⟨by decide, by decide⟩ ?_
  exact t_X12_isTold_l4_j48 hsk hd hG hK0 hK1 hF
theorem t_X12_isTold_l4_j43 {d n0 s0 nF sF : Nat} {X : MX} {N : NN} {Ω : Nat → MS → Prop} {a2 : Int} (hsk : m_Sk X) (hd : 2 ≤ d) (hG : m_G d yX12_isTold.cls yX12_isTold.name cX12_isTold 3 n0 s0 nF sF Ω) {out : ((Int × Int) ⊕ Int)} (hK0 : ∀ s' : (Int × Int), out = .inl s' → Ω 4 ([some (.inr (.inr 64)), some (.inl (s'.1)), some (.inl (s'.2))], [], N, X)) (hK1 : ∀ t : Int, out = .inr t → Ω 55 ([none, some (.inl t), none], [], N, X)) (hF : f_X12_isTold_l4_j43 X N a2 = some out) : Ω 43 ([some (.inr (.inr 64)), none, some (.inl a2)], [], N, X) := by
  unfold f_X12_isTold_l4_j43 at hF
  refine s_iconst hG dX12_isTold_43 ⟨by decide, by decide⟩ ?_
  refine s_goto hG 48 dX12_isTold_44 (by decide) ?_
  exact t_X12_isTold_l4_j48 hsk hd hG hK0 hK1 hF
theorem t_X12_isTold_b4 {d n0 s0 nF sF : Nat} {X : MX} {N : NN} {Ω : Nat → MS → Prop} {a1 : Int} {a2 : Int} (hsk : m_Sk X) (hd : 2 ≤ d) (hG : m_G d yX12_isTold.cls yX12_isTold.name cX12_isTold 3 n0 s0 nF sF Ω) {out : ((Int × Int) ⊕ Int)} (hK0 : ∀ s' : (Int × Int), out = .inl s' → Ω 4 ([some (.inr (.inr 64)), some (.inl (s'.1)), some (.inl (s'.2))], [], N, X)) (hK1 : ∀ t : Int, out = .inr t → Ω 55 ([none, some (.inl t), none], [], N, X)) (hF : b_X12_isTold_4 X N a1 a2 = some out) : Ω 4 ([some (.inr (.inr 64)), some (.inl a1), some (.inl a2)], [], N, X) := by
  unfold b_X12_isTold_4 at hF
  refine s_iload_n hG dX12_isTold_4 rfl ?_
  refine s_aload_n hG dX12_isTold_5 rfl ?_
  refine s_getr (r := 66) hG dX12_isTold_6 fl_RX12_13 (sk_k hsk 64 rfl) rfl (sk_R hsk 64 3 rfl) ?_
  refine s_iconst hG dX12_isTold_9 ⟨by decide, by decide⟩ ?_
  refine s_ialdj (j := 1) hG dX12_isTold_10 (sk_K hsk 66 rfl) ⟨by decide, by decide⟩ rfl ?_
  refine s_icmp_ge hG 55 dX12_isTold_11 (by decide) (fun c7 => ?_) (fun c7 => ?_)
  · replace hF := Eq.trans (if_pos c7).symm hF
    refine s_iload_n hG dX12_isTold_14 rfl ?_
    refine s_if_eq hG 47 dX12_isTold_15 (by decide) (fun c6 => ?_) (fun c6 => ?_)
    · replace hF := Eq.trans (if_pos c6).symm hF
      refine m_weak (ls1 := [some (.inr (.inr 64)), none, some (.inl a2)]) hG ⟨rfl, ⟨rfl, trivial⟩⟩ ?_
      exact t_X12_isTold_l4_j47 hsk hd hG hK0 hK1 hF
    · replace hF := Eq.trans (if_neg c6).symm hF
      refine s_aload_n hG dX12_isTold_18 rfl ?_
      refine s_iload_n hG dX12_isTold_19 rfl ?_
      refine s_iconst hG dX12_isTold_20 ⟨by decide, by decide⟩ ?_
      obtain ⟨o1, ho1, hF⟩ := bd_some hF
      refine s_callV (d' := d - 1) (ci := 12) (args := [.inl a2, .inl 5]) hG (by omega) dX12_isTold_21 cv_RX12_190 cw_X12_ofGood rfl rfl (sk_k hsk 64 rfl) (Nat.le_of_ble_eq_true rfl) rfl (t_X12_ofGood hsk (by omega) ho1) ?_
      refine s_iconst hG dX12_isTold_24 ⟨by decide, by decide⟩ ?_
      refine s_icmp_eq hG 43 dX12_isTold_25 (by decide) (fun c5 => ?_) (fun c5 => ?_)
      · replace hF := Eq.trans (if_pos c5).symm hF
        refine m_weak (ls1 := [some (.inr (.inr 64)), none, some (.inl a2)]) hG ⟨rfl, ⟨rfl, trivial⟩⟩ ?_
        exact t_X12_isTold_l4_j43 hsk hd hG hK0 hK1 hF
      · replace hF := Eq.trans (if_neg c5).symm hF
        refine s_aload_n hG dX12_isTold_28 rfl ?_
        refine s_iload_n hG dX12_isTold_29 rfl ?_
        refine s_iconst hG dX12_isTold_30 ⟨by decide, by decide⟩ ?_
        obtain ⟨o2, ho2, hF⟩ := bd_some hF
        refine s_callV (d' := d - 1) (ci := 12) (args := [.inl a2, .inl 5]) hG (by omega) dX12_isTold_31 cv_RX12_190 cw_X12_ofGood rfl rfl (sk_k hsk 64 rfl) (Nat.le_of_ble_eq_true rfl) rfl (t_X12_ofGood hsk (by omega) ho2) ?_
        refine s_aload_n hG dX12_isTold_34 rfl ?_
        refine s_getr (r := 98) hG dX12_isTold_35 fl_RX12_145 (sk_k hsk 64 rfl) rfl (sk_R hsk 64 60 rfl) ?_
        refine s_iload_n hG dX12_isTold_38 rfl ?_
        obtain ⟨g3, hF⟩ := gd_some hF
        refine s_ialdj (j := a2.toNat) hG dX12_isTold_39 (sk_K hsk 98 rfl) g3 rfl ?_
        refine s_icmp_ne hG 47 dX12_isTold_40 (by decide) (fun c4 => ?_) (fun c4 => ?_)
        · replace hF := Eq.trans (if_pos c4).symm hF
          refine m_weak (ls1 := [some (.inr (.inr 64)), none, some (.inl a2)]) hG ⟨rfl, ⟨rfl, trivial⟩⟩ ?_
          exact t_X12_isTold_l4_j43 hsk hd hG hK0 hK1 hF
        · replace hF := Eq.trans (if_neg c4).symm hF
          refine m_weak (ls1 := [some (.inr (.inr 64)), none, some (.inl a2)]) hG ⟨rfl, ⟨rfl, trivial⟩⟩ ?_
          exact t_X12_isTold_l4_j47 hsk hd hG hK0 hK1 hF
  · replace hF := Eq.trans (if_neg c7).symm hF
    cases hF
    refine m_weak (ls1 := [none, some (.inl a1), none]) hG ⟨rfl, trivial⟩ ?_
    exact hK1 _ rfl
theorem t_X12_isTold_lp4 {d n0 s0 nF sF : Nat} {X : MX} {N : NN} {Ω : Nat → MS → Prop} {a1 : Int} {a2 : Int} (hsk : m_Sk X) (hd : 2 ≤ d) (hG : m_G d yX12_isTold.cls yX12_isTold.name cX12_isTold 3 n0 s0 nF sF Ω) {t : Int} (hK1 : Ω 55 ([none, some (.inl t), none], [], N, X)) (hl : lp (fun s => b_X12_isTold_4 X N s.1 s.2) (a1, a2) = some t) : Ω 4 ([some (.inr (.inr 64)), some (.inl a1), some (.inl a2)], [], N, X) := by
  refine lp_ok (P := fun s => Ω 4 ([some (.inr (.inr 64)), some (.inl s.1), some (.inl s.2)], [], N, X)) (K := fun t => Ω 55 ([none, some (.inl t), none], [], N, X)) (fun s out hF hK0 hK1 => ?_) hl hK1
  exact t_X12_isTold_b4 hsk hd hG (out := out) (fun s' e => hK0 s' e) (fun t' e => hK1 t' e) hF
theorem t_X12_isTold {d : Nat} {X : MX} {N : NN} {out : Int} (hsk : m_Sk X) (hd : 2 ≤ d) (hF : f_X12_isTold X N = some out) : m_Call d yX12_isTold cX12_isTold 3 (some .boolean) [(.inr (.inr 64))] N X (some (.inl out)) N X := by
  refine m_mk (ls0 := [some (.inr (.inr 64)), none, none]) (by decide) rfl (Nat.le_of_ble_eq_true rfl) (Nat.le_refl _) (Nat.le_refl _) (fun Ω hE => ?_)
  have hG := hE.G
  unfold f_X12_isTold at hF
  refine s_iconst hG dX12_isTold_0 ⟨by decide, by decide⟩ ?_
  refine s_istore_n hG dX12_isTold_1 (by decide) rfl ?_
  refine s_iconst hG dX12_isTold_2 ⟨by decide, by decide⟩ ?_
  refine s_istore_n hG dX12_isTold_3 (by decide) rfl ?_
  obtain ⟨o8, hlo8, hF⟩ := bd_some hF
  refine t_X12_isTold_lp4 hsk hd hG ?_ hlo8
  refine s_iload_n hG dX12_isTold_55 rfl ?_
  obtain ⟨g9, hF⟩ := gd_some hF
  cases hF
  exact s_zret hE dX12_isTold_56 rfl g9
-- X12_keepGifts
theorem t_X12_keepGifts_b2 {d n0 s0 nF sF : Nat} {X : MX} {Ω : Nat → MS → Prop} {N : NN} {a1 : Int} {a2 : Int} (hsk : m_Sk X) (hd : 1 ≤ d) (hG : m_G d yX12_keepGifts.cls yX12_keepGifts.name cX12_keepGifts 3 n0 s0 nF sF Ω) {out : ((NN × Int × Int) ⊕ NN)} (hK0 : ∀ s' : (NN × Int × Int), out = .inl s' → Ω 2 ([some (.inr (.inr 64)), some (.inl (s'.2.1)), some (.inl (s'.2.2))], [], s'.1, X)) (hK1 : ∀ t : NN, out = .inr t → Ω 32 ([some (.inr (.inr 64)), none, none], [], t, X)) (hF : b_X12_keepGifts_2 X N a1 a2 = some out) : Ω 2 ([some (.inr (.inr 64)), some (.inl a1), some (.inl a2)], [], N, X) := by
  unfold b_X12_keepGifts_2 at hF
  refine s_iload_n hG dX12_keepGifts_2 rfl ?_
  refine s_iload_n hG dX12_keepGifts_3 rfl ?_
  refine s_icmp_ge hG 32 dX12_keepGifts_4 (by decide) (fun c5 => ?_) (fun c5 => ?_)
  · replace hF := Eq.trans (if_pos c5).symm hF
    refine s_aload_n hG dX12_keepGifts_7 rfl ?_
    refine s_geti hG dX12_keepGifts_8 fl_RX12_568 (sk_k hsk 64 rfl) rfl ?_
    refine s_if_ne hG 32 dX12_keepGifts_11 (by decide) (fun c4 => ?_) (fun c4 => ?_)
    · replace hF := Eq.trans (if_pos c4).symm hF
      refine s_aload_n hG dX12_keepGifts_14 rfl ?_
      refine s_getr (r := 101) hG dX12_keepGifts_15 fl_RX12_154 (sk_k hsk 64 rfl) rfl (sk_R hsk 64 63 rfl) ?_
      refine s_iload_n hG dX12_keepGifts_18 rfl ?_
      refine s_aload_n hG dX12_keepGifts_19 rfl ?_
      refine s_getr (r := 99) hG dX12_keepGifts_20 fl_RX12_148 (sk_k hsk 64 rfl) rfl (sk_R hsk 64 61 rfl) ?_
      refine s_iload_n hG dX12_keepGifts_23 rfl ?_
      obtain ⟨g1, hF⟩ := gd_some hF
      refine s_ialdj (j := a2.toNat) hG dX12_keepGifts_24 (sk_K hsk 99 rfl) g1 rfl ?_
      obtain ⟨g2, hF⟩ := gd_some hF
      refine s_iastj (j := a2.toNat) hG dX12_keepGifts_25 (sk_K hsk 101 rfl) g2 rfl ?_
      refine s_iinc hG dX12_keepGifts_26 (by decide) rfl rfl ?_
      refine s_goto hG 2 dX12_keepGifts_29 (by decide) ?_
      cases hF
      exact hK0 _ rfl
    · replace hF := Eq.trans (if_neg c4).symm hF
      cases hF
      refine m_weak (ls1 := [some (.inr (.inr 64)), none, none]) hG ⟨rfl, trivial⟩ ?_
      exact hK1 _ rfl
  · replace hF := Eq.trans (if_neg c5).symm hF
    cases hF
    refine m_weak (ls1 := [some (.inr (.inr 64)), none, none]) hG ⟨rfl, trivial⟩ ?_
    exact hK1 _ rfl
theorem t_X12_keepGifts_lp2 {d n0 s0 nF sF : Nat} {X : MX} {Ω : Nat → MS → Prop} {N : NN} {a1 : Int} {a2 : Int} (hsk : m_Sk X) (hd : 1 ≤ d) (hG : m_G d yX12_keepGifts.cls yX12_keepGifts.name cX12_keepGifts 3 n0 s0 nF sF Ω) {t : NN} (hK1 : Ω 32 ([some (.inr (.inr 64)), none, none], [], t, X)) (hl : lp (fun s => b_X12_keepGifts_2 X s.1 s.2.1 s.2.2) (N, a1, a2) = some t) : Ω 2 ([some (.inr (.inr 64)), some (.inl a1), some (.inl a2)], [], N, X) := by
  refine lp_ok (P := fun s => Ω 2 ([some (.inr (.inr 64)), some (.inl s.2.1), some (.inl s.2.2)], [], s.1, X)) (K := fun t => Ω 32 ([some (.inr (.inr 64)), none, none], [], t, X)) (fun s out hF hK0 hK1 => ?_) hl hK1
  exact t_X12_keepGifts_b2 hsk hd hG (out := out) (fun s' e => hK0 s' e) (fun t' e => hK1 t' e) hF
theorem t_X12_keepGifts {d : Nat} {X : MX} {N : NN} {a1 : Int} {out : NN} (hsk : m_Sk X) (hd : 1 ≤ d) (hF : f_X12_keepGifts X N a1 = some out) : m_Call d yX12_keepGifts cX12_keepGifts 3 none [(.inr (.inr 64)), (.inl a1)] N X none out X := by
  refine m_mk (ls0 := [some (.inr (.inr 64)), some (.inl a1), none]) (by decide) rfl (Nat.le_of_ble_eq_true rfl) (Nat.le_refl _) (Nat.le_refl _) (fun Ω hE => ?_)
  have hG := hE.G
  unfold f_X12_keepGifts at hF
  refine s_iconst hG dX12_keepGifts_0 ⟨by decide, by decide⟩ ?_
  refine s_istore_n hG dX12_keepGifts_1 (by decide) rfl ?_
  obtain ⟨o6, hlo6, hF⟩ := bd_some hF
  refine t_X12_keepGifts_lp2 hsk hd hG ?_ hlo6
  refine s_aload_n hG dX12_keepGifts_32 rfl ?_
  refine s_dup hG dX12_keepGifts_33 rfl ?_
  refine s_geti hG dX12_keepGifts_34 fl_RX12_568 (sk_k hsk 64 rfl) rfl ?_
  refine s_iconst hG dX12_keepGifts_37 ⟨by decide, by decide⟩ ?_
  refine s_iadd hG dX12_keepGifts_38 ?_
  refine s_puti hG dX12_keepGifts_39 fl_RX12_568 (fun h => by cases h) (sk_k hsk 64 rfl) rfl ?_
  cases hF
  exact s_vret hE dX12_keepGifts_42 rfl
-- X12_findGifts
theorem t_X12_findGifts_l2_j84 {d n0 s0 nF sF : Nat} {X : MX} {Ω : Nat → MS → Prop} {N : NN} {a1 : Int} {a2 : Int} {z1 : Int} {z2 : Int} (hsk : m_Sk X) (hd : 8 ≤ d) (hG : m_G d yX12_findGifts.cls yX12_findGifts.name cX12_findGifts 6 n0 s0 nF sF Ω) {out : ((NN × Int × Int) ⊕ (NN × Int))} (hK0 : ∀ s' : (NN × Int × Int), out = .inl s' → Ω 2 ([some (.inr (.inr 64)), some (.inl (s'.2.1)), some (.inl (s'.2.2)), none, none, none], [], s'.1, X)) (hK1 : ∀ t : (NN × Int), out = .inr t → Ω 91 ([some (.inr (.inr 64)), some (.inl t.2), none, none, none, none], [], t.1, X)) (hF : f_X12_findGifts_l2_j84 X N a1 a2 z1 z2 = some out) : Ω 84 ([some (.inr (.inr 64)), some (.inl a1), some (.inl a2), none, none, none], [(.inl z2), (.inl z1), (.inr (.inr 97))], N, X) := by
  unfold f_X12_findGifts_l2_j84 at hF
  obtain ⟨g11, hF⟩ := gd_some hF
  obtain ⟨g12, hF⟩ := gd_some hF
  refine s_zastj (j := z1.toNat) hG dX12_findGifts_84 (sk_K hsk 97 rfl) g11 rfl g12 ?_
  refine s_iinc hG dX12_findGifts_85 (by decide) rfl rfl ?_
  refine s_goto hG 2 dX12_findGifts_88 (by decide) ?_
  cases hF
  exact hK0 _ rfl
theorem t_X12_findGifts_l2_j83 {d n0 s0 nF sF : Nat} {X : MX} {Ω : Nat → MS → Prop} {N : NN} {a1 : Int} {a2 : Int} {z1 : Int} (hsk : m_Sk X) (hd : 8 ≤ d) (hG : m_G d yX12_findGifts.cls yX12_findGifts.name cX12_findGifts 6 n0 s0 nF sF Ω) {out : ((NN × Int × Int) ⊕ (NN × Int))} (hK0 : ∀ s' : (NN × Int × Int), out = .inl s' → Ω 2 ([some (.inr (.inr 64)), some (.inl (s'.2.1)), some (.inl (s'.2.2)), none, none, none], [], s'.1, X)) (hK1 : ∀ t : (NN × Int), out = .inr t → Ω 91 ([some (.inr (.inr 64)), some (.inl t.2), none, none, none, none], [], t.1, X)) (hF : f_X12_findGifts_l2_j83 X N a1 a2 z1 = some out) : Ω 83 ([some (.inr (.inr 64)), some (.inl a1), some (.inl a2), none, none, none], [(.inl z1), (.inr (.inr 97))], N, X) := by
  unfold f_X12_findGifts_l2_j83 at hF
  refine s_iconst hG dX12_findGifts_83 ⟨by decide, by decide⟩ ?_
  exact t_X12_findGifts_l2_j84 hsk hd hG hK0 hK1 hF
theorem t_X12_findGifts_b2 {d n0 s0 nF sF : Nat} {X : MX} {Ω : Nat → MS → Prop} {N : NN} {a1 : Int} {a2 : Int} (hsk : m_Sk X) (hd : 8 ≤ d) (hG : m_G d yX12_findGifts.cls yX12_findGifts.name cX12_findGifts 6 n0 s0 nF sF Ω) {out : ((NN × Int × Int) ⊕ (NN × Int))} (hK0 : ∀ s' : (NN × Int × Int), out = .inl s' → Ω 2 ([some (.inr (.inr 64)), some (.inl (s'.2.1)), some (.inl (s'.2.2)), none, none, none], [], s'.1, X)) (hK1 : ∀ t : (NN × Int), out = .inr t → Ω 91 ([some (.inr (.inr 64)), some (.inl t.2), none, none, none, none], [], t.1, X)) (hF : b_X12_findGifts_2 X N a1 a2 = some out) : Ω 2 ([some (.inr (.inr 64)), some (.inl a1), some (.inl a2), none, none, none], [], N, X) := by
  unfold b_X12_findGifts_2 at hF
  refine s_iload_n hG dX12_findGifts_2 rfl ?_
  refine s_sipush hG dX12_findGifts_3 sp_576 ⟨by decide, by decide⟩ ?_
  refine s_icmp_ge hG 91 dX12_findGifts_6 (by decide) (fun c10 => ?_) (fun c10 => ?_)
  · replace hF := Eq.trans (if_pos c10).symm hF
    refine s_iload_n hG dX12_findGifts_9 rfl ?_
    refine s_bipush hG dX12_findGifts_10 bp_36 ⟨by decide, by decide⟩ ?_
    refine s_idiv hG dX12_findGifts_12 (by decide) ?_
    refine s_istore_n hG dX12_findGifts_13 (by decide) rfl ?_
    refine s_iload_n hG dX12_findGifts_14 rfl ?_
    refine s_bipush hG dX12_findGifts_15 bp_6 ⟨by decide, by decide⟩ ?_
    refine s_idiv hG dX12_findGifts_17 (by decide) ?_
    refine s_bipush hG dX12_findGifts_18 bp_6 ⟨by decide, by decide⟩ ?_
    refine s_irem hG dX12_findGifts_20 (by decide) ?_
    refine s_istore hG dX12_findGifts_21 (by decide) rfl ?_
    refine s_iload_n hG dX12_findGifts_23 rfl ?_
    refine s_bipush hG dX12_findGifts_24 bp_6 ⟨by decide, by decide⟩ ?_
    refine s_irem hG dX12_findGifts_26 (by decide) ?_
    refine s_istore hG dX12_findGifts_27 (by decide) rfl ?_
    refine s_aload_n hG dX12_findGifts_29 rfl ?_
    refine s_getr (r := 97) hG dX12_findGifts_30 fl_RX12_142 (sk_k hsk 64 rfl) rfl (sk_R hsk 64 59 rfl) ?_
    refine s_iload_n hG dX12_findGifts_33 rfl ?_
    refine s_aload_n hG dX12_findGifts_34 rfl ?_
    refine s_iload_n hG dX12_findGifts_35 rfl ?_
    obtain ⟨o1, ho1, hF⟩ := bd_some hF
    refine s_callV (d' := d - 1) (ci := 12) (args := [.inl (m_div a2 36)]) hG (by omega) dX12_findGifts_36 cv_RX12_225 cw_X12_isGood rfl rfl (sk_k hsk 64 rfl) (Nat.le_of_ble_eq_true rfl) rfl (t_X12_isGood hsk (by omega) ho1) ?_
    refine s_if_eq hG 83 dX12_findGifts_39 (by decide) (fun c9 => ?_) (fun c9 => ?_)
    · replace hF := Eq.trans (if_pos c9).symm hF
      refine m_weak (ls1 := [some (.inr (.inr 64)), some (.inl a1), some (.inl a2), none, none, none]) hG ⟨rfl, ⟨rfl, ⟨rfl, trivial⟩⟩⟩ ?_
      exact t_X12_findGifts_l2_j83 hsk hd hG hK0 hK1 hF
    · replace hF := Eq.trans (if_neg c9).symm hF
      refine s_aload_n hG dX12_findGifts_42 rfl ?_
      refine s_iload hG dX12_findGifts_43 rfl ?_
      obtain ⟨o2, ho2, hF⟩ := bd_some hF
      refine s_callV (d' := d - 1) (ci := 12) (args := [.inl (m_rem (m_div a2 6) 6)]) hG (by omega) dX12_findGifts_45 cv_RX12_198 cw_X12_isLord rfl rfl (sk_k hsk 64 rfl) (Nat.le_of_ble_eq_true rfl) rfl (t_X12_isLord hsk (by omega) ho2) ?_
      refine s_if_eq hG 83 dX12_findGifts_48 (by decide) (fun c8 => ?_) (fun c8 => ?_)
      · replace hF := Eq.trans (if_pos c8).symm hF
        refine m_weak (ls1 := [some (.inr (.inr 64)), some (.inl a1), some (.inl a2), none, none, none]) hG ⟨rfl, ⟨rfl, ⟨rfl, trivial⟩⟩⟩ ?_
        exact t_X12_findGifts_l2_j83 hsk hd hG hK0 hK1 hF
      · replace hF := Eq.trans (if_neg c8).symm hF
        refine s_aload_n hG dX12_findGifts_51 rfl ?_
        refine s_iload hG dX12_findGifts_52 rfl ?_
        obtain ⟨o3, ho3, hF⟩ := bd_some hF
        refine s_callV (d' := d - 1) (ci := 12) (args := [.inl (m_rem a2 6)]) hG (by omega) dX12_findGifts_54 cv_RX12_198 cw_X12_isLord rfl rfl (sk_k hsk 64 rfl) (Nat.le_of_ble_eq_true rfl) rfl (t_X12_isLord hsk (by omega) ho3) ?_
        refine s_if_eq hG 83 dX12_findGifts_57 (by decide) (fun c7 => ?_) (fun c7 => ?_)
        · replace hF := Eq.trans (if_pos c7).symm hF
          refine m_weak (ls1 := [some (.inr (.inr 64)), some (.inl a1), some (.inl a2), none, none, none]) hG ⟨rfl, ⟨rfl, ⟨rfl, trivial⟩⟩⟩ ?_
          exact t_X12_findGifts_l2_j83 hsk hd hG hK0 hK1 hF
        · replace hF := Eq.trans (if_neg c7).symm hF
          refine s_iload hG dX12_findGifts_60 rfl ?_
          refine s_iload hG dX12_findGifts_62 rfl ?_
          refine s_icmp_eq hG 83 dX12_findGifts_64 (by decide) (fun c6 => ?_) (fun c6 => ?_)
          · replace hF := Eq.trans (if_pos c6).symm hF
            refine m_weak (ls1 := [some (.inr (.inr 64)), some (.inl a1), some (.inl a2), none, none, none]) hG ⟨rfl, ⟨rfl, ⟨rfl, trivial⟩⟩⟩ ?_
            exact t_X12_findGifts_l2_j83 hsk hd hG hK0 hK1 hF
          · replace hF := Eq.trans (if_neg c6).symm hF
            refine s_aload_n hG dX12_findGifts_67 rfl ?_
            refine s_iload_n hG dX12_findGifts_68 rfl ?_
            refine s_iload hG dX12_findGifts_69 rfl ?_
            refine s_iload hG dX12_findGifts_71 rfl ?_
            obtain ⟨o4, ho4, hF⟩ := bd_some hF
            refine s_callV (d' := d - 1) (ci := 12) (args := [.inl (m_div a2 36), .inl (m_rem (m_div a2 6) 6), .inl (m_rem a2 6)]) hG (by omega) dX12_findGifts_73 cv_RX12_448 cw_X12_isBarred rfl rfl (sk_k hsk 64 rfl) (Nat.le_of_ble_eq_true rfl) rfl (t_X12_isBarred hsk (by omega) ho4) ?_
            refine s_if_eq hG 83 dX12_findGifts_76 (by decide) (fun c5 => ?_) (fun c5 => ?_)
            · replace hF := Eq.trans (if_pos c5).symm hF
              refine m_weak (ls1 := [some (.inr (.inr 64)), some (.inl a1), some (.inl a2), none, none, none]) hG ⟨rfl, ⟨rfl, ⟨rfl, trivial⟩⟩⟩ ?_
              exact t_X12_findGifts_l2_j83 hsk hd hG hK0 hK1 hF
            · replace hF := Eq.trans (if_neg c5).symm hF
              refine s_iconst hG dX12_findGifts_79 ⟨by decide, by decide⟩ ?_
              refine s_goto hG 84 dX12_findGifts_80 (by decide) ?_
              refine m_weak (ls1 := [some (.inr (.inr 64)), some (.inl a1), some (.inl a2), none, none, none]) hG ⟨rfl, ⟨rfl, ⟨rfl, trivial⟩⟩⟩ ?_
              exact t_X12_findGifts_l2_j84 hsk hd hG hK0 hK1 hF
  · replace hF := Eq.trans (if_neg c10).symm hF
    cases hF
    refine m_weak (ls1 := [some (.inr (.inr 64)), some (.inl a1), none, none, none, none]) hG ⟨rfl, ⟨rfl, trivial⟩⟩ ?_
    exact hK1 _ rfl
theorem t_X12_findGifts_lp2 {d n0 s0 nF sF : Nat} {X : MX} {Ω : Nat → MS → Prop} {N : NN} {a1 : Int} {a2 : Int} (hsk : m_Sk X) (hd : 8 ≤ d) (hG : m_G d yX12_findGifts.cls yX12_findGifts.name cX12_findGifts 6 n0 s0 nF sF Ω) {t : (NN × Int)} (hK1 : Ω 91 ([some (.inr (.inr 64)), some (.inl t.2), none, none, none, none], [], t.1, X)) (hl : lp (fun s => b_X12_findGifts_2 X s.1 s.2.1 s.2.2) (N, a1, a2) = some t) : Ω 2 ([some (.inr (.inr 64)), some (.inl a1), some (.inl a2), none, none, none], [], N, X) := by
  refine lp_ok (P := fun s => Ω 2 ([some (.inr (.inr 64)), some (.inl s.2.1), some (.inl s.2.2), none, none, none], [], s.1, X)) (K := fun t => Ω 91 ([some (.inr (.inr 64)), some (.inl t.2), none, none, none, none], [], t.1, X)) (fun s out hF hK0 hK1 => ?_) hl hK1
  exact t_X12_findGifts_b2 hsk hd hG (out := out) (fun s' e => hK0 s' e) (fun t' e => hK1 t' e) hF
theorem t_X12_findGifts_b93 {d n0 s0 nF sF : Nat} {X : MX} {Ω : Nat → MS → Prop} {N : NN} {a1 : Int} {a2 : Int} (hsk : m_Sk X) (hd : 8 ≤ d) (hG : m_G d yX12_findGifts.cls yX12_findGifts.name cX12_findGifts 6 n0 s0 nF sF Ω) {out : ((NN × Int × Int) ⊕ (NN × Int))} (hK0 : ∀ s' : (NN × Int × Int), out = .inl s' → Ω 93 ([some (.inr (.inr 64)), some (.inl (s'.2.1)), some (.inl (s'.2.2)), none, none, none], [], s'.1, X)) (hK1 : ∀ t : (NN × Int), out = .inr t → Ω 121 ([some (.inr (.inr 64)), some (.inl t.2), none, none, none, none], [], t.1, X)) (hF : b_X12_findGifts_93 X N a1 a2 = some out) : Ω 93 ([some (.inr (.inr 64)), some (.inl a1), some (.inl a2), none, none, none], [], N, X) := by
  unfold b_X12_findGifts_93 at hF
  refine s_iload_n hG dX12_findGifts_93 rfl ?_
  refine s_aload_n hG dX12_findGifts_94 rfl ?_
  refine s_getr (r := 66) hG dX12_findGifts_95 fl_RX12_13 (sk_k hsk 64 rfl) rfl (sk_R hsk 64 3 rfl) ?_
  refine s_iconst hG dX12_findGifts_98 ⟨by decide, by decide⟩ ?_
  refine s_ialdj (j := 1) hG dX12_findGifts_99 (sk_K hsk 66 rfl) ⟨by decide, by decide⟩ rfl ?_
  refine s_icmp_ge hG 121 dX12_findGifts_100 (by decide) (fun c18 => ?_) (fun c18 => ?_)
  · replace hF := Eq.trans (if_pos c18).symm hF
    refine s_aload_n hG dX12_findGifts_103 rfl ?_
    refine s_getr (r := 98) hG dX12_findGifts_104 fl_RX12_145 (sk_k hsk 64 rfl) rfl (sk_R hsk 64 60 rfl) ?_
    refine s_iload_n hG dX12_findGifts_107 rfl ?_
    refine s_aload_n hG dX12_findGifts_108 rfl ?_
    refine s_iload_n hG dX12_findGifts_109 rfl ?_
    refine s_iconst hG dX12_findGifts_110 ⟨by decide, by decide⟩ ?_
    obtain ⟨o15, ho15, hF⟩ := bd_some hF
    refine s_callV (d' := d - 1) (ci := 12) (args := [.inl a2, .inl 0]) hG (by omega) dX12_findGifts_111 cv_RX12_190 cw_X12_ofGood rfl rfl (sk_k hsk 64 rfl) (Nat.le_of_ble_eq_true rfl) rfl (t_X12_ofGood hsk (by omega) ho15) ?_
    obtain ⟨g16, hF⟩ := gd_some hF
    refine s_iastj (j := a2.toNat) hG dX12_findGifts_114 (sk_K hsk 98 rfl) g16 rfl ?_
    refine s_iinc hG dX12_findGifts_115 (by decide) rfl rfl ?_
    refine s_goto hG 93 dX12_findGifts_118 (by decide) ?_
    cases hF
    exact hK0 _ rfl
  · replace hF := Eq.trans (if_neg c18).symm hF
    cases hF
    refine m_weak (ls1 := [some (.inr (.inr 64)), some (.inl a1), none, none, none, none]) hG ⟨rfl, ⟨rfl, trivial⟩⟩ ?_
    exact hK1 _ rfl
theorem t_X12_findGifts_lp93 {d n0 s0 nF sF : Nat} {X : MX} {Ω : Nat → MS → Prop} {N : NN} {a1 : Int} {a2 : Int} (hsk : m_Sk X) (hd : 8 ≤ d) (hG : m_G d yX12_findGifts.cls yX12_findGifts.name cX12_findGifts 6 n0 s0 nF sF Ω) {t : (NN × Int)} (hK1 : Ω 121 ([some (.inr (.inr 64)), some (.inl t.2), none, none, none, none], [], t.1, X)) (hl : lp (fun s => b_X12_findGifts_93 X s.1 s.2.1 s.2.2) (N, a1, a2) = some t) : Ω 93 ([some (.inr (.inr 64)), some (.inl a1), some (.inl a2), none, none, none], [], N, X) := by
  refine lp_ok (P := fun s => Ω 93 ([some (.inr (.inr 64)), some (.inl s.2.1), some (.inl s.2.2), none, none, none], [], s.1, X)) (K := fun t => Ω 121 ([some (.inr (.inr 64)), some (.inl t.2), none, none, none, none], [], t.1, X)) (fun s out hF hK0 hK1 => ?_) hl hK1
  exact t_X12_findGifts_b93 hsk hd hG (out := out) (fun s' e => hK0 s' e) (fun t' e => hK1 t' e) hF
theorem t_X12_findGifts_l152_j296 {d n0 s0 nF sF : Nat} {X : MX} {Ω : Nat → MS → Prop} {N : NN} {a1 : Int} {a2 : Int} {a3 : Int} (hsk : m_Sk X) (hd : 8 ≤ d) (hG : m_G d yX12_findGifts.cls yX12_findGifts.name cX12_findGifts 6 n0 s0 nF sF Ω) {out : ((NN × Int × Int) ⊕ NN)} (hK0 : ∀ s' : (NN × Int × Int), out = .inl s' → Ω 152 ([some (.inr (.inr 64)), some (.inl (s'.2.1)), some (.inl (s'.2.2)), none, none, none], [], s'.1, X)) (hK1 : ∀ t : NN, out = .inr t → Ω 311 ([none, none, none, none, none, none], [], t, X)) (hF : f_X12_findGifts_l152_j296 X N a1 a2 a3 = some out) : Ω 296 ([some (.inr (.inr 64)), some (.inl a1), some (.inl a2), some (.inl a3), none, none], [], N, X) := by
  unfold f_X12_findGifts_l152_j296 at hF
  refine s_aload_n hG dX12_findGifts_296 rfl ?_
  refine s_getr (r := 98) hG dX12_findGifts_297 fl_RX12_145 (sk_k hsk 64 rfl) rfl (sk_R hsk 64 60 rfl) ?_
  refine s_iload_n hG dX12_findGifts_300 rfl ?_
  refine s_aload_n hG dX12_findGifts_301 rfl ?_
  refine s_getr (r := 100) hG dX12_findGifts_302 fl_RX12_151 (sk_k hsk 64 rfl) rfl (sk_R hsk 64 62 rfl) ?_
  refine s_iload_n hG dX12_findGifts_305 rfl ?_
  obtain ⟨g52, hF⟩ := gd_some hF
  refine s_ialdj (j := a2.toNat) hG dX12_findGifts_306 (sk_K hsk 100 rfl) g52 rfl ?_
  obtain ⟨g53, hF⟩ := gd_some hF
  refine s_iastj (j := a3.toNat) hG dX12_findGifts_307 (sk_K hsk 98 rfl) g53 rfl ?_
  refine s_goto hG 152 dX12_findGifts_308 (by decide) ?_
  cases hF
  refine m_weak (ls1 := [some (.inr (.inr 64)), some (.inl a1), some (.inl a2), none, none, none]) hG ⟨rfl, ⟨rfl, ⟨rfl, trivial⟩⟩⟩ ?_
  exact hK0 _ rfl
theorem t_X12_findGifts_b152 {d n0 s0 nF sF : Nat} {X : MX} {Ω : Nat → MS → Prop} {N : NN} {a1 : Int} {a2 : Int} (hsk : m_Sk X) (hd : 8 ≤ d) (hG : m_G d yX12_findGifts.cls yX12_findGifts.name cX12_findGifts 6 n0 s0 nF sF Ω) {out : ((NN × Int × Int) ⊕ NN)} (hK0 : ∀ s' : (NN × Int × Int), out = .inl s' → Ω 152 ([some (.inr (.inr 64)), some (.inl (s'.2.1)), some (.inl (s'.2.2)), none, none, none], [], s'.1, X)) (hK1 : ∀ t : NN, out = .inr t → Ω 311 ([none, none, none, none, none, none], [], t, X)) (hF : b_X12_findGifts_152 X N a1 a2 = some out) : Ω 152 ([some (.inr (.inr 64)), some (.inl a1), some (.inl a2), none, none, none], [], N, X) := by
  unfold b_X12_findGifts_152 at hF
  refine s_iload_n hG dX12_findGifts_152 rfl ?_
  refine s_if_lt hG 311 dX12_findGifts_153 (by decide) (fun c51 => ?_) (fun c51 => ?_)
  · replace hF := Eq.trans (if_pos c51).symm hF
    cases hF
    refine m_weak (ls1 := [none, none, none, none, none, none]) hG trivial ?_
    exact hK1 _ rfl
  · replace hF := Eq.trans (if_neg c51).symm hF
    refine s_aload_n hG dX12_findGifts_156 rfl ?_
    refine s_getr (r := 99) hG dX12_findGifts_157 fl_RX12_148 (sk_k hsk 64 rfl) rfl (sk_R hsk 64 61 rfl) ?_
    refine s_iload_n hG dX12_findGifts_160 rfl ?_
    refine s_dup2 hG dX12_findGifts_161 rfl rfl ?_
    obtain ⟨g25, hF⟩ := gd_some hF
    refine s_ialdj (j := a2.toNat) hG dX12_findGifts_162 (sk_K hsk 99 rfl) g25 rfl ?_
    refine s_iconst hG dX12_findGifts_163 ⟨by decide, by decide⟩ ?_
    refine s_iadd hG dX12_findGifts_164 ?_
    obtain ⟨g26, hF⟩ := gd_some hF
    refine s_iastj (j := a2.toNat) hG dX12_findGifts_165 (sk_K hsk 99 rfl) g26 rfl ?_
    let N27 : NN := m_up N 99 a2.toNat (m_w ((N 99 a2.toNat) + 1))
    refine s_aload_n hG dX12_findGifts_166 rfl ?_
    refine s_getr (r := 99) hG dX12_findGifts_167 fl_RX12_148 (sk_k hsk 64 rfl) rfl (sk_R hsk 64 61 rfl) ?_
    refine s_iload_n hG dX12_findGifts_170 rfl ?_
    obtain ⟨g28, hF⟩ := gd_some hF
    refine s_ialdj (j := a2.toNat) hG dX12_findGifts_171 (sk_K hsk 99 rfl) g28 rfl ?_
    refine s_bipush hG dX12_findGifts_172 bp_6 ⟨by decide, by decide⟩ ?_
    refine s_aload_n hG dX12_findGifts_174 rfl ?_
    refine s_getr (r := 66) hG dX12_findGifts_175 fl_RX12_13 (sk_k hsk 64 rfl) rfl (sk_R hsk 64 3 rfl) ?_
    refine s_iconst hG dX12_findGifts_178 ⟨by decide, by decide⟩ ?_
    refine s_ialdj (j := 1) hG dX12_findGifts_179 (sk_K hsk 66 rfl) ⟨by decide, by decide⟩ rfl ?_
    refine s_imul hG dX12_findGifts_180 ?_
    refine s_icmp_ne hG 214 dX12_findGifts_181 (by decide) (fun c50 => ?_) (fun c50 => ?_)
    · replace hF := Eq.trans (if_pos c50).symm hF
      refine s_iinc hG dX12_findGifts_184 (by decide) rfl rfl ?_
      refine s_iload_n hG dX12_findGifts_187 rfl ?_
      refine s_if_lt hG 152 dX12_findGifts_188 (by decide) (fun c33 => ?_) (fun c33 => ?_)
      · replace hF := Eq.trans (if_pos c33).symm hF
        cases hF
        exact hK0 _ rfl
      · replace hF := Eq.trans (if_neg c33).symm hF
        refine s_aload_n hG dX12_findGifts_191 rfl ?_
        refine s_getr (r := 98) hG dX12_findGifts_192 fl_RX12_145 (sk_k hsk 64 rfl) rfl (sk_R hsk 64 60 rfl) ?_
        refine s_aload_n hG dX12_findGifts_195 rfl ?_
        refine s_getr (r := 99) hG dX12_findGifts_196 fl_RX12_148 (sk_k hsk 64 rfl) rfl (sk_R hsk 64 61 rfl) ?_
        refine s_iload_n hG dX12_findGifts_199 rfl ?_
        obtain ⟨g29, hF⟩ := gd_some hF
        refine s_ialdj (j := (m_w (a2 + (-1))).toNat) hG dX12_findGifts_200 (sk_K hsk 99 rfl) g29 rfl ?_
        refine s_bipush hG dX12_findGifts_201 bp_6 ⟨by decide, by decide⟩ ?_
        refine s_idiv hG dX12_findGifts_203 (by decide) ?_
        refine s_aload_n hG dX12_findGifts_204 rfl ?_
        refine s_getr (r := 100) hG dX12_findGifts_205 fl_RX12_151 (sk_k hsk 64 rfl) rfl (sk_R hsk 64 62 rfl) ?_
        refine s_iload_n hG dX12_findGifts_208 rfl ?_
        obtain ⟨g30, hF⟩ := gd_some hF
        refine s_ialdj (j := (m_w (a2 + (-1))).toNat) hG dX12_findGifts_209 (sk_K hsk 100 rfl) g30 rfl ?_
        obtain ⟨g31, hF⟩ := gd_some hF
        refine s_iastj (j := (m_div (N27 99 ((m_w (a2 + (-1))).toNat)) 6).toNat) hG dX12_findGifts_210 (sk_K hsk 98 rfl) g31 rfl ?_
        refine s_goto hG 152 dX12_findGifts_211 (by decide) ?_
        cases hF
        exact hK0 _ rfl
    · replace hF := Eq.trans (if_neg c50).symm hF
      refine s_aload_n hG dX12_findGifts_214 rfl ?_
      refine s_aload_n hG dX12_findGifts_215 rfl ?_
      refine s_getr (r := 99) hG dX12_findGifts_216 fl_RX12_148 (sk_k hsk 64 rfl) rfl (sk_R hsk 64 61 rfl) ?_
      refine s_iload_n hG dX12_findGifts_219 rfl ?_
      obtain ⟨g34, hF⟩ := gd_some hF
      refine s_ialdj (j := a2.toNat) hG dX12_findGifts_220 (sk_K hsk 99 rfl) g34 rfl ?_
      obtain ⟨o35, ho35, hF⟩ := bd_some hF
      refine s_callV (d' := d - 1) (ci := 12) (args := [.inl (N27 99 a2.toNat)]) hG (by omega) dX12_findGifts_221 cv_RX12_577 cw_X12_canBe rfl rfl (sk_k hsk 64 rfl) (Nat.le_of_ble_eq_true rfl) rfl (t_X12_canBe hsk (by omega) ho35) ?_
      refine s_if_eq hG 152 dX12_findGifts_224 (by decide) (fun c49 => ?_) (fun c49 => ?_)
      · replace hF := Eq.trans (if_pos c49).symm hF
        cases hF
        exact hK0 _ rfl
      · replace hF := Eq.trans (if_neg c49).symm hF
        refine s_aload_n hG dX12_findGifts_227 rfl ?_
        refine s_getr (r := 99) hG dX12_findGifts_228 fl_RX12_148 (sk_k hsk 64 rfl) rfl (sk_R hsk 64 61 rfl) ?_
        refine s_iload_n hG dX12_findGifts_231 rfl ?_
        obtain ⟨g36, hF⟩ := gd_some hF
        refine s_ialdj (j := a2.toNat) hG dX12_findGifts_232 (sk_K hsk 99 rfl) g36 rfl ?_
        refine s_bipush hG dX12_findGifts_233 bp_6 ⟨by decide, by decide⟩ ?_
        refine s_idiv hG dX12_findGifts_235 (by decide) ?_
        refine s_istore_n hG dX12_findGifts_236 (by decide) rfl ?_
        refine s_aload_n hG dX12_findGifts_237 rfl ?_
        refine s_getr (r := 100) hG dX12_findGifts_238 fl_RX12_151 (sk_k hsk 64 rfl) rfl (sk_R hsk 64 62 rfl) ?_
        refine s_iload_n hG dX12_findGifts_241 rfl ?_
        refine s_aload_n hG dX12_findGifts_242 rfl ?_
        refine s_getr (r := 98) hG dX12_findGifts_243 fl_RX12_145 (sk_k hsk 64 rfl) rfl (sk_R hsk 64 60 rfl) ?_
        refine s_iload_n hG dX12_findGifts_246 rfl ?_
        obtain ⟨g37, hF⟩ := gd_some hF
        refine s_ialdj (j := (m_div (N27 99 a2.toNat) 6).toNat) hG dX12_findGifts_247 (sk_K hsk 98 rfl) g37 rfl ?_
        obtain ⟨g38, hF⟩ := gd_some hF
        refine s_iastj (j := a2.toNat) hG dX12_findGifts_248 (sk_K hsk 100 rfl) g38 rfl ?_
        refine s_aload_n hG dX12_findGifts_249 rfl ?_
        refine s_getr (r := 98) hG dX12_findGifts_250 fl_RX12_145 (sk_k hsk 64 rfl) rfl (sk_R hsk 64 60 rfl) ?_
        refine s_iload_n hG dX12_findGifts_253 rfl ?_
        refine s_aload_n hG dX12_findGifts_254 rfl ?_
        refine s_getr (r := 99) hG dX12_findGifts_255 fl_RX12_148 (sk_k hsk 64 rfl) rfl (sk_R hsk 64 61 rfl) ?_
        refine s_iload_n hG dX12_findGifts_258 rfl ?_
        obtain ⟨g40, hF⟩ := gd_some hF
        refine s_ialdj (j := a2.toNat) hG dX12_findGifts_259 (sk_K hsk 99 rfl) g40 rfl ?_
        refine s_bipush hG dX12_findGifts_260 bp_6 ⟨by decide, by decide⟩ ?_
        refine s_irem hG dX12_findGifts_262 (by decide) ?_
        obtain ⟨g41, hF⟩ := gd_some hF
        refine s_iastj (j := (m_div (N27 99 a2.toNat) 6).toNat) hG dX12_findGifts_263 (sk_K hsk 98 rfl) g41 rfl ?_
        refine s_iload_n hG dX12_findGifts_264 rfl ?_
        refine s_iload_n hG dX12_findGifts_265 rfl ?_
        refine s_iconst hG dX12_findGifts_266 ⟨by decide, by decide⟩ ?_
        refine s_isub hG dX12_findGifts_267 ?_
        refine s_icmp_ge hG 284 dX12_findGifts_268 (by decide) (fun c48 => ?_) (fun c48 => ?_)
        · replace hF := Eq.trans (if_pos c48).symm hF
          refine s_iinc hG dX12_findGifts_271 (by decide) rfl rfl ?_
          refine s_aload_n hG dX12_findGifts_274 rfl ?_
          refine s_getr (r := 99) hG dX12_findGifts_275 fl_RX12_148 (sk_k hsk 64 rfl) rfl (sk_R hsk 64 61 rfl) ?_
          refine s_iload_n hG dX12_findGifts_278 rfl ?_
          refine s_iconst hG dX12_findGifts_279 ⟨by decide, by decide⟩ ?_
          obtain ⟨g43, hF⟩ := gd_some hF
          refine s_iastj (j := (m_w (a2 + 1)).toNat) hG dX12_findGifts_280 (sk_K hsk 99 rfl) g43 rfl ?_
          refine s_goto hG 308 dX12_findGifts_281 (by decide) ?_
          refine s_goto hG 152 dX12_findGifts_308 (by decide) ?_
          cases hF
          refine m_weak (ls1 := [some (.inr (.inr 64)), some (.inl a1), some (.inl (m_w (a2 + 1))), none, none, none]) hG ⟨rfl, ⟨rfl, ⟨rfl, trivial⟩⟩⟩ ?_
          exact hK0 _ rfl
        · replace hF := Eq.trans (if_neg c48).symm hF
          refine s_aload_n hG dX12_findGifts_284 rfl ?_
          obtain ⟨o45, ho45, hF⟩ := bd_some hF
          refine s_callV (d' := d - 1) (ci := 12) (args := []) hG (by omega) dX12_findGifts_285 cv_RX12_571 cw_X12_isTold rfl rfl (sk_k hsk 64 rfl) (Nat.le_of_ble_eq_true rfl) rfl (t_X12_isTold hsk (by omega) ho45) ?_
          refine s_if_eq hG 296 dX12_findGifts_288 (by decide) (fun c47 => ?_) (fun c47 => ?_)
          · replace hF := Eq.trans (if_pos c47).symm hF
            exact t_X12_findGifts_l152_j296 hsk hd hG hK0 hK1 hF
          · replace hF := Eq.trans (if_neg c47).symm hF
            refine s_aload_n hG dX12_findGifts_291 rfl ?_
            refine s_iload_n hG dX12_findGifts_292 rfl ?_
            obtain ⟨o46, ho46, hF⟩ := bd_some hF
            refine s_callV (d' := d - 1) (ci := 12) (args := [.inl a1]) hG (by omega) dX12_findGifts_293 cv_RX12_574 cw_X12_keepGifts rfl rfl (sk_k hsk 64 rfl) (Nat.le_of_ble_eq_true rfl) rfl (t_X12_keepGifts hsk (by omega) ho46) ?_
            exact t_X12_findGifts_l152_j296 hsk hd hG hK0 hK1 hF
theorem t_X12_findGifts_lp152 {d n0 s0 nF sF : Nat} {X : MX} {Ω : Nat → MS → Prop} {N : NN} {a1 : Int} {a2 : Int} (hsk : m_Sk X) (hd : 8 ≤ d) (hG : m_G d yX12_findGifts.cls yX12_findGifts.name cX12_findGifts 6 n0 s0 nF sF Ω) {t : NN} (hK1 : Ω 311 ([none, none, none, none, none, none], [], t, X)) (hl : lp (fun s => b_X12_findGifts_152 X s.1 s.2.1 s.2.2) (N, a1, a2) = some t) : Ω 152 ([some (.inr (.inr 64)), some (.inl a1), some (.inl a2), none, none, none], [], N, X) := by
  refine lp_ok (P := fun s => Ω 152 ([some (.inr (.inr 64)), some (.inl s.2.1), some (.inl s.2.2), none, none, none], [], s.1, X)) (K := fun t => Ω 311 ([none, none, none, none, none, none], [], t, X)) (fun s out hF hK0 hK1 => ?_) hl hK1
  exact t_X12_findGifts_b152 hsk hd hG (out := out) (fun s' e => hK0 s' e) (fun t' e => hK1 t' e) hF
theorem t_X12_findGifts {d : Nat} {X : MX} {N : NN} {a1 : Int} {out : NN} (hsk : m_Sk X) (hd : 8 ≤ d) (hF : f_X12_findGifts X N a1 = some out) : m_Call d yX12_findGifts cX12_findGifts 6 none [(.inr (.inr 64)), (.inl a1)] N X none out X := by
  refine m_mk (ls0 := [some (.inr (.inr 64)), some (.inl a1), none, none, none, none]) (by decide) rfl (Nat.le_of_ble_eq_true rfl) (Nat.le_refl _) (Nat.le_refl _) (fun Ω hE => ?_)
  have hG := hE.G
  unfold f_X12_findGifts at hF
  refine s_iconst hG dX12_findGifts_0 ⟨by decide, by decide⟩ ?_
  refine s_istore_n hG dX12_findGifts_1 (by decide) rfl ?_
  obtain ⟨o14, hlo14, hF⟩ := bd_some hF
  refine t_X12_findGifts_lp2 hsk hd hG ?_ hlo14
  refine s_iconst hG dX12_findGifts_91 ⟨by decide, by decide⟩ ?_
  refine s_istore_n hG dX12_findGifts_92 (by decide) rfl ?_
  obtain ⟨o19, hlo19, hF⟩ := bd_some hF
  refine t_X12_findGifts_lp93 hsk hd hG ?_ hlo19
  refine s_aload_n hG dX12_findGifts_121 rfl ?_
  refine s_iconst hG dX12_findGifts_122 ⟨by decide, by decide⟩ ?_
  refine s_puti hG dX12_findGifts_123 fl_RX12_568 (fun h => by cases h) (sk_k hsk 64 rfl) rfl ?_
  refine s_iload_n hG dX12_findGifts_126 rfl ?_
  refine s_if_ne hG 143 dX12_findGifts_127 (by decide) (fun c56 => ?_) (fun c56 => ?_)
  · replace hF := Eq.trans (if_pos c56).symm hF
    refine s_aload_n hG dX12_findGifts_130 rfl ?_
    obtain ⟨o21, ho21, hF⟩ := bd_some hF
    refine s_callV (d' := d - 1) (ci := 12) (args := []) hG (by omega) dX12_findGifts_131 cv_RX12_571 cw_X12_isTold rfl rfl (sk_k hsk 64 rfl) (Nat.le_of_ble_eq_true rfl) rfl (t_X12_isTold hsk (by omega) ho21) ?_
    refine s_if_eq hG 142 dX12_findGifts_134 (by decide) (fun c23 => ?_) (fun c23 => ?_)
    · replace hF := Eq.trans (if_pos c23).symm hF
      cases hF
      exact s_vret hE dX12_findGifts_142 rfl
    · replace hF := Eq.trans (if_neg c23).symm hF
      refine s_aload_n hG dX12_findGifts_137 rfl ?_
      refine s_iconst hG dX12_findGifts_138 ⟨by decide, by decide⟩ ?_
      obtain ⟨o22, ho22, hF⟩ := bd_some hF
      refine s_callV (d' := d - 1) (ci := 12) (args := [.inl 0]) hG (by omega) dX12_findGifts_139 cv_RX12_574 cw_X12_keepGifts rfl rfl (sk_k hsk 64 rfl) (Nat.le_of_ble_eq_true rfl) rfl (t_X12_keepGifts hsk (by omega) ho22) ?_
      cases hF
      exact s_vret hE dX12_findGifts_142 rfl
  · replace hF := Eq.trans (if_neg c56).symm hF
    refine s_iconst hG dX12_findGifts_143 ⟨by decide, by decide⟩ ?_
    refine s_istore_n hG dX12_findGifts_144 (by decide) rfl ?_
    refine s_aload_n hG dX12_findGifts_145 rfl ?_
    refine s_getr (r := 99) hG dX12_findGifts_146 fl_RX12_148 (sk_k hsk 64 rfl) rfl (sk_R hsk 64 61 rfl) ?_
    refine s_iconst hG dX12_findGifts_149 ⟨by decide, by decide⟩ ?_
    refine s_iconst hG dX12_findGifts_150 ⟨by decide, by decide⟩ ?_
    refine s_iastj (j := 0) hG dX12_findGifts_151 (sk_K hsk 99 rfl) ⟨by decide, by decide⟩ rfl ?_
    obtain ⟨o55, hlo55, hF⟩ := bd_some hF
    refine t_X12_findGifts_lp152 hsk hd hG ?_ hlo55
    cases hF
    exact s_vret hE dX12_findGifts_311 rfl
-- X12_isFresh
theorem t_X12_isFresh_l23_j52 {d n0 s0 nF sF : Nat} {X : MX} {N : NN} {Ω : Nat → MS → Prop} {a1 : Int} {a3 : Int} {z0 : Int} (hsk : m_Sk X) (hd : 1 ≤ d) (hG : m_G d yX12_isFresh.cls yX12_isFresh.name cX12_isFresh 4 n0 s0 nF sF Ω) {out : ((Int × Int × Int) ⊕ Int)} (hK0 : ∀ s' : (Int × Int × Int), out = .inl s' → Ω 23 ([some (.inr (.inr 64)), some (.inl (s'.1)), some (.inl (s'.2.1)), some (.inl (s'.2.2))], [], N, X)) (hK1 : ∀ t : Int, out = .inr t → Ω 59 ([none, none, some (.inl t), none], [], N, X)) (hF : f_X12_isFresh_l23_j52 X N a1 a3 z0 = some out) : Ω 52 ([some (.inr (.inr 64)), some (.inl a1), none, some (.inl a3)], [(.inl z0)], N, X) := by
  unfold f_X12_isFresh_l23_j52 at hF
  refine s_istore_n hG dX12_isFresh_52 (by decide) rfl ?_
  refine s_iinc hG dX12_isFresh_53 (by decide) rfl rfl ?_
  refine s_goto hG 23 dX12_isFresh_56 (by decide) ?_
  cases hF
  exact hK0 _ rfl
theorem t_X12_isFresh_l23_j51 {d n0 s0 nF sF : Nat} {X : MX} {N : NN} {Ω : Nat → MS → Prop} {a1 : Int} {a3 : Int} (hsk : m_Sk X) (hd : 1 ≤ d) (hG : m_G d yX12_isFresh.cls yX12_isFresh.name cX12_isFresh 4 n0 s0 nF sF Ω) {out : ((Int × Int × Int) ⊕ Int)} (hK0 : ∀ s' : (Int × Int × Int), out = .inl s' → Ω 23 ([some (.inr (.inr 64)), some (.inl (s'.1)), some (.inl (s'.2.1)), some (.inl (s'.2.2))], [], N, X)) (hK1 : ∀ t : Int, out = .inr t → Ω 59 ([none, none, some (.inl t), none], [], N, X)) (hF : f_X12_isFresh_l23_j51 X N a1 a3 = some out) : Ω 51 ([some (.inr (.inr 64)), some (.inl a1), none, some (.inl a3)], [], N, X) := by
  unfold f_X12_isFresh_l23_j51 at hF
  refine s_iconst hG dX12_isFresh_51 ⟨by decide, by decide⟩ ?_
  exact t_X12_isFresh_l23_j52 hsk hd hG hK0 hK1 hF
theorem t_X12_isFresh_b23 {d n0 s0 nF sF : Nat} {X : MX} {N : NN} {Ω : Nat → MS → Prop} {a1 : Int} {a2 : Int} {a3 : Int} (hsk : m_Sk X) (hd : 1 ≤ d) (hG : m_G d yX12_isFresh.cls yX12_isFresh.name cX12_isFresh 4 n0 s0 nF sF Ω) {out : ((Int × Int × Int) ⊕ Int)} (hK0 : ∀ s' : (Int × Int × Int), out = .inl s' → Ω 23 ([some (.inr (.inr 64)), some (.inl (s'.1)), some (.inl (s'.2.1)), some (.inl (s'.2.2))], [], N, X)) (hK1 : ∀ t : Int, out = .inr t → Ω 59 ([none, none, some (.inl t), none], [], N, X)) (hF : b_X12_isFresh_23 X N a1 a2 a3 = some out) : Ω 23 ([some (.inr (.inr 64)), some (.inl a1), some (.inl a2), some (.inl a3)], [], N, X) := by
  unfold b_X12_isFresh_23 at hF
  refine s_iload_n hG dX12_isFresh_23 rfl ?_
  refine s_iload_n hG dX12_isFresh_24 rfl ?_
  refine s_icmp_ge hG 59 dX12_isFresh_25 (by decide) (fun c7 => ?_) (fun c7 => ?_)
  · replace hF := Eq.trans (if_pos c7).symm hF
    refine s_iload_n hG dX12_isFresh_28 rfl ?_
    refine s_if_eq hG 51 dX12_isFresh_29 (by decide) (fun c6 => ?_) (fun c6 => ?_)
    · replace hF := Eq.trans (if_pos c6).symm hF
      refine m_weak (ls1 := [some (.inr (.inr 64)), some (.inl a1), none, some (.inl a3)]) hG ⟨rfl, ⟨rfl, ⟨rfl, trivial⟩⟩⟩ ?_
      exact t_X12_isFresh_l23_j51 hsk hd hG hK0 hK1 hF
    · replace hF := Eq.trans (if_neg c6).symm hF
      refine s_aload_n hG dX12_isFresh_32 rfl ?_
      refine s_getr (r := 93) hG dX12_isFresh_33 fl_RX12_130 (sk_k hsk 64 rfl) rfl (sk_R hsk 64 50 rfl) ?_
      refine s_iload_n hG dX12_isFresh_36 rfl ?_
      obtain ⟨g3, hF⟩ := gd_some hF
      refine s_ialdj (j := a3.toNat) hG dX12_isFresh_37 (sk_K hsk 93 rfl) g3 rfl ?_
      refine s_aload_n hG dX12_isFresh_38 rfl ?_
      refine s_getr (r := 93) hG dX12_isFresh_39 fl_RX12_130 (sk_k hsk 64 rfl) rfl (sk_R hsk 64 50 rfl) ?_
      refine s_iload_n hG dX12_isFresh_42 rfl ?_
      obtain ⟨g4, hF⟩ := gd_some hF
      refine s_ialdj (j := a1.toNat) hG dX12_isFresh_43 (sk_K hsk 93 rfl) g4 rfl ?_
      refine s_icmp_eq hG 51 dX12_isFresh_44 (by decide) (fun c5 => ?_) (fun c5 => ?_)
      · replace hF := Eq.trans (if_pos c5).symm hF
        refine m_weak (ls1 := [some (.inr (.inr 64)), some (.inl a1), none, some (.inl a3)]) hG ⟨rfl, ⟨rfl, ⟨rfl, trivial⟩⟩⟩ ?_
        exact t_X12_isFresh_l23_j51 hsk hd hG hK0 hK1 hF
      · replace hF := Eq.trans (if_neg c5).symm hF
        refine s_iconst hG dX12_isFresh_47 ⟨by decide, by decide⟩ ?_
        refine s_goto hG 52 dX12_isFresh_48 (by decide) ?_
        refine m_weak (ls1 := [some (.inr (.inr 64)), some (.inl a1), none, some (.inl a3)]) hG ⟨rfl, ⟨rfl, ⟨rfl, trivial⟩⟩⟩ ?_
        exact t_X12_isFresh_l23_j52 hsk hd hG hK0 hK1 hF
  · replace hF := Eq.trans (if_neg c7).symm hF
    cases hF
    refine m_weak (ls1 := [none, none, some (.inl a2), none]) hG ⟨rfl, trivial⟩ ?_
    exact hK1 _ rfl
theorem t_X12_isFresh_lp23 {d n0 s0 nF sF : Nat} {X : MX} {N : NN} {Ω : Nat → MS → Prop} {a1 : Int} {a2 : Int} {a3 : Int} (hsk : m_Sk X) (hd : 1 ≤ d) (hG : m_G d yX12_isFresh.cls yX12_isFresh.name cX12_isFresh 4 n0 s0 nF sF Ω) {t : Int} (hK1 : Ω 59 ([none, none, some (.inl t), none], [], N, X)) (hl : lp (fun s => b_X12_isFresh_23 X N s.1 s.2.1 s.2.2) (a1, a2, a3) = some t) : Ω 23 ([some (.inr (.inr 64)), some (.inl a1), some (.inl a2), some (.inl a3)], [], N, X) := by
  refine lp_ok (P := fun s => Ω 23 ([some (.inr (.inr 64)), some (.inl s.1), some (.inl s.2.1), some (.inl s.2.2)], [], N, X)) (K := fun t => Ω 59 ([none, none, some (.inl t), none], [], N, X)) (fun s out hF hK0 hK1 => ?_) hl hK1
  exact t_X12_isFresh_b23 hsk hd hG (out := out) (fun s' e => hK0 s' e) (fun t' e => hK1 t' e) hF
theorem t_X12_isFresh_j20 {d n0 s0 nF sF : Nat} {X : MX} {N : NN} {Ω : Nat → MS → Prop} {a1 : Int} {z0 : Int} (hsk : m_Sk X) (hd : 1 ≤ d) (hG : m_G d yX12_isFresh.cls yX12_isFresh.name cX12_isFresh 4 n0 s0 nF sF Ω) {out : Int} (hE : m_Gd d yX12_isFresh cX12_isFresh 4 (some .boolean) X (some (.inl out)) N X Ω) (hF : f_X12_isFresh_j20 X N a1 z0 = some out) : Ω 20 ([some (.inr (.inr 64)), some (.inl a1), none, none], [(.inl z0)], N, X) := by
  unfold f_X12_isFresh_j20 at hF
  refine s_istore_n hG dX12_isFresh_20 (by decide) rfl ?_
  refine s_iconst hG dX12_isFresh_21 ⟨by decide, by decide⟩ ?_
  refine s_istore_n hG dX12_isFresh_22 (by decide) rfl ?_
  obtain ⟨o8, hlo8, hF⟩ := bd_some hF
  refine t_X12_isFresh_lp23 hsk hd hG ?_ hlo8
  refine s_iload_n hG dX12_isFresh_59 rfl ?_
  obtain ⟨g9, hF⟩ := gd_some hF
  cases hF
  exact s_zret hE dX12_isFresh_60 rfl g9
theorem t_X12_isFresh {d : Nat} {X : MX} {N : NN} {a1 : Int} {out : Int} (hsk : m_Sk X) (hd : 1 ≤ d) (hF : f_X12_isFresh X N a1 = some out) : m_Call d yX12_isFresh cX12_isFresh 4 (some .boolean) [(.inr (.inr 64)), (.inl a1)] N X (some (.inl out)) N X := by
  refine m_mk (ls0 := [some (.inr (.inr 64)), some (.inl a1), none, none]) (by decide) rfl (Nat.le_of_ble_eq_true rfl) (Nat.le_refl _) (Nat.le_refl _) (fun Ω hE => ?_)
  have hG := hE.G
  unfold f_X12_isFresh at hF
  refine s_aload_n hG dX12_isFresh_0 rfl ?_
  refine s_getr (r := 93) hG dX12_isFresh_1 fl_RX12_130 (sk_k hsk 64 rfl) rfl (sk_R hsk 64 50 rfl) ?_
  refine s_iload_n hG dX12_isFresh_4 rfl ?_
  obtain ⟨g1, hF⟩ := gd_some hF
  refine s_ialdj (j := a1.toNat) hG dX12_isFresh_5 (sk_K hsk 93 rfl) g1 rfl ?_
  refine s_aload_n hG dX12_isFresh_6 rfl ?_
  refine s_getr (r := 93) hG dX12_isFresh_7 fl_RX12_130 (sk_k hsk 64 rfl) rfl (sk_R hsk 64 50 rfl) ?_
  refine s_iconst hG dX12_isFresh_10 ⟨by decide, by decide⟩ ?_
  refine s_ialdj (j := 0) hG dX12_isFresh_11 (sk_K hsk 93 rfl) ⟨by decide, by decide⟩ rfl ?_
  refine s_icmp_le hG 19 dX12_isFresh_12 (by decide) (fun c2 => ?_) (fun c2 => ?_)
  · replace hF := Eq.trans (if_pos c2).symm hF
    refine s_iconst hG dX12_isFresh_15 ⟨by decide, by decide⟩ ?_
    refine s_goto hG 20 dX12_isFresh_16 (by decide) ?_
    exact t_X12_isFresh_j20 hsk hd hG hE hF
  · replace hF := Eq.trans (if_neg c2).symm hF
    refine s_iconst hG dX12_isFresh_19 ⟨by decide, by decide⟩ ?_
    exact t_X12_isFresh_j20 hsk hd hG hE hF
-- X12_weighRing
theorem t_X12_weighRing_b4 {d n0 s0 nF sF : Nat} {X : MX} {Ω : Nat → MS → Prop} {N : NN} {a1 : Int} {a2 : Int} {a3 : Int} (hsk : m_Sk X) (hd : 1 ≤ d) (hG : m_G d yX12_weighRing.cls yX12_weighRing.name cX12_weighRing 4 n0 s0 nF sF Ω) {out : ((NN × Int × Int × Int) ⊕ (NN × Int × Int))} (hK0 : ∀ s' : (NN × Int × Int × Int), out = .inl s' → Ω 4 ([some (.inr (.inr 64)), some (.inl (s'.2.1)), some (.inl (s'.2.2.1)), some (.inl (s'.2.2.2))], [], s'.1, X)) (hK1 : ∀ t : (NN × Int × Int), out = .inr t → Ω 26 ([some (.inr (.inr 64)), some (.inl t.2.1), some (.inl t.2.2), none], [], t.1, X)) (hF : b_X12_weighRing_4 X N a1 a2 a3 = some out) : Ω 4 ([some (.inr (.inr 64)), some (.inl a1), some (.inl a2), some (.inl a3)], [], N, X) := by
  unfold b_X12_weighRing_4 at hF
  refine s_iload_n hG dX12_weighRing_4 rfl ?_
  refine s_iload_n hG dX12_weighRing_5 rfl ?_
  refine s_icmp_ge hG 26 dX12_weighRing_6 (by decide) (fun c2 => ?_) (fun c2 => ?_)
  · replace hF := Eq.trans (if_pos c2).symm hF
    refine s_iload_n hG dX12_weighRing_9 rfl ?_
    refine s_iconst hG dX12_weighRing_10 ⟨by decide, by decide⟩ ?_
    refine s_aload_n hG dX12_weighRing_11 rfl ?_
    refine s_getr (r := 93) hG dX12_weighRing_12 fl_RX12_130 (sk_k hsk 64 rfl) rfl (sk_R hsk 64 50 rfl) ?_
    refine s_iload_n hG dX12_weighRing_15 rfl ?_
    obtain ⟨g1, hF⟩ := gd_some hF
    refine s_ialdj (j := a3.toNat) hG dX12_weighRing_16 (sk_K hsk 93 rfl) g1 rfl ?_
    refine s_ishl hG dX12_weighRing_17 ?_
    refine s_ior hG dX12_weighRing_18 ?_
    refine s_istore_n hG dX12_weighRing_19 (by decide) rfl ?_
    refine s_iinc hG dX12_weighRing_20 (by decide) rfl rfl ?_
    refine s_goto hG 4 dX12_weighRing_23 (by decide) ?_
    cases hF
    exact hK0 _ rfl
  · replace hF := Eq.trans (if_neg c2).symm hF
    cases hF
    refine m_weak (ls1 := [some (.inr (.inr 64)), some (.inl a1), some (.inl a2), none]) hG ⟨rfl, ⟨rfl, ⟨rfl, trivial⟩⟩⟩ ?_
    exact hK1 _ rfl
theorem t_X12_weighRing_lp4 {d n0 s0 nF sF : Nat} {X : MX} {Ω : Nat → MS → Prop} {N : NN} {a1 : Int} {a2 : Int} {a3 : Int} (hsk : m_Sk X) (hd : 1 ≤ d) (hG : m_G d yX12_weighRing.cls yX12_weighRing.name cX12_weighRing 4 n0 s0 nF sF Ω) {t : (NN × Int × Int)} (hK1 : Ω 26 ([some (.inr (.inr 64)), some (.inl t.2.1), some (.inl t.2.2), none], [], t.1, X)) (hl : lp (fun s => b_X12_weighRing_4 X s.1 s.2.1 s.2.2.1 s.2.2.2) (N, a1, a2, a3) = some t) : Ω 4 ([some (.inr (.inr 64)), some (.inl a1), some (.inl a2), some (.inl a3)], [], N, X) := by
  refine lp_ok (P := fun s => Ω 4 ([some (.inr (.inr 64)), some (.inl s.2.1), some (.inl s.2.2.1), some (.inl s.2.2.2)], [], s.1, X)) (K := fun t => Ω 26 ([some (.inr (.inr 64)), some (.inl t.2.1), some (.inl t.2.2), none], [], t.1, X)) (fun s out hF hK0 hK1 => ?_) hl hK1
  exact t_X12_weighRing_b4 hsk hd hG (out := out) (fun s' e => hK0 s' e) (fun t' e => hK1 t' e) hF
theorem t_X12_weighRing_b62 {d n0 s0 nF sF : Nat} {X : MX} {Ω : Nat → MS → Prop} {N : NN} {a1 : Int} {a3 : Int} (hsk : m_Sk X) (hd : 1 ≤ d) (hG : m_G d yX12_weighRing.cls yX12_weighRing.name cX12_weighRing 4 n0 s0 nF sF Ω) {out : ((NN × Int × Int) ⊕ NN)} (hK0 : ∀ s' : (NN × Int × Int), out = .inl s' → Ω 62 ([some (.inr (.inr 64)), some (.inl (s'.2.1)), none, some (.inl (s'.2.2))], [], s'.1, X)) (hK1 : ∀ t : NN, out = .inr t → Ω 85 ([none, none, none, none], [], t, X)) (hF : b_X12_weighRing_62 X N a1 a3 = some out) : Ω 62 ([some (.inr (.inr 64)), some (.inl a1), none, some (.inl a3)], [], N, X) := by
  unfold b_X12_weighRing_62 at hF
  refine s_iload_n hG dX12_weighRing_62 rfl ?_
  refine s_iload_n hG dX12_weighRing_63 rfl ?_
  refine s_icmp_ge hG 85 dX12_weighRing_64 (by decide) (fun c12 => ?_) (fun c12 => ?_)
  · replace hF := Eq.trans (if_pos c12).symm hF
    refine s_aload_n hG dX12_weighRing_67 rfl ?_
    refine s_getr (r := 96) hG dX12_weighRing_68 fl_RX12_139 (sk_k hsk 64 rfl) rfl (sk_R hsk 64 58 rfl) ?_
    refine s_iload_n hG dX12_weighRing_71 rfl ?_
    refine s_aload_n hG dX12_weighRing_72 rfl ?_
    refine s_getr (r := 93) hG dX12_weighRing_73 fl_RX12_130 (sk_k hsk 64 rfl) rfl (sk_R hsk 64 50 rfl) ?_
    refine s_iload_n hG dX12_weighRing_76 rfl ?_
    obtain ⟨g9, hF⟩ := gd_some hF
    refine s_ialdj (j := a3.toNat) hG dX12_weighRing_77 (sk_K hsk 93 rfl) g9 rfl ?_
    obtain ⟨g10, hF⟩ := gd_some hF
    refine s_iastj (j := a3.toNat) hG dX12_weighRing_78 (sk_K hsk 96 rfl) g10 rfl ?_
    refine s_iinc hG dX12_weighRing_79 (by decide) rfl rfl ?_
    refine s_goto hG 62 dX12_weighRing_82 (by decide) ?_
    cases hF
    exact hK0 _ rfl
  · replace hF := Eq.trans (if_neg c12).symm hF
    cases hF
    refine m_weak (ls1 := [none, none, none, none]) hG trivial ?_
    exact hK1 _ rfl
theorem t_X12_weighRing_lp62 {d n0 s0 nF sF : Nat} {X : MX} {Ω : Nat → MS → Prop} {N : NN} {a1 : Int} {a3 : Int} (hsk : m_Sk X) (hd : 1 ≤ d) (hG : m_G d yX12_weighRing.cls yX12_weighRing.name cX12_weighRing 4 n0 s0 nF sF Ω) {t : NN} (hK1 : Ω 85 ([none, none, none, none], [], t, X)) (hl : lp (fun s => b_X12_weighRing_62 X s.1 s.2.1 s.2.2) (N, a1, a3) = some t) : Ω 62 ([some (.inr (.inr 64)), some (.inl a1), none, some (.inl a3)], [], N, X) := by
  refine lp_ok (P := fun s => Ω 62 ([some (.inr (.inr 64)), some (.inl s.2.1), none, some (.inl s.2.2)], [], s.1, X)) (K := fun t => Ω 85 ([none, none, none, none], [], t, X)) (fun s out hF hK0 hK1 => ?_) hl hK1
  exact t_X12_weighRing_b62 hsk hd hG (out := out) (fun s' e => hK0 s' e) (fun t' e => hK1 t' e) hF
theorem t_X12_weighRing_j50 {d n0 s0 nF sF : Nat} {X : MX} {Ω : Nat → MS → Prop} {N : NN} {a1 : Int} {a2 : Int} (hsk : m_Sk X) (hd : 1 ≤ d) (hG : m_G d yX12_weighRing.cls yX12_weighRing.name cX12_weighRing 4 n0 s0 nF sF Ω) {out : NN} (hE : m_Gd d yX12_weighRing cX12_weighRing 4 none X none out X Ω) (hF : f_X12_weighRing_j50 X N a1 a2 = some out) : Ω 50 ([some (.inr (.inr 64)), some (.inl a1), some (.inl a2), none], [], N, X) := by
  unfold f_X12_weighRing_j50 at hF
  refine s_aload_n hG dX12_weighRing_50 rfl ?_
  refine s_iload_n hG dX12_weighRing_51 rfl ?_
  refine s_puti hG dX12_weighRing_52 fl_RX12_553 (fun h => by cases h) (sk_k hsk 64 rfl) rfl ?_
  refine s_aload_n hG dX12_weighRing_55 rfl ?_
  refine s_iload_n hG dX12_weighRing_56 rfl ?_
  refine s_puti hG dX12_weighRing_57 fl_RX12_556 (fun h => by cases h) (sk_k hsk 64 rfl) rfl ?_
  refine s_iconst hG dX12_weighRing_60 ⟨by decide, by decide⟩ ?_
  refine s_istore_n hG dX12_weighRing_61 (by decide) rfl ?_
  obtain ⟨o13, hlo13, hF⟩ := bd_some hF
  refine m_weak (ls1 := [some (.inr (.inr 64)), some (.inl a1), none, some (.inl 0)]) hG ⟨rfl, ⟨rfl, ⟨rfl, trivial⟩⟩⟩ ?_
  refine t_X12_weighRing_lp62 hsk hd hG ?_ hlo13
  cases hF
  exact s_vret hE dX12_weighRing_85 rfl
theorem t_X12_weighRing {d : Nat} {X : MX} {N : NN} {a1 : Int} {out : NN} (hsk : m_Sk X) (hd : 1 ≤ d) (hF : f_X12_weighRing X N a1 = some out) : m_Call d yX12_weighRing cX12_weighRing 4 none [(.inr (.inr 64)), (.inl a1)] N X none out X := by
  refine m_mk (ls0 := [some (.inr (.inr 64)), some (.inl a1), none, none]) (by decide) rfl (Nat.le_of_ble_eq_true rfl) (Nat.le_refl _) (Nat.le_refl _) (fun Ω hE => ?_)
  have hG := hE.G
  unfold f_X12_weighRing at hF
  refine s_iconst hG dX12_weighRing_0 ⟨by decide, by decide⟩ ?_
  refine s_istore_n hG dX12_weighRing_1 (by decide) rfl ?_
  refine s_iconst hG dX12_weighRing_2 ⟨by decide, by decide⟩ ?_
  refine s_istore_n hG dX12_weighRing_3 (by decide) rfl ?_
  obtain ⟨o3, hlo3, hF⟩ := bd_some hF
  refine t_X12_weighRing_lp4 hsk hd hG ?_ hlo3
  refine s_iload_n hG dX12_weighRing_26 rfl ?_
  refine s_aload_n hG dX12_weighRing_27 rfl ?_
  refine s_geti hG dX12_weighRing_28 fl_RX12_553 (sk_k hsk 64 rfl) rfl ?_
  refine s_icmp_lt hG 50 dX12_weighRing_31 (by decide) (fun c6 => ?_) (fun c6 => ?_)
  · replace hF := Eq.trans (if_pos c6).symm hF
    exact t_X12_weighRing_j50 hsk hd hG hE hF
  · replace hF := Eq.trans (if_neg c6).symm hF
    refine s_iload_n hG dX12_weighRing_34 rfl ?_
    refine s_aload_n hG dX12_weighRing_35 rfl ?_
    refine s_geti hG dX12_weighRing_36 fl_RX12_553 (sk_k hsk 64 rfl) rfl ?_
    refine s_icmp_ne hG 85 dX12_weighRing_39 (by decide) (fun c5 => ?_) (fun c5 => ?_)
    · replace hF := Eq.trans (if_pos c5).symm hF
      refine s_iload_n hG dX12_weighRing_42 rfl ?_
      refine s_aload_n hG dX12_weighRing_43 rfl ?_
      refine s_geti hG dX12_weighRing_44 fl_RX12_556 (sk_k hsk 64 rfl) rfl ?_
      refine s_icmp_ge hG 85 dX12_weighRing_47 (by decide) (fun c4 => ?_) (fun c4 => ?_)
      · replace hF := Eq.trans (if_pos c4).symm hF
        exact t_X12_weighRing_j50 hsk hd hG hE hF
      · replace hF := Eq.trans (if_neg c4).symm hF
        cases hF
        exact s_vret hE dX12_weighRing_85 rfl
    · replace hF := Eq.trans (if_neg c5).symm hF
      cases hF
      exact s_vret hE dX12_weighRing_85 rfl
-- X12_findRing
theorem t_X12_findRing_l40_j135 {d n0 s0 nF sF : Nat} {X : MX} {Ω : Nat → MS → Prop} {N : NN} {a1 : Int} {a2 : Int} (hsk : m_Sk X) (hd : 2 ≤ d) (hG : m_G d yX12_findRing.cls yX12_findRing.name cX12_findRing 3 n0 s0 nF sF Ω) {out : ((NN × Int × Int) ⊕ (NN × Int))} (hK0 : ∀ s' : (NN × Int × Int), out = .inl s' → Ω 40 ([some (.inr (.inr 64)), some (.inl (s'.2.1)), some (.inl (s'.2.2))], [], s'.1, X)) (hK1 : ∀ t : (NN × Int), out = .inr t → Ω 153 ([some (.inr (.inr 64)), some (.inl t.2), none], [], t.1, X)) (hF : f_X12_findRing_l40_j135 X N a1 a2 = some out) : Ω 135 ([some (.inr (.inr 64)), some (.inl a1), some (.inl a2)], [], N, X) := by
  unfold f_X12_findRing_l40_j135 at hF
  refine s_iload_n hG dX12_findRing_135 rfl ?_
  refine s_iconst hG dX12_findRing_136 ⟨by decide, by decide⟩ ?_
  refine s_icmp_ge hG 40 dX12_findRing_137 (by decide) (fun c25 => ?_) (fun c25 => ?_)
  · replace hF := Eq.trans (if_pos c25).symm hF
    refine s_iinc hG dX12_findRing_140 (by decide) rfl rfl ?_
    refine s_aload_n hG dX12_findRing_143 rfl ?_
    refine s_getr (r := 93) hG dX12_findRing_144 fl_RX12_130 (sk_k hsk 64 rfl) rfl (sk_R hsk 64 50 rfl) ?_
    refine s_iload_n hG dX12_findRing_147 rfl ?_
    refine s_iconst hG dX12_findRing_148 ⟨by decide, by decide⟩ ?_
    obtain ⟨g23, hF⟩ := gd_some hF
    refine s_iastj (j := (m_w (a2 + 1)).toNat) hG dX12_findRing_149 (sk_K hsk 93 rfl) g23 rfl ?_
    refine s_goto hG 40 dX12_findRing_150 (by decide) ?_
    cases hF
    exact hK0 _ rfl
  · replace hF := Eq.trans (if_neg c25).symm hF
    cases hF
    exact hK0 _ rfl
theorem t_X12_findRing_b40 {d n0 s0 nF sF : Nat} {X : MX} {Ω : Nat → MS → Prop} {N : NN} {a1 : Int} {a2 : Int} (hsk : m_Sk X) (hd : 2 ≤ d) (hG : m_G d yX12_findRing.cls yX12_findRing.name cX12_findRing 3 n0 s0 nF sF Ω) {out : ((NN × Int × Int) ⊕ (NN × Int))} (hK0 : ∀ s' : (NN × Int × Int), out = .inl s' → Ω 40 ([some (.inr (.inr 64)), some (.inl (s'.2.1)), some (.inl (s'.2.2))], [], s'.1, X)) (hK1 : ∀ t : (NN × Int), out = .inr t → Ω 153 ([some (.inr (.inr 64)), some (.inl t.2), none], [], t.1, X)) (hF : b_X12_findRing_40 X N a1 a2 = some out) : Ω 40 ([some (.inr (.inr 64)), some (.inl a1), some (.inl a2)], [], N, X) := by
  unfold b_X12_findRing_40 at hF
  refine s_iload_n hG dX12_findRing_40 rfl ?_
  refine s_if_le hG 153 dX12_findRing_41 (by decide) (fun c22 => ?_) (fun c22 => ?_)
  · replace hF := Eq.trans (if_pos c22).symm hF
    refine s_aload_n hG dX12_findRing_44 rfl ?_
    refine s_getr (r := 93) hG dX12_findRing_45 fl_RX12_130 (sk_k hsk 64 rfl) rfl (sk_R hsk 64 50 rfl) ?_
    refine s_iload_n hG dX12_findRing_48 rfl ?_
    refine s_dup2 hG dX12_findRing_49 rfl rfl ?_
    obtain ⟨g5, hF⟩ := gd_some hF
    refine s_ialdj (j := a2.toNat) hG dX12_findRing_50 (sk_K hsk 93 rfl) g5 rfl ?_
    refine s_iconst hG dX12_findRing_51 ⟨by decide, by decide⟩ ?_
    refine s_iadd hG dX12_findRing_52 ?_
    obtain ⟨g6, hF⟩ := gd_some hF
    refine s_iastj (j := a2.toNat) hG dX12_findRing_53 (sk_K hsk 93 rfl) g6 rfl ?_
    let N7 : NN := m_up N 93 a2.toNat (m_w ((N 93 a2.toNat) + 1))
    refine s_aload_n hG dX12_findRing_54 rfl ?_
    refine s_getr (r := 93) hG dX12_findRing_55 fl_RX12_130 (sk_k hsk 64 rfl) rfl (sk_R hsk 64 50 rfl) ?_
    refine s_iload_n hG dX12_findRing_58 rfl ?_
    obtain ⟨g8, hF⟩ := gd_some hF
    refine s_ialdj (j := a2.toNat) hG dX12_findRing_59 (sk_K hsk 93 rfl) g8 rfl ?_
    refine s_aload_n hG dX12_findRing_60 rfl ?_
    refine s_getr (r := 66) hG dX12_findRing_61 fl_RX12_13 (sk_k hsk 64 rfl) rfl (sk_R hsk 64 3 rfl) ?_
    refine s_iconst hG dX12_findRing_64 ⟨by decide, by decide⟩ ?_
    refine s_ialdj (j := 0) hG dX12_findRing_65 (sk_K hsk 66 rfl) ⟨by decide, by decide⟩ rfl ?_
    refine s_icmp_ne hG 75 dX12_findRing_66 (by decide) (fun c21 => ?_) (fun c21 => ?_)
    · replace hF := Eq.trans (if_pos c21).symm hF
      refine s_iinc hG dX12_findRing_69 (by decide) rfl rfl ?_
      refine s_goto hG 40 dX12_findRing_72 (by decide) ?_
      cases hF
      exact hK0 _ rfl
    · replace hF := Eq.trans (if_neg c21).symm hF
      refine s_aload_n hG dX12_findRing_75 rfl ?_
      refine s_iload_n hG dX12_findRing_76 rfl ?_
      obtain ⟨o9, ho9, hF⟩ := bd_some hF
      refine s_callV (d' := d - 1) (ci := 12) (args := [.inl a2]) hG (by omega) dX12_findRing_77 cv_RX12_559 cw_X12_isFresh rfl rfl (sk_k hsk 64 rfl) (Nat.le_of_ble_eq_true rfl) rfl (t_X12_isFresh hsk (by omega) ho9) ?_
      refine s_if_eq hG 40 dX12_findRing_80 (by decide) (fun c20 => ?_) (fun c20 => ?_)
      · replace hF := Eq.trans (if_pos c20).symm hF
        cases hF
        exact hK0 _ rfl
      · replace hF := Eq.trans (if_neg c20).symm hF
        refine s_aload_n hG dX12_findRing_83 rfl ?_
        refine s_getr (r := 66) hG dX12_findRing_84 fl_RX12_13 (sk_k hsk 64 rfl) rfl (sk_R hsk 64 3 rfl) ?_
        refine s_aload_n hG dX12_findRing_87 rfl ?_
        refine s_getr (r := 93) hG dX12_findRing_88 fl_RX12_130 (sk_k hsk 64 rfl) rfl (sk_R hsk 64 50 rfl) ?_
        refine s_iload_n hG dX12_findRing_91 rfl ?_
        refine s_iconst hG dX12_findRing_92 ⟨by decide, by decide⟩ ?_
        refine s_isub hG dX12_findRing_93 ?_
        obtain ⟨g10, hF⟩ := gd_some hF
        refine s_ialdj (j := (m_w (a2 - 1)).toNat) hG dX12_findRing_94 (sk_K hsk 93 rfl) g10 rfl ?_
        refine s_aload_n hG dX12_findRing_95 rfl ?_
        refine s_getr (r := 93) hG dX12_findRing_96 fl_RX12_130 (sk_k hsk 64 rfl) rfl (sk_R hsk 64 50 rfl) ?_
        refine s_iload_n hG dX12_findRing_99 rfl ?_
        obtain ⟨g11, hF⟩ := gd_some hF
        refine s_ialdj (j := a2.toNat) hG dX12_findRing_100 (sk_K hsk 93 rfl) g11 rfl ?_
        obtain ⟨o12, ho12, hF⟩ := bd_some hF
        refine s_callS (d' := d - 1) (args := [.inl (N7 93 ((m_w (a2 - 1)).toNat)), .inl (N7 93 a2.toNat)]) hG (by omega) dX12_findRing_101 cs_RX12_452 cw_X12_debtAt rfl (Nat.le_of_ble_eq_true rfl) rfl (t_X12_debtAt hsk (by omega) ho12) ?_
        obtain ⟨g13, hF⟩ := gd_some hF
        refine s_ialdj (j := o12.toNat) hG dX12_findRing_104 (sk_K hsk 66 rfl) g13 rfl ?_
        refine s_iconst hG dX12_findRing_105 ⟨by decide, by decide⟩ ?_
        refine s_icmp_eq hG 40 dX12_findRing_106 (by decide) (fun c19 => ?_) (fun c19 => ?_)
        · replace hF := Eq.trans (if_pos c19).symm hF
          cases hF
          exact hK0 _ rfl
        · replace hF := Eq.trans (if_neg c19).symm hF
          refine s_aload_n hG dX12_findRing_109 rfl ?_
          refine s_getr (r := 66) hG dX12_findRing_110 fl_RX12_13 (sk_k hsk 64 rfl) rfl (sk_R hsk 64 3 rfl) ?_
          refine s_aload_n hG dX12_findRing_113 rfl ?_
          refine s_getr (r := 93) hG dX12_findRing_114 fl_RX12_130 (sk_k hsk 64 rfl) rfl (sk_R hsk 64 50 rfl) ?_
          refine s_iload_n hG dX12_findRing_117 rfl ?_
          obtain ⟨g14, hF⟩ := gd_some hF
          refine s_ialdj (j := a2.toNat) hG dX12_findRing_118 (sk_K hsk 93 rfl) g14 rfl ?_
          refine s_iload_n hG dX12_findRing_119 rfl ?_
          obtain ⟨o15, ho15, hF⟩ := bd_some hF
          refine s_callS (d' := d - 1) (args := [.inl (N7 93 a2.toNat), .inl a1]) hG (by omega) dX12_findRing_120 cs_RX12_452 cw_X12_debtAt rfl (Nat.le_of_ble_eq_true rfl) rfl (t_X12_debtAt hsk (by omega) ho15) ?_
          obtain ⟨g16, hF⟩ := gd_some hF
          refine s_ialdj (j := o15.toNat) hG dX12_findRing_123 (sk_K hsk 66 rfl) g16 rfl ?_
          refine s_iconst hG dX12_findRing_124 ⟨by decide, by decide⟩ ?_
          refine s_icmp_eq hG 135 dX12_findRing_125 (by decide) (fun c18 => ?_) (fun c18 => ?_)
          · replace hF := Eq.trans (if_pos c18).symm hF
            exact t_X12_findRing_l40_j135 hsk hd hG hK0 hK1 hF
          · replace hF := Eq.trans (if_neg c18).symm hF
            refine s_aload_n hG dX12_findRing_128 rfl ?_
            refine s_iload_n hG dX12_findRing_129 rfl ?_
            refine s_iconst hG dX12_findRing_130 ⟨by decide, by decide⟩ ?_
            refine s_iadd hG dX12_findRing_131 ?_
            obtain ⟨o17, ho17, hF⟩ := bd_some hF
            refine s_callV (d' := d - 1) (ci := 12) (args := [.inl (m_w (a2 + 1))]) hG (by omega) dX12_findRing_132 cv_RX12_562 cw_X12_weighRing rfl rfl (sk_k hsk 64 rfl) (Nat.le_of_ble_eq_true rfl) rfl (t_X12_weighRing hsk (by omega) ho17) ?_
            exact t_X12_findRing_l40_j135 hsk hd hG hK0 hK1 hF
  · replace hF := Eq.trans (if_neg c22).symm hF
    cases hF
    refine m_weak (ls1 := [some (.inr (.inr 64)), some (.inl a1), none]) hG ⟨rfl, ⟨rfl, trivial⟩⟩ ?_
    exact hK1 _ rfl
theorem t_X12_findRing_lp40 {d n0 s0 nF sF : Nat} {X : MX} {Ω : Nat → MS → Prop} {N : NN} {a1 : Int} {a2 : Int} (hsk : m_Sk X) (hd : 2 ≤ d) (hG : m_G d yX12_findRing.cls yX12_findRing.name cX12_findRing 3 n0 s0 nF sF Ω) {t : (NN × Int)} (hK1 : Ω 153 ([some (.inr (.inr 64)), some (.inl t.2), none], [], t.1, X)) (hl : lp (fun s => b_X12_findRing_40 X s.1 s.2.1 s.2.2) (N, a1, a2) = some t) : Ω 40 ([some (.inr (.inr 64)), some (.inl a1), some (.inl a2)], [], N, X) := by
  refine lp_ok (P := fun s => Ω 40 ([some (.inr (.inr 64)), some (.inl s.2.1), some (.inl s.2.2)], [], s.1, X)) (K := fun t => Ω 153 ([some (.inr (.inr 64)), some (.inl t.2), none], [], t.1, X)) (fun s out hF hK0 hK1 => ?_) hl hK1
  exact t_X12_findRing_b40 hsk hd hG (out := out) (fun s' e => hK0 s' e) (fun t' e => hK1 t' e) hF
theorem t_X12_findRing_b14 {d n0 s0 nF sF : Nat} {X : MX} {Ω : Nat → MS → Prop} {N : NN} {a1 : Int} (hsk : m_Sk X) (hd : 2 ≤ d) (hG : m_G d yX12_findRing.cls yX12_findRing.name cX12_findRing 3 n0 s0 nF sF Ω) {out : ((NN × Int) ⊕ NN)} (hK0 : ∀ s' : (NN × Int), out = .inl s' → Ω 14 ([some (.inr (.inr 64)), some (.inl (s'.2)), none], [], s'.1, X)) (hK1 : ∀ t : NN, out = .inr t → Ω 159 ([none, none, none], [], t, X)) (hF : b_X12_findRing_14 X N a1 = some out) : Ω 14 ([some (.inr (.inr 64)), some (.inl a1), none], [], N, X) := by
  unfold b_X12_findRing_14 at hF
  refine s_iload_n hG dX12_findRing_14 rfl ?_
  refine s_aload_n hG dX12_findRing_15 rfl ?_
  refine s_getr (r := 66) hG dX12_findRing_16 fl_RX12_13 (sk_k hsk 64 rfl) rfl (sk_R hsk 64 3 rfl) ?_
  refine s_iconst hG dX12_findRing_19 ⟨by decide, by decide⟩ ?_
  refine s_ialdj (j := 0) hG dX12_findRing_20 (sk_K hsk 66 rfl) ⟨by decide, by decide⟩ rfl ?_
  refine s_icmp_ge hG 159 dX12_findRing_21 (by decide) (fun c27 => ?_) (fun c27 => ?_)
  · replace hF := Eq.trans (if_pos c27).symm hF
    refine s_aload_n hG dX12_findRing_24 rfl ?_
    refine s_getr (r := 93) hG dX12_findRing_25 fl_RX12_130 (sk_k hsk 64 rfl) rfl (sk_R hsk 64 50 rfl) ?_
    refine s_iconst hG dX12_findRing_28 ⟨by decide, by decide⟩ ?_
    refine s_iload_n hG dX12_findRing_29 rfl ?_
    refine s_iastj (j := 0) hG dX12_findRing_30 (sk_K hsk 93 rfl) ⟨by decide, by decide⟩ rfl ?_
    refine s_iconst hG dX12_findRing_31 ⟨by decide, by decide⟩ ?_
    refine s_istore_n hG dX12_findRing_32 (by decide) rfl ?_
    refine s_aload_n hG dX12_findRing_33 rfl ?_
    refine s_getr (r := 93) hG dX12_findRing_34 fl_RX12_130 (sk_k hsk 64 rfl) rfl (sk_R hsk 64 50 rfl) ?_
    refine s_iconst hG dX12_findRing_37 ⟨by decide, by decide⟩ ?_
    refine s_iconst hG dX12_findRing_38 ⟨by decide, by decide⟩ ?_
    refine s_iastj (j := 1) hG dX12_findRing_39 (sk_K hsk 93 rfl) ⟨by decide, by decide⟩ rfl ?_
    obtain ⟨o26, hlo26, hF⟩ := bd_some hF
    refine t_X12_findRing_lp40 hsk hd hG ?_ hlo26
    refine s_iinc hG dX12_findRing_153 (by decide) rfl rfl ?_
    refine s_goto hG 14 dX12_findRing_156 (by decide) ?_
    cases hF
    exact hK0 _ rfl
  · replace hF := Eq.trans (if_neg c27).symm hF
    cases hF
    refine m_weak (ls1 := [none, none, none]) hG trivial ?_
    exact hK1 _ rfl
theorem t_X12_findRing_lp14 {d n0 s0 nF sF : Nat} {X : MX} {Ω : Nat → MS → Prop} {N : NN} {a1 : Int} (hsk : m_Sk X) (hd : 2 ≤ d) (hG : m_G d yX12_findRing.cls yX12_findRing.name cX12_findRing 3 n0 s0 nF sF Ω) {t : NN} (hK1 : Ω 159 ([none, none, none], [], t, X)) (hl : lp (fun s => b_X12_findRing_14 X s.1 s.2) (N, a1) = some t) : Ω 14 ([some (.inr (.inr 64)), some (.inl a1), none], [], N, X) := by
  refine lp_ok (P := fun s => Ω 14 ([some (.inr (.inr 64)), some (.inl s.2), none], [], s.1, X)) (K := fun t => Ω 159 ([none, none, none], [], t, X)) (fun s out hF hK0 hK1 => ?_) hl hK1
  exact t_X12_findRing_b14 hsk hd hG (out := out) (fun s' e => hK0 s' e) (fun t' e => hK1 t' e) hF
theorem t_X12_findRing {d : Nat} {X : MX} {N : NN} {out : NN} (hsk : m_Sk X) (hd : 2 ≤ d) (hF : f_X12_findRing X N = some out) : m_Call d yX12_findRing cX12_findRing 3 none [(.inr (.inr 64))] N X none out X := by
  refine m_mk (ls0 := [some (.inr (.inr 64)), none, none]) (by decide) rfl (Nat.le_of_ble_eq_true rfl) (Nat.le_refl _) (Nat.le_refl _) (fun Ω hE => ?_)
  have hG := hE.G
  unfold f_X12_findRing at hF
  refine s_aload_n hG dX12_findRing_0 rfl ?_
  refine s_ldcw hG dX12_findRing_1 kc_RX12_515 ⟨by decide, by decide⟩ ?_
  refine s_puti hG dX12_findRing_4 fl_RX12_553 (fun h => by cases h) (sk_k hsk 64 rfl) rfl ?_
  refine s_aload_n hG dX12_findRing_7 rfl ?_
  refine s_iconst hG dX12_findRing_8 ⟨by decide, by decide⟩ ?_
  refine s_puti hG dX12_findRing_9 fl_RX12_556 (fun h => by cases h) (sk_k hsk 64 rfl) rfl ?_
  refine s_iconst hG dX12_findRing_12 ⟨by decide, by decide⟩ ?_
  refine s_istore_n hG dX12_findRing_13 (by decide) rfl ?_
  obtain ⟨o28, hlo28, hF⟩ := bd_some hF
  refine t_X12_findRing_lp14 hsk hd hG ?_ hlo28
  cases hF
  exact s_vret hE dX12_findRing_159 rfl
-- X12_goesOn
theorem t_X12_goesOn_l68_j96 {d n0 s0 nF sF : Nat} {X : MX} {Ω : Nat → MS → Prop} {N : NN} {a1 : Int} {a5 : Int} {a7 : Int} {z0 : Int} (hsk : m_Sk X) (hd : 1 ≤ d) (hG : m_G d yX12_goesOn.cls yX12_goesOn.name cX12_goesOn 8 n0 s0 nF sF Ω) {out : ((NN × Int × Int × Int × Int) ⊕ (NN × Int × Int × Int))} (hK0 : ∀ s' : (NN × Int × Int × Int × Int), out = .inl s' → Ω 68 ([some (.inr (.inr 64)), some (.inl (s'.2.1)), none, none, none, some (.inl (s'.2.2.1)), some (.inl (s'.2.2.2.1)), some (.inl (s'.2.2.2.2))], [], s'.1, X)) (hK1 : ∀ t : (NN × Int × Int × Int), out = .inr t → Ω 104 ([some (.inr (.inr 64)), some (.inl t.2.1), none, none, none, some (.inl t.2.2.1), some (.inl t.2.2.2), none], [], t.1, X)) (hF : f_X12_goesOn_l68_j96 X N a1 a5 a7 z0 = some out) : Ω 96 ([some (.inr (.inr 64)), some (.inl a1), none, none, none, some (.inl a5), none, some (.inl a7)], [(.inl z0)], N, X) := by
  unfold f_X12_goesOn_l68_j96 at hF
  refine s_istore hG dX12_goesOn_96 (by decide) rfl ?_
  refine s_iinc hG dX12_goesOn_98 (by decide) rfl rfl ?_
  refine s_goto hG 68 dX12_goesOn_101 (by decide) ?_
  cases hF
  exact hK0 _ rfl
theorem t_X12_goesOn_l68_j95 {d n0 s0 nF sF : Nat} {X : MX} {Ω : Nat → MS → Prop} {N : NN} {a1 : Int} {a5 : Int} {a7 : Int} (hsk : m_Sk X) (hd : 1 ≤ d) (hG : m_G d yX12_goesOn.cls yX12_goesOn.name cX12_goesOn 8 n0 s0 nF sF Ω) {out : ((NN × Int × Int × Int × Int) ⊕ (NN × Int × Int × Int))} (hK0 : ∀ s' : (NN × Int × Int × Int × Int), out = .inl s' → Ω 68 ([some (.inr (.inr 64)), some (.inl (s'.2.1)), none, none, none, some (.inl (s'.2.2.1)), some (.inl (s'.2.2.2.1)), some (.inl (s'.2.2.2.2))], [], s'.1, X)) (hK1 : ∀ t : (NN × Int × Int × Int), out = .inr t → Ω 104 ([some (.inr (.inr 64)), some (.inl t.2.1), none, none, none, some (.inl t.2.2.1), some (.inl t.2.2.2), none], [], t.1, X)) (hF : f_X12_goesOn_l68_j95 X N a1 a5 a7 = some out) : Ω 95 ([some (.inr (.inr 64)), some (.inl a1), none, none, none, some (.inl a5), none, some (.inl a7)], [], N, X) := by
  unfold f_X12_goesOn_l68_j95 at hF
  refine s_iconst hG dX12_goesOn_95 ⟨by decide, by decide⟩ ?_
  exact t_X12_goesOn_l68_j96 hsk hd hG hK0 hK1 hF
theorem t_X12_goesOn_b68 {d n0 s0 nF sF : Nat} {X : MX} {Ω : Nat → MS → Prop} {N : NN} {a1 : Int} {a5 : Int} {a6 : Int} {a7 : Int} (hsk : m_Sk X) (hd : 1 ≤ d) (hG : m_G d yX12_goesOn.cls yX12_goesOn.name cX12_goesOn 8 n0 s0 nF sF Ω) {out : ((NN × Int × Int × Int × Int) ⊕ (NN × Int × Int × Int))} (hK0 : ∀ s' : (NN × Int × Int × Int × Int), out = .inl s' → Ω 68 ([some (.inr (.inr 64)), some (.inl (s'.2.1)), none, none, none, some (.inl (s'.2.2.1)), some (.inl (s'.2.2.2.1)), some (.inl (s'.2.2.2.2))], [], s'.1, X)) (hK1 : ∀ t : (NN × Int × Int × Int), out = .inr t → Ω 104 ([some (.inr (.inr 64)), some (.inl t.2.1), none, none, none, some (.inl t.2.2.1), some (.inl t.2.2.2), none], [], t.1, X)) (hF : b_X12_goesOn_68 X N a1 a5 a6 a7 = some out) : Ω 68 ([some (.inr (.inr 64)), some (.inl a1), none, none, none, some (.inl a5), some (.inl a6), some (.inl a7)], [], N, X) := by
  unfold b_X12_goesOn_68 at hF
  refine s_iload hG dX12_goesOn_68 rfl ?_
  refine s_iload_n hG dX12_goesOn_70 rfl ?_
  refine s_icmp_gt hG 104 dX12_goesOn_71 (by decide) (fun c11 => ?_) (fun c11 => ?_)
  · replace hF := Eq.trans (if_pos c11).symm hF
    cases hF
    refine m_weak (ls1 := [some (.inr (.inr 64)), some (.inl a1), none, none, none, some (.inl a5), some (.inl a6), none]) hG ⟨rfl, ⟨rfl, ⟨rfl, ⟨rfl, trivial⟩⟩⟩⟩ ?_
    exact hK1 _ rfl
  · replace hF := Eq.trans (if_neg c11).symm hF
    refine s_iload hG dX12_goesOn_74 rfl ?_
    refine s_if_eq hG 95 dX12_goesOn_76 (by decide) (fun c10 => ?_) (fun c10 => ?_)
    · replace hF := Eq.trans (if_pos c10).symm hF
      refine m_weak (ls1 := [some (.inr (.inr 64)), some (.inl a1), none, none, none, some (.inl a5), none, some (.inl a7)]) hG ⟨rfl, ⟨rfl, ⟨rfl, ⟨rfl, trivial⟩⟩⟩⟩ ?_
      exact t_X12_goesOn_l68_j95 hsk hd hG hK0 hK1 hF
    · replace hF := Eq.trans (if_neg c10).symm hF
      refine s_aload_n hG dX12_goesOn_79 rfl ?_
      refine s_getr (r := 93) hG dX12_goesOn_80 fl_RX12_130 (sk_k hsk 64 rfl) rfl (sk_R hsk 64 50 rfl) ?_
      refine s_iload hG dX12_goesOn_83 rfl ?_
      obtain ⟨g8, hF⟩ := gd_some hF
      refine s_ialdj (j := a7.toNat) hG dX12_goesOn_85 (sk_K hsk 93 rfl) g8 rfl ?_
      refine s_iload hG dX12_goesOn_86 rfl ?_
      refine s_icmp_eq hG 95 dX12_goesOn_88 (by decide) (fun c9 => ?_) (fun c9 => ?_)
      · replace hF := Eq.trans (if_pos c9).symm hF
        refine m_weak (ls1 := [some (.inr (.inr 64)), some (.inl a1), none, none, none, some (.inl a5), none, some (.inl a7)]) hG ⟨rfl, ⟨rfl, ⟨rfl, ⟨rfl, trivial⟩⟩⟩⟩ ?_
        exact t_X12_goesOn_l68_j95 hsk hd hG hK0 hK1 hF
      · replace hF := Eq.trans (if_neg c9).symm hF
        refine s_iconst hG dX12_goesOn_91 ⟨by decide, by decide⟩ ?_
        refine s_goto hG 96 dX12_goesOn_92 (by decide) ?_
        refine m_weak (ls1 := [some (.inr (.inr 64)), some (.inl a1), none, none, none, some (.inl a5), none, some (.inl a7)]) hG ⟨rfl, ⟨rfl, ⟨rfl, ⟨rfl, trivial⟩⟩⟩⟩ ?_
        exact t_X12_goesOn_l68_j96 hsk hd hG hK0 hK1 hF
theorem t_X12_goesOn_lp68 {d n0 s0 nF sF : Nat} {X : MX} {Ω : Nat → MS → Prop} {N : NN} {a1 : Int} {a5 : Int} {a6 : Int} {a7 : Int} (hsk : m_Sk X) (hd : 1 ≤ d) (hG : m_G d yX12_goesOn.cls yX12_goesOn.name cX12_goesOn 8 n0 s0 nF sF Ω) {t : (NN × Int × Int × Int)} (hK1 : Ω 104 ([some (.inr (.inr 64)), some (.inl t.2.1), none, none, none, some (.inl t.2.2.1), some (.inl t.2.2.2), none], [], t.1, X)) (hl : lp (fun s => b_X12_goesOn_68 X s.1 s.2.1 s.2.2.1 s.2.2.2.1 s.2.2.2.2) (N, a1, a5, a6, a7) = some t) : Ω 68 ([some (.inr (.inr 64)), some (.inl a1), none, none, none, some (.inl a5), some (.inl a6), some (.inl a7)], [], N, X) := by
  refine lp_ok (P := fun s => Ω 68 ([some (.inr (.inr 64)), some (.inl s.2.1), none, none, none, some (.inl s.2.2.1), some (.inl s.2.2.2.1), some (.inl s.2.2.2.2)], [], s.1, X)) (K := fun t => Ω 104 ([some (.inr (.inr 64)), some (.inl t.2.1), none, none, none, some (.inl t.2.2.1), some (.inl t.2.2.2), none], [], t.1, X)) (fun s out hF hK0 hK1 => ?_) hl hK1
  exact t_X12_goesOn_b68 hsk hd hG (out := out) (fun s' e => hK0 s' e) (fun t' e => hK1 t' e) hF
theorem t_X12_goesOn_j129 {d n0 s0 nF sF : Nat} {X : MX} {Ω : Nat → MS → Prop} {N : NN} {a6 : Int} {z1 : Int} {z2 : Int} (hsk : m_Sk X) (hd : 1 ≤ d) (hG : m_G d yX12_goesOn.cls yX12_goesOn.name cX12_goesOn 8 n0 s0 nF sF Ω) {out : (Int × NN)} (hE : m_Gd d yX12_goesOn cX12_goesOn 8 (some .boolean) X (some (.inl out.1)) out.2 X Ω) (hF : f_X12_goesOn_j129 X N a6 z1 z2 = some out) : Ω 129 ([none, none, none, none, none, none, some (.inl a6), none], [(.inl z2), (.inl z1), (.inr (.inr 93))], N, X) := by
  unfold f_X12_goesOn_j129 at hF
  obtain ⟨g15, hF⟩ := gd_some hF
  refine s_iastj (j := z1.toNat) hG dX12_goesOn_129 (sk_K hsk 93 rfl) g15 rfl ?_
  refine s_iload hG dX12_goesOn_130 rfl ?_
  obtain ⟨g17, hF⟩ := gd_some hF
  cases hF
  exact s_zret hE dX12_goesOn_132 rfl g17
theorem t_X12_goesOn_j42 {d n0 s0 nF sF : Nat} {X : MX} {Ω : Nat → MS → Prop} {N : NN} {a1 : Int} {a3 : Int} {a4 : Int} (hsk : m_Sk X) (hd : 1 ≤ d) (hG : m_G d yX12_goesOn.cls yX12_goesOn.name cX12_goesOn 8 n0 s0 nF sF Ω) {out : (Int × NN)} (hE : m_Gd d yX12_goesOn cX12_goesOn 8 (some .boolean) X (some (.inl out.1)) out.2 X Ω) (hF : f_X12_goesOn_j42 X N a1 a3 a4 = some out) : Ω 42 ([some (.inr (.inr 64)), some (.inl a1), none, some (.inl a3), some (.inl a4), none, none, none], [], N, X) := by
  unfold f_X12_goesOn_j42 at hF
  refine s_aload_n hG dX12_goesOn_42 rfl ?_
  refine s_getr (r := 66) hG dX12_goesOn_43 fl_RX12_13 (sk_k hsk 64 rfl) rfl (sk_R hsk 64 3 rfl) ?_
  refine s_iload_n hG dX12_goesOn_46 rfl ?_
  obtain ⟨g6, hF⟩ := gd_some hF
  refine s_ialdj (j := a3.toNat) hG dX12_goesOn_47 (sk_K hsk 66 rfl) g6 rfl ?_
  refine s_aload_n hG dX12_goesOn_48 rfl ?_
  refine s_getr (r := 66) hG dX12_goesOn_49 fl_RX12_13 (sk_k hsk 64 rfl) rfl (sk_R hsk 64 3 rfl) ?_
  refine s_iload_n hG dX12_goesOn_52 rfl ?_
  refine s_iconst hG dX12_goesOn_53 ⟨by decide, by decide⟩ ?_
  refine s_iadd hG dX12_goesOn_54 ?_
  obtain ⟨g7, hF⟩ := gd_some hF
  refine s_ialdj (j := (m_w (a3 + 1)).toNat) hG dX12_goesOn_55 (sk_K hsk 66 rfl) g7 rfl ?_
  refine s_iadd hG dX12_goesOn_56 ?_
  refine s_iload hG dX12_goesOn_57 rfl ?_
  refine s_isub hG dX12_goesOn_59 ?_
  refine s_istore hG dX12_goesOn_60 (by decide) rfl ?_
  refine s_iconst hG dX12_goesOn_62 ⟨by decide, by decide⟩ ?_
  refine s_istore hG dX12_goesOn_63 (by decide) rfl ?_
  refine s_iconst hG dX12_goesOn_65 ⟨by decide, by decide⟩ ?_
  refine s_istore hG dX12_goesOn_66 (by decide) rfl ?_
  obtain ⟨o12, hlo12, hF⟩ := bd_some hF
  refine m_weak (ls1 := [some (.inr (.inr 64)), some (.inl a1), none, none, none, some (.inl (m_w ((m_w ((N 66 a3.toNat) + (N 66 ((m_w (a3 + 1)).toNat)))) - a4))), some (.inl 1), some (.inl 0)]) hG ⟨rfl, ⟨rfl, ⟨rfl, ⟨rfl, ⟨rfl, trivial⟩⟩⟩⟩⟩ ?_
  refine t_X12_goesOn_lp68 hsk hd hG ?_ hlo12
  refine s_aload_n hG dX12_goesOn_104 rfl ?_
  refine s_getr (r := 93) hG dX12_goesOn_105 fl_RX12_130 (sk_k hsk 64 rfl) rfl (sk_R hsk 64 50 rfl) ?_
  refine s_iload_n hG dX12_goesOn_108 rfl ?_
  refine s_iconst hG dX12_goesOn_109 ⟨by decide, by decide⟩ ?_
  refine s_iadd hG dX12_goesOn_110 ?_
  refine s_iload hG dX12_goesOn_111 rfl ?_
  refine s_if_eq hG 121 dX12_goesOn_113 (by decide) (fun c14 => ?_) (fun c14 => ?_)
  · replace hF := Eq.trans (if_pos c14).symm hF
    refine s_aload_n hG dX12_goesOn_121 rfl ?_
    refine s_getr (r := 93) hG dX12_goesOn_122 fl_RX12_130 (sk_k hsk 64 rfl) rfl (sk_R hsk 64 50 rfl) ?_
    refine s_iload_n hG dX12_goesOn_125 rfl ?_
    refine s_iconst hG dX12_goesOn_126 ⟨by decide, by decide⟩ ?_
    refine s_iadd hG dX12_goesOn_127 ?_
    obtain ⟨g13, hF⟩ := gd_some hF
    refine s_ialdj (j := (m_w (o12.2.1 + 1)).toNat) hG dX12_goesOn_128 (sk_K hsk 93 rfl) g13 rfl ?_
    refine m_weak (ls1 := [none, none, none, none, none, none, some (.inl o12.2.2.2), none]) hG ⟨rfl, trivial⟩ ?_
    exact t_X12_goesOn_j129 hsk hd hG hE hF
  · replace hF := Eq.trans (if_neg c14).symm hF
    refine s_iload hG dX12_goesOn_116 rfl ?_
    refine s_goto hG 129 dX12_goesOn_118 (by decide) ?_
    refine m_weak (ls1 := [none, none, none, none, none, none, some (.inl o12.2.2.2), none]) hG ⟨rfl, trivial⟩ ?_
    exact t_X12_goesOn_j129 hsk hd hG hE hF
theorem t_X12_goesOn {d : Nat} {X : MX} {N : NN} {a1 : Int} {a2 : Int} {out : (Int × NN)} (hsk : m_Sk X) (hd : 1 ≤ d) (hF : f_X12_goesOn X N a1 a2 = some out) : m_Call d yX12_goesOn cX12_goesOn 8 (some .boolean) [(.inr (.inr 64)), (.inl a1), (.inl a2)] N X (some (.inl out.1)) out.2 X := by
  refine m_mk (ls0 := [some (.inr (.inr 64)), some (.inl a1), some (.inl a2), none, none, none, none, none]) (by decide) rfl (Nat.le_of_ble_eq_true rfl) (Nat.le_refl _) (Nat.le_refl _) (fun Ω hE => ?_)
  have hG := hE.G
  unfold f_X12_goesOn at hF
  refine s_sipush hG dX12_goesOn_0 sp_218 ⟨by decide, by decide⟩ ?_
  refine s_iconst hG dX12_goesOn_3 ⟨by decide, by decide⟩ ?_
  refine s_iload_n hG dX12_goesOn_4 rfl ?_
  refine s_imul hG dX12_goesOn_5 ?_
  refine s_iadd hG dX12_goesOn_6 ?_
  refine s_istore_n hG dX12_goesOn_7 (by decide) rfl ?_
  refine s_aload_n hG dX12_goesOn_8 rfl ?_
  refine s_getr (r := 93) hG dX12_goesOn_9 fl_RX12_130 (sk_k hsk 64 rfl) rfl (sk_R hsk 64 50 rfl) ?_
  refine s_iload_n hG dX12_goesOn_12 rfl ?_
  obtain ⟨g1, hF⟩ := gd_some hF
  refine s_ialdj (j := a1.toNat) hG dX12_goesOn_13 (sk_K hsk 93 rfl) g1 rfl ?_
  refine s_istore hG dX12_goesOn_14 (by decide) rfl ?_
  refine s_aload_n hG dX12_goesOn_16 rfl ?_
  refine s_getr (r := 66) hG dX12_goesOn_17 fl_RX12_13 (sk_k hsk 64 rfl) rfl (sk_R hsk 64 3 rfl) ?_
  refine s_iload_n hG dX12_goesOn_20 rfl ?_
  obtain ⟨g2, hF⟩ := gd_some hF
  refine s_ialdj (j := (m_w (218 + (m_w (4 * a2)))).toNat) hG dX12_goesOn_21 (sk_K hsk 66 rfl) g2 rfl ?_
  refine s_iload hG dX12_goesOn_22 rfl ?_
  refine s_icmp_eq hG 42 dX12_goesOn_24 (by decide) (fun c5 => ?_) (fun c5 => ?_)
  · replace hF := Eq.trans (if_pos c5).symm hF
    refine m_weak (ls1 := [some (.inr (.inr 64)), some (.inl a1), none, some (.inl (m_w (218 + (m_w (4 * a2))))), some (.inl (N 93 a1.toNat)), none, none, none]) hG ⟨rfl, ⟨rfl, ⟨rfl, ⟨rfl, trivial⟩⟩⟩⟩ ?_
    exact t_X12_goesOn_j42 hsk hd hG hE hF
  · replace hF := Eq.trans (if_neg c5).symm hF
    refine s_aload_n hG dX12_goesOn_27 rfl ?_
    refine s_getr (r := 66) hG dX12_goesOn_28 fl_RX12_13 (sk_k hsk 64 rfl) rfl (sk_R hsk 64 3 rfl) ?_
    refine s_iload_n hG dX12_goesOn_31 rfl ?_
    refine s_iconst hG dX12_goesOn_32 ⟨by decide, by decide⟩ ?_
    refine s_iadd hG dX12_goesOn_33 ?_
    obtain ⟨g3, hF⟩ := gd_some hF
    refine s_ialdj (j := (m_w ((m_w (218 + (m_w (4 * a2)))) + 1)).toNat) hG dX12_goesOn_34 (sk_K hsk 66 rfl) g3 rfl ?_
    refine s_iload hG dX12_goesOn_35 rfl ?_
    refine s_icmp_eq hG 42 dX12_goesOn_37 (by decide) (fun c4 => ?_) (fun c4 => ?_)
    · replace hF := Eq.trans (if_pos c4).symm hF
      refine m_weak (ls1 := [some (.inr (.inr 64)), some (.inl a1), none, some (.inl (m_w (218 + (m_w (4 * a2))))), some (.inl (N 93 a1.toNat)), none, none, none]) hG ⟨rfl, ⟨rfl, ⟨rfl, ⟨rfl, trivial⟩⟩⟩⟩ ?_
      exact t_X12_goesOn_j42 hsk hd hG hE hF
    · replace hF := Eq.trans (if_neg c4).symm hF
      refine s_iconst hG dX12_goesOn_40 ⟨by decide, by decide⟩ ?_
      cases hF
      exact s_zret hE dX12_goesOn_41 rfl ⟨by decide, by decide⟩
-- X12_isAhead
theorem t_X12_isAhead_b2 {d n0 s0 nF sF : Nat} {X : MX} {N : NN} {Ω : Nat → MS → Prop} {a1 : Int} {a2 : Int} (hsk : m_Sk X) (hd : 1 ≤ d) (hG : m_G d yX12_isAhead.cls yX12_isAhead.name cX12_isAhead 3 n0 s0 nF sF Ω) {out : ((Int × Int) ⊕ (Int ⊕ Int))} (hK0 : ∀ s' : (Int × Int), out = .inl s' → Ω 2 ([some (.inr (.inr 64)), some (.inl (s'.1)), some (.inl (s'.2))], [], N, X)) (hK1 : ∀ t : (Int ⊕ Int), out = .inr t → match t with | .inl e => Ω 57 ([some (.inr (.inr 64)), some (.inl e), none], [], N, X) | .inr e => Ω 30 ([some (.inr (.inr 64)), none, some (.inl e)], [], N, X)) (hF : b_X12_isAhead_2 X N a1 a2 = some out) : Ω 2 ([some (.inr (.inr 64)), some (.inl a1), some (.inl a2)], [], N, X) := by
  unfold b_X12_isAhead_2 at hF
  refine s_iload_n hG dX12_isAhead_2 rfl ?_
  refine s_iload_n hG dX12_isAhead_3 rfl ?_
  refine s_icmp_gt hG 57 dX12_isAhead_4 (by decide) (fun c5 => ?_) (fun c5 => ?_)
  · replace hF := Eq.trans (if_pos c5).symm hF
    cases hF
    refine m_weak (ls1 := [some (.inr (.inr 64)), some (.inl a1), none]) hG ⟨rfl, ⟨rfl, trivial⟩⟩ ?_
    exact hK1 _ rfl
  · replace hF := Eq.trans (if_neg c5).symm hF
    refine s_iload_n hG dX12_isAhead_7 rfl ?_
    refine s_aload_n hG dX12_isAhead_8 rfl ?_
    refine s_geti hG dX12_isAhead_9 fl_RX12_539 (sk_k hsk 64 rfl) rfl ?_
    refine s_icmp_gt hG 57 dX12_isAhead_12 (by decide) (fun c4 => ?_) (fun c4 => ?_)
    · replace hF := Eq.trans (if_pos c4).symm hF
      cases hF
      refine m_weak (ls1 := [some (.inr (.inr 64)), some (.inl a1), none]) hG ⟨rfl, ⟨rfl, trivial⟩⟩ ?_
      exact hK1 _ rfl
    · replace hF := Eq.trans (if_neg c4).symm hF
      refine s_aload_n hG dX12_isAhead_15 rfl ?_
      refine s_getr (r := 93) hG dX12_isAhead_16 fl_RX12_130 (sk_k hsk 64 rfl) rfl (sk_R hsk 64 50 rfl) ?_
      refine s_iload_n hG dX12_isAhead_19 rfl ?_
      obtain ⟨g1, hF⟩ := gd_some hF
      refine s_ialdj (j := a2.toNat) hG dX12_isAhead_20 (sk_K hsk 93 rfl) g1 rfl ?_
      refine s_aload_n hG dX12_isAhead_21 rfl ?_
      refine s_getr (r := 94) hG dX12_isAhead_22 fl_RX12_133 (sk_k hsk 64 rfl) rfl (sk_R hsk 64 51 rfl) ?_
      refine s_iload_n hG dX12_isAhead_25 rfl ?_
      obtain ⟨g2, hF⟩ := gd_some hF
      refine s_ialdj (j := a2.toNat) hG dX12_isAhead_26 (sk_K hsk 94 rfl) g2 rfl ?_
      refine s_icmp_eq hG 51 dX12_isAhead_27 (by decide) (fun c3 => ?_) (fun c3 => ?_)
      · replace hF := Eq.trans (if_pos c3).symm hF
        refine s_iinc hG dX12_isAhead_51 (by decide) rfl rfl ?_
        refine s_goto hG 2 dX12_isAhead_54 (by decide) ?_
        cases hF
        exact hK0 _ rfl
      · replace hF := Eq.trans (if_neg c3).symm hF
        cases hF
        refine m_weak (ls1 := [some (.inr (.inr 64)), none, some (.inl a2)]) hG ⟨rfl, ⟨rfl, trivial⟩⟩ ?_
        exact hK1 _ rfl
theorem t_X12_isAhead_lp2 {d n0 s0 nF sF : Nat} {X : MX} {N : NN} {Ω : Nat → MS → Prop} {a1 : Int} {a2 : Int} (hsk : m_Sk X) (hd : 1 ≤ d) (hG : m_G d yX12_isAhead.cls yX12_isAhead.name cX12_isAhead 3 n0 s0 nF sF Ω) {t : (Int ⊕ Int)} (hK1 : match t with | .inl e => Ω 57 ([some (.inr (.inr 64)), some (.inl e), none], [], N, X) | .inr e => Ω 30 ([some (.inr (.inr 64)), none, some (.inl e)], [], N, X)) (hl : lp (fun s => b_X12_isAhead_2 X N s.1 s.2) (a1, a2) = some t) : Ω 2 ([some (.inr (.inr 64)), some (.inl a1), some (.inl a2)], [], N, X) := by
  refine lp_ok (P := fun s => Ω 2 ([some (.inr (.inr 64)), some (.inl s.1), some (.inl s.2)], [], N, X)) (K := fun t => match t with | .inl e => Ω 57 ([some (.inr (.inr 64)), some (.inl e), none], [], N, X) | .inr e => Ω 30 ([some (.inr (.inr 64)), none, some (.inl e)], [], N, X)) (fun s out hF hK0 hK1 => ?_) hl hK1
  exact t_X12_isAhead_b2 hsk hd hG (out := out) (fun s' e => hK0 s' e) (fun t' e => hK1 t' e) hF
theorem t_X12_isAhead_j70 {d n0 s0 nF sF : Nat} {X : MX} {N : NN} {Ω : Nat → MS → Prop} {z0 : Int} (hsk : m_Sk X) (hd : 1 ≤ d) (hG : m_G d yX12_isAhead.cls yX12_isAhead.name cX12_isAhead 3 n0 s0 nF sF Ω) {out : Int} (hE : m_Gd d yX12_isAhead cX12_isAhead 3 (some .boolean) X (some (.inl out)) N X Ω) (hF : f_X12_isAhead_j70 X N z0 = some out) : Ω 70 ([none, none, none], [(.inl z0)], N, X) := by
  unfold f_X12_isAhead_j70 at hF
  obtain ⟨g11, hF⟩ := gd_some hF
  cases hF
  exact s_zret hE dX12_isAhead_70 rfl g11
theorem t_X12_isAhead_j50 {d n0 s0 nF sF : Nat} {X : MX} {N : NN} {Ω : Nat → MS → Prop} {z0 : Int} (hsk : m_Sk X) (hd : 1 ≤ d) (hG : m_G d yX12_isAhead.cls yX12_isAhead.name cX12_isAhead 3 n0 s0 nF sF Ω) {out : Int} (hE : m_Gd d yX12_isAhead cX12_isAhead 3 (some .boolean) X (some (.inl out)) N X Ω) (hF : f_X12_isAhead_j50 X N z0 = some out) : Ω 50 ([none, none, none], [(.inl z0)], N, X) := by
  unfold f_X12_isAhead_j50 at hF
  obtain ⟨g12, hF⟩ := gd_some hF
  cases hF
  exact s_zret hE dX12_isAhead_50 rfl g12
theorem t_X12_isAhead {d : Nat} {X : MX} {N : NN} {a1 : Int} {out : Int} (hsk : m_Sk X) (hd : 1 ≤ d) (hF : f_X12_isAhead X N a1 = some out) : m_Call d yX12_isAhead cX12_isAhead 3 (some .boolean) [(.inr (.inr 64)), (.inl a1)] N X (some (.inl out)) N X := by
  refine m_mk (ls0 := [some (.inr (.inr 64)), some (.inl a1), none]) (by decide) rfl (Nat.le_of_ble_eq_true rfl) (Nat.le_refl _) (Nat.le_refl _) (fun Ω hE => ?_)
  have hG := hE.G
  unfold f_X12_isAhead at hF
  refine s_iconst hG dX12_isAhead_0 ⟨by decide, by decide⟩ ?_
  refine s_istore_n hG dX12_isAhead_1 (by decide) rfl ?_
  obtain ⟨o6, hlo6, hF⟩ := bd_some hF
  refine t_X12_isAhead_lp2 hsk hd hG ?_ hlo6
  match o6, hF with
  | .inl e6, hF =>
        try dsimp only at hF
        refine s_iload_n hG dX12_isAhead_57 rfl ?_
        refine s_aload_n hG dX12_isAhead_58 rfl ?_
        refine s_geti hG dX12_isAhead_59 fl_RX12_539 (sk_k hsk 64 rfl) rfl ?_
        refine s_icmp_ge hG 69 dX12_isAhead_62 (by decide) (fun c7 => ?_) (fun c7 => ?_)
        · replace hF := Eq.trans (if_pos c7).symm hF
          refine s_iconst hG dX12_isAhead_65 ⟨by decide, by decide⟩ ?_
          refine s_goto hG 70 dX12_isAhead_66 (by decide) ?_
          refine m_weak (ls1 := [none, none, none]) hG trivial ?_
          exact t_X12_isAhead_j70 hsk hd hG hE hF
        · replace hF := Eq.trans (if_neg c7).symm hF
          refine s_iconst hG dX12_isAhead_69 ⟨by decide, by decide⟩ ?_
          refine m_weak (ls1 := [none, none, none]) hG trivial ?_
          exact t_X12_isAhead_j70 hsk hd hG hE hF
  | .inr e6, hF =>
        try dsimp only at hF
        refine s_aload_n hG dX12_isAhead_30 rfl ?_
        refine s_getr (r := 93) hG dX12_isAhead_31 fl_RX12_130 (sk_k hsk 64 rfl) rfl (sk_R hsk 64 50 rfl) ?_
        refine s_iload_n hG dX12_isAhead_34 rfl ?_
        obtain ⟨g8, hF⟩ := gd_some hF
        refine s_ialdj (j := e6.toNat) hG dX12_isAhead_35 (sk_K hsk 93 rfl) g8 rfl ?_
        refine s_aload_n hG dX12_isAhead_36 rfl ?_
        refine s_getr (r := 94) hG dX12_isAhead_37 fl_RX12_133 (sk_k hsk 64 rfl) rfl (sk_R hsk 64 51 rfl) ?_
        refine s_iload_n hG dX12_isAhead_40 rfl ?_
        obtain ⟨g9, hF⟩ := gd_some hF
        refine s_ialdj (j := e6.toNat) hG dX12_isAhead_41 (sk_K hsk 94 rfl) g9 rfl ?_
        refine s_icmp_ge hG 49 dX12_isAhead_42 (by decide) (fun c10 => ?_) (fun c10 => ?_)
        · replace hF := Eq.trans (if_pos c10).symm hF
          refine s_iconst hG dX12_isAhead_45 ⟨by decide, by decide⟩ ?_
          refine s_goto hG 50 dX12_isAhead_46 (by decide) ?_
          refine m_weak (ls1 := [none, none, none]) hG trivial ?_
          exact t_X12_isAhead_j50 hsk hd hG hE hF
        · replace hF := Eq.trans (if_neg c10).symm hF
          refine s_iconst hG dX12_isAhead_49 ⟨by decide, by decide⟩ ?_
          refine m_weak (ls1 := [none, none, none]) hG trivial ?_
          exact t_X12_isAhead_j50 hsk hd hG hE hF
-- X12_weighWay
theorem t_X12_weighWay_b13 {d n0 s0 nF sF : Nat} {X : MX} {Ω : Nat → MS → Prop} {N : NN} {a1 : Int} {a2 : Int} {a3 : Int} {a4 : Int} (hsk : m_Sk X) (hd : 2 ≤ d) (hG : m_G d yX12_weighWay.cls yX12_weighWay.name cX12_weighWay 6 n0 s0 nF sF Ω) {out : ((NN × Int × Int × Int × Int) ⊕ (NN × Int × Int × Int))} (hK0 : ∀ s' : (NN × Int × Int × Int × Int), out = .inl s' → Ω 13 ([some (.inr (.inr 64)), some (.inl (s'.2.1)), some (.inl (s'.2.2.1)), some (.inl (s'.2.2.2.1)), some (.inl (s'.2.2.2.2)), none], [], s'.1, X)) (hK1 : ∀ t : (NN × Int × Int × Int), out = .inr t → Ω 74 ([some (.inr (.inr 64)), some (.inl t.2.1), some (.inl t.2.2.1), some (.inl t.2.2.2), none, none], [], t.1, X)) (hF : b_X12_weighWay_13 X N a1 a2 a3 a4 = some out) : Ω 13 ([some (.inr (.inr 64)), some (.inl a1), some (.inl a2), some (.inl a3), some (.inl a4), none], [], N, X) := by
  unfold b_X12_weighWay_13 at hF
  refine s_iload hG dX12_weighWay_13 rfl ?_
  refine s_iload_n hG dX12_weighWay_15 rfl ?_
  refine s_icmp_ge hG 74 dX12_weighWay_16 (by decide) (fun c6 => ?_) (fun c6 => ?_)
  · replace hF := Eq.trans (if_pos c6).symm hF
    refine s_iload_n hG dX12_weighWay_19 rfl ?_
    refine s_bipush hG dX12_weighWay_20 bp_10 ⟨by decide, by decide⟩ ?_
    refine s_aload_n hG dX12_weighWay_22 rfl ?_
    refine s_getr (r := 66) hG dX12_weighWay_23 fl_RX12_13 (sk_k hsk 64 rfl) rfl (sk_R hsk 64 3 rfl) ?_
    refine s_sipush hG dX12_weighWay_26 sp_218 ⟨by decide, by decide⟩ ?_
    refine s_iconst hG dX12_weighWay_29 ⟨by decide, by decide⟩ ?_
    refine s_aload_n hG dX12_weighWay_30 rfl ?_
    refine s_getr (r := 95) hG dX12_weighWay_31 fl_RX12_136 (sk_k hsk 64 rfl) rfl (sk_R hsk 64 52 rfl) ?_
    refine s_iload hG dX12_weighWay_34 rfl ?_
    obtain ⟨g2, hF⟩ := gd_some hF
    refine s_ialdj (j := a4.toNat) hG dX12_weighWay_36 (sk_K hsk 95 rfl) g2 rfl ?_
    refine s_imul hG dX12_weighWay_37 ?_
    refine s_iadd hG dX12_weighWay_38 ?_
    refine s_iconst hG dX12_weighWay_39 ⟨by decide, by decide⟩ ?_
    refine s_iadd hG dX12_weighWay_40 ?_
    obtain ⟨g3, hF⟩ := gd_some hF
    refine s_ialdj (j := (m_w ((m_w (218 + (m_w (4 * (N 95 a4.toNat))))) + 3)).toNat) hG dX12_weighWay_41 (sk_K hsk 66 rfl) g3 rfl ?_
    refine s_isub hG dX12_weighWay_42 ?_
    refine s_imul hG dX12_weighWay_43 ?_
    refine s_istore_n hG dX12_weighWay_44 (by decide) rfl ?_
    refine s_iload_n hG dX12_weighWay_45 rfl ?_
    refine s_aload_n hG dX12_weighWay_46 rfl ?_
    refine s_getr (r := 66) hG dX12_weighWay_47 fl_RX12_13 (sk_k hsk 64 rfl) rfl (sk_R hsk 64 3 rfl) ?_
    refine s_sipush hG dX12_weighWay_50 sp_218 ⟨by decide, by decide⟩ ?_
    refine s_iconst hG dX12_weighWay_53 ⟨by decide, by decide⟩ ?_
    refine s_aload_n hG dX12_weighWay_54 rfl ?_
    refine s_getr (r := 95) hG dX12_weighWay_55 fl_RX12_136 (sk_k hsk 64 rfl) rfl (sk_R hsk 64 52 rfl) ?_
    refine s_iload hG dX12_weighWay_58 rfl ?_
    obtain ⟨g4, hF⟩ := gd_some hF
    refine s_ialdj (j := a4.toNat) hG dX12_weighWay_60 (sk_K hsk 95 rfl) g4 rfl ?_
    refine s_imul hG dX12_weighWay_61 ?_
    refine s_iadd hG dX12_weighWay_62 ?_
    refine s_iconst hG dX12_weighWay_63 ⟨by decide, by decide⟩ ?_
    refine s_iadd hG dX12_weighWay_64 ?_
    obtain ⟨g5, hF⟩ := gd_some hF
    refine s_ialdj (j := (m_w ((m_w (218 + (m_w (4 * (N 95 a4.toNat))))) + 2)).toNat) hG dX12_weighWay_65 (sk_K hsk 66 rfl) g5 rfl ?_
    refine s_iadd hG dX12_weighWay_66 ?_
    refine s_istore_n hG dX12_weighWay_67 (by decide) rfl ?_
    refine s_iinc hG dX12_weighWay_68 (by decide) rfl rfl ?_
    refine s_goto hG 13 dX12_weighWay_71 (by decide) ?_
    cases hF
    exact hK0 _ rfl
  · replace hF := Eq.trans (if_neg c6).symm hF
    cases hF
    refine m_weak (ls1 := [some (.inr (.inr 64)), some (.inl a1), some (.inl a2), some (.inl a3), none, none]) hG ⟨rfl, ⟨rfl, ⟨rfl, ⟨rfl, trivial⟩⟩⟩⟩ ?_
    exact hK1 _ rfl
theorem t_X12_weighWay_lp13 {d n0 s0 nF sF : Nat} {X : MX} {Ω : Nat → MS → Prop} {N : NN} {a1 : Int} {a2 : Int} {a3 : Int} {a4 : Int} (hsk : m_Sk X) (hd : 2 ≤ d) (hG : m_G d yX12_weighWay.cls yX12_weighWay.name cX12_weighWay 6 n0 s0 nF sF Ω) {t : (NN × Int × Int × Int)} (hK1 : Ω 74 ([some (.inr (.inr 64)), some (.inl t.2.1), some (.inl t.2.2.1), some (.inl t.2.2.2), none, none], [], t.1, X)) (hl : lp (fun s => b_X12_weighWay_13 X s.1 s.2.1 s.2.2.1 s.2.2.2.1 s.2.2.2.2) (N, a1, a2, a3, a4) = some t) : Ω 13 ([some (.inr (.inr 64)), some (.inl a1), some (.inl a2), some (.inl a3), some (.inl a4), none], [], N, X) := by
  refine lp_ok (P := fun s => Ω 13 ([some (.inr (.inr 64)), some (.inl s.2.1), some (.inl s.2.2.1), some (.inl s.2.2.2.1), some (.inl s.2.2.2.2), none], [], s.1, X)) (K := fun t => Ω 74 ([some (.inr (.inr 64)), some (.inl t.2.1), some (.inl t.2.2.1), some (.inl t.2.2.2), none, none], [], t.1, X)) (fun s out hF hK0 hK1 => ?_) hl hK1
  exact t_X12_weighWay_b13 hsk hd hG (out := out) (fun s' e => hK0 s' e) (fun t' e => hK1 t' e) hF
theorem t_X12_weighWay_b149 {d n0 s0 nF sF : Nat} {X : MX} {Ω : Nat → MS → Prop} {N : NN} {a1 : Int} {a5 : Int} (hsk : m_Sk X) (hd : 2 ≤ d) (hG : m_G d yX12_weighWay.cls yX12_weighWay.name cX12_weighWay 6 n0 s0 nF sF Ω) {out : ((NN × Int × Int) ⊕ NN)} (hK0 : ∀ s' : (NN × Int × Int), out = .inl s' → Ω 149 ([some (.inr (.inr 64)), some (.inl (s'.2.1)), none, none, none, some (.inl (s'.2.2))], [], s'.1, X)) (hK1 : ∀ t : NN, out = .inr t → Ω 175 ([none, none, none, none, none, none], [], t, X)) (hF : b_X12_weighWay_149 X N a1 a5 = some out) : Ω 149 ([some (.inr (.inr 64)), some (.inl a1), none, none, none, some (.inl a5)], [], N, X) := by
  unfold b_X12_weighWay_149 at hF
  refine s_iload hG dX12_weighWay_149 rfl ?_
  refine s_iload_n hG dX12_weighWay_151 rfl ?_
  refine s_icmp_gt hG 175 dX12_weighWay_152 (by decide) (fun c21 => ?_) (fun c21 => ?_)
  · replace hF := Eq.trans (if_pos c21).symm hF
    cases hF
    refine m_weak (ls1 := [none, none, none, none, none, none]) hG trivial ?_
    exact hK1 _ rfl
  · replace hF := Eq.trans (if_neg c21).symm hF
    refine s_aload_n hG dX12_weighWay_155 rfl ?_
    refine s_getr (r := 94) hG dX12_weighWay_156 fl_RX12_133 (sk_k hsk 64 rfl) rfl (sk_R hsk 64 51 rfl) ?_
    refine s_iload hG dX12_weighWay_159 rfl ?_
    refine s_aload_n hG dX12_weighWay_161 rfl ?_
    refine s_getr (r := 93) hG dX12_weighWay_162 fl_RX12_130 (sk_k hsk 64 rfl) rfl (sk_R hsk 64 50 rfl) ?_
    refine s_iload hG dX12_weighWay_165 rfl ?_
    obtain ⟨g18, hF⟩ := gd_some hF
    refine s_ialdj (j := a5.toNat) hG dX12_weighWay_167 (sk_K hsk 93 rfl) g18 rfl ?_
    obtain ⟨g19, hF⟩ := gd_some hF
    refine s_iastj (j := a5.toNat) hG dX12_weighWay_168 (sk_K hsk 94 rfl) g19 rfl ?_
    refine s_iinc hG dX12_weighWay_169 (by decide) rfl rfl ?_
    refine s_goto hG 149 dX12_weighWay_172 (by decide) ?_
    cases hF
    exact hK0 _ rfl
theorem t_X12_weighWay_lp149 {d n0 s0 nF sF : Nat} {X : MX} {Ω : Nat → MS → Prop} {N : NN} {a1 : Int} {a5 : Int} (hsk : m_Sk X) (hd : 2 ≤ d) (hG : m_G d yX12_weighWay.cls yX12_weighWay.name cX12_weighWay 6 n0 s0 nF sF Ω) {t : NN} (hK1 : Ω 175 ([none, none, none, none, none, none], [], t, X)) (hl : lp (fun s => b_X12_weighWay_149 X s.1 s.2.1 s.2.2) (N, a1, a5) = some t) : Ω 149 ([some (.inr (.inr 64)), some (.inl a1), none, none, none, some (.inl a5)], [], N, X) := by
  refine lp_ok (P := fun s => Ω 149 ([some (.inr (.inr 64)), some (.inl s.2.1), none, none, none, some (.inl s.2.2)], [], s.1, X)) (K := fun t => Ω 175 ([none, none, none, none, none, none], [], t, X)) (fun s out hF hK0 hK1 => ?_) hl hK1
  exact t_X12_weighWay_b149 hsk hd hG (out := out) (fun s' e => hK0 s' e) (fun t' e => hK1 t' e) hF
theorem t_X12_weighWay_j123 {d n0 s0 nF sF : Nat} {X : MX} {Ω : Nat → MS → Prop} {N : NN} {a1 : Int} {a2 : Int} {a3 : Int} {z0 : Int} (hsk : m_Sk X) (hd : 2 ≤ d) (hG : m_G d yX12_weighWay.cls yX12_weighWay.name cX12_weighWay 6 n0 s0 nF sF Ω) {out : NN} (hE : m_Gd d yX12_weighWay cX12_weighWay 6 none X none out X Ω) (hF : f_X12_weighWay_j123 X N a1 a2 a3 z0 = some out) : Ω 123 ([some (.inr (.inr 64)), some (.inl a1), some (.inl a2), some (.inl a3), none, none], [(.inl z0)], N, X) := by
  unfold f_X12_weighWay_j123 at hF
  refine s_istore hG dX12_weighWay_123 (by decide) rfl ?_
  refine s_iload hG dX12_weighWay_125 rfl ?_
  refine s_if_ne hG 131 dX12_weighWay_127 (by decide) (fun c23 => ?_) (fun c23 => ?_)
  · replace hF := Eq.trans (if_pos c23).symm hF
    cases hF
    exact s_vret hE dX12_weighWay_130 rfl
  · replace hF := Eq.trans (if_neg c23).symm hF
    refine s_aload_n hG dX12_weighWay_131 rfl ?_
    refine s_iload_n hG dX12_weighWay_132 rfl ?_
    refine s_puti hG dX12_weighWay_133 fl_RX12_530 (fun h => by cases h) (sk_k hsk 64 rfl) rfl ?_
    refine s_aload_n hG dX12_weighWay_136 rfl ?_
    refine s_iload_n hG dX12_weighWay_137 rfl ?_
    refine s_puti hG dX12_weighWay_138 fl_RX12_533 (fun h => by cases h) (sk_k hsk 64 rfl) rfl ?_
    refine s_aload_n hG dX12_weighWay_141 rfl ?_
    refine s_iload_n hG dX12_weighWay_142 rfl ?_
    refine s_puti hG dX12_weighWay_143 fl_RX12_539 (fun h => by cases h) (sk_k hsk 64 rfl) rfl ?_
    refine s_iconst hG dX12_weighWay_146 ⟨by decide, by decide⟩ ?_
    refine s_istore hG dX12_weighWay_147 (by decide) rfl ?_
    obtain ⟨o22, hlo22, hF⟩ := bd_some hF
    refine m_weak (ls1 := [some (.inr (.inr 64)), some (.inl a1), none, none, none, some (.inl 0)]) hG ⟨rfl, ⟨rfl, ⟨rfl, trivial⟩⟩⟩ ?_
    refine t_X12_weighWay_lp149 hsk hd hG ?_ hlo22
    cases hF
    exact s_vret hE dX12_weighWay_175 rfl
theorem t_X12_weighWay_j118 {d n0 s0 nF sF : Nat} {X : MX} {Ω : Nat → MS → Prop} {N : NN} {a1 : Int} {a2 : Int} {a3 : Int} (hsk : m_Sk X) (hd : 2 ≤ d) (hG : m_G d yX12_weighWay.cls yX12_weighWay.name cX12_weighWay 6 n0 s0 nF sF Ω) {out : NN} (hE : m_Gd d yX12_weighWay cX12_weighWay 6 none X none out X Ω) (hF : f_X12_weighWay_j118 X N a1 a2 a3 = some out) : Ω 118 ([some (.inr (.inr 64)), some (.inl a1), some (.inl a2), some (.inl a3), none, none], [], N, X) := by
  unfold f_X12_weighWay_j118 at hF
  refine s_iconst hG dX12_weighWay_118 ⟨by decide, by decide⟩ ?_
  refine s_goto hG 123 dX12_weighWay_119 (by decide) ?_
  exact t_X12_weighWay_j123 hsk hd hG hE hF
theorem t_X12_weighWay_j122 {d n0 s0 nF sF : Nat} {X : MX} {Ω : Nat → MS → Prop} {N : NN} {a1 : Int} {a2 : Int} {a3 : Int} (hsk : m_Sk X) (hd : 2 ≤ d) (hG : m_G d yX12_weighWay.cls yX12_weighWay.name cX12_weighWay 6 n0 s0 nF sF Ω) {out : NN} (hE : m_Gd d yX12_weighWay cX12_weighWay 6 none X none out X Ω) (hF : f_X12_weighWay_j122 X N a1 a2 a3 = some out) : Ω 122 ([some (.inr (.inr 64)), some (.inl a1), some (.inl a2), some (.inl a3), none, none], [], N, X) := by
  unfold f_X12_weighWay_j122 at hF
  refine s_iconst hG dX12_weighWay_122 ⟨by decide, by decide⟩ ?_
  exact t_X12_weighWay_j123 hsk hd hG hE hF
theorem t_X12_weighWay {d : Nat} {X : MX} {N : NN} {a1 : Int} {out : NN} (hsk : m_Sk X) (hd : 2 ≤ d) (hF : f_X12_weighWay X N a1 = some out) : m_Call d yX12_weighWay cX12_weighWay 6 none [(.inr (.inr 64)), (.inl a1)] N X none out X := by
  refine m_mk (ls0 := [some (.inr (.inr 64)), some (.inl a1), none, none, none, none]) (by decide) rfl (Nat.le_of_ble_eq_true rfl) (Nat.le_refl _) (Nat.le_refl _) (fun Ω hE => ?_)
  have hG := hE.G
  unfold f_X12_weighWay at hF
  refine s_tens hG (by have := hsk.1; omega) dX12_weighWay_0 lk_tens ?_
  refine s_iconst hG dX12_weighWay_3 ⟨by decide, by decide⟩ ?_
  refine s_iload_n hG dX12_weighWay_4 rfl ?_
  refine s_isub hG dX12_weighWay_5 ?_
  obtain ⟨g1, hF⟩ := gd_some hF
  refine s_tensAt hG dX12_weighWay_6 g1 ?_
  refine s_istore_n hG dX12_weighWay_7 (by decide) rfl ?_
  refine s_iconst hG dX12_weighWay_8 ⟨by decide, by decide⟩ ?_
  refine s_istore_n hG dX12_weighWay_9 (by decide) rfl ?_
  refine s_iconst hG dX12_weighWay_10 ⟨by decide, by decide⟩ ?_
  refine s_istore hG dX12_weighWay_11 (by decide) rfl ?_
  obtain ⟨o7, hlo7, hF⟩ := bd_some hF
  refine t_X12_weighWay_lp13 hsk hd hG ?_ hlo7
  refine s_iload_n hG dX12_weighWay_74 rfl ?_
  refine s_aload_n hG dX12_weighWay_75 rfl ?_
  refine s_geti hG dX12_weighWay_76 fl_RX12_530 (sk_k hsk 64 rfl) rfl ?_
  refine s_icmp_gt hG 118 dX12_weighWay_79 (by decide) (fun c14 => ?_) (fun c14 => ?_)
  · replace hF := Eq.trans (if_pos c14).symm hF
    exact t_X12_weighWay_j118 hsk hd hG hE hF
  · replace hF := Eq.trans (if_neg c14).symm hF
    refine s_iload_n hG dX12_weighWay_82 rfl ?_
    refine s_aload_n hG dX12_weighWay_83 rfl ?_
    refine s_geti hG dX12_weighWay_84 fl_RX12_530 (sk_k hsk 64 rfl) rfl ?_
    refine s_icmp_ne hG 122 dX12_weighWay_87 (by decide) (fun c13 => ?_) (fun c13 => ?_)
    · replace hF := Eq.trans (if_pos c13).symm hF
      refine s_iload_n hG dX12_weighWay_90 rfl ?_
      refine s_if_le hG 122 dX12_weighWay_91 (by decide) (fun c12 => ?_) (fun c12 => ?_)
      · replace hF := Eq.trans (if_pos c12).symm hF
        refine s_iload_n hG dX12_weighWay_94 rfl ?_
        refine s_aload_n hG dX12_weighWay_95 rfl ?_
        refine s_geti hG dX12_weighWay_96 fl_RX12_533 (sk_k hsk 64 rfl) rfl ?_
        refine s_icmp_lt hG 118 dX12_weighWay_99 (by decide) (fun c11 => ?_) (fun c11 => ?_)
        · replace hF := Eq.trans (if_pos c11).symm hF
          exact t_X12_weighWay_j118 hsk hd hG hE hF
        · replace hF := Eq.trans (if_neg c11).symm hF
          refine s_iload_n hG dX12_weighWay_102 rfl ?_
          refine s_aload_n hG dX12_weighWay_103 rfl ?_
          refine s_geti hG dX12_weighWay_104 fl_RX12_533 (sk_k hsk 64 rfl) rfl ?_
          refine s_icmp_ne hG 122 dX12_weighWay_107 (by decide) (fun c10 => ?_) (fun c10 => ?_)
          · replace hF := Eq.trans (if_pos c10).symm hF
            refine s_aload_n hG dX12_weighWay_110 rfl ?_
            refine s_iload_n hG dX12_weighWay_111 rfl ?_
            obtain ⟨o8, ho8, hF⟩ := bd_some hF
            refine s_callV (d' := d - 1) (ci := 12) (args := [.inl o7.2.1]) hG (by omega) dX12_weighWay_112 cv_RX12_536 cw_X12_isAhead rfl rfl (sk_k hsk 64 rfl) (Nat.le_of_ble_eq_true rfl) rfl (t_X12_isAhead hsk (by omega) ho8) ?_
            refine s_if_eq hG 122 dX12_weighWay_115 (by decide) (fun c9 => ?_) (fun c9 => ?_)
            · replace hF := Eq.trans (if_pos c9).symm hF
              exact t_X12_weighWay_j122 hsk hd hG hE hF
            · replace hF := Eq.trans (if_neg c9).symm hF
              exact t_X12_weighWay_j118 hsk hd hG hE hF
          · replace hF := Eq.trans (if_neg c10).symm hF
            exact t_X12_weighWay_j122 hsk hd hG hE hF
      · replace hF := Eq.trans (if_neg c12).symm hF
        exact t_X12_weighWay_j122 hsk hd hG hE hF
    · replace hF := Eq.trans (if_neg c13).symm hF
      exact t_X12_weighWay_j122 hsk hd hG hE hF
-- X12_findWay
theorem t_X12_findWay_b42 {d n0 s0 nF sF : Nat} {X : MX} {Ω : Nat → MS → Prop} {N : NN} {a2 : Int} {a3 : Int} (hsk : m_Sk X) (hd : 3 ≤ d) (hG : m_G d yX12_findWay.cls yX12_findWay.name cX12_findWay 4 n0 s0 nF sF Ω) {out : ((NN × Int × Int) ⊕ NN)} (hK0 : ∀ s' : (NN × Int × Int), out = .inl s' → Ω 42 ([some (.inr (.inr 64)), none, some (.inl (s'.2.1)), some (.inl (s'.2.2))], [], s'.1, X)) (hK1 : ∀ t : NN, out = .inr t → Ω 131 ([none, none, none, none], [], t, X)) (hF : b_X12_findWay_42 X N a2 a3 = some out) : Ω 42 ([some (.inr (.inr 64)), none, some (.inl a2), some (.inl a3)], [], N, X) := by
  unfold b_X12_findWay_42 at hF
  refine s_iload_n hG dX12_findWay_42 rfl ?_
  refine s_if_lt hG 131 dX12_findWay_43 (by decide) (fun c21 => ?_) (fun c21 => ?_)
  · replace hF := Eq.trans (if_pos c21).symm hF
    cases hF
    refine m_weak (ls1 := [none, none, none, none]) hG trivial ?_
    exact hK1 _ rfl
  · replace hF := Eq.trans (if_neg c21).symm hF
    refine s_aload_n hG dX12_findWay_46 rfl ?_
    refine s_getr (r := 95) hG dX12_findWay_47 fl_RX12_136 (sk_k hsk 64 rfl) rfl (sk_R hsk 64 52 rfl) ?_
    refine s_iload_n hG dX12_findWay_50 rfl ?_
    refine s_dup2 hG dX12_findWay_51 rfl rfl ?_
    obtain ⟨g7, hF⟩ := gd_some hF
    refine s_ialdj (j := a3.toNat) hG dX12_findWay_52 (sk_K hsk 95 rfl) g7 rfl ?_
    refine s_iconst hG dX12_findWay_53 ⟨by decide, by decide⟩ ?_
    refine s_iadd hG dX12_findWay_54 ?_
    obtain ⟨g8, hF⟩ := gd_some hF
    refine s_iastj (j := a3.toNat) hG dX12_findWay_55 (sk_K hsk 95 rfl) g8 rfl ?_
    let N9 : NN := m_up N 95 a3.toNat (m_w ((N 95 a3.toNat) + 1))
    refine s_aload_n hG dX12_findWay_56 rfl ?_
    refine s_getr (r := 95) hG dX12_findWay_57 fl_RX12_136 (sk_k hsk 64 rfl) rfl (sk_R hsk 64 52 rfl) ?_
    refine s_iload_n hG dX12_findWay_60 rfl ?_
    obtain ⟨g10, hF⟩ := gd_some hF
    refine s_ialdj (j := a3.toNat) hG dX12_findWay_61 (sk_K hsk 95 rfl) g10 rfl ?_
    refine s_aload_n hG dX12_findWay_62 rfl ?_
    refine s_getr (r := 66) hG dX12_findWay_63 fl_RX12_13 (sk_k hsk 64 rfl) rfl (sk_R hsk 64 3 rfl) ?_
    refine s_iconst hG dX12_findWay_66 ⟨by decide, by decide⟩ ?_
    refine s_ialdj (j := 3) hG dX12_findWay_67 (sk_K hsk 66 rfl) ⟨by decide, by decide⟩ rfl ?_
    refine s_icmp_ne hG 77 dX12_findWay_68 (by decide) (fun c20 => ?_) (fun c20 => ?_)
    · replace hF := Eq.trans (if_pos c20).symm hF
      refine s_iinc hG dX12_findWay_71 (by decide) rfl rfl ?_
      refine s_goto hG 42 dX12_findWay_74 (by decide) ?_
      cases hF
      exact hK0 _ rfl
    · replace hF := Eq.trans (if_neg c20).symm hF
      refine s_aload_n hG dX12_findWay_77 rfl ?_
      refine s_iload_n hG dX12_findWay_78 rfl ?_
      refine s_aload_n hG dX12_findWay_79 rfl ?_
      refine s_getr (r := 95) hG dX12_findWay_80 fl_RX12_136 (sk_k hsk 64 rfl) rfl (sk_R hsk 64 52 rfl) ?_
      refine s_iload_n hG dX12_findWay_83 rfl ?_
      obtain ⟨g11, hF⟩ := gd_some hF
      refine s_ialdj (j := a3.toNat) hG dX12_findWay_84 (sk_K hsk 95 rfl) g11 rfl ?_
      obtain ⟨o12, ho12, hF⟩ := bd_some hF
      refine s_callV (d' := d - 1) (ci := 12) (args := [.inl a3, .inl (N9 95 a3.toNat)]) hG (by omega) dX12_findWay_85 cv_RX12_545 cw_X12_goesOn rfl rfl (sk_k hsk 64 rfl) (Nat.le_of_ble_eq_true rfl) rfl (t_X12_goesOn hsk (by omega) ho12) ?_
      refine s_if_eq hG 42 dX12_findWay_88 (by decide) (fun c19 => ?_) (fun c19 => ?_)
      · replace hF := Eq.trans (if_pos c19).symm hF
        cases hF
        exact hK0 _ rfl
      · replace hF := Eq.trans (if_neg c19).symm hF
        refine s_aload_n hG dX12_findWay_91 rfl ?_
        refine s_getr (r := 93) hG dX12_findWay_92 fl_RX12_130 (sk_k hsk 64 rfl) rfl (sk_R hsk 64 50 rfl) ?_
        refine s_iload_n hG dX12_findWay_95 rfl ?_
        refine s_iconst hG dX12_findWay_96 ⟨by decide, by decide⟩ ?_
        refine s_iadd hG dX12_findWay_97 ?_
        obtain ⟨g13, hF⟩ := gd_some hF
        refine s_ialdj (j := (m_w (a3 + 1)).toNat) hG dX12_findWay_98 (sk_K hsk 93 rfl) g13 rfl ?_
        refine s_iload_n hG dX12_findWay_99 rfl ?_
        refine s_icmp_ne hG 113 dX12_findWay_100 (by decide) (fun c18 => ?_) (fun c18 => ?_)
        · replace hF := Eq.trans (if_pos c18).symm hF
          refine s_aload_n hG dX12_findWay_103 rfl ?_
          refine s_iload_n hG dX12_findWay_104 rfl ?_
          refine s_iconst hG dX12_findWay_105 ⟨by decide, by decide⟩ ?_
          refine s_iadd hG dX12_findWay_106 ?_
          obtain ⟨o14, ho14, hF⟩ := bd_some hF
          refine s_callV (d' := d - 1) (ci := 12) (args := [.inl (m_w (a3 + 1))]) hG (by omega) dX12_findWay_107 cv_RX12_542 cw_X12_weighWay rfl rfl (sk_k hsk 64 rfl) (Nat.le_of_ble_eq_true rfl) rfl (t_X12_weighWay hsk (by omega) ho14) ?_
          refine s_goto hG 42 dX12_findWay_110 (by decide) ?_
          cases hF
          exact hK0 _ rfl
        · replace hF := Eq.trans (if_neg c18).symm hF
          refine s_iload_n hG dX12_findWay_113 rfl ?_
          refine s_iconst hG dX12_findWay_114 ⟨by decide, by decide⟩ ?_
          refine s_icmp_ge hG 42 dX12_findWay_115 (by decide) (fun c17 => ?_) (fun c17 => ?_)
          · replace hF := Eq.trans (if_pos c17).symm hF
            refine s_iinc hG dX12_findWay_118 (by decide) rfl rfl ?_
            refine s_aload_n hG dX12_findWay_121 rfl ?_
            refine s_getr (r := 95) hG dX12_findWay_122 fl_RX12_136 (sk_k hsk 64 rfl) rfl (sk_R hsk 64 52 rfl) ?_
            refine s_iload_n hG dX12_findWay_125 rfl ?_
            refine s_iconst hG dX12_findWay_126 ⟨by decide, by decide⟩ ?_
            obtain ⟨g15, hF⟩ := gd_some hF
            refine s_iastj (j := (m_w (a3 + 1)).toNat) hG dX12_findWay_127 (sk_K hsk 95 rfl) g15 rfl ?_
            refine s_goto hG 42 dX12_findWay_128 (by decide) ?_
            cases hF
            exact hK0 _ rfl
          · replace hF := Eq.trans (if_neg c17).symm hF
            cases hF
            exact hK0 _ rfl
theorem t_X12_findWay_lp42 {d n0 s0 nF sF : Nat} {X : MX} {Ω : Nat → MS → Prop} {N : NN} {a2 : Int} {a3 : Int} (hsk : m_Sk X) (hd : 3 ≤ d) (hG : m_G d yX12_findWay.cls yX12_findWay.name cX12_findWay 4 n0 s0 nF sF Ω) {t : NN} (hK1 : Ω 131 ([none, none, none, none], [], t, X)) (hl : lp (fun s => b_X12_findWay_42 X s.1 s.2.1 s.2.2) (N, a2, a3) = some t) : Ω 42 ([some (.inr (.inr 64)), none, some (.inl a2), some (.inl a3)], [], N, X) := by
  refine lp_ok (P := fun s => Ω 42 ([some (.inr (.inr 64)), none, some (.inl s.2.1), some (.inl s.2.2)], [], s.1, X)) (K := fun t => Ω 131 ([none, none, none, none], [], t, X)) (fun s out hF hK0 hK1 => ?_) hl hK1
  exact t_X12_findWay_b42 hsk hd hG (out := out) (fun s' e => hK0 s' e) (fun t' e => hK1 t' e) hF
theorem t_X12_findWay {d : Nat} {X : MX} {N : NN} {a1 : Int} {a2 : Int} {out : NN} (hsk : m_Sk X) (hd : 3 ≤ d) (hF : f_X12_findWay X N a1 a2 = some out) : m_Call d yX12_findWay cX12_findWay 4 none [(.inr (.inr 64)), (.inl a1), (.inl a2)] N X none out X := by
  refine m_mk (ls0 := [some (.inr (.inr 64)), some (.inl a1), some (.inl a2), none]) (by decide) rfl (Nat.le_of_ble_eq_true rfl) (Nat.le_refl _) (Nat.le_refl _) (fun Ω hE => ?_)
  have hG := hE.G
  unfold f_X12_findWay at hF
  refine s_aload_n hG dX12_findWay_0 rfl ?_
  refine s_iconst hG dX12_findWay_1 ⟨by decide, by decide⟩ ?_
  refine s_puti hG dX12_findWay_2 fl_RX12_530 (fun h => by cases h) (sk_k hsk 64 rfl) rfl ?_
  refine s_aload_n hG dX12_findWay_5 rfl ?_
  refine s_iconst hG dX12_findWay_6 ⟨by decide, by decide⟩ ?_
  refine s_puti hG dX12_findWay_7 fl_RX12_533 (fun h => by cases h) (sk_k hsk 64 rfl) rfl ?_
  refine s_aload_n hG dX12_findWay_10 rfl ?_
  refine s_iconst hG dX12_findWay_11 ⟨by decide, by decide⟩ ?_
  refine s_puti hG dX12_findWay_12 fl_RX12_539 (fun h => by cases h) (sk_k hsk 64 rfl) rfl ?_
  refine s_aload_n hG dX12_findWay_15 rfl ?_
  refine s_getr (r := 93) hG dX12_findWay_16 fl_RX12_130 (sk_k hsk 64 rfl) rfl (sk_R hsk 64 50 rfl) ?_
  refine s_iconst hG dX12_findWay_19 ⟨by decide, by decide⟩ ?_
  refine s_iload_n hG dX12_findWay_20 rfl ?_
  refine s_iastj (j := 0) hG dX12_findWay_21 (sk_K hsk 93 rfl) ⟨by decide, by decide⟩ rfl ?_
  refine s_iload_n hG dX12_findWay_22 rfl ?_
  refine s_iload_n hG dX12_findWay_23 rfl ?_
  refine s_icmp_ne hG 33 dX12_findWay_24 (by decide) (fun c23 => ?_) (fun c23 => ?_)
  · replace hF := Eq.trans (if_pos c23).symm hF
    refine s_aload_n hG dX12_findWay_27 rfl ?_
    refine s_iconst hG dX12_findWay_28 ⟨by decide, by decide⟩ ?_
    obtain ⟨o5, ho5, hF⟩ := bd_some hF
    refine s_callV (d' := d - 1) (ci := 12) (args := [.inl 0]) hG (by omega) dX12_findWay_29 cv_RX12_542 cw_X12_weighWay rfl rfl (sk_k hsk 64 rfl) (Nat.le_of_ble_eq_true rfl) rfl (t_X12_weighWay hsk (by omega) ho5) ?_
    cases hF
    exact s_vret hE dX12_findWay_32 rfl
  · replace hF := Eq.trans (if_neg c23).symm hF
    refine s_iconst hG dX12_findWay_33 ⟨by decide, by decide⟩ ?_
    refine s_istore_n hG dX12_findWay_34 (by decide) rfl ?_
    refine s_aload_n hG dX12_findWay_35 rfl ?_
    refine s_getr (r := 95) hG dX12_findWay_36 fl_RX12_136 (sk_k hsk 64 rfl) rfl (sk_R hsk 64 52 rfl) ?_
    refine s_iconst hG dX12_findWay_39 ⟨by decide, by decide⟩ ?_
    refine s_iconst hG dX12_findWay_40 ⟨by decide, by decide⟩ ?_
    refine s_iastj (j := 0) hG dX12_findWay_41 (sk_K hsk 95 rfl) ⟨by decide, by decide⟩ rfl ?_
    obtain ⟨o22, hlo22, hF⟩ := bd_some hF
    refine m_weak (ls1 := [some (.inr (.inr 64)), none, some (.inl a2), some (.inl 0)]) hG ⟨rfl, ⟨rfl, ⟨rfl, trivial⟩⟩⟩ ?_
    refine t_X12_findWay_lp42 hsk hd hG ?_ hlo22
    cases hF
    exact s_vret hE dX12_findWay_131 rfl
-- X12_was
theorem t_X12_was {d : Nat} {X : MX} {N : NN} {a1 : Int} {out : (Int × NN)} (hsk : m_Sk X) (hd : 1 ≤ d) (hF : f_X12_was X N a1 = some out) : m_Call d yX12_was cX12_was 2 (some .int) [(.inr (.inr 64)), (.inl a1)] N X (some (.inl out.1)) out.2 X := by
  refine m_mk (ls0 := [some (.inr (.inr 64)), some (.inl a1)]) (by decide) rfl (Nat.le_of_ble_eq_true rfl) (Nat.le_refl _) (Nat.le_refl _) (fun Ω hE => ?_)
  have hG := hE.G
  unfold f_X12_was at hF
  refine s_aload_n hG dX12_was_0 rfl ?_
  refine s_iconst hG dX12_was_1 ⟨by decide, by decide⟩ ?_
  refine s_puti hG dX12_was_2 fl_RX12_169 (fun h => by cases h) (sk_k hsk 64 rfl) rfl ?_
  refine s_iload_n hG dX12_was_5 rfl ?_
  cases hF
  exact s_iret hE dX12_was_6 rfl
-- X12_force
theorem t_X12_force_j35 {d n0 s0 nF sF : Nat} {X : MX} {Ω : Nat → MS → Prop} {N : NN} {a1 : Int} (hsk : m_Sk X) (hd : 2 ≤ d) (hG : m_G d yX12_force.cls yX12_force.name cX12_force 3 n0 s0 nF sF Ω) {out : (Int × NN)} (hE : m_Gd d yX12_force cX12_force 3 (some .int) X (some (.inl out.1)) out.2 X Ω) (hF : f_X12_force_j35 X N a1 = some out) : Ω 35 ([some (.inr (.inr 64)), some (.inl a1), none], [], N, X) := by
  unfold f_X12_force_j35 at hF
  refine s_aload_n hG dX12_force_35 rfl ?_
  refine s_getr (r := 66) hG dX12_force_36 fl_RX12_13 (sk_k hsk 64 rfl) rfl (sk_R hsk 64 3 rfl) ?_
  refine s_iconst hG dX12_force_39 ⟨by decide, by decide⟩ ?_
  refine s_ialdj (j := 5) hG dX12_force_40 (sk_K hsk 66 rfl) ⟨by decide, by decide⟩ rfl ?_
  refine s_istore_n hG dX12_force_41 (by decide) rfl ?_
  refine s_aload_n hG dX12_force_42 rfl ?_
  refine s_getr (r := 66) hG dX12_force_43 fl_RX12_13 (sk_k hsk 64 rfl) rfl (sk_R hsk 64 3 rfl) ?_
  refine s_iconst hG dX12_force_46 ⟨by decide, by decide⟩ ?_
  refine s_iload_n hG dX12_force_47 rfl ?_
  refine s_iastj (j := 5) hG dX12_force_48 (sk_K hsk 66 rfl) ⟨by decide, by decide⟩ rfl ?_
  refine s_aload_n hG dX12_force_49 rfl ?_
  refine s_iload_n hG dX12_force_50 rfl ?_
  obtain ⟨o7, ho7, hF⟩ := bd_some hF
  refine s_callV (d' := d - 1) (ci := 12) (args := [.inl (N 66 5)]) hG (by omega) dX12_force_51 cv_RX12_217 cw_X12_was rfl rfl (sk_k hsk 64 rfl) (Nat.le_of_ble_eq_true rfl) rfl (t_X12_was hsk (by omega) ho7) ?_
  cases hF
  exact s_iret hE dX12_force_54 rfl
theorem t_X12_force {d : Nat} {X : MX} {N : NN} {a1 : Int} {out : (Int × NN)} (hsk : m_Sk X) (hd : 2 ≤ d) (hF : f_X12_force X N a1 = some out) : m_Call d yX12_force cX12_force 3 (some .int) [(.inr (.inr 64)), (.inl a1)] N X (some (.inl out.1)) out.2 X := by
  refine m_mk (ls0 := [some (.inr (.inr 64)), some (.inl a1), none]) (by decide) rfl (Nat.le_of_ble_eq_true rfl) (Nat.le_refl _) (Nat.le_refl _) (fun Ω hE => ?_)
  have hG := hE.G
  unfold f_X12_force at hF
  refine s_aload_n hG dX12_force_0 rfl ?_
  refine s_iconst hG dX12_force_1 ⟨by decide, by decide⟩ ?_
  refine s_puti hG dX12_force_2 fl_RX12_166 (fun h => by cases h) (sk_k hsk 64 rfl) rfl ?_
  let N1 : NN := m_up N 64 0 0
  refine s_iload_n hG dX12_force_5 rfl ?_
  refine s_iconst hG dX12_force_6 ⟨by decide, by decide⟩ ?_
  refine s_icmp_eq hG 35 dX12_force_7 (by decide) (fun c5 => ?_) (fun c5 => ?_)
  · replace hF := Eq.trans (if_pos c5).symm hF
    exact t_X12_force_j35 hsk hd hG hE hF
  · replace hF := Eq.trans (if_neg c5).symm hF
    refine s_iload_n hG dX12_force_10 rfl ?_
    refine s_i2l hG dX12_force_11 ?_
    refine s_lconst (v := 0) hG dX12_force_12 rfl ⟨by decide, by decide⟩ ?_
    refine s_aload_n hG dX12_force_13 rfl ?_
    refine s_getr (r := 66) hG dX12_force_14 fl_RX12_13 (sk_k hsk 64 rfl) rfl (sk_R hsk 64 3 rfl) ?_
    refine s_iconst hG dX12_force_17 ⟨by decide, by decide⟩ ?_
    refine s_ialdj (j := 4) hG dX12_force_18 (sk_K hsk 66 rfl) ⟨by decide, by decide⟩ rfl ?_
    refine s_i2l hG dX12_force_19 ?_
    refine s_lconst (v := 1) hG dX12_force_20 rfl ⟨by decide, by decide⟩ ?_
    refine s_lsub hG dX12_force_21 ?_
    obtain ⟨o2, ho2, hF⟩ := bd_some hF
    refine s_callS (d' := d - 1) (args := [.inr (.inl a1), .inr (.inl 0), .inr (.inl (m_wl ((N1 66 4) - 1)))]) hG (by omega) dX12_force_22 cs_RX12_179 cw_X12_in rfl (Nat.le_of_ble_eq_true rfl) rfl (t_X12_in hsk (by omega) ho2) ?_
    refine s_if_ne hG 35 dX12_force_25 (by decide) (fun c4 => ?_) (fun c4 => ?_)
    · replace hF := Eq.trans (if_pos c4).symm hF
      refine s_aload_n hG dX12_force_28 rfl ?_
      refine s_bipush hG dX12_force_29 bp_m2 ⟨by decide, by decide⟩ ?_
      obtain ⟨o3, ho3, hF⟩ := bd_some hF
      refine s_callV (d' := d - 1) (ci := 12) (args := [.inl (-2)]) hG (by omega) dX12_force_31 cv_RX12_175 cw_X12_tell rfl rfl (sk_k hsk 64 rfl) (Nat.le_of_ble_eq_true rfl) rfl (t_X12_tell hsk (by omega) ho3) ?_
      cases hF
      exact s_iret hE dX12_force_34 rfl
    · replace hF := Eq.trans (if_neg c4).symm hF
      exact t_X12_force_j35 hsk hd hG hE hF
-- X12_found
theorem t_X12_found_j32 {d n0 s0 nF sF : Nat} {X : MX} {Ω : Nat → MS → Prop} {N : NN} (hsk : m_Sk X) (hd : 9 ≤ d) (hG : m_G d yX12_found.cls yX12_found.name cX12_found 4 n0 s0 nF sF Ω) {out : (Int × NN)} (hE : m_Gd d yX12_found cX12_found 4 (some .int) X (some (.inl out.1)) out.2 X Ω) (hF : f_X12_found_j32 X N = some out) : Ω 32 ([none, none, none, none], [], N, X) := by
  unfold f_X12_found_j32 at hF
  refine s_iconst hG dX12_found_32 ⟨by decide, by decide⟩ ?_
  cases hF
  exact s_iret hE dX12_found_33 rfl
theorem t_X12_found_j62 {d n0 s0 nF sF : Nat} {X : MX} {Ω : Nat → MS → Prop} {N : NN} {z0 : Int} (hsk : m_Sk X) (hd : 9 ≤ d) (hG : m_G d yX12_found.cls yX12_found.name cX12_found 4 n0 s0 nF sF Ω) {out : (Int × NN)} (hE : m_Gd d yX12_found cX12_found 4 (some .int) X (some (.inl out.1)) out.2 X Ω) (hF : f_X12_found_j62 X N z0 = some out) : Ω 62 ([none, none, none, none], [(.inl z0)], N, X) := by
  unfold f_X12_found_j62 at hF
  cases hF
  exact s_iret hE dX12_found_62 rfl
theorem t_X12_found_j50 {d n0 s0 nF sF : Nat} {X : MX} {Ω : Nat → MS → Prop} {N : NN} {a2 : Int} (hsk : m_Sk X) (hd : 9 ≤ d) (hG : m_G d yX12_found.cls yX12_found.name cX12_found 4 n0 s0 nF sF Ω) {out : (Int × NN)} (hE : m_Gd d yX12_found cX12_found 4 (some .int) X (some (.inl out.1)) out.2 X Ω) (hF : f_X12_found_j50 X N a2 = some out) : Ω 50 ([some (.inr (.inr 64)), none, some (.inl a2), none], [], N, X) := by
  unfold f_X12_found_j50 at hF
  refine s_iload_n hG dX12_found_50 rfl ?_
  refine s_if_ne hG 61 dX12_found_51 (by decide) (fun c11 => ?_) (fun c11 => ?_)
  · replace hF := Eq.trans (if_pos c11).symm hF
    refine s_aload_n hG dX12_found_54 rfl ?_
    refine s_geti hG dX12_found_55 fl_RX12_568 (sk_k hsk 64 rfl) rfl ?_
    refine s_goto hG 62 dX12_found_58 (by decide) ?_
    refine m_weak (ls1 := [none, none, none, none]) hG trivial ?_
    exact t_X12_found_j62 hsk hd hG hE hF
  · replace hF := Eq.trans (if_neg c11).symm hF
    refine s_iconst hG dX12_found_61 ⟨by decide, by decide⟩ ?_
    refine m_weak (ls1 := [none, none, none, none]) hG trivial ?_
    exact t_X12_found_j62 hsk hd hG hE hF
theorem t_X12_found_j92 {d n0 s0 nF sF : Nat} {X : MX} {Ω : Nat → MS → Prop} {N : NN} {z0 : Int} (hsk : m_Sk X) (hd : 9 ≤ d) (hG : m_G d yX12_found.cls yX12_found.name cX12_found 4 n0 s0 nF sF Ω) {out : (Int × NN)} (hE : m_Gd d yX12_found cX12_found 4 (some .int) X (some (.inl out.1)) out.2 X Ω) (hF : f_X12_found_j92 X N z0 = some out) : Ω 92 ([none, none, none, none], [(.inl z0)], N, X) := by
  unfold f_X12_found_j92 at hF
  cases hF
  exact s_iret hE dX12_found_92 rfl
theorem t_X12_found {d : Nat} {X : MX} {N : NN} {a1 : Int} {a2 : Int} {out : (Int × NN)} (hsk : m_Sk X) (hd : 9 ≤ d) (hF : f_X12_found X N a1 a2 = some out) : m_Call d yX12_found cX12_found 4 (some .int) [(.inr (.inr 64)), (.inl a1), (.inl a2)] N X (some (.inl out.1)) out.2 X := by
  refine m_mk (ls0 := [some (.inr (.inr 64)), some (.inl a1), some (.inl a2), none]) (by decide) rfl (Nat.le_of_ble_eq_true rfl) (Nat.le_refl _) (Nat.le_refl _) (fun Ω hE => ?_)
  have hG := hE.G
  unfold f_X12_found at hF
  refine s_aload_n hG dX12_found_0 rfl ?_
  refine s_iconst hG dX12_found_1 ⟨by decide, by decide⟩ ?_
  refine s_puti hG dX12_found_2 fl_RX12_166 (fun h => by cases h) (sk_k hsk 64 rfl) rfl ?_
  refine s_iload_n hG dX12_found_5 rfl ?_
  refine s_i2l hG dX12_found_6 ?_
  refine s_lconst (v := 0) hG dX12_found_7 rfl ⟨by decide, by decide⟩ ?_
  refine s_ldc2 hG dX12_found_8 kc_RX12_232 ⟨by decide, by decide⟩ ?_
  obtain ⟨o2, ho2, hF⟩ := bd_some hF
  refine s_callS (d' := d - 1) (args := [.inr (.inl a1), .inr (.inl 0), .inr (.inl 3)]) hG (by omega) dX12_found_11 cs_RX12_179 cw_X12_in rfl (Nat.le_of_ble_eq_true rfl) rfl (t_X12_in hsk (by omega) ho2) ?_
  refine s_if_eq hG 32 dX12_found_14 (by decide) (fun c10 => ?_) (fun c10 => ?_)
  · replace hF := Eq.trans (if_pos c10).symm hF
    refine m_weak (ls1 := [none, none, none, none]) hG trivial ?_
    exact t_X12_found_j32 hsk hd hG hE hF
  · replace hF := Eq.trans (if_neg c10).symm hF
    refine s_iload_n hG dX12_found_17 rfl ?_
    refine s_i2l hG dX12_found_18 ?_
    refine s_lconst (v := 0) hG dX12_found_19 rfl ⟨by decide, by decide⟩ ?_
    refine s_ldc2 hG dX12_found_20 kc_RX12_443 ⟨by decide, by decide⟩ ?_
    refine s_iload_n hG dX12_found_23 rfl ?_
    refine s_i2l hG dX12_found_24 ?_
    refine s_lmul hG dX12_found_25 ?_
    obtain ⟨o3, ho3, hF⟩ := bd_some hF
    refine s_callS (d' := d - 1) (args := [.inr (.inl a2), .inr (.inl 0), .inr (.inl (m_wl (2 * a1)))]) hG (by omega) dX12_found_26 cs_RX12_179 cw_X12_in rfl (Nat.le_of_ble_eq_true rfl) rfl (t_X12_in hsk (by omega) ho3) ?_
    refine s_if_ne hG 34 dX12_found_29 (by decide) (fun c9 => ?_) (fun c9 => ?_)
    · replace hF := Eq.trans (if_pos c9).symm hF
      refine m_weak (ls1 := [none, none, none, none]) hG trivial ?_
      exact t_X12_found_j32 hsk hd hG hE hF
    · replace hF := Eq.trans (if_neg c9).symm hF
      refine s_aload_n hG dX12_found_34 rfl ?_
      refine s_iload_n hG dX12_found_35 rfl ?_
      obtain ⟨o4, ho4, hF⟩ := bd_some hF
      refine s_callV (d' := d - 1) (ci := 12) (args := [.inl a1]) hG (by omega) dX12_found_36 cv_RX12_580 cw_X12_findGifts rfl rfl (sk_k hsk 64 rfl) (Nat.le_of_ble_eq_true rfl) rfl (t_X12_findGifts hsk (by omega) ho4) ?_
      refine s_iload_n hG dX12_found_39 rfl ?_
      refine s_if_eq hG 50 dX12_found_40 (by decide) (fun c8 => ?_) (fun c8 => ?_)
      · replace hF := Eq.trans (if_pos c8).symm hF
        refine m_weak (ls1 := [some (.inr (.inr 64)), none, some (.inl a2), none]) hG ⟨rfl, ⟨rfl, trivial⟩⟩ ?_
        exact t_X12_found_j50 hsk hd hG hE hF
      · replace hF := Eq.trans (if_neg c8).symm hF
        refine s_aload_n hG dX12_found_43 rfl ?_
        refine s_geti hG dX12_found_44 fl_RX12_568 (sk_k hsk 64 rfl) rfl ?_
        refine s_if_ne hG 63 dX12_found_47 (by decide) (fun c7 => ?_) (fun c7 => ?_)
        · replace hF := Eq.trans (if_pos c7).symm hF
          refine m_weak (ls1 := [some (.inr (.inr 64)), none, some (.inl a2), none]) hG ⟨rfl, ⟨rfl, trivial⟩⟩ ?_
          exact t_X12_found_j50 hsk hd hG hE hF
        · replace hF := Eq.trans (if_neg c7).symm hF
          refine s_aload_n hG dX12_found_63 rfl ?_
          refine s_getr (r := 101) hG dX12_found_64 fl_RX12_154 (sk_k hsk 64 rfl) rfl (sk_R hsk 64 63 rfl) ?_
          refine s_iload_n hG dX12_found_67 rfl ?_
          refine s_iconst hG dX12_found_68 ⟨by decide, by decide⟩ ?_
          refine s_isub hG dX12_found_69 ?_
          refine s_iconst hG dX12_found_70 ⟨by decide, by decide⟩ ?_
          refine s_idiv hG dX12_found_71 (by decide) ?_
          obtain ⟨g5, hF⟩ := gd_some hF
          refine s_ialdj (j := (m_div (m_w (a2 - 1)) 2).toNat) hG dX12_found_72 (sk_K hsk 101 rfl) g5 rfl ?_
          refine s_istore_n hG dX12_found_73 (by decide) rfl ?_
          refine s_iload_n hG dX12_found_74 rfl ?_
          refine s_iconst hG dX12_found_75 ⟨by decide, by decide⟩ ?_
          refine s_irem hG dX12_found_76 (by decide) ?_
          refine s_iconst hG dX12_found_77 ⟨by decide, by decide⟩ ?_
          refine s_icmp_ne hG 88 dX12_found_78 (by decide) (fun c6 => ?_) (fun c6 => ?_)
          · replace hF := Eq.trans (if_pos c6).symm hF
            refine s_iload_n hG dX12_found_81 rfl ?_
            refine s_bipush hG dX12_found_82 bp_6 ⟨by decide, by decide⟩ ?_
            refine s_idiv hG dX12_found_84 (by decide) ?_
            refine s_goto hG 92 dX12_found_85 (by decide) ?_
            refine m_weak (ls1 := [none, none, none, none]) hG trivial ?_
            exact t_X12_found_j92 hsk hd hG hE hF
          · replace hF := Eq.trans (if_neg c6).symm hF
            refine s_iload_n hG dX12_found_88 rfl ?_
            refine s_bipush hG dX12_found_89 bp_6 ⟨by decide, by decide⟩ ?_
            refine s_irem hG dX12_found_91 (by decide) ?_
            refine m_weak (ls1 := [none, none, none, none]) hG trivial ?_
            exact t_X12_found_j92 hsk hd hG hE hF
-- X12_gift
theorem t_X12_gift_j42 {d n0 s0 nF sF : Nat} {X : MX} {Ω : Nat → MS → Prop} {N : NN} (hsk : m_Sk X) (hd : 8 ≤ d) (hG : m_G d yX12_gift.cls yX12_gift.name cX12_gift 7 n0 s0 nF sF Ω) {out : (Int × NN)} (hE : m_Gd d yX12_gift cX12_gift 7 (some .int) X (some (.inl out.1)) out.2 X Ω) (hF : f_X12_gift_j42 X N = some out) : Ω 42 ([none, none, none, none, none, none, none], [], N, X) := by
  unfold f_X12_gift_j42 at hF
  refine s_bipush hG dX12_gift_42 bp_m3 ⟨by decide, by decide⟩ ?_
  cases hF
  exact s_iret hE dX12_gift_44 rfl
theorem t_X12_gift_j220 {d n0 s0 nF sF : Nat} {X : MX} {Ω : Nat → MS → Prop} {N : NN} {a4 : Int} {z1 : Int} {z2 : Int} (hsk : m_Sk X) (hd : 8 ≤ d) (hG : m_G d yX12_gift.cls yX12_gift.name cX12_gift 7 n0 s0 nF sF Ω) {out : (Int × NN)} (hE : m_Gd d yX12_gift cX12_gift 7 (some .int) X (some (.inl out.1)) out.2 X Ω) (hF : f_X12_gift_j220 X N a4 z1 z2 = some out) : Ω 220 ([none, none, none, none, some (.inl a4), none, none], [(.inl z2), (.inl z1), (.inr (.inr 66))], N, X) := by
  unfold f_X12_gift_j220 at hF
  obtain ⟨g36, hF⟩ := gd_some hF
  refine s_iastj (j := z1.toNat) hG dX12_gift_220 (sk_K hsk 66 rfl) g36 rfl ?_
  refine s_iload hG dX12_gift_221 rfl ?_
  cases hF
  exact s_iret hE dX12_gift_223 rfl
theorem t_X12_gift_j190 {d n0 s0 nF sF : Nat} {X : MX} {Ω : Nat → MS → Prop} {N : NN} {a4 : Int} {a6 : Int} (hsk : m_Sk X) (hd : 8 ≤ d) (hG : m_G d yX12_gift.cls yX12_gift.name cX12_gift 7 n0 s0 nF sF Ω) {out : (Int × NN)} (hE : m_Gd d yX12_gift cX12_gift 7 (some .int) X (some (.inl out.1)) out.2 X Ω) (hF : f_X12_gift_j190 X N a4 a6 = some out) : Ω 190 ([some (.inr (.inr 64)), none, none, none, some (.inl a4), none, some (.inl a6)], [], N, X) := by
  unfold f_X12_gift_j190 at hF
  refine s_aload_n hG dX12_gift_190 rfl ?_
  refine s_getr (r := 66) hG dX12_gift_191 fl_RX12_13 (sk_k hsk 64 rfl) rfl (sk_R hsk 64 3 rfl) ?_
  refine s_iload hG dX12_gift_194 rfl ?_
  refine s_iload hG dX12_gift_196 rfl ?_
  refine s_aload_n hG dX12_gift_198 rfl ?_
  refine s_getr (r := 66) hG dX12_gift_199 fl_RX12_13 (sk_k hsk 64 rfl) rfl (sk_R hsk 64 3 rfl) ?_
  refine s_iload hG dX12_gift_202 rfl ?_
  obtain ⟨g33, hF⟩ := gd_some hF
  refine s_ialdj (j := a6.toNat) hG dX12_gift_204 (sk_K hsk 66 rfl) g33 rfl ?_
  refine s_icmp_le hG 213 dX12_gift_205 (by decide) (fun c35 => ?_) (fun c35 => ?_)
  · replace hF := Eq.trans (if_pos c35).symm hF
    refine s_iload hG dX12_gift_208 rfl ?_
    refine s_goto hG 220 dX12_gift_210 (by decide) ?_
    refine m_weak (ls1 := [none, none, none, none, some (.inl a4), none, none]) hG ⟨rfl, trivial⟩ ?_
    exact t_X12_gift_j220 hsk hd hG hE hF
  · replace hF := Eq.trans (if_neg c35).symm hF
    refine s_aload_n hG dX12_gift_213 rfl ?_
    refine s_getr (r := 66) hG dX12_gift_214 fl_RX12_13 (sk_k hsk 64 rfl) rfl (sk_R hsk 64 3 rfl) ?_
    refine s_iload hG dX12_gift_217 rfl ?_
    obtain ⟨g34, hF⟩ := gd_some hF
    refine s_ialdj (j := a6.toNat) hG dX12_gift_219 (sk_K hsk 66 rfl) g34 rfl ?_
    refine m_weak (ls1 := [none, none, none, none, some (.inl a4), none, none]) hG ⟨rfl, trivial⟩ ?_
    exact t_X12_gift_j220 hsk hd hG hE hF
theorem t_X12_gift_j158 {d n0 s0 nF sF : Nat} {X : MX} {Ω : Nat → MS → Prop} {N : NN} {a4 : Int} {a5 : Int} {a6 : Int} (hsk : m_Sk X) (hd : 8 ≤ d) (hG : m_G d yX12_gift.cls yX12_gift.name cX12_gift 7 n0 s0 nF sF Ω) {out : (Int × NN)} (hE : m_Gd d yX12_gift cX12_gift 7 (some .int) X (some (.inl out.1)) out.2 X Ω) (hF : f_X12_gift_j158 X N a4 a5 a6 = some out) : Ω 158 ([some (.inr (.inr 64)), none, none, none, some (.inl a4), some (.inl a5), some (.inl a6)], [], N, X) := by
  unfold f_X12_gift_j158 at hF
  refine s_aload_n hG dX12_gift_158 rfl ?_
  refine s_getr (r := 66) hG dX12_gift_159 fl_RX12_13 (sk_k hsk 64 rfl) rfl (sk_R hsk 64 3 rfl) ?_
  refine s_iload hG dX12_gift_162 rfl ?_
  refine s_iconst hG dX12_gift_164 ⟨by decide, by decide⟩ ?_
  obtain ⟨g26, hF⟩ := gd_some hF
  refine s_iastj (j := a5.toNat) hG dX12_gift_165 (sk_K hsk 66 rfl) g26 rfl ?_
  refine s_aload_n hG dX12_gift_166 rfl ?_
  refine s_getr (r := 66) hG dX12_gift_167 fl_RX12_13 (sk_k hsk 64 rfl) rfl (sk_R hsk 64 3 rfl) ?_
  refine s_iload hG dX12_gift_170 rfl ?_
  obtain ⟨g28, hF⟩ := gd_some hF
  refine s_ialdj (j := a6.toNat) hG dX12_gift_172 (sk_K hsk 66 rfl) g28 rfl ?_
  refine s_iconst hG dX12_gift_173 ⟨by decide, by decide⟩ ?_
  refine s_icmp_ne hG 190 dX12_gift_174 (by decide) (fun c32 => ?_) (fun c32 => ?_)
  · replace hF := Eq.trans (if_pos c32).symm hF
    refine s_aload_n hG dX12_gift_177 rfl ?_
    refine s_getr (r := 66) hG dX12_gift_178 fl_RX12_13 (sk_k hsk 64 rfl) rfl (sk_R hsk 64 3 rfl) ?_
    refine s_iload hG dX12_gift_181 rfl ?_
    refine s_iconst hG dX12_gift_183 ⟨by decide, by decide⟩ ?_
    refine s_iadd hG dX12_gift_184 ?_
    refine s_aload_n hG dX12_gift_185 rfl ?_
    obtain ⟨o29, ho29, hF⟩ := bd_some hF
    refine s_callV (d' := d - 1) (ci := 12) (args := []) hG (by omega) dX12_gift_186 cv_RX12_210 cw_X12_year rfl rfl (sk_k hsk 64 rfl) (Nat.le_of_ble_eq_true rfl) rfl (t_X12_year hsk (by omega) ho29) ?_
    obtain ⟨g30, hF⟩ := gd_some hF
    refine s_iastj (j := (m_w (a6 + 1)).toNat) hG dX12_gift_189 (sk_K hsk 66 rfl) g30 rfl ?_
    refine m_weak (ls1 := [some (.inr (.inr 64)), none, none, none, some (.inl a4), none, some (.inl a6)]) hG ⟨rfl, ⟨rfl, ⟨rfl, trivial⟩⟩⟩ ?_
    exact t_X12_gift_j190 hsk hd hG hE hF
  · replace hF := Eq.trans (if_neg c32).symm hF
    refine m_weak (ls1 := [some (.inr (.inr 64)), none, none, none, some (.inl a4), none, some (.inl a6)]) hG ⟨rfl, ⟨rfl, ⟨rfl, trivial⟩⟩⟩ ?_
    exact t_X12_gift_j190 hsk hd hG hE hF
theorem t_X12_gift {d : Nat} {X : MX} {N : NN} {a1 : Int} {a2 : Int} {out : (Int × NN)} (hsk : m_Sk X) (hd : 8 ≤ d) (hF : f_X12_gift X N a1 a2 = some out) : m_Call d yX12_gift cX12_gift 7 (some .int) [(.inr (.inr 64)), (.inl a1), (.inl a2)] N X (some (.inl out.1)) out.2 X := by
  refine m_mk (ls0 := [some (.inr (.inr 64)), some (.inl a1), some (.inl a2), none, none, none, none]) (by decide) rfl (Nat.le_of_ble_eq_true rfl) (Nat.le_refl _) (Nat.le_refl _) (fun Ω hE => ?_)
  have hG := hE.G
  unfold f_X12_gift at hF
  refine s_aload_n hG dX12_gift_0 rfl ?_
  refine s_iload_n hG dX12_gift_1 rfl ?_
  refine s_iconst hG dX12_gift_2 ⟨by decide, by decide⟩ ?_
  obtain ⟨o1, ho1, hF⟩ := bd_some hF
  refine s_callV (d' := d - 1) (ci := 12) (args := [.inl a1, .inl 0]) hG (by omega) dX12_gift_3 cv_RX12_190 cw_X12_ofGood rfl rfl (sk_k hsk 64 rfl) (Nat.le_of_ble_eq_true rfl) rfl (t_X12_ofGood hsk (by omega) ho1) ?_
  refine s_istore_n hG dX12_gift_6 (by decide) rfl ?_
  refine s_iload_n hG dX12_gift_7 rfl ?_
  refine s_iload_n hG dX12_gift_8 rfl ?_
  refine s_icmp_eq hG 42 dX12_gift_9 (by decide) (fun c25 => ?_) (fun c25 => ?_)
  · replace hF := Eq.trans (if_pos c25).symm hF
    refine m_weak (ls1 := [none, none, none, none, none, none, none]) hG trivial ?_
    exact t_X12_gift_j42 hsk hd hG hE hF
  · replace hF := Eq.trans (if_neg c25).symm hF
    refine s_aload_n hG dX12_gift_12 rfl ?_
    refine s_iload_n hG dX12_gift_13 rfl ?_
    refine s_iconst hG dX12_gift_14 ⟨by decide, by decide⟩ ?_
    obtain ⟨o2, ho2, hF⟩ := bd_some hF
    refine s_callV (d' := d - 1) (ci := 12) (args := [.inl o1, .inl 2]) hG (by omega) dX12_gift_15 cv_RX12_204 cw_X12_ofLord rfl rfl (sk_k hsk 64 rfl) (Nat.le_of_ble_eq_true rfl) rfl (t_X12_ofLord hsk (by omega) ho2) ?_
    refine s_iconst hG dX12_gift_18 ⟨by decide, by decide⟩ ?_
    refine s_icmp_eq hG 42 dX12_gift_19 (by decide) (fun c24 => ?_) (fun c24 => ?_)
    · replace hF := Eq.trans (if_pos c24).symm hF
      refine m_weak (ls1 := [none, none, none, none, none, none, none]) hG trivial ?_
      exact t_X12_gift_j42 hsk hd hG hE hF
    · replace hF := Eq.trans (if_neg c24).symm hF
      refine s_aload_n hG dX12_gift_22 rfl ?_
      refine s_iload_n hG dX12_gift_23 rfl ?_
      refine s_iconst hG dX12_gift_24 ⟨by decide, by decide⟩ ?_
      obtain ⟨o3, ho3, hF⟩ := bd_some hF
      refine s_callV (d' := d - 1) (ci := 12) (args := [.inl a2, .inl 2]) hG (by omega) dX12_gift_25 cv_RX12_204 cw_X12_ofLord rfl rfl (sk_k hsk 64 rfl) (Nat.le_of_ble_eq_true rfl) rfl (t_X12_ofLord hsk (by omega) ho3) ?_
      refine s_iconst hG dX12_gift_28 ⟨by decide, by decide⟩ ?_
      refine s_icmp_eq hG 42 dX12_gift_29 (by decide) (fun c23 => ?_) (fun c23 => ?_)
      · replace hF := Eq.trans (if_pos c23).symm hF
        refine m_weak (ls1 := [none, none, none, none, none, none, none]) hG trivial ?_
        exact t_X12_gift_j42 hsk hd hG hE hF
      · replace hF := Eq.trans (if_neg c23).symm hF
        refine s_aload_n hG dX12_gift_32 rfl ?_
        refine s_iload_n hG dX12_gift_33 rfl ?_
        refine s_iload_n hG dX12_gift_34 rfl ?_
        refine s_iload_n hG dX12_gift_35 rfl ?_
        obtain ⟨o4, ho4, hF⟩ := bd_some hF
        refine s_callV (d' := d - 1) (ci := 12) (args := [.inl a1, .inl o1, .inl a2]) hG (by omega) dX12_gift_36 cv_RX12_448 cw_X12_isBarred rfl rfl (sk_k hsk 64 rfl) (Nat.le_of_ble_eq_true rfl) rfl (t_X12_isBarred hsk (by omega) ho4) ?_
        refine s_if_eq hG 45 dX12_gift_39 (by decide) (fun c22 => ?_) (fun c22 => ?_)
        · replace hF := Eq.trans (if_pos c22).symm hF
          refine s_aload_n hG dX12_gift_45 rfl ?_
          refine s_iload_n hG dX12_gift_46 rfl ?_
          refine s_iload_n hG dX12_gift_47 rfl ?_
          refine s_iload_n hG dX12_gift_48 rfl ?_
          obtain ⟨o5, ho5, hF⟩ := bd_some hF
          refine s_callV (d' := d - 1) (ci := 12) (args := [.inl a1, .inl o1, .inl a2]) hG (by omega) dX12_gift_49 cv_RX12_445 cw_X12_worthOf rfl rfl (sk_k hsk 64 rfl) (Nat.le_of_ble_eq_true rfl) rfl (t_X12_worthOf hsk (by omega) ho5) ?_
          refine s_istore hG dX12_gift_52 (by decide) rfl ?_
          refine s_aload_n hG dX12_gift_54 rfl ?_
          refine s_getr (r := 66) hG dX12_gift_55 fl_RX12_13 (sk_k hsk 64 rfl) rfl (sk_R hsk 64 3 rfl) ?_
          refine s_bipush hG dX12_gift_58 bp_45 ⟨by decide, by decide⟩ ?_
          refine s_bipush hG dX12_gift_60 bp_6 ⟨by decide, by decide⟩ ?_
          refine s_iload_n hG dX12_gift_62 rfl ?_
          refine s_imul hG dX12_gift_63 ?_
          refine s_iadd hG dX12_gift_64 ?_
          refine s_iconst hG dX12_gift_65 ⟨by decide, by decide⟩ ?_
          refine s_iadd hG dX12_gift_66 ?_
          refine s_iload_n hG dX12_gift_67 rfl ?_
          obtain ⟨g6, hF⟩ := gd_some hF
          refine s_iastj (j := (m_w ((m_w (45 + (m_w (6 * a1)))) + 0)).toNat) hG dX12_gift_68 (sk_K hsk 66 rfl) g6 rfl ?_
          refine s_aload_n hG dX12_gift_69 rfl ?_
          refine s_getr (r := 66) hG dX12_gift_70 fl_RX12_13 (sk_k hsk 64 rfl) rfl (sk_R hsk 64 3 rfl) ?_
          refine s_bipush hG dX12_gift_73 bp_45 ⟨by decide, by decide⟩ ?_
          refine s_bipush hG dX12_gift_75 bp_6 ⟨by decide, by decide⟩ ?_
          refine s_iload_n hG dX12_gift_77 rfl ?_
          refine s_imul hG dX12_gift_78 ?_
          refine s_iadd hG dX12_gift_79 ?_
          refine s_iconst hG dX12_gift_80 ⟨by decide, by decide⟩ ?_
          refine s_iadd hG dX12_gift_81 ?_
          refine s_dup2 hG dX12_gift_82 rfl rfl ?_
          obtain ⟨g8, hF⟩ := gd_some hF
          refine s_ialdj (j := (m_w ((m_w (45 + (m_w (6 * a1)))) + 4)).toNat) hG dX12_gift_83 (sk_K hsk 66 rfl) g8 rfl ?_
          refine s_iconst hG dX12_gift_84 ⟨by decide, by decide⟩ ?_
          refine s_iadd hG dX12_gift_85 ?_
          obtain ⟨g9, hF⟩ := gd_some hF
          refine s_iastj (j := (m_w ((m_w (45 + (m_w (6 * a1)))) + 4)).toNat) hG dX12_gift_86 (sk_K hsk 66 rfl) g9 rfl ?_
          refine s_aload_n hG dX12_gift_87 rfl ?_
          refine s_iload_n hG dX12_gift_88 rfl ?_
          refine s_iconst hG dX12_gift_89 ⟨by decide, by decide⟩ ?_
          obtain ⟨o11, ho11, hF⟩ := bd_some hF
          refine s_callV (d' := d - 1) (ci := 12) (args := [.inl a1, .inl 1]) hG (by omega) dX12_gift_90 cv_RX12_190 cw_X12_ofGood rfl rfl (sk_k hsk 64 rfl) (Nat.le_of_ble_eq_true rfl) rfl (t_X12_ofGood hsk (by omega) ho11) ?_
          refine s_iload_n hG dX12_gift_93 rfl ?_
          refine s_icmp_eq hG 118 dX12_gift_94 (by decide) (fun c21 => ?_) (fun c21 => ?_)
          · replace hF := Eq.trans (if_pos c21).symm hF
            refine s_iload_n hG dX12_gift_118 rfl ?_
            refine s_iload_n hG dX12_gift_119 rfl ?_
            obtain ⟨o12, ho12, hF⟩ := bd_some hF
            refine s_callS (d' := d - 1) (args := [.inl o1, .inl a2]) hG (by omega) dX12_gift_120 cs_RX12_452 cw_X12_debtAt rfl (Nat.le_of_ble_eq_true rfl) rfl (t_X12_debtAt hsk (by omega) ho12) ?_
            refine s_istore hG dX12_gift_123 (by decide) rfl ?_
            refine s_iload_n hG dX12_gift_125 rfl ?_
            refine s_iload_n hG dX12_gift_126 rfl ?_
            obtain ⟨o13, ho13, hF⟩ := bd_some hF
            refine s_callS (d' := d - 1) (args := [.inl a2, .inl o1]) hG (by omega) dX12_gift_127 cs_RX12_452 cw_X12_debtAt rfl (Nat.le_of_ble_eq_true rfl) rfl (t_X12_debtAt hsk (by omega) ho13) ?_
            refine s_istore hG dX12_gift_130 (by decide) rfl ?_
            refine s_aload_n hG dX12_gift_132 rfl ?_
            refine s_getr (r := 66) hG dX12_gift_133 fl_RX12_13 (sk_k hsk 64 rfl) rfl (sk_R hsk 64 3 rfl) ?_
            refine s_iload hG dX12_gift_136 rfl ?_
            obtain ⟨g14, hF⟩ := gd_some hF
            refine s_ialdj (j := o12.toNat) hG dX12_gift_138 (sk_K hsk 66 rfl) g14 rfl ?_
            refine s_iconst hG dX12_gift_139 ⟨by decide, by decide⟩ ?_
            refine s_icmp_eq hG 158 dX12_gift_140 (by decide) (fun c17 => ?_) (fun c17 => ?_)
            · replace hF := Eq.trans (if_pos c17).symm hF
              refine m_weak (ls1 := [some (.inr (.inr 64)), none, none, none, some (.inl o5.1), some (.inl o12), some (.inl o13)]) hG ⟨rfl, ⟨rfl, ⟨rfl, ⟨rfl, trivial⟩⟩⟩⟩ ?_
              exact t_X12_gift_j158 hsk hd hG hE hF
            · replace hF := Eq.trans (if_neg c17).symm hF
              refine s_iload hG dX12_gift_143 rfl ?_
              refine s_aload_n hG dX12_gift_145 rfl ?_
              refine s_getr (r := 66) hG dX12_gift_146 fl_RX12_13 (sk_k hsk 64 rfl) rfl (sk_R hsk 64 3 rfl) ?_
              refine s_iload hG dX12_gift_149 rfl ?_
              obtain ⟨g15, hF⟩ := gd_some hF
              refine s_ialdj (j := o12.toNat) hG dX12_gift_151 (sk_K hsk 66 rfl) g15 rfl ?_
              refine s_icmp_gt hG 158 dX12_gift_152 (by decide) (fun c16 => ?_) (fun c16 => ?_)
              · replace hF := Eq.trans (if_pos c16).symm hF
                refine m_weak (ls1 := [some (.inr (.inr 64)), none, none, none, some (.inl o5.1), some (.inl o12), some (.inl o13)]) hG ⟨rfl, ⟨rfl, ⟨rfl, ⟨rfl, trivial⟩⟩⟩⟩ ?_
                exact t_X12_gift_j158 hsk hd hG hE hF
              · replace hF := Eq.trans (if_neg c16).symm hF
                refine s_iload hG dX12_gift_155 rfl ?_
                cases hF
                exact s_iret hE dX12_gift_157 rfl
          · replace hF := Eq.trans (if_neg c21).symm hF
            refine s_aload_n hG dX12_gift_97 rfl ?_
            refine s_getr (r := 66) hG dX12_gift_98 fl_RX12_13 (sk_k hsk 64 rfl) rfl (sk_R hsk 64 3 rfl) ?_
            refine s_bipush hG dX12_gift_101 bp_9 ⟨by decide, by decide⟩ ?_
            refine s_bipush hG dX12_gift_103 bp_6 ⟨by decide, by decide⟩ ?_
            refine s_iload_n hG dX12_gift_105 rfl ?_
            refine s_imul hG dX12_gift_106 ?_
            refine s_iadd hG dX12_gift_107 ?_
            refine s_iconst hG dX12_gift_108 ⟨by decide, by decide⟩ ?_
            refine s_iadd hG dX12_gift_109 ?_
            refine s_dup2 hG dX12_gift_110 rfl rfl ?_
            obtain ⟨g18, hF⟩ := gd_some hF
            refine s_ialdj (j := (m_w ((m_w (9 + (m_w (6 * o1)))) + 3)).toNat) hG dX12_gift_111 (sk_K hsk 66 rfl) g18 rfl ?_
            refine s_iconst hG dX12_gift_112 ⟨by decide, by decide⟩ ?_
            refine s_iadd hG dX12_gift_113 ?_
            obtain ⟨g19, hF⟩ := gd_some hF
            refine s_iastj (j := (m_w ((m_w (9 + (m_w (6 * o1)))) + 3)).toNat) hG dX12_gift_114 (sk_K hsk 66 rfl) g19 rfl ?_
            refine s_iload hG dX12_gift_115 rfl ?_
            cases hF
            exact s_iret hE dX12_gift_117 rfl
        · replace hF := Eq.trans (if_neg c22).symm hF
          refine m_weak (ls1 := [none, none, none, none, none, none, none]) hG trivial ?_
          exact t_X12_gift_j42 hsk hd hG hE hF
-- X12_held
theorem t_X12_held_l4_j30 {d n0 s0 nF sF : Nat} {X : MX} {N : NN} {Ω : Nat → MS → Prop} {a1 : Int} {a3 : Int} {z0 : Int} {z1 : Int} (hsk : m_Sk X) (hd : 2 ≤ d) (hG : m_G d yX12_held.cls yX12_held.name cX12_held 4 n0 s0 nF sF Ω) {out : ((Int × Int × Int) ⊕ Int)} (hK0 : ∀ s' : (Int × Int × Int), out = .inl s' → Ω 4 ([some (.inr (.inr 64)), some (.inl (s'.1)), some (.inl (s'.2.1)), some (.inl (s'.2.2))], [], N, X)) (hK1 : ∀ t : Int, out = .inr t → Ω 38 ([none, none, some (.inl t), none], [], N, X)) (hF : f_X12_held_l4_j30 X N a1 a3 z0 z1 = some out) : Ω 30 ([some (.inr (.inr 64)), some (.inl a1), none, some (.inl a3)], [(.inl z1), (.inl z0)], N, X) := by
  unfold f_X12_held_l4_j30 at hF
  refine s_iadd hG dX12_held_30 ?_
  refine s_istore_n hG dX12_held_31 (by decide) rfl ?_
  refine s_iinc hG dX12_held_32 (by decide) rfl rfl ?_
  refine s_goto hG 4 dX12_held_35 (by decide) ?_
  cases hF
  exact hK0 _ rfl
theorem t_X12_held_b4 {d n0 s0 nF sF : Nat} {X : MX} {N : NN} {Ω : Nat → MS → Prop} {a1 : Int} {a2 : Int} {a3 : Int} (hsk : m_Sk X) (hd : 2 ≤ d) (hG : m_G d yX12_held.cls yX12_held.name cX12_held 4 n0 s0 nF sF Ω) {out : ((Int × Int × Int) ⊕ Int)} (hK0 : ∀ s' : (Int × Int × Int), out = .inl s' → Ω 4 ([some (.inr (.inr 64)), some (.inl (s'.1)), some (.inl (s'.2.1)), some (.inl (s'.2.2))], [], N, X)) (hK1 : ∀ t : Int, out = .inr t → Ω 38 ([none, none, some (.inl t), none], [], N, X)) (hF : b_X12_held_4 X N a1 a2 a3 = some out) : Ω 4 ([some (.inr (.inr 64)), some (.inl a1), some (.inl a2), some (.inl a3)], [], N, X) := by
  unfold b_X12_held_4 at hF
  refine s_iload_n hG dX12_held_4 rfl ?_
  refine s_aload_n hG dX12_held_5 rfl ?_
  refine s_getr (r := 66) hG dX12_held_6 fl_RX12_13 (sk_k hsk 64 rfl) rfl (sk_R hsk 64 3 rfl) ?_
  refine s_iconst hG dX12_held_9 ⟨by decide, by decide⟩ ?_
  refine s_ialdj (j := 1) hG dX12_held_10 (sk_K hsk 66 rfl) ⟨by decide, by decide⟩ rfl ?_
  refine s_icmp_ge hG 38 dX12_held_11 (by decide) (fun c3 => ?_) (fun c3 => ?_)
  · replace hF := Eq.trans (if_pos c3).symm hF
    refine s_iload_n hG dX12_held_14 rfl ?_
    refine s_aload_n hG dX12_held_15 rfl ?_
    refine s_iload_n hG dX12_held_16 rfl ?_
    refine s_iconst hG dX12_held_17 ⟨by decide, by decide⟩ ?_
    obtain ⟨o1, ho1, hF⟩ := bd_some hF
    refine s_callV (d' := d - 1) (ci := 12) (args := [.inl a3, .inl 0]) hG (by omega) dX12_held_18 cv_RX12_190 cw_X12_ofGood rfl rfl (sk_k hsk 64 rfl) (Nat.le_of_ble_eq_true rfl) rfl (t_X12_ofGood hsk (by omega) ho1) ?_
    refine s_iload_n hG dX12_held_21 rfl ?_
    refine s_icmp_ne hG 29 dX12_held_22 (by decide) (fun c2 => ?_) (fun c2 => ?_)
    · replace hF := Eq.trans (if_pos c2).symm hF
      refine s_iconst hG dX12_held_25 ⟨by decide, by decide⟩ ?_
      refine s_goto hG 30 dX12_held_26 (by decide) ?_
      refine m_weak (ls1 := [some (.inr (.inr 64)), some (.inl a1), none, some (.inl a3)]) hG ⟨rfl, ⟨rfl, ⟨rfl, trivial⟩⟩⟩ ?_
      exact t_X12_held_l4_j30 hsk hd hG hK0 hK1 hF
    · replace hF := Eq.trans (if_neg c2).symm hF
      refine s_iconst hG dX12_held_29 ⟨by decide, by decide⟩ ?_
      refine m_weak (ls1 := [some (.inr (.inr 64)), some (.inl a1), none, some (.inl a3)]) hG ⟨rfl, ⟨rfl, ⟨rfl, trivial⟩⟩⟩ ?_
      exact t_X12_held_l4_j30 hsk hd hG hK0 hK1 hF
  · replace hF := Eq.trans (if_neg c3).symm hF
    cases hF
    refine m_weak (ls1 := [none, none, some (.inl a2), none]) hG ⟨rfl, trivial⟩ ?_
    exact hK1 _ rfl
theorem t_X12_held_lp4 {d n0 s0 nF sF : Nat} {X : MX} {N : NN} {Ω : Nat → MS → Prop} {a1 : Int} {a2 : Int} {a3 : Int} (hsk : m_Sk X) (hd : 2 ≤ d) (hG : m_G d yX12_held.cls yX12_held.name cX12_held 4 n0 s0 nF sF Ω) {t : Int} (hK1 : Ω 38 ([none, none, some (.inl t), none], [], N, X)) (hl : lp (fun s => b_X12_held_4 X N s.1 s.2.1 s.2.2) (a1, a2, a3) = some t) : Ω 4 ([some (.inr (.inr 64)), some (.inl a1), some (.inl a2), some (.inl a3)], [], N, X) := by
  refine lp_ok (P := fun s => Ω 4 ([some (.inr (.inr 64)), some (.inl s.1), some (.inl s.2.1), some (.inl s.2.2)], [], N, X)) (K := fun t => Ω 38 ([none, none, some (.inl t), none], [], N, X)) (fun s out hF hK0 hK1 => ?_) hl hK1
  exact t_X12_held_b4 hsk hd hG (out := out) (fun s' e => hK0 s' e) (fun t' e => hK1 t' e) hF
theorem t_X12_held {d : Nat} {X : MX} {N : NN} {a1 : Int} {out : Int} (hsk : m_Sk X) (hd : 2 ≤ d) (hF : f_X12_held X N a1 = some out) : m_Call d yX12_held cX12_held 4 (some .int) [(.inr (.inr 64)), (.inl a1)] N X (some (.inl out)) N X := by
  refine m_mk (ls0 := [some (.inr (.inr 64)), some (.inl a1), none, none]) (by decide) rfl (Nat.le_of_ble_eq_true rfl) (Nat.le_refl _) (Nat.le_refl _) (fun Ω hE => ?_)
  have hG := hE.G
  unfold f_X12_held at hF
  refine s_iconst hG dX12_held_0 ⟨by decide, by decide⟩ ?_
  refine s_istore_n hG dX12_held_1 (by decide) rfl ?_
  refine s_iconst hG dX12_held_2 ⟨by decide, by decide⟩ ?_
  refine s_istore_n hG dX12_held_3 (by decide) rfl ?_
  obtain ⟨o4, hlo4, hF⟩ := bd_some hF
  refine t_X12_held_lp4 hsk hd hG ?_ hlo4
  refine s_iload_n hG dX12_held_38 rfl ?_
  cases hF
  exact s_iret hE dX12_held_39 rfl
-- X12_putBack
theorem t_X12_putBack_b2 {d n0 s0 nF sF : Nat} {X : MX} {Ω : Nat → MS → Prop} {N : NN} {a1 : Int} {a2 : Int} (hsk : m_Sk X) (hd : 1 ≤ d) (hG : m_G d yX12_putBack.cls yX12_putBack.name cX12_putBack 3 n0 s0 nF sF Ω) {out : ((NN × Int × Int) ⊕ NN)} (hK0 : ∀ s' : (NN × Int × Int), out = .inl s' → Ω 2 ([some (.inr (.inr 64)), some (.inl (s'.2.1)), some (.inl (s'.2.2))], [], s'.1, X)) (hK1 : ∀ t : NN, out = .inr t → Ω 33 ([none, none, none], [], t, X)) (hF : b_X12_putBack_2 X N a1 a2 = some out) : Ω 2 ([some (.inr (.inr 64)), some (.inl a1), some (.inl a2)], [], N, X) := by
  unfold b_X12_putBack_2 at hF
  refine s_iload_n hG dX12_putBack_2 rfl ?_
  refine s_sipush hG dX12_putBack_3 sp_270 ⟨by decide, by decide⟩ ?_
  refine s_icmp_ge hG 33 dX12_putBack_6 (by decide) (fun c4 => ?_) (fun c4 => ?_)
  · replace hF := Eq.trans (if_pos c4).symm hF
    refine s_aload_n hG dX12_putBack_9 rfl ?_
    refine s_getr (r := 66) hG dX12_putBack_10 fl_RX12_13 (sk_k hsk 64 rfl) rfl (sk_R hsk 64 3 rfl) ?_
    refine s_iload_n hG dX12_putBack_13 rfl ?_
    refine s_aload_n hG dX12_putBack_14 rfl ?_
    refine s_getr (r := 69) hG dX12_putBack_15 fl_RX12_23 (sk_k hsk 64 rfl) rfl (sk_R hsk 64 6 rfl) ?_
    refine s_sipush hG dX12_putBack_18 sp_270 ⟨by decide, by decide⟩ ?_
    refine s_iload_n hG dX12_putBack_21 rfl ?_
    refine s_imul hG dX12_putBack_22 ?_
    refine s_iload_n hG dX12_putBack_23 rfl ?_
    refine s_iadd hG dX12_putBack_24 ?_
    obtain ⟨g1, hF⟩ := gd_some hF
    refine s_ialdj (j := (m_w ((m_w (270 * a1)) + a2)).toNat) hG dX12_putBack_25 (sk_K hsk 69 rfl) g1 rfl ?_
    obtain ⟨g2, hF⟩ := gd_some hF
    refine s_iastj (j := a2.toNat) hG dX12_putBack_26 (sk_K hsk 66 rfl) g2 rfl ?_
    refine s_iinc hG dX12_putBack_27 (by decide) rfl rfl ?_
    refine s_goto hG 2 dX12_putBack_30 (by decide) ?_
    cases hF
    exact hK0 _ rfl
  · replace hF := Eq.trans (if_neg c4).symm hF
    cases hF
    refine m_weak (ls1 := [none, none, none]) hG trivial ?_
    exact hK1 _ rfl
theorem t_X12_putBack_lp2 {d n0 s0 nF sF : Nat} {X : MX} {Ω : Nat → MS → Prop} {N : NN} {a1 : Int} {a2 : Int} (hsk : m_Sk X) (hd : 1 ≤ d) (hG : m_G d yX12_putBack.cls yX12_putBack.name cX12_putBack 3 n0 s0 nF sF Ω) {t : NN} (hK1 : Ω 33 ([none, none, none], [], t, X)) (hl : lp (fun s => b_X12_putBack_2 X s.1 s.2.1 s.2.2) (N, a1, a2) = some t) : Ω 2 ([some (.inr (.inr 64)), some (.inl a1), some (.inl a2)], [], N, X) := by
  refine lp_ok (P := fun s => Ω 2 ([some (.inr (.inr 64)), some (.inl s.2.1), some (.inl s.2.2)], [], s.1, X)) (K := fun t => Ω 33 ([none, none, none], [], t, X)) (fun s out hF hK0 hK1 => ?_) hl hK1
  exact t_X12_putBack_b2 hsk hd hG (out := out) (fun s' e => hK0 s' e) (fun t' e => hK1 t' e) hF
theorem t_X12_putBack {d : Nat} {X : MX} {N : NN} {a1 : Int} {out : NN} (hsk : m_Sk X) (hd : 1 ≤ d) (hF : f_X12_putBack X N a1 = some out) : m_Call d yX12_putBack cX12_putBack 3 none [(.inr (.inr 64)), (.inl a1)] N X none out X := by
  refine m_mk (ls0 := [some (.inr (.inr 64)), some (.inl a1), none]) (by decide) rfl (Nat.le_of_ble_eq_true rfl) (Nat.le_refl _) (Nat.le_refl _) (fun Ω hE => ?_)
  have hG := hE.G
  unfold f_X12_putBack at hF
  refine s_iconst hG dX12_putBack_0 ⟨by decide, by decide⟩ ?_
  refine s_istore_n hG dX12_putBack_1 (by decide) rfl ?_
  obtain ⟨o5, hlo5, hF⟩ := bd_some hF
  refine t_X12_putBack_lp2 hsk hd hG ?_ hlo5
  cases hF
  exact s_vret hE dX12_putBack_33 rfl
-- X12_generation
theorem t_X12_generation_l138_j170 {d n0 s0 nF sF : Nat} {X : MX} {Ω : Nat → MS → Prop} {N : NN} {a2 : Int} {a3 : Int} {a5 : Int} {a6 : Int} {z1 : Int} {z2 : Int} (hsk : m_Sk X) (hd : 10 ≤ d) (hG : m_G d yX12_generation.cls yX12_generation.name cX12_generation 7 n0 s0 nF sF Ω) {out : ((NN × Int × Int × Int × Int) ⊕ (NN × Int × Int × Int))} (hK0 : ∀ s' : (NN × Int × Int × Int × Int), out = .inl s' → Ω 138 ([some (.inr (.inr 64)), none, some (.inl (s'.2.1)), some (.inl (s'.2.2.1)), none, some (.inl (s'.2.2.2.1)), some (.inl (s'.2.2.2.2))], [], s'.1, X)) (hK1 : ∀ t : (NN × Int × Int × Int), out = .inr t → Ω 180 ([some (.inr (.inr 64)), none, some (.inl t.2.1), some (.inl t.2.2.1), none, some (.inl t.2.2.2), none], [], t.1, X)) (hF : f_X12_generation_l138_j170 X N a2 a3 a5 a6 z1 z2 = some out) : Ω 170 ([some (.inr (.inr 64)), none, some (.inl a2), some (.inl a3), none, some (.inl a5), some (.inl a6)], [(.inl z2), (.inl z1), (.inr (.inr 64))], N, X) := by
  unfold f_X12_generation_l138_j170 at hF
  refine s_ior hG dX12_generation_170 ?_
  refine s_puti hG dX12_generation_171 fl_RX12_455 (fun h => by cases h) (sk_k hsk 64 rfl) rfl ?_
  refine s_iinc hG dX12_generation_174 (by decide) rfl rfl ?_
  refine s_goto hG 138 dX12_generation_177 (by decide) ?_
  cases hF
  exact hK0 _ rfl
theorem t_X12_generation_b138 {d n0 s0 nF sF : Nat} {X : MX} {Ω : Nat → MS → Prop} {N : NN} {a2 : Int} {a3 : Int} {a5 : Int} {a6 : Int} (hsk : m_Sk X) (hd : 10 ≤ d) (hG : m_G d yX12_generation.cls yX12_generation.name cX12_generation 7 n0 s0 nF sF Ω) {out : ((NN × Int × Int × Int × Int) ⊕ (NN × Int × Int × Int))} (hK0 : ∀ s' : (NN × Int × Int × Int × Int), out = .inl s' → Ω 138 ([some (.inr (.inr 64)), none, some (.inl (s'.2.1)), some (.inl (s'.2.2.1)), none, some (.inl (s'.2.2.2.1)), some (.inl (s'.2.2.2.2))], [], s'.1, X)) (hK1 : ∀ t : (NN × Int × Int × Int), out = .inr t → Ω 180 ([some (.inr (.inr 64)), none, some (.inl t.2.1), some (.inl t.2.2.1), none, some (.inl t.2.2.2), none], [], t.1, X)) (hF : b_X12_generation_138 X N a2 a3 a5 a6 = some out) : Ω 138 ([some (.inr (.inr 64)), none, some (.inl a2), some (.inl a3), none, some (.inl a5), some (.inl a6)], [], N, X) := by
  unfold b_X12_generation_138 at hF
  refine s_iload hG dX12_generation_138 rfl ?_
  refine s_aload_n hG dX12_generation_140 rfl ?_
  refine s_getr (r := 66) hG dX12_generation_141 fl_RX12_13 (sk_k hsk 64 rfl) rfl (sk_R hsk 64 3 rfl) ?_
  refine s_iconst hG dX12_generation_144 ⟨by decide, by decide⟩ ?_
  refine s_ialdj (j := 0) hG dX12_generation_145 (sk_K hsk 66 rfl) ⟨by decide, by decide⟩ rfl ?_
  refine s_icmp_ge hG 180 dX12_generation_146 (by decide) (fun c17 => ?_) (fun c17 => ?_)
  · replace hF := Eq.trans (if_pos c17).symm hF
    refine s_aload_n hG dX12_generation_149 rfl ?_
    refine s_dup hG dX12_generation_150 rfl ?_
    refine s_geti hG dX12_generation_151 fl_RX12_455 (sk_k hsk 64 rfl) rfl ?_
    refine s_aload_n hG dX12_generation_154 rfl ?_
    refine s_iconst hG dX12_generation_155 ⟨by decide, by decide⟩ ?_
    obtain ⟨o15, ho15, hF⟩ := bd_some hF
    refine s_callV (d' := d - 1) (ci := 12) (args := [.inl 3]) hG (by omega) dX12_generation_156 cv_RX12_622 cw_X12_draw rfl rfl (sk_k hsk 64 rfl) (Nat.le_of_ble_eq_true rfl) rfl (t_X12_draw hsk (by omega) ho15) ?_
    refine s_if_ne hG 169 dX12_generation_159 (by decide) (fun c16 => ?_) (fun c16 => ?_)
    · replace hF := Eq.trans (if_pos c16).symm hF
      refine s_iconst hG dX12_generation_162 ⟨by decide, by decide⟩ ?_
      refine s_iload hG dX12_generation_163 rfl ?_
      refine s_ishl hG dX12_generation_165 ?_
      refine s_goto hG 170 dX12_generation_166 (by decide) ?_
      exact t_X12_generation_l138_j170 hsk hd hG hK0 hK1 hF
    · replace hF := Eq.trans (if_neg c16).symm hF
      refine s_iconst hG dX12_generation_169 ⟨by decide, by decide⟩ ?_
      exact t_X12_generation_l138_j170 hsk hd hG hK0 hK1 hF
  · replace hF := Eq.trans (if_neg c17).symm hF
    cases hF
    refine m_weak (ls1 := [some (.inr (.inr 64)), none, some (.inl a2), some (.inl a3), none, some (.inl a5), none]) hG ⟨rfl, ⟨rfl, ⟨rfl, ⟨rfl, trivial⟩⟩⟩⟩ ?_
    exact hK1 _ rfl
theorem t_X12_generation_lp138 {d n0 s0 nF sF : Nat} {X : MX} {Ω : Nat → MS → Prop} {N : NN} {a2 : Int} {a3 : Int} {a5 : Int} {a6 : Int} (hsk : m_Sk X) (hd : 10 ≤ d) (hG : m_G d yX12_generation.cls yX12_generation.name cX12_generation 7 n0 s0 nF sF Ω) {t : (NN × Int × Int × Int)} (hK1 : Ω 180 ([some (.inr (.inr 64)), none, some (.inl t.2.1), some (.inl t.2.2.1), none, some (.inl t.2.2.2), none], [], t.1, X)) (hl : lp (fun s => b_X12_generation_138 X s.1 s.2.1 s.2.2.1 s.2.2.2.1 s.2.2.2.2) (N, a2, a3, a5, a6) = some t) : Ω 138 ([some (.inr (.inr 64)), none, some (.inl a2), some (.inl a3), none, some (.inl a5), some (.inl a6)], [], N, X) := by
  refine lp_ok (P := fun s => Ω 138 ([some (.inr (.inr 64)), none, some (.inl s.2.1), some (.inl s.2.2.1), none, some (.inl s.2.2.2.1), some (.inl s.2.2.2.2)], [], s.1, X)) (K := fun t => Ω 180 ([some (.inr (.inr 64)), none, some (.inl t.2.1), some (.inl t.2.2.1), none, some (.inl t.2.2.2), none], [], t.1, X)) (fun s out hF hK0 hK1 => ?_) hl hK1
  exact t_X12_generation_b138 hsk hd hG (out := out) (fun s' e => hK0 s' e) (fun t' e => hK1 t' e) hF
theorem t_X12_generation_l71_j207 {d n0 s0 nF sF : Nat} {X : MX} {Ω : Nat → MS → Prop} {N : NN} {a2 : Int} {a3 : Int} {a4 : Int} {a5 : Int} (hsk : m_Sk X) (hd : 10 ≤ d) (hG : m_G d yX12_generation.cls yX12_generation.name cX12_generation 7 n0 s0 nF sF Ω) {out : ((NN × Int × Int × Int × Int) ⊕ (NN × Int))} (hK0 : ∀ s' : (NN × Int × Int × Int × Int), out = .inl s' → Ω 71 ([some (.inr (.inr 64)), none, some (.inl (s'.2.1)), some (.inl (s'.2.2.1)), some (.inl (s'.2.2.2.1)), some (.inl (s'.2.2.2.2)), none], [], s'.1, X)) (hK1 : ∀ t : (NN × Int), out = .inr t → Ω 213 ([some (.inr (.inr 64)), none, none, some (.inl t.2), none, none, none], [], t.1, X)) (hF : f_X12_generation_l71_j207 X N a2 a3 a4 a5 = some out) : Ω 207 ([some (.inr (.inr 64)), none, some (.inl a2), some (.inl a3), some (.inl a4), some (.inl a5), none], [], N, X) := by
  unfold f_X12_generation_l71_j207 at hF
  refine s_iinc hG dX12_generation_207 (by decide) rfl rfl ?_
  refine s_goto hG 71 dX12_generation_210 (by decide) ?_
  cases hF
  exact hK0 _ rfl
theorem t_X12_generation_l71_j195 {d n0 s0 nF sF : Nat} {X : MX} {Ω : Nat → MS → Prop} {N : NN} {a2 : Int} {a3 : Int} {a5 : Int} {z0 : Int} (hsk : m_Sk X) (hd : 10 ≤ d) (hG : m_G d yX12_generation.cls yX12_generation.name cX12_generation 7 n0 s0 nF sF Ω) {out : ((NN × Int × Int × Int × Int) ⊕ (NN × Int))} (hK0 : ∀ s' : (NN × Int × Int × Int × Int), out = .inl s' → Ω 71 ([some (.inr (.inr 64)), none, some (.inl (s'.2.1)), some (.inl (s'.2.2.1)), some (.inl (s'.2.2.2.1)), some (.inl (s'.2.2.2.2)), none], [], s'.1, X)) (hK1 : ∀ t : (NN × Int), out = .inr t → Ω 213 ([some (.inr (.inr 64)), none, none, some (.inl t.2), none, none, none], [], t.1, X)) (hF : f_X12_generation_l71_j195 X N a2 a3 a5 z0 = some out) : Ω 195 ([some (.inr (.inr 64)), none, some (.inl a2), some (.inl a3), none, some (.inl a5), none], [(.inl z0)], N, X) := by
  unfold f_X12_generation_l71_j195 at hF
  refine s_istore hG dX12_generation_195 (by decide) rfl ?_
  refine s_iload hG dX12_generation_197 rfl ?_
  refine s_if_eq hG 207 dX12_generation_199 (by decide) (fun c23 => ?_) (fun c23 => ?_)
  · replace hF := Eq.trans (if_pos c23).symm hF
    exact t_X12_generation_l71_j207 hsk hd hG hK0 hK1 hF
  · replace hF := Eq.trans (if_neg c23).symm hF
    refine s_aload_n hG dX12_generation_202 rfl ?_
    obtain ⟨o22, ho22, hF⟩ := bd_some hF
    refine s_callV (d' := d - 1) (ci := 12) (args := []) hG (by omega) dX12_generation_203 cv_RX12_474 cw_X12_wait1 rfl rfl (sk_k hsk 64 rfl) (Nat.le_of_ble_eq_true rfl) rfl (t_X12_wait1 hsk (by omega) ho22) ?_
    refine s_pop hG dX12_generation_206 rfl ?_
    exact t_X12_generation_l71_j207 hsk hd hG hK0 hK1 hF
theorem t_X12_generation_l71_j130 {d n0 s0 nF sF : Nat} {X : MX} {Ω : Nat → MS → Prop} {N : NN} {a2 : Int} {a3 : Int} {a5 : Int} (hsk : m_Sk X) (hd : 10 ≤ d) (hG : m_G d yX12_generation.cls yX12_generation.name cX12_generation 7 n0 s0 nF sF Ω) {out : ((NN × Int × Int × Int × Int) ⊕ (NN × Int))} (hK0 : ∀ s' : (NN × Int × Int × Int × Int), out = .inl s' → Ω 71 ([some (.inr (.inr 64)), none, some (.inl (s'.2.1)), some (.inl (s'.2.2.1)), some (.inl (s'.2.2.2.1)), some (.inl (s'.2.2.2.2)), none], [], s'.1, X)) (hK1 : ∀ t : (NN × Int), out = .inr t → Ω 213 ([some (.inr (.inr 64)), none, none, some (.inl t.2), none, none, none], [], t.1, X)) (hF : f_X12_generation_l71_j130 X N a2 a3 a5 = some out) : Ω 130 ([some (.inr (.inr 64)), none, some (.inl a2), some (.inl a3), none, some (.inl a5), none], [], N, X) := by
  unfold f_X12_generation_l71_j130 at hF
  refine s_aload_n hG dX12_generation_130 rfl ?_
  refine s_iconst hG dX12_generation_131 ⟨by decide, by decide⟩ ?_
  refine s_puti hG dX12_generation_132 fl_RX12_455 (fun h => by cases h) (sk_k hsk 64 rfl) rfl ?_
  refine s_iconst hG dX12_generation_135 ⟨by decide, by decide⟩ ?_
  refine s_istore hG dX12_generation_136 (by decide) rfl ?_
  obtain ⟨o19, hlo19, hF⟩ := bd_some hF
  refine t_X12_generation_lp138 hsk hd hG ?_ hlo19
  refine s_aload_n hG dX12_generation_180 rfl ?_
  obtain ⟨o20, ho20, hF⟩ := bd_some hF
  refine s_callV (d' := d - 1) (ci := 12) (args := []) hG (by omega) dX12_generation_181 cv_RX12_210 cw_X12_year rfl rfl (sk_k hsk 64 rfl) (Nat.le_of_ble_eq_true rfl) rfl (t_X12_year hsk (by omega) ho20) ?_
  refine s_sipush hG dX12_generation_184 sp_999 ⟨by decide, by decide⟩ ?_
  refine s_icmp_ge hG 194 dX12_generation_187 (by decide) (fun c21 => ?_) (fun c21 => ?_)
  · replace hF := Eq.trans (if_pos c21).symm hF
    refine s_iconst hG dX12_generation_190 ⟨by decide, by decide⟩ ?_
    refine s_goto hG 195 dX12_generation_191 (by decide) ?_
    exact t_X12_generation_l71_j195 hsk hd hG hK0 hK1 hF
  · replace hF := Eq.trans (if_neg c21).symm hF
    refine s_iconst hG dX12_generation_194 ⟨by decide, by decide⟩ ?_
    exact t_X12_generation_l71_j195 hsk hd hG hK0 hK1 hF
theorem t_X12_generation_l71_j128 {d n0 s0 nF sF : Nat} {X : MX} {Ω : Nat → MS → Prop} {N : NN} {a2 : Int} {a5 : Int} {z0 : Int} {z1 : Int} (hsk : m_Sk X) (hd : 10 ≤ d) (hG : m_G d yX12_generation.cls yX12_generation.name cX12_generation 7 n0 s0 nF sF Ω) {out : ((NN × Int × Int × Int × Int) ⊕ (NN × Int))} (hK0 : ∀ s' : (NN × Int × Int × Int × Int), out = .inl s' → Ω 71 ([some (.inr (.inr 64)), none, some (.inl (s'.2.1)), some (.inl (s'.2.2.1)), some (.inl (s'.2.2.2.1)), some (.inl (s'.2.2.2.2)), none], [], s'.1, X)) (hK1 : ∀ t : (NN × Int), out = .inr t → Ω 213 ([some (.inr (.inr 64)), none, none, some (.inl t.2), none, none, none], [], t.1, X)) (hF : f_X12_generation_l71_j128 X N a2 a5 z0 z1 = some out) : Ω 128 ([some (.inr (.inr 64)), none, some (.inl a2), none, none, some (.inl a5), none], [(.inl z1), (.inl z0)], N, X) := by
  unfold f_X12_generation_l71_j128 at hF
  refine s_iadd hG dX12_generation_128 ?_
  refine s_istore_n hG dX12_generation_129 (by decide) rfl ?_
  exact t_X12_generation_l71_j130 hsk hd hG hK0 hK1 hF
theorem t_X12_generation_b71 {d n0 s0 nF sF : Nat} {X : MX} {Ω : Nat → MS → Prop} {N : NN} {a2 : Int} {a3 : Int} {a4 : Int} {a5 : Int} (hsk : m_Sk X) (hd : 10 ≤ d) (hG : m_G d yX12_generation.cls yX12_generation.name cX12_generation 7 n0 s0 nF sF Ω) {out : ((NN × Int × Int × Int × Int) ⊕ (NN × Int))} (hK0 : ∀ s' : (NN × Int × Int × Int × Int), out = .inl s' → Ω 71 ([some (.inr (.inr 64)), none, some (.inl (s'.2.1)), some (.inl (s'.2.2.1)), some (.inl (s'.2.2.2.1)), some (.inl (s'.2.2.2.2)), none], [], s'.1, X)) (hK1 : ∀ t : (NN × Int), out = .inr t → Ω 213 ([some (.inr (.inr 64)), none, none, some (.inl t.2), none, none, none], [], t.1, X)) (hF : b_X12_generation_71 X N a2 a3 a4 a5 = some out) : Ω 71 ([some (.inr (.inr 64)), none, some (.inl a2), some (.inl a3), some (.inl a4), some (.inl a5), none], [], N, X) := by
  unfold b_X12_generation_71 at hF
  refine s_iload hG dX12_generation_71 rfl ?_
  refine s_iload_n hG dX12_generation_73 rfl ?_
  refine s_icmp_ge hG 213 dX12_generation_74 (by decide) (fun c13 => ?_) (fun c13 => ?_)
  · replace hF := Eq.trans (if_pos c13).symm hF
    refine s_iload hG dX12_generation_77 rfl ?_
    refine s_if_eq hG 213 dX12_generation_79 (by decide) (fun c12 => ?_) (fun c12 => ?_)
    · replace hF := Eq.trans (if_pos c12).symm hF
      cases hF
      refine m_weak (ls1 := [some (.inr (.inr 64)), none, none, some (.inl a3), none, none, none]) hG ⟨rfl, ⟨rfl, trivial⟩⟩ ?_
      exact hK1 _ rfl
    · replace hF := Eq.trans (if_neg c12).symm hF
      refine s_aload_n hG dX12_generation_82 rfl ?_
      refine s_getr (r := 66) hG dX12_generation_83 fl_RX12_13 (sk_k hsk 64 rfl) rfl (sk_R hsk 64 3 rfl) ?_
      refine s_iconst hG dX12_generation_86 ⟨by decide, by decide⟩ ?_
      refine s_ialdj (j := 1) hG dX12_generation_87 (sk_K hsk 66 rfl) ⟨by decide, by decide⟩ rfl ?_
      refine s_if_le hG 130 dX12_generation_88 (by decide) (fun c11 => ?_) (fun c11 => ?_)
      · replace hF := Eq.trans (if_pos c11).symm hF
        refine s_aload_n hG dX12_generation_91 rfl ?_
        refine s_aload_n hG dX12_generation_92 rfl ?_
        refine s_getr (r := 66) hG dX12_generation_93 fl_RX12_13 (sk_k hsk 64 rfl) rfl (sk_R hsk 64 3 rfl) ?_
        refine s_iconst hG dX12_generation_96 ⟨by decide, by decide⟩ ?_
        refine s_ialdj (j := 1) hG dX12_generation_97 (sk_K hsk 66 rfl) ⟨by decide, by decide⟩ rfl ?_
        obtain ⟨o7, ho7, hF⟩ := bd_some hF
        refine s_callV (d' := d - 1) (ci := 12) (args := [.inl (N 66 1)]) hG (by omega) dX12_generation_98 cv_RX12_622 cw_X12_draw rfl rfl (sk_k hsk 64 rfl) (Nat.le_of_ble_eq_true rfl) rfl (t_X12_draw hsk (by omega) ho7) ?_
        refine s_istore hG dX12_generation_101 (by decide) rfl ?_
        refine s_iload_n hG dX12_generation_103 rfl ?_
        refine s_aload_n hG dX12_generation_104 rfl ?_
        refine s_iload hG dX12_generation_105 rfl ?_
        refine s_aload_n hG dX12_generation_107 rfl ?_
        refine s_aload_n hG dX12_generation_108 rfl ?_
        refine s_getr (r := 66) hG dX12_generation_109 fl_RX12_13 (sk_k hsk 64 rfl) rfl (sk_R hsk 64 3 rfl) ?_
        refine s_iconst hG dX12_generation_112 ⟨by decide, by decide⟩ ?_
        refine s_ialdj (j := 0) hG dX12_generation_113 (sk_K hsk 66 rfl) ⟨by decide, by decide⟩ rfl ?_
        obtain ⟨o8, ho8, hF⟩ := bd_some hF
        refine s_callV (d' := d - 1) (ci := 12) (args := [.inl (o7.2 66 0)]) hG (by omega) dX12_generation_114 cv_RX12_622 cw_X12_draw rfl rfl (sk_k hsk 64 rfl) (Nat.le_of_ble_eq_true rfl) rfl (t_X12_draw hsk (by omega) ho8) ?_
        obtain ⟨o9, ho9, hF⟩ := bd_some hF
        refine s_callV (d' := d - 1) (ci := 12) (args := [.inl o7.1, .inl o8.1]) hG (by omega) dX12_generation_117 cv_RX12_465 cw_X12_gift rfl rfl (sk_k hsk 64 rfl) (Nat.le_of_ble_eq_true rfl) rfl (t_X12_gift hsk (by omega) ho9) ?_
        refine s_if_ge hG 127 dX12_generation_120 (by decide) (fun c10 => ?_) (fun c10 => ?_)
        · replace hF := Eq.trans (if_pos c10).symm hF
          refine s_iconst hG dX12_generation_123 ⟨by decide, by decide⟩ ?_
          refine s_goto hG 128 dX12_generation_124 (by decide) ?_
          refine m_weak (ls1 := [some (.inr (.inr 64)), none, some (.inl a2), none, none, some (.inl a5), none]) hG ⟨rfl, ⟨rfl, ⟨rfl, trivial⟩⟩⟩ ?_
          exact t_X12_generation_l71_j128 hsk hd hG hK0 hK1 hF
        · replace hF := Eq.trans (if_neg c10).symm hF
          refine s_iconst hG dX12_generation_127 ⟨by decide, by decide⟩ ?_
          refine m_weak (ls1 := [some (.inr (.inr 64)), none, some (.inl a2), none, none, some (.inl a5), none]) hG ⟨rfl, ⟨rfl, ⟨rfl, trivial⟩⟩⟩ ?_
          exact t_X12_generation_l71_j128 hsk hd hG hK0 hK1 hF
      · replace hF := Eq.trans (if_neg c11).symm hF
        refine m_weak (ls1 := [some (.inr (.inr 64)), none, some (.inl a2), some (.inl a3), none, some (.inl a5), none]) hG ⟨rfl, ⟨rfl, ⟨rfl, ⟨rfl, trivial⟩⟩⟩⟩ ?_
        exact t_X12_generation_l71_j130 hsk hd hG hK0 hK1 hF
  · replace hF := Eq.trans (if_neg c13).symm hF
    cases hF
    refine m_weak (ls1 := [some (.inr (.inr 64)), none, none, some (.inl a3), none, none, none]) hG ⟨rfl, ⟨rfl, trivial⟩⟩ ?_
    exact hK1 _ rfl
theorem t_X12_generation_lp71 {d n0 s0 nF sF : Nat} {X : MX} {Ω : Nat → MS → Prop} {N : NN} {a2 : Int} {a3 : Int} {a4 : Int} {a5 : Int} (hsk : m_Sk X) (hd : 10 ≤ d) (hG : m_G d yX12_generation.cls yX12_generation.name cX12_generation 7 n0 s0 nF sF Ω) {t : (NN × Int)} (hK1 : Ω 213 ([some (.inr (.inr 64)), none, none, some (.inl t.2), none, none, none], [], t.1, X)) (hl : lp (fun s => b_X12_generation_71 X s.1 s.2.1 s.2.2.1 s.2.2.2.1 s.2.2.2.2) (N, a2, a3, a4, a5) = some t) : Ω 71 ([some (.inr (.inr 64)), none, some (.inl a2), some (.inl a3), some (.inl a4), some (.inl a5), none], [], N, X) := by
  refine lp_ok (P := fun s => Ω 71 ([some (.inr (.inr 64)), none, some (.inl s.2.1), some (.inl s.2.2.1), some (.inl s.2.2.2.1), some (.inl s.2.2.2.2), none], [], s.1, X)) (K := fun t => Ω 213 ([some (.inr (.inr 64)), none, none, some (.inl t.2), none, none, none], [], t.1, X)) (fun s out hF hK0 hK1 => ?_) hl hK1
  exact t_X12_generation_b71 hsk hd hG (out := out) (fun s' e => hK0 s' e) (fun t' e => hK1 t' e) hF
theorem t_X12_generation_b238 {d n0 s0 nF sF : Nat} {X : MX} {Ω : Nat → MS → Prop} {N : NN} {a3 : Int} {a5 : Int} {a6 : Int} (hsk : m_Sk X) (hd : 10 ≤ d) (hG : m_G d yX12_generation.cls yX12_generation.name cX12_generation 7 n0 s0 nF sF Ω) {out : ((NN × Int × Int × Int) ⊕ (NN × Int × Int))} (hK0 : ∀ s' : (NN × Int × Int × Int), out = .inl s' → Ω 238 ([some (.inr (.inr 64)), none, none, some (.inl (s'.2.1)), none, some (.inl (s'.2.2.1)), some (.inl (s'.2.2.2))], [], s'.1, X)) (hK1 : ∀ t : (NN × Int × Int), out = .inr t → Ω 272 ([some (.inr (.inr 64)), none, none, some (.inl t.2.1), none, some (.inl t.2.2), none], [], t.1, X)) (hF : b_X12_generation_238 X N a3 a5 a6 = some out) : Ω 238 ([some (.inr (.inr 64)), none, none, some (.inl a3), none, some (.inl a5), some (.inl a6)], [], N, X) := by
  unfold b_X12_generation_238 at hF
  refine s_iload hG dX12_generation_238 rfl ?_
  refine s_bipush hG dX12_generation_240 bp_6 ⟨by decide, by decide⟩ ?_
  refine s_icmp_ge hG 272 dX12_generation_242 (by decide) (fun c29 => ?_) (fun c29 => ?_)
  · replace hF := Eq.trans (if_pos c29).symm hF
    refine s_aload_n hG dX12_generation_245 rfl ?_
    refine s_getr (r := 103) hG dX12_generation_246 fl_RX12_163 (sk_k hsk 64 rfl) rfl (sk_R hsk 64 71 rfl) ?_
    refine s_bipush hG dX12_generation_249 bp_7 ⟨by decide, by decide⟩ ?_
    refine s_iload hG dX12_generation_251 rfl ?_
    refine s_imul hG dX12_generation_253 ?_
    refine s_iload hG dX12_generation_254 rfl ?_
    refine s_iadd hG dX12_generation_256 ?_
    refine s_aload_n hG dX12_generation_257 rfl ?_
    refine s_iload hG dX12_generation_258 rfl ?_
    refine s_iload hG dX12_generation_260 rfl ?_
    obtain ⟨o26, ho26, hF⟩ := bd_some hF
    refine s_callV (d' := d - 1) (ci := 12) (args := [.inl a5, .inl a6]) hG (by omega) dX12_generation_262 cv_RX12_204 cw_X12_ofLord rfl rfl (sk_k hsk 64 rfl) (Nat.le_of_ble_eq_true rfl) rfl (t_X12_ofLord hsk (by omega) ho26) ?_
    obtain ⟨g27, hF⟩ := gd_some hF
    refine s_iastj (j := (m_w ((m_w (7 * a5)) + a6)).toNat) hG dX12_generation_265 (sk_K hsk 103 rfl) g27 rfl ?_
    refine s_iinc hG dX12_generation_266 (by decide) rfl rfl ?_
    refine s_goto hG 238 dX12_generation_269 (by decide) ?_
    cases hF
    exact hK0 _ rfl
  · replace hF := Eq.trans (if_neg c29).symm hF
    cases hF
    refine m_weak (ls1 := [some (.inr (.inr 64)), none, none, some (.inl a3), none, some (.inl a5), none]) hG ⟨rfl, ⟨rfl, ⟨rfl, trivial⟩⟩⟩ ?_
    exact hK1 _ rfl
theorem t_X12_generation_lp238 {d n0 s0 nF sF : Nat} {X : MX} {Ω : Nat → MS → Prop} {N : NN} {a3 : Int} {a5 : Int} {a6 : Int} (hsk : m_Sk X) (hd : 10 ≤ d) (hG : m_G d yX12_generation.cls yX12_generation.name cX12_generation 7 n0 s0 nF sF Ω) {t : (NN × Int × Int)} (hK1 : Ω 272 ([some (.inr (.inr 64)), none, none, some (.inl t.2.1), none, some (.inl t.2.2), none], [], t.1, X)) (hl : lp (fun s => b_X12_generation_238 X s.1 s.2.1 s.2.2.1 s.2.2.2) (N, a3, a5, a6) = some t) : Ω 238 ([some (.inr (.inr 64)), none, none, some (.inl a3), none, some (.inl a5), some (.inl a6)], [], N, X) := by
  refine lp_ok (P := fun s => Ω 238 ([some (.inr (.inr 64)), none, none, some (.inl s.2.1), none, some (.inl s.2.2.1), some (.inl s.2.2.2)], [], s.1, X)) (K := fun t => Ω 272 ([some (.inr (.inr 64)), none, none, some (.inl t.2.1), none, some (.inl t.2.2), none], [], t.1, X)) (fun s out hF hK0 hK1 => ?_) hl hK1
  exact t_X12_generation_b238 hsk hd hG (out := out) (fun s' e => hK0 s' e) (fun t' e => hK1 t' e) hF
theorem t_X12_generation_b226 {d n0 s0 nF sF : Nat} {X : MX} {Ω : Nat → MS → Prop} {N : NN} {a3 : Int} {a5 : Int} (hsk : m_Sk X) (hd : 10 ≤ d) (hG : m_G d yX12_generation.cls yX12_generation.name cX12_generation 7 n0 s0 nF sF Ω) {out : ((NN × Int × Int) ⊕ (NN × Int))} (hK0 : ∀ s' : (NN × Int × Int), out = .inl s' → Ω 226 ([some (.inr (.inr 64)), none, none, some (.inl (s'.2.1)), none, some (.inl (s'.2.2)), none], [], s'.1, X)) (hK1 : ∀ t : (NN × Int), out = .inr t → Ω 297 ([some (.inr (.inr 64)), none, none, some (.inl t.2), none, none, none], [], t.1, X)) (hF : b_X12_generation_226 X N a3 a5 = some out) : Ω 226 ([some (.inr (.inr 64)), none, none, some (.inl a3), none, some (.inl a5), none], [], N, X) := by
  unfold b_X12_generation_226 at hF
  refine s_iload hG dX12_generation_226 rfl ?_
  refine s_aload_n hG dX12_generation_228 rfl ?_
  refine s_geti hG dX12_generation_229 fl_RX12_625 (sk_k hsk 64 rfl) rfl ?_
  refine s_icmp_ge hG 297 dX12_generation_232 (by decide) (fun c34 => ?_) (fun c34 => ?_)
  · replace hF := Eq.trans (if_pos c34).symm hF
    refine s_iconst hG dX12_generation_235 ⟨by decide, by decide⟩ ?_
    refine s_istore hG dX12_generation_236 (by decide) rfl ?_
    obtain ⟨o30, hlo30, hF⟩ := bd_some hF
    refine t_X12_generation_lp238 hsk hd hG ?_ hlo30
    refine s_aload_n hG dX12_generation_272 rfl ?_
    refine s_getr (r := 103) hG dX12_generation_273 fl_RX12_163 (sk_k hsk 64 rfl) rfl (sk_R hsk 64 71 rfl) ?_
    refine s_bipush hG dX12_generation_276 bp_7 ⟨by decide, by decide⟩ ?_
    refine s_iload hG dX12_generation_278 rfl ?_
    refine s_imul hG dX12_generation_280 ?_
    refine s_bipush hG dX12_generation_281 bp_6 ⟨by decide, by decide⟩ ?_
    refine s_iadd hG dX12_generation_283 ?_
    refine s_aload_n hG dX12_generation_284 rfl ?_
    refine s_iload hG dX12_generation_285 rfl ?_
    obtain ⟨o31, ho31, hF⟩ := bd_some hF
    refine s_callV (d' := d - 1) (ci := 12) (args := [.inl o30.2.2]) hG (by omega) dX12_generation_287 cv_RX12_207 cw_X12_held rfl rfl (sk_k hsk 64 rfl) (Nat.le_of_ble_eq_true rfl) rfl (t_X12_held hsk (by omega) ho31) ?_
    obtain ⟨g32, hF⟩ := gd_some hF
    refine s_iastj (j := (m_w ((m_w (7 * o30.2.2)) + 6)).toNat) hG dX12_generation_290 (sk_K hsk 103 rfl) g32 rfl ?_
    refine s_iinc hG dX12_generation_291 (by decide) rfl rfl ?_
    refine s_goto hG 226 dX12_generation_294 (by decide) ?_
    cases hF
    exact hK0 _ rfl
  · replace hF := Eq.trans (if_neg c34).symm hF
    cases hF
    refine m_weak (ls1 := [some (.inr (.inr 64)), none, none, some (.inl a3), none, none, none]) hG ⟨rfl, ⟨rfl, trivial⟩⟩ ?_
    exact hK1 _ rfl
theorem t_X12_generation_lp226 {d n0 s0 nF sF : Nat} {X : MX} {Ω : Nat → MS → Prop} {N : NN} {a3 : Int} {a5 : Int} (hsk : m_Sk X) (hd : 10 ≤ d) (hG : m_G d yX12_generation.cls yX12_generation.name cX12_generation 7 n0 s0 nF sF Ω) {t : (NN × Int)} (hK1 : Ω 297 ([some (.inr (.inr 64)), none, none, some (.inl t.2), none, none, none], [], t.1, X)) (hl : lp (fun s => b_X12_generation_226 X s.1 s.2.1 s.2.2) (N, a3, a5) = some t) : Ω 226 ([some (.inr (.inr 64)), none, none, some (.inl a3), none, some (.inl a5), none], [], N, X) := by
  refine lp_ok (P := fun s => Ω 226 ([some (.inr (.inr 64)), none, none, some (.inl s.2.1), none, some (.inl s.2.2), none], [], s.1, X)) (K := fun t => Ω 297 ([some (.inr (.inr 64)), none, none, some (.inl t.2), none, none, none], [], t.1, X)) (fun s out hF hK0 hK1 => ?_) hl hK1
  exact t_X12_generation_b226 hsk hd hG (out := out) (fun s' e => hK0 s' e) (fun t' e => hK1 t' e) hF
theorem t_X12_generation_j29 {d n0 s0 nF sF : Nat} {X : MX} {Ω : Nat → MS → Prop} {N : NN} (hsk : m_Sk X) (hd : 10 ≤ d) (hG : m_G d yX12_generation.cls yX12_generation.name cX12_generation 7 n0 s0 nF sF Ω) {out : (Int × NN)} (hE : m_Gd d yX12_generation cX12_generation 7 (some .int) X (some (.inl out.1)) out.2 X Ω) (hF : f_X12_generation_j29 X N = some out) : Ω 29 ([some (.inr (.inr 64)), none, none, none, none, none, none], [], N, X) := by
  unfold f_X12_generation_j29 at hF
  refine s_aload_n hG dX12_generation_29 rfl ?_
  refine s_iconst hG dX12_generation_30 ⟨by decide, by decide⟩ ?_
  obtain ⟨o41, ho41, hF⟩ := bd_some hF
  refine s_callV (d' := d - 1) (ci := 12) (args := [.inl (-1)]) hG (by omega) dX12_generation_31 cv_RX12_175 cw_X12_tell rfl rfl (sk_k hsk 64 rfl) (Nat.le_of_ble_eq_true rfl) rfl (t_X12_tell hsk (by omega) ho41) ?_
  cases hF
  exact s_iret hE dX12_generation_34 rfl
theorem t_X12_generation {d : Nat} {X : MX} {N : NN} {a1 : Int} {a2 : Int} {out : (Int × NN)} (hsk : m_Sk X) (hd : 10 ≤ d) (hF : f_X12_generation X N a1 a2 = some out) : m_Call d yX12_generation cX12_generation 7 (some .int) [(.inr (.inr 64)), (.inl a1), (.inl a2)] N X (some (.inl out.1)) out.2 X := by
  refine m_mk (ls0 := [some (.inr (.inr 64)), some (.inl a1), some (.inl a2), none, none, none, none]) (by decide) rfl (Nat.le_of_ble_eq_true rfl) (Nat.le_refl _) (Nat.le_refl _) (fun Ω hE => ?_)
  have hG := hE.G
  unfold f_X12_generation at hF
  refine s_aload_n hG dX12_generation_0 rfl ?_
  refine s_iconst hG dX12_generation_1 ⟨by decide, by decide⟩ ?_
  refine s_puti hG dX12_generation_2 fl_RX12_166 (fun h => by cases h) (sk_k hsk 64 rfl) rfl ?_
  refine s_iload_n hG dX12_generation_5 rfl ?_
  refine s_i2l hG dX12_generation_6 ?_
  refine s_lconst (v := 0) hG dX12_generation_7 rfl ⟨by decide, by decide⟩ ?_
  refine s_ldc2 hG dX12_generation_8 kc_RX12_278 ⟨by decide, by decide⟩ ?_
  obtain ⟨o2, ho2, hF⟩ := bd_some hF
  refine s_callS (d' := d - 1) (args := [.inr (.inl a1), .inr (.inl 0), .inr (.inl 1000000)]) hG (by omega) dX12_generation_11 cs_RX12_179 cw_X12_in rfl (Nat.le_of_ble_eq_true rfl) rfl (t_X12_in hsk (by omega) ho2) ?_
  refine s_if_eq hG 29 dX12_generation_14 (by decide) (fun c40 => ?_) (fun c40 => ?_)
  · replace hF := Eq.trans (if_pos c40).symm hF
    refine m_weak (ls1 := [some (.inr (.inr 64)), none, none, none, none, none, none]) hG ⟨rfl, trivial⟩ ?_
    exact t_X12_generation_j29 hsk hd hG hE hF
  · replace hF := Eq.trans (if_neg c40).symm hF
    refine s_iload_n hG dX12_generation_17 rfl ?_
    refine s_i2l hG dX12_generation_18 ?_
    refine s_lconst (v := 1) hG dX12_generation_19 rfl ⟨by decide, by decide⟩ ?_
    refine s_ldc2 hG dX12_generation_20 kc_RX12_620 ⟨by decide, by decide⟩ ?_
    obtain ⟨o3, ho3, hF⟩ := bd_some hF
    refine s_callS (d' := d - 1) (args := [.inr (.inl a2), .inr (.inl 1), .inr (.inl 50)]) hG (by omega) dX12_generation_23 cs_RX12_179 cw_X12_in rfl (Nat.le_of_ble_eq_true rfl) rfl (t_X12_in hsk (by omega) ho3) ?_
    refine s_if_ne hG 35 dX12_generation_26 (by decide) (fun c39 => ?_) (fun c39 => ?_)
    · replace hF := Eq.trans (if_pos c39).symm hF
      refine m_weak (ls1 := [some (.inr (.inr 64)), none, none, none, none, none, none]) hG ⟨rfl, trivial⟩ ?_
      exact t_X12_generation_j29 hsk hd hG hE hF
    · replace hF := Eq.trans (if_neg c39).symm hF
      refine s_aload_n hG dX12_generation_35 rfl ?_
      refine s_getr (r := 66) hG dX12_generation_36 fl_RX12_13 (sk_k hsk 64 rfl) rfl (sk_R hsk 64 3 rfl) ?_
      refine s_iconst hG dX12_generation_39 ⟨by decide, by decide⟩ ?_
      refine s_ialdj (j := 0) hG dX12_generation_40 (sk_K hsk 66 rfl) ⟨by decide, by decide⟩ rfl ?_
      refine s_if_ne hG 51 dX12_generation_41 (by decide) (fun c38 => ?_) (fun c38 => ?_)
      · replace hF := Eq.trans (if_pos c38).symm hF
        refine s_aload_n hG dX12_generation_44 rfl ?_
        refine s_bipush hG dX12_generation_45 bp_m3 ⟨by decide, by decide⟩ ?_
        obtain ⟨o4, ho4, hF⟩ := bd_some hF
        refine s_callV (d' := d - 1) (ci := 12) (args := [.inl (-3)]) hG (by omega) dX12_generation_47 cv_RX12_175 cw_X12_tell rfl rfl (sk_k hsk 64 rfl) (Nat.le_of_ble_eq_true rfl) rfl (t_X12_tell hsk (by omega) ho4) ?_
        cases hF
        exact s_iret hE dX12_generation_50 rfl
      · replace hF := Eq.trans (if_neg c38).symm hF
        refine s_aload_n hG dX12_generation_51 rfl ?_
        refine s_bipush hG dX12_generation_52 bp_16 ⟨by decide, by decide⟩ ?_
        obtain ⟨o5, ho5, hF⟩ := bd_some hF
        refine s_callV (d' := d - 1) (ci := 12) (args := [.inl 16]) hG (by omega) dX12_generation_54 cv_RX12_462 cw_X12_keepRow rfl rfl (sk_k hsk 64 rfl) (Nat.le_of_ble_eq_true rfl) rfl (t_X12_keepRow hsk (by omega) ho5) ?_
        refine s_aload_n hG dX12_generation_57 rfl ?_
        refine s_iload_n hG dX12_generation_58 rfl ?_
        refine s_i2l hG dX12_generation_59 ?_
        refine s_putl hG dX12_generation_60 fl_RX12_611 (fun h => by cases h) (sk_k hsk 64 rfl) rfl ?_
        refine s_iconst hG dX12_generation_63 ⟨by decide, by decide⟩ ?_
        refine s_istore_n hG dX12_generation_64 (by decide) rfl ?_
        refine s_iconst hG dX12_generation_65 ⟨by decide, by decide⟩ ?_
        refine s_istore hG dX12_generation_66 (by decide) rfl ?_
        refine s_iconst hG dX12_generation_68 ⟨by decide, by decide⟩ ?_
        refine s_istore hG dX12_generation_69 (by decide) rfl ?_
        obtain ⟨o24, hlo24, hF⟩ := bd_some hF
        refine m_weak (ls1 := [some (.inr (.inr 64)), none, some (.inl a2), some (.inl 0), some (.inl 1), some (.inl 0), none]) hG ⟨rfl, ⟨rfl, ⟨rfl, ⟨rfl, ⟨rfl, trivial⟩⟩⟩⟩⟩ ?_
        refine t_X12_generation_lp71 hsk hd hG ?_ hlo24
        refine s_aload_n hG dX12_generation_213 rfl ?_
        refine s_aload_n hG dX12_generation_214 rfl ?_
        refine s_getr (r := 66) hG dX12_generation_215 fl_RX12_13 (sk_k hsk 64 rfl) rfl (sk_R hsk 64 3 rfl) ?_
        refine s_iconst hG dX12_generation_218 ⟨by decide, by decide⟩ ?_
        refine s_ialdj (j := 0) hG dX12_generation_219 (sk_K hsk 66 rfl) ⟨by decide, by decide⟩ rfl ?_
        refine s_puti hG dX12_generation_220 fl_RX12_625 (fun h => by cases h) (sk_k hsk 64 rfl) rfl ?_
        refine s_iconst hG dX12_generation_223 ⟨by decide, by decide⟩ ?_
        refine s_istore hG dX12_generation_224 (by decide) rfl ?_
        obtain ⟨o35, hlo35, hF⟩ := bd_some hF
        refine t_X12_generation_lp226 hsk hd hG ?_ hlo35
        refine s_aload_n hG dX12_generation_297 rfl ?_
        refine s_bipush hG dX12_generation_298 bp_16 ⟨by decide, by decide⟩ ?_
        obtain ⟨o36, ho36, hF⟩ := bd_some hF
        refine s_callV (d' := d - 1) (ci := 12) (args := [.inl 16]) hG (by omega) dX12_generation_300 cv_RX12_471 cw_X12_putBack rfl rfl (sk_k hsk 64 rfl) (Nat.le_of_ble_eq_true rfl) rfl (t_X12_putBack hsk (by omega) ho36) ?_
        refine s_aload_n hG dX12_generation_303 rfl ?_
        refine s_iload_n hG dX12_generation_304 rfl ?_
        obtain ⟨o37, ho37, hF⟩ := bd_some hF
        refine s_callV (d' := d - 1) (ci := 12) (args := [.inl o35.2]) hG (by omega) dX12_generation_305 cv_RX12_175 cw_X12_tell rfl rfl (sk_k hsk 64 rfl) (Nat.le_of_ble_eq_true rfl) rfl (t_X12_tell hsk (by omega) ho37) ?_
        cases hF
        exact s_iret hE dX12_generation_308 rfl
-- X12_giveNow
theorem t_X12_giveNow_b20 {d n0 s0 nF sF : Nat} {X : MX} {Ω : Nat → MS → Prop} {N : NN} {a3 : Int} {a4 : Int} (hsk : m_Sk X) (hd : 9 ≤ d) (hG : m_G d yX12_giveNow.cls yX12_giveNow.name cX12_giveNow 6 n0 s0 nF sF Ω) {out : ((NN × Int × Int) ⊕ (NN × Int))} (hK0 : ∀ s' : (NN × Int × Int), out = .inl s' → Ω 20 ([some (.inr (.inr 64)), none, none, some (.inl (s'.2.1)), some (.inl (s'.2.2)), none], [], s'.1, X)) (hK1 : ∀ t : (NN × Int), out = .inr t → Ω 74 ([some (.inr (.inr 64)), none, none, some (.inl t.2), none, none], [], t.1, X)) (hF : b_X12_giveNow_20 X N a3 a4 = some out) : Ω 20 ([some (.inr (.inr 64)), none, none, some (.inl a3), some (.inl a4), none], [], N, X) := by
  unfold b_X12_giveNow_20 at hF
  refine s_iload hG dX12_giveNow_20 rfl ?_
  refine s_sipush hG dX12_giveNow_22 sp_270 ⟨by decide, by decide⟩ ?_
  refine s_icmp_ge hG 74 dX12_giveNow_25 (by decide) (fun c9 => ?_) (fun c9 => ?_)
  · replace hF := Eq.trans (if_pos c9).symm hF
    refine s_aload_n hG dX12_giveNow_28 rfl ?_
    refine s_getr (r := 66) hG dX12_giveNow_29 fl_RX12_13 (sk_k hsk 64 rfl) rfl (sk_R hsk 64 3 rfl) ?_
    refine s_iload hG dX12_giveNow_32 rfl ?_
    obtain ⟨g3, hF⟩ := gd_some hF
    refine s_ialdj (j := a4.toNat) hG dX12_giveNow_34 (sk_K hsk 66 rfl) g3 rfl ?_
    refine s_istore hG dX12_giveNow_35 (by decide) rfl ?_
    refine s_aload_n hG dX12_giveNow_37 rfl ?_
    refine s_getr (r := 66) hG dX12_giveNow_38 fl_RX12_13 (sk_k hsk 64 rfl) rfl (sk_R hsk 64 3 rfl) ?_
    refine s_iload hG dX12_giveNow_41 rfl ?_
    refine s_aload_n hG dX12_giveNow_43 rfl ?_
    refine s_getr (r := 69) hG dX12_giveNow_44 fl_RX12_23 (sk_k hsk 64 rfl) rfl (sk_R hsk 64 6 rfl) ?_
    refine s_sipush hG dX12_giveNow_47 sp_4320 ⟨by decide, by decide⟩ ?_
    refine s_iload hG dX12_giveNow_50 rfl ?_
    refine s_iadd hG dX12_giveNow_52 ?_
    obtain ⟨g4, hF⟩ := gd_some hF
    refine s_ialdj (j := (m_w (4320 + a4)).toNat) hG dX12_giveNow_53 (sk_K hsk 69 rfl) g4 rfl ?_
    obtain ⟨g5, hF⟩ := gd_some hF
    refine s_iastj (j := a4.toNat) hG dX12_giveNow_54 (sk_K hsk 66 rfl) g5 rfl ?_
    refine s_aload_n hG dX12_giveNow_55 rfl ?_
    refine s_getr (r := 69) hG dX12_giveNow_56 fl_RX12_23 (sk_k hsk 64 rfl) rfl (sk_R hsk 64 6 rfl) ?_
    refine s_sipush hG dX12_giveNow_59 sp_4320 ⟨by decide, by decide⟩ ?_
    refine s_iload hG dX12_giveNow_62 rfl ?_
    refine s_iadd hG dX12_giveNow_64 ?_
    refine s_iload hG dX12_giveNow_65 rfl ?_
    obtain ⟨g7, hF⟩ := gd_some hF
    refine s_iastj (j := (m_w (4320 + a4)).toNat) hG dX12_giveNow_67 (sk_K hsk 69 rfl) g7 rfl ?_
    refine s_iinc hG dX12_giveNow_68 (by decide) rfl rfl ?_
    refine s_goto hG 20 dX12_giveNow_71 (by decide) ?_
    cases hF
    refine m_weak (ls1 := [some (.inr (.inr 64)), none, none, some (.inl a3), some (.inl (m_w (a4 + 1))), none]) hG ⟨rfl, ⟨rfl, ⟨rfl, trivial⟩⟩⟩ ?_
    exact hK0 _ rfl
  · replace hF := Eq.trans (if_neg c9).symm hF
    cases hF
    refine m_weak (ls1 := [some (.inr (.inr 64)), none, none, some (.inl a3), none, none]) hG ⟨rfl, ⟨rfl, trivial⟩⟩ ?_
    exact hK1 _ rfl
theorem t_X12_giveNow_lp20 {d n0 s0 nF sF : Nat} {X : MX} {Ω : Nat → MS → Prop} {N : NN} {a3 : Int} {a4 : Int} (hsk : m_Sk X) (hd : 9 ≤ d) (hG : m_G d yX12_giveNow.cls yX12_giveNow.name cX12_giveNow 6 n0 s0 nF sF Ω) {t : (NN × Int)} (hK1 : Ω 74 ([some (.inr (.inr 64)), none, none, some (.inl t.2), none, none], [], t.1, X)) (hl : lp (fun s => b_X12_giveNow_20 X s.1 s.2.1 s.2.2) (N, a3, a4) = some t) : Ω 20 ([some (.inr (.inr 64)), none, none, some (.inl a3), some (.inl a4), none], [], N, X) := by
  refine lp_ok (P := fun s => Ω 20 ([some (.inr (.inr 64)), none, none, some (.inl s.2.1), some (.inl s.2.2), none], [], s.1, X)) (K := fun t => Ω 74 ([some (.inr (.inr 64)), none, none, some (.inl t.2), none, none], [], t.1, X)) (fun s out hF hK0 hK1 => ?_) hl hK1
  exact t_X12_giveNow_b20 hsk hd hG (out := out) (fun s' e => hK0 s' e) (fun t' e => hK1 t' e) hF
theorem t_X12_giveNow_j85 {d n0 s0 nF sF : Nat} {X : MX} {Ω : Nat → MS → Prop} {N : NN} {a3 : Int} (hsk : m_Sk X) (hd : 9 ≤ d) (hG : m_G d yX12_giveNow.cls yX12_giveNow.name cX12_giveNow 6 n0 s0 nF sF Ω) {out : (Int × NN)} (hE : m_Gd d yX12_giveNow cX12_giveNow 6 (some .int) X (some (.inl out.1)) out.2 X Ω) (hF : f_X12_giveNow_j85 X N a3 = some out) : Ω 85 ([none, none, none, some (.inl a3), none, none], [], N, X) := by
  unfold f_X12_giveNow_j85 at hF
  refine s_iload_n hG dX12_giveNow_85 rfl ?_
  cases hF
  exact s_iret hE dX12_giveNow_86 rfl
theorem t_X12_giveNow {d : Nat} {X : MX} {N : NN} {a1 : Int} {a2 : Int} {out : (Int × NN)} (hsk : m_Sk X) (hd : 9 ≤ d) (hF : f_X12_giveNow X N a1 a2 = some out) : m_Call d yX12_giveNow cX12_giveNow 6 (some .int) [(.inr (.inr 64)), (.inl a1), (.inl a2)] N X (some (.inl out.1)) out.2 X := by
  refine m_mk (ls0 := [some (.inr (.inr 64)), some (.inl a1), some (.inl a2), none, none, none]) (by decide) rfl (Nat.le_of_ble_eq_true rfl) (Nat.le_refl _) (Nat.le_refl _) (fun Ω hE => ?_)
  have hG := hE.G
  unfold f_X12_giveNow at hF
  refine s_aload_n hG dX12_giveNow_0 rfl ?_
  refine s_bipush hG dX12_giveNow_1 bp_16 ⟨by decide, by decide⟩ ?_
  obtain ⟨o1, ho1, hF⟩ := bd_some hF
  refine s_callV (d' := d - 1) (ci := 12) (args := [.inl 16]) hG (by omega) dX12_giveNow_3 cv_RX12_462 cw_X12_keepRow rfl rfl (sk_k hsk 64 rfl) (Nat.le_of_ble_eq_true rfl) rfl (t_X12_keepRow hsk (by omega) ho1) ?_
  refine s_aload_n hG dX12_giveNow_6 rfl ?_
  refine s_iload_n hG dX12_giveNow_7 rfl ?_
  refine s_iload_n hG dX12_giveNow_8 rfl ?_
  obtain ⟨o2, ho2, hF⟩ := bd_some hF
  refine s_callV (d' := d - 1) (ci := 12) (args := [.inl a1, .inl a2]) hG (by omega) dX12_giveNow_9 cv_RX12_465 cw_X12_gift rfl rfl (sk_k hsk 64 rfl) (Nat.le_of_ble_eq_true rfl) rfl (t_X12_gift hsk (by omega) ho2) ?_
  refine s_istore_n hG dX12_giveNow_12 (by decide) rfl ?_
  refine s_iload_n hG dX12_giveNow_13 rfl ?_
  refine s_if_lt hG 85 dX12_giveNow_14 (by decide) (fun c13 => ?_) (fun c13 => ?_)
  · replace hF := Eq.trans (if_pos c13).symm hF
    refine m_weak (ls1 := [none, none, none, some (.inl o2.1), none, none]) hG ⟨rfl, trivial⟩ ?_
    exact t_X12_giveNow_j85 hsk hd hG hE hF
  · replace hF := Eq.trans (if_neg c13).symm hF
    refine s_iconst hG dX12_giveNow_17 ⟨by decide, by decide⟩ ?_
    refine s_istore hG dX12_giveNow_18 (by decide) rfl ?_
    obtain ⟨o10, hlo10, hF⟩ := bd_some hF
    refine m_weak (ls1 := [some (.inr (.inr 64)), none, none, some (.inl o2.1), some (.inl 0), none]) hG ⟨rfl, ⟨rfl, ⟨rfl, trivial⟩⟩⟩ ?_
    refine t_X12_giveNow_lp20 hsk hd hG ?_ hlo10
    refine s_aload_n hG dX12_giveNow_74 rfl ?_
    refine s_iconst hG dX12_giveNow_75 ⟨by decide, by decide⟩ ?_
    obtain ⟨o11, ho11, hF⟩ := bd_some hF
    refine s_callV (d' := d - 1) (ci := 12) (args := [.inl 0]) hG (by omega) dX12_giveNow_76 cv_RX12_468 cw_X12_remember rfl rfl (sk_k hsk 64 rfl) (Nat.le_of_ble_eq_true rfl) rfl (t_X12_remember hsk (by omega) ho11) ?_
    refine s_aload_n hG dX12_giveNow_79 rfl ?_
    refine s_bipush hG dX12_giveNow_80 bp_16 ⟨by decide, by decide⟩ ?_
    obtain ⟨o12, ho12, hF⟩ := bd_some hF
    refine s_callV (d' := d - 1) (ci := 12) (args := [.inl 16]) hG (by omega) dX12_giveNow_82 cv_RX12_471 cw_X12_putBack rfl rfl (sk_k hsk 64 rfl) (Nat.le_of_ble_eq_true rfl) rfl (t_X12_putBack hsk (by omega) ho12) ?_
    refine m_weak (ls1 := [none, none, none, some (.inl o10.2), none, none]) hG ⟨rfl, trivial⟩ ?_
    exact t_X12_giveNow_j85 hsk hd hG hE hF
-- X12_give
theorem t_X12_give_j33 {d n0 s0 nF sF : Nat} {X : MX} {Ω : Nat → MS → Prop} {N : NN} {z1 : Int} (hsk : m_Sk X) (hd : 10 ≤ d) (hG : m_G d yX12_give.cls yX12_give.name cX12_give 3 n0 s0 nF sF Ω) {out : (Int × NN)} (hE : m_Gd d yX12_give cX12_give 3 (some .int) X (some (.inl out.1)) out.2 X Ω) (hF : f_X12_give_j33 X N z1 = some out) : Ω 33 ([none, none, none], [(.inl z1), (.inr (.inr 64))], N, X) := by
  unfold f_X12_give_j33 at hF
  obtain ⟨o7, ho7, hF⟩ := bd_some hF
  refine s_callV (d' := d - 1) (ci := 12) (args := [.inl z1]) hG (by omega) dX12_give_33 cv_RX12_175 cw_X12_tell rfl rfl (sk_k hsk 64 rfl) (Nat.le_of_ble_eq_true rfl) rfl (t_X12_tell hsk (by omega) ho7) ?_
  cases hF
  exact s_iret hE dX12_give_36 rfl
theorem t_X12_give_j31 {d n0 s0 nF sF : Nat} {X : MX} {Ω : Nat → MS → Prop} {N : NN} (hsk : m_Sk X) (hd : 10 ≤ d) (hG : m_G d yX12_give.cls yX12_give.name cX12_give 3 n0 s0 nF sF Ω) {out : (Int × NN)} (hE : m_Gd d yX12_give cX12_give 3 (some .int) X (some (.inl out.1)) out.2 X Ω) (hF : f_X12_give_j31 X N = some out) : Ω 31 ([none, none, none], [(.inr (.inr 64))], N, X) := by
  unfold f_X12_give_j31 at hF
  refine s_bipush hG dX12_give_31 bp_m2 ⟨by decide, by decide⟩ ?_
  exact t_X12_give_j33 hsk hd hG hE hF
theorem t_X12_give {d : Nat} {X : MX} {N : NN} {a1 : Int} {a2 : Int} {out : (Int × NN)} (hsk : m_Sk X) (hd : 10 ≤ d) (hF : f_X12_give X N a1 a2 = some out) : m_Call d yX12_give cX12_give 3 (some .int) [(.inr (.inr 64)), (.inl a1), (.inl a2)] N X (some (.inl out.1)) out.2 X := by
  refine m_mk (ls0 := [some (.inr (.inr 64)), some (.inl a1), some (.inl a2)]) (by decide) rfl (Nat.le_of_ble_eq_true rfl) (Nat.le_refl _) (Nat.le_refl _) (fun Ω hE => ?_)
  have hG := hE.G
  unfold f_X12_give at hF
  refine s_aload_n hG dX12_give_0 rfl ?_
  refine s_iconst hG dX12_give_1 ⟨by decide, by decide⟩ ?_
  refine s_puti hG dX12_give_2 fl_RX12_166 (fun h => by cases h) (sk_k hsk 64 rfl) rfl ?_
  refine s_aload_n hG dX12_give_5 rfl ?_
  refine s_aload_n hG dX12_give_6 rfl ?_
  refine s_iload_n hG dX12_give_7 rfl ?_
  obtain ⟨o2, ho2, hF⟩ := bd_some hF
  refine s_callV (d' := d - 1) (ci := 12) (args := [.inl a1]) hG (by omega) dX12_give_8 cv_RX12_225 cw_X12_isGood rfl rfl (sk_k hsk 64 rfl) (Nat.le_of_ble_eq_true rfl) rfl (t_X12_isGood hsk (by omega) ho2) ?_
  refine s_if_eq hG 31 dX12_give_11 (by decide) (fun c6 => ?_) (fun c6 => ?_)
  · replace hF := Eq.trans (if_pos c6).symm hF
    refine m_weak (ls1 := [none, none, none]) hG trivial ?_
    exact t_X12_give_j31 hsk hd hG hE hF
  · replace hF := Eq.trans (if_neg c6).symm hF
    refine s_aload_n hG dX12_give_14 rfl ?_
    refine s_iload_n hG dX12_give_15 rfl ?_
    obtain ⟨o3, ho3, hF⟩ := bd_some hF
    refine s_callV (d' := d - 1) (ci := 12) (args := [.inl a2]) hG (by omega) dX12_give_16 cv_RX12_198 cw_X12_isLord rfl rfl (sk_k hsk 64 rfl) (Nat.le_of_ble_eq_true rfl) rfl (t_X12_isLord hsk (by omega) ho3) ?_
    refine s_if_eq hG 31 dX12_give_19 (by decide) (fun c5 => ?_) (fun c5 => ?_)
    · replace hF := Eq.trans (if_pos c5).symm hF
      refine m_weak (ls1 := [none, none, none]) hG trivial ?_
      exact t_X12_give_j31 hsk hd hG hE hF
    · replace hF := Eq.trans (if_neg c5).symm hF
      refine s_aload_n hG dX12_give_22 rfl ?_
      refine s_iload_n hG dX12_give_23 rfl ?_
      refine s_iload_n hG dX12_give_24 rfl ?_
      obtain ⟨o4, ho4, hF⟩ := bd_some hF
      refine s_callV (d' := d - 1) (ci := 12) (args := [.inl a1, .inl a2]) hG (by omega) dX12_give_25 cv_RX12_477 cw_X12_giveNow rfl rfl (sk_k hsk 64 rfl) (Nat.le_of_ble_eq_true rfl) rfl (t_X12_giveNow hsk (by omega) ho4) ?_
      refine s_goto hG 33 dX12_give_28 (by decide) ?_
      refine m_weak (ls1 := [none, none, none]) hG trivial ?_
      exact t_X12_give_j33 hsk hd hG hE hF
-- X12_good1
theorem t_X12_good1_j24 {d n0 s0 nF sF : Nat} {X : MX} {Ω : Nat → MS → Prop} {N : NN} (hsk : m_Sk X) (hd : 3 ≤ d) (hG : m_G d yX12_good1.cls yX12_good1.name cX12_good1 6 n0 s0 nF sF Ω) {out : (Int × NN)} (hE : m_Gd d yX12_good1 cX12_good1 6 (some .int) X (some (.inl out.1)) out.2 X Ω) (hF : f_X12_good1_j24 X N = some out) : Ω 24 ([none, none, none, none, none, none], [], N, X) := by
  unfold f_X12_good1_j24 at hF
  refine s_iconst hG dX12_good1_24 ⟨by decide, by decide⟩ ?_
  cases hF
  exact s_iret hE dX12_good1_25 rfl
theorem t_X12_good1 {d : Nat} {X : MX} {N : NN} {a1 : Int} {a2 : Int} {a3 : Int} {out : (Int × NN)} (hsk : m_Sk X) (hd : 3 ≤ d) (hF : f_X12_good1 X N a1 a2 a3 = some out) : m_Call d yX12_good1 cX12_good1 6 (some .int) [(.inr (.inr 64)), (.inl a1), (.inl a2), (.inl a3)] N X (some (.inl out.1)) out.2 X := by
  refine m_mk (ls0 := [some (.inr (.inr 64)), some (.inl a1), some (.inl a2), some (.inl a3), none, none]) (by decide) rfl (Nat.le_of_ble_eq_true rfl) (Nat.le_refl _) (Nat.le_refl _) (fun Ω hE => ?_)
  have hG := hE.G
  unfold f_X12_good1 at hF
  refine s_iload_n hG dX12_good1_0 rfl ?_
  refine s_i2l hG dX12_good1_1 ?_
  refine s_lconst (v := 0) hG dX12_good1_2 rfl ⟨by decide, by decide⟩ ?_
  refine s_ldc2 hG dX12_good1_3 kc_RX12_188 ⟨by decide, by decide⟩ ?_
  obtain ⟨o1, ho1, hF⟩ := bd_some hF
  refine s_callS (d' := d - 1) (args := [.inr (.inl a2), .inr (.inl 0), .inr (.inl 99)]) hG (by omega) dX12_good1_6 cs_RX12_179 cw_X12_in rfl (Nat.le_of_ble_eq_true rfl) rfl (t_X12_in hsk (by omega) ho1) ?_
  refine s_if_eq hG 24 dX12_good1_9 (by decide) (fun c20 => ?_) (fun c20 => ?_)
  · replace hF := Eq.trans (if_pos c20).symm hF
    refine m_weak (ls1 := [none, none, none, none, none, none]) hG trivial ?_
    exact t_X12_good1_j24 hsk hd hG hE hF
  · replace hF := Eq.trans (if_neg c20).symm hF
    refine s_iload_n hG dX12_good1_12 rfl ?_
    refine s_i2l hG dX12_good1_13 ?_
    refine s_lconst (v := 0) hG dX12_good1_14 rfl ⟨by decide, by decide⟩ ?_
    refine s_ldc2 hG dX12_good1_15 kc_RX12_220 ⟨by decide, by decide⟩ ?_
    obtain ⟨o2, ho2, hF⟩ := bd_some hF
    refine s_callS (d' := d - 1) (args := [.inr (.inl a3), .inr (.inl 0), .inr (.inl 20)]) hG (by omega) dX12_good1_18 cs_RX12_179 cw_X12_in rfl (Nat.le_of_ble_eq_true rfl) rfl (t_X12_in hsk (by omega) ho2) ?_
    refine s_if_ne hG 26 dX12_good1_21 (by decide) (fun c19 => ?_) (fun c19 => ?_)
    · replace hF := Eq.trans (if_pos c19).symm hF
      refine m_weak (ls1 := [none, none, none, none, none, none]) hG trivial ?_
      exact t_X12_good1_j24 hsk hd hG hE hF
    · replace hF := Eq.trans (if_neg c19).symm hF
      refine s_aload_n hG dX12_good1_26 rfl ?_
      refine s_iload_n hG dX12_good1_27 rfl ?_
      obtain ⟨o3, ho3, hF⟩ := bd_some hF
      refine s_callV (d' := d - 1) (ci := 12) (args := [.inl a1]) hG (by omega) dX12_good1_28 cv_RX12_198 cw_X12_isLord rfl rfl (sk_k hsk 64 rfl) (Nat.le_of_ble_eq_true rfl) rfl (t_X12_isLord hsk (by omega) ho3) ?_
      refine s_if_ne hG 37 dX12_good1_31 (by decide) (fun c18 => ?_) (fun c18 => ?_)
      · replace hF := Eq.trans (if_pos c18).symm hF
        refine s_bipush hG dX12_good1_34 bp_m2 ⟨by decide, by decide⟩ ?_
        cases hF
        exact s_iret hE dX12_good1_36 rfl
      · replace hF := Eq.trans (if_neg c18).symm hF
        refine s_aload_n hG dX12_good1_37 rfl ?_
        refine s_getr (r := 66) hG dX12_good1_38 fl_RX12_13 (sk_k hsk 64 rfl) rfl (sk_R hsk 64 3 rfl) ?_
        refine s_iconst hG dX12_good1_41 ⟨by decide, by decide⟩ ?_
        refine s_ialdj (j := 1) hG dX12_good1_42 (sk_K hsk 66 rfl) ⟨by decide, by decide⟩ rfl ?_
        refine s_istore hG dX12_good1_43 (by decide) rfl ?_
        refine s_iload hG dX12_good1_45 rfl ?_
        refine s_bipush hG dX12_good1_47 bp_16 ⟨by decide, by decide⟩ ?_
        refine s_icmp_ne hG 55 dX12_good1_49 (by decide) (fun c17 => ?_) (fun c17 => ?_)
        · replace hF := Eq.trans (if_pos c17).symm hF
          refine s_bipush hG dX12_good1_52 bp_m5 ⟨by decide, by decide⟩ ?_
          cases hF
          exact s_iret hE dX12_good1_54 rfl
        · replace hF := Eq.trans (if_neg c17).symm hF
          refine s_bipush hG dX12_good1_55 bp_45 ⟨by decide, by decide⟩ ?_
          refine s_bipush hG dX12_good1_57 bp_6 ⟨by decide, by decide⟩ ?_
          refine s_iload hG dX12_good1_59 rfl ?_
          refine s_imul hG dX12_good1_61 ?_
          refine s_iadd hG dX12_good1_62 ?_
          refine s_istore hG dX12_good1_63 (by decide) rfl ?_
          refine s_aload_n hG dX12_good1_65 rfl ?_
          refine s_getr (r := 66) hG dX12_good1_66 fl_RX12_13 (sk_k hsk 64 rfl) rfl (sk_R hsk 64 3 rfl) ?_
          refine s_iload hG dX12_good1_69 rfl ?_
          refine s_iload_n hG dX12_good1_71 rfl ?_
          obtain ⟨g4, hF⟩ := gd_some hF
          refine s_iastj (j := (m_w (45 + (m_w (6 * (N 66 1))))).toNat) hG dX12_good1_72 (sk_K hsk 66 rfl) g4 rfl ?_
          refine s_aload_n hG dX12_good1_73 rfl ?_
          refine s_getr (r := 66) hG dX12_good1_74 fl_RX12_13 (sk_k hsk 64 rfl) rfl (sk_R hsk 64 3 rfl) ?_
          refine s_iload hG dX12_good1_77 rfl ?_
          refine s_iconst hG dX12_good1_79 ⟨by decide, by decide⟩ ?_
          refine s_iadd hG dX12_good1_80 ?_
          refine s_iload_n hG dX12_good1_81 rfl ?_
          obtain ⟨g6, hF⟩ := gd_some hF
          refine s_iastj (j := (m_w ((m_w (45 + (m_w (6 * (N 66 1))))) + 1)).toNat) hG dX12_good1_82 (sk_K hsk 66 rfl) g6 rfl ?_
          refine s_aload_n hG dX12_good1_83 rfl ?_
          refine s_getr (r := 66) hG dX12_good1_84 fl_RX12_13 (sk_k hsk 64 rfl) rfl (sk_R hsk 64 3 rfl) ?_
          refine s_iload hG dX12_good1_87 rfl ?_
          refine s_iconst hG dX12_good1_89 ⟨by decide, by decide⟩ ?_
          refine s_iadd hG dX12_good1_90 ?_
          refine s_iload_n hG dX12_good1_91 rfl ?_
          obtain ⟨g8, hF⟩ := gd_some hF
          refine s_iastj (j := (m_w ((m_w (45 + (m_w (6 * (N 66 1))))) + 2)).toNat) hG dX12_good1_92 (sk_K hsk 66 rfl) g8 rfl ?_
          refine s_aload_n hG dX12_good1_93 rfl ?_
          refine s_getr (r := 66) hG dX12_good1_94 fl_RX12_13 (sk_k hsk 64 rfl) rfl (sk_R hsk 64 3 rfl) ?_
          refine s_iload hG dX12_good1_97 rfl ?_
          refine s_iconst hG dX12_good1_99 ⟨by decide, by decide⟩ ?_
          refine s_iadd hG dX12_good1_100 ?_
          refine s_iload_n hG dX12_good1_101 rfl ?_
          obtain ⟨g10, hF⟩ := gd_some hF
          refine s_iastj (j := (m_w ((m_w (45 + (m_w (6 * (N 66 1))))) + 3)).toNat) hG dX12_good1_102 (sk_K hsk 66 rfl) g10 rfl ?_
          refine s_aload_n hG dX12_good1_103 rfl ?_
          refine s_getr (r := 66) hG dX12_good1_104 fl_RX12_13 (sk_k hsk 64 rfl) rfl (sk_R hsk 64 3 rfl) ?_
          refine s_iload hG dX12_good1_107 rfl ?_
          refine s_iconst hG dX12_good1_109 ⟨by decide, by decide⟩ ?_
          refine s_iadd hG dX12_good1_110 ?_
          refine s_iconst hG dX12_good1_111 ⟨by decide, by decide⟩ ?_
          obtain ⟨g12, hF⟩ := gd_some hF
          refine s_iastj (j := (m_w ((m_w (45 + (m_w (6 * (N 66 1))))) + 4)).toNat) hG dX12_good1_112 (sk_K hsk 66 rfl) g12 rfl ?_
          refine s_aload_n hG dX12_good1_113 rfl ?_
          refine s_getr (r := 66) hG dX12_good1_114 fl_RX12_13 (sk_k hsk 64 rfl) rfl (sk_R hsk 64 3 rfl) ?_
          refine s_iload hG dX12_good1_117 rfl ?_
          refine s_iconst hG dX12_good1_119 ⟨by decide, by decide⟩ ?_
          refine s_iadd hG dX12_good1_120 ?_
          refine s_iconst hG dX12_good1_121 ⟨by decide, by decide⟩ ?_
          obtain ⟨g14, hF⟩ := gd_some hF
          refine s_iastj (j := (m_w ((m_w (45 + (m_w (6 * (N 66 1))))) + 5)).toNat) hG dX12_good1_122 (sk_K hsk 66 rfl) g14 rfl ?_
          refine s_aload_n hG dX12_good1_123 rfl ?_
          refine s_getr (r := 66) hG dX12_good1_124 fl_RX12_13 (sk_k hsk 64 rfl) rfl (sk_R hsk 64 3 rfl) ?_
          refine s_iconst hG dX12_good1_127 ⟨by decide, by decide⟩ ?_
          refine s_dup2 hG dX12_good1_128 rfl rfl ?_
          refine s_ialdj (j := 1) hG dX12_good1_129 (sk_K hsk 66 rfl) ⟨by decide, by decide⟩ rfl ?_
          refine s_iconst hG dX12_good1_130 ⟨by decide, by decide⟩ ?_
          refine s_iadd hG dX12_good1_131 ?_
          refine s_iastj (j := 1) hG dX12_good1_132 (sk_K hsk 66 rfl) ⟨by decide, by decide⟩ rfl ?_
          refine s_iload hG dX12_good1_133 rfl ?_
          cases hF
          exact s_iret hE dX12_good1_135 rfl
-- X12_good
theorem t_X12_good {d : Nat} {X : MX} {N : NN} {a1 : Int} {a2 : Int} {a3 : Int} {out : (Int × NN)} (hsk : m_Sk X) (hd : 4 ≤ d) (hF : f_X12_good X N a1 a2 a3 = some out) : m_Call d yX12_good cX12_good 4 (some .int) [(.inr (.inr 64)), (.inl a1), (.inl a2), (.inl a3)] N X (some (.inl out.1)) out.2 X := by
  refine m_mk (ls0 := [some (.inr (.inr 64)), some (.inl a1), some (.inl a2), some (.inl a3)]) (by decide) rfl (Nat.le_of_ble_eq_true rfl) (Nat.le_refl _) (Nat.le_refl _) (fun Ω hE => ?_)
  have hG := hE.G
  unfold f_X12_good at hF
  refine s_aload_n hG dX12_good_0 rfl ?_
  refine s_iconst hG dX12_good_1 ⟨by decide, by decide⟩ ?_
  refine s_puti hG dX12_good_2 fl_RX12_166 (fun h => by cases h) (sk_k hsk 64 rfl) rfl ?_
  refine s_aload_n hG dX12_good_5 rfl ?_
  refine s_aload_n hG dX12_good_6 rfl ?_
  refine s_iload_n hG dX12_good_7 rfl ?_
  refine s_iload_n hG dX12_good_8 rfl ?_
  refine s_iload_n hG dX12_good_9 rfl ?_
  obtain ⟨o2, ho2, hF⟩ := bd_some hF
  refine s_callV (d' := d - 1) (ci := 12) (args := [.inl a1, .inl a2, .inl a3]) hG (by omega) dX12_good_10 cv_RX12_222 cw_X12_good1 rfl rfl (sk_k hsk 64 rfl) (Nat.le_of_ble_eq_true rfl) rfl (t_X12_good1 hsk (by omega) ho2) ?_
  obtain ⟨o3, ho3, hF⟩ := bd_some hF
  refine s_callV (d' := d - 1) (ci := 12) (args := [.inl o2.1]) hG (by omega) dX12_good_13 cv_RX12_183 cw_X12_settled rfl rfl (sk_k hsk 64 rfl) (Nat.le_of_ble_eq_true rfl) rfl (t_X12_settled hsk (by omega) ho3) ?_
  cases hF
  exact s_iret hE dX12_good_16 rfl
-- X12_herald
theorem t_X12_herald {d : Nat} {X : MX} {N : NN} {a1 : Int} {out : (Int × NN)} (hsk : m_Sk X) (hd : 2 ≤ d) (hF : f_X12_herald X N a1 = some out) : m_Call d yX12_herald cX12_herald 3 (some .int) [(.inr (.inr 64)), (.inl a1)] N X (some (.inl out.1)) out.2 X := by
  refine m_mk (ls0 := [some (.inr (.inr 64)), some (.inl a1), none]) (by decide) rfl (Nat.le_of_ble_eq_true rfl) (Nat.le_refl _) (Nat.le_refl _) (fun Ω hE => ?_)
  have hG := hE.G
  unfold f_X12_herald at hF
  refine s_aload_n hG dX12_herald_0 rfl ?_
  refine s_iconst hG dX12_herald_1 ⟨by decide, by decide⟩ ?_
  refine s_puti hG dX12_herald_2 fl_RX12_166 (fun h => by cases h) (sk_k hsk 64 rfl) rfl ?_
  let N1 : NN := m_up N 64 0 0
  refine s_iload_n hG dX12_herald_5 rfl ?_
  refine s_i2l hG dX12_herald_6 ?_
  refine s_lconst (v := 1) hG dX12_herald_7 rfl ⟨by decide, by decide⟩ ?_
  refine s_ldc2 hG dX12_herald_8 kc_RX12_234 ⟨by decide, by decide⟩ ?_
  obtain ⟨o2, ho2, hF⟩ := bd_some hF
  refine s_callS (d' := d - 1) (args := [.inr (.inl a1), .inr (.inl 1), .inr (.inl 9)]) hG (by omega) dX12_herald_11 cs_RX12_179 cw_X12_in rfl (Nat.le_of_ble_eq_true rfl) rfl (t_X12_in hsk (by omega) ho2) ?_
  refine s_if_ne hG 23 dX12_herald_14 (by decide) (fun c10 => ?_) (fun c10 => ?_)
  · replace hF := Eq.trans (if_pos c10).symm hF
    refine s_aload_n hG dX12_herald_17 rfl ?_
    refine s_iconst hG dX12_herald_18 ⟨by decide, by decide⟩ ?_
    obtain ⟨o3, ho3, hF⟩ := bd_some hF
    refine s_callV (d' := d - 1) (ci := 12) (args := [.inl (-1)]) hG (by omega) dX12_herald_19 cv_RX12_175 cw_X12_tell rfl rfl (sk_k hsk 64 rfl) (Nat.le_of_ble_eq_true rfl) rfl (t_X12_tell hsk (by omega) ho3) ?_
    cases hF
    exact s_iret hE dX12_herald_22 rfl
  · replace hF := Eq.trans (if_neg c10).symm hF
    refine s_aload_n hG dX12_herald_23 rfl ?_
    refine s_getr (r := 66) hG dX12_herald_24 fl_RX12_13 (sk_k hsk 64 rfl) rfl (sk_R hsk 64 3 rfl) ?_
    refine s_iconst hG dX12_herald_27 ⟨by decide, by decide⟩ ?_
    refine s_ialdj (j := 2) hG dX12_herald_28 (sk_K hsk 66 rfl) ⟨by decide, by decide⟩ rfl ?_
    refine s_istore_n hG dX12_herald_29 (by decide) rfl ?_
    refine s_iload_n hG dX12_herald_30 rfl ?_
    refine s_iconst hG dX12_herald_31 ⟨by decide, by decide⟩ ?_
    refine s_icmp_ne hG 42 dX12_herald_32 (by decide) (fun c9 => ?_) (fun c9 => ?_)
    · replace hF := Eq.trans (if_pos c9).symm hF
      refine s_aload_n hG dX12_herald_35 rfl ?_
      refine s_bipush hG dX12_herald_36 bp_m5 ⟨by decide, by decide⟩ ?_
      obtain ⟨o4, ho4, hF⟩ := bd_some hF
      refine s_callV (d' := d - 1) (ci := 12) (args := [.inl (-5)]) hG (by omega) dX12_herald_38 cv_RX12_175 cw_X12_tell rfl rfl (sk_k hsk 64 rfl) (Nat.le_of_ble_eq_true rfl) rfl (t_X12_tell hsk (by omega) ho4) ?_
      cases hF
      exact s_iret hE dX12_herald_41 rfl
    · replace hF := Eq.trans (if_neg c9).symm hF
      refine s_aload_n hG dX12_herald_42 rfl ?_
      refine s_getr (r := 66) hG dX12_herald_43 fl_RX12_13 (sk_k hsk 64 rfl) rfl (sk_R hsk 64 3 rfl) ?_
      refine s_sipush hG dX12_herald_46 sp_213 ⟨by decide, by decide⟩ ?_
      refine s_iload_n hG dX12_herald_49 rfl ?_
      refine s_iadd hG dX12_herald_50 ?_
      refine s_iload_n hG dX12_herald_51 rfl ?_
      obtain ⟨g5, hF⟩ := gd_some hF
      refine s_iastj (j := (m_w (213 + (N1 66 2))).toNat) hG dX12_herald_52 (sk_K hsk 66 rfl) g5 rfl ?_
      refine s_aload_n hG dX12_herald_53 rfl ?_
      refine s_getr (r := 66) hG dX12_herald_54 fl_RX12_13 (sk_k hsk 64 rfl) rfl (sk_R hsk 64 3 rfl) ?_
      refine s_iconst hG dX12_herald_57 ⟨by decide, by decide⟩ ?_
      refine s_dup2 hG dX12_herald_58 rfl rfl ?_
      refine s_ialdj (j := 2) hG dX12_herald_59 (sk_K hsk 66 rfl) ⟨by decide, by decide⟩ rfl ?_
      refine s_iconst hG dX12_herald_60 ⟨by decide, by decide⟩ ?_
      refine s_iadd hG dX12_herald_61 ?_
      refine s_iastj (j := 2) hG dX12_herald_62 (sk_K hsk 66 rfl) ⟨by decide, by decide⟩ rfl ?_
      refine s_aload_n hG dX12_herald_63 rfl ?_
      refine s_iload_n hG dX12_herald_64 rfl ?_
      obtain ⟨o8, ho8, hF⟩ := bd_some hF
      refine s_callV (d' := d - 1) (ci := 12) (args := [.inl (N1 66 2)]) hG (by omega) dX12_herald_65 cv_RX12_175 cw_X12_tell rfl rfl (sk_k hsk 64 rfl) (Nat.le_of_ble_eq_true rfl) rfl (t_X12_tell hsk (by omega) ho8) ?_
      cases hF
      exact s_iret hE dX12_herald_68 rfl
-- X12_image
theorem t_X12_image_b23 {d n0 s0 nF sF : Nat} {X : MX} {Ω : Nat → MS → Prop} {N : NN} {a1 : Int} {a2 : Int} (hsk : m_Sk X) (hd : 2 ≤ d) (hG : m_G d yX12_image.cls yX12_image.name cX12_image 3 n0 s0 nF sF Ω) {out : ((NN × Int × Int) ⊕ (NN × Int))} (hK0 : ∀ s' : (NN × Int × Int), out = .inl s' → Ω 23 ([some (.inr (.inr 64)), some (.inl (s'.2.1)), some (.inl (s'.2.2))], [], s'.1, X)) (hK1 : ∀ t : (NN × Int), out = .inr t → Ω 54 ([some (.inr (.inr 64)), some (.inl t.2), none], [], t.1, X)) (hF : b_X12_image_23 X N a1 a2 = some out) : Ω 23 ([some (.inr (.inr 64)), some (.inl a1), some (.inl a2)], [], N, X) := by
  unfold b_X12_image_23 at hF
  refine s_iload_n hG dX12_image_23 rfl ?_
  refine s_sipush hG dX12_image_24 sp_5670 ⟨by decide, by decide⟩ ?_
  refine s_icmp_ge hG 54 dX12_image_27 (by decide) (fun c7 => ?_) (fun c7 => ?_)
  · replace hF := Eq.trans (if_pos c7).symm hF
    refine s_aload_n hG dX12_image_30 rfl ?_
    refine s_getr (r := 67) hG dX12_image_31 fl_RX12_16 (sk_k hsk 64 rfl) rfl (sk_R hsk 64 4 rfl) ?_
    refine s_sipush hG dX12_image_34 sp_5670 ⟨by decide, by decide⟩ ?_
    refine s_iload_n hG dX12_image_37 rfl ?_
    refine s_imul hG dX12_image_38 ?_
    refine s_iload_n hG dX12_image_39 rfl ?_
    refine s_iadd hG dX12_image_40 ?_
    refine s_aload_n hG dX12_image_41 rfl ?_
    refine s_getr (r := 66) hG dX12_image_42 fl_RX12_13 (sk_k hsk 64 rfl) rfl (sk_R hsk 64 3 rfl) ?_
    refine s_iload_n hG dX12_image_45 rfl ?_
    obtain ⟨g4, hF⟩ := gd_some hF
    refine s_ialdj (j := a2.toNat) hG dX12_image_46 (sk_K hsk 66 rfl) g4 rfl ?_
    obtain ⟨g5, hF⟩ := gd_some hF
    refine s_iastj (j := (m_w ((m_w (5670 * a1)) + a2)).toNat) hG dX12_image_47 (sk_K hsk 67 rfl) g5 rfl ?_
    refine s_iinc hG dX12_image_48 (by decide) rfl rfl ?_
    refine s_goto hG 23 dX12_image_51 (by decide) ?_
    cases hF
    exact hK0 _ rfl
  · replace hF := Eq.trans (if_neg c7).symm hF
    cases hF
    refine m_weak (ls1 := [some (.inr (.inr 64)), some (.inl a1), none]) hG ⟨rfl, ⟨rfl, trivial⟩⟩ ?_
    exact hK1 _ rfl
theorem t_X12_image_lp23 {d n0 s0 nF sF : Nat} {X : MX} {Ω : Nat → MS → Prop} {N : NN} {a1 : Int} {a2 : Int} (hsk : m_Sk X) (hd : 2 ≤ d) (hG : m_G d yX12_image.cls yX12_image.name cX12_image 3 n0 s0 nF sF Ω) {t : (NN × Int)} (hK1 : Ω 54 ([some (.inr (.inr 64)), some (.inl t.2), none], [], t.1, X)) (hl : lp (fun s => b_X12_image_23 X s.1 s.2.1 s.2.2) (N, a1, a2) = some t) : Ω 23 ([some (.inr (.inr 64)), some (.inl a1), some (.inl a2)], [], N, X) := by
  refine lp_ok (P := fun s => Ω 23 ([some (.inr (.inr 64)), some (.inl s.2.1), some (.inl s.2.2)], [], s.1, X)) (K := fun t => Ω 54 ([some (.inr (.inr 64)), some (.inl t.2), none], [], t.1, X)) (fun s out hF hK0 hK1 => ?_) hl hK1
  exact t_X12_image_b23 hsk hd hG (out := out) (fun s' e => hK0 s' e) (fun t' e => hK1 t' e) hF
theorem t_X12_image {d : Nat} {X : MX} {N : NN} {a1 : Int} {out : (Int × NN)} (hsk : m_Sk X) (hd : 2 ≤ d) (hF : f_X12_image X N a1 = some out) : m_Call d yX12_image cX12_image 3 (some .int) [(.inr (.inr 64)), (.inl a1)] N X (some (.inl out.1)) out.2 X := by
  refine m_mk (ls0 := [some (.inr (.inr 64)), some (.inl a1), none]) (by decide) rfl (Nat.le_of_ble_eq_true rfl) (Nat.le_refl _) (Nat.le_refl _) (fun Ω hE => ?_)
  have hG := hE.G
  unfold f_X12_image at hF
  refine s_aload_n hG dX12_image_0 rfl ?_
  refine s_iconst hG dX12_image_1 ⟨by decide, by decide⟩ ?_
  refine s_puti hG dX12_image_2 fl_RX12_166 (fun h => by cases h) (sk_k hsk 64 rfl) rfl ?_
  refine s_iload_n hG dX12_image_5 rfl ?_
  refine s_i2l hG dX12_image_6 ?_
  refine s_lconst (v := 0) hG dX12_image_7 rfl ⟨by decide, by decide⟩ ?_
  refine s_lconst (v := 1) hG dX12_image_8 rfl ⟨by decide, by decide⟩ ?_
  obtain ⟨o2, ho2, hF⟩ := bd_some hF
  refine s_callS (d' := d - 1) (args := [.inr (.inl a1), .inr (.inl 0), .inr (.inl 1)]) hG (by omega) dX12_image_9 cs_RX12_179 cw_X12_in rfl (Nat.le_of_ble_eq_true rfl) rfl (t_X12_in hsk (by omega) ho2) ?_
  refine s_if_ne hG 21 dX12_image_12 (by decide) (fun c12 => ?_) (fun c12 => ?_)
  · replace hF := Eq.trans (if_pos c12).symm hF
    refine s_aload_n hG dX12_image_15 rfl ?_
    refine s_iconst hG dX12_image_16 ⟨by decide, by decide⟩ ?_
    obtain ⟨o3, ho3, hF⟩ := bd_some hF
    refine s_callV (d' := d - 1) (ci := 12) (args := [.inl (-1)]) hG (by omega) dX12_image_17 cv_RX12_175 cw_X12_tell rfl rfl (sk_k hsk 64 rfl) (Nat.le_of_ble_eq_true rfl) rfl (t_X12_tell hsk (by omega) ho3) ?_
    cases hF
    exact s_iret hE dX12_image_20 rfl
  · replace hF := Eq.trans (if_neg c12).symm hF
    refine s_iconst hG dX12_image_21 ⟨by decide, by decide⟩ ?_
    refine s_istore_n hG dX12_image_22 (by decide) rfl ?_
    obtain ⟨o8, hlo8, hF⟩ := bd_some hF
    refine t_X12_image_lp23 hsk hd hG ?_ hlo8
    refine s_aload_n hG dX12_image_54 rfl ?_
    refine s_getr (r := 68) hG dX12_image_55 fl_RX12_19 (sk_k hsk 64 rfl) rfl (sk_R hsk 64 5 rfl) ?_
    refine s_iload_n hG dX12_image_58 rfl ?_
    refine s_iconst hG dX12_image_59 ⟨by decide, by decide⟩ ?_
    obtain ⟨g9, hF⟩ := gd_some hF
    refine s_zastj (j := o8.2.toNat) hG dX12_image_60 (sk_K hsk 68 rfl) g9 rfl ⟨by decide, by decide⟩ ?_
    refine s_aload_n hG dX12_image_61 rfl ?_
    refine s_iconst hG dX12_image_62 ⟨by decide, by decide⟩ ?_
    obtain ⟨o11, ho11, hF⟩ := bd_some hF
    refine s_callV (d' := d - 1) (ci := 12) (args := [.inl 0]) hG (by omega) dX12_image_63 cv_RX12_175 cw_X12_tell rfl rfl (sk_k hsk 64 rfl) (Nat.le_of_ble_eq_true rfl) rfl (t_X12_tell hsk (by omega) ho11) ?_
    cases hF
    exact s_iret hE dX12_image_66 rfl
-- X12_leaf
theorem t_X12_leaf_j19 {d n0 s0 nF sF : Nat} {X : MX} {Ω : Nat → MS → Prop} {N : NN} {a2 : Int} {a3 : Int} {z1 : Int} (hsk : m_Sk X) (hd : 4 ≤ d) (hG : m_G d yX12_leaf.cls yX12_leaf.name cX12_leaf 4 n0 s0 nF sF Ω) {out : NN} (hE : m_Gd d yX12_leaf cX12_leaf 4 none X none out X Ω) (hF : f_X12_leaf_j19 X N a2 a3 z1 = some out) : Ω 19 ([some (.inr (.inr 64)), none, some (.inl a2), some (.inl a3)], [(.inl z1), (.inr (.inr 64))], N, X) := by
  unfold f_X12_leaf_j19 at hF
  obtain ⟨o3, ho3, hF⟩ := bd_some hF
  refine s_callV (d' := d - 1) (ci := 12) (args := [.inl z1]) hG (by omega) dX12_leaf_19 cv_RX12_284 cw_X12_must rfl rfl (sk_k hsk 64 rfl) (Nat.le_of_ble_eq_true rfl) rfl (t_X12_must hsk (by omega) ho3) ?_
  refine s_aload_n hG dX12_leaf_22 rfl ?_
  refine s_getz hG dX12_leaf_23 fl_RX12_249 (sk_k hsk 64 rfl) rfl ?_
  refine s_if_ne hG 45 dX12_leaf_26 (by decide) (fun c6 => ?_) (fun c6 => ?_)
  · replace hF := Eq.trans (if_pos c6).symm hF
    refine s_aload_n hG dX12_leaf_29 rfl ?_
    refine s_iload_n hG dX12_leaf_30 rfl ?_
    refine s_iload_n hG dX12_leaf_31 rfl ?_
    obtain ⟨o4, ho4, hF⟩ := bd_some hF
    refine s_callV (d' := d - 1) (ci := 12) (args := [.inl a2, .inl a3]) hG (by omega) dX12_leaf_32 cv_RX12_297 cw_X12_emit rfl rfl (sk_k hsk 64 rfl) (Nat.le_of_ble_eq_true rfl) rfl (t_X12_emit hsk (by omega) ho4) ?_
    refine s_aload_n hG dX12_leaf_35 rfl ?_
    refine s_dup hG dX12_leaf_36 rfl ?_
    refine s_geti hG dX12_leaf_37 fl_RX12_317 (sk_k hsk 64 rfl) rfl ?_
    refine s_iconst hG dX12_leaf_40 ⟨by decide, by decide⟩ ?_
    refine s_iadd hG dX12_leaf_41 ?_
    refine s_puti hG dX12_leaf_42 fl_RX12_317 (fun h => by cases h) (sk_k hsk 64 rfl) rfl ?_
    cases hF
    exact s_vret hE dX12_leaf_45 rfl
  · replace hF := Eq.trans (if_neg c6).symm hF
    cases hF
    exact s_vret hE dX12_leaf_45 rfl
theorem t_X12_leaf_j18 {d n0 s0 nF sF : Nat} {X : MX} {Ω : Nat → MS → Prop} {N : NN} {a2 : Int} {a3 : Int} (hsk : m_Sk X) (hd : 4 ≤ d) (hG : m_G d yX12_leaf.cls yX12_leaf.name cX12_leaf 4 n0 s0 nF sF Ω) {out : NN} (hE : m_Gd d yX12_leaf cX12_leaf 4 none X none out X Ω) (hF : f_X12_leaf_j18 X N a2 a3 = some out) : Ω 18 ([some (.inr (.inr 64)), none, some (.inl a2), some (.inl a3)], [(.inr (.inr 64))], N, X) := by
  unfold f_X12_leaf_j18 at hF
  refine s_iconst hG dX12_leaf_18 ⟨by decide, by decide⟩ ?_
  exact t_X12_leaf_j19 hsk hd hG hE hF
theorem t_X12_leaf {d : Nat} {X : MX} {N : NN} {a1 : Int} {a2 : Int} {a3 : Int} {out : NN} (hsk : m_Sk X) (hd : 4 ≤ d) (hF : f_X12_leaf X N a1 a2 a3 = some out) : m_Call d yX12_leaf cX12_leaf 4 none [(.inr (.inr 64)), (.inl a1), (.inl a2), (.inl a3)] N X none out X := by
  refine m_mk (ls0 := [some (.inr (.inr 64)), some (.inl a1), some (.inl a2), some (.inl a3)]) (by decide) rfl (Nat.le_of_ble_eq_true rfl) (Nat.le_refl _) (Nat.le_refl _) (fun Ω hE => ?_)
  have hG := hE.G
  unfold f_X12_leaf at hF
  refine s_aload_n hG dX12_leaf_0 rfl ?_
  refine s_iload_n hG dX12_leaf_1 rfl ?_
  refine s_if_eq hG 18 dX12_leaf_2 (by decide) (fun c2 => ?_) (fun c2 => ?_)
  · replace hF := Eq.trans (if_pos c2).symm hF
    refine m_weak (ls1 := [some (.inr (.inr 64)), none, some (.inl a2), some (.inl a3)]) hG ⟨rfl, ⟨rfl, ⟨rfl, trivial⟩⟩⟩ ?_
    exact t_X12_leaf_j18 hsk hd hG hE hF
  · replace hF := Eq.trans (if_neg c2).symm hF
    refine s_aload_n hG dX12_leaf_5 rfl ?_
    refine s_geti hG dX12_leaf_6 fl_RX12_317 (sk_k hsk 64 rfl) rfl ?_
    refine s_bipush hG dX12_leaf_9 bp_50 ⟨by decide, by decide⟩ ?_
    refine s_icmp_ge hG 18 dX12_leaf_11 (by decide) (fun c1 => ?_) (fun c1 => ?_)
    · replace hF := Eq.trans (if_pos c1).symm hF
      refine s_iconst hG dX12_leaf_14 ⟨by decide, by decide⟩ ?_
      refine s_goto hG 19 dX12_leaf_15 (by decide) ?_
      refine m_weak (ls1 := [some (.inr (.inr 64)), none, some (.inl a2), some (.inl a3)]) hG ⟨rfl, ⟨rfl, ⟨rfl, trivial⟩⟩⟩ ?_
      exact t_X12_leaf_j19 hsk hd hG hE hF
    · replace hF := Eq.trans (if_neg c1).symm hF
      refine m_weak (ls1 := [some (.inr (.inr 64)), none, some (.inl a2), some (.inl a3)]) hG ⟨rfl, ⟨rfl, ⟨rfl, trivial⟩⟩⟩ ?_
      exact t_X12_leaf_j18 hsk hd hG hE hF
-- X12_number
theorem t_X12_number_j33 {d n0 s0 nF sF : Nat} {X : MX} {Ω : Nat → MS → Prop} {N : NN} {a5 : Int} {z1 : Int} (hsk : m_Sk X) (hd : 4 ≤ d) (hG : m_G d yX12_number.cls yX12_number.name cX12_number 6 n0 s0 nF sF Ω) {out : (Int × NN)} (hE : m_Gd d yX12_number cX12_number 6 (some .int) X (some (.inl out.1)) out.2 X Ω) (hF : f_X12_number_j33 X N a5 z1 = some out) : Ω 33 ([none, none, none, none, none, some (.inl a5)], [(.inl z1), (.inr (.inr 64))], N, X) := by
  unfold f_X12_number_j33 at hF
  obtain ⟨o4, ho4, hF⟩ := bd_some hF
  refine s_callV (d' := d - 1) (ci := 12) (args := [.inl z1]) hG (by omega) dX12_number_33 cv_RX12_284 cw_X12_must rfl rfl (sk_k hsk 64 rfl) (Nat.le_of_ble_eq_true rfl) rfl (t_X12_must hsk (by omega) ho4) ?_
  refine s_iload hG dX12_number_36 rfl ?_
  cases hF
  exact s_iret hE dX12_number_38 rfl
theorem t_X12_number_j32 {d n0 s0 nF sF : Nat} {X : MX} {Ω : Nat → MS → Prop} {N : NN} {a5 : Int} (hsk : m_Sk X) (hd : 4 ≤ d) (hG : m_G d yX12_number.cls yX12_number.name cX12_number 6 n0 s0 nF sF Ω) {out : (Int × NN)} (hE : m_Gd d yX12_number cX12_number 6 (some .int) X (some (.inl out.1)) out.2 X Ω) (hF : f_X12_number_j32 X N a5 = some out) : Ω 32 ([none, none, none, none, none, some (.inl a5)], [(.inr (.inr 64))], N, X) := by
  unfold f_X12_number_j32 at hF
  refine s_iconst hG dX12_number_32 ⟨by decide, by decide⟩ ?_
  exact t_X12_number_j33 hsk hd hG hE hF
theorem t_X12_number {d : Nat} {X : MX} {N : NN} {a1 : Int} {a3 : Int} {out : (Int × NN)} (hsk : m_Sk X) (hd : 4 ≤ d) (hF : f_X12_number X N a1 a3 = some out) : m_Call d yX12_number cX12_number 6 (some .int) [(.inr (.inr 64)), (.inr (.inl a1)), (.inr (.inl a3))] N X (some (.inl out.1)) out.2 X := by
  refine m_mk (ls0 := [some (.inr (.inr 64)), some (.inr (.inl a1)), none, some (.inr (.inl a3)), none, none]) (by decide) rfl (Nat.le_of_ble_eq_true rfl) (Nat.le_refl _) (Nat.le_refl _) (fun Ω hE => ?_)
  have hG := hE.G
  unfold f_X12_number at hF
  refine s_aload_n hG dX12_number_0 rfl ?_
  refine s_getl hG dX12_number_1 fl_RX12_259 (sk_k hsk 64 rfl) rfl ?_
  refine s_l2i hG dX12_number_4 ?_
  refine s_istore hG dX12_number_5 (by decide) rfl ?_
  refine s_aload_n hG dX12_number_7 rfl ?_
  refine s_aload_n hG dX12_number_8 rfl ?_
  refine s_geti hG dX12_number_9 fl_RX12_269 (sk_k hsk 64 rfl) rfl ?_
  refine s_iconst hG dX12_number_12 ⟨by decide, by decide⟩ ?_
  refine s_icmp_ne hG 32 dX12_number_13 (by decide) (fun c3 => ?_) (fun c3 => ?_)
  · replace hF := Eq.trans (if_pos c3).symm hF
    refine s_aload_n hG dX12_number_16 rfl ?_
    refine s_getl hG dX12_number_17 fl_RX12_259 (sk_k hsk 64 rfl) rfl ?_
    refine s_lload_n hG dX12_number_20 rfl ?_
    refine s_lload_n hG dX12_number_21 rfl ?_
    obtain ⟨o1, ho1, hF⟩ := bd_some hF
    refine s_callS (d' := d - 1) (args := [.inr (.inl (N 64 17)), .inr (.inl a1), .inr (.inl a3)]) hG (by omega) dX12_number_22 cs_RX12_179 cw_X12_in rfl (Nat.le_of_ble_eq_true rfl) rfl (t_X12_in hsk (by omega) ho1) ?_
    refine s_if_eq hG 32 dX12_number_25 (by decide) (fun c2 => ?_) (fun c2 => ?_)
    · replace hF := Eq.trans (if_pos c2).symm hF
      refine m_weak (ls1 := [none, none, none, none, none, some (.inl (m_w (N 64 17)))]) hG ⟨rfl, trivial⟩ ?_
      exact t_X12_number_j32 hsk hd hG hE hF
    · replace hF := Eq.trans (if_neg c2).symm hF
      refine s_iconst hG dX12_number_28 ⟨by decide, by decide⟩ ?_
      refine s_goto hG 33 dX12_number_29 (by decide) ?_
      refine m_weak (ls1 := [none, none, none, none, none, some (.inl (m_w (N 64 17)))]) hG ⟨rfl, trivial⟩ ?_
      exact t_X12_number_j33 hsk hd hG hE hF
  · replace hF := Eq.trans (if_neg c3).symm hF
    refine m_weak (ls1 := [none, none, none, none, none, some (.inl (m_w (N 64 17)))]) hG ⟨rfl, trivial⟩ ?_
    exact t_X12_number_j32 hsk hd hG hE hF
-- X12_openBracket
theorem t_X12_openBracket_j15 {d n0 s0 nF sF : Nat} {X : MX} {Ω : Nat → MS → Prop} {N : NN} {a1 : Int} {z1 : Int} (hsk : m_Sk X) (hd : 4 ≤ d) (hG : m_G d yX12_openBracket.cls yX12_openBracket.name cX12_openBracket 2 n0 s0 nF sF Ω) {out : NN} (hE : m_Gd d yX12_openBracket cX12_openBracket 2 none X none out X Ω) (hF : f_X12_openBracket_j15 X N a1 z1 = some out) : Ω 15 ([some (.inr (.inr 64)), some (.inl a1)], [(.inl z1), (.inr (.inr 64))], N, X) := by
  unfold f_X12_openBracket_j15 at hF
  obtain ⟨o2, ho2, hF⟩ := bd_some hF
  refine s_callV (d' := d - 1) (ci := 12) (args := [.inl z1]) hG (by omega) dX12_openBracket_15 cv_RX12_284 cw_X12_must rfl rfl (sk_k hsk 64 rfl) (Nat.le_of_ble_eq_true rfl) rfl (t_X12_must hsk (by omega) ho2) ?_
  refine s_aload_n hG dX12_openBracket_18 rfl ?_
  refine s_getz hG dX12_openBracket_19 fl_RX12_249 (sk_k hsk 64 rfl) rfl ?_
  refine s_if_ne hG 41 dX12_openBracket_22 (by decide) (fun c5 => ?_) (fun c5 => ?_)
  · replace hF := Eq.trans (if_pos c5).symm hF
    refine s_aload_n hG dX12_openBracket_25 rfl ?_
    refine s_dup hG dX12_openBracket_26 rfl ?_
    refine s_geti hG dX12_openBracket_27 fl_RX12_311 (sk_k hsk 64 rfl) rfl ?_
    refine s_iconst hG dX12_openBracket_30 ⟨by decide, by decide⟩ ?_
    refine s_iadd hG dX12_openBracket_31 ?_
    refine s_puti hG dX12_openBracket_32 fl_RX12_311 (fun h => by cases h) (sk_k hsk 64 rfl) rfl ?_
    refine s_aload_n hG dX12_openBracket_35 rfl ?_
    refine s_iload_n hG dX12_openBracket_36 rfl ?_
    refine s_iconst hG dX12_openBracket_37 ⟨by decide, by decide⟩ ?_
    obtain ⟨o4, ho4, hF⟩ := bd_some hF
    refine s_callV (d' := d - 1) (ci := 12) (args := [.inl a1, .inl 0]) hG (by omega) dX12_openBracket_38 cv_RX12_314 cw_X12_push rfl rfl (sk_k hsk 64 rfl) (Nat.le_of_ble_eq_true rfl) rfl (t_X12_push hsk (by omega) ho4) ?_
    cases hF
    exact s_vret hE dX12_openBracket_41 rfl
  · replace hF := Eq.trans (if_neg c5).symm hF
    cases hF
    exact s_vret hE dX12_openBracket_41 rfl
theorem t_X12_openBracket {d : Nat} {X : MX} {N : NN} {a1 : Int} {out : NN} (hsk : m_Sk X) (hd : 4 ≤ d) (hF : f_X12_openBracket X N a1 = some out) : m_Call d yX12_openBracket cX12_openBracket 2 none [(.inr (.inr 64)), (.inl a1)] N X none out X := by
  refine m_mk (ls0 := [some (.inr (.inr 64)), some (.inl a1)]) (by decide) rfl (Nat.le_of_ble_eq_true rfl) (Nat.le_refl _) (Nat.le_refl _) (fun Ω hE => ?_)
  have hG := hE.G
  unfold f_X12_openBracket at hF
  refine s_aload_n hG dX12_openBracket_0 rfl ?_
  refine s_aload_n hG dX12_openBracket_1 rfl ?_
  refine s_geti hG dX12_openBracket_2 fl_RX12_311 (sk_k hsk 64 rfl) rfl ?_
  refine s_bipush hG dX12_openBracket_5 bp_8 ⟨by decide, by decide⟩ ?_
  refine s_icmp_ge hG 14 dX12_openBracket_7 (by decide) (fun c1 => ?_) (fun c1 => ?_)
  · replace hF := Eq.trans (if_pos c1).symm hF
    refine s_iconst hG dX12_openBracket_10 ⟨by decide, by decide⟩ ?_
    refine s_goto hG 15 dX12_openBracket_11 (by decide) ?_
    exact t_X12_openBracket_j15 hsk hd hG hE hF
  · replace hF := Eq.trans (if_neg c1).symm hF
    refine s_iconst hG dX12_openBracket_14 ⟨by decide, by decide⟩ ?_
    exact t_X12_openBracket_j15 hsk hd hG hE hF
-- X12_orderPartAt
theorem t_X12_orderPartAt_l4_j30 {d n0 s0 nF sF : Nat} {X : MX} {N : NN} {Ω : Nat → MS → Prop} {a2 : Int} {z0 : Int} (hsk : m_Sk X) (hd : 2 ≤ d) (hG : m_G d yX12_orderPartAt.cls yX12_orderPartAt.name cX12_orderPartAt 3 n0 s0 nF sF Ω) {out : ((Int × Int) ⊕ Int)} (hK0 : ∀ s' : (Int × Int), out = .inl s' → Ω 4 ([some (.inr (.inr 64)), some (.inl (s'.1)), some (.inl (s'.2))], [], N, X)) (hK1 : ∀ t : Int, out = .inr t → Ω 37 ([none, some (.inl t), none], [], N, X)) (hF : f_X12_orderPartAt_l4_j30 X N a2 z0 = some out) : Ω 30 ([some (.inr (.inr 64)), none, some (.inl a2)], [(.inl z0)], N, X) := by
  unfold f_X12_orderPartAt_l4_j30 at hF
  refine s_istore_n hG dX12_orderPartAt_30 (by decide) rfl ?_
  refine s_iinc hG dX12_orderPartAt_31 (by decide) rfl rfl ?_
  refine s_goto hG 4 dX12_orderPartAt_34 (by decide) ?_
  cases hF
  exact hK0 _ rfl
theorem t_X12_orderPartAt_b4 {d n0 s0 nF sF : Nat} {X : MX} {N : NN} {Ω : Nat → MS → Prop} {a1 : Int} {a2 : Int} (hsk : m_Sk X) (hd : 2 ≤ d) (hG : m_G d yX12_orderPartAt.cls yX12_orderPartAt.name cX12_orderPartAt 3 n0 s0 nF sF Ω) {out : ((Int × Int) ⊕ Int)} (hK0 : ∀ s' : (Int × Int), out = .inl s' → Ω 4 ([some (.inr (.inr 64)), some (.inl (s'.1)), some (.inl (s'.2))], [], N, X)) (hK1 : ∀ t : Int, out = .inr t → Ω 37 ([none, some (.inl t), none], [], N, X)) (hF : b_X12_orderPartAt_4 X N a1 a2 = some out) : Ω 4 ([some (.inr (.inr 64)), some (.inl a1), some (.inl a2)], [], N, X) := by
  unfold b_X12_orderPartAt_4 at hF
  refine s_iload_n hG dX12_orderPartAt_4 rfl ?_
  refine s_bipush hG dX12_orderPartAt_5 bp_7 ⟨by decide, by decide⟩ ?_
  refine s_icmp_ge hG 37 dX12_orderPartAt_7 (by decide) (fun c4 => ?_) (fun c4 => ?_)
  · replace hF := Eq.trans (if_pos c4).symm hF
    refine s_aload_n hG dX12_orderPartAt_10 rfl ?_
    refine s_aload_n hG dX12_orderPartAt_11 rfl ?_
    refine s_getr (r := 80) hG dX12_orderPartAt_12 fl_RX12_91 (sk_k hsk 64 rfl) rfl (sk_R hsk 64 32 rfl) ?_
    refine s_iload_n hG dX12_orderPartAt_15 rfl ?_
    obtain ⟨g1, hF⟩ := gd_some hF
    refine s_laldj (j := a2.toNat) hG dX12_orderPartAt_16 (sk_K hsk 80 rfl) g1 rfl ?_
    obtain ⟨o2, ho2, hF⟩ := bd_some hF
    refine s_callV (d' := d - 1) (ci := 12) (args := [.inr (.inl (N 80 a2.toNat))]) hG (by omega) dX12_orderPartAt_17 cv_RX12_307 cw_X12_isWord rfl rfl (sk_k hsk 64 rfl) (Nat.le_of_ble_eq_true rfl) rfl (t_X12_isWord hsk (by omega) ho2) ?_
    refine s_if_eq hG 29 dX12_orderPartAt_20 (by decide) (fun c3 => ?_) (fun c3 => ?_)
    · replace hF := Eq.trans (if_pos c3).symm hF
      refine s_iload_n hG dX12_orderPartAt_29 rfl ?_
      refine m_weak (ls1 := [some (.inr (.inr 64)), none, some (.inl a2)]) hG ⟨rfl, ⟨rfl, trivial⟩⟩ ?_
      exact t_X12_orderPartAt_l4_j30 hsk hd hG hK0 hK1 hF
    · replace hF := Eq.trans (if_neg c3).symm hF
      refine s_iload_n hG dX12_orderPartAt_23 rfl ?_
      refine s_iconst hG dX12_orderPartAt_24 ⟨by decide, by decide⟩ ?_
      refine s_iadd hG dX12_orderPartAt_25 ?_
      refine s_goto hG 30 dX12_orderPartAt_26 (by decide) ?_
      refine m_weak (ls1 := [some (.inr (.inr 64)), none, some (.inl a2)]) hG ⟨rfl, ⟨rfl, trivial⟩⟩ ?_
      exact t_X12_orderPartAt_l4_j30 hsk hd hG hK0 hK1 hF
  · replace hF := Eq.trans (if_neg c4).symm hF
    cases hF
    refine m_weak (ls1 := [none, some (.inl a1), none]) hG ⟨rfl, trivial⟩ ?_
    exact hK1 _ rfl
theorem t_X12_orderPartAt_lp4 {d n0 s0 nF sF : Nat} {X : MX} {N : NN} {Ω : Nat → MS → Prop} {a1 : Int} {a2 : Int} (hsk : m_Sk X) (hd : 2 ≤ d) (hG : m_G d yX12_orderPartAt.cls yX12_orderPartAt.name cX12_orderPartAt 3 n0 s0 nF sF Ω) {t : Int} (hK1 : Ω 37 ([none, some (.inl t), none], [], N, X)) (hl : lp (fun s => b_X12_orderPartAt_4 X N s.1 s.2) (a1, a2) = some t) : Ω 4 ([some (.inr (.inr 64)), some (.inl a1), some (.inl a2)], [], N, X) := by
  refine lp_ok (P := fun s => Ω 4 ([some (.inr (.inr 64)), some (.inl s.1), some (.inl s.2)], [], N, X)) (K := fun t => Ω 37 ([none, some (.inl t), none], [], N, X)) (fun s out hF hK0 hK1 => ?_) hl hK1
  exact t_X12_orderPartAt_b4 hsk hd hG (out := out) (fun s' e => hK0 s' e) (fun t' e => hK1 t' e) hF
theorem t_X12_orderPartAt {d : Nat} {X : MX} {N : NN} {out : Int} (hsk : m_Sk X) (hd : 2 ≤ d) (hF : f_X12_orderPartAt X N = some out) : m_Call d yX12_orderPartAt cX12_orderPartAt 3 (some .int) [(.inr (.inr 64))] N X (some (.inl out)) N X := by
  refine m_mk (ls0 := [some (.inr (.inr 64)), none, none]) (by decide) rfl (Nat.le_of_ble_eq_true rfl) (Nat.le_refl _) (Nat.le_refl _) (fun Ω hE => ?_)
  have hG := hE.G
  unfold f_X12_orderPartAt at hF
  refine s_iconst hG dX12_orderPartAt_0 ⟨by decide, by decide⟩ ?_
  refine s_istore_n hG dX12_orderPartAt_1 (by decide) rfl ?_
  refine s_iconst hG dX12_orderPartAt_2 ⟨by decide, by decide⟩ ?_
  refine s_istore_n hG dX12_orderPartAt_3 (by decide) rfl ?_
  obtain ⟨o5, hlo5, hF⟩ := bd_some hF
  refine t_X12_orderPartAt_lp4 hsk hd hG ?_ hlo5
  refine s_iload_n hG dX12_orderPartAt_37 rfl ?_
  cases hF
  exact s_iret hE dX12_orderPartAt_38 rfl
-- X12_partAt
theorem t_X12_partAt_l4_j30 {d n0 s0 nF sF : Nat} {X : MX} {N : NN} {Ω : Nat → MS → Prop} {a2 : Int} {z0 : Int} (hsk : m_Sk X) (hd : 2 ≤ d) (hG : m_G d yX12_partAt.cls yX12_partAt.name cX12_partAt 3 n0 s0 nF sF Ω) {out : ((Int × Int) ⊕ Int)} (hK0 : ∀ s' : (Int × Int), out = .inl s' → Ω 4 ([some (.inr (.inr 64)), some (.inl (s'.1)), some (.inl (s'.2))], [], N, X)) (hK1 : ∀ t : Int, out = .inr t → Ω 37 ([none, some (.inl t), none], [], N, X)) (hF : f_X12_partAt_l4_j30 X N a2 z0 = some out) : Ω 30 ([some (.inr (.inr 64)), none, some (.inl a2)], [(.inl z0)], N, X) := by
  unfold f_X12_partAt_l4_j30 at hF
  refine s_istore_n hG dX12_partAt_30 (by decide) rfl ?_
  refine s_iinc hG dX12_partAt_31 (by decide) rfl rfl ?_
  refine s_goto hG 4 dX12_partAt_34 (by decide) ?_
  cases hF
  exact hK0 _ rfl
theorem t_X12_partAt_b4 {d n0 s0 nF sF : Nat} {X : MX} {N : NN} {Ω : Nat → MS → Prop} {a1 : Int} {a2 : Int} (hsk : m_Sk X) (hd : 2 ≤ d) (hG : m_G d yX12_partAt.cls yX12_partAt.name cX12_partAt 3 n0 s0 nF sF Ω) {out : ((Int × Int) ⊕ Int)} (hK0 : ∀ s' : (Int × Int), out = .inl s' → Ω 4 ([some (.inr (.inr 64)), some (.inl (s'.1)), some (.inl (s'.2))], [], N, X)) (hK1 : ∀ t : Int, out = .inr t → Ω 37 ([none, some (.inl t), none], [], N, X)) (hF : b_X12_partAt_4 X N a1 a2 = some out) : Ω 4 ([some (.inr (.inr 64)), some (.inl a1), some (.inl a2)], [], N, X) := by
  unfold b_X12_partAt_4 at hF
  refine s_iload_n hG dX12_partAt_4 rfl ?_
  refine s_bipush hG dX12_partAt_5 bp_9 ⟨by decide, by decide⟩ ?_
  refine s_icmp_ge hG 37 dX12_partAt_7 (by decide) (fun c4 => ?_) (fun c4 => ?_)
  · replace hF := Eq.trans (if_pos c4).symm hF
    refine s_aload_n hG dX12_partAt_10 rfl ?_
    refine s_aload_n hG dX12_partAt_11 rfl ?_
    refine s_getr (r := 79) hG dX12_partAt_12 fl_RX12_75 (sk_k hsk 64 rfl) rfl (sk_R hsk 64 31 rfl) ?_
    refine s_iload_n hG dX12_partAt_15 rfl ?_
    obtain ⟨g1, hF⟩ := gd_some hF
    refine s_laldj (j := a2.toNat) hG dX12_partAt_16 (sk_K hsk 79 rfl) g1 rfl ?_
    obtain ⟨o2, ho2, hF⟩ := bd_some hF
    refine s_callV (d' := d - 1) (ci := 12) (args := [.inr (.inl (N 79 a2.toNat))]) hG (by omega) dX12_partAt_17 cv_RX12_307 cw_X12_isWord rfl rfl (sk_k hsk 64 rfl) (Nat.le_of_ble_eq_true rfl) rfl (t_X12_isWord hsk (by omega) ho2) ?_
    refine s_if_eq hG 29 dX12_partAt_20 (by decide) (fun c3 => ?_) (fun c3 => ?_)
    · replace hF := Eq.trans (if_pos c3).symm hF
      refine s_iload_n hG dX12_partAt_29 rfl ?_
      refine m_weak (ls1 := [some (.inr (.inr 64)), none, some (.inl a2)]) hG ⟨rfl, ⟨rfl, trivial⟩⟩ ?_
      exact t_X12_partAt_l4_j30 hsk hd hG hK0 hK1 hF
    · replace hF := Eq.trans (if_neg c3).symm hF
      refine s_iload_n hG dX12_partAt_23 rfl ?_
      refine s_iconst hG dX12_partAt_24 ⟨by decide, by decide⟩ ?_
      refine s_iadd hG dX12_partAt_25 ?_
      refine s_goto hG 30 dX12_partAt_26 (by decide) ?_
      refine m_weak (ls1 := [some (.inr (.inr 64)), none, some (.inl a2)]) hG ⟨rfl, ⟨rfl, trivial⟩⟩ ?_
      exact t_X12_partAt_l4_j30 hsk hd hG hK0 hK1 hF
  · replace hF := Eq.trans (if_neg c4).symm hF
    cases hF
    refine m_weak (ls1 := [none, some (.inl a1), none]) hG ⟨rfl, trivial⟩ ?_
    exact hK1 _ rfl
theorem t_X12_partAt_lp4 {d n0 s0 nF sF : Nat} {X : MX} {N : NN} {Ω : Nat → MS → Prop} {a1 : Int} {a2 : Int} (hsk : m_Sk X) (hd : 2 ≤ d) (hG : m_G d yX12_partAt.cls yX12_partAt.name cX12_partAt 3 n0 s0 nF sF Ω) {t : Int} (hK1 : Ω 37 ([none, some (.inl t), none], [], N, X)) (hl : lp (fun s => b_X12_partAt_4 X N s.1 s.2) (a1, a2) = some t) : Ω 4 ([some (.inr (.inr 64)), some (.inl a1), some (.inl a2)], [], N, X) := by
  refine lp_ok (P := fun s => Ω 4 ([some (.inr (.inr 64)), some (.inl s.1), some (.inl s.2)], [], N, X)) (K := fun t => Ω 37 ([none, some (.inl t), none], [], N, X)) (fun s out hF hK0 hK1 => ?_) hl hK1
  exact t_X12_partAt_b4 hsk hd hG (out := out) (fun s' e => hK0 s' e) (fun t' e => hK1 t' e) hF
theorem t_X12_partAt {d : Nat} {X : MX} {N : NN} {out : Int} (hsk : m_Sk X) (hd : 2 ≤ d) (hF : f_X12_partAt X N = some out) : m_Call d yX12_partAt cX12_partAt 3 (some .int) [(.inr (.inr 64))] N X (some (.inl out)) N X := by
  refine m_mk (ls0 := [some (.inr (.inr 64)), none, none]) (by decide) rfl (Nat.le_of_ble_eq_true rfl) (Nat.le_refl _) (Nat.le_refl _) (fun Ω hE => ?_)
  have hG := hE.G
  unfold f_X12_partAt at hF
  refine s_iconst hG dX12_partAt_0 ⟨by decide, by decide⟩ ?_
  refine s_istore_n hG dX12_partAt_1 (by decide) rfl ?_
  refine s_iconst hG dX12_partAt_2 ⟨by decide, by decide⟩ ?_
  refine s_istore_n hG dX12_partAt_3 (by decide) rfl ?_
  obtain ⟨o5, hlo5, hF⟩ := bd_some hF
  refine t_X12_partAt_lp4 hsk hd hG ?_ hlo5
  refine s_iload_n hG dX12_partAt_37 rfl ?_
  cases hF
  exact s_iret hE dX12_partAt_38 rfl
-- X12_readPart
theorem t_X12_readPart_j154 {d n0 s0 nF sF : Nat} {X : MX} {Ω : Nat → MS → Prop} {N : NN} (hsk : m_Sk X) (hd : 5 ≤ d) (hG : m_G d yX12_readPart.cls yX12_readPart.name cX12_readPart 4 n0 s0 nF sF Ω) {out : (Int × NN)} (hE : m_Gd d yX12_readPart cX12_readPart 4 (some .int) X (some (.inl out.1)) out.2 X Ω) (hF : f_X12_readPart_j154 X N = some out) : Ω 154 ([none, none, none, none], [], N, X) := by
  unfold f_X12_readPart_j154 at hF
  refine s_iconst hG dX12_readPart_154 ⟨by decide, by decide⟩ ?_
  cases hF
  exact s_iret hE dX12_readPart_155 rfl
theorem t_X12_readPart_j150 {d n0 s0 nF sF : Nat} {X : MX} {Ω : Nat → MS → Prop} {N : NN} {z1 : Int} {z3 : Int} {z4 : Int} (hsk : m_Sk X) (hd : 5 ≤ d) (hG : m_G d yX12_readPart.cls yX12_readPart.name cX12_readPart 4 n0 s0 nF sF Ω) {out : (Int × NN)} (hE : m_Gd d yX12_readPart cX12_readPart 4 (some .int) X (some (.inl out.1)) out.2 X Ω) (hF : f_X12_readPart_j150 X N z1 z3 z4 = some out) : Ω 150 ([none, none, none, none], [(.inr (.inl z4)), (.inr (.inl z3)), (.inr (.inr 64)), (.inl z1), (.inr (.inr 76))], N, X) := by
  unfold f_X12_readPart_j150 at hF
  obtain ⟨o18, ho18, hF⟩ := bd_some hF
  refine s_callV (d' := d - 1) (ci := 12) (args := [.inr (.inl z3), .inr (.inl z4)]) hG (by omega) dX12_readPart_150 cv_RX12_343 cw_X12_number rfl rfl (sk_k hsk 64 rfl) (Nat.le_of_ble_eq_true rfl) rfl (t_X12_number hsk (by omega) ho18) ?_
  obtain ⟨g19, hF⟩ := gd_some hF
  refine s_iastj (j := z1.toNat) hG dX12_readPart_153 (sk_K hsk 76 rfl) g19 rfl ?_
  exact t_X12_readPart_j154 hsk hd hG hE hF
theorem t_X12_readPart_j99 {d n0 s0 nF sF : Nat} {X : MX} {Ω : Nat → MS → Prop} {N : NN} {a1 : Int} {z1 : Int} {z2 : Int} {z3 : Int} (hsk : m_Sk X) (hd : 5 ≤ d) (hG : m_G d yX12_readPart.cls yX12_readPart.name cX12_readPart 4 n0 s0 nF sF Ω) {out : (Int × NN)} (hE : m_Gd d yX12_readPart cX12_readPart 4 (some .int) X (some (.inl out.1)) out.2 X Ω) (hF : f_X12_readPart_j99 X N a1 z1 z2 z3 = some out) : Ω 99 ([some (.inr (.inr 64)), some (.inl a1), none, none], [(.inl z3), (.inl z2), (.inl z1), (.inr (.inr 64))], N, X) := by
  unfold f_X12_readPart_j99 at hF
  obtain ⟨o13, ho13, hF⟩ := bd_some hF
  refine s_callV (d' := d - 1) (ci := 12) (args := [.inl z1, .inl z2, .inl z3]) hG (by omega) dX12_readPart_99 cv_RX12_337 cw_X12_leaf rfl rfl (sk_k hsk 64 rfl) (Nat.le_of_ble_eq_true rfl) rfl (t_X12_leaf hsk (by omega) ho13) ?_
  refine s_aload_n hG dX12_readPart_102 rfl ?_
  refine s_getz hG dX12_readPart_103 fl_RX12_326 (sk_k hsk 64 rfl) rfl ?_
  refine s_if_eq hG 154 dX12_readPart_106 (by decide) (fun c17 => ?_) (fun c17 => ?_)
  · replace hF := Eq.trans (if_pos c17).symm hF
    refine m_weak (ls1 := [none, none, none, none]) hG trivial ?_
    exact t_X12_readPart_j154 hsk hd hG hE hF
  · replace hF := Eq.trans (if_neg c17).symm hF
    refine s_iload_n hG dX12_readPart_109 rfl ?_
    refine s_iconst hG dX12_readPart_110 ⟨by decide, by decide⟩ ?_
    refine s_icmp_lt hG 154 dX12_readPart_111 (by decide) (fun c16 => ?_) (fun c16 => ?_)
    · replace hF := Eq.trans (if_pos c16).symm hF
      refine m_weak (ls1 := [none, none, none, none]) hG trivial ?_
      exact t_X12_readPart_j154 hsk hd hG hE hF
    · replace hF := Eq.trans (if_neg c16).symm hF
      refine s_aload_n hG dX12_readPart_114 rfl ?_
      refine s_getz hG dX12_readPart_115 fl_RX12_249 (sk_k hsk 64 rfl) rfl ?_
      refine s_if_ne hG 154 dX12_readPart_118 (by decide) (fun c15 => ?_) (fun c15 => ?_)
      · replace hF := Eq.trans (if_pos c15).symm hF
        refine s_aload_n hG dX12_readPart_121 rfl ?_
        refine s_geti hG dX12_readPart_122 fl_RX12_288 (sk_k hsk 64 rfl) rfl ?_
        refine s_iconst hG dX12_readPart_125 ⟨by decide, by decide⟩ ?_
        refine s_isub hG dX12_readPart_126 ?_
        refine s_istore_n hG dX12_readPart_127 (by decide) rfl ?_
        refine s_aload_n hG dX12_readPart_128 rfl ?_
        refine s_getr (r := 76) hG dX12_readPart_129 fl_RX12_48 (sk_k hsk 64 rfl) rfl (sk_R hsk 64 25 rfl) ?_
        refine s_iload_n hG dX12_readPart_132 rfl ?_
        refine s_aload_n hG dX12_readPart_133 rfl ?_
        refine s_lconst (v := 0) hG dX12_readPart_134 rfl ⟨by decide, by decide⟩ ?_
        refine s_iload_n hG dX12_readPart_135 rfl ?_
        refine s_bipush hG dX12_readPart_136 bp_6 ⟨by decide, by decide⟩ ?_
        refine s_icmp_ne hG 147 dX12_readPart_138 (by decide) (fun c14 => ?_) (fun c14 => ?_)
        · replace hF := Eq.trans (if_pos c14).symm hF
          refine s_ldc2 hG dX12_readPart_141 kc_RX12_341 ⟨by decide, by decide⟩ ?_
          refine s_goto hG 150 dX12_readPart_144 (by decide) ?_
          refine m_weak (ls1 := [none, none, none, none]) hG trivial ?_
          exact t_X12_readPart_j150 hsk hd hG hE hF
        · replace hF := Eq.trans (if_neg c14).symm hF
          refine s_ldc2 hG dX12_readPart_147 kc_RX12_228 ⟨by decide, by decide⟩ ?_
          refine m_weak (ls1 := [none, none, none, none]) hG trivial ?_
          exact t_X12_readPart_j150 hsk hd hG hE hF
      · replace hF := Eq.trans (if_neg c15).symm hF
        refine m_weak (ls1 := [none, none, none, none]) hG trivial ?_
        exact t_X12_readPart_j154 hsk hd hG hE hF
theorem t_X12_readPart_j86 {d n0 s0 nF sF : Nat} {X : MX} {Ω : Nat → MS → Prop} {N : NN} {a1 : Int} {a2 : Int} {z1 : Int} {z2 : Int} (hsk : m_Sk X) (hd : 5 ≤ d) (hG : m_G d yX12_readPart.cls yX12_readPart.name cX12_readPart 4 n0 s0 nF sF Ω) {out : (Int × NN)} (hE : m_Gd d yX12_readPart cX12_readPart 4 (some .int) X (some (.inl out.1)) out.2 X Ω) (hF : f_X12_readPart_j86 X N a1 a2 z1 z2 = some out) : Ω 86 ([some (.inr (.inr 64)), some (.inl a1), some (.inl a2), none], [(.inl z2), (.inl z1), (.inr (.inr 64))], N, X) := by
  unfold f_X12_readPart_j86 at hF
  refine s_iload_n hG dX12_readPart_86 rfl ?_
  refine s_if_eq hG 98 dX12_readPart_87 (by decide) (fun c12 => ?_) (fun c12 => ?_)
  · replace hF := Eq.trans (if_pos c12).symm hF
    refine s_iconst hG dX12_readPart_98 ⟨by decide, by decide⟩ ?_
    refine m_weak (ls1 := [some (.inr (.inr 64)), some (.inl a1), none, none]) hG ⟨rfl, ⟨rfl, trivial⟩⟩ ?_
    exact t_X12_readPart_j99 hsk hd hG hE hF
  · replace hF := Eq.trans (if_neg c12).symm hF
    refine s_aload_n hG dX12_readPart_90 rfl ?_
    refine s_getl hG dX12_readPart_91 fl_RX12_259 (sk_k hsk 64 rfl) rfl ?_
    refine s_l2i hG dX12_readPart_94 ?_
    refine s_goto hG 99 dX12_readPart_95 (by decide) ?_
    refine m_weak (ls1 := [some (.inr (.inr 64)), some (.inl a1), none, none]) hG ⟨rfl, ⟨rfl, trivial⟩⟩ ?_
    exact t_X12_readPart_j99 hsk hd hG hE hF
theorem t_X12_readPart_j76 {d n0 s0 nF sF : Nat} {X : MX} {Ω : Nat → MS → Prop} {N : NN} {a1 : Int} {a2 : Int} {z1 : Int} (hsk : m_Sk X) (hd : 5 ≤ d) (hG : m_G d yX12_readPart.cls yX12_readPart.name cX12_readPart 4 n0 s0 nF sF Ω) {out : (Int × NN)} (hE : m_Gd d yX12_readPart cX12_readPart 4 (some .int) X (some (.inl out.1)) out.2 X Ω) (hF : f_X12_readPart_j76 X N a1 a2 z1 = some out) : Ω 76 ([some (.inr (.inr 64)), some (.inl a1), some (.inl a2), none], [(.inl z1), (.inr (.inr 64))], N, X) := by
  unfold f_X12_readPart_j76 at hF
  refine s_iload_n hG dX12_readPart_76 rfl ?_
  refine s_iconst hG dX12_readPart_77 ⟨by decide, by decide⟩ ?_
  refine s_icmp_ne hG 85 dX12_readPart_78 (by decide) (fun c11 => ?_) (fun c11 => ?_)
  · replace hF := Eq.trans (if_pos c11).symm hF
    refine s_iconst hG dX12_readPart_81 ⟨by decide, by decide⟩ ?_
    refine s_goto hG 86 dX12_readPart_82 (by decide) ?_
    exact t_X12_readPart_j86 hsk hd hG hE hF
  · replace hF := Eq.trans (if_neg c11).symm hF
    refine s_iload_n hG dX12_readPart_85 rfl ?_
    exact t_X12_readPart_j86 hsk hd hG hE hF
theorem t_X12_readPart_j71 {d n0 s0 nF sF : Nat} {X : MX} {Ω : Nat → MS → Prop} {N : NN} {a1 : Int} {a2 : Int} (hsk : m_Sk X) (hd : 5 ≤ d) (hG : m_G d yX12_readPart.cls yX12_readPart.name cX12_readPart 4 n0 s0 nF sF Ω) {out : (Int × NN)} (hE : m_Gd d yX12_readPart cX12_readPart 4 (some .int) X (some (.inl out.1)) out.2 X Ω) (hF : f_X12_readPart_j71 X N a1 a2 = some out) : Ω 71 ([some (.inr (.inr 64)), some (.inl a1), some (.inl a2), none], [(.inr (.inr 64))], N, X) := by
  unfold f_X12_readPart_j71 at hF
  refine s_iconst hG dX12_readPart_71 ⟨by decide, by decide⟩ ?_
  refine s_goto hG 76 dX12_readPart_72 (by decide) ?_
  exact t_X12_readPart_j76 hsk hd hG hE hF
theorem t_X12_readPart_j60 {d n0 s0 nF sF : Nat} {X : MX} {Ω : Nat → MS → Prop} {N : NN} {a1 : Int} {z0 : Int} (hsk : m_Sk X) (hd : 5 ≤ d) (hG : m_G d yX12_readPart.cls yX12_readPart.name cX12_readPart 4 n0 s0 nF sF Ω) {out : (Int × NN)} (hE : m_Gd d yX12_readPart cX12_readPart 4 (some .int) X (some (.inl out.1)) out.2 X Ω) (hF : f_X12_readPart_j60 X N a1 z0 = some out) : Ω 60 ([some (.inr (.inr 64)), some (.inl a1), none, none], [(.inl z0)], N, X) := by
  unfold f_X12_readPart_j60 at hF
  refine s_istore_n hG dX12_readPart_60 (by decide) rfl ?_
  refine s_aload_n hG dX12_readPart_61 rfl ?_
  refine s_iload_n hG dX12_readPart_62 rfl ?_
  refine s_iconst hG dX12_readPart_63 ⟨by decide, by decide⟩ ?_
  refine s_icmp_ne hG 71 dX12_readPart_64 (by decide) (fun c10 => ?_) (fun c10 => ?_)
  · replace hF := Eq.trans (if_pos c10).symm hF
    refine s_iload_n hG dX12_readPart_67 rfl ?_
    refine s_if_eq hG 75 dX12_readPart_68 (by decide) (fun c9 => ?_) (fun c9 => ?_)
    · replace hF := Eq.trans (if_pos c9).symm hF
      refine s_iconst hG dX12_readPart_75 ⟨by decide, by decide⟩ ?_
      exact t_X12_readPart_j76 hsk hd hG hE hF
    · replace hF := Eq.trans (if_neg c9).symm hF
      exact t_X12_readPart_j71 hsk hd hG hE hF
  · replace hF := Eq.trans (if_neg c10).symm hF
    exact t_X12_readPart_j71 hsk hd hG hE hF
theorem t_X12_readPart_j59 {d n0 s0 nF sF : Nat} {X : MX} {Ω : Nat → MS → Prop} {N : NN} {a1 : Int} (hsk : m_Sk X) (hd : 5 ≤ d) (hG : m_G d yX12_readPart.cls yX12_readPart.name cX12_readPart 4 n0 s0 nF sF Ω) {out : (Int × NN)} (hE : m_Gd d yX12_readPart cX12_readPart 4 (some .int) X (some (.inl out.1)) out.2 X Ω) (hF : f_X12_readPart_j59 X N a1 = some out) : Ω 59 ([some (.inr (.inr 64)), some (.inl a1), none, none], [], N, X) := by
  unfold f_X12_readPart_j59 at hF
  refine s_iconst hG dX12_readPart_59 ⟨by decide, by decide⟩ ?_
  exact t_X12_readPart_j60 hsk hd hG hE hF
theorem t_X12_readPart_j35 {d n0 s0 nF sF : Nat} {X : MX} {Ω : Nat → MS → Prop} {N : NN} {z0 : Int} (hsk : m_Sk X) (hd : 5 ≤ d) (hG : m_G d yX12_readPart.cls yX12_readPart.name cX12_readPart 4 n0 s0 nF sF Ω) {out : (Int × NN)} (hE : m_Gd d yX12_readPart cX12_readPart 4 (some .int) X (some (.inl out.1)) out.2 X Ω) (hF : f_X12_readPart_j35 X N z0 = some out) : Ω 35 ([some (.inr (.inr 64)), none, none, none], [(.inl z0)], N, X) := by
  unfold f_X12_readPart_j35 at hF
  refine s_istore_n hG dX12_readPart_35 (by decide) rfl ?_
  refine s_aload_n hG dX12_readPart_36 rfl ?_
  refine s_geti hG dX12_readPart_37 fl_RX12_269 (sk_k hsk 64 rfl) rfl ?_
  refine s_iconst hG dX12_readPart_40 ⟨by decide, by decide⟩ ?_
  refine s_icmp_ne hG 59 dX12_readPart_41 (by decide) (fun c8 => ?_) (fun c8 => ?_)
  · replace hF := Eq.trans (if_pos c8).symm hF
    refine s_aload_n hG dX12_readPart_44 rfl ?_
    refine s_getl hG dX12_readPart_45 fl_RX12_259 (sk_k hsk 64 rfl) rfl ?_
    refine s_ldc2 hG dX12_readPart_48 kc_RX12_335 ⟨by decide, by decide⟩ ?_
    refine s_lcmp hG dX12_readPart_51 ?_
    refine s_if_gt hG 59 dX12_readPart_52 (by decide) (fun c7 => ?_) (fun c7 => ?_)
    · replace hF := Eq.trans (if_pos c7).symm hF
      exact t_X12_readPart_j59 hsk hd hG hE hF
    · replace hF := Eq.trans (if_neg c7).symm hF
      refine s_iconst hG dX12_readPart_55 ⟨by decide, by decide⟩ ?_
      refine s_goto hG 60 dX12_readPart_56 (by decide) ?_
      exact t_X12_readPart_j60 hsk hd hG hE hF
  · replace hF := Eq.trans (if_neg c8).symm hF
    exact t_X12_readPart_j59 hsk hd hG hE hF
theorem t_X12_readPart {d : Nat} {X : MX} {N : NN} {out : (Int × NN)} (hsk : m_Sk X) (hd : 5 ≤ d) (hF : f_X12_readPart X N = some out) : m_Call d yX12_readPart cX12_readPart 4 (some .int) [(.inr (.inr 64))] N X (some (.inl out.1)) out.2 X := by
  refine m_mk (ls0 := [some (.inr (.inr 64)), none, none, none]) (by decide) rfl (Nat.le_of_ble_eq_true rfl) (Nat.le_refl _) (Nat.le_refl _) (fun Ω hE => ?_)
  have hG := hE.G
  unfold f_X12_readPart at hF
  refine s_aload_n hG dX12_readPart_0 rfl ?_
  refine s_bipush hG dX12_readPart_1 bp_91 ⟨by decide, by decide⟩ ?_
  obtain ⟨o1, ho1, hF⟩ := bd_some hF
  refine s_callV (d' := d - 1) (ci := 12) (args := [.inl 91]) hG (by omega) dX12_readPart_3 cv_RX12_320 cw_X12_isSign rfl rfl (sk_k hsk 64 rfl) (Nat.le_of_ble_eq_true rfl) rfl (t_X12_isSign hsk (by omega) ho1) ?_
  refine s_if_eq hG 17 dX12_readPart_6 (by decide) (fun c6 => ?_) (fun c6 => ?_)
  · replace hF := Eq.trans (if_pos c6).symm hF
    refine s_aload_n hG dX12_readPart_17 rfl ?_
    refine s_getz hG dX12_readPart_18 fl_RX12_326 (sk_k hsk 64 rfl) rfl ?_
    refine s_if_eq hG 31 dX12_readPart_21 (by decide) (fun c4 => ?_) (fun c4 => ?_)
    · replace hF := Eq.trans (if_pos c4).symm hF
      refine s_aload_n hG dX12_readPart_31 rfl ?_
      obtain ⟨o2, ho2, hF⟩ := bd_some hF
      refine s_callV (d' := d - 1) (ci := 12) (args := []) hG (by omega) dX12_readPart_32 cv_RX12_332 cw_X12_partAt rfl rfl (sk_k hsk 64 rfl) (Nat.le_of_ble_eq_true rfl) rfl (t_X12_partAt hsk (by omega) ho2) ?_
      exact t_X12_readPart_j35 hsk hd hG hE hF
    · replace hF := Eq.trans (if_neg c4).symm hF
      refine s_aload_n hG dX12_readPart_24 rfl ?_
      obtain ⟨o3, ho3, hF⟩ := bd_some hF
      refine s_callV (d' := d - 1) (ci := 12) (args := []) hG (by omega) dX12_readPart_25 cv_RX12_329 cw_X12_orderPartAt rfl rfl (sk_k hsk 64 rfl) (Nat.le_of_ble_eq_true rfl) rfl (t_X12_orderPartAt hsk (by omega) ho3) ?_
      refine s_goto hG 35 dX12_readPart_28 (by decide) ?_
      exact t_X12_readPart_j35 hsk hd hG hE hF
  · replace hF := Eq.trans (if_neg c6).symm hF
    refine s_aload_n hG dX12_readPart_9 rfl ?_
    refine s_bipush hG dX12_readPart_10 bp_32 ⟨by decide, by decide⟩ ?_
    obtain ⟨o5, ho5, hF⟩ := bd_some hF
    refine s_callV (d' := d - 1) (ci := 12) (args := [.inl 32]) hG (by omega) dX12_readPart_12 cv_RX12_323 cw_X12_openBracket rfl rfl (sk_k hsk 64 rfl) (Nat.le_of_ble_eq_true rfl) rfl (t_X12_openBracket hsk (by omega) ho5) ?_
    refine s_iconst hG dX12_readPart_15 ⟨by decide, by decide⟩ ?_
    cases hF
    exact s_iret hE dX12_readPart_16 rfl
-- X12_readPlain
theorem t_X12_readPlain {d : Nat} {X : MX} {N : NN} {out : (Int × NN)} (hsk : m_Sk X) (hd : 6 ≤ d) (hF : f_X12_readPlain X N = some out) : m_Call d yX12_readPlain cX12_readPlain 1 (some .int) [(.inr (.inr 64))] N X (some (.inl out.1)) out.2 X := by
  refine m_mk (ls0 := [some (.inr (.inr 64))]) (by decide) rfl (Nat.le_of_ble_eq_true rfl) (Nat.le_refl _) (Nat.le_refl _) (fun Ω hE => ?_)
  have hG := hE.G
  unfold f_X12_readPlain at hF
  refine s_aload_n hG dX12_readPlain_0 rfl ?_
  refine s_ldc2 hG dX12_readPlain_1 kc_RX12_347 ⟨by decide, by decide⟩ ?_
  obtain ⟨o1, ho1, hF⟩ := bd_some hF
  refine s_callV (d' := d - 1) (ci := 12) (args := [.inr (.inl 14836)]) hG (by omega) dX12_readPlain_4 cv_RX12_307 cw_X12_isWord rfl rfl (sk_k hsk 64 rfl) (Nat.le_of_ble_eq_true rfl) rfl (t_X12_isWord hsk (by omega) ho1) ?_
  refine s_if_eq hG 23 dX12_readPlain_7 (by decide) (fun c8 => ?_) (fun c8 => ?_)
  · replace hF := Eq.trans (if_pos c8).symm hF
    refine s_aload_n hG dX12_readPlain_23 rfl ?_
    refine s_bipush hG dX12_readPlain_24 bp_40 ⟨by decide, by decide⟩ ?_
    obtain ⟨o2, ho2, hF⟩ := bd_some hF
    refine s_callV (d' := d - 1) (ci := 12) (args := [.inl 40]) hG (by omega) dX12_readPlain_26 cv_RX12_320 cw_X12_isSign rfl rfl (sk_k hsk 64 rfl) (Nat.le_of_ble_eq_true rfl) rfl (t_X12_isSign hsk (by omega) ho2) ?_
    refine s_if_eq hG 40 dX12_readPlain_29 (by decide) (fun c5 => ?_) (fun c5 => ?_)
    · replace hF := Eq.trans (if_pos c5).symm hF
      refine s_aload_n hG dX12_readPlain_40 rfl ?_
      obtain ⟨o3, ho3, hF⟩ := bd_some hF
      refine s_callV (d' := d - 1) (ci := 12) (args := []) hG (by omega) dX12_readPlain_41 cv_RX12_349 cw_X12_readPart rfl rfl (sk_k hsk 64 rfl) (Nat.le_of_ble_eq_true rfl) rfl (t_X12_readPart hsk (by omega) ho3) ?_
      cases hF
      exact s_iret hE dX12_readPlain_44 rfl
    · replace hF := Eq.trans (if_neg c5).symm hF
      refine s_aload_n hG dX12_readPlain_32 rfl ?_
      refine s_bipush hG dX12_readPlain_33 bp_31 ⟨by decide, by decide⟩ ?_
      obtain ⟨o4, ho4, hF⟩ := bd_some hF
      refine s_callV (d' := d - 1) (ci := 12) (args := [.inl 31]) hG (by omega) dX12_readPlain_35 cv_RX12_323 cw_X12_openBracket rfl rfl (sk_k hsk 64 rfl) (Nat.le_of_ble_eq_true rfl) rfl (t_X12_openBracket hsk (by omega) ho4) ?_
      refine s_iconst hG dX12_readPlain_38 ⟨by decide, by decide⟩ ?_
      cases hF
      exact s_iret hE dX12_readPlain_39 rfl
  · replace hF := Eq.trans (if_neg c8).symm hF
    refine s_aload_n hG dX12_readPlain_10 rfl ?_
    refine s_bipush hG dX12_readPlain_11 bp_28 ⟨by decide, by decide⟩ ?_
    refine s_iconst hG dX12_readPlain_13 ⟨by decide, by decide⟩ ?_
    obtain ⟨o6, ho6, hF⟩ := bd_some hF
    refine s_callV (d' := d - 1) (ci := 12) (args := [.inl 28, .inl 0]) hG (by omega) dX12_readPlain_14 cv_RX12_314 cw_X12_push rfl rfl (sk_k hsk 64 rfl) (Nat.le_of_ble_eq_true rfl) rfl (t_X12_push hsk (by omega) ho6) ?_
    refine s_aload_n hG dX12_readPlain_17 rfl ?_
    obtain ⟨o7, ho7, hF⟩ := bd_some hF
    refine s_callV (d' := d - 1) (ci := 12) (args := []) hG (by omega) dX12_readPlain_18 cv_RX12_253 cw_X12_next rfl rfl (sk_k hsk 64 rfl) (Nat.le_of_ble_eq_true rfl) rfl (t_X12_next hsk (by omega) ho7) ?_
    refine s_iconst hG dX12_readPlain_21 ⟨by decide, by decide⟩ ?_
    cases hF
    exact s_iret hE dX12_readPlain_22 rfl
