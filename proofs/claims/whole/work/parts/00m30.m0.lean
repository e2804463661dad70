-- J6_bitCount_0f7a4
theorem t_J6_bitCount_0f7a4 {d : Nat} {X : MX} {N : NN} {a0 : Int} {out : Int} (hsk : m_Sk X) (hd : 1 ≤ d) (hF : f_J6_bitCount_0f7a4 X N a0 = some out) : m_Call d yJ6_bitCount_0f7a4 cJ6_bitCount_0f7a4 1 (some .int) [(.inl a0)] N X (some (.inl out)) N X := by
  refine m_mk (ls0 := [some (.inl a0)]) (by decide) rfl (Nat.le_of_ble_eq_true rfl) (Nat.le_refl _) (Nat.le_refl _) (fun Ω hE => ?_)
  have hG := hE.G
  unfold f_J6_bitCount_0f7a4 at hF
  refine s_iload_n hG dJ6_bitCount_0f7a4_0 rfl ?_
  refine s_iload_n hG dJ6_bitCount_0f7a4_1 rfl ?_
  refine s_iconst hG dJ6_bitCount_0f7a4_2 ⟨by decide, by decide⟩ ?_
  refine s_iushr hG dJ6_bitCount_0f7a4_3 ?_
  refine s_ldcw hG dJ6_bitCount_0f7a4_4 kc_RJ6_265 ⟨by decide, by decide⟩ ?_
  refine s_iand hG dJ6_bitCount_0f7a4_7 ?_
  refine s_isub hG dJ6_bitCount_0f7a4_8 ?_
  refine s_istore_n hG dJ6_bitCount_0f7a4_9 (by decide) rfl ?_
  refine s_iload_n hG dJ6_bitCount_0f7a4_10 rfl ?_
  refine s_ldcw hG dJ6_bitCount_0f7a4_11 kc_RJ6_266 ⟨by decide, by decide⟩ ?_
  refine s_iand hG dJ6_bitCount_0f7a4_14 ?_
  refine s_iload_n hG dJ6_bitCount_0f7a4_15 rfl ?_
  refine s_iconst hG dJ6_bitCount_0f7a4_16 ⟨by decide, by decide⟩ ?_
  refine s_iushr hG dJ6_bitCount_0f7a4_17 ?_
  refine s_ldcw hG dJ6_bitCount_0f7a4_18 kc_RJ6_266 ⟨by decide, by decide⟩ ?_
  refine s_iand hG dJ6_bitCount_0f7a4_21 ?_
  refine s_iadd hG dJ6_bitCount_0f7a4_22 ?_
  refine s_istore_n hG dJ6_bitCount_0f7a4_23 (by decide) rfl ?_
  refine s_iload_n hG dJ6_bitCount_0f7a4_24 rfl ?_
  refine s_iload_n hG dJ6_bitCount_0f7a4_25 rfl ?_
  refine s_iconst hG dJ6_bitCount_0f7a4_26 ⟨by decide, by decide⟩ ?_
  refine s_iushr hG dJ6_bitCount_0f7a4_27 ?_
  refine s_iadd hG dJ6_bitCount_0f7a4_28 ?_
  refine s_ldcw hG dJ6_bitCount_0f7a4_29 kc_RJ6_267 ⟨by decide, by decide⟩ ?_
  refine s_iand hG dJ6_bitCount_0f7a4_32 ?_
  refine s_istore_n hG dJ6_bitCount_0f7a4_33 (by decide) rfl ?_
  refine s_iload_n hG dJ6_bitCount_0f7a4_34 rfl ?_
  refine s_iload_n hG dJ6_bitCount_0f7a4_35 rfl ?_
  refine s_bipush hG dJ6_bitCount_0f7a4_36 bp_8 ⟨by decide, by decide⟩ ?_
  refine s_iushr hG dJ6_bitCount_0f7a4_38 ?_
  refine s_iadd hG dJ6_bitCount_0f7a4_39 ?_
  refine s_istore_n hG dJ6_bitCount_0f7a4_40 (by decide) rfl ?_
  refine s_iload_n hG dJ6_bitCount_0f7a4_41 rfl ?_
  refine s_iload_n hG dJ6_bitCount_0f7a4_42 rfl ?_
  refine s_bipush hG dJ6_bitCount_0f7a4_43 bp_16 ⟨by decide, by decide⟩ ?_
  refine s_iushr hG dJ6_bitCount_0f7a4_45 ?_
  refine s_iadd hG dJ6_bitCount_0f7a4_46 ?_
  refine s_istore_n hG dJ6_bitCount_0f7a4_47 (by decide) rfl ?_
  refine s_iload_n hG dJ6_bitCount_0f7a4_48 rfl ?_
  refine s_bipush hG dJ6_bitCount_0f7a4_49 bp_63 ⟨by decide, by decide⟩ ?_
  refine s_iand hG dJ6_bitCount_0f7a4_51 ?_
  cases hF
  exact s_iret hE dJ6_bitCount_0f7a4_52 rfl
-- J6_numberOfTrailingZeros_0f7a4
theorem t_J6_numberOfTrailingZeros_0f7a4_j74 {d n0 s0 nF sF : Nat} {X : MX} {N : NN} {Ω : Nat → MS → Prop} {a0 : Int} {a1 : Int} (hsk : m_Sk X) (hd : 1 ≤ d) (hG : m_G d yJ6_numberOfTrailingZeros_0f7a4.cls yJ6_numberOfTrailingZeros_0f7a4.name cJ6_numberOfTrailingZeros_0f7a4 2 n0 s0 nF sF Ω) {out : Int} (hE : m_Gd d yJ6_numberOfTrailingZeros_0f7a4 cJ6_numberOfTrailingZeros_0f7a4 2 (some .int) X (some (.inl out)) N X Ω) (hF : f_J6_numberOfTrailingZeros_0f7a4_j74 X N a0 a1 = some out) : Ω 74 ([some (.inl a0), some (.inl a1)], [], N, X) := by
  unfold f_J6_numberOfTrailingZeros_0f7a4_j74 at hF
  refine s_iload_n hG dJ6_numberOfTrailingZeros_0f7a4_74 rfl ?_
  refine s_iload_n hG dJ6_numberOfTrailingZeros_0f7a4_75 rfl ?_
  refine s_iconst hG dJ6_numberOfTrailingZeros_0f7a4_76 ⟨by decide, by decide⟩ ?_
  refine s_iushr hG dJ6_numberOfTrailingZeros_0f7a4_77 ?_
  refine s_iadd hG dJ6_numberOfTrailingZeros_0f7a4_78 ?_
  cases hF
  exact s_iret hE dJ6_numberOfTrailingZeros_0f7a4_79 rfl
theorem t_J6_numberOfTrailingZeros_0f7a4_j62 {d n0 s0 nF sF : Nat} {X : MX} {N : NN} {Ω : Nat → MS → Prop} {a0 : Int} {a1 : Int} (hsk : m_Sk X) (hd : 1 ≤ d) (hG : m_G d yJ6_numberOfTrailingZeros_0f7a4.cls yJ6_numberOfTrailingZeros_0f7a4.name cJ6_numberOfTrailingZeros_0f7a4 2 n0 s0 nF sF Ω) {out : Int} (hE : m_Gd d yJ6_numberOfTrailingZeros_0f7a4 cJ6_numberOfTrailingZeros_0f7a4 2 (some .int) X (some (.inl out)) N X Ω) (hF : f_J6_numberOfTrailingZeros_0f7a4_j62 X N a0 a1 = some out) : Ω 62 ([some (.inl a0), some (.inl a1)], [], N, X) := by
  unfold f_J6_numberOfTrailingZeros_0f7a4_j62 at hF
  refine s_iload_n hG dJ6_numberOfTrailingZeros_0f7a4_62 rfl ?_
  refine s_iconst hG dJ6_numberOfTrailingZeros_0f7a4_63 ⟨by decide, by decide⟩ ?_
  refine s_icmp_le hG 74 dJ6_numberOfTrailingZeros_0f7a4_64 (by decide) (fun c5 => ?_) (fun c5 => ?_)
  · replace hF := Eq.trans (if_pos c5).symm hF
    refine s_iinc hG dJ6_numberOfTrailingZeros_0f7a4_67 (by decide) rfl rfl ?_
    refine s_iload_n hG dJ6_numberOfTrailingZeros_0f7a4_70 rfl ?_
    refine s_iconst hG dJ6_numberOfTrailingZeros_0f7a4_71 ⟨by decide, by decide⟩ ?_
    refine s_iushr hG dJ6_numberOfTrailingZeros_0f7a4_72 ?_
    refine s_istore_n hG dJ6_numberOfTrailingZeros_0f7a4_73 (by decide) rfl ?_
    exact t_J6_numberOfTrailingZeros_0f7a4_j74 hsk hd hG hE hF
  · replace hF := Eq.trans (if_neg c5).symm hF
    exact t_J6_numberOfTrailingZeros_0f7a4_j74 hsk hd hG hE hF
theorem t_J6_numberOfTrailingZeros_0f7a4_j49 {d n0 s0 nF sF : Nat} {X : MX} {N : NN} {Ω : Nat → MS → Prop} {a0 : Int} {a1 : Int} (hsk : m_Sk X) (hd : 1 ≤ d) (hG : m_G d yJ6_numberOfTrailingZeros_0f7a4.cls yJ6_numberOfTrailingZeros_0f7a4.name cJ6_numberOfTrailingZeros_0f7a4 2 n0 s0 nF sF Ω) {out : Int} (hE : m_Gd d yJ6_numberOfTrailingZeros_0f7a4 cJ6_numberOfTrailingZeros_0f7a4 2 (some .int) X (some (.inl out)) N X Ω) (hF : f_J6_numberOfTrailingZeros_0f7a4_j49 X N a0 a1 = some out) : Ω 49 ([some (.inl a0), some (.inl a1)], [], N, X) := by
  unfold f_J6_numberOfTrailingZeros_0f7a4_j49 at hF
  refine s_iload_n hG dJ6_numberOfTrailingZeros_0f7a4_49 rfl ?_
  refine s_bipush hG dJ6_numberOfTrailingZeros_0f7a4_50 bp_16 ⟨by decide, by decide⟩ ?_
  refine s_icmp_le hG 62 dJ6_numberOfTrailingZeros_0f7a4_52 (by decide) (fun c4 => ?_) (fun c4 => ?_)
  · replace hF := Eq.trans (if_pos c4).symm hF
    refine s_iinc hG dJ6_numberOfTrailingZeros_0f7a4_55 (by decide) rfl rfl ?_
    refine s_iload_n hG dJ6_numberOfTrailingZeros_0f7a4_58 rfl ?_
    refine s_iconst hG dJ6_numberOfTrailingZeros_0f7a4_59 ⟨by decide, by decide⟩ ?_
    refine s_iushr hG dJ6_numberOfTrailingZeros_0f7a4_60 ?_
    refine s_istore_n hG dJ6_numberOfTrailingZeros_0f7a4_61 (by decide) rfl ?_
    exact t_J6_numberOfTrailingZeros_0f7a4_j62 hsk hd hG hE hF
  · replace hF := Eq.trans (if_neg c4).symm hF
    exact t_J6_numberOfTrailingZeros_0f7a4_j62 hsk hd hG hE hF
theorem t_J6_numberOfTrailingZeros_0f7a4_j34 {d n0 s0 nF sF : Nat} {X : MX} {N : NN} {Ω : Nat → MS → Prop} {a0 : Int} {a1 : Int} (hsk : m_Sk X) (hd : 1 ≤ d) (hG : m_G d yJ6_numberOfTrailingZeros_0f7a4.cls yJ6_numberOfTrailingZeros_0f7a4.name cJ6_numberOfTrailingZeros_0f7a4 2 n0 s0 nF sF Ω) {out : Int} (hE : m_Gd d yJ6_numberOfTrailingZeros_0f7a4 cJ6_numberOfTrailingZeros_0f7a4 2 (some .int) X (some (.inl out)) N X Ω) (hF : f_J6_numberOfTrailingZeros_0f7a4_j34 X N a0 a1 = some out) : Ω 34 ([some (.inl a0), some (.inl a1)], [], N, X) := by
  unfold f_J6_numberOfTrailingZeros_0f7a4_j34 at hF
  refine s_iload_n hG dJ6_numberOfTrailingZeros_0f7a4_34 rfl ?_
  refine s_sipush hG dJ6_numberOfTrailingZeros_0f7a4_35 sp_256 ⟨by decide, by decide⟩ ?_
  refine s_icmp_le hG 49 dJ6_numberOfTrailingZeros_0f7a4_38 (by decide) (fun c3 => ?_) (fun c3 => ?_)
  · replace hF := Eq.trans (if_pos c3).symm hF
    refine s_iinc hG dJ6_numberOfTrailingZeros_0f7a4_41 (by decide) rfl rfl ?_
    refine s_iload_n hG dJ6_numberOfTrailingZeros_0f7a4_44 rfl ?_
    refine s_bipush hG dJ6_numberOfTrailingZeros_0f7a4_45 bp_8 ⟨by decide, by decide⟩ ?_
    refine s_iushr hG dJ6_numberOfTrailingZeros_0f7a4_47 ?_
    refine s_istore_n hG dJ6_numberOfTrailingZeros_0f7a4_48 (by decide) rfl ?_
    exact t_J6_numberOfTrailingZeros_0f7a4_j49 hsk hd hG hE hF
  · replace hF := Eq.trans (if_neg c3).symm hF
    exact t_J6_numberOfTrailingZeros_0f7a4_j49 hsk hd hG hE hF
theorem t_J6_numberOfTrailingZeros_0f7a4 {d : Nat} {X : MX} {N : NN} {a0 : Int} {out : Int} (hsk : m_Sk X) (hd : 1 ≤ d) (hF : f_J6_numberOfTrailingZeros_0f7a4 X N a0 = some out) : m_Call d yJ6_numberOfTrailingZeros_0f7a4 cJ6_numberOfTrailingZeros_0f7a4 2 (some .int) [(.inl a0)] N X (some (.inl out)) N X := by
  refine m_mk (ls0 := [some (.inl a0), none]) (by decide) rfl (Nat.le_of_ble_eq_true rfl) (Nat.le_refl _) (Nat.le_refl _) (fun Ω hE => ?_)
  have hG := hE.G
  unfold f_J6_numberOfTrailingZeros_0f7a4 at hF
  refine s_iload_n hG dJ6_numberOfTrailingZeros_0f7a4_0 rfl ?_
  refine s_iconst hG dJ6_numberOfTrailingZeros_0f7a4_1 ⟨by decide, by decide⟩ ?_
  refine s_ixor hG dJ6_numberOfTrailingZeros_0f7a4_2 ?_
  refine s_iload_n hG dJ6_numberOfTrailingZeros_0f7a4_3 rfl ?_
  refine s_iconst hG dJ6_numberOfTrailingZeros_0f7a4_4 ⟨by decide, by decide⟩ ?_
  refine s_isub hG dJ6_numberOfTrailingZeros_0f7a4_5 ?_
  refine s_iand hG dJ6_numberOfTrailingZeros_0f7a4_6 ?_
  refine s_istore_n hG dJ6_numberOfTrailingZeros_0f7a4_7 (by decide) rfl ?_
  refine s_iload_n hG dJ6_numberOfTrailingZeros_0f7a4_8 rfl ?_
  refine s_if_gt hG 17 dJ6_numberOfTrailingZeros_0f7a4_9 (by decide) (fun c2 => ?_) (fun c2 => ?_)
  · replace hF := Eq.trans (if_pos c2).symm hF
    refine s_iconst hG dJ6_numberOfTrailingZeros_0f7a4_17 ⟨by decide, by decide⟩ ?_
    refine s_istore_n hG dJ6_numberOfTrailingZeros_0f7a4_18 (by decide) rfl ?_
    refine s_iload_n hG dJ6_numberOfTrailingZeros_0f7a4_19 rfl ?_
    refine s_ldcw hG dJ6_numberOfTrailingZeros_0f7a4_20 kc_RJ6_264 ⟨by decide, by decide⟩ ?_
    refine s_icmp_le hG 34 dJ6_numberOfTrailingZeros_0f7a4_23 (by decide) (fun c1 => ?_) (fun c1 => ?_)
    · replace hF := Eq.trans (if_pos c1).symm hF
      refine s_iinc hG dJ6_numberOfTrailingZeros_0f7a4_26 (by decide) rfl rfl ?_
      refine s_iload_n hG dJ6_numberOfTrailingZeros_0f7a4_29 rfl ?_
      refine s_bipush hG dJ6_numberOfTrailingZeros_0f7a4_30 bp_16 ⟨by decide, by decide⟩ ?_
      refine s_iushr hG dJ6_numberOfTrailingZeros_0f7a4_32 ?_
      refine s_istore_n hG dJ6_numberOfTrailingZeros_0f7a4_33 (by decide) rfl ?_
      exact t_J6_numberOfTrailingZeros_0f7a4_j34 hsk hd hG hE hF
    · replace hF := Eq.trans (if_neg c1).symm hF
      exact t_J6_numberOfTrailingZeros_0f7a4_j34 hsk hd hG hE hF
  · replace hF := Eq.trans (if_neg c2).symm hF
    refine s_iload_n hG dJ6_numberOfTrailingZeros_0f7a4_12 rfl ?_
    refine s_bipush hG dJ6_numberOfTrailingZeros_0f7a4_13 bp_32 ⟨by decide, by decide⟩ ?_
    refine s_iand hG dJ6_numberOfTrailingZeros_0f7a4_15 ?_
    cases hF
    exact s_iret hE dJ6_numberOfTrailingZeros_0f7a4_16 rfl
-- J7_fill_53178
theorem t_J7_fill_53178_b5 {d n0 s0 nF sF : Nat} {X : MX} {r0 : Nat} {Ω : Nat → MS → Prop} {N : NN} {a1 : Int} {a2 : Int} {a3 : Int} (hsk : m_Sk X) (hd : 1 ≤ d) (h0 : (xK X r0).1 = 1) (hG : m_G d yJ7_fill_53178.cls yJ7_fill_53178.name cJ7_fill_53178 4 n0 s0 nF sF Ω) {out : ((NN × Int × Int × Int) ⊕ NN)} (hK0 : ∀ s' : (NN × Int × Int × Int), out = .inl s' → Ω 5 ([some (.inr (.inr r0)), some (.inl (s'.2.1)), some (.inl (s'.2.2.1)), some (.inl (s'.2.2.2))], [], s'.1, X)) (hK1 : ∀ t : NN, out = .inr t → Ω 20 ([none, none, none, none], [], t, X)) (hF : b_J7_fill_53178_5 X r0 N a1 a2 a3 = some out) : Ω 5 ([some (.inr (.inr r0)), some (.inl a1), some (.inl a2), some (.inl a3)], [], N, X) := by
  unfold b_J7_fill_53178_5 at hF
  refine s_iload_n hG dJ7_fill_53178_5 rfl ?_
  refine s_iload_n hG dJ7_fill_53178_6 rfl ?_
  refine s_icmp_ge hG 20 dJ7_fill_53178_7 (by decide) (fun c4 => ?_) (fun c4 => ?_)
  · replace hF := Eq.trans (if_pos c4).symm hF
    refine s_aload_n hG dJ7_fill_53178_10 rfl ?_
    refine s_iload_n hG dJ7_fill_53178_11 rfl ?_
    refine s_iload_n hG dJ7_fill_53178_12 rfl ?_
    obtain ⟨g2, hF⟩ := gd_some hF
    refine s_iastj (j := a2.toNat) hG dJ7_fill_53178_13 (m_k1 h0) g2 rfl ?_
    refine s_iinc hG dJ7_fill_53178_14 (by decide) rfl rfl ?_
    refine s_goto hG 5 dJ7_fill_53178_17 (by decide) ?_
    cases hF
    exact hK0 _ rfl
  · replace hF := Eq.trans (if_neg c4).symm hF
    cases hF
    refine m_weak (ls1 := [none, none, none, none]) hG trivial ?_
    exact hK1 _ rfl
theorem t_J7_fill_53178_lp5 {d n0 s0 nF sF : Nat} {X : MX} {r0 : Nat} {Ω : Nat → MS → Prop} {N : NN} {a1 : Int} {a2 : Int} {a3 : Int} (hsk : m_Sk X) (hd : 1 ≤ d) (h0 : (xK X r0).1 = 1) (hG : m_G d yJ7_fill_53178.cls yJ7_fill_53178.name cJ7_fill_53178 4 n0 s0 nF sF Ω) {t : NN} (hK1 : Ω 20 ([none, none, none, none], [], t, X)) (hl : lp (fun s => b_J7_fill_53178_5 X r0 s.1 s.2.1 s.2.2.1 s.2.2.2) (N, a1, a2, a3) = some t) : Ω 5 ([some (.inr (.inr r0)), some (.inl a1), some (.inl a2), some (.inl a3)], [], N, X) := by
  refine lp_ok (P := fun s => Ω 5 ([some (.inr (.inr r0)), some (.inl s.2.1), some (.inl s.2.2.1), some (.inl s.2.2.2)], [], s.1, X)) (K := fun t => Ω 20 ([none, none, none, none], [], t, X)) (fun s out hF hK0 hK1 => ?_) hl hK1
  exact t_J7_fill_53178_b5 hsk hd h0 hG (out := out) (fun s' e => hK0 s' e) (fun t' e => hK1 t' e) hF
theorem t_J7_fill_53178 {d : Nat} {X : MX} {r0 : Nat} {N : NN} {a1 : Int} {out : NN} (hsk : m_Sk X) (hd : 1 ≤ d) (h0 : (xK X r0).1 = 1) (hF : f_J7_fill_53178 X r0 N a1 = some out) : m_Call d yJ7_fill_53178 cJ7_fill_53178 4 none [(.inr (.inr r0)), (.inl a1)] N X none out X := by
  refine m_mk (ls0 := [some (.inr (.inr r0)), some (.inl a1), none, none]) (by decide) rfl (Nat.le_of_ble_eq_true rfl) (Nat.le_refl _) (Nat.le_refl _) (fun Ω hE => ?_)
  have hG := hE.G
  unfold f_J7_fill_53178 at hF
  refine s_iconst hG dJ7_fill_53178_0 ⟨by decide, by decide⟩ ?_
  refine s_istore_n hG dJ7_fill_53178_1 (by decide) rfl ?_
  refine s_aload_n hG dJ7_fill_53178_2 rfl ?_
  obtain ⟨g1, hF⟩ := gd_some hF
  refine s_alen1j (v := ((xK X r0).2 : Int)) hG dJ7_fill_53178_3 (m_k1 h0) g1 rfl ?_
  refine s_istore_n hG dJ7_fill_53178_4 (by decide) rfl ?_
  obtain ⟨o5, hlo5, hF⟩ := bd_some hF
  refine t_J7_fill_53178_lp5 hsk hd h0 hG ?_ hlo5
  cases hF
  exact s_vret hE dJ7_fill_53178_20 rfl
-- J7_rangeCheck_23922
theorem t_J7_rangeCheck_23922 {d : Nat} {X : MX} {N : NN} {a0 : Int} {a1 : Int} {a2 : Int} {out : Unit} (hsk : m_Sk X) (hd : 1 ≤ d) (hF : f_J7_rangeCheck_23922 X N a0 a1 a2 = some out) : m_Call d yJ7_rangeCheck_23922 cJ7_rangeCheck_23922 3 none [(.inl a0), (.inl a1), (.inl a2)] N X none N X := by
  refine m_mk (ls0 := [some (.inl a0), some (.inl a1), some (.inl a2)]) (by decide) rfl (Nat.le_of_ble_eq_true rfl) (Nat.le_refl _) (Nat.le_refl _) (fun Ω hE => ?_)
  have hG := hE.G
  unfold f_J7_rangeCheck_23922 at hF
  refine s_iload_n hG dJ7_rangeCheck_23922_0 rfl ?_
  refine s_iload_n hG dJ7_rangeCheck_23922_1 rfl ?_
  refine s_icmp_le hG 46 dJ7_rangeCheck_23922_2 (by decide) (fun c3 => ?_) (fun c3 => ?_)
  · replace hF := Eq.trans (if_pos c3).symm hF
    cases hF
  · replace hF := Eq.trans (if_neg c3).symm hF
    refine s_iload_n hG dJ7_rangeCheck_23922_46 rfl ?_
    refine s_if_ge hG 59 dJ7_rangeCheck_23922_47 (by decide) (fun c2 => ?_) (fun c2 => ?_)
    · replace hF := Eq.trans (if_pos c2).symm hF
      cases hF
    · replace hF := Eq.trans (if_neg c2).symm hF
      refine s_iload_n hG dJ7_rangeCheck_23922_59 rfl ?_
      refine s_iload_n hG dJ7_rangeCheck_23922_60 rfl ?_
      refine s_icmp_le hG 73 dJ7_rangeCheck_23922_61 (by decide) (fun c1 => ?_) (fun c1 => ?_)
      · replace hF := Eq.trans (if_pos c1).symm hF
        cases hF
      · replace hF := Eq.trans (if_neg c1).symm hF
        cases hF
        exact s_vret hE dJ7_rangeCheck_23922_73 rfl
-- J7_fill_fda19
theorem t_J7_fill_fda19_b10 {d n0 s0 nF sF : Nat} {X : MX} {r0 : Nat} {Ω : Nat → MS → Prop} {N : NN} {a2 : Int} {a3 : Int} {a4 : Int} (hsk : m_Sk X) (hd : 2 ≤ d) (h0 : (xK X r0).1 = 1) (hG : m_G d yJ7_fill_fda19.cls yJ7_fill_fda19.name cJ7_fill_fda19 5 n0 s0 nF sF Ω) {out : ((NN × Int × Int × Int) ⊕ NN)} (hK0 : ∀ s' : (NN × Int × Int × Int), out = .inl s' → Ω 10 ([some (.inr (.inr r0)), none, some (.inl (s'.2.1)), some (.inl (s'.2.2.1)), some (.inl (s'.2.2.2))], [], s'.1, X)) (hK1 : ∀ t : NN, out = .inr t → Ω 27 ([none, none, none, none, none], [], t, X)) (hF : b_J7_fill_fda19_10 X r0 N a2 a3 a4 = some out) : Ω 10 ([some (.inr (.inr r0)), none, some (.inl a2), some (.inl a3), some (.inl a4)], [], N, X) := by
  unfold b_J7_fill_fda19_10 at hF
  refine s_iload hG dJ7_fill_fda19_10 rfl ?_
  refine s_iload_n hG dJ7_fill_fda19_12 rfl ?_
  refine s_icmp_ge hG 27 dJ7_fill_fda19_13 (by decide) (fun c5 => ?_) (fun c5 => ?_)
  · replace hF := Eq.trans (if_pos c5).symm hF
    refine s_aload_n hG dJ7_fill_fda19_16 rfl ?_
    refine s_iload hG dJ7_fill_fda19_17 rfl ?_
    refine s_iload_n hG dJ7_fill_fda19_19 rfl ?_
    obtain ⟨g3, hF⟩ := gd_some hF
    refine s_iastj (j := a4.toNat) hG dJ7_fill_fda19_20 (m_k1 h0) g3 rfl ?_
    refine s_iinc hG dJ7_fill_fda19_21 (by decide) rfl rfl ?_
    refine s_goto hG 10 dJ7_fill_fda19_24 (by decide) ?_
    cases hF
    exact hK0 _ rfl
  · replace hF := Eq.trans (if_neg c5).symm hF
    cases hF
    refine m_weak (ls1 := [none, none, none, none, none]) hG trivial ?_
    exact hK1 _ rfl
theorem t_J7_fill_fda19_lp10 {d n0 s0 nF sF : Nat} {X : MX} {r0 : Nat} {Ω : Nat → MS → Prop} {N : NN} {a2 : Int} {a3 : Int} {a4 : Int} (hsk : m_Sk X) (hd : 2 ≤ d) (h0 : (xK X r0).1 = 1) (hG : m_G d yJ7_fill_fda19.cls yJ7_fill_fda19.name cJ7_fill_fda19 5 n0 s0 nF sF Ω) {t : NN} (hK1 : Ω 27 ([none, none, none, none, none], [], t, X)) (hl : lp (fun s => b_J7_fill_fda19_10 X r0 s.1 s.2.1 s.2.2.1 s.2.2.2) (N, a2, a3, a4) = some t) : Ω 10 ([some (.inr (.inr r0)), none, some (.inl a2), some (.inl a3), some (.inl a4)], [], N, X) := by
  refine lp_ok (P := fun s => Ω 10 ([some (.inr (.inr r0)), none, some (.inl s.2.1), some (.inl s.2.2.1), some (.inl s.2.2.2)], [], s.1, X)) (K := fun t => Ω 27 ([none, none, none, none, none], [], t, X)) (fun s out hF hK0 hK1 => ?_) hl hK1
  exact t_J7_fill_fda19_b10 hsk hd h0 hG (out := out) (fun s' e => hK0 s' e) (fun t' e => hK1 t' e) hF
theorem t_J7_fill_fda19 {d : Nat} {X : MX} {r0 : Nat} {N : NN} {a1 : Int} {a2 : Int} {a3 : Int} {out : NN} (hsk : m_Sk X) (hd : 2 ≤ d) (h0 : (xK X r0).1 = 1) (hF : f_J7_fill_fda19 X r0 N a1 a2 a3 = some out) : m_Call d yJ7_fill_fda19 cJ7_fill_fda19 5 none [(.inr (.inr r0)), (.inl a1), (.inl a2), (.inl a3)] N X none out X := by
  refine m_mk (ls0 := [some (.inr (.inr r0)), some (.inl a1), some (.inl a2), some (.inl a3), none]) (by decide) rfl (Nat.le_of_ble_eq_true rfl) (Nat.le_refl _) (Nat.le_refl _) (fun Ω hE => ?_)
  have hG := hE.G
  unfold f_J7_fill_fda19 at hF
  refine s_aload_n hG dJ7_fill_fda19_0 rfl ?_
  obtain ⟨g1, hF⟩ := gd_some hF
  refine s_alen1j (v := ((xK X r0).2 : Int)) hG dJ7_fill_fda19_1 (m_k1 h0) g1 rfl ?_
  refine s_iload_n hG dJ7_fill_fda19_2 rfl ?_
  refine s_iload_n hG dJ7_fill_fda19_3 rfl ?_
  obtain ⟨o2, ho2, hF⟩ := bd_some hF
  refine s_callS (d' := d - 1) (args := [.inl ((xK X r0).2 : Int), .inl a1, .inl a2]) hG (by omega) dJ7_fill_fda19_4 cs_RJ7_13 cw_J7_rangeCheck_23922 rfl (Nat.le_of_ble_eq_true rfl) rfl (t_J7_rangeCheck_23922 hsk (by omega) ho2) ?_
  refine s_iload_n hG dJ7_fill_fda19_7 rfl ?_
  refine s_istore hG dJ7_fill_fda19_8 (by decide) rfl ?_
  obtain ⟨o6, hlo6, hF⟩ := bd_some hF
  refine m_weak (ls1 := [some (.inr (.inr r0)), none, some (.inl a2), some (.inl a3), some (.inl a1)]) hG ⟨rfl, ⟨rfl, ⟨rfl, ⟨rfl, trivial⟩⟩⟩⟩ ?_
  refine t_J7_fill_fda19_lp10 hsk hd h0 hG ?_ hlo6
  cases hF
  exact s_vret hE dJ7_fill_fda19_27 rfl
-- X10_settle
theorem t_X10_settle {d : Nat} {X : MX} {r0 : Nat} {N : NN} {a1 : Int} {a2 : Int} {out : NN} (hsk : m_Sk X) (hd : 1 ≤ d) (h0 : m_isW X r0) (hF : f_X10_settle X r0 N a1 a2 = some out) : m_Call d yX10_settle cX10_settle 3 none [(.inr (.inr r0)), (.inl a1), (.inl a2)] N X none out X := by
  refine m_mk (ls0 := [some (.inr (.inr r0)), some (.inl a1), some (.inl a2)]) (by decide) rfl (Nat.le_of_ble_eq_true rfl) (Nat.le_refl _) (Nat.le_refl _) (fun Ω hE => ?_)
  have hG := hE.G
  unfold f_X10_settle at hF
  refine s_aload_n hG dX10_settle_0 rfl ?_
  refine s_getr (r := (r0 + 1)) hG dX10_settle_1 fl_RX10_11 h0.1 rfl h0.2.1 ?_
  refine s_bipush hG dX10_settle_4 bp_119 ⟨by decide, by decide⟩ ?_
  refine s_iload_n hG dX10_settle_6 rfl ?_
  refine s_bipush hG dX10_settle_7 bp_6 ⟨by decide, by decide⟩ ?_
  refine s_imul hG dX10_settle_9 ?_
  refine s_iadd hG dX10_settle_10 ?_
  refine s_iload_n hG dX10_settle_11 rfl ?_
  refine s_iadd hG dX10_settle_12 ?_
  refine s_iconst hG dX10_settle_13 ⟨by decide, by decide⟩ ?_
  obtain ⟨g1, hF⟩ := gd_some hF
  refine s_iastj (j := (m_w ((m_w (119 + (m_w (a1 * 6)))) + a2)).toNat) hG dX10_settle_14 h0.2.2.2.1 g1 rfl ?_
  cases hF
  exact s_vret hE dX10_settle_15 rfl
-- X10_since
theorem t_X10_since {d : Nat} {X : MX} {N : NN} {r0 : Nat} {a1 : Int} {a2 : Int} {out : Int} (hsk : m_Sk X) (hd : 1 ≤ d) (h0 : m_isW X r0) (hF : f_X10_since X N r0 a1 a2 = some out) : m_Call d yX10_since cX10_since 3 (some .int) [(.inr (.inr r0)), (.inl a1), (.inl a2)] N X (some (.inl out)) N X := by
  refine m_mk (ls0 := [some (.inr (.inr r0)), some (.inl a1), some (.inl a2)]) (by decide) rfl (Nat.le_of_ble_eq_true rfl) (Nat.le_refl _) (Nat.le_refl _) (fun Ω hE => ?_)
  have hG := hE.G
  unfold f_X10_since at hF
  refine s_aload_n hG dX10_since_0 rfl ?_
  refine s_getr (r := (r0 + 1)) hG dX10_since_1 fl_RX10_11 h0.1 rfl h0.2.1 ?_
  refine s_sipush hG dX10_since_4 sp_155 ⟨by decide, by decide⟩ ?_
  refine s_iload_n hG dX10_since_7 rfl ?_
  refine s_bipush hG dX10_since_8 bp_6 ⟨by decide, by decide⟩ ?_
  refine s_imul hG dX10_since_10 ?_
  refine s_iadd hG dX10_since_11 ?_
  refine s_iload_n hG dX10_since_12 rfl ?_
  refine s_iadd hG dX10_since_13 ?_
  obtain ⟨g1, hF⟩ := gd_some hF
  refine s_ialdj (j := (m_w ((m_w (155 + (m_w (a1 * 6)))) + a2)).toNat) hG dX10_since_14 h0.2.2.2.1 g1 rfl ?_
  cases hF
  exact s_iret hE dX10_since_15 rfl
-- X10_stand
theorem t_X10_stand {d : Nat} {X : MX} {r0 : Nat} {N : NN} {a1 : Int} {a2 : Int} {a3 : Int} {a4 : Int} {out : NN} (hsk : m_Sk X) (hd : 1 ≤ d) (h0 : m_isW X r0) (hF : f_X10_stand X r0 N a1 a2 a3 a4 = some out) : m_Call d yX10_stand cX10_stand 5 none [(.inr (.inr r0)), (.inl a1), (.inl a2), (.inl a3), (.inl a4)] N X none out X := by
  refine m_mk (ls0 := [some (.inr (.inr r0)), some (.inl a1), some (.inl a2), some (.inl a3), some (.inl a4)]) (by decide) rfl (Nat.le_of_ble_eq_true rfl) (Nat.le_refl _) (Nat.le_refl _) (fun Ω hE => ?_)
  have hG := hE.G
  unfold f_X10_stand at hF
  refine s_aload_n hG dX10_stand_0 rfl ?_
  refine s_getr (r := (r0 + 1)) hG dX10_stand_1 fl_RX10_11 h0.1 rfl h0.2.1 ?_
  refine s_bipush hG dX10_stand_4 bp_119 ⟨by decide, by decide⟩ ?_
  refine s_iload_n hG dX10_stand_6 rfl ?_
  refine s_bipush hG dX10_stand_7 bp_6 ⟨by decide, by decide⟩ ?_
  refine s_imul hG dX10_stand_9 ?_
  refine s_iadd hG dX10_stand_10 ?_
  refine s_iload_n hG dX10_stand_11 rfl ?_
  refine s_iadd hG dX10_stand_12 ?_
  refine s_iload_n hG dX10_stand_13 rfl ?_
  obtain ⟨g1, hF⟩ := gd_some hF
  refine s_iastj (j := (m_w ((m_w (119 + (m_w (a1 * 6)))) + a2)).toNat) hG dX10_stand_14 h0.2.2.2.1 g1 rfl ?_
  refine s_aload_n hG dX10_stand_15 rfl ?_
  refine s_getr (r := (r0 + 1)) hG dX10_stand_16 fl_RX10_11 h0.1 rfl h0.2.1 ?_
  refine s_sipush hG dX10_stand_19 sp_155 ⟨by decide, by decide⟩ ?_
  refine s_iload_n hG dX10_stand_22 rfl ?_
  refine s_bipush hG dX10_stand_23 bp_6 ⟨by decide, by decide⟩ ?_
  refine s_imul hG dX10_stand_25 ?_
  refine s_iadd hG dX10_stand_26 ?_
  refine s_iload_n hG dX10_stand_27 rfl ?_
  refine s_iadd hG dX10_stand_28 ?_
  refine s_iload hG dX10_stand_29 rfl ?_
  obtain ⟨g3, hF⟩ := gd_some hF
  refine s_iastj (j := (m_w ((m_w (155 + (m_w (a1 * 6)))) + a2)).toNat) hG dX10_stand_31 h0.2.2.2.1 g3 rfl ?_
  cases hF
  exact s_vret hE dX10_stand_32 rfl
-- X10_term
theorem t_X10_term {d : Nat} {X : MX} {N : NN} {r0 : Nat} {a1 : Int} {out : Int} (hsk : m_Sk X) (hd : 1 ≤ d) (h0 : m_isW X r0) (hF : f_X10_term X N r0 a1 = some out) : m_Call d yX10_term cX10_term 2 (some .int) [(.inr (.inr r0)), (.inl a1)] N X (some (.inl out)) N X := by
  refine m_mk (ls0 := [some (.inr (.inr r0)), some (.inl a1)]) (by decide) rfl (Nat.le_of_ble_eq_true rfl) (Nat.le_refl _) (Nat.le_refl _) (fun Ω hE => ?_)
  have hG := hE.G
  unfold f_X10_term at hF
  refine s_aload_n hG dX10_term_0 rfl ?_
  refine s_getr (r := (r0 + 1)) hG dX10_term_1 fl_RX10_11 h0.1 rfl h0.2.1 ?_
  refine s_iload_n hG dX10_term_4 rfl ?_
  obtain ⟨g1, hF⟩ := gd_some hF
  refine s_ialdj (j := a1.toNat) hG dX10_term_5 h0.2.2.2.1 g1 rfl ?_
  cases hF
  exact s_iret hE dX10_term_6 rfl
-- X10_worthOwed
theorem t_X10_worthOwed {d : Nat} {X : MX} {N : NN} {r0 : Nat} {a1 : Int} {a2 : Int} {out : Int} (hsk : m_Sk X) (hd : 1 ≤ d) (h0 : m_isW X r0) (hF : f_X10_worthOwed X N r0 a1 a2 = some out) : m_Call d yX10_worthOwed cX10_worthOwed 3 (some .int) [(.inr (.inr r0)), (.inl a1), (.inl a2)] N X (some (.inl out)) N X := by
  refine m_mk (ls0 := [some (.inr (.inr r0)), some (.inl a1), some (.inl a2)]) (by decide) rfl (Nat.le_of_ble_eq_true rfl) (Nat.le_refl _) (Nat.le_refl _) (fun Ω hE => ?_)
  have hG := hE.G
  unfold f_X10_worthOwed at hF
  refine s_aload_n hG dX10_worthOwed_0 rfl ?_
  refine s_getr (r := (r0 + 1)) hG dX10_worthOwed_1 fl_RX10_11 h0.1 rfl h0.2.1 ?_
  refine s_bipush hG dX10_worthOwed_4 bp_119 ⟨by decide, by decide⟩ ?_
  refine s_iload_n hG dX10_worthOwed_6 rfl ?_
  refine s_bipush hG dX10_worthOwed_7 bp_6 ⟨by decide, by decide⟩ ?_
  refine s_imul hG dX10_worthOwed_9 ?_
  refine s_iadd hG dX10_worthOwed_10 ?_
  refine s_iload_n hG dX10_worthOwed_11 rfl ?_
  refine s_iadd hG dX10_worthOwed_12 ?_
  obtain ⟨g1, hF⟩ := gd_some hF
  refine s_ialdj (j := (m_w ((m_w (119 + (m_w (a1 * 6)))) + a2)).toNat) hG dX10_worthOwed_13 h0.2.2.2.1 g1 rfl ?_
  cases hF
  exact s_iret hE dX10_worthOwed_14 rfl
-- X0_challenge
theorem t_X0_challenge_j27 {d n0 s0 nF sF : Nat} {X : MX} {r0 : Nat} {Ω : Nat → MS → Prop} {N : NN} {a1 : Int} {a2 : Int} {a3 : Int} (hsk : m_Sk X) (hd : 2 ≤ d) (h0 : m_isW X r0) (hG : m_G d yX0_challenge.cls yX0_challenge.name cX0_challenge 6 n0 s0 nF sF Ω) {out : NN} (hE : m_Gd d yX0_challenge cX0_challenge 6 none X none out X Ω) (hF : f_X0_challenge_j27 X r0 N a1 a2 a3 = some out) : Ω 27 ([some (.inr (.inr r0)), some (.inl a1), some (.inl a2), some (.inl a3), none, none], [], N, X) := by
  unfold f_X0_challenge_j27 at hF
  refine s_aload_n hG dX0_challenge_27 rfl ?_
  refine s_iload_n hG dX0_challenge_28 rfl ?_
  refine s_iload_n hG dX0_challenge_29 rfl ?_
  obtain ⟨o5, ho5, hF⟩ := bd_some hF
  refine s_callV (d' := d - 1) (ci := 10) (args := [.inl a2, .inl a1]) hG (by omega) dX0_challenge_30 cv_RX0_56 cw_X10_worthOwed rfl rfl h0.1 (Nat.le_of_ble_eq_true rfl) rfl (t_X10_worthOwed hsk (by omega) h0 ho5) ?_
  refine s_istore hG dX0_challenge_33 (by decide) rfl ?_
  refine s_iload hG dX0_challenge_35 rfl ?_
  refine s_iconst hG dX0_challenge_37 ⟨by decide, by decide⟩ ?_
  refine s_icmp_ne hG 56 dX0_challenge_38 (by decide) (fun c10 => ?_) (fun c10 => ?_)
  · replace hF := Eq.trans (if_pos c10).symm hF
    refine s_aload_n hG dX0_challenge_41 rfl ?_
    refine s_iload_n hG dX0_challenge_42 rfl ?_
    refine s_iload_n hG dX0_challenge_43 rfl ?_
    refine s_iload_n hG dX0_challenge_44 rfl ?_
    refine s_aload_n hG dX0_challenge_45 rfl ?_
    refine s_iconst hG dX0_challenge_46 ⟨by decide, by decide⟩ ?_
    obtain ⟨o6, ho6, hF⟩ := bd_some hF
    refine s_callV (d' := d - 1) (ci := 10) (args := [.inl 0]) hG (by omega) dX0_challenge_47 cv_RX0_62 cw_X10_term rfl rfl h0.1 (Nat.le_of_ble_eq_true rfl) rfl (t_X10_term hsk (by omega) h0 ho6) ?_
    obtain ⟨o7, ho7, hF⟩ := bd_some hF
    refine s_callV (d' := d - 1) (ci := 10) (args := [.inl a2, .inl a1, .inl a3, .inl o6]) hG (by omega) dX0_challenge_50 cv_RX0_66 cw_X10_stand rfl rfl h0.1 (Nat.le_of_ble_eq_true rfl) rfl (t_X10_stand hsk (by omega) h0 ho7) ?_
    refine s_goto hG 74 dX0_challenge_53 (by decide) ?_
    cases hF
    exact s_vret hE dX0_challenge_74 rfl
  · replace hF := Eq.trans (if_neg c10).symm hF
    refine s_aload_n hG dX0_challenge_56 rfl ?_
    refine s_iload_n hG dX0_challenge_57 rfl ?_
    refine s_iload_n hG dX0_challenge_58 rfl ?_
    refine s_iload hG dX0_challenge_59 rfl ?_
    refine s_iload_n hG dX0_challenge_61 rfl ?_
    refine s_max hG (by omega) dX0_challenge_62 ml_RX0_70 lk_max_s lk_math lk_max_c (Nat.le_of_ble_eq_true rfl) ?_
    refine s_aload_n hG dX0_challenge_65 rfl ?_
    refine s_iload_n hG dX0_challenge_66 rfl ?_
    refine s_iload_n hG dX0_challenge_67 rfl ?_
    obtain ⟨o8, ho8, hF⟩ := bd_some hF
    refine s_callV (d' := d - 1) (ci := 10) (args := [.inl a2, .inl a1]) hG (by omega) dX0_challenge_68 cv_RX0_75 cw_X10_since rfl rfl h0.1 (Nat.le_of_ble_eq_true rfl) rfl (t_X10_since hsk (by omega) h0 ho8) ?_
    obtain ⟨o9, ho9, hF⟩ := bd_some hF
    refine s_callV (d' := d - 1) (ci := 10) (args := [.inl a2, .inl a1, .inl (m_max o5 a3), .inl o8]) hG (by omega) dX0_challenge_71 cv_RX0_66 cw_X10_stand rfl rfl h0.1 (Nat.le_of_ble_eq_true rfl) rfl (t_X10_stand hsk (by omega) h0 ho9) ?_
    cases hF
    exact s_vret hE dX0_challenge_74 rfl
theorem t_X0_challenge {d : Nat} {X : MX} {r0 : Nat} {N : NN} {a1 : Int} {a2 : Int} {a3 : Int} {out : NN} (hsk : m_Sk X) (hd : 2 ≤ d) (h0 : m_isW X r0) (hF : f_X0_challenge X r0 N a1 a2 a3 = some out) : m_Call d yX0_challenge cX0_challenge 6 none [(.inr (.inr r0)), (.inl a1), (.inl a2), (.inl a3)] N X none out X := by
  refine m_mk (ls0 := [some (.inr (.inr r0)), some (.inl a1), some (.inl a2), some (.inl a3), none, none]) (by decide) rfl (Nat.le_of_ble_eq_true rfl) (Nat.le_refl _) (Nat.le_refl _) (fun Ω hE => ?_)
  have hG := hE.G
  unfold f_X0_challenge at hF
  refine s_aload_n hG dX0_challenge_0 rfl ?_
  refine s_iload_n hG dX0_challenge_1 rfl ?_
  refine s_iload_n hG dX0_challenge_2 rfl ?_
  obtain ⟨o1, ho1, hF⟩ := bd_some hF
  refine s_callV (d' := d - 1) (ci := 10) (args := [.inl a1, .inl a2]) hG (by omega) dX0_challenge_3 cv_RX0_56 cw_X10_worthOwed rfl rfl h0.1 (Nat.le_of_ble_eq_true rfl) rfl (t_X10_worthOwed hsk (by omega) h0 ho1) ?_
  refine s_istore hG dX0_challenge_6 (by decide) rfl ?_
  refine s_iload hG dX0_challenge_8 rfl ?_
  refine s_iconst hG dX0_challenge_10 ⟨by decide, by decide⟩ ?_
  refine s_icmp_eq hG 27 dX0_challenge_11 (by decide) (fun c4 => ?_) (fun c4 => ?_)
  · replace hF := Eq.trans (if_pos c4).symm hF
    refine m_weak (ls1 := [some (.inr (.inr r0)), some (.inl a1), some (.inl a2), some (.inl a3), none, none]) hG ⟨rfl, ⟨rfl, ⟨rfl, ⟨rfl, trivial⟩⟩⟩⟩ ?_
    exact t_X0_challenge_j27 hsk hd h0 hG hE hF
  · replace hF := Eq.trans (if_neg c4).symm hF
    refine s_iload_n hG dX0_challenge_14 rfl ?_
    refine s_iload hG dX0_challenge_15 rfl ?_
    refine s_icmp_gt hG 21 dX0_challenge_17 (by decide) (fun c3 => ?_) (fun c3 => ?_)
    · replace hF := Eq.trans (if_pos c3).symm hF
      refine s_aload_n hG dX0_challenge_21 rfl ?_
      refine s_iload_n hG dX0_challenge_22 rfl ?_
      refine s_iload_n hG dX0_challenge_23 rfl ?_
      obtain ⟨o2, ho2, hF⟩ := bd_some hF
      refine s_callV (d' := d - 1) (ci := 10) (args := [.inl a1, .inl a2]) hG (by omega) dX0_challenge_24 cv_RX0_59 cw_X10_settle rfl rfl h0.1 (Nat.le_of_ble_eq_true rfl) rfl (t_X10_settle hsk (by omega) h0 ho2) ?_
      refine m_weak (ls1 := [some (.inr (.inr r0)), some (.inl a1), some (.inl a2), some (.inl a3), none, none]) hG ⟨rfl, ⟨rfl, ⟨rfl, ⟨rfl, trivial⟩⟩⟩⟩ ?_
      exact t_X0_challenge_j27 hsk hd h0 hG hE hF
    · replace hF := Eq.trans (if_neg c3).symm hF
      cases hF
      exact s_vret hE dX0_challenge_20 rfl
-- X0_draw
theorem t_X0_draw_j36 {d n0 s0 nF sF : Nat} {X : MX} {Ω : Nat → MS → Prop} {N : NN} {z0 : Int} (hsk : m_Sk X) (hd : 1 ≤ d) (hG : m_G d yX0_draw.cls yX0_draw.name cX0_draw 2 n0 s0 nF sF Ω) {out : (Int × NN)} (hE : m_Gd d yX0_draw cX0_draw 2 (some .int) X (some (.inl out.1)) out.2 X Ω) (hF : f_X0_draw_j36 X N z0 = some out) : Ω 36 ([none, none], [(.inl z0)], N, X) := by
  unfold f_X0_draw_j36 at hF
  cases hF
  exact s_iret hE dX0_draw_36 rfl
theorem t_X0_draw {d : Nat} {X : MX} {N : NN} {a1 : Int} {out : (Int × NN)} (hsk : m_Sk X) (hd : 1 ≤ d) (hF : f_X0_draw X N a1 = some out) : m_Call d yX0_draw cX0_draw 2 (some .int) [(.inr (.inr 29)), (.inl a1)] N X (some (.inl out.1)) out.2 X := by
  refine m_mk (ls0 := [some (.inr (.inr 29)), some (.inl a1)]) (by decide) rfl (Nat.le_of_ble_eq_true rfl) (Nat.le_refl _) (Nat.le_refl _) (fun Ω hE => ?_)
  have hG := hE.G
  unfold f_X0_draw at hF
  refine s_aload_n hG dX0_draw_0 rfl ?_
  refine s_aload_n hG dX0_draw_1 rfl ?_
  refine s_getl hG dX0_draw_2 fl_RX0_18 (sk_k hsk 29 rfl) rfl ?_
  refine s_ldc2 hG dX0_draw_5 kc_RX0_122 ⟨by decide, by decide⟩ ?_
  refine s_lmul hG dX0_draw_8 ?_
  refine s_ldc2 hG dX0_draw_9 kc_RX0_124 ⟨by decide, by decide⟩ ?_
  refine s_ladd hG dX0_draw_12 ?_
  refine s_ldc2 hG dX0_draw_13 kc_RX0_126 ⟨by decide, by decide⟩ ?_
  refine s_lrem hG dX0_draw_16 (by decide) ?_
  refine s_putl hG dX0_draw_17 fl_RX0_18 (fun h => by cases h) (sk_k hsk 29 rfl) rfl ?_
  refine s_iload_n hG dX0_draw_20 rfl ?_
  refine s_if_le hG 35 dX0_draw_21 (by decide) (fun c3 => ?_) (fun c3 => ?_)
  · replace hF := Eq.trans (if_pos c3).symm hF
    refine s_aload_n hG dX0_draw_24 rfl ?_
    refine s_getl hG dX0_draw_25 fl_RX0_18 (sk_k hsk 29 rfl) rfl ?_
    refine s_iload_n hG dX0_draw_28 rfl ?_
    refine s_i2l hG dX0_draw_29 ?_
    obtain ⟨g2, hF⟩ := gd_some hF
    refine s_lrem hG dX0_draw_30 g2 ?_
    refine s_l2i hG dX0_draw_31 ?_
    refine s_goto hG 36 dX0_draw_32 (by decide) ?_
    refine m_weak (ls1 := [none, none]) hG trivial ?_
    exact t_X0_draw_j36 hsk hd hG hE hF
  · replace hF := Eq.trans (if_neg c3).symm hF
    refine s_iconst hG dX0_draw_35 ⟨by decide, by decide⟩ ?_
    refine m_weak (ls1 := [none, none]) hG trivial ?_
    exact t_X0_draw_j36 hsk hd hG hE hF
-- X10_many
theorem t_X10_many {d : Nat} {X : MX} {N : NN} {r0 : Nat} {a1 : Int} {out : Int} (hsk : m_Sk X) (hd : 1 ≤ d) (h0 : m_isW X r0) (hF : f_X10_many X N r0 a1 = some out) : m_Call d yX10_many cX10_many 2 (some .int) [(.inr (.inr r0)), (.inl a1)] N X (some (.inl out)) N X := by
  refine m_mk (ls0 := [some (.inr (.inr r0)), some (.inl a1)]) (by decide) rfl (Nat.le_of_ble_eq_true rfl) (Nat.le_refl _) (Nat.le_refl _) (fun Ω hE => ?_)
  have hG := hE.G
  unfold f_X10_many at hF
  refine s_aload_n hG dX10_many_0 rfl ?_
  refine s_getr (r := (r0 + 1)) hG dX10_many_1 fl_RX10_11 h0.1 rfl h0.2.1 ?_
  refine s_sipush hG dX10_many_4 sp_191 ⟨by decide, by decide⟩ ?_
  refine s_iload_n hG dX10_many_7 rfl ?_
  refine s_iadd hG dX10_many_8 ?_
  obtain ⟨g1, hF⟩ := gd_some hF
  refine s_ialdj (j := (m_w (191 + a1)).toNat) hG dX10_many_9 h0.2.2.2.1 g1 rfl ?_
  cases hF
  exact s_iret hE dX10_many_10 rfl
-- X0_dropAllOf
theorem t_X0_dropAllOf_b2 {d n0 s0 nF sF : Nat} {X : MX} {r0 : Nat} {Ω : Nat → MS → Prop} {N : NN} {a1 : Int} {a2 : Int} (hsk : m_Sk X) (hd : 2 ≤ d) (h0 : m_isW X r0) (hG : m_G d yX0_dropAllOf.cls yX0_dropAllOf.name cX0_dropAllOf 3 n0 s0 nF sF Ω) {out : ((NN × Int × Int) ⊕ NN)} (hK0 : ∀ s' : (NN × Int × Int), out = .inl s' → Ω 2 ([some (.inr (.inr r0)), some (.inl (s'.2.1)), some (.inl (s'.2.2))], [], s'.1, X)) (hK1 : ∀ t : NN, out = .inr t → Ω 29 ([none, none, none], [], t, X)) (hF : b_X0_dropAllOf_2 X r0 N a1 a2 = some out) : Ω 2 ([some (.inr (.inr r0)), some (.inl a1), some (.inl a2)], [], N, X) := by
  unfold b_X0_dropAllOf_2 at hF
  refine s_iload_n hG dX0_dropAllOf_2 rfl ?_
  refine s_aload_n hG dX0_dropAllOf_3 rfl ?_
  refine s_iconst hG dX0_dropAllOf_4 ⟨by decide, by decide⟩ ?_
  obtain ⟨o1, ho1, hF⟩ := bd_some hF
  refine s_callV (d' := d - 1) (ci := 10) (args := [.inl 0]) hG (by omega) dX0_dropAllOf_5 cv_RX0_81 cw_X10_many rfl rfl h0.1 (Nat.le_of_ble_eq_true rfl) rfl (t_X10_many hsk (by omega) h0 ho1) ?_
  refine s_icmp_ge hG 29 dX0_dropAllOf_8 (by decide) (fun c4 => ?_) (fun c4 => ?_)
  · replace hF := Eq.trans (if_pos c4).symm hF
    refine s_aload_n hG dX0_dropAllOf_11 rfl ?_
    refine s_iload_n hG dX0_dropAllOf_12 rfl ?_
    refine s_iload_n hG dX0_dropAllOf_13 rfl ?_
    obtain ⟨o2, ho2, hF⟩ := bd_some hF
    refine s_callV (d' := d - 1) (ci := 10) (args := [.inl a1, .inl a2]) hG (by omega) dX0_dropAllOf_14 cv_RX0_59 cw_X10_settle rfl rfl h0.1 (Nat.le_of_ble_eq_true rfl) rfl (t_X10_settle hsk (by omega) h0 ho2) ?_
    refine s_aload_n hG dX0_dropAllOf_17 rfl ?_
    refine s_iload_n hG dX0_dropAllOf_18 rfl ?_
    refine s_iload_n hG dX0_dropAllOf_19 rfl ?_
    obtain ⟨o3, ho3, hF⟩ := bd_some hF
    refine s_callV (d' := d - 1) (ci := 10) (args := [.inl a2, .inl a1]) hG (by omega) dX0_dropAllOf_20 cv_RX0_59 cw_X10_settle rfl rfl h0.1 (Nat.le_of_ble_eq_true rfl) rfl (t_X10_settle hsk (by omega) h0 ho3) ?_
    refine s_iinc hG dX0_dropAllOf_23 (by decide) rfl rfl ?_
    refine s_goto hG 2 dX0_dropAllOf_26 (by decide) ?_
    cases hF
    exact hK0 _ rfl
  · replace hF := Eq.trans (if_neg c4).symm hF
    cases hF
    refine m_weak (ls1 := [none, none, none]) hG trivial ?_
    exact hK1 _ rfl
theorem t_X0_dropAllOf_lp2 {d n0 s0 nF sF : Nat} {X : MX} {r0 : Nat} {Ω : Nat → MS → Prop} {N : NN} {a1 : Int} {a2 : Int} (hsk : m_Sk X) (hd : 2 ≤ d) (h0 : m_isW X r0) (hG : m_G d yX0_dropAllOf.cls yX0_dropAllOf.name cX0_dropAllOf 3 n0 s0 nF sF Ω) {t : NN} (hK1 : Ω 29 ([none, none, none], [], t, X)) (hl : lp (fun s => b_X0_dropAllOf_2 X r0 s.1 s.2.1 s.2.2) (N, a1, a2) = some t) : Ω 2 ([some (.inr (.inr r0)), some (.inl a1), some (.inl a2)], [], N, X) := by
  refine lp_ok (P := fun s => Ω 2 ([some (.inr (.inr r0)), some (.inl s.2.1), some (.inl s.2.2)], [], s.1, X)) (K := fun t => Ω 29 ([none, none, none], [], t, X)) (fun s out hF hK0 hK1 => ?_) hl hK1
  exact t_X0_dropAllOf_b2 hsk hd h0 hG (out := out) (fun s' e => hK0 s' e) (fun t' e => hK1 t' e) hF
theorem t_X0_dropAllOf {d : Nat} {X : MX} {r0 : Nat} {N : NN} {a1 : Int} {out : NN} (hsk : m_Sk X) (hd : 2 ≤ d) (h0 : m_isW X r0) (hF : f_X0_dropAllOf X r0 N a1 = some out) : m_Call d yX0_dropAllOf cX0_dropAllOf 3 none [(.inr (.inr r0)), (.inl a1)] N X none out X := by
  refine m_mk (ls0 := [some (.inr (.inr r0)), some (.inl a1), none]) (by decide) rfl (Nat.le_of_ble_eq_true rfl) (Nat.le_refl _) (Nat.le_refl _) (fun Ω hE => ?_)
  have hG := hE.G
  unfold f_X0_dropAllOf at hF
  refine s_iconst hG dX0_dropAllOf_0 ⟨by decide, by decide⟩ ?_
  refine s_istore_n hG dX0_dropAllOf_1 (by decide) rfl ?_
  obtain ⟨o5, hlo5, hF⟩ := bd_some hF
  refine t_X0_dropAllOf_lp2 hsk hd h0 hG ?_ hlo5
  cases hF
  exact s_vret hE dX0_dropAllOf_29 rfl
-- X10_goodAt
theorem t_X10_goodAt {d : Nat} {X : MX} {N : NN} {r0 : Nat} {a1 : Int} {a2 : Int} {out : Int} (hsk : m_Sk X) (hd : 1 ≤ d) (h0 : m_isW X r0) (hF : f_X10_goodAt X N r0 a1 a2 = some out) : m_Call d yX10_goodAt cX10_goodAt 3 (some .int) [(.inr (.inr r0)), (.inl a1), (.inl a2)] N X (some (.inl out)) N X := by
  refine m_mk (ls0 := [some (.inr (.inr r0)), some (.inl a1), some (.inl a2)]) (by decide) rfl (Nat.le_of_ble_eq_true rfl) (Nat.le_refl _) (Nat.le_refl _) (fun Ω hE => ?_)
  have hG := hE.G
  unfold f_X10_goodAt at hF
  refine s_aload_n hG dX10_goodAt_0 rfl ?_
  refine s_getr (r := (r0 + 1)) hG dX10_goodAt_1 fl_RX10_11 h0.1 rfl h0.2.1 ?_
  refine s_bipush hG dX10_goodAt_4 bp_39 ⟨by decide, by decide⟩ ?_
  refine s_iload_n hG dX10_goodAt_6 rfl ?_
  refine s_iconst hG dX10_goodAt_7 ⟨by decide, by decide⟩ ?_
  refine s_imul hG dX10_goodAt_8 ?_
  refine s_iadd hG dX10_goodAt_9 ?_
  refine s_iload_n hG dX10_goodAt_10 rfl ?_
  refine s_iadd hG dX10_goodAt_11 ?_
  obtain ⟨g1, hF⟩ := gd_some hF
  refine s_ialdj (j := (m_w ((m_w (39 + (m_w (a1 * 5)))) + a2)).toNat) hG dX10_goodAt_12 h0.2.2.2.1 g1 rfl ?_
  cases hF
  exact s_iret hE dX10_goodAt_13 rfl
-- X10_oneMoreOf
theorem t_X10_oneMoreOf {d : Nat} {X : MX} {r0 : Nat} {N : NN} {a1 : Int} {a2 : Int} {out : NN} (hsk : m_Sk X) (hd : 1 ≤ d) (h0 : m_isW X r0) (hF : f_X10_oneMoreOf X r0 N a1 a2 = some out) : m_Call d yX10_oneMoreOf cX10_oneMoreOf 3 none [(.inr (.inr r0)), (.inl a1), (.inl a2)] N X none out X := by
  refine m_mk (ls0 := [some (.inr (.inr r0)), some (.inl a1), some (.inl a2)]) (by decide) rfl (Nat.le_of_ble_eq_true rfl) (Nat.le_refl _) (Nat.le_refl _) (fun Ω hE => ?_)
  have hG := hE.G
  unfold f_X10_oneMoreOf at hF
  refine s_aload_n hG dX10_oneMoreOf_0 rfl ?_
  refine s_getr (r := (r0 + 1)) hG dX10_oneMoreOf_1 fl_RX10_11 h0.1 rfl h0.2.1 ?_
  refine s_iconst hG dX10_oneMoreOf_4 ⟨by decide, by decide⟩ ?_
  refine s_iload_n hG dX10_oneMoreOf_5 rfl ?_
  refine s_bipush hG dX10_oneMoreOf_6 bp_6 ⟨by decide, by decide⟩ ?_
  refine s_imul hG dX10_oneMoreOf_8 ?_
  refine s_iadd hG dX10_oneMoreOf_9 ?_
  refine s_iload_n hG dX10_oneMoreOf_10 rfl ?_
  refine s_iadd hG dX10_oneMoreOf_11 ?_
  refine s_dup2 hG dX10_oneMoreOf_12 rfl rfl ?_
  obtain ⟨g1, hF⟩ := gd_some hF
  refine s_ialdj (j := (m_w ((m_w (3 + (m_w (a1 * 6)))) + a2)).toNat) hG dX10_oneMoreOf_13 h0.2.2.2.1 g1 rfl ?_
  refine s_iconst hG dX10_oneMoreOf_14 ⟨by decide, by decide⟩ ?_
  refine s_iadd hG dX10_oneMoreOf_15 ?_
  obtain ⟨g2, hF⟩ := gd_some hF
  refine s_iastj (j := (m_w ((m_w (3 + (m_w (a1 * 6)))) + a2)).toNat) hG dX10_oneMoreOf_16 h0.2.2.2.1 g2 rfl ?_
  cases hF
  exact s_vret hE dX10_oneMoreOf_17 rfl
-- X10_setGood
theorem t_X10_setGood {d : Nat} {X : MX} {r0 : Nat} {N : NN} {a1 : Int} {a2 : Int} {a3 : Int} {out : NN} (hsk : m_Sk X) (hd : 1 ≤ d) (h0 : m_isW X r0) (hF : f_X10_setGood X r0 N a1 a2 a3 = some out) : m_Call d yX10_setGood cX10_setGood 4 none [(.inr (.inr r0)), (.inl a1), (.inl a2), (.inl a3)] N X none out X := by
  refine m_mk (ls0 := [some (.inr (.inr r0)), some (.inl a1), some (.inl a2), some (.inl a3)]) (by decide) rfl (Nat.le_of_ble_eq_true rfl) (Nat.le_refl _) (Nat.le_refl _) (fun Ω hE => ?_)
  have hG := hE.G
  unfold f_X10_setGood at hF
  refine s_aload_n hG dX10_setGood_0 rfl ?_
  refine s_getr (r := (r0 + 1)) hG dX10_setGood_1 fl_RX10_11 h0.1 rfl h0.2.1 ?_
  refine s_bipush hG dX10_setGood_4 bp_39 ⟨by decide, by decide⟩ ?_
  refine s_iload_n hG dX10_setGood_6 rfl ?_
  refine s_iconst hG dX10_setGood_7 ⟨by decide, by decide⟩ ?_
  refine s_imul hG dX10_setGood_8 ?_
  refine s_iadd hG dX10_setGood_9 ?_
  refine s_iload_n hG dX10_setGood_10 rfl ?_
  refine s_iadd hG dX10_setGood_11 ?_
  refine s_iload_n hG dX10_setGood_12 rfl ?_
  obtain ⟨g1, hF⟩ := gd_some hF
  refine s_iastj (j := (m_w ((m_w (39 + (m_w (a1 * 5)))) + a2)).toNat) hG dX10_setGood_13 h0.2.2.2.1 g1 rfl ?_
  cases hF
  exact s_vret hE dX10_setGood_14 rfl
-- X10_lawInForce
theorem t_X10_lawInForce_j35 {d n0 s0 nF sF : Nat} {X : MX} {N : NN} {r0 : Nat} {Ω : Nat → MS → Prop} {q0 : Nat} (hsk : m_Sk X) (hd : 1 ≤ d) (h0 : m_isW X r0) (hG : m_G d yX10_lawInForce.cls yX10_lawInForce.name cX10_lawInForce 2 n0 s0 nF sF Ω) {out : Nat} (hE : m_Gd d yX10_lawInForce cX10_lawInForce 2 (some (.object "GiftDuel$Text")) X (some (.inr (.inr out))) N X Ω) (hF : f_X10_lawInForce_j35 X N r0 q0 = some out) : Ω 35 ([none, none], [(.inr (.inr q0))], N, X) := by
  unfold f_X10_lawInForce_j35 at hF
  cases hF
  exact s_aret hE dX10_lawInForce_35 rfl
theorem t_X10_lawInForce_j34 {d n0 s0 nF sF : Nat} {X : MX} {N : NN} {r0 : Nat} {Ω : Nat → MS → Prop} (hsk : m_Sk X) (hd : 1 ≤ d) (h0 : m_isW X r0) (hG : m_G d yX10_lawInForce.cls yX10_lawInForce.name cX10_lawInForce 2 n0 s0 nF sF Ω) {out : Nat} (hE : m_Gd d yX10_lawInForce cX10_lawInForce 2 (some (.object "GiftDuel$Text")) X (some (.inr (.inr out))) N X Ω) (hF : f_X10_lawInForce_j34 X N r0 = some out) : Ω 34 ([none, none], [], N, X) := by
  unfold f_X10_lawInForce_j34 at hF
  refine s_null hG (by have := hsk.1; omega) dX10_lawInForce_34 ?_
  exact t_X10_lawInForce_j35 hsk hd h0 hG hE hF
theorem t_X10_lawInForce {d : Nat} {X : MX} {N : NN} {r0 : Nat} {out : Nat} (hsk : m_Sk X) (hd : 1 ≤ d) (h0 : m_isW X r0) (hF : f_X10_lawInForce X N r0 = some out) : m_Call d yX10_lawInForce cX10_lawInForce 2 (some (.object "GiftDuel$Text")) [(.inr (.inr r0))] N X (some (.inr (.inr out))) N X := by
  refine m_mk (ls0 := [some (.inr (.inr r0)), none]) (by decide) rfl (Nat.le_of_ble_eq_true rfl) (Nat.le_refl _) (Nat.le_refl _) (fun Ω hE => ?_)
  have hG := hE.G
  unfold f_X10_lawInForce at hF
  refine s_aload_n hG dX10_lawInForce_0 rfl ?_
  refine s_getr (r := (r0 + 1)) hG dX10_lawInForce_1 fl_RX10_11 h0.1 rfl h0.2.1 ?_
  refine s_sipush hG dX10_lawInForce_4 sp_196 ⟨by decide, by decide⟩ ?_
  refine s_ialdj (j := 196) hG dX10_lawInForce_7 h0.2.2.2.1 ⟨by decide, by decide⟩ rfl ?_
  refine s_istore_n hG dX10_lawInForce_8 (by decide) rfl ?_
  refine s_iload_n hG dX10_lawInForce_9 rfl ?_
  refine s_if_lt hG 34 dX10_lawInForce_10 (by decide) (fun c3 => ?_) (fun c3 => ?_)
  · replace hF := Eq.trans (if_pos c3).symm hF
    refine m_weak (ls1 := [none, none]) hG trivial ?_
    exact t_X10_lawInForce_j34 hsk hd h0 hG hE hF
  · replace hF := Eq.trans (if_neg c3).symm hF
    refine s_iload_n hG dX10_lawInForce_13 rfl ?_
    refine s_aload_n hG dX10_lawInForce_14 rfl ?_
    refine s_getr (r := (r0 + 1)) hG dX10_lawInForce_15 fl_RX10_11 h0.1 rfl h0.2.1 ?_
    refine s_sipush hG dX10_lawInForce_18 sp_195 ⟨by decide, by decide⟩ ?_
    refine s_ialdj (j := 195) hG dX10_lawInForce_21 h0.2.2.2.1 ⟨by decide, by decide⟩ rfl ?_
    refine s_icmp_ge hG 34 dX10_lawInForce_22 (by decide) (fun c2 => ?_) (fun c2 => ?_)
    · replace hF := Eq.trans (if_pos c2).symm hF
      refine s_aload_n hG dX10_lawInForce_25 rfl ?_
      refine s_getr (r := (r0 + 2)) hG dX10_lawInForce_26 fl_RX10_17 h0.1 rfl h0.2.2.1 ?_
      refine s_iload_n hG dX10_lawInForce_29 rfl ?_
      obtain ⟨g1, hF⟩ := gd_some hF
      refine s_aaldj (j := (N (r0 + 1) 196).toNat) hG dX10_lawInForce_30 h0.2.2.2.2 g1 rfl ?_
      refine s_goto hG 35 dX10_lawInForce_31 (by decide) ?_
      refine m_weak (ls1 := [none, none]) hG trivial ?_
      exact t_X10_lawInForce_j35 hsk hd h0 hG hE hF
    · replace hF := Eq.trans (if_neg c2).symm hF
      refine m_weak (ls1 := [none, none]) hG trivial ?_
      exact t_X10_lawInForce_j34 hsk hd h0 hG hE hF
-- X2_ask
theorem t_X2_ask {d : Nat} {X : MX} {r1 : Nat} {N : NN} {a2 : Int} {a3 : Int} {out : NN} (hsk : m_Sk X) (hd : 2 ≤ d) (h1 : m_isW X r1) (hF : f_X2_ask X r1 N a2 a3 = some out) : m_Call d yX2_ask cX2_ask 4 none [(.inr (.inr 25)), (.inr (.inr r1)), (.inl a2), (.inl a3)] N X none out X := by
  refine m_mk (ls0 := [some (.inr (.inr 25)), some (.inr (.inr r1)), some (.inl a2), some (.inl a3)]) (by decide) rfl (Nat.le_of_ble_eq_true rfl) (Nat.le_refl _) (Nat.le_refl _) (fun Ω hE => ?_)
  have hG := hE.G
  unfold f_X2_ask at hF
  refine s_aload_n hG dX2_ask_0 rfl ?_
  refine s_getr (r := 26) hG dX2_ask_1 fl_RX2_11 (sk_k hsk 25 rfl) rfl (sk_R hsk 25 0 rfl) ?_
  refine s_iconst hG dX2_ask_4 ⟨by decide, by decide⟩ ?_
  refine s_iload_n hG dX2_ask_5 rfl ?_
  refine s_iastj (j := 0) hG dX2_ask_6 (sk_K hsk 26 rfl) ⟨by decide, by decide⟩ rfl ?_
  refine s_aload_n hG dX2_ask_7 rfl ?_
  refine s_getr (r := 26) hG dX2_ask_8 fl_RX2_11 (sk_k hsk 25 rfl) rfl (sk_R hsk 25 0 rfl) ?_
  refine s_iconst hG dX2_ask_11 ⟨by decide, by decide⟩ ?_
  refine s_aload_n hG dX2_ask_12 rfl ?_
  refine s_iload_n hG dX2_ask_13 rfl ?_
  refine s_iconst hG dX2_ask_14 ⟨by decide, by decide⟩ ?_
  obtain ⟨o2, ho2, hF⟩ := bd_some hF
  refine s_callV (d' := d - 1) (ci := 10) (args := [.inl a2, .inl 2]) hG (by omega) dX2_ask_15 cv_RX2_39 cw_X10_goodAt rfl rfl h1.1 (Nat.le_of_ble_eq_true rfl) rfl (t_X10_goodAt hsk (by omega) h1 ho2) ?_
  refine s_iastj (j := 1) hG dX2_ask_18 (sk_K hsk 26 rfl) ⟨by decide, by decide⟩ rfl ?_
  refine s_aload_n hG dX2_ask_19 rfl ?_
  refine s_getr (r := 26) hG dX2_ask_20 fl_RX2_11 (sk_k hsk 25 rfl) rfl (sk_R hsk 25 0 rfl) ?_
  refine s_iconst hG dX2_ask_23 ⟨by decide, by decide⟩ ?_
  refine s_aload_n hG dX2_ask_24 rfl ?_
  refine s_iload_n hG dX2_ask_25 rfl ?_
  refine s_iconst hG dX2_ask_26 ⟨by decide, by decide⟩ ?_
  obtain ⟨o4, ho4, hF⟩ := bd_some hF
  refine s_callV (d' := d - 1) (ci := 10) (args := [.inl a2, .inl 3]) hG (by omega) dX2_ask_27 cv_RX2_39 cw_X10_goodAt rfl rfl h1.1 (Nat.le_of_ble_eq_true rfl) rfl (t_X10_goodAt hsk (by omega) h1 ho4) ?_
  refine s_iastj (j := 2) hG dX2_ask_30 (sk_K hsk 26 rfl) ⟨by decide, by decide⟩ rfl ?_
  refine s_aload_n hG dX2_ask_31 rfl ?_
  refine s_getr (r := 26) hG dX2_ask_32 fl_RX2_11 (sk_k hsk 25 rfl) rfl (sk_R hsk 25 0 rfl) ?_
  refine s_iconst hG dX2_ask_35 ⟨by decide, by decide⟩ ?_
  refine s_aload_n hG dX2_ask_36 rfl ?_
  refine s_iload_n hG dX2_ask_37 rfl ?_
  refine s_iconst hG dX2_ask_38 ⟨by decide, by decide⟩ ?_
  obtain ⟨o6, ho6, hF⟩ := bd_some hF
  refine s_callV (d' := d - 1) (ci := 10) (args := [.inl a2, .inl 4]) hG (by omega) dX2_ask_39 cv_RX2_39 cw_X10_goodAt rfl rfl h1.1 (Nat.le_of_ble_eq_true rfl) rfl (t_X10_goodAt hsk (by omega) h1 ho6) ?_
  refine s_iastj (j := 3) hG dX2_ask_42 (sk_K hsk 26 rfl) ⟨by decide, by decide⟩ rfl ?_
  refine s_aload_n hG dX2_ask_43 rfl ?_
  refine s_getr (r := 26) hG dX2_ask_44 fl_RX2_11 (sk_k hsk 25 rfl) rfl (sk_R hsk 25 0 rfl) ?_
  refine s_iconst hG dX2_ask_47 ⟨by decide, by decide⟩ ?_
  refine s_iconst hG dX2_ask_48 ⟨by decide, by decide⟩ ?_
  refine s_iastj (j := 4) hG dX2_ask_49 (sk_K hsk 26 rfl) ⟨by decide, by decide⟩ rfl ?_
  refine s_aload_n hG dX2_ask_50 rfl ?_
  refine s_getr (r := 26) hG dX2_ask_51 fl_RX2_11 (sk_k hsk 25 rfl) rfl (sk_R hsk 25 0 rfl) ?_
  refine s_iconst hG dX2_ask_54 ⟨by decide, by decide⟩ ?_
  refine s_iconst hG dX2_ask_55 ⟨by decide, by decide⟩ ?_
  refine s_iastj (j := 5) hG dX2_ask_56 (sk_K hsk 26 rfl) ⟨by decide, by decide⟩ rfl ?_
  refine s_aload_n hG dX2_ask_57 rfl ?_
  refine s_getr (r := 26) hG dX2_ask_58 fl_RX2_11 (sk_k hsk 25 rfl) rfl (sk_R hsk 25 0 rfl) ?_
  refine s_bipush hG dX2_ask_61 bp_6 ⟨by decide, by decide⟩ ?_
  refine s_iload_n hG dX2_ask_63 rfl ?_
  refine s_iastj (j := 6) hG dX2_ask_64 (sk_K hsk 26 rfl) ⟨by decide, by decide⟩ rfl ?_
  refine s_aload_n hG dX2_ask_65 rfl ?_
  refine s_getr (r := 26) hG dX2_ask_66 fl_RX2_11 (sk_k hsk 25 rfl) rfl (sk_R hsk 25 0 rfl) ?_
  refine s_bipush hG dX2_ask_69 bp_7 ⟨by decide, by decide⟩ ?_
  refine s_iconst hG dX2_ask_71 ⟨by decide, by decide⟩ ?_
  refine s_iastj (j := 7) hG dX2_ask_72 (sk_K hsk 26 rfl) ⟨by decide, by decide⟩ rfl ?_
  refine s_aload_n hG dX2_ask_73 rfl ?_
  refine s_getr (r := 26) hG dX2_ask_74 fl_RX2_11 (sk_k hsk 25 rfl) rfl (sk_R hsk 25 0 rfl) ?_
  refine s_bipush hG dX2_ask_77 bp_8 ⟨by decide, by decide⟩ ?_
  refine s_aload_n hG dX2_ask_79 rfl ?_
  refine s_iconst hG dX2_ask_80 ⟨by decide, by decide⟩ ?_
  obtain ⟨o12, ho12, hF⟩ := bd_some hF
  refine s_callV (d' := d - 1) (ci := 10) (args := [.inl 2]) hG (by omega) dX2_ask_81 cv_RX2_25 cw_X10_term rfl rfl h1.1 (Nat.le_of_ble_eq_true rfl) rfl (t_X10_term hsk (by omega) h1 ho12) ?_
  refine s_iastj (j := 8) hG dX2_ask_84 (sk_K hsk 26 rfl) ⟨by decide, by decide⟩ rfl ?_
  cases hF
  exact s_vret hE dX2_ask_85 rfl
-- X8_clauses
theorem t_X8_clauses {d : Nat} {X : MX} {N : NN} {r0 : Nat} {out : Int} (hsk : m_Sk X) (hd : 1 ≤ d) (h0 : m_isT X r0) (hF : f_X8_clauses X N r0 = some out) : m_Call d yX8_clauses cX8_clauses 1 (some .int) [(.inr (.inr r0))] N X (some (.inl out)) N X := by
  refine m_mk (ls0 := [some (.inr (.inr r0))]) (by decide) rfl (Nat.le_of_ble_eq_true rfl) (Nat.le_refl _) (Nat.le_refl _) (fun Ω hE => ?_)
  have hG := hE.G
  unfold f_X8_clauses at hF
  refine s_aload_n hG dX8_clauses_0 rfl ?_
  refine s_geti hG dX8_clauses_1 fl_RX8_29 h0.1 rfl ?_
  cases hF
  exact s_iret hE dX8_clauses_4 rfl
-- X8_value
theorem t_X8_value_l32_j119 {d n0 s0 nF sF : Nat} {X : MX} {r0 : Nat} {r3 : Nat} {r4 : Nat} {Ω : Nat → MS → Prop} {N : NN} {a5 : Int} {a6 : Int} {a7 : Int} {z1 : Int} {z2 : Int} (hsk : m_Sk X) (hd : 1 ≤ d) (h0 : m_isT X r0) (h3 : (xK X r3).1 = 1) (h4 : (xK X r4).1 = 1) (hG : m_G d yX8_value.cls yX8_value.name cX8_value 16 n0 s0 nF sF Ω) {out : ((NN × Int × Int × Int) ⊕ ((NN × Int) ⊕ (NN ⊕ (NN ⊕ (NN ⊕ NN)))))} (hK0 : ∀ s' : (NN × Int × Int × Int), out = .inl s' → Ω 32 ([some (.inr (.inr r0)), none, none, some (.inr (.inr r3)), some (.inr (.inr r4)), some (.inl (s'.2.1)), some (.inl (s'.2.2.1)), some (.inl (s'.2.2.2)), none, none, none, none, none, none, none, none], [], s'.1, X)) (hK1 : ∀ t : ((NN × Int) ⊕ (NN ⊕ (NN ⊕ (NN ⊕ NN)))), out = .inr t → match t with | .inl e => Ω 466 ([none, none, none, none, some (.inr (.inr r4)), some (.inl e.2), none, none, none, none, none, none, none, none, none, none], [], e.1, X) | .inr (.inl e) => Ω 97 ([none, none, none, none, none, none, none, none, none, none, none, none, none, none, none, none], [], e, X) | .inr (.inr (.inl e)) => Ω 143 ([none, none, none, none, none, none, none, none, none, none, none, none, none, none, none, none], [], e, X) | .inr (.inr (.inr (.inl e))) => Ω 282 ([none, none, none, none, none, none, none, none, none, none, none, none, none, none, none, none], [], e, X) | .inr (.inr (.inr (.inr e))) => Ω 447 ([none, none, none, none, none, none, none, none, none, none, none, none, none, none, none, none], [], e, X)) (hF : f_X8_value_l32_j119 X r0 r3 r4 N a5 a6 a7 z1 z2 = some out) : Ω 119 ([some (.inr (.inr r0)), none, none, some (.inr (.inr r3)), some (.inr (.inr r4)), some (.inl a5), some (.inl a6), some (.inl a7), none, none, none, none, none, none, none, none], [(.inl z2), (.inl z1), (.inr (.inr r4))], N, X) := by
  unfold f_X8_value_l32_j119 at hF
  obtain ⟨g44, hF⟩ := gd_some hF
  refine s_iastj (j := z1.toNat) hG dX8_value_119 (m_k1 h4) g44 rfl ?_
  refine s_iinc hG dX8_value_120 (by decide) rfl rfl ?_
  refine s_goto hG 463 dX8_value_123 (by decide) ?_
  refine s_goto hG 32 dX8_value_463 (by decide) ?_
  cases hF
  exact hK0 _ rfl
theorem t_X8_value_l32_j100 {d n0 s0 nF sF : Nat} {X : MX} {r0 : Nat} {r3 : Nat} {r4 : Nat} {Ω : Nat → MS → Prop} {N : NN} {a5 : Int} {a6 : Int} {a7 : Int} {a8 : Int} {a9 : Int} (hsk : m_Sk X) (hd : 1 ≤ d) (h0 : m_isT X r0) (h3 : (xK X r3).1 = 1) (h4 : (xK X r4).1 = 1) (hG : m_G d yX8_value.cls yX8_value.name cX8_value 16 n0 s0 nF sF Ω) {out : ((NN × Int × Int × Int) ⊕ ((NN × Int) ⊕ (NN ⊕ (NN ⊕ (NN ⊕ NN)))))} (hK0 : ∀ s' : (NN × Int × Int × Int), out = .inl s' → Ω 32 ([some (.inr (.inr r0)), none, none, some (.inr (.inr r3)), some (.inr (.inr r4)), some (.inl (s'.2.1)), some (.inl (s'.2.2.1)), some (.inl (s'.2.2.2)), none, none, none, none, none, none, none, none], [], s'.1, X)) (hK1 : ∀ t : ((NN × Int) ⊕ (NN ⊕ (NN ⊕ (NN ⊕ NN)))), out = .inr t → match t with | .inl e => Ω 466 ([none, none, none, none, some (.inr (.inr r4)), some (.inl e.2), none, none, none, none, none, none, none, none, none, none], [], e.1, X) | .inr (.inl e) => Ω 97 ([none, none, none, none, none, none, none, none, none, none, none, none, none, none, none, none], [], e, X) | .inr (.inr (.inl e)) => Ω 143 ([none, none, none, none, none, none, none, none, none, none, none, none, none, none, none, none], [], e, X) | .inr (.inr (.inr (.inl e))) => Ω 282 ([none, none, none, none, none, none, none, none, none, none, none, none, none, none, none, none], [], e, X) | .inr (.inr (.inr (.inr e))) => Ω 447 ([none, none, none, none, none, none, none, none, none, none, none, none, none, none, none, none], [], e, X)) (hF : f_X8_value_l32_j100 X r0 r3 r4 N a5 a6 a7 a8 a9 = some out) : Ω 100 ([some (.inr (.inr r0)), none, none, some (.inr (.inr r3)), some (.inr (.inr r4)), some (.inl a5), some (.inl a6), some (.inl a7), some (.inl a8), some (.inl a9), none, none, none, none, none, none], [], N, X) := by
  unfold f_X8_value_l32_j100 at hF
  refine s_aload hG dX8_value_100 rfl ?_
  refine s_iload hG dX8_value_102 rfl ?_
  refine s_iload hG dX8_value_104 rfl ?_
  refine s_iconst hG dX8_value_106 ⟨by decide, by decide⟩ ?_
  refine s_icmp_ne hG 117 dX8_value_107 (by decide) (fun c28 => ?_) (fun c28 => ?_)
  · replace hF := Eq.trans (if_pos c28).symm hF
    refine s_aload_n hG dX8_value_110 rfl ?_
    refine s_iload hG dX8_value_111 rfl ?_
    obtain ⟨g27, hF⟩ := gd_some hF
    refine s_ialdj (j := a9.toNat) hG dX8_value_113 (m_k1 h3) g27 rfl ?_
    refine s_goto hG 119 dX8_value_114 (by decide) ?_
    refine m_weak (ls1 := [some (.inr (.inr r0)), none, none, some (.inr (.inr r3)), some (.inr (.inr r4)), some (.inl a5), some (.inl a6), some (.inl a7), none, none, none, none, none, none, none, none]) hG ⟨rfl, ⟨rfl, ⟨rfl, ⟨rfl, ⟨rfl, ⟨rfl, trivial⟩⟩⟩⟩⟩⟩ ?_
    exact t_X8_value_l32_j119 hsk hd h0 h3 h4 hG hK0 hK1 hF
  · replace hF := Eq.trans (if_neg c28).symm hF
    refine s_iload hG dX8_value_117 rfl ?_
    refine m_weak (ls1 := [some (.inr (.inr r0)), none, none, some (.inr (.inr r3)), some (.inr (.inr r4)), some (.inl a5), some (.inl a6), some (.inl a7), none, none, none, none, none, none, none, none]) hG ⟨rfl, ⟨rfl, ⟨rfl, ⟨rfl, ⟨rfl, ⟨rfl, trivial⟩⟩⟩⟩⟩⟩ ?_
    exact t_X8_value_l32_j119 hsk hd h0 h3 h4 hG hK0 hK1 hF
theorem t_X8_value_l32_j71 {d n0 s0 nF sF : Nat} {X : MX} {r0 : Nat} {r3 : Nat} {r4 : Nat} {Ω : Nat → MS → Prop} {N : NN} {a5 : Int} {a6 : Int} {a7 : Int} {a8 : Int} {a9 : Int} (hsk : m_Sk X) (hd : 1 ≤ d) (h0 : m_isT X r0) (h3 : (xK X r3).1 = 1) (h4 : (xK X r4).1 = 1) (hG : m_G d yX8_value.cls yX8_value.name cX8_value 16 n0 s0 nF sF Ω) {out : ((NN × Int × Int × Int) ⊕ ((NN × Int) ⊕ (NN ⊕ (NN ⊕ (NN ⊕ NN)))))} (hK0 : ∀ s' : (NN × Int × Int × Int), out = .inl s' → Ω 32 ([some (.inr (.inr r0)), none, none, some (.inr (.inr r3)), some (.inr (.inr r4)), some (.inl (s'.2.1)), some (.inl (s'.2.2.1)), some (.inl (s'.2.2.2)), none, none, none, none, none, none, none, none], [], s'.1, X)) (hK1 : ∀ t : ((NN × Int) ⊕ (NN ⊕ (NN ⊕ (NN ⊕ NN)))), out = .inr t → match t with | .inl e => Ω 466 ([none, none, none, none, some (.inr (.inr r4)), some (.inl e.2), none, none, none, none, none, none, none, none, none, none], [], e.1, X) | .inr (.inl e) => Ω 97 ([none, none, none, none, none, none, none, none, none, none, none, none, none, none, none, none], [], e, X) | .inr (.inr (.inl e)) => Ω 143 ([none, none, none, none, none, none, none, none, none, none, none, none, none, none, none, none], [], e, X) | .inr (.inr (.inr (.inl e))) => Ω 282 ([none, none, none, none, none, none, none, none, none, none, none, none, none, none, none, none], [], e, X) | .inr (.inr (.inr (.inr e))) => Ω 447 ([none, none, none, none, none, none, none, none, none, none, none, none, none, none, none, none], [], e, X)) (hF : f_X8_value_l32_j71 X r0 r3 r4 N a5 a6 a7 a8 a9 = some out) : Ω 71 ([some (.inr (.inr r0)), none, none, some (.inr (.inr r3)), some (.inr (.inr r4)), some (.inl a5), some (.inl a6), some (.inl a7), some (.inl a8), some (.inl a9), none, none, none, none, none, none], [], N, X) := by
  unfold f_X8_value_l32_j71 at hF
  refine s_iload hG dX8_value_71 rfl ?_
  refine s_aload hG dX8_value_73 rfl ?_
  obtain ⟨g9, hF⟩ := gd_some hF
  refine s_alen1j (v := ((xK X r4).2 : Int)) hG dX8_value_75 (m_k1 h4) g9 rfl ?_
  refine s_icmp_ge hG 97 dX8_value_76 (by decide) (fun c14 => ?_) (fun c14 => ?_)
  · replace hF := Eq.trans (if_pos c14).symm hF
    refine s_iload hG dX8_value_79 rfl ?_
    refine s_iconst hG dX8_value_81 ⟨by decide, by decide⟩ ?_
    refine s_icmp_ne hG 100 dX8_value_82 (by decide) (fun c13 => ?_) (fun c13 => ?_)
    · replace hF := Eq.trans (if_pos c13).symm hF
      refine s_iload hG dX8_value_85 rfl ?_
      refine s_if_lt hG 97 dX8_value_87 (by decide) (fun c12 => ?_) (fun c12 => ?_)
      · replace hF := Eq.trans (if_pos c12).symm hF
        cases hF
        refine m_weak (ls1 := [none, none, none, none, none, none, none, none, none, none, none, none, none, none, none, none]) hG trivial ?_
        exact hK1 _ rfl
      · replace hF := Eq.trans (if_neg c12).symm hF
        refine s_iload hG dX8_value_90 rfl ?_
        refine s_aload_n hG dX8_value_92 rfl ?_
        obtain ⟨g10, hF⟩ := gd_some hF
        refine s_alen1j (v := ((xK X r3).2 : Int)) hG dX8_value_93 (m_k1 h3) g10 rfl ?_
        refine s_icmp_lt hG 100 dX8_value_94 (by decide) (fun c11 => ?_) (fun c11 => ?_)
        · replace hF := Eq.trans (if_pos c11).symm hF
          exact t_X8_value_l32_j100 hsk hd h0 h3 h4 hG hK0 hK1 hF
        · replace hF := Eq.trans (if_neg c11).symm hF
          cases hF
          refine m_weak (ls1 := [none, none, none, none, none, none, none, none, none, none, none, none, none, none, none, none]) hG trivial ?_
          exact hK1 _ rfl
    · replace hF := Eq.trans (if_neg c13).symm hF
      exact t_X8_value_l32_j100 hsk hd h0 h3 h4 hG hK0 hK1 hF
  · replace hF := Eq.trans (if_neg c14).symm hF
    cases hF
    refine m_weak (ls1 := [none, none, none, none, none, none, none, none, none, none, none, none, none, none, none, none]) hG trivial ?_
    exact hK1 _ rfl
theorem t_X8_value_l32_j231 {d n0 s0 nF sF : Nat} {X : MX} {r0 : Nat} {r3 : Nat} {r4 : Nat} {Ω : Nat → MS → Prop} {N : NN} {a5 : Int} {a7 : Int} {z0 : Int} (hsk : m_Sk X) (hd : 1 ≤ d) (h0 : m_isT X r0) (h3 : (xK X r3).1 = 1) (h4 : (xK X r4).1 = 1) (hG : m_G d yX8_value.cls yX8_value.name cX8_value 16 n0 s0 nF sF Ω) {out : ((NN × Int × Int × Int) ⊕ ((NN × Int) ⊕ (NN ⊕ (NN ⊕ (NN ⊕ NN)))))} (hK0 : ∀ s' : (NN × Int × Int × Int), out = .inl s' → Ω 32 ([some (.inr (.inr r0)), none, none, some (.inr (.inr r3)), some (.inr (.inr r4)), some (.inl (s'.2.1)), some (.inl (s'.2.2.1)), some (.inl (s'.2.2.2)), none, none, none, none, none, none, none, none], [], s'.1, X)) (hK1 : ∀ t : ((NN × Int) ⊕ (NN ⊕ (NN ⊕ (NN ⊕ NN)))), out = .inr t → match t with | .inl e => Ω 466 ([none, none, none, none, some (.inr (.inr r4)), some (.inl e.2), none, none, none, none, none, none, none, none, none, none], [], e.1, X) | .inr (.inl e) => Ω 97 ([none, none, none, none, none, none, none, none, none, none, none, none, none, none, none, none], [], e, X) | .inr (.inr (.inl e)) => Ω 143 ([none, none, none, none, none, none, none, none, none, none, none, none, none, none, none, none], [], e, X) | .inr (.inr (.inr (.inl e))) => Ω 282 ([none, none, none, none, none, none, none, none, none, none, none, none, none, none, none, none], [], e, X) | .inr (.inr (.inr (.inr e))) => Ω 447 ([none, none, none, none, none, none, none, none, none, none, none, none, none, none, none, none], [], e, X)) (hF : f_X8_value_l32_j231 X r0 r3 r4 N a5 a7 z0 = some out) : Ω 231 ([some (.inr (.inr r0)), none, none, some (.inr (.inr r3)), some (.inr (.inr r4)), some (.inl a5), none, some (.inl a7), none, none, none, none, none, none, none, none], [(.inl z0)], N, X) := by
  unfold f_X8_value_l32_j231 at hF
  refine s_istore hG dX8_value_231 (by decide) rfl ?_
  refine s_goto hG 463 dX8_value_233 (by decide) ?_
  refine s_goto hG 32 dX8_value_463 (by decide) ?_
  cases hF
  exact hK0 _ rfl
theorem t_X8_value_l32_j214 {d n0 s0 nF sF : Nat} {X : MX} {r0 : Nat} {r3 : Nat} {r4 : Nat} {Ω : Nat → MS → Prop} {N : NN} {a5 : Int} {a6 : Int} {a7 : Int} {a9 : Int} {z0 : Int} {z1 : Int} (hsk : m_Sk X) (hd : 1 ≤ d) (h0 : m_isT X r0) (h3 : (xK X r3).1 = 1) (h4 : (xK X r4).1 = 1) (hG : m_G d yX8_value.cls yX8_value.name cX8_value 16 n0 s0 nF sF Ω) {out : ((NN × Int × Int × Int) ⊕ ((NN × Int) ⊕ (NN ⊕ (NN ⊕ (NN ⊕ NN)))))} (hK0 : ∀ s' : (NN × Int × Int × Int), out = .inl s' → Ω 32 ([some (.inr (.inr r0)), none, none, some (.inr (.inr r3)), some (.inr (.inr r4)), some (.inl (s'.2.1)), some (.inl (s'.2.2.1)), some (.inl (s'.2.2.2)), none, none, none, none, none, none, none, none], [], s'.1, X)) (hK1 : ∀ t : ((NN × Int) ⊕ (NN ⊕ (NN ⊕ (NN ⊕ NN)))), out = .inr t → match t with | .inl e => Ω 466 ([none, none, none, none, some (.inr (.inr r4)), some (.inl e.2), none, none, none, none, none, none, none, none, none, none], [], e.1, X) | .inr (.inl e) => Ω 97 ([none, none, none, none, none, none, none, none, none, none, none, none, none, none, none, none], [], e, X) | .inr (.inr (.inl e)) => Ω 143 ([none, none, none, none, none, none, none, none, none, none, none, none, none, none, none, none], [], e, X) | .inr (.inr (.inr (.inl e))) => Ω 282 ([none, none, none, none, none, none, none, none, none, none, none, none, none, none, none, none], [], e, X) | .inr (.inr (.inr (.inr e))) => Ω 447 ([none, none, none, none, none, none, none, none, none, none, none, none, none, none, none, none], [], e, X)) (hF : f_X8_value_l32_j214 X r0 r3 r4 N a5 a6 a7 a9 z0 z1 = some out) : Ω 214 ([some (.inr (.inr r0)), none, none, some (.inr (.inr r3)), some (.inr (.inr r4)), some (.inl a5), some (.inl a6), some (.inl a7), none, some (.inl a9), none, none, none, none, none, none], [(.inl z1), (.inl z0)], N, X) := by
  unfold f_X8_value_l32_j214 at hF
  refine s_icmp_ne hG 236 dX8_value_214 (by decide) (fun c52 => ?_) (fun c52 => ?_)
  · replace hF := Eq.trans (if_pos c52).symm hF
    refine s_iload hG dX8_value_217 rfl ?_
    refine s_iload hG dX8_value_219 rfl ?_
    refine s_icmp_le hG 229 dX8_value_221 (by decide) (fun c51 => ?_) (fun c51 => ?_)
    · replace hF := Eq.trans (if_pos c51).symm hF
      refine s_iload hG dX8_value_224 rfl ?_
      refine s_goto hG 231 dX8_value_226 (by decide) ?_
      refine m_weak (ls1 := [some (.inr (.inr r0)), none, none, some (.inr (.inr r3)), some (.inr (.inr r4)), some (.inl a5), none, some (.inl a7), none, none, none, none, none, none, none, none]) hG ⟨rfl, ⟨rfl, ⟨rfl, ⟨rfl, ⟨rfl, trivial⟩⟩⟩⟩⟩ ?_
      exact t_X8_value_l32_j231 hsk hd h0 h3 h4 hG hK0 hK1 hF
    · replace hF := Eq.trans (if_neg c51).symm hF
      refine s_iload hG dX8_value_229 rfl ?_
      refine m_weak (ls1 := [some (.inr (.inr r0)), none, none, some (.inr (.inr r3)), some (.inr (.inr r4)), some (.inl a5), none, some (.inl a7), none, none, none, none, none, none, none, none]) hG ⟨rfl, ⟨rfl, ⟨rfl, ⟨rfl, ⟨rfl, trivial⟩⟩⟩⟩⟩ ?_
      exact t_X8_value_l32_j231 hsk hd h0 h3 h4 hG hK0 hK1 hF
  · replace hF := Eq.trans (if_neg c52).symm hF
    refine s_iinc hG dX8_value_236 (by decide) rfl rfl ?_
    refine s_goto hG 463 dX8_value_239 (by decide) ?_
    refine s_goto hG 32 dX8_value_463 (by decide) ?_
    cases hF
    refine m_weak (ls1 := [some (.inr (.inr r0)), none, none, some (.inr (.inr r3)), some (.inr (.inr r4)), some (.inl (m_w (a5 + (-1)))), some (.inl a6), some (.inl a7), none, none, none, none, none, none, none, none]) hG ⟨rfl, ⟨rfl, ⟨rfl, ⟨rfl, ⟨rfl, ⟨rfl, trivial⟩⟩⟩⟩⟩⟩ ?_
    exact hK0 _ rfl
theorem t_X8_value_l32_j202 {d n0 s0 nF sF : Nat} {X : MX} {r0 : Nat} {r3 : Nat} {r4 : Nat} {Ω : Nat → MS → Prop} {N : NN} {a5 : Int} {a6 : Int} {a7 : Int} {a8 : Int} {a9 : Int} {z0 : Int} (hsk : m_Sk X) (hd : 1 ≤ d) (h0 : m_isT X r0) (h3 : (xK X r3).1 = 1) (h4 : (xK X r4).1 = 1) (hG : m_G d yX8_value.cls yX8_value.name cX8_value 16 n0 s0 nF sF Ω) {out : ((NN × Int × Int × Int) ⊕ ((NN × Int) ⊕ (NN ⊕ (NN ⊕ (NN ⊕ NN)))))} (hK0 : ∀ s' : (NN × Int × Int × Int), out = .inl s' → Ω 32 ([some (.inr (.inr r0)), none, none, some (.inr (.inr r3)), some (.inr (.inr r4)), some (.inl (s'.2.1)), some (.inl (s'.2.2.1)), some (.inl (s'.2.2.2)), none, none, none, none, none, none, none, none], [], s'.1, X)) (hK1 : ∀ t : ((NN × Int) ⊕ (NN ⊕ (NN ⊕ (NN ⊕ NN)))), out = .inr t → match t with | .inl e => Ω 466 ([none, none, none, none, some (.inr (.inr r4)), some (.inl e.2), none, none, none, none, none, none, none, none, none, none], [], e.1, X) | .inr (.inl e) => Ω 97 ([none, none, none, none, none, none, none, none, none, none, none, none, none, none, none, none], [], e, X) | .inr (.inr (.inl e)) => Ω 143 ([none, none, none, none, none, none, none, none, none, none, none, none, none, none, none, none], [], e, X) | .inr (.inr (.inr (.inl e))) => Ω 282 ([none, none, none, none, none, none, none, none, none, none, none, none, none, none, none, none], [], e, X) | .inr (.inr (.inr (.inr e))) => Ω 447 ([none, none, none, none, none, none, none, none, none, none, none, none, none, none, none, none], [], e, X)) (hF : f_X8_value_l32_j202 X r0 r3 r4 N a5 a6 a7 a8 a9 z0 = some out) : Ω 202 ([some (.inr (.inr r0)), none, none, some (.inr (.inr r3)), some (.inr (.inr r4)), some (.inl a5), some (.inl a6), some (.inl a7), some (.inl a8), some (.inl a9), none, none, none, none, none, none], [(.inl z0)], N, X) := by
  unfold f_X8_value_l32_j202 at hF
  refine s_iload hG dX8_value_202 rfl ?_
  refine s_bipush hG dX8_value_204 bp_12 ⟨by decide, by decide⟩ ?_
  refine s_icmp_ne hG 213 dX8_value_206 (by decide) (fun c46 => ?_) (fun c46 => ?_)
  · replace hF := Eq.trans (if_pos c46).symm hF
    refine s_iconst hG dX8_value_209 ⟨by decide, by decide⟩ ?_
    refine s_goto hG 214 dX8_value_210 (by decide) ?_
    refine m_weak (ls1 := [some (.inr (.inr r0)), none, none, some (.inr (.inr r3)), some (.inr (.inr r4)), some (.inl a5), some (.inl a6), some (.inl a7), none, some (.inl a9), none, none, none, none, none, none]) hG ⟨rfl, ⟨rfl, ⟨rfl, ⟨rfl, ⟨rfl, ⟨rfl, ⟨rfl, trivial⟩⟩⟩⟩⟩⟩⟩ ?_
    exact t_X8_value_l32_j214 hsk hd h0 h3 h4 hG hK0 hK1 hF
  · replace hF := Eq.trans (if_neg c46).symm hF
    refine s_iconst hG dX8_value_213 ⟨by decide, by decide⟩ ?_
    refine m_weak (ls1 := [some (.inr (.inr r0)), none, none, some (.inr (.inr r3)), some (.inr (.inr r4)), some (.inl a5), some (.inl a6), some (.inl a7), none, some (.inl a9), none, none, none, none, none, none]) hG ⟨rfl, ⟨rfl, ⟨rfl, ⟨rfl, ⟨rfl, ⟨rfl, ⟨rfl, trivial⟩⟩⟩⟩⟩⟩⟩ ?_
    exact t_X8_value_l32_j214 hsk hd h0 h3 h4 hG hK0 hK1 hF
theorem t_X8_value_l32_j186 {d n0 s0 nF sF : Nat} {X : MX} {r0 : Nat} {r3 : Nat} {r4 : Nat} {Ω : Nat → MS → Prop} {N : NN} {a5 : Int} {a6 : Int} {a7 : Int} {a8 : Int} {a9 : Int} (hsk : m_Sk X) (hd : 1 ≤ d) (h0 : m_isT X r0) (h3 : (xK X r3).1 = 1) (h4 : (xK X r4).1 = 1) (hG : m_G d yX8_value.cls yX8_value.name cX8_value 16 n0 s0 nF sF Ω) {out : ((NN × Int × Int × Int) ⊕ ((NN × Int) ⊕ (NN ⊕ (NN ⊕ (NN ⊕ NN)))))} (hK0 : ∀ s' : (NN × Int × Int × Int), out = .inl s' → Ω 32 ([some (.inr (.inr r0)), none, none, some (.inr (.inr r3)), some (.inr (.inr r4)), some (.inl (s'.2.1)), some (.inl (s'.2.2.1)), some (.inl (s'.2.2.2)), none, none, none, none, none, none, none, none], [], s'.1, X)) (hK1 : ∀ t : ((NN × Int) ⊕ (NN ⊕ (NN ⊕ (NN ⊕ NN)))), out = .inr t → match t with | .inl e => Ω 466 ([none, none, none, none, some (.inr (.inr r4)), some (.inl e.2), none, none, none, none, none, none, none, none, none, none], [], e.1, X) | .inr (.inl e) => Ω 97 ([none, none, none, none, none, none, none, none, none, none, none, none, none, none, none, none], [], e, X) | .inr (.inr (.inl e)) => Ω 143 ([none, none, none, none, none, none, none, none, none, none, none, none, none, none, none, none], [], e, X) | .inr (.inr (.inr (.inl e))) => Ω 282 ([none, none, none, none, none, none, none, none, none, none, none, none, none, none, none, none], [], e, X) | .inr (.inr (.inr (.inr e))) => Ω 447 ([none, none, none, none, none, none, none, none, none, none, none, none, none, none, none, none], [], e, X)) (hF : f_X8_value_l32_j186 X r0 r3 r4 N a5 a6 a7 a8 a9 = some out) : Ω 186 ([some (.inr (.inr r0)), none, none, some (.inr (.inr r3)), some (.inr (.inr r4)), some (.inl a5), some (.inl a6), some (.inl a7), some (.inl a8), some (.inl a9), none, none, none, none, none, none], [], N, X) := by
  unfold f_X8_value_l32_j186 at hF
  refine s_aload hG dX8_value_186 rfl ?_
  refine s_iload hG dX8_value_188 rfl ?_
  refine s_iconst hG dX8_value_190 ⟨by decide, by decide⟩ ?_
  refine s_isub hG dX8_value_191 ?_
  obtain ⟨g29, hF⟩ := gd_some hF
  refine s_ialdj (j := (m_w (a5 - 1)).toNat) hG dX8_value_192 (m_k1 h4) g29 rfl ?_
  refine s_iconst hG dX8_value_193 ⟨by decide, by decide⟩ ?_
  refine s_icmp_ne hG 201 dX8_value_194 (by decide) (fun c30 => ?_) (fun c30 => ?_)
  · replace hF := Eq.trans (if_pos c30).symm hF
    refine s_iconst hG dX8_value_197 ⟨by decide, by decide⟩ ?_
    refine s_goto hG 202 dX8_value_198 (by decide) ?_
    exact t_X8_value_l32_j202 hsk hd h0 h3 h4 hG hK0 hK1 hF
  · replace hF := Eq.trans (if_neg c30).symm hF
    refine s_iconst hG dX8_value_201 ⟨by decide, by decide⟩ ?_
    exact t_X8_value_l32_j202 hsk hd h0 h3 h4 hG hK0 hK1 hF
theorem t_X8_value_l32_j429 {d n0 s0 nF sF : Nat} {X : MX} {r0 : Nat} {r3 : Nat} {r4 : Nat} {Ω : Nat → MS → Prop} {N : NN} {a5 : Int} {a6 : Int} {a7 : Int} {a14 : Int} (hsk : m_Sk X) (hd : 1 ≤ d) (h0 : m_isT X r0) (h3 : (xK X r3).1 = 1) (h4 : (xK X r4).1 = 1) (hG : m_G d yX8_value.cls yX8_value.name cX8_value 16 n0 s0 nF sF Ω) {out : ((NN × Int × Int × Int) ⊕ ((NN × Int) ⊕ (NN ⊕ (NN ⊕ (NN ⊕ NN)))))} (hK0 : ∀ s' : (NN × Int × Int × Int), out = .inl s' → Ω 32 ([some (.inr (.inr r0)), none, none, some (.inr (.inr r3)), some (.inr (.inr r4)), some (.inl (s'.2.1)), some (.inl (s'.2.2.1)), some (.inl (s'.2.2.2)), none, none, none, none, none, none, none, none], [], s'.1, X)) (hK1 : ∀ t : ((NN × Int) ⊕ (NN ⊕ (NN ⊕ (NN ⊕ NN)))), out = .inr t → match t with | .inl e => Ω 466 ([none, none, none, none, some (.inr (.inr r4)), some (.inl e.2), none, none, none, none, none, none, none, none, none, none], [], e.1, X) | .inr (.inl e) => Ω 97 ([none, none, none, none, none, none, none, none, none, none, none, none, none, none, none, none], [], e, X) | .inr (.inr (.inl e)) => Ω 143 ([none, none, none, none, none, none, none, none, none, none, none, none, none, none, none, none], [], e, X) | .inr (.inr (.inr (.inl e))) => Ω 282 ([none, none, none, none, none, none, none, none, none, none, none, none, none, none, none, none], [], e, X) | .inr (.inr (.inr (.inr e))) => Ω 447 ([none, none, none, none, none, none, none, none, none, none, none, none, none, none, none, none], [], e, X)) (hF : f_X8_value_l32_j429 X r0 r3 r4 N a5 a6 a7 a14 = some out) : Ω 429 ([some (.inr (.inr r0)), none, none, some (.inr (.inr r3)), some (.inr (.inr r4)), some (.inl a5), some (.inl a6), some (.inl a7), none, none, none, none, none, none, some (.inr (.inl a14)), none], [], N, X) := by
  unfold f_X8_value_l32_j429 at hF
  refine s_lload hG dX8_value_429 rfl ?_
  refine s_ldc2 hG dX8_value_431 kc_RX8_52 ⟨by decide, by decide⟩ ?_
  refine s_lcmp hG dX8_value_434 ?_
  refine s_if_gt hG 447 dX8_value_435 (by decide) (fun c50 => ?_) (fun c50 => ?_)
  · replace hF := Eq.trans (if_pos c50).symm hF
    cases hF
    refine m_weak (ls1 := [none, none, none, none, none, none, none, none, none, none, none, none, none, none, none, none]) hG trivial ?_
    exact hK1 _ rfl
  · replace hF := Eq.trans (if_neg c50).symm hF
    refine s_lload hG dX8_value_438 rfl ?_
    refine s_ldc2 hG dX8_value_440 kc_RX8_54 ⟨by decide, by decide⟩ ?_
    refine s_lcmp hG dX8_value_443 ?_
    refine s_if_ge hG 450 dX8_value_444 (by decide) (fun c49 => ?_) (fun c49 => ?_)
    · replace hF := Eq.trans (if_pos c49).symm hF
      cases hF
      refine m_weak (ls1 := [none, none, none, none, none, none, none, none, none, none, none, none, none, none, none, none]) hG trivial ?_
      exact hK1 _ rfl
    · replace hF := Eq.trans (if_neg c49).symm hF
      refine s_iinc hG dX8_value_450 (by decide) rfl rfl ?_
      refine s_aload hG dX8_value_453 rfl ?_
      refine s_iload hG dX8_value_455 rfl ?_
      refine s_iconst hG dX8_value_457 ⟨by decide, by decide⟩ ?_
      refine s_isub hG dX8_value_458 ?_
      refine s_lload hG dX8_value_459 rfl ?_
      refine s_l2i hG dX8_value_461 ?_
      obtain ⟨g47, hF⟩ := gd_some hF
      refine s_iastj (j := (m_w ((m_w (a5 + (-1))) - 1)).toNat) hG dX8_value_462 (m_k1 h4) g47 rfl ?_
      refine s_goto hG 32 dX8_value_463 (by decide) ?_
      cases hF
      refine m_weak (ls1 := [some (.inr (.inr r0)), none, none, some (.inr (.inr r3)), some (.inr (.inr r4)), some (.inl (m_w (a5 + (-1)))), some (.inl a6), some (.inl a7), none, none, none, none, none, none, none, none]) hG ⟨rfl, ⟨rfl, ⟨rfl, ⟨rfl, ⟨rfl, ⟨rfl, trivial⟩⟩⟩⟩⟩⟩ ?_
      exact hK0 _ rfl
theorem t_X8_value_l32_j391 {d n0 s0 nF sF : Nat} {X : MX} {r0 : Nat} {r3 : Nat} {r4 : Nat} {Ω : Nat → MS → Prop} {N : NN} {a5 : Int} {a6 : Int} {a7 : Int} {z0 : Int} (hsk : m_Sk X) (hd : 1 ≤ d) (h0 : m_isT X r0) (h3 : (xK X r3).1 = 1) (h4 : (xK X r4).1 = 1) (hG : m_G d yX8_value.cls yX8_value.name cX8_value 16 n0 s0 nF sF Ω) {out : ((NN × Int × Int × Int) ⊕ ((NN × Int) ⊕ (NN ⊕ (NN ⊕ (NN ⊕ NN)))))} (hK0 : ∀ s' : (NN × Int × Int × Int), out = .inl s' → Ω 32 ([some (.inr (.inr r0)), none, none, some (.inr (.inr r3)), some (.inr (.inr r4)), some (.inl (s'.2.1)), some (.inl (s'.2.2.1)), some (.inl (s'.2.2.2)), none, none, none, none, none, none, none, none], [], s'.1, X)) (hK1 : ∀ t : ((NN × Int) ⊕ (NN ⊕ (NN ⊕ (NN ⊕ NN)))), out = .inr t → match t with | .inl e => Ω 466 ([none, none, none, none, some (.inr (.inr r4)), some (.inl e.2), none, none, none, none, none, none, none, none, none, none], [], e.1, X) | .inr (.inl e) => Ω 97 ([none, none, none, none, none, none, none, none, none, none, none, none, none, none, none, none], [], e, X) | .inr (.inr (.inl e)) => Ω 143 ([none, none, none, none, none, none, none, none, none, none, none, none, none, none, none, none], [], e, X) | .inr (.inr (.inr (.inl e))) => Ω 282 ([none, none, none, none, none, none, none, none, none, none, none, none, none, none, none, none], [], e, X) | .inr (.inr (.inr (.inr e))) => Ω 447 ([none, none, none, none, none, none, none, none, none, none, none, none, none, none, none, none], [], e, X)) (hF : f_X8_value_l32_j391 X r0 r3 r4 N a5 a6 a7 z0 = some out) : Ω 391 ([some (.inr (.inr r0)), none, none, some (.inr (.inr r3)), some (.inr (.inr r4)), some (.inl a5), some (.inl a6), some (.inl a7), none, none, none, none, none, none, none, none], [(.inr (.inl z0))], N, X) := by
  unfold f_X8_value_l32_j391 at hF
  refine s_lstore hG dX8_value_391 (by decide) rfl ?_
  refine s_goto hG 429 dX8_value_393 (by decide) ?_
  exact t_X8_value_l32_j429 hsk hd h0 h3 h4 hG hK0 hK1 hF
theorem t_X8_value_l32_j409 {d n0 s0 nF sF : Nat} {X : MX} {r0 : Nat} {r3 : Nat} {r4 : Nat} {Ω : Nat → MS → Prop} {N : NN} {a5 : Int} {a6 : Int} {a7 : Int} {z0 : Int} (hsk : m_Sk X) (hd : 1 ≤ d) (h0 : m_isT X r0) (h3 : (xK X r3).1 = 1) (h4 : (xK X r4).1 = 1) (hG : m_G d yX8_value.cls yX8_value.name cX8_value 16 n0 s0 nF sF Ω) {out : ((NN × Int × Int × Int) ⊕ ((NN × Int) ⊕ (NN ⊕ (NN ⊕ (NN ⊕ NN)))))} (hK0 : ∀ s' : (NN × Int × Int × Int), out = .inl s' → Ω 32 ([some (.inr (.inr r0)), none, none, some (.inr (.inr r3)), some (.inr (.inr r4)), some (.inl (s'.2.1)), some (.inl (s'.2.2.1)), some (.inl (s'.2.2.2)), none, none, none, none, none, none, none, none], [], s'.1, X)) (hK1 : ∀ t : ((NN × Int) ⊕ (NN ⊕ (NN ⊕ (NN ⊕ NN)))), out = .inr t → match t with | .inl e => Ω 466 ([none, none, none, none, some (.inr (.inr r4)), some (.inl e.2), none, none, none, none, none, none, none, none, none, none], [], e.1, X) | .inr (.inl e) => Ω 97 ([none, none, none, none, none, none, none, none, none, none, none, none, none, none, none, none], [], e, X) | .inr (.inr (.inl e)) => Ω 143 ([none, none, none, none, none, none, none, none, none, none, none, none, none, none, none, none], [], e, X) | .inr (.inr (.inr (.inl e))) => Ω 282 ([none, none, none, none, none, none, none, none, none, none, none, none, none, none, none, none], [], e, X) | .inr (.inr (.inr (.inr e))) => Ω 447 ([none, none, none, none, none, none, none, none, none, none, none, none, none, none, none, none], [], e, X)) (hF : f_X8_value_l32_j409 X r0 r3 r4 N a5 a6 a7 z0 = some out) : Ω 409 ([some (.inr (.inr r0)), none, none, some (.inr (.inr r3)), some (.inr (.inr r4)), some (.inl a5), some (.inl a6), some (.inl a7), none, none, none, none, none, none, none, none], [(.inr (.inl z0))], N, X) := by
  unfold f_X8_value_l32_j409 at hF
  refine s_lstore hG dX8_value_409 (by decide) rfl ?_
  refine s_goto hG 429 dX8_value_411 (by decide) ?_
  exact t_X8_value_l32_j429 hsk hd h0 h3 h4 hG hK0 hK1 hF
theorem t_X8_value_l32_j427 {d n0 s0 nF sF : Nat} {X : MX} {r0 : Nat} {r3 : Nat} {r4 : Nat} {Ω : Nat → MS → Prop} {N : NN} {a5 : Int} {a6 : Int} {a7 : Int} {z0 : Int} (hsk : m_Sk X) (hd : 1 ≤ d) (h0 : m_isT X r0) (h3 : (xK X r3).1 = 1) (h4 : (xK X r4).1 = 1) (hG : m_G d yX8_value.cls yX8_value.name cX8_value 16 n0 s0 nF sF Ω) {out : ((NN × Int × Int × Int) ⊕ ((NN × Int) ⊕ (NN ⊕ (NN ⊕ (NN ⊕ NN)))))} (hK0 : ∀ s' : (NN × Int × Int × Int), out = .inl s' → Ω 32 ([some (.inr (.inr r0)), none, none, some (.inr (.inr r3)), some (.inr (.inr r4)), some (.inl (s'.2.1)), some (.inl (s'.2.2.1)), some (.inl (s'.2.2.2)), none, none, none, none, none, none, none, none], [], s'.1, X)) (hK1 : ∀ t : ((NN × Int) ⊕ (NN ⊕ (NN ⊕ (NN ⊕ NN)))), out = .inr t → match t with | .inl e => Ω 466 ([none, none, none, none, some (.inr (.inr r4)), some (.inl e.2), none, none, none, none, none, none, none, none, none, none], [], e.1, X) | .inr (.inl e) => Ω 97 ([none, none, none, none, none, none, none, none, none, none, none, none, none, none, none, none], [], e, X) | .inr (.inr (.inl e)) => Ω 143 ([none, none, none, none, none, none, none, none, none, none, none, none, none, none, none, none], [], e, X) | .inr (.inr (.inr (.inl e))) => Ω 282 ([none, none, none, none, none, none, none, none, none, none, none, none, none, none, none, none], [], e, X) | .inr (.inr (.inr (.inr e))) => Ω 447 ([none, none, none, none, none, none, none, none, none, none, none, none, none, none, none, none], [], e, X)) (hF : f_X8_value_l32_j427 X r0 r3 r4 N a5 a6 a7 z0 = some out) : Ω 427 ([some (.inr (.inr r0)), none, none, some (.inr (.inr r3)), some (.inr (.inr r4)), some (.inl a5), some (.inl a6), some (.inl a7), none, none, none, none, none, none, none, none], [(.inr (.inl z0))], N, X) := by
  unfold f_X8_value_l32_j427 at hF
  refine s_lstore hG dX8_value_427 (by decide) rfl ?_
  exact t_X8_value_l32_j429 hsk hd h0 h3 h4 hG hK0 hK1 hF
theorem t_X8_value_l32_j285 {d n0 s0 nF sF : Nat} {X : MX} {r0 : Nat} {r3 : Nat} {r4 : Nat} {Ω : Nat → MS → Prop} {N : NN} {a5 : Int} {a6 : Int} {a7 : Int} {a8 : Int} {a10 : Int} {a12 : Int} (hsk : m_Sk X) (hd : 1 ≤ d) (h0 : m_isT X r0) (h3 : (xK X r3).1 = 1) (h4 : (xK X r4).1 = 1) (hG : m_G d yX8_value.cls yX8_value.name cX8_value 16 n0 s0 nF sF Ω) {out : ((NN × Int × Int × Int) ⊕ ((NN × Int) ⊕ (NN ⊕ (NN ⊕ (NN ⊕ NN)))))} (hK0 : ∀ s' : (NN × Int × Int × Int), out = .inl s' → Ω 32 ([some (.inr (.inr r0)), none, none, some (.inr (.inr r3)), some (.inr (.inr r4)), some (.inl (s'.2.1)), some (.inl (s'.2.2.1)), some (.inl (s'.2.2.2)), none, none, none, none, none, none, none, none], [], s'.1, X)) (hK1 : ∀ t : ((NN × Int) ⊕ (NN ⊕ (NN ⊕ (NN ⊕ NN)))), out = .inr t → match t with | .inl e => Ω 466 ([none, none, none, none, some (.inr (.inr r4)), some (.inl e.2), none, none, none, none, none, none, none, none, none, none], [], e.1, X) | .inr (.inl e) => Ω 97 ([none, none, none, none, none, none, none, none, none, none, none, none, none, none, none, none], [], e, X) | .inr (.inr (.inl e)) => Ω 143 ([none, none, none, none, none, none, none, none, none, none, none, none, none, none, none, none], [], e, X) | .inr (.inr (.inr (.inl e))) => Ω 282 ([none, none, none, none, none, none, none, none, none, none, none, none, none, none, none, none], [], e, X) | .inr (.inr (.inr (.inr e))) => Ω 447 ([none, none, none, none, none, none, none, none, none, none, none, none, none, none, none, none], [], e, X)) (hF : f_X8_value_l32_j285 X r0 r3 r4 N a5 a6 a7 a8 a10 a12 = some out) : Ω 285 ([some (.inr (.inr r0)), none, none, some (.inr (.inr r3)), some (.inr (.inr r4)), some (.inl a5), some (.inl a6), some (.inl a7), some (.inl a8), none, some (.inr (.inl a10)), none, some (.inr (.inl a12)), none, none, none], [], N, X) := by
  unfold f_X8_value_l32_j285 at hF
  refine s_iload hG dX8_value_285 rfl ?_
  by_cases c43 : a8 = 2
  · replace hF := Eq.trans (if_pos c43).symm hF
    refine s_tableIn hG (off := 41) 328 dX8_value_287 (by omega) (by omega) (by rw [c43]; rfl) (by decide) ?_
    refine s_lload hG dX8_value_328 rfl ?_
    refine s_lload hG dX8_value_330 rfl ?_
    refine s_ladd hG dX8_value_332 ?_
    refine s_lstore hG dX8_value_333 (by decide) rfl ?_
    refine s_goto hG 429 dX8_value_335 (by decide) ?_
    refine m_weak (ls1 := [some (.inr (.inr r0)), none, none, some (.inr (.inr r3)), some (.inr (.inr r4)), some (.inl a5), some (.inl a6), some (.inl a7), none, none, none, none, none, none, some (.inr (.inl (m_wl (a12 + a10)))), none]) hG ⟨rfl, ⟨rfl, ⟨rfl, ⟨rfl, ⟨rfl, ⟨rfl, ⟨rfl, trivial⟩⟩⟩⟩⟩⟩⟩ ?_
    exact t_X8_value_l32_j429 hsk hd h0 h3 h4 hG hK0 hK1 hF
  · replace hF := Eq.trans (if_neg c43).symm hF
    by_cases c42 : a8 = 3
    · replace hF := Eq.trans (if_pos c42).symm hF
      refine s_tableIn hG (off := 51) 338 dX8_value_287 (by omega) (by omega) (by rw [c42]; rfl) (by decide) ?_
      refine s_lload hG dX8_value_338 rfl ?_
      refine s_lload hG dX8_value_340 rfl ?_
      refine s_lsub hG dX8_value_342 ?_
      refine s_lstore hG dX8_value_343 (by decide) rfl ?_
      refine s_goto hG 429 dX8_value_345 (by decide) ?_
      refine m_weak (ls1 := [some (.inr (.inr r0)), none, none, some (.inr (.inr r3)), some (.inr (.inr r4)), some (.inl a5), some (.inl a6), some (.inl a7), none, none, none, none, none, none, some (.inr (.inl (m_wl (a12 - a10)))), none]) hG ⟨rfl, ⟨rfl, ⟨rfl, ⟨rfl, ⟨rfl, ⟨rfl, ⟨rfl, trivial⟩⟩⟩⟩⟩⟩⟩ ?_
      exact t_X8_value_l32_j429 hsk hd h0 h3 h4 hG hK0 hK1 hF
    · replace hF := Eq.trans (if_neg c42).symm hF
      by_cases c41 : a8 = 4
      · replace hF := Eq.trans (if_pos c41).symm hF
        refine s_tableIn hG (off := 61) 348 dX8_value_287 (by omega) (by omega) (by rw [c41]; rfl) (by decide) ?_
        refine s_lload hG dX8_value_348 rfl ?_
        refine s_lload hG dX8_value_350 rfl ?_
        refine s_lmul hG dX8_value_352 ?_
        refine s_lstore hG dX8_value_353 (by decide) rfl ?_
        refine s_goto hG 429 dX8_value_355 (by decide) ?_
        refine m_weak (ls1 := [some (.inr (.inr r0)), none, none, some (.inr (.inr r3)), some (.inr (.inr r4)), some (.inl a5), some (.inl a6), some (.inl a7), none, none, none, none, none, none, some (.inr (.inl (m_wl (a12 * a10)))), none]) hG ⟨rfl, ⟨rfl, ⟨rfl, ⟨rfl, ⟨rfl, ⟨rfl, ⟨rfl, trivial⟩⟩⟩⟩⟩⟩⟩ ?_
        exact t_X8_value_l32_j429 hsk hd h0 h3 h4 hG hK0 hK1 hF
      · replace hF := Eq.trans (if_neg c41).symm hF
        by_cases c40 : a8 = 5
        · replace hF := Eq.trans (if_pos c40).symm hF
          refine s_tableIn hG (off := 71) 358 dX8_value_287 (by omega) (by omega) (by rw [c40]; rfl) (by decide) ?_
          refine s_lload hG dX8_value_358 rfl ?_
          refine s_lload hG dX8_value_360 rfl ?_
          obtain ⟨g31, hF⟩ := gd_some hF
          refine s_ldiv hG dX8_value_362 g31 ?_
          refine s_lstore hG dX8_value_363 (by decide) rfl ?_
          refine s_goto hG 429 dX8_value_365 (by decide) ?_
          refine m_weak (ls1 := [some (.inr (.inr r0)), none, none, some (.inr (.inr r3)), some (.inr (.inr r4)), some (.inl a5), some (.inl a6), some (.inl a7), none, none, none, none, none, none, some (.inr (.inl (m_ldiv a12 a10))), none]) hG ⟨rfl, ⟨rfl, ⟨rfl, ⟨rfl, ⟨rfl, ⟨rfl, ⟨rfl, trivial⟩⟩⟩⟩⟩⟩⟩ ?_
          exact t_X8_value_l32_j429 hsk hd h0 h3 h4 hG hK0 hK1 hF
        · replace hF := Eq.trans (if_neg c40).symm hF
          by_cases c39 : a8 = 6
          · replace hF := Eq.trans (if_pos c39).symm hF
            refine s_tableIn hG (off := 81) 368 dX8_value_287 (by omega) (by omega) (by rw [c39]; rfl) (by decide) ?_
            refine s_lload hG dX8_value_368 rfl ?_
            refine s_lload hG dX8_value_370 rfl ?_
            obtain ⟨g32, hF⟩ := gd_some hF
            refine s_lrem hG dX8_value_372 g32 ?_
            refine s_lstore hG dX8_value_373 (by decide) rfl ?_
            refine s_goto hG 429 dX8_value_375 (by decide) ?_
            refine m_weak (ls1 := [some (.inr (.inr r0)), none, none, some (.inr (.inr r3)), some (.inr (.inr r4)), some (.inl a5), some (.inl a6), some (.inl a7), none, none, none, none, none, none, some (.inr (.inl (m_lrem a12 a10))), none]) hG ⟨rfl, ⟨rfl, ⟨rfl, ⟨rfl, ⟨rfl, ⟨rfl, ⟨rfl, trivial⟩⟩⟩⟩⟩⟩⟩ ?_
            exact t_X8_value_l32_j429 hsk hd h0 h3 h4 hG hK0 hK1 hF
          · replace hF := Eq.trans (if_neg c39).symm hF
            by_cases c38 : a8 = 7
            · replace hF := Eq.trans (if_pos c38).symm hF
              refine s_tableIn hG (off := 91) 378 dX8_value_287 (by omega) (by omega) (by rw [c38]; rfl) (by decide) ?_
              refine s_lload hG dX8_value_378 rfl ?_
              refine s_lload hG dX8_value_380 rfl ?_
              refine s_lcmp hG dX8_value_382 ?_
              refine s_if_ge hG 390 dX8_value_383 (by decide) (fun c33 => ?_) (fun c33 => ?_)
              · replace hF := Eq.trans (if_pos c33).symm hF
                refine s_lconst (v := 1) hG dX8_value_386 rfl ⟨by decide, by decide⟩ ?_
                refine s_goto hG 391 dX8_value_387 (by decide) ?_
                refine m_weak (ls1 := [some (.inr (.inr r0)), none, none, some (.inr (.inr r3)), some (.inr (.inr r4)), some (.inl a5), some (.inl a6), some (.inl a7), none, none, none, none, none, none, none, none]) hG ⟨rfl, ⟨rfl, ⟨rfl, ⟨rfl, ⟨rfl, ⟨rfl, trivial⟩⟩⟩⟩⟩⟩ ?_
                exact t_X8_value_l32_j391 hsk hd h0 h3 h4 hG hK0 hK1 hF
              · replace hF := Eq.trans (if_neg c33).symm hF
                refine s_lconst (v := 0) hG dX8_value_390 rfl ⟨by decide, by decide⟩ ?_
                refine m_weak (ls1 := [some (.inr (.inr r0)), none, none, some (.inr (.inr r3)), some (.inr (.inr r4)), some (.inl a5), some (.inl a6), some (.inl a7), none, none, none, none, none, none, none, none]) hG ⟨rfl, ⟨rfl, ⟨rfl, ⟨rfl, ⟨rfl, ⟨rfl, trivial⟩⟩⟩⟩⟩⟩ ?_
                exact t_X8_value_l32_j391 hsk hd h0 h3 h4 hG hK0 hK1 hF
            · replace hF := Eq.trans (if_neg c38).symm hF
              by_cases c37 : a8 = 8
              · replace hF := Eq.trans (if_pos c37).symm hF
                refine s_tableIn hG (off := 109) 396 dX8_value_287 (by omega) (by omega) (by rw [c37]; rfl) (by decide) ?_
                refine s_lload hG dX8_value_396 rfl ?_
                refine s_lload hG dX8_value_398 rfl ?_
                refine s_lcmp hG dX8_value_400 ?_
                refine s_if_le hG 408 dX8_value_401 (by decide) (fun c34 => ?_) (fun c34 => ?_)
                · replace hF := Eq.trans (if_pos c34).symm hF
                  refine s_lconst (v := 1) hG dX8_value_404 rfl ⟨by decide, by decide⟩ ?_
                  refine s_goto hG 409 dX8_value_405 (by decide) ?_
                  refine m_weak (ls1 := [some (.inr (.inr r0)), none, none, some (.inr (.inr r3)), some (.inr (.inr r4)), some (.inl a5), some (.inl a6), some (.inl a7), none, none, none, none, none, none, none, none]) hG ⟨rfl, ⟨rfl, ⟨rfl, ⟨rfl, ⟨rfl, ⟨rfl, trivial⟩⟩⟩⟩⟩⟩ ?_
                  exact t_X8_value_l32_j409 hsk hd h0 h3 h4 hG hK0 hK1 hF
                · replace hF := Eq.trans (if_neg c34).symm hF
                  refine s_lconst (v := 0) hG dX8_value_408 rfl ⟨by decide, by decide⟩ ?_
                  refine m_weak (ls1 := [some (.inr (.inr r0)), none, none, some (.inr (.inr r3)), some (.inr (.inr r4)), some (.inl a5), some (.inl a6), some (.inl a7), none, none, none, none, none, none, none, none]) hG ⟨rfl, ⟨rfl, ⟨rfl, ⟨rfl, ⟨rfl, ⟨rfl, trivial⟩⟩⟩⟩⟩⟩ ?_
                  exact t_X8_value_l32_j409 hsk hd h0 h3 h4 hG hK0 hK1 hF
              · replace hF := Eq.trans (if_neg c37).symm hF
                refine s_tableOut hG 414 dX8_value_287 (by omega) (by decide) ?_
                refine s_lload hG dX8_value_414 rfl ?_
                refine s_lload hG dX8_value_416 rfl ?_
                refine s_lcmp hG dX8_value_418 ?_
                refine s_if_ne hG 426 dX8_value_419 (by decide) (fun c35 => ?_) (fun c35 => ?_)
                · replace hF := Eq.trans (if_pos c35).symm hF
                  refine s_lconst (v := 1) hG dX8_value_422 rfl ⟨by decide, by decide⟩ ?_
                  refine s_goto hG 427 dX8_value_423 (by decide) ?_
                  refine m_weak (ls1 := [some (.inr (.inr r0)), none, none, some (.inr (.inr r3)), some (.inr (.inr r4)), some (.inl a5), some (.inl a6), some (.inl a7), none, none, none, none, none, none, none, none]) hG ⟨rfl, ⟨rfl, ⟨rfl, ⟨rfl, ⟨rfl, ⟨rfl, trivial⟩⟩⟩⟩⟩⟩ ?_
                  exact t_X8_value_l32_j427 hsk hd h0 h3 h4 hG hK0 hK1 hF
                · replace hF := Eq.trans (if_neg c35).symm hF
                  refine s_lconst (v := 0) hG dX8_value_426 rfl ⟨by decide, by decide⟩ ?_
                  refine m_weak (ls1 := [some (.inr (.inr r0)), none, none, some (.inr (.inr r3)), some (.inr (.inr r4)), some (.inl a5), some (.inl a6), some (.inl a7), none, none, none, none, none, none, none, none]) hG ⟨rfl, ⟨rfl, ⟨rfl, ⟨rfl, ⟨rfl, ⟨rfl, trivial⟩⟩⟩⟩⟩⟩ ?_
                  exact t_X8_value_l32_j427 hsk hd h0 h3 h4 hG hK0 hK1 hF
theorem t_X8_value_l32_j140 {d n0 s0 nF sF : Nat} {X : MX} {r0 : Nat} {r3 : Nat} {r4 : Nat} {Ω : Nat → MS → Prop} {N : NN} {a5 : Int} {a6 : Int} {a7 : Int} {a8 : Int} {a9 : Int} {z0 : Int} {z1 : Int} (hsk : m_Sk X) (hd : 1 ≤ d) (h0 : m_isT X r0) (h3 : (xK X r3).1 = 1) (h4 : (xK X r4).1 = 1) (hG : m_G d yX8_value.cls yX8_value.name cX8_value 16 n0 s0 nF sF Ω) {out : ((NN × Int × Int × Int) ⊕ ((NN × Int) ⊕ (NN ⊕ (NN ⊕ (NN ⊕ NN)))))} (hK0 : ∀ s' : (NN × Int × Int × Int), out = .inl s' → Ω 32 ([some (.inr (.inr r0)), none, none, some (.inr (.inr r3)), some (.inr (.inr r4)), some (.inl (s'.2.1)), some (.inl (s'.2.2.1)), some (.inl (s'.2.2.2)), none, none, none, none, none, none, none, none], [], s'.1, X)) (hK1 : ∀ t : ((NN × Int) ⊕ (NN ⊕ (NN ⊕ (NN ⊕ NN)))), out = .inr t → match t with | .inl e => Ω 466 ([none, none, none, none, some (.inr (.inr r4)), some (.inl e.2), none, none, none, none, none, none, none, none, none, none], [], e.1, X) | .inr (.inl e) => Ω 97 ([none, none, none, none, none, none, none, none, none, none, none, none, none, none, none, none], [], e, X) | .inr (.inr (.inl e)) => Ω 143 ([none, none, none, none, none, none, none, none, none, none, none, none, none, none, none, none], [], e, X) | .inr (.inr (.inr (.inl e))) => Ω 282 ([none, none, none, none, none, none, none, none, none, none, none, none, none, none, none, none], [], e, X) | .inr (.inr (.inr (.inr e))) => Ω 447 ([none, none, none, none, none, none, none, none, none, none, none, none, none, none, none, none], [], e, X)) (hF : f_X8_value_l32_j140 X r0 r3 r4 N a5 a6 a7 a8 a9 z0 z1 = some out) : Ω 140 ([some (.inr (.inr r0)), none, none, some (.inr (.inr r3)), some (.inr (.inr r4)), some (.inl a5), some (.inl a6), some (.inl a7), some (.inl a8), some (.inl a9), none, none, none, none, none, none], [(.inl z1), (.inl z0)], N, X) := by
  unfold f_X8_value_l32_j140 at hF
  refine s_icmp_ge hG 146 dX8_value_140 (by decide) (fun c26 => ?_) (fun c26 => ?_)
  · replace hF := Eq.trans (if_pos c26).symm hF
    cases hF
    refine m_weak (ls1 := [none, none, none, none, none, none, none, none, none, none, none, none, none, none, none, none]) hG trivial ?_
    exact hK1 _ rfl
  · replace hF := Eq.trans (if_neg c26).symm hF
    refine s_iload hG dX8_value_146 rfl ?_
    refine s_bipush hG dX8_value_148 bp_10 ⟨by decide, by decide⟩ ?_
    refine s_icmp_ne hG 172 dX8_value_150 (by decide) (fun c25 => ?_) (fun c25 => ?_)
    · replace hF := Eq.trans (if_pos c25).symm hF
      refine s_aload hG dX8_value_153 rfl ?_
      refine s_iload hG dX8_value_155 rfl ?_
      refine s_iconst hG dX8_value_157 ⟨by decide, by decide⟩ ?_
      refine s_isub hG dX8_value_158 ?_
      refine s_iconst hG dX8_value_159 ⟨by decide, by decide⟩ ?_
      refine s_aload hG dX8_value_160 rfl ?_
      refine s_iload hG dX8_value_162 rfl ?_
      refine s_iconst hG dX8_value_164 ⟨by decide, by decide⟩ ?_
      refine s_isub hG dX8_value_165 ?_
      obtain ⟨g15, hF⟩ := gd_some hF
      refine s_ialdj (j := (m_w (a5 - 1)).toNat) hG dX8_value_166 (m_k1 h4) g15 rfl ?_
      refine s_isub hG dX8_value_167 ?_
      obtain ⟨g16, hF⟩ := gd_some hF
      refine s_iastj (j := (m_w (a5 - 1)).toNat) hG dX8_value_168 (m_k1 h4) g16 rfl ?_
      refine s_goto hG 463 dX8_value_169 (by decide) ?_
      refine s_goto hG 32 dX8_value_463 (by decide) ?_
      cases hF
      refine m_weak (ls1 := [some (.inr (.inr r0)), none, none, some (.inr (.inr r3)), some (.inr (.inr r4)), some (.inl a5), some (.inl a6), some (.inl a7), none, none, none, none, none, none, none, none]) hG ⟨rfl, ⟨rfl, ⟨rfl, ⟨rfl, ⟨rfl, ⟨rfl, trivial⟩⟩⟩⟩⟩⟩ ?_
      exact hK0 _ rfl
    · replace hF := Eq.trans (if_neg c25).symm hF
      refine s_iload hG dX8_value_172 rfl ?_
      refine s_bipush hG dX8_value_174 bp_11 ⟨by decide, by decide⟩ ?_
      refine s_icmp_eq hG 186 dX8_value_176 (by decide) (fun c24 => ?_) (fun c24 => ?_)
      · replace hF := Eq.trans (if_pos c24).symm hF
        exact t_X8_value_l32_j186 hsk hd h0 h3 h4 hG hK0 hK1 hF
      · replace hF := Eq.trans (if_neg c24).symm hF
        refine s_iload hG dX8_value_179 rfl ?_
        refine s_bipush hG dX8_value_181 bp_12 ⟨by decide, by decide⟩ ?_
        refine s_icmp_ne hG 242 dX8_value_183 (by decide) (fun c23 => ?_) (fun c23 => ?_)
        · replace hF := Eq.trans (if_pos c23).symm hF
          exact t_X8_value_l32_j186 hsk hd h0 h3 h4 hG hK0 hK1 hF
        · replace hF := Eq.trans (if_neg c23).symm hF
          refine s_aload hG dX8_value_242 rfl ?_
          refine s_iload hG dX8_value_244 rfl ?_
          refine s_iconst hG dX8_value_246 ⟨by decide, by decide⟩ ?_
          refine s_isub hG dX8_value_247 ?_
          obtain ⟨g18, hF⟩ := gd_some hF
          refine s_ialdj (j := (m_w (a5 - 1)).toNat) hG dX8_value_248 (m_k1 h4) g18 rfl ?_
          refine s_i2l hG dX8_value_249 ?_
          refine s_lstore hG dX8_value_250 (by decide) rfl ?_
          refine s_aload hG dX8_value_252 rfl ?_
          refine s_iload hG dX8_value_254 rfl ?_
          refine s_iconst hG dX8_value_256 ⟨by decide, by decide⟩ ?_
          refine s_isub hG dX8_value_257 ?_
          obtain ⟨g19, hF⟩ := gd_some hF
          refine s_ialdj (j := (m_w (a5 - 2)).toNat) hG dX8_value_258 (m_k1 h4) g19 rfl ?_
          refine s_i2l hG dX8_value_259 ?_
          refine s_lstore hG dX8_value_260 (by decide) rfl ?_
          refine s_lload hG dX8_value_262 rfl ?_
          refine s_lconst (v := 0) hG dX8_value_264 rfl ⟨by decide, by decide⟩ ?_
          refine s_lcmp hG dX8_value_265 ?_
          refine s_if_ne hG 285 dX8_value_266 (by decide) (fun c22 => ?_) (fun c22 => ?_)
          · replace hF := Eq.trans (if_pos c22).symm hF
            refine s_iload hG dX8_value_269 rfl ?_
            refine s_iconst hG dX8_value_271 ⟨by decide, by decide⟩ ?_
            refine s_icmp_eq hG 282 dX8_value_272 (by decide) (fun c21 => ?_) (fun c21 => ?_)
            · replace hF := Eq.trans (if_pos c21).symm hF
              cases hF
              refine m_weak (ls1 := [none, none, none, none, none, none, none, none, none, none, none, none, none, none, none, none]) hG trivial ?_
              exact hK1 _ rfl
            · replace hF := Eq.trans (if_neg c21).symm hF
              refine s_iload hG dX8_value_275 rfl ?_
              refine s_bipush hG dX8_value_277 bp_6 ⟨by decide, by decide⟩ ?_
              refine s_icmp_ne hG 285 dX8_value_279 (by decide) (fun c20 => ?_) (fun c20 => ?_)
              · replace hF := Eq.trans (if_pos c20).symm hF
                cases hF
                refine m_weak (ls1 := [none, none, none, none, none, none, none, none, none, none, none, none, none, none, none, none]) hG trivial ?_
                exact hK1 _ rfl
              · replace hF := Eq.trans (if_neg c20).symm hF
                refine m_weak (ls1 := [some (.inr (.inr r0)), none, none, some (.inr (.inr r3)), some (.inr (.inr r4)), some (.inl a5), some (.inl a6), some (.inl a7), some (.inl a8), none, some (.inr (.inl (N r4 ((m_w (a5 - 1)).toNat)))), none, some (.inr (.inl (N r4 ((m_w (a5 - 2)).toNat)))), none, none, none]) hG ⟨rfl, ⟨rfl, ⟨rfl, ⟨rfl, ⟨rfl, ⟨rfl, ⟨rfl, ⟨rfl, ⟨rfl, trivial⟩⟩⟩⟩⟩⟩⟩⟩⟩ ?_
                exact t_X8_value_l32_j285 hsk hd h0 h3 h4 hG hK0 hK1 hF
          · replace hF := Eq.trans (if_neg c22).symm hF
            refine m_weak (ls1 := [some (.inr (.inr r0)), none, none, some (.inr (.inr r3)), some (.inr (.inr r4)), some (.inl a5), some (.inl a6), some (.inl a7), some (.inl a8), none, some (.inr (.inl (N r4 ((m_w (a5 - 1)).toNat)))), none, some (.inr (.inl (N r4 ((m_w (a5 - 2)).toNat)))), none, none, none]) hG ⟨rfl, ⟨rfl, ⟨rfl, ⟨rfl, ⟨rfl, ⟨rfl, ⟨rfl, ⟨rfl, ⟨rfl, trivial⟩⟩⟩⟩⟩⟩⟩⟩⟩ ?_
            exact t_X8_value_l32_j285 hsk hd h0 h3 h4 hG hK0 hK1 hF
theorem t_X8_value_b32 {d n0 s0 nF sF : Nat} {X : MX} {r0 : Nat} {r3 : Nat} {r4 : Nat} {Ω : Nat → MS → Prop} {N : NN} {a5 : Int} {a6 : Int} {a7 : Int} (hsk : m_Sk X) (hd : 1 ≤ d) (h0 : m_isT X r0) (h3 : (xK X r3).1 = 1) (h4 : (xK X r4).1 = 1) (hG : m_G d yX8_value.cls yX8_value.name cX8_value 16 n0 s0 nF sF Ω) {out : ((NN × Int × Int × Int) ⊕ ((NN × Int) ⊕ (NN ⊕ (NN ⊕ (NN ⊕ NN)))))} (hK0 : ∀ s' : (NN × Int × Int × Int), out = .inl s' → Ω 32 ([some (.inr (.inr r0)), none, none, some (.inr (.inr r3)), some (.inr (.inr r4)), some (.inl (s'.2.1)), some (.inl (s'.2.2.1)), some (.inl (s'.2.2.2)), none, none, none, none, none, none, none, none], [], s'.1, X)) (hK1 : ∀ t : ((NN × Int) ⊕ (NN ⊕ (NN ⊕ (NN ⊕ NN)))), out = .inr t → match t with | .inl e => Ω 466 ([none, none, none, none, some (.inr (.inr r4)), some (.inl e.2), none, none, none, none, none, none, none, none, none, none], [], e.1, X) | .inr (.inl e) => Ω 97 ([none, none, none, none, none, none, none, none, none, none, none, none, none, none, none, none], [], e, X) | .inr (.inr (.inl e)) => Ω 143 ([none, none, none, none, none, none, none, none, none, none, none, none, none, none, none, none], [], e, X) | .inr (.inr (.inr (.inl e))) => Ω 282 ([none, none, none, none, none, none, none, none, none, none, none, none, none, none, none, none], [], e, X) | .inr (.inr (.inr (.inr e))) => Ω 447 ([none, none, none, none, none, none, none, none, none, none, none, none, none, none, none, none], [], e, X)) (hF : b_X8_value_32 X r0 r3 r4 N a5 a6 a7 = some out) : Ω 32 ([some (.inr (.inr r0)), none, none, some (.inr (.inr r3)), some (.inr (.inr r4)), some (.inl a5), some (.inl a6), some (.inl a7), none, none, none, none, none, none, none, none], [], N, X) := by
  unfold b_X8_value_32 at hF
  refine s_iload hG dX8_value_32 rfl ?_
  refine s_iload hG dX8_value_34 rfl ?_
  refine s_icmp_ge hG 466 dX8_value_36 (by decide) (fun c8 => ?_) (fun c8 => ?_)
  · replace hF := Eq.trans (if_pos c8).symm hF
    refine s_aload_n hG dX8_value_39 rfl ?_
    refine s_getr (r := (r0 + 1)) hG dX8_value_40 fl_RX8_13 h0.1 rfl h0.2.1 ?_
    refine s_iload hG dX8_value_43 rfl ?_
    obtain ⟨g3, hF⟩ := gd_some hF
    refine s_ialdj (j := a6.toNat) hG dX8_value_45 (m_k1 h0.2.2.2.2.1) g3 rfl ?_
    refine s_istore hG dX8_value_46 (by decide) rfl ?_
    refine s_aload_n hG dX8_value_48 rfl ?_
    refine s_getr (r := (r0 + 2)) hG dX8_value_49 fl_RX8_19 h0.1 rfl h0.2.2.1 ?_
    refine s_iload hG dX8_value_52 rfl ?_
    obtain ⟨g4, hF⟩ := gd_some hF
    refine s_ialdj (j := a6.toNat) hG dX8_value_54 (m_k1 h0.2.2.2.2.2.1) g4 rfl ?_
    refine s_istore hG dX8_value_55 (by decide) rfl ?_
    refine s_iinc hG dX8_value_57 (by decide) rfl rfl ?_
    refine s_iload hG dX8_value_60 rfl ?_
    refine s_if_eq hG 71 dX8_value_62 (by decide) (fun c7 => ?_) (fun c7 => ?_)
    · replace hF := Eq.trans (if_pos c7).symm hF
      exact t_X8_value_l32_j71 hsk hd h0 h3 h4 hG hK0 hK1 hF
    · replace hF := Eq.trans (if_neg c7).symm hF
      refine s_iload hG dX8_value_65 rfl ?_
      refine s_iconst hG dX8_value_67 ⟨by decide, by decide⟩ ?_
      refine s_icmp_ne hG 126 dX8_value_68 (by decide) (fun c6 => ?_) (fun c6 => ?_)
      · replace hF := Eq.trans (if_pos c6).symm hF
        exact t_X8_value_l32_j71 hsk hd h0 h3 h4 hG hK0 hK1 hF
      · replace hF := Eq.trans (if_neg c6).symm hF
        refine s_iload hG dX8_value_126 rfl ?_
        refine s_iload hG dX8_value_128 rfl ?_
        refine s_bipush hG dX8_value_130 bp_9 ⟨by decide, by decide⟩ ?_
        refine s_icmp_gt hG 139 dX8_value_132 (by decide) (fun c5 => ?_) (fun c5 => ?_)
        · replace hF := Eq.trans (if_pos c5).symm hF
          refine s_iconst hG dX8_value_139 ⟨by decide, by decide⟩ ?_
          exact t_X8_value_l32_j140 hsk hd h0 h3 h4 hG hK0 hK1 hF
        · replace hF := Eq.trans (if_neg c5).symm hF
          refine s_iconst hG dX8_value_135 ⟨by decide, by decide⟩ ?_
          refine s_goto hG 140 dX8_value_136 (by decide) ?_
          exact t_X8_value_l32_j140 hsk hd h0 h3 h4 hG hK0 hK1 hF
  · replace hF := Eq.trans (if_neg c8).symm hF
    cases hF
    refine m_weak (ls1 := [none, none, none, none, some (.inr (.inr r4)), some (.inl a5), none, none, none, none, none, none, none, none, none, none]) hG ⟨rfl, ⟨rfl, trivial⟩⟩ ?_
    exact hK1 _ rfl
theorem t_X8_value_lp32 {d n0 s0 nF sF : Nat} {X : MX} {r0 : Nat} {r3 : Nat} {r4 : Nat} {Ω : Nat → MS → Prop} {N : NN} {a5 : Int} {a6 : Int} {a7 : Int} (hsk : m_Sk X) (hd : 1 ≤ d) (h0 : m_isT X r0) (h3 : (xK X r3).1 = 1) (h4 : (xK X r4).1 = 1) (hG : m_G d yX8_value.cls yX8_value.name cX8_value 16 n0 s0 nF sF Ω) {t : ((NN × Int) ⊕ (NN ⊕ (NN ⊕ (NN ⊕ NN))))} (hK1 : match t with | .inl e => Ω 466 ([none, none, none, none, some (.inr (.inr r4)), some (.inl e.2), none, none, none, none, none, none, none, none, none, none], [], e.1, X) | .inr (.inl e) => Ω 97 ([none, none, none, none, none, none, none, none, none, none, none, none, none, none, none, none], [], e, X) | .inr (.inr (.inl e)) => Ω 143 ([none, none, none, none, none, none, none, none, none, none, none, none, none, none, none, none], [], e, X) | .inr (.inr (.inr (.inl e))) => Ω 282 ([none, none, none, none, none, none, none, none, none, none, none, none, none, none, none, none], [], e, X) | .inr (.inr (.inr (.inr e))) => Ω 447 ([none, none, none, none, none, none, none, none, none, none, none, none, none, none, none, none], [], e, X)) (hl : lp (fun s => b_X8_value_32 X r0 r3 r4 s.1 s.2.1 s.2.2.1 s.2.2.2) (N, a5, a6, a7) = some t) : Ω 32 ([some (.inr (.inr r0)), none, none, some (.inr (.inr r3)), some (.inr (.inr r4)), some (.inl a5), some (.inl a6), some (.inl a7), none, none, none, none, none, none, none, none], [], N, X) := by
  refine lp_ok (P := fun s => Ω 32 ([some (.inr (.inr r0)), none, none, some (.inr (.inr r3)), some (.inr (.inr r4)), some (.inl s.2.1), some (.inl s.2.2.1), some (.inl s.2.2.2), none, none, none, none, none, none, none, none], [], s.1, X)) (K := fun t => match t with | .inl e => Ω 466 ([none, none, none, none, some (.inr (.inr r4)), some (.inl e.2), none, none, none, none, none, none, none, none, none, none], [], e.1, X) | .inr (.inl e) => Ω 97 ([none, none, none, none, none, none, none, none, none, none, none, none, none, none, none, none], [], e, X) | .inr (.inr (.inl e)) => Ω 143 ([none, none, none, none, none, none, none, none, none, none, none, none, none, none, none, none], [], e, X) | .inr (.inr (.inr (.inl e))) => Ω 282 ([none, none, none, none, none, none, none, none, none, none, none, none, none, none, none, none], [], e, X) | .inr (.inr (.inr (.inr e))) => Ω 447 ([none, none, none, none, none, none, none, none, none, none, none, none, none, none, none, none], [], e, X)) (fun s out hF hK0 hK1 => ?_) hl hK1
  exact t_X8_value_b32 hsk hd h0 h3 h4 hG (out := out) (fun s' e => hK0 s' e) (fun t' e => hK1 t' e) hF
theorem t_X8_value_j481 {d n0 s0 nF sF : Nat} {X : MX} {r0 : Nat} {r3 : Nat} {r4 : Nat} {Ω : Nat → MS → Prop} {N : NN} {z0 : Int} (hsk : m_Sk X) (hd : 1 ≤ d) (h0 : m_isT X r0) (h3 : (xK X r3).1 = 1) (h4 : (xK X r4).1 = 1) (hG : m_G d yX8_value.cls yX8_value.name cX8_value 16 n0 s0 nF sF Ω) {out : (Int × NN)} (hE : m_Gd d yX8_value cX8_value 16 (some .int) X (some (.inl out.1)) out.2 X Ω) (hF : f_X8_value_j481 X r0 r3 r4 N z0 = some out) : Ω 481 ([none, none, none, none, none, none, none, none, none, none, none, none, none, none, none, none], [(.inl z0)], N, X) := by
  unfold f_X8_value_j481 at hF
  cases hF
  exact s_iret hE dX8_value_481 rfl
theorem t_X8_value_j30 {d n0 s0 nF sF : Nat} {X : MX} {r0 : Nat} {r3 : Nat} {r4 : Nat} {Ω : Nat → MS → Prop} {N : NN} {a5 : Int} {a6 : Int} {z0 : Int} (hsk : m_Sk X) (hd : 1 ≤ d) (h0 : m_isT X r0) (h3 : (xK X r3).1 = 1) (h4 : (xK X r4).1 = 1) (hG : m_G d yX8_value.cls yX8_value.name cX8_value 16 n0 s0 nF sF Ω) {out : (Int × NN)} (hE : m_Gd d yX8_value cX8_value 16 (some .int) X (some (.inl out.1)) out.2 X Ω) (hF : f_X8_value_j30 X r0 r3 r4 N a5 a6 z0 = some out) : Ω 30 ([some (.inr (.inr r0)), none, none, some (.inr (.inr r3)), some (.inr (.inr r4)), some (.inl a5), some (.inl a6), none, none, none, none, none, none, none, none, none], [(.inl z0)], N, X) := by
  unfold f_X8_value_j30 at hF
  refine s_istore hG dX8_value_30 (by decide) rfl ?_
  obtain ⟨o53, hlo53, hF⟩ := bd_some hF
  refine t_X8_value_lp32 hsk hd h0 h3 h4 hG ?_ hlo53
  match o53, hF with
  | .inl e53, hF =>
        try dsimp only at hF
        refine s_iload hG dX8_value_466 rfl ?_
        refine s_iconst hG dX8_value_468 ⟨by decide, by decide⟩ ?_
        refine s_icmp_ne hG 479 dX8_value_469 (by decide) (fun c55 => ?_) (fun c55 => ?_)
        · replace hF := Eq.trans (if_pos c55).symm hF
          refine s_aload hG dX8_value_472 rfl ?_
          refine s_iconst hG dX8_value_474 ⟨by decide, by decide⟩ ?_
          obtain ⟨g54, hF⟩ := gd_some hF
          refine s_ialdj (j := 0) hG dX8_value_475 (m_k1 h4) g54 rfl ?_
          refine s_goto hG 481 dX8_value_476 (by decide) ?_
          refine m_weak (ls1 := [none, none, none, none, none, none, none, none, none, none, none, none, none, none, none, none]) hG trivial ?_
          exact t_X8_value_j481 hsk hd h0 h3 h4 hG hE hF
        · replace hF := Eq.trans (if_neg c55).symm hF
          refine s_ldc hG dX8_value_479 kc_RX8_51 ⟨by decide, by decide⟩ ?_
          refine m_weak (ls1 := [none, none, none, none, none, none, none, none, none, none, none, none, none, none, none, none]) hG trivial ?_
          exact t_X8_value_j481 hsk hd h0 h3 h4 hG hE hF
  | .inr (.inl e53), hF =>
        try dsimp only at hF
        refine s_ldc hG dX8_value_97 kc_RX8_51 ⟨by decide, by decide⟩ ?_
        cases hF
        exact s_iret hE dX8_value_99 rfl
  | .inr (.inr (.inl e53)), hF =>
        try dsimp only at hF
        refine s_ldc hG dX8_value_143 kc_RX8_51 ⟨by decide, by decide⟩ ?_
        cases hF
        exact s_iret hE dX8_value_145 rfl
  | .inr (.inr (.inr (.inl e53))), hF =>
        try dsimp only at hF
        refine s_ldc hG dX8_value_282 kc_RX8_51 ⟨by decide, by decide⟩ ?_
        cases hF
        exact s_iret hE dX8_value_284 rfl
  | .inr (.inr (.inr (.inr e53))), hF =>
        try dsimp only at hF
        refine s_ldc hG dX8_value_447 kc_RX8_51 ⟨by decide, by decide⟩ ?_
        cases hF
        exact s_iret hE dX8_value_449 rfl
theorem t_X8_value_j12 {d n0 s0 nF sF : Nat} {X : MX} {r0 : Nat} {r3 : Nat} {r4 : Nat} {Ω : Nat → MS → Prop} {N : NN} {a2 : Int} {a5 : Int} {z0 : Int} (hsk : m_Sk X) (hd : 1 ≤ d) (h0 : m_isT X r0) (h3 : (xK X r3).1 = 1) (h4 : (xK X r4).1 = 1) (hG : m_G d yX8_value.cls yX8_value.name cX8_value 16 n0 s0 nF sF Ω) {out : (Int × NN)} (hE : m_Gd d yX8_value cX8_value 16 (some .int) X (some (.inl out.1)) out.2 X Ω) (hF : f_X8_value_j12 X r0 r3 r4 N a2 a5 z0 = some out) : Ω 12 ([some (.inr (.inr r0)), none, some (.inl a2), some (.inr (.inr r3)), some (.inr (.inr r4)), some (.inl a5), none, none, none, none, none, none, none, none, none, none], [(.inl z0)], N, X) := by
  unfold f_X8_value_j12 at hF
  refine s_istore hG dX8_value_12 (by decide) rfl ?_
  refine s_iload_n hG dX8_value_14 rfl ?_
  refine s_aload_n hG dX8_value_15 rfl ?_
  refine s_geti hG dX8_value_16 fl_RX8_25 h0.1 rfl ?_
  refine s_icmp_le hG 29 dX8_value_19 (by decide) (fun c2 => ?_) (fun c2 => ?_)
  · replace hF := Eq.trans (if_pos c2).symm hF
    refine s_aload_n hG dX8_value_22 rfl ?_
    refine s_geti hG dX8_value_23 fl_RX8_25 h0.1 rfl ?_
    refine s_goto hG 30 dX8_value_26 (by decide) ?_
    refine m_weak (ls1 := [some (.inr (.inr r0)), none, none, some (.inr (.inr r3)), some (.inr (.inr r4)), some (.inl a5), some (.inl z0), none, none, none, none, none, none, none, none, none]) hG ⟨rfl, ⟨rfl, ⟨rfl, ⟨rfl, ⟨rfl, trivial⟩⟩⟩⟩⟩ ?_
    exact t_X8_value_j30 hsk hd h0 h3 h4 hG hE hF
  · replace hF := Eq.trans (if_neg c2).symm hF
    refine s_iload_n hG dX8_value_29 rfl ?_
    refine m_weak (ls1 := [some (.inr (.inr r0)), none, none, some (.inr (.inr r3)), some (.inr (.inr r4)), some (.inl a5), some (.inl z0), none, none, none, none, none, none, none, none, none]) hG ⟨rfl, ⟨rfl, ⟨rfl, ⟨rfl, ⟨rfl, trivial⟩⟩⟩⟩⟩ ?_
    exact t_X8_value_j30 hsk hd h0 h3 h4 hG hE hF
theorem t_X8_value {d : Nat} {X : MX} {r0 : Nat} {r3 : Nat} {r4 : Nat} {N : NN} {a1 : Int} {a2 : Int} {out : (Int × NN)} (hsk : m_Sk X) (hd : 1 ≤ d) (h0 : m_isT X r0) (h3 : (xK X r3).1 = 1) (h4 : (xK X r4).1 = 1) (hF : f_X8_value X r0 r3 r4 N a1 a2 = some out) : m_Call d yX8_value cX8_value 16 (some .int) [(.inr (.inr r0)), (.inl a1), (.inl a2), (.inr (.inr r3)), (.inr (.inr r4))] N X (some (.inl out.1)) out.2 X := by
  refine m_mk (ls0 := [some (.inr (.inr r0)), some (.inl a1), some (.inl a2), some (.inr (.inr r3)), some (.inr (.inr r4)), none, none, none, none, none, none, none, none, none, none, none]) (by decide) rfl (Nat.le_of_ble_eq_true rfl) (Nat.le_refl _) (Nat.le_refl _) (fun Ω hE => ?_)
  have hG := hE.G
  unfold f_X8_value at hF
  refine s_iconst hG dX8_value_0 ⟨by decide, by decide⟩ ?_
  refine s_istore hG dX8_value_1 (by decide) rfl ?_
  refine s_iload_n hG dX8_value_3 rfl ?_
  refine s_if_ge hG 11 dX8_value_4 (by decide) (fun c1 => ?_) (fun c1 => ?_)
  · replace hF := Eq.trans (if_pos c1).symm hF
    refine s_iconst hG dX8_value_7 ⟨by decide, by decide⟩ ?_
    refine s_goto hG 12 dX8_value_8 (by decide) ?_
    refine m_weak (ls1 := [some (.inr (.inr r0)), none, some (.inl a2), some (.inr (.inr r3)), some (.inr (.inr r4)), some (.inl 0), none, none, none, none, none, none, none, none, none, none]) hG ⟨rfl, ⟨rfl, ⟨rfl, ⟨rfl, ⟨rfl, trivial⟩⟩⟩⟩⟩ ?_
    exact t_X8_value_j12 hsk hd h0 h3 h4 hG hE hF
  · replace hF := Eq.trans (if_neg c1).symm hF
    refine s_iload_n hG dX8_value_11 rfl ?_
    refine m_weak (ls1 := [some (.inr (.inr r0)), none, some (.inl a2), some (.inr (.inr r3)), some (.inr (.inr r4)), some (.inl 0), none, none, none, none, none, none, none, none, none, none]) hG ⟨rfl, ⟨rfl, ⟨rfl, ⟨rfl, ⟨rfl, trivial⟩⟩⟩⟩⟩ ?_
    exact t_X8_value_j12 hsk hd h0 h3 h4 hG hE hF
-- X8_isSo
theorem t_X8_isSo_j60 {d n0 s0 nF sF : Nat} {X : MX} {r0 : Nat} {r2 : Nat} {r3 : Nat} {Ω : Nat → MS → Prop} {N : NN} {z0 : Int} (hsk : m_Sk X) (hd : 2 ≤ d) (h0 : m_isT X r0) (h2 : (xK X r2).1 = 1) (h3 : (xK X r3).1 = 1) (hG : m_G d yX8_isSo.cls yX8_isSo.name cX8_isSo 5 n0 s0 nF sF Ω) {out : (Int × NN)} (hE : m_Gd d yX8_isSo cX8_isSo 5 (some .boolean) X (some (.inl out.1)) out.2 X Ω) (hF : f_X8_isSo_j60 X r0 r2 r3 N z0 = some out) : Ω 60 ([none, none, none, none, none], [(.inl z0)], N, X) := by
  unfold f_X8_isSo_j60 at hF
  obtain ⟨g8, hF⟩ := gd_some hF
  cases hF
  exact s_zret hE dX8_isSo_60 rfl g8
theorem t_X8_isSo {d : Nat} {X : MX} {r0 : Nat} {r2 : Nat} {r3 : Nat} {N : NN} {a1 : Int} {out : (Int × NN)} (hsk : m_Sk X) (hd : 2 ≤ d) (h0 : m_isT X r0) (h2 : (xK X r2).1 = 1) (h3 : (xK X r3).1 = 1) (hF : f_X8_isSo X r0 r2 r3 N a1 = some out) : m_Call d yX8_isSo cX8_isSo 5 (some .boolean) [(.inr (.inr r0)), (.inl a1), (.inr (.inr r2)), (.inr (.inr r3))] N X (some (.inl out.1)) out.2 X := by
  refine m_mk (ls0 := [some (.inr (.inr r0)), some (.inl a1), some (.inr (.inr r2)), some (.inr (.inr r3)), none]) (by decide) rfl (Nat.le_of_ble_eq_true rfl) (Nat.le_refl _) (Nat.le_refl _) (fun Ω hE => ?_)
  have hG := hE.G
  unfold f_X8_isSo at hF
  refine s_iload_n hG dX8_isSo_0 rfl ?_
  refine s_bipush hG dX8_isSo_1 bp_8 ⟨by decide, by decide⟩ ?_
  refine s_imul hG dX8_isSo_3 ?_
  refine s_iconst hG dX8_isSo_4 ⟨by decide, by decide⟩ ?_
  refine s_iadd hG dX8_isSo_5 ?_
  refine s_istore hG dX8_isSo_6 (by decide) rfl ?_
  refine s_aload_n hG dX8_isSo_8 rfl ?_
  refine s_getr (r := (r0 + 3)) hG dX8_isSo_9 fl_RX8_22 h0.1 rfl h0.2.2.2.1 ?_
  refine s_iload hG dX8_isSo_12 rfl ?_
  obtain ⟨g1, hF⟩ := gd_some hF
  refine s_ialdj (j := (m_w ((m_w (a1 * 8)) + 2)).toNat) hG dX8_isSo_14 (m_k1 h0.2.2.2.2.2.2) g1 rfl ?_
  refine s_aload_n hG dX8_isSo_15 rfl ?_
  refine s_getr (r := (r0 + 3)) hG dX8_isSo_16 fl_RX8_22 h0.1 rfl h0.2.2.2.1 ?_
  refine s_iload hG dX8_isSo_19 rfl ?_
  refine s_iconst hG dX8_isSo_21 ⟨by decide, by decide⟩ ?_
  refine s_iadd hG dX8_isSo_22 ?_
  obtain ⟨g2, hF⟩ := gd_some hF
  refine s_ialdj (j := (m_w ((m_w ((m_w (a1 * 8)) + 2)) + 1)).toNat) hG dX8_isSo_23 (m_k1 h0.2.2.2.2.2.2) g2 rfl ?_
  refine s_icmp_lt hG 29 dX8_isSo_24 (by decide) (fun c7 => ?_) (fun c7 => ?_)
  · replace hF := Eq.trans (if_pos c7).symm hF
    refine s_aload_n hG dX8_isSo_29 rfl ?_
    refine s_aload_n hG dX8_isSo_30 rfl ?_
    refine s_getr (r := (r0 + 3)) hG dX8_isSo_31 fl_RX8_22 h0.1 rfl h0.2.2.2.1 ?_
    refine s_iload hG dX8_isSo_34 rfl ?_
    obtain ⟨g3, hF⟩ := gd_some hF
    refine s_ialdj (j := (m_w ((m_w (a1 * 8)) + 2)).toNat) hG dX8_isSo_36 (m_k1 h0.2.2.2.2.2.2) g3 rfl ?_
    refine s_aload_n hG dX8_isSo_37 rfl ?_
    refine s_getr (r := (r0 + 3)) hG dX8_isSo_38 fl_RX8_22 h0.1 rfl h0.2.2.2.1 ?_
    refine s_iload hG dX8_isSo_41 rfl ?_
    refine s_iconst hG dX8_isSo_43 ⟨by decide, by decide⟩ ?_
    refine s_iadd hG dX8_isSo_44 ?_
    obtain ⟨g4, hF⟩ := gd_some hF
    refine s_ialdj (j := (m_w ((m_w ((m_w (a1 * 8)) + 2)) + 1)).toNat) hG dX8_isSo_45 (m_k1 h0.2.2.2.2.2.2) g4 rfl ?_
    refine s_aload_n hG dX8_isSo_46 rfl ?_
    refine s_aload_n hG dX8_isSo_47 rfl ?_
    obtain ⟨o5, ho5, hF⟩ := bd_some hF
    refine s_callV (d' := d - 1) (ci := 8) (args := [.inl (N (r0 + 3) ((m_w ((m_w (a1 * 8)) + 2)).toNat)), .inl (N (r0 + 3) ((m_w ((m_w ((m_w (a1 * 8)) + 2)) + 1)).toNat)), .inr (.inr r2), .inr (.inr r3)]) hG (by omega) dX8_isSo_48 cv_RX8_47 cw_X8_value rfl rfl h0.1 (Nat.le_of_ble_eq_true rfl) rfl (t_X8_value hsk (by omega) h0 (m_k1f (m_k1 h2)) (m_k1f (m_k1 h3)) ho5) ?_
    refine s_iconst hG dX8_isSo_51 ⟨by decide, by decide⟩ ?_
    refine s_icmp_ne hG 59 dX8_isSo_52 (by decide) (fun c6 => ?_) (fun c6 => ?_)
    · replace hF := Eq.trans (if_pos c6).symm hF
      refine s_iconst hG dX8_isSo_55 ⟨by decide, by decide⟩ ?_
      refine s_goto hG 60 dX8_isSo_56 (by decide) ?_
      refine m_weak (ls1 := [none, none, none, none, none]) hG trivial ?_
      exact t_X8_isSo_j60 hsk hd h0 h2 h3 hG hE hF
    · replace hF := Eq.trans (if_neg c6).symm hF
      refine s_iconst hG dX8_isSo_59 ⟨by decide, by decide⟩ ?_
      refine m_weak (ls1 := [none, none, none, none, none]) hG trivial ?_
      exact t_X8_isSo_j60 hsk hd h0 h2 h3 hG hE hF
  · replace hF := Eq.trans (if_neg c7).symm hF
    refine s_iconst hG dX8_isSo_27 ⟨by decide, by decide⟩ ?_
    cases hF
    exact s_zret hE dX8_isSo_28 rfl ⟨by decide, by decide⟩
-- X8_part
theorem t_X8_part {d : Nat} {X : MX} {N : NN} {r0 : Nat} {a1 : Int} {a2 : Int} {out : Int} (hsk : m_Sk X) (hd : 1 ≤ d) (h0 : m_isT X r0) (hF : f_X8_part X N r0 a1 a2 = some out) : m_Call d yX8_part cX8_part 3 (some .int) [(.inr (.inr r0)), (.inl a1), (.inl a2)] N X (some (.inl out)) N X := by
  refine m_mk (ls0 := [some (.inr (.inr r0)), some (.inl a1), some (.inl a2)]) (by decide) rfl (Nat.le_of_ble_eq_true rfl) (Nat.le_refl _) (Nat.le_refl _) (fun Ω hE => ?_)
  have hG := hE.G
  unfold f_X8_part at hF
  refine s_aload_n hG dX8_part_0 rfl ?_
  refine s_getr (r := (r0 + 3)) hG dX8_part_1 fl_RX8_22 h0.1 rfl h0.2.2.2.1 ?_
  refine s_iload_n hG dX8_part_4 rfl ?_
  refine s_bipush hG dX8_part_5 bp_8 ⟨by decide, by decide⟩ ?_
  refine s_imul hG dX8_part_7 ?_
  refine s_iload_n hG dX8_part_8 rfl ?_
  refine s_iadd hG dX8_part_9 ?_
  obtain ⟨g1, hF⟩ := gd_some hF
  refine s_ialdj (j := (m_w ((m_w (a1 * 8)) + a2)).toNat) hG dX8_part_10 (m_k1 h0.2.2.2.2.2.2) g1 rfl ?_
  cases hF
  exact s_iret hE dX8_part_11 rfl
-- X8_sum
theorem t_X8_sum {d : Nat} {X : MX} {r0 : Nat} {r3 : Nat} {r4 : Nat} {N : NN} {a1 : Int} {a2 : Int} {out : (Int × NN)} (hsk : m_Sk X) (hd : 2 ≤ d) (h0 : m_isT X r0) (h3 : (xK X r3).1 = 1) (h4 : (xK X r4).1 = 1) (hF : f_X8_sum X r0 r3 r4 N a1 a2 = some out) : m_Call d yX8_sum cX8_sum 6 (some .int) [(.inr (.inr r0)), (.inl a1), (.inl a2), (.inr (.inr r3)), (.inr (.inr r4))] N X (some (.inl out.1)) out.2 X := by
  refine m_mk (ls0 := [some (.inr (.inr r0)), some (.inl a1), some (.inl a2), some (.inr (.inr r3)), some (.inr (.inr r4)), none]) (by decide) rfl (Nat.le_of_ble_eq_true rfl) (Nat.le_refl _) (Nat.le_refl _) (fun Ω hE => ?_)
  have hG := hE.G
  unfold f_X8_sum at hF
  refine s_iload_n hG dX8_sum_0 rfl ?_
  refine s_bipush hG dX8_sum_1 bp_8 ⟨by decide, by decide⟩ ?_
  refine s_imul hG dX8_sum_3 ?_
  refine s_iload_n hG dX8_sum_4 rfl ?_
  refine s_iadd hG dX8_sum_5 ?_
  refine s_istore hG dX8_sum_6 (by decide) rfl ?_
  refine s_aload_n hG dX8_sum_8 rfl ?_
  refine s_aload_n hG dX8_sum_9 rfl ?_
  refine s_getr (r := (r0 + 3)) hG dX8_sum_10 fl_RX8_22 h0.1 rfl h0.2.2.2.1 ?_
  refine s_iload hG dX8_sum_13 rfl ?_
  obtain ⟨g1, hF⟩ := gd_some hF
  refine s_ialdj (j := (m_w ((m_w (a1 * 8)) + a2)).toNat) hG dX8_sum_15 (m_k1 h0.2.2.2.2.2.2) g1 rfl ?_
  refine s_aload_n hG dX8_sum_16 rfl ?_
  refine s_getr (r := (r0 + 3)) hG dX8_sum_17 fl_RX8_22 h0.1 rfl h0.2.2.2.1 ?_
  refine s_iload hG dX8_sum_20 rfl ?_
  refine s_iconst hG dX8_sum_22 ⟨by decide, by decide⟩ ?_
  refine s_iadd hG dX8_sum_23 ?_
  obtain ⟨g2, hF⟩ := gd_some hF
  refine s_ialdj (j := (m_w ((m_w ((m_w (a1 * 8)) + a2)) + 1)).toNat) hG dX8_sum_24 (m_k1 h0.2.2.2.2.2.2) g2 rfl ?_
  refine s_aload_n hG dX8_sum_25 rfl ?_
  refine s_aload hG dX8_sum_26 rfl ?_
  obtain ⟨o3, ho3, hF⟩ := bd_some hF
  refine s_callV (d' := d - 1) (ci := 8) (args := [.inl (N (r0 + 3) ((m_w ((m_w (a1 * 8)) + a2)).toNat)), .inl (N (r0 + 3) ((m_w ((m_w ((m_w (a1 * 8)) + a2)) + 1)).toNat)), .inr (.inr r3), .inr (.inr r4)]) hG (by omega) dX8_sum_28 cv_RX8_47 cw_X8_value rfl rfl h0.1 (Nat.le_of_ble_eq_true rfl) rfl (t_X8_value hsk (by omega) h0 (m_k1f (m_k1 h3)) (m_k1f (m_k1 h4)) ho3) ?_
  cases hF
  exact s_iret hE dX8_sum_31 rfl
-- X2_told
theorem t_X2_told_l14_j83 {d n0 s0 nF sF : Nat} {X : MX} {r1 : Nat} {Ω : Nat → MS → Prop} {N : NN} {a2 : Int} {a3 : Int} {a4 : Int} {a5 : Int} (hsk : m_Sk X) (hd : 3 ≤ d) (hG : m_G d yX2_told.cls yX2_told.name cX2_told 7 n0 s0 nF sF Ω) {out : ((NN × Int × Int × Int × Int) ⊕ ((NN × Int) ⊕ (NN × Int × Int)))} (hK0 : ∀ s' : (NN × Int × Int × Int × Int), out = .inl s' → Ω 14 ([some (.inr (.inr 25)), some (.inr (.inr r1)), some (.inl (s'.2.1)), some (.inl (s'.2.2.1)), some (.inl (s'.2.2.2.1)), some (.inl (s'.2.2.2.2)), none], [], s'.1, X)) (hK1 : ∀ t : ((NN × Int) ⊕ (NN × Int × Int)), out = .inr t → match t with | .inl e => Ω 89 ([none, none, none, some (.inl e.2), none, none, none], [], e.1, X) | .inr e => Ω 71 ([none, none, none, none, some (.inl e.2.1), none, some (.inl e.2.2)], [], e.1, X)) (hF : f_X2_told_l14_j83 X r1 N a2 a3 a4 a5 = some out) : Ω 83 ([some (.inr (.inr 25)), some (.inr (.inr r1)), some (.inl a2), some (.inl a3), some (.inl a4), some (.inl a5), none], [], N, X) := by
  unfold f_X2_told_l14_j83 at hF
  refine s_iinc hG dX2_told_83 (by decide) rfl rfl ?_
  refine s_goto hG 14 dX2_told_86 (by decide) ?_
  cases hF
  exact hK0 _ rfl
theorem t_X2_told_b14 {d n0 s0 nF sF : Nat} {X : MX} {r1 : Nat} {Ω : Nat → MS → Prop} {N : NN} {a2 : Int} {a3 : Int} {a4 : Int} {a5 : Int} (hsk : m_Sk X) (hd : 3 ≤ d) (hG : m_G d yX2_told.cls yX2_told.name cX2_told 7 n0 s0 nF sF Ω) {out : ((NN × Int × Int × Int × Int) ⊕ ((NN × Int) ⊕ (NN × Int × Int)))} (hK0 : ∀ s' : (NN × Int × Int × Int × Int), out = .inl s' → Ω 14 ([some (.inr (.inr 25)), some (.inr (.inr r1)), some (.inl (s'.2.1)), some (.inl (s'.2.2.1)), some (.inl (s'.2.2.2.1)), some (.inl (s'.2.2.2.2)), none], [], s'.1, X)) (hK1 : ∀ t : ((NN × Int) ⊕ (NN × Int × Int)), out = .inr t → match t with | .inl e => Ω 89 ([none, none, none, some (.inl e.2), none, none, none], [], e.1, X) | .inr e => Ω 71 ([none, none, none, none, some (.inl e.2.1), none, some (.inl e.2.2)], [], e.1, X)) (hF : b_X2_told_14 X r1 N a2 a3 a4 a5 = some out) : Ω 14 ([some (.inr (.inr 25)), some (.inr (.inr r1)), some (.inl a2), some (.inl a3), some (.inl a4), some (.inl a5), none], [], N, X) := by
  unfold b_X2_told_14 at hF
  refine s_iload hG dX2_told_14 rfl ?_
  refine s_if_lt hG 89 dX2_told_16 (by decide) (fun c12 => ?_) (fun c12 => ?_)
  · replace hF := Eq.trans (if_pos c12).symm hF
    cases hF
    refine m_weak (ls1 := [none, none, none, some (.inl a3), none, none, none]) hG ⟨rfl, trivial⟩ ?_
    exact hK1 _ rfl
  · replace hF := Eq.trans (if_neg c12).symm hF
    refine s_aload_n hG dX2_told_19 rfl ?_
    refine s_iload hG dX2_told_20 rfl ?_
    refine s_iconst hG dX2_told_22 ⟨by decide, by decide⟩ ?_
    obtain ⟨g3, hF⟩ := gd_some hF
    obtain ⟨o4, ho4, hF⟩ := bd_some hF
    refine s_callV (d' := d - 1) (ci := 8) (args := [.inl a5, .inl 0]) hG (by omega) dX2_told_23 cv_RX2_51 cw_X8_part rfl rfl g3.1 (Nat.le_of_ble_eq_true rfl) rfl (t_X8_part hsk (by omega) g3 ho4) ?_
    refine s_iload_n hG dX2_told_26 rfl ?_
    refine s_icmp_ne hG 83 dX2_told_27 (by decide) (fun c11 => ?_) (fun c11 => ?_)
    · replace hF := Eq.trans (if_pos c11).symm hF
      refine s_aload_n hG dX2_told_30 rfl ?_
      refine s_iload hG dX2_told_31 rfl ?_
      refine s_aload_n hG dX2_told_33 rfl ?_
      refine s_getr (r := 26) hG dX2_told_34 fl_RX2_11 (sk_k hsk 25 rfl) rfl (sk_R hsk 25 0 rfl) ?_
      refine s_aload_n hG dX2_told_37 rfl ?_
      refine s_getr (r := 27) hG dX2_told_38 fl_RX2_17 (sk_k hsk 25 rfl) rfl (sk_R hsk 25 1 rfl) ?_
      obtain ⟨g5, hF⟩ := gd_some hF
      obtain ⟨o6, ho6, hF⟩ := bd_some hF
      refine s_callV (d' := d - 1) (ci := 8) (args := [.inl a5, .inr (.inr 26), .inr (.inr 27)]) hG (by omega) dX2_told_41 cv_RX2_54 cw_X8_isSo rfl rfl g5.1 (Nat.le_of_ble_eq_true rfl) rfl (t_X8_isSo hsk (by omega) g5 (m_k1f (sk_K hsk 26 rfl)) (m_k1f (sk_K hsk 27 rfl)) ho6) ?_
      refine s_if_eq hG 83 dX2_told_44 (by decide) (fun c10 => ?_) (fun c10 => ?_)
      · replace hF := Eq.trans (if_pos c10).symm hF
        exact t_X2_told_l14_j83 hsk hd hG hK0 hK1 hF
      · replace hF := Eq.trans (if_neg c10).symm hF
        refine s_aload_n hG dX2_told_47 rfl ?_
        refine s_iload hG dX2_told_48 rfl ?_
        refine s_iconst hG dX2_told_50 ⟨by decide, by decide⟩ ?_
        refine s_aload_n hG dX2_told_51 rfl ?_
        refine s_getr (r := 26) hG dX2_told_52 fl_RX2_11 (sk_k hsk 25 rfl) rfl (sk_R hsk 25 0 rfl) ?_
        refine s_aload_n hG dX2_told_55 rfl ?_
        refine s_getr (r := 27) hG dX2_told_56 fl_RX2_17 (sk_k hsk 25 rfl) rfl (sk_R hsk 25 1 rfl) ?_
        obtain ⟨g7, hF⟩ := gd_some hF
        obtain ⟨o8, ho8, hF⟩ := bd_some hF
        refine s_callV (d' := d - 1) (ci := 8) (args := [.inl a5, .inl 4, .inr (.inr 26), .inr (.inr 27)]) hG (by omega) dX2_told_59 cv_RX2_61 cw_X8_sum rfl rfl g7.1 (Nat.le_of_ble_eq_true rfl) rfl (t_X8_sum hsk (by omega) g7 (m_k1f (sk_K hsk 26 rfl)) (m_k1f (sk_K hsk 27 rfl)) ho8) ?_
        refine s_istore hG dX2_told_62 (by decide) rfl ?_
        refine s_iload hG dX2_told_64 rfl ?_
        refine s_ldc hG dX2_told_66 kc_RX2_65 ⟨by decide, by decide⟩ ?_
        refine s_icmp_eq hG 83 dX2_told_68 (by decide) (fun c9 => ?_) (fun c9 => ?_)
        · replace hF := Eq.trans (if_pos c9).symm hF
          refine m_weak (ls1 := [some (.inr (.inr 25)), some (.inr (.inr r1)), some (.inl a2), some (.inl a3), some (.inl a4), some (.inl a5), none]) hG ⟨rfl, ⟨rfl, ⟨rfl, ⟨rfl, ⟨rfl, ⟨rfl, trivial⟩⟩⟩⟩⟩⟩ ?_
          exact t_X2_told_l14_j83 hsk hd hG hK0 hK1 hF
        · replace hF := Eq.trans (if_neg c9).symm hF
          cases hF
          refine m_weak (ls1 := [none, none, none, none, some (.inl a4), none, some (.inl o8.1)]) hG ⟨rfl, ⟨rfl, trivial⟩⟩ ?_
          exact hK1 _ rfl
    · replace hF := Eq.trans (if_neg c11).symm hF
      exact t_X2_told_l14_j83 hsk hd hG hK0 hK1 hF
theorem t_X2_told_lp14 {d n0 s0 nF sF : Nat} {X : MX} {r1 : Nat} {Ω : Nat → MS → Prop} {N : NN} {a2 : Int} {a3 : Int} {a4 : Int} {a5 : Int} (hsk : m_Sk X) (hd : 3 ≤ d) (hG : m_G d yX2_told.cls yX2_told.name cX2_told 7 n0 s0 nF sF Ω) {t : ((NN × Int) ⊕ (NN × Int × Int))} (hK1 : match t with | .inl e => Ω 89 ([none, none, none, some (.inl e.2), none, none, none], [], e.1, X) | .inr e => Ω 71 ([none, none, none, none, some (.inl e.2.1), none, some (.inl e.2.2)], [], e.1, X)) (hl : lp (fun s => b_X2_told_14 X r1 s.1 s.2.1 s.2.2.1 s.2.2.2.1 s.2.2.2.2) (N, a2, a3, a4, a5) = some t) : Ω 14 ([some (.inr (.inr 25)), some (.inr (.inr r1)), some (.inl a2), some (.inl a3), some (.inl a4), some (.inl a5), none], [], N, X) := by
  refine lp_ok (P := fun s => Ω 14 ([some (.inr (.inr 25)), some (.inr (.inr r1)), some (.inl s.2.1), some (.inl s.2.2.1), some (.inl s.2.2.2.1), some (.inl s.2.2.2.2), none], [], s.1, X)) (K := fun t => match t with | .inl e => Ω 89 ([none, none, none, some (.inl e.2), none, none, none], [], e.1, X) | .inr e => Ω 71 ([none, none, none, none, some (.inl e.2.1), none, some (.inl e.2.2)], [], e.1, X)) (fun s out hF hK0 hK1 => ?_) hl hK1
  exact t_X2_told_b14 hsk hd hG (out := out) (fun s' e => hK0 s' e) (fun t' e => hK1 t' e) hF
theorem t_X2_told {d : Nat} {X : MX} {r1 : Nat} {N : NN} {a2 : Int} {a3 : Int} {a4 : Int} {out : (Int × NN)} (hsk : m_Sk X) (hd : 3 ≤ d) (hF : f_X2_told X r1 N a2 a3 a4 = some out) : m_Call d yX2_told cX2_told 7 (some .int) [(.inr (.inr 25)), (.inr (.inr r1)), (.inl a2), (.inl a3), (.inl a4)] N X (some (.inl out.1)) out.2 X := by
  refine m_mk (ls0 := [some (.inr (.inr 25)), some (.inr (.inr r1)), some (.inl a2), some (.inl a3), some (.inl a4), none, none]) (by decide) rfl (Nat.le_of_ble_eq_true rfl) (Nat.le_refl _) (Nat.le_refl _) (fun Ω hE => ?_)
  have hG := hE.G
  unfold f_X2_told at hF
  refine s_aload_n hG dX2_told_0 rfl ?_
  refine s_ifnonnull hG 6 dX2_told_1 (by decide) (fun c14 => ?_) (fun c14 => ?_)
  · replace hF := Eq.trans (if_pos c14).symm hF
    refine s_iload_n hG dX2_told_4 rfl ?_
    cases hF
    exact s_iret hE dX2_told_5 rfl
  · replace hF := Eq.trans (if_neg c14).symm hF
    refine s_aload_n hG dX2_told_6 rfl ?_
    obtain ⟨g1, hF⟩ := gd_some hF
    obtain ⟨o2, ho2, hF⟩ := bd_some hF
    refine s_callV (d' := d - 1) (ci := 8) (args := []) hG (by omega) dX2_told_7 cv_RX2_47 cw_X8_clauses rfl rfl g1.1 (Nat.le_of_ble_eq_true rfl) rfl (t_X8_clauses hsk (by omega) g1 ho2) ?_
    refine s_iconst hG dX2_told_10 ⟨by decide, by decide⟩ ?_
    refine s_isub hG dX2_told_11 ?_
    refine s_istore hG dX2_told_12 (by decide) rfl ?_
    obtain ⟨o13, hlo13, hF⟩ := bd_some hF
    refine t_X2_told_lp14 hsk hd hG ?_ hlo13
    match o13, hF with
    | .inl e13, hF =>
          try dsimp only at hF
          refine s_iload_n hG dX2_told_89 rfl ?_
          cases hF
          exact s_iret hE dX2_told_90 rfl
    | .inr e13, hF =>
          try dsimp only at hF
          refine s_iconst hG dX2_told_71 ⟨by decide, by decide⟩ ?_
          refine s_iload hG dX2_told_72 rfl ?_
          refine s_iload hG dX2_told_74 rfl ?_
          refine s_min hG (by omega) dX2_told_76 ml_RX2_66 lk_min_s lk_math lk_min_c (Nat.le_of_ble_eq_true rfl) ?_
          refine s_max hG (by omega) dX2_told_79 ml_RX2_71 lk_max_s lk_math lk_max_c (Nat.le_of_ble_eq_true rfl) ?_
          cases hF
          exact s_iret hE dX2_told_82 rfl
-- X2_worth
theorem t_X2_worth {d : Nat} {X : MX} {r1 : Nat} {N : NN} {a2 : Int} {a3 : Int} {a4 : Int} {out : (Int × NN)} (hsk : m_Sk X) (hd : 4 ≤ d) (h1 : m_isW X r1) (hF : f_X2_worth X r1 N a2 a3 a4 = some out) : m_Call d yX2_worth cX2_worth 5 (some .int) [(.inr (.inr 25)), (.inr (.inr r1)), (.inl a2), (.inl a3), (.inl a4)] N X (some (.inl out.1)) out.2 X := by
  refine m_mk (ls0 := [some (.inr (.inr 25)), some (.inr (.inr r1)), some (.inl a2), some (.inl a3), some (.inl a4)]) (by decide) rfl (Nat.le_of_ble_eq_true rfl) (Nat.le_refl _) (Nat.le_refl _) (fun Ω hE => ?_)
  have hG := hE.G
  unfold f_X2_worth at hF
  refine s_aload_n hG dX2_worth_0 rfl ?_
  refine s_aload_n hG dX2_worth_1 rfl ?_
  refine s_iload_n hG dX2_worth_2 rfl ?_
  refine s_aload_n hG dX2_worth_3 rfl ?_
  refine s_iconst hG dX2_worth_4 ⟨by decide, by decide⟩ ?_
  obtain ⟨o1, ho1, hF⟩ := bd_some hF
  refine s_callV (d' := d - 1) (ci := 10) (args := [.inl 0]) hG (by omega) dX2_worth_5 cv_RX2_25 cw_X10_term rfl rfl h1.1 (Nat.le_of_ble_eq_true rfl) rfl (t_X10_term hsk (by omega) h1 ho1) ?_
  obtain ⟨o2, ho2, hF⟩ := bd_some hF
  refine s_callV (d' := d - 1) (ci := 2) (args := [.inr (.inr r1), .inl a2, .inl o1]) hG (by omega) dX2_worth_8 cv_RX2_29 cw_X2_ask rfl rfl (sk_k hsk 25 rfl) (Nat.le_of_ble_eq_true rfl) rfl (t_X2_ask hsk (by omega) h1 ho2) ?_
  refine s_aload_n hG dX2_worth_11 rfl ?_
  refine s_getr (r := 26) hG dX2_worth_12 fl_RX2_11 (sk_k hsk 25 rfl) rfl (sk_R hsk 25 0 rfl) ?_
  refine s_iconst hG dX2_worth_15 ⟨by decide, by decide⟩ ?_
  refine s_iload_n hG dX2_worth_16 rfl ?_
  refine s_iastj (j := 4) hG dX2_worth_17 (sk_K hsk 26 rfl) ⟨by decide, by decide⟩ rfl ?_
  refine s_aload_n hG dX2_worth_18 rfl ?_
  refine s_getr (r := 26) hG dX2_worth_19 fl_RX2_11 (sk_k hsk 25 rfl) rfl (sk_R hsk 25 0 rfl) ?_
  refine s_iconst hG dX2_worth_22 ⟨by decide, by decide⟩ ?_
  refine s_iload hG dX2_worth_23 rfl ?_
  refine s_iastj (j := 5) hG dX2_worth_25 (sk_K hsk 26 rfl) ⟨by decide, by decide⟩ rfl ?_
  refine s_aload_n hG dX2_worth_26 rfl ?_
  refine s_aload_n hG dX2_worth_27 rfl ?_
  obtain ⟨o5, ho5, hF⟩ := bd_some hF
  refine s_callV (d' := d - 1) (ci := 10) (args := []) hG (by omega) dX2_worth_28 cv_RX2_33 cw_X10_lawInForce rfl rfl h1.1 (Nat.le_of_ble_eq_true rfl) rfl (t_X10_lawInForce hsk (by omega) h1 ho5) ?_
  refine s_sipush hG dX2_worth_31 sp_256 ⟨by decide, by decide⟩ ?_
  refine s_aload_n hG dX2_worth_34 rfl ?_
  refine s_iload_n hG dX2_worth_35 rfl ?_
  refine s_iconst hG dX2_worth_36 ⟨by decide, by decide⟩ ?_
  obtain ⟨o6, ho6, hF⟩ := bd_some hF
  refine s_callV (d' := d - 1) (ci := 10) (args := [.inl a2, .inl 2]) hG (by omega) dX2_worth_37 cv_RX2_39 cw_X10_goodAt rfl rfl h1.1 (Nat.le_of_ble_eq_true rfl) rfl (t_X10_goodAt hsk (by omega) h1 ho6) ?_
  refine s_sipush hG dX2_worth_40 sp_999 ⟨by decide, by decide⟩ ?_
  obtain ⟨o7, ho7, hF⟩ := bd_some hF
  refine s_callV (d' := d - 1) (ci := 2) (args := [.inr (.inr o5), .inl 256, .inl o6, .inl 999]) hG (by omega) dX2_worth_43 cv_RX2_43 cw_X2_told rfl rfl (sk_k hsk 25 rfl) (Nat.le_of_ble_eq_true rfl) rfl (t_X2_told hsk (by omega) ho7) ?_
  cases hF
  exact s_iret hE dX2_worth_46 rfl
-- X0_hand
theorem t_X0_hand_j73 {d n0 s0 nF sF : Nat} {X : MX} {r1 : Nat} {Ω : Nat → MS → Prop} {N : NN} {a5 : Int} (hsk : m_Sk X) (hd : 5 ≤ d) (h1 : m_isW X r1) (hG : m_G d yX0_hand.cls yX0_hand.name cX0_hand 6 n0 s0 nF sF Ω) {out : (Int × NN)} (hE : m_Gd d yX0_hand cX0_hand 6 (some .int) X (some (.inl out.1)) out.2 X Ω) (hF : f_X0_hand_j73 X r1 N a5 = some out) : Ω 73 ([none, none, none, none, none, some (.inl a5)], [], N, X) := by
  unfold f_X0_hand_j73 at hF
  refine s_iload hG dX0_hand_73 rfl ?_
  cases hF
  exact s_iret hE dX0_hand_75 rfl
theorem t_X0_hand {d : Nat} {X : MX} {r1 : Nat} {N : NN} {a2 : Int} {a3 : Int} {out : (Int × NN)} (hsk : m_Sk X) (hd : 5 ≤ d) (h1 : m_isW X r1) (hF : f_X0_hand X r1 N a2 a3 = some out) : m_Call d yX0_hand cX0_hand 6 (some .int) [(.inr (.inr 29)), (.inr (.inr r1)), (.inl a2), (.inl a3)] N X (some (.inl out.1)) out.2 X := by
  refine m_mk (ls0 := [some (.inr (.inr 29)), some (.inr (.inr r1)), some (.inl a2), some (.inl a3), none, none]) (by decide) rfl (Nat.le_of_ble_eq_true rfl) (Nat.le_refl _) (Nat.le_refl _) (fun Ω hE => ?_)
  have hG := hE.G
  unfold f_X0_hand at hF
  refine s_aload_n hG dX0_hand_0 rfl ?_
  refine s_iload_n hG dX0_hand_1 rfl ?_
  refine s_iconst hG dX0_hand_2 ⟨by decide, by decide⟩ ?_
  obtain ⟨o1, ho1, hF⟩ := bd_some hF
  refine s_callV (d' := d - 1) (ci := 10) (args := [.inl a2, .inl 0]) hG (by omega) dX0_hand_3 cv_RX0_26 cw_X10_goodAt rfl rfl h1.1 (Nat.le_of_ble_eq_true rfl) rfl (t_X10_goodAt hsk (by omega) h1 ho1) ?_
  refine s_istore hG dX0_hand_6 (by decide) rfl ?_
  refine s_aload_n hG dX0_hand_8 rfl ?_
  refine s_getr (r := 25) hG dX0_hand_9 fl_RX0_22 (sk_k hsk 29 rfl) rfl (sk_R hsk 29 0 rfl) ?_
  refine s_aload_n hG dX0_hand_12 rfl ?_
  refine s_iload_n hG dX0_hand_13 rfl ?_
  refine s_iload hG dX0_hand_14 rfl ?_
  refine s_iload_n hG dX0_hand_16 rfl ?_
  obtain ⟨o2, ho2, hF⟩ := bd_some hF
  refine s_callV (d' := d - 1) (ci := 2) (args := [.inr (.inr r1), .inl a2, .inl o1, .inl a3]) hG (by omega) dX0_hand_17 cv_RX0_40 cw_X2_worth rfl rfl (sk_k hsk 25 rfl) (Nat.le_of_ble_eq_true rfl) rfl (t_X2_worth hsk (by omega) h1 ho2) ?_
  refine s_istore hG dX0_hand_20 (by decide) rfl ?_
  refine s_aload_n hG dX0_hand_22 rfl ?_
  refine s_iload_n hG dX0_hand_23 rfl ?_
  refine s_iconst hG dX0_hand_24 ⟨by decide, by decide⟩ ?_
  refine s_iload_n hG dX0_hand_25 rfl ?_
  obtain ⟨o3, ho3, hF⟩ := bd_some hF
  refine s_callV (d' := d - 1) (ci := 10) (args := [.inl a2, .inl 0, .inl a3]) hG (by omega) dX0_hand_26 cv_RX0_44 cw_X10_setGood rfl rfl h1.1 (Nat.le_of_ble_eq_true rfl) rfl (t_X10_setGood hsk (by omega) h1 ho3) ?_
  refine s_aload_n hG dX0_hand_29 rfl ?_
  refine s_iload_n hG dX0_hand_30 rfl ?_
  refine s_iconst hG dX0_hand_31 ⟨by decide, by decide⟩ ?_
  refine s_aload_n hG dX0_hand_32 rfl ?_
  refine s_iload_n hG dX0_hand_33 rfl ?_
  refine s_iconst hG dX0_hand_34 ⟨by decide, by decide⟩ ?_
  obtain ⟨o4, ho4, hF⟩ := bd_some hF
  refine s_callV (d' := d - 1) (ci := 10) (args := [.inl a2, .inl 4]) hG (by omega) dX0_hand_35 cv_RX0_26 cw_X10_goodAt rfl rfl h1.1 (Nat.le_of_ble_eq_true rfl) rfl (t_X10_goodAt hsk (by omega) h1 ho4) ?_
  refine s_iconst hG dX0_hand_38 ⟨by decide, by decide⟩ ?_
  refine s_iadd hG dX0_hand_39 ?_
  obtain ⟨o5, ho5, hF⟩ := bd_some hF
  refine s_callV (d' := d - 1) (ci := 10) (args := [.inl a2, .inl 4, .inl (m_w (o4 + 1))]) hG (by omega) dX0_hand_40 cv_RX0_44 cw_X10_setGood rfl rfl h1.1 (Nat.le_of_ble_eq_true rfl) rfl (t_X10_setGood hsk (by omega) h1 ho5) ?_
  refine s_aload_n hG dX0_hand_43 rfl ?_
  refine s_iload_n hG dX0_hand_44 rfl ?_
  refine s_iconst hG dX0_hand_45 ⟨by decide, by decide⟩ ?_
  obtain ⟨o6, ho6, hF⟩ := bd_some hF
  refine s_callV (d' := d - 1) (ci := 10) (args := [.inl a2, .inl 1]) hG (by omega) dX0_hand_46 cv_RX0_26 cw_X10_goodAt rfl rfl h1.1 (Nat.le_of_ble_eq_true rfl) rfl (t_X10_goodAt hsk (by omega) h1 ho6) ?_
  refine s_iload hG dX0_hand_49 rfl ?_
  refine s_icmp_eq hG 64 dX0_hand_51 (by decide) (fun c9 => ?_) (fun c9 => ?_)
  · replace hF := Eq.trans (if_pos c9).symm hF
    refine s_aload_n hG dX0_hand_64 rfl ?_
    refine s_iload hG dX0_hand_65 rfl ?_
    refine s_iload_n hG dX0_hand_67 rfl ?_
    refine s_iload hG dX0_hand_68 rfl ?_
    obtain ⟨o7, ho7, hF⟩ := bd_some hF
    refine s_callS (d' := d - 1) (args := [.inr (.inr r1), .inl o1, .inl a3, .inl o2.1]) hG (by omega) dX0_hand_70 cs_RX0_52 cw_X0_challenge rfl (Nat.le_of_ble_eq_true rfl) rfl (t_X0_challenge hsk (by omega) h1 ho7) ?_
    refine m_weak (ls1 := [none, none, none, none, none, some (.inl o2.1)]) hG ⟨rfl, trivial⟩ ?_
    exact t_X0_hand_j73 hsk hd h1 hG hE hF
  · replace hF := Eq.trans (if_neg c9).symm hF
    refine s_aload_n hG dX0_hand_54 rfl ?_
    refine s_iload hG dX0_hand_55 rfl ?_
    refine s_iconst hG dX0_hand_57 ⟨by decide, by decide⟩ ?_
    obtain ⟨o8, ho8, hF⟩ := bd_some hF
    refine s_callV (d' := d - 1) (ci := 10) (args := [.inl o1, .inl 3]) hG (by omega) dX0_hand_58 cv_RX0_48 cw_X10_oneMoreOf rfl rfl h1.1 (Nat.le_of_ble_eq_true rfl) rfl (t_X10_oneMoreOf hsk (by omega) h1 ho8) ?_
    refine s_goto hG 73 dX0_hand_61 (by decide) ?_
    refine m_weak (ls1 := [none, none, none, none, none, some (.inl o2.1)]) hG ⟨rfl, trivial⟩ ?_
    exact t_X0_hand_j73 hsk hd h1 hG hE hF
-- X0_latestDrawn
theorem t_X0_latestDrawn {d : Nat} {X : MX} {N : NN} {out : Nat} (hsk : m_Sk X) (hd : 1 ≤ d) (hF : f_X0_latestDrawn X N = some out) : m_Call d yX0_latestDrawn cX0_latestDrawn 1 (some (.object "GiftDuel$World")) [(.inr (.inr 29))] N X (some (.inr (.inr out))) N X := by
  refine m_mk (ls0 := [some (.inr (.inr 29))]) (by decide) rfl (Nat.le_of_ble_eq_true rfl) (Nat.le_refl _) (Nat.le_refl _) (fun Ω hE => ?_)
  have hG := hE.G
  unfold f_X0_latestDrawn at hF
  refine s_aload_n hG dX0_latestDrawn_0 rfl ?_
  refine s_getr (r := 30) hG dX0_latestDrawn_1 fl_RX0_12 (sk_k hsk 29 rfl) rfl (sk_R hsk 29 1 rfl) ?_
  cases hF
  exact s_aret hE dX0_latestDrawn_4 rfl
-- X0_loseOld
theorem t_X0_loseOld_l13_j60 {d n0 s0 nF sF : Nat} {X : MX} {r0 : Nat} {Ω : Nat → MS → Prop} {N : NN} {a1 : Int} {a2 : Int} {a3 : Int} (hsk : m_Sk X) (hd : 2 ≤ d) (h0 : m_isW X r0) (hG : m_G d yX0_loseOld.cls yX0_loseOld.name cX0_loseOld 4 n0 s0 nF sF Ω) {out : ((NN × Int × Int × Int) ⊕ (NN × Int × Int))} (hK0 : ∀ s' : (NN × Int × Int × Int), out = .inl s' → Ω 13 ([some (.inr (.inr r0)), some (.inl (s'.2.1)), some (.inl (s'.2.2.1)), some (.inl (s'.2.2.2))], [], s'.1, X)) (hK1 : ∀ t : (NN × Int × Int), out = .inr t → Ω 66 ([some (.inr (.inr r0)), some (.inl t.2.1), some (.inl t.2.2), none], [], t.1, X)) (hF : f_X0_loseOld_l13_j60 X r0 N a1 a2 a3 = some out) : Ω 60 ([some (.inr (.inr r0)), some (.inl a1), some (.inl a2), some (.inl a3)], [], N, X) := by
  unfold f_X0_loseOld_l13_j60 at hF
  refine s_iinc hG dX0_loseOld_60 (by decide) rfl rfl ?_
  refine s_goto hG 13 dX0_loseOld_63 (by decide) ?_
  cases hF
  exact hK0 _ rfl
theorem t_X0_loseOld_b13 {d n0 s0 nF sF : Nat} {X : MX} {r0 : Nat} {Ω : Nat → MS → Prop} {N : NN} {a1 : Int} {a2 : Int} {a3 : Int} (hsk : m_Sk X) (hd : 2 ≤ d) (h0 : m_isW X r0) (hG : m_G d yX0_loseOld.cls yX0_loseOld.name cX0_loseOld 4 n0 s0 nF sF Ω) {out : ((NN × Int × Int × Int) ⊕ (NN × Int × Int))} (hK0 : ∀ s' : (NN × Int × Int × Int), out = .inl s' → Ω 13 ([some (.inr (.inr r0)), some (.inl (s'.2.1)), some (.inl (s'.2.2.1)), some (.inl (s'.2.2.2))], [], s'.1, X)) (hK1 : ∀ t : (NN × Int × Int), out = .inr t → Ω 66 ([some (.inr (.inr r0)), some (.inl t.2.1), some (.inl t.2.2), none], [], t.1, X)) (hF : b_X0_loseOld_13 X r0 N a1 a2 a3 = some out) : Ω 13 ([some (.inr (.inr r0)), some (.inl a1), some (.inl a2), some (.inl a3)], [], N, X) := by
  unfold b_X0_loseOld_13 at hF
  refine s_iload_n hG dX0_loseOld_13 rfl ?_
  refine s_aload_n hG dX0_loseOld_14 rfl ?_
  refine s_iconst hG dX0_loseOld_15 ⟨by decide, by decide⟩ ?_
  obtain ⟨o2, ho2, hF⟩ := bd_some hF
  refine s_callV (d' := d - 1) (ci := 10) (args := [.inl 0]) hG (by omega) dX0_loseOld_16 cv_RX0_81 cw_X10_many rfl rfl h0.1 (Nat.le_of_ble_eq_true rfl) rfl (t_X10_many hsk (by omega) h0 ho2) ?_
  refine s_icmp_ge hG 66 dX0_loseOld_19 (by decide) (fun c10 => ?_) (fun c10 => ?_)
  · replace hF := Eq.trans (if_pos c10).symm hF
    refine s_aload_n hG dX0_loseOld_22 rfl ?_
    refine s_iload_n hG dX0_loseOld_23 rfl ?_
    refine s_iload_n hG dX0_loseOld_24 rfl ?_
    obtain ⟨o3, ho3, hF⟩ := bd_some hF
    refine s_callV (d' := d - 1) (ci := 10) (args := [.inl a2, .inl a3]) hG (by omega) dX0_loseOld_25 cv_RX0_56 cw_X10_worthOwed rfl rfl h0.1 (Nat.le_of_ble_eq_true rfl) rfl (t_X10_worthOwed hsk (by omega) h0 ho3) ?_
    refine s_iconst hG dX0_loseOld_28 ⟨by decide, by decide⟩ ?_
    refine s_icmp_eq hG 60 dX0_loseOld_29 (by decide) (fun c9 => ?_) (fun c9 => ?_)
    · replace hF := Eq.trans (if_pos c9).symm hF
      exact t_X0_loseOld_l13_j60 hsk hd h0 hG hK0 hK1 hF
    · replace hF := Eq.trans (if_neg c9).symm hF
      refine s_aload_n hG dX0_loseOld_32 rfl ?_
      refine s_iload_n hG dX0_loseOld_33 rfl ?_
      refine s_iload_n hG dX0_loseOld_34 rfl ?_
      obtain ⟨o4, ho4, hF⟩ := bd_some hF
      refine s_callV (d' := d - 1) (ci := 10) (args := [.inl a2, .inl a3]) hG (by omega) dX0_loseOld_35 cv_RX0_75 cw_X10_since rfl rfl h0.1 (Nat.le_of_ble_eq_true rfl) rfl (t_X10_since hsk (by omega) h0 ho4) ?_
      refine s_iload_n hG dX0_loseOld_38 rfl ?_
      refine s_icmp_gt hG 60 dX0_loseOld_39 (by decide) (fun c8 => ?_) (fun c8 => ?_)
      · replace hF := Eq.trans (if_pos c8).symm hF
        exact t_X0_loseOld_l13_j60 hsk hd h0 hG hK0 hK1 hF
      · replace hF := Eq.trans (if_neg c8).symm hF
        refine s_aload_n hG dX0_loseOld_42 rfl ?_
        refine s_iload_n hG dX0_loseOld_43 rfl ?_
        refine s_iconst hG dX0_loseOld_44 ⟨by decide, by decide⟩ ?_
        obtain ⟨o5, ho5, hF⟩ := bd_some hF
        refine s_callV (d' := d - 1) (ci := 10) (args := [.inl a2, .inl 4]) hG (by omega) dX0_loseOld_45 cv_RX0_48 cw_X10_oneMoreOf rfl rfl h0.1 (Nat.le_of_ble_eq_true rfl) rfl (t_X10_oneMoreOf hsk (by omega) h0 ho5) ?_
        refine s_aload_n hG dX0_loseOld_48 rfl ?_
        refine s_iload_n hG dX0_loseOld_49 rfl ?_
        refine s_iconst hG dX0_loseOld_50 ⟨by decide, by decide⟩ ?_
        obtain ⟨o6, ho6, hF⟩ := bd_some hF
        refine s_callV (d' := d - 1) (ci := 10) (args := [.inl a3, .inl 5]) hG (by omega) dX0_loseOld_51 cv_RX0_48 cw_X10_oneMoreOf rfl rfl h0.1 (Nat.le_of_ble_eq_true rfl) rfl (t_X10_oneMoreOf hsk (by omega) h0 ho6) ?_
        refine s_aload_n hG dX0_loseOld_54 rfl ?_
        refine s_iload_n hG dX0_loseOld_55 rfl ?_
        refine s_iload_n hG dX0_loseOld_56 rfl ?_
        obtain ⟨o7, ho7, hF⟩ := bd_some hF
        refine s_callV (d' := d - 1) (ci := 10) (args := [.inl a2, .inl a3]) hG (by omega) dX0_loseOld_57 cv_RX0_59 cw_X10_settle rfl rfl h0.1 (Nat.le_of_ble_eq_true rfl) rfl (t_X10_settle hsk (by omega) h0 ho7) ?_
        exact t_X0_loseOld_l13_j60 hsk hd h0 hG hK0 hK1 hF
  · replace hF := Eq.trans (if_neg c10).symm hF
    cases hF
    refine m_weak (ls1 := [some (.inr (.inr r0)), some (.inl a1), some (.inl a2), none]) hG ⟨rfl, ⟨rfl, ⟨rfl, trivial⟩⟩⟩ ?_
    exact hK1 _ rfl
theorem t_X0_loseOld_lp13 {d n0 s0 nF sF : Nat} {X : MX} {r0 : Nat} {Ω : Nat → MS → Prop} {N : NN} {a1 : Int} {a2 : Int} {a3 : Int} (hsk : m_Sk X) (hd : 2 ≤ d) (h0 : m_isW X r0) (hG : m_G d yX0_loseOld.cls yX0_loseOld.name cX0_loseOld 4 n0 s0 nF sF Ω) {t : (NN × Int × Int)} (hK1 : Ω 66 ([some (.inr (.inr r0)), some (.inl t.2.1), some (.inl t.2.2), none], [], t.1, X)) (hl : lp (fun s => b_X0_loseOld_13 X r0 s.1 s.2.1 s.2.2.1 s.2.2.2) (N, a1, a2, a3) = some t) : Ω 13 ([some (.inr (.inr r0)), some (.inl a1), some (.inl a2), some (.inl a3)], [], N, X) := by
  refine lp_ok (P := fun s => Ω 13 ([some (.inr (.inr r0)), some (.inl s.2.1), some (.inl s.2.2.1), some (.inl s.2.2.2)], [], s.1, X)) (K := fun t => Ω 66 ([some (.inr (.inr r0)), some (.inl t.2.1), some (.inl t.2.2), none], [], t.1, X)) (fun s out hF hK0 hK1 => ?_) hl hK1
  exact t_X0_loseOld_b13 hsk hd h0 hG (out := out) (fun s' e => hK0 s' e) (fun t' e => hK1 t' e) hF
theorem t_X0_loseOld_b2 {d n0 s0 nF sF : Nat} {X : MX} {r0 : Nat} {Ω : Nat → MS → Prop} {N : NN} {a1 : Int} {a2 : Int} (hsk : m_Sk X) (hd : 2 ≤ d) (h0 : m_isW X r0) (hG : m_G d yX0_loseOld.cls yX0_loseOld.name cX0_loseOld 4 n0 s0 nF sF Ω) {out : ((NN × Int × Int) ⊕ NN)} (hK0 : ∀ s' : (NN × Int × Int), out = .inl s' → Ω 2 ([some (.inr (.inr r0)), some (.inl (s'.2.1)), some (.inl (s'.2.2)), none], [], s'.1, X)) (hK1 : ∀ t : NN, out = .inr t → Ω 72 ([none, none, none, none], [], t, X)) (hF : b_X0_loseOld_2 X r0 N a1 a2 = some out) : Ω 2 ([some (.inr (.inr r0)), some (.inl a1), some (.inl a2), none], [], N, X) := by
  unfold b_X0_loseOld_2 at hF
  refine s_iload_n hG dX0_loseOld_2 rfl ?_
  refine s_aload_n hG dX0_loseOld_3 rfl ?_
  refine s_iconst hG dX0_loseOld_4 ⟨by decide, by decide⟩ ?_
  obtain ⟨o1, ho1, hF⟩ := bd_some hF
  refine s_callV (d' := d - 1) (ci := 10) (args := [.inl 0]) hG (by omega) dX0_loseOld_5 cv_RX0_81 cw_X10_many rfl rfl h0.1 (Nat.le_of_ble_eq_true rfl) rfl (t_X10_many hsk (by omega) h0 ho1) ?_
  refine s_icmp_ge hG 72 dX0_loseOld_8 (by decide) (fun c12 => ?_) (fun c12 => ?_)
  · replace hF := Eq.trans (if_pos c12).symm hF
    refine s_iconst hG dX0_loseOld_11 ⟨by decide, by decide⟩ ?_
    refine s_istore_n hG dX0_loseOld_12 (by decide) rfl ?_
    obtain ⟨o11, hlo11, hF⟩ := bd_some hF
    refine t_X0_loseOld_lp13 hsk hd h0 hG ?_ hlo11
    refine s_iinc hG dX0_loseOld_66 (by decide) rfl rfl ?_
    refine s_goto hG 2 dX0_loseOld_69 (by decide) ?_
    cases hF
    exact hK0 _ rfl
  · replace hF := Eq.trans (if_neg c12).symm hF
    cases hF
    refine m_weak (ls1 := [none, none, none, none]) hG trivial ?_
    exact hK1 _ rfl
theorem t_X0_loseOld_lp2 {d n0 s0 nF sF : Nat} {X : MX} {r0 : Nat} {Ω : Nat → MS → Prop} {N : NN} {a1 : Int} {a2 : Int} (hsk : m_Sk X) (hd : 2 ≤ d) (h0 : m_isW X r0) (hG : m_G d yX0_loseOld.cls yX0_loseOld.name cX0_loseOld 4 n0 s0 nF sF Ω) {t : NN} (hK1 : Ω 72 ([none, none, none, none], [], t, X)) (hl : lp (fun s => b_X0_loseOld_2 X r0 s.1 s.2.1 s.2.2) (N, a1, a2) = some t) : Ω 2 ([some (.inr (.inr r0)), some (.inl a1), some (.inl a2), none], [], N, X) := by
  refine lp_ok (P := fun s => Ω 2 ([some (.inr (.inr r0)), some (.inl s.2.1), some (.inl s.2.2), none], [], s.1, X)) (K := fun t => Ω 72 ([none, none, none, none], [], t, X)) (fun s out hF hK0 hK1 => ?_) hl hK1
  exact t_X0_loseOld_b2 hsk hd h0 hG (out := out) (fun s' e => hK0 s' e) (fun t' e => hK1 t' e) hF
theorem t_X0_loseOld {d : Nat} {X : MX} {r0 : Nat} {N : NN} {a1 : Int} {out : NN} (hsk : m_Sk X) (hd : 2 ≤ d) (h0 : m_isW X r0) (hF : f_X0_loseOld X r0 N a1 = some out) : m_Call d yX0_loseOld cX0_loseOld 4 none [(.inr (.inr r0)), (.inl a1)] N X none out X := by
  refine m_mk (ls0 := [some (.inr (.inr r0)), some (.inl a1), none, none]) (by decide) rfl (Nat.le_of_ble_eq_true rfl) (Nat.le_refl _) (Nat.le_refl _) (fun Ω hE => ?_)
  have hG := hE.G
  unfold f_X0_loseOld at hF
  refine s_iconst hG dX0_loseOld_0 ⟨by decide, by decide⟩ ?_
  refine s_istore_n hG dX0_loseOld_1 (by decide) rfl ?_
  obtain ⟨o13, hlo13, hF⟩ := bd_some hF
  refine t_X0_loseOld_lp2 hsk hd h0 hG ?_ hlo13
  cases hF
  exact s_vret hE dX0_loseOld_72 rfl
-- X10_isRuined
theorem t_X10_isRuined_j21 {d n0 s0 nF sF : Nat} {X : MX} {N : NN} {r0 : Nat} {Ω : Nat → MS → Prop} {z0 : Int} (hsk : m_Sk X) (hd : 1 ≤ d) (h0 : m_isW X r0) (hG : m_G d yX10_isRuined.cls yX10_isRuined.name cX10_isRuined 2 n0 s0 nF sF Ω) {out : Int} (hE : m_Gd d yX10_isRuined cX10_isRuined 2 (some .boolean) X (some (.inl out)) N X Ω) (hF : f_X10_isRuined_j21 X N r0 z0 = some out) : Ω 21 ([none, none], [(.inl z0)], N, X) := by
  unfold f_X10_isRuined_j21 at hF
  obtain ⟨g3, hF⟩ := gd_some hF
  cases hF
  exact s_zret hE dX10_isRuined_21 rfl g3
theorem t_X10_isRuined {d : Nat} {X : MX} {N : NN} {r0 : Nat} {a1 : Int} {out : Int} (hsk : m_Sk X) (hd : 1 ≤ d) (h0 : m_isW X r0) (hF : f_X10_isRuined X N r0 a1 = some out) : m_Call d yX10_isRuined cX10_isRuined 2 (some .boolean) [(.inr (.inr r0)), (.inl a1)] N X (some (.inl out)) N X := by
  refine m_mk (ls0 := [some (.inr (.inr r0)), some (.inl a1)]) (by decide) rfl (Nat.le_of_ble_eq_true rfl) (Nat.le_refl _) (Nat.le_refl _) (fun Ω hE => ?_)
  have hG := hE.G
  unfold f_X10_isRuined at hF
  refine s_aload_n hG dX10_isRuined_0 rfl ?_
  refine s_getr (r := (r0 + 1)) hG dX10_isRuined_1 fl_RX10_11 h0.1 rfl h0.2.1 ?_
  refine s_iconst hG dX10_isRuined_4 ⟨by decide, by decide⟩ ?_
  refine s_iload_n hG dX10_isRuined_5 rfl ?_
  refine s_bipush hG dX10_isRuined_6 bp_6 ⟨by decide, by decide⟩ ?_
  refine s_imul hG dX10_isRuined_8 ?_
  refine s_iadd hG dX10_isRuined_9 ?_
  refine s_iconst hG dX10_isRuined_10 ⟨by decide, by decide⟩ ?_
  refine s_iadd hG dX10_isRuined_11 ?_
  obtain ⟨g1, hF⟩ := gd_some hF
  refine s_ialdj (j := (m_w ((m_w (3 + (m_w (a1 * 6)))) + 2)).toNat) hG dX10_isRuined_12 h0.2.2.2.1 g1 rfl ?_
  refine s_if_eq hG 20 dX10_isRuined_13 (by decide) (fun c2 => ?_) (fun c2 => ?_)
  · replace hF := Eq.trans (if_pos c2).symm hF
    refine s_iconst hG dX10_isRuined_20 ⟨by decide, by decide⟩ ?_
    refine m_weak (ls1 := [none, none]) hG trivial ?_
    exact t_X10_isRuined_j21 hsk hd h0 hG hE hF
  · replace hF := Eq.trans (if_neg c2).symm hF
    refine s_iconst hG dX10_isRuined_16 ⟨by decide, by decide⟩ ?_
    refine s_goto hG 21 dX10_isRuined_17 (by decide) ?_
    refine m_weak (ls1 := [none, none]) hG trivial ?_
    exact t_X10_isRuined_j21 hsk hd h0 hG hE hF
-- X2_bars
theorem t_X2_bars_l42_j86 {d n0 s0 nF sF : Nat} {X : MX} {r1 : Nat} {Ω : Nat → MS → Prop} {N : NN} {r5 : Nat} {a6 : Int} (hsk : m_Sk X) (hd : 3 ≤ d) (h1 : m_isW X r1) (hG : m_G d yX2_bars.cls yX2_bars.name cX2_bars 7 n0 s0 nF sF Ω) {out : ((NN × Nat × Int) ⊕ (NN ⊕ NN))} (hK0 : ∀ s' : (NN × Nat × Int), out = .inl s' → Ω 42 ([some (.inr (.inr 25)), none, none, none, none, some (.inr (.inr (s'.2.1))), some (.inl (s'.2.2))], [], s'.1, X)) (hK1 : ∀ t : (NN ⊕ NN), out = .inr t → match t with | .inl e => Ω 92 ([none, none, none, none, none, none, none], [], e, X) | .inr e => Ω 84 ([none, none, none, none, none, none, none], [], e, X)) (hF : f_X2_bars_l42_j86 X r1 N r5 a6 = some out) : Ω 86 ([some (.inr (.inr 25)), none, none, none, none, some (.inr (.inr r5)), some (.inl a6)], [], N, X) := by
  unfold f_X2_bars_l42_j86 at hF
  refine s_iinc hG dX2_bars_86 (by decide) rfl rfl ?_
  refine s_goto hG 42 dX2_bars_89 (by decide) ?_
  cases hF
  exact hK0 _ rfl
theorem t_X2_bars_b42 {d n0 s0 nF sF : Nat} {X : MX} {r1 : Nat} {Ω : Nat → MS → Prop} {N : NN} {r5 : Nat} {a6 : Int} (hsk : m_Sk X) (hd : 3 ≤ d) (h1 : m_isW X r1) (hG : m_G d yX2_bars.cls yX2_bars.name cX2_bars 7 n0 s0 nF sF Ω) {out : ((NN × Nat × Int) ⊕ (NN ⊕ NN))} (hK0 : ∀ s' : (NN × Nat × Int), out = .inl s' → Ω 42 ([some (.inr (.inr 25)), none, none, none, none, some (.inr (.inr (s'.2.1))), some (.inl (s'.2.2))], [], s'.1, X)) (hK1 : ∀ t : (NN ⊕ NN), out = .inr t → match t with | .inl e => Ω 92 ([none, none, none, none, none, none, none], [], e, X) | .inr e => Ω 84 ([none, none, none, none, none, none, none], [], e, X)) (hF : b_X2_bars_42 X r1 N r5 a6 = some out) : Ω 42 ([some (.inr (.inr 25)), none, none, none, none, some (.inr (.inr r5)), some (.inl a6)], [], N, X) := by
  unfold b_X2_bars_42 at hF
  refine s_iload hG dX2_bars_42 rfl ?_
  refine s_aload hG dX2_bars_44 rfl ?_
  obtain ⟨g6, hF⟩ := gd_some hF
  obtain ⟨o7, ho7, hF⟩ := bd_some hF
  refine s_callV (d' := d - 1) (ci := 8) (args := []) hG (by omega) dX2_bars_46 cv_RX2_47 cw_X8_clauses rfl rfl g6.1 (Nat.le_of_ble_eq_true rfl) rfl (t_X8_clauses hsk (by omega) g6 ho7) ?_
  refine s_icmp_ge hG 92 dX2_bars_49 (by decide) (fun c14 => ?_) (fun c14 => ?_)
  · replace hF := Eq.trans (if_pos c14).symm hF
    refine s_aload hG dX2_bars_52 rfl ?_
    refine s_iload hG dX2_bars_54 rfl ?_
    refine s_iconst hG dX2_bars_56 ⟨by decide, by decide⟩ ?_
    obtain ⟨g8, hF⟩ := gd_some hF
    obtain ⟨o9, ho9, hF⟩ := bd_some hF
    refine s_callV (d' := d - 1) (ci := 8) (args := [.inl a6, .inl 0]) hG (by omega) dX2_bars_57 cv_RX2_51 cw_X8_part rfl rfl g8.1 (Nat.le_of_ble_eq_true rfl) rfl (t_X8_part hsk (by omega) g8 ho9) ?_
    refine s_sipush hG dX2_bars_60 sp_258 ⟨by decide, by decide⟩ ?_
    refine s_icmp_ne hG 86 dX2_bars_63 (by decide) (fun c13 => ?_) (fun c13 => ?_)
    · replace hF := Eq.trans (if_pos c13).symm hF
      refine s_aload hG dX2_bars_66 rfl ?_
      refine s_iload hG dX2_bars_68 rfl ?_
      refine s_aload_n hG dX2_bars_70 rfl ?_
      refine s_getr (r := 26) hG dX2_bars_71 fl_RX2_11 (sk_k hsk 25 rfl) rfl (sk_R hsk 25 0 rfl) ?_
      refine s_aload_n hG dX2_bars_74 rfl ?_
      refine s_getr (r := 27) hG dX2_bars_75 fl_RX2_17 (sk_k hsk 25 rfl) rfl (sk_R hsk 25 1 rfl) ?_
      obtain ⟨g10, hF⟩ := gd_some hF
      obtain ⟨o11, ho11, hF⟩ := bd_some hF
      refine s_callV (d' := d - 1) (ci := 8) (args := [.inl a6, .inr (.inr 26), .inr (.inr 27)]) hG (by omega) dX2_bars_78 cv_RX2_54 cw_X8_isSo rfl rfl g10.1 (Nat.le_of_ble_eq_true rfl) rfl (t_X8_isSo hsk (by omega) g10 (m_k1f (sk_K hsk 26 rfl)) (m_k1f (sk_K hsk 27 rfl)) ho11) ?_
      refine s_if_eq hG 86 dX2_bars_81 (by decide) (fun c12 => ?_) (fun c12 => ?_)
      · replace hF := Eq.trans (if_pos c12).symm hF
        exact t_X2_bars_l42_j86 hsk hd h1 hG hK0 hK1 hF
      · replace hF := Eq.trans (if_neg c12).symm hF
        cases hF
        refine m_weak (ls1 := [none, none, none, none, none, none, none]) hG trivial ?_
        exact hK1 _ rfl
    · replace hF := Eq.trans (if_neg c13).symm hF
      exact t_X2_bars_l42_j86 hsk hd h1 hG hK0 hK1 hF
  · replace hF := Eq.trans (if_neg c14).symm hF
    cases hF
    refine m_weak (ls1 := [none, none, none, none, none, none, none]) hG trivial ?_
    exact hK1 _ rfl
theorem t_X2_bars_lp42 {d n0 s0 nF sF : Nat} {X : MX} {r1 : Nat} {Ω : Nat → MS → Prop} {N : NN} {r5 : Nat} {a6 : Int} (hsk : m_Sk X) (hd : 3 ≤ d) (h1 : m_isW X r1) (hG : m_G d yX2_bars.cls yX2_bars.name cX2_bars 7 n0 s0 nF sF Ω) {t : (NN ⊕ NN)} (hK1 : match t with | .inl e => Ω 92 ([none, none, none, none, none, none, none], [], e, X) | .inr e => Ω 84 ([none, none, none, none, none, none, none], [], e, X)) (hl : lp (fun s => b_X2_bars_42 X r1 s.1 s.2.1 s.2.2) (N, r5, a6) = some t) : Ω 42 ([some (.inr (.inr 25)), none, none, none, none, some (.inr (.inr r5)), some (.inl a6)], [], N, X) := by
  refine lp_ok (P := fun s => Ω 42 ([some (.inr (.inr 25)), none, none, none, none, some (.inr (.inr s.2.1)), some (.inl s.2.2)], [], s.1, X)) (K := fun t => match t with | .inl e => Ω 92 ([none, none, none, none, none, none, none], [], e, X) | .inr e => Ω 84 ([none, none, none, none, none, none, none], [], e, X)) (fun s out hF hK0 hK1 => ?_) hl hK1
  exact t_X2_bars_b42 hsk hd h1 hG (out := out) (fun s' e => hK0 s' e) (fun t' e => hK1 t' e) hF
theorem t_X2_bars {d : Nat} {X : MX} {r1 : Nat} {N : NN} {a2 : Int} {a3 : Int} {a4 : Int} {out : (Int × NN)} (hsk : m_Sk X) (hd : 3 ≤ d) (h1 : m_isW X r1) (hF : f_X2_bars X r1 N a2 a3 a4 = some out) : m_Call d yX2_bars cX2_bars 7 (some .boolean) [(.inr (.inr 25)), (.inr (.inr r1)), (.inl a2), (.inl a3), (.inl a4)] N X (some (.inl out.1)) out.2 X := by
  refine m_mk (ls0 := [some (.inr (.inr 25)), some (.inr (.inr r1)), some (.inl a2), some (.inl a3), some (.inl a4), none, none]) (by decide) rfl (Nat.le_of_ble_eq_true rfl) (Nat.le_refl _) (Nat.le_refl _) (fun Ω hE => ?_)
  have hG := hE.G
  unfold f_X2_bars at hF
  refine s_aload_n hG dX2_bars_0 rfl ?_
  obtain ⟨o1, ho1, hF⟩ := bd_some hF
  refine s_callV (d' := d - 1) (ci := 10) (args := []) hG (by omega) dX2_bars_1 cv_RX2_33 cw_X10_lawInForce rfl rfl h1.1 (Nat.le_of_ble_eq_true rfl) rfl (t_X10_lawInForce hsk (by omega) h1 ho1) ?_
  refine s_astore hG dX2_bars_4 (by decide) rfl ?_
  refine s_aload hG dX2_bars_6 rfl ?_
  refine s_ifnonnull hG 13 dX2_bars_8 (by decide) (fun c16 => ?_) (fun c16 => ?_)
  · replace hF := Eq.trans (if_pos c16).symm hF
    refine s_iconst hG dX2_bars_11 ⟨by decide, by decide⟩ ?_
    cases hF
    exact s_zret hE dX2_bars_12 rfl ⟨by decide, by decide⟩
  · replace hF := Eq.trans (if_neg c16).symm hF
    refine s_aload_n hG dX2_bars_13 rfl ?_
    refine s_aload_n hG dX2_bars_14 rfl ?_
    refine s_iload_n hG dX2_bars_15 rfl ?_
    refine s_aload_n hG dX2_bars_16 rfl ?_
    refine s_iconst hG dX2_bars_17 ⟨by decide, by decide⟩ ?_
    obtain ⟨o2, ho2, hF⟩ := bd_some hF
    refine s_callV (d' := d - 1) (ci := 10) (args := [.inl 0]) hG (by omega) dX2_bars_18 cv_RX2_25 cw_X10_term rfl rfl h1.1 (Nat.le_of_ble_eq_true rfl) rfl (t_X10_term hsk (by omega) h1 ho2) ?_
    obtain ⟨o3, ho3, hF⟩ := bd_some hF
    refine s_callV (d' := d - 1) (ci := 2) (args := [.inr (.inr r1), .inl a2, .inl o2]) hG (by omega) dX2_bars_21 cv_RX2_29 cw_X2_ask rfl rfl (sk_k hsk 25 rfl) (Nat.le_of_ble_eq_true rfl) rfl (t_X2_ask hsk (by omega) h1 ho3) ?_
    refine s_aload_n hG dX2_bars_24 rfl ?_
    refine s_getr (r := 26) hG dX2_bars_25 fl_RX2_11 (sk_k hsk 25 rfl) rfl (sk_R hsk 25 0 rfl) ?_
    refine s_iconst hG dX2_bars_28 ⟨by decide, by decide⟩ ?_
    refine s_iload_n hG dX2_bars_29 rfl ?_
    refine s_iastj (j := 4) hG dX2_bars_30 (sk_K hsk 26 rfl) ⟨by decide, by decide⟩ rfl ?_
    refine s_aload_n hG dX2_bars_31 rfl ?_
    refine s_getr (r := 26) hG dX2_bars_32 fl_RX2_11 (sk_k hsk 25 rfl) rfl (sk_R hsk 25 0 rfl) ?_
    refine s_iconst hG dX2_bars_35 ⟨by decide, by decide⟩ ?_
    refine s_iload hG dX2_bars_36 rfl ?_
    refine s_iastj (j := 5) hG dX2_bars_38 (sk_K hsk 26 rfl) ⟨by decide, by decide⟩ rfl ?_
    refine s_iconst hG dX2_bars_39 ⟨by decide, by decide⟩ ?_
    refine s_istore hG dX2_bars_40 (by decide) rfl ?_
    obtain ⟨o15, hlo15, hF⟩ := bd_some hF
    refine m_weak (ls1 := [some (.inr (.inr 25)), none, none, none, none, some (.inr (.inr o1)), some (.inl 0)]) hG ⟨rfl, ⟨rfl, ⟨rfl, trivial⟩⟩⟩ ?_
    refine t_X2_bars_lp42 hsk hd h1 hG ?_ hlo15
    match o15, hF with
    | .inl e15, hF =>
          try dsimp only at hF
          refine s_iconst hG dX2_bars_92 ⟨by decide, by decide⟩ ?_
          cases hF
          exact s_zret hE dX2_bars_93 rfl ⟨by decide, by decide⟩
    | .inr e15, hF =>
          try dsimp only at hF
          refine s_iconst hG dX2_bars_84 ⟨by decide, by decide⟩ ?_
          cases hF
          exact s_zret hE dX2_bars_85 rfl ⟨by decide, by decide⟩
-- X0_mayGive
theorem t_X0_mayGive_j51 {d n0 s0 nF sF : Nat} {X : MX} {r1 : Nat} {Ω : Nat → MS → Prop} {N : NN} {z0 : Int} (hsk : m_Sk X) (hd : 4 ≤ d) (h1 : m_isW X r1) (hG : m_G d yX0_mayGive.cls yX0_mayGive.name cX0_mayGive 5 n0 s0 nF sF Ω) {out : (Int × NN)} (hE : m_Gd d yX0_mayGive cX0_mayGive 5 (some .boolean) X (some (.inl out.1)) out.2 X Ω) (hF : f_X0_mayGive_j51 X r1 N z0 = some out) : Ω 51 ([none, none, none, none, none], [(.inl z0)], N, X) := by
  unfold f_X0_mayGive_j51 at hF
  obtain ⟨g9, hF⟩ := gd_some hF
  cases hF
  exact s_zret hE dX0_mayGive_51 rfl g9
theorem t_X0_mayGive_j50 {d n0 s0 nF sF : Nat} {X : MX} {r1 : Nat} {Ω : Nat → MS → Prop} {N : NN} (hsk : m_Sk X) (hd : 4 ≤ d) (h1 : m_isW X r1) (hG : m_G d yX0_mayGive.cls yX0_mayGive.name cX0_mayGive 5 n0 s0 nF sF Ω) {out : (Int × NN)} (hE : m_Gd d yX0_mayGive cX0_mayGive 5 (some .boolean) X (some (.inl out.1)) out.2 X Ω) (hF : f_X0_mayGive_j50 X r1 N = some out) : Ω 50 ([none, none, none, none, none], [], N, X) := by
  unfold f_X0_mayGive_j50 at hF
  refine s_iconst hG dX0_mayGive_50 ⟨by decide, by decide⟩ ?_
  exact t_X0_mayGive_j51 hsk hd h1 hG hE hF
theorem t_X0_mayGive {d : Nat} {X : MX} {r1 : Nat} {N : NN} {a2 : Int} {a3 : Int} {out : (Int × NN)} (hsk : m_Sk X) (hd : 4 ≤ d) (h1 : m_isW X r1) (hF : f_X0_mayGive X r1 N a2 a3 = some out) : m_Call d yX0_mayGive cX0_mayGive 5 (some .boolean) [(.inr (.inr 29)), (.inr (.inr r1)), (.inl a2), (.inl a3)] N X (some (.inl out.1)) out.2 X := by
  refine m_mk (ls0 := [some (.inr (.inr 29)), some (.inr (.inr r1)), some (.inl a2), some (.inl a3), none]) (by decide) rfl (Nat.le_of_ble_eq_true rfl) (Nat.le_refl _) (Nat.le_refl _) (fun Ω hE => ?_)
  have hG := hE.G
  unfold f_X0_mayGive at hF
  refine s_aload_n hG dX0_mayGive_0 rfl ?_
  refine s_iload_n hG dX0_mayGive_1 rfl ?_
  refine s_iconst hG dX0_mayGive_2 ⟨by decide, by decide⟩ ?_
  obtain ⟨o1, ho1, hF⟩ := bd_some hF
  refine s_callV (d' := d - 1) (ci := 10) (args := [.inl a2, .inl 0]) hG (by omega) dX0_mayGive_3 cv_RX0_26 cw_X10_goodAt rfl rfl h1.1 (Nat.le_of_ble_eq_true rfl) rfl (t_X10_goodAt hsk (by omega) h1 ho1) ?_
  refine s_istore hG dX0_mayGive_6 (by decide) rfl ?_
  refine s_iload hG dX0_mayGive_8 rfl ?_
  refine s_iload_n hG dX0_mayGive_10 rfl ?_
  refine s_icmp_eq hG 50 dX0_mayGive_11 (by decide) (fun c8 => ?_) (fun c8 => ?_)
  · replace hF := Eq.trans (if_pos c8).symm hF
    refine m_weak (ls1 := [none, none, none, none, none]) hG trivial ?_
    exact t_X0_mayGive_j50 hsk hd h1 hG hE hF
  · replace hF := Eq.trans (if_neg c8).symm hF
    refine s_aload_n hG dX0_mayGive_14 rfl ?_
    refine s_iload hG dX0_mayGive_15 rfl ?_
    obtain ⟨o2, ho2, hF⟩ := bd_some hF
    refine s_callV (d' := d - 1) (ci := 10) (args := [.inl o1]) hG (by omega) dX0_mayGive_17 cv_RX0_30 cw_X10_isRuined rfl rfl h1.1 (Nat.le_of_ble_eq_true rfl) rfl (t_X10_isRuined hsk (by omega) h1 ho2) ?_
    refine s_if_ne hG 50 dX0_mayGive_20 (by decide) (fun c7 => ?_) (fun c7 => ?_)
    · replace hF := Eq.trans (if_pos c7).symm hF
      refine s_aload_n hG dX0_mayGive_23 rfl ?_
      refine s_iload_n hG dX0_mayGive_24 rfl ?_
      obtain ⟨o3, ho3, hF⟩ := bd_some hF
      refine s_callV (d' := d - 1) (ci := 10) (args := [.inl a3]) hG (by omega) dX0_mayGive_25 cv_RX0_30 cw_X10_isRuined rfl rfl h1.1 (Nat.le_of_ble_eq_true rfl) rfl (t_X10_isRuined hsk (by omega) h1 ho3) ?_
      refine s_if_ne hG 50 dX0_mayGive_28 (by decide) (fun c6 => ?_) (fun c6 => ?_)
      · replace hF := Eq.trans (if_pos c6).symm hF
        refine s_aload_n hG dX0_mayGive_31 rfl ?_
        refine s_getr (r := 25) hG dX0_mayGive_32 fl_RX0_22 (sk_k hsk 29 rfl) rfl (sk_R hsk 29 0 rfl) ?_
        refine s_aload_n hG dX0_mayGive_35 rfl ?_
        refine s_iload_n hG dX0_mayGive_36 rfl ?_
        refine s_iload hG dX0_mayGive_37 rfl ?_
        refine s_iload_n hG dX0_mayGive_39 rfl ?_
        obtain ⟨o4, ho4, hF⟩ := bd_some hF
        refine s_callV (d' := d - 1) (ci := 2) (args := [.inr (.inr r1), .inl a2, .inl o1, .inl a3]) hG (by omega) dX0_mayGive_40 cv_RX0_34 cw_X2_bars rfl rfl (sk_k hsk 25 rfl) (Nat.le_of_ble_eq_true rfl) rfl (t_X2_bars hsk (by omega) h1 ho4) ?_
        refine s_if_ne hG 50 dX0_mayGive_43 (by decide) (fun c5 => ?_) (fun c5 => ?_)
        · replace hF := Eq.trans (if_pos c5).symm hF
          refine s_iconst hG dX0_mayGive_46 ⟨by decide, by decide⟩ ?_
          refine s_goto hG 51 dX0_mayGive_47 (by decide) ?_
          refine m_weak (ls1 := [none, none, none, none, none]) hG trivial ?_
          exact t_X0_mayGive_j51 hsk hd h1 hG hE hF
        · replace hF := Eq.trans (if_neg c5).symm hF
          refine m_weak (ls1 := [none, none, none, none, none]) hG trivial ?_
          exact t_X0_mayGive_j50 hsk hd h1 hG hE hF
      · replace hF := Eq.trans (if_neg c6).symm hF
        refine m_weak (ls1 := [none, none, none, none, none]) hG trivial ?_
        exact t_X0_mayGive_j50 hsk hd h1 hG hE hF
    · replace hF := Eq.trans (if_neg c7).symm hF
      refine m_weak (ls1 := [none, none, none, none, none]) hG trivial ?_
      exact t_X0_mayGive_j50 hsk hd h1 hG hE hF
-- X10_lordAt
theorem t_X10_lordAt {d : Nat} {X : MX} {N : NN} {r0 : Nat} {a1 : Int} {a2 : Int} {out : Int} (hsk : m_Sk X) (hd : 1 ≤ d) (h0 : m_isW X r0) (hF : f_X10_lordAt X N r0 a1 a2 = some out) : m_Call d yX10_lordAt cX10_lordAt 3 (some .int) [(.inr (.inr r0)), (.inl a1), (.inl a2)] N X (some (.inl out)) N X := by
  refine m_mk (ls0 := [some (.inr (.inr r0)), some (.inl a1), some (.inl a2)]) (by decide) rfl (Nat.le_of_ble_eq_true rfl) (Nat.le_refl _) (Nat.le_refl _) (fun Ω hE => ?_)
  have hG := hE.G
  unfold f_X10_lordAt at hF
  refine s_aload_n hG dX10_lordAt_0 rfl ?_
  refine s_getr (r := (r0 + 1)) hG dX10_lordAt_1 fl_RX10_11 h0.1 rfl h0.2.1 ?_
  refine s_iconst hG dX10_lordAt_4 ⟨by decide, by decide⟩ ?_
  refine s_iload_n hG dX10_lordAt_5 rfl ?_
  refine s_bipush hG dX10_lordAt_6 bp_6 ⟨by decide, by decide⟩ ?_
  refine s_imul hG dX10_lordAt_8 ?_
  refine s_iadd hG dX10_lordAt_9 ?_
  refine s_iload_n hG dX10_lordAt_10 rfl ?_
  refine s_iadd hG dX10_lordAt_11 ?_
  obtain ⟨g1, hF⟩ := gd_some hF
  refine s_ialdj (j := (m_w ((m_w (3 + (m_w (a1 * 6)))) + a2)).toNat) hG dX10_lordAt_12 h0.2.2.2.1 g1 rfl ?_
  cases hF
  exact s_iret hE dX10_lordAt_13 rfl
-- X10_setLord
theorem t_X10_setLord {d : Nat} {X : MX} {r0 : Nat} {N : NN} {a1 : Int} {a2 : Int} {a3 : Int} {out : NN} (hsk : m_Sk X) (hd : 1 ≤ d) (h0 : m_isW X r0) (hF : f_X10_setLord X r0 N a1 a2 a3 = some out) : m_Call d yX10_setLord cX10_setLord 4 none [(.inr (.inr r0)), (.inl a1), (.inl a2), (.inl a3)] N X none out X := by
  refine m_mk (ls0 := [some (.inr (.inr r0)), some (.inl a1), some (.inl a2), some (.inl a3)]) (by decide) rfl (Nat.le_of_ble_eq_true rfl) (Nat.le_refl _) (Nat.le_refl _) (fun Ω hE => ?_)
  have hG := hE.G
  unfold f_X10_setLord at hF
  refine s_aload_n hG dX10_setLord_0 rfl ?_
  refine s_getr (r := (r0 + 1)) hG dX10_setLord_1 fl_RX10_11 h0.1 rfl h0.2.1 ?_
  refine s_iconst hG dX10_setLord_4 ⟨by decide, by decide⟩ ?_
  refine s_iload_n hG dX10_setLord_5 rfl ?_
  refine s_bipush hG dX10_setLord_6 bp_6 ⟨by decide, by decide⟩ ?_
  refine s_imul hG dX10_setLord_8 ?_
  refine s_iadd hG dX10_setLord_9 ?_
  refine s_iload_n hG dX10_setLord_10 rfl ?_
  refine s_iadd hG dX10_setLord_11 ?_
  refine s_iload_n hG dX10_setLord_12 rfl ?_
  obtain ⟨g1, hF⟩ := gd_some hF
  refine s_iastj (j := (m_w ((m_w (3 + (m_w (a1 * 6)))) + a2)).toNat) hG dX10_setLord_13 h0.2.2.2.1 g1 rfl ?_
  cases hF
  exact s_vret hE dX10_setLord_14 rfl
-- X10_setTerm
theorem t_X10_setTerm {d : Nat} {X : MX} {r0 : Nat} {N : NN} {a1 : Int} {a2 : Int} {out : NN} (hsk : m_Sk X) (hd : 1 ≤ d) (h0 : m_isW X r0) (hF : f_X10_setTerm X r0 N a1 a2 = some out) : m_Call d yX10_setTerm cX10_setTerm 3 none [(.inr (.inr r0)), (.inl a1), (.inl a2)] N X none out X := by
  refine m_mk (ls0 := [some (.inr (.inr r0)), some (.inl a1), some (.inl a2)]) (by decide) rfl (Nat.le_of_ble_eq_true rfl) (Nat.le_refl _) (Nat.le_refl _) (fun Ω hE => ?_)
  have hG := hE.G
  unfold f_X10_setTerm at hF
  refine s_aload_n hG dX10_setTerm_0 rfl ?_
  refine s_getr (r := (r0 + 1)) hG dX10_setTerm_1 fl_RX10_11 h0.1 rfl h0.2.1 ?_
  refine s_iload_n hG dX10_setTerm_4 rfl ?_
  refine s_iload_n hG dX10_setTerm_5 rfl ?_
  obtain ⟨g1, hF⟩ := gd_some hF
  refine s_iastj (j := a1.toNat) hG dX10_setTerm_6 h0.2.2.2.1 g1 rfl ?_
  cases hF
  exact s_vret hE dX10_setTerm_7 rfl
-- X2_upkeep
theorem t_X2_upkeep_l6_j67 {d n0 s0 nF sF : Nat} {X : MX} {r1 : Nat} {Ω : Nat → MS → Prop} {N : NN} {a2 : Int} {a3 : Int} {a4 : Int} {a5 : Int} (hsk : m_Sk X) (hd : 4 ≤ d) (h1 : m_isW X r1) (hG : m_G d yX2_upkeep.cls yX2_upkeep.name cX2_upkeep 6 n0 s0 nF sF Ω) {out : ((NN × Int × Int × Int × Int) ⊕ (NN × Int))} (hK0 : ∀ s' : (NN × Int × Int × Int × Int), out = .inl s' → Ω 6 ([some (.inr (.inr 25)), some (.inr (.inr r1)), some (.inl (s'.2.1)), some (.inl (s'.2.2.1)), some (.inl (s'.2.2.2.1)), some (.inl (s'.2.2.2.2))], [], s'.1, X)) (hK1 : ∀ t : (NN × Int), out = .inr t → Ω 73 ([none, none, none, none, some (.inl t.2), none], [], t.1, X)) (hF : f_X2_upkeep_l6_j67 X r1 N a2 a3 a4 a5 = some out) : Ω 67 ([some (.inr (.inr 25)), some (.inr (.inr r1)), some (.inl a2), some (.inl a3), some (.inl a4), some (.inl a5)], [], N, X) := by
  unfold f_X2_upkeep_l6_j67 at hF
  refine s_iinc hG dX2_upkeep_67 (by decide) rfl rfl ?_
  refine s_goto hG 6 dX2_upkeep_70 (by decide) ?_
  cases hF
  exact hK0 _ rfl
theorem t_X2_upkeep_b6 {d n0 s0 nF sF : Nat} {X : MX} {r1 : Nat} {Ω : Nat → MS → Prop} {N : NN} {a2 : Int} {a3 : Int} {a4 : Int} {a5 : Int} (hsk : m_Sk X) (hd : 4 ≤ d) (h1 : m_isW X r1) (hG : m_G d yX2_upkeep.cls yX2_upkeep.name cX2_upkeep 6 n0 s0 nF sF Ω) {out : ((NN × Int × Int × Int × Int) ⊕ (NN × Int))} (hK0 : ∀ s' : (NN × Int × Int × Int × Int), out = .inl s' → Ω 6 ([some (.inr (.inr 25)), some (.inr (.inr r1)), some (.inl (s'.2.1)), some (.inl (s'.2.2.1)), some (.inl (s'.2.2.2.1)), some (.inl (s'.2.2.2.2))], [], s'.1, X)) (hK1 : ∀ t : (NN × Int), out = .inr t → Ω 73 ([none, none, none, none, some (.inl t.2), none], [], t.1, X)) (hF : b_X2_upkeep_6 X r1 N a2 a3 a4 a5 = some out) : Ω 6 ([some (.inr (.inr 25)), some (.inr (.inr r1)), some (.inl a2), some (.inl a3), some (.inl a4), some (.inl a5)], [], N, X) := by
  unfold b_X2_upkeep_6 at hF
  refine s_iload hG dX2_upkeep_6 rfl ?_
  refine s_aload_n hG dX2_upkeep_8 rfl ?_
  refine s_iconst hG dX2_upkeep_9 ⟨by decide, by decide⟩ ?_
  obtain ⟨o1, ho1, hF⟩ := bd_some hF
  refine s_callV (d' := d - 1) (ci := 10) (args := [.inl 1]) hG (by omega) dX2_upkeep_10 cv_RX2_58 cw_X10_many rfl rfl h1.1 (Nat.le_of_ble_eq_true rfl) rfl (t_X10_many hsk (by omega) h1 ho1) ?_
  refine s_icmp_ge hG 73 dX2_upkeep_13 (by decide) (fun c9 => ?_) (fun c9 => ?_)
  · replace hF := Eq.trans (if_pos c9).symm hF
    refine s_aload_n hG dX2_upkeep_16 rfl ?_
    refine s_iload hG dX2_upkeep_17 rfl ?_
    refine s_iconst hG dX2_upkeep_19 ⟨by decide, by decide⟩ ?_
    obtain ⟨o2, ho2, hF⟩ := bd_some hF
    refine s_callV (d' := d - 1) (ci := 10) (args := [.inl a5, .inl 0]) hG (by omega) dX2_upkeep_20 cv_RX2_39 cw_X10_goodAt rfl rfl h1.1 (Nat.le_of_ble_eq_true rfl) rfl (t_X10_goodAt hsk (by omega) h1 ho2) ?_
    refine s_iload_n hG dX2_upkeep_23 rfl ?_
    refine s_icmp_ne hG 67 dX2_upkeep_24 (by decide) (fun c8 => ?_) (fun c8 => ?_)
    · replace hF := Eq.trans (if_pos c8).symm hF
      refine s_aload_n hG dX2_upkeep_27 rfl ?_
      refine s_aload_n hG dX2_upkeep_28 rfl ?_
      refine s_iload hG dX2_upkeep_29 rfl ?_
      refine s_iload_n hG dX2_upkeep_31 rfl ?_
      obtain ⟨o3, ho3, hF⟩ := bd_some hF
      refine s_callV (d' := d - 1) (ci := 2) (args := [.inr (.inr r1), .inl a5, .inl a3]) hG (by omega) dX2_upkeep_32 cv_RX2_29 cw_X2_ask rfl rfl (sk_k hsk 25 rfl) (Nat.le_of_ble_eq_true rfl) rfl (t_X2_ask hsk (by omega) h1 ho3) ?_
      refine s_aload_n hG dX2_upkeep_35 rfl ?_
      refine s_getr (r := 26) hG dX2_upkeep_36 fl_RX2_11 (sk_k hsk 25 rfl) rfl (sk_R hsk 25 0 rfl) ?_
      refine s_iconst hG dX2_upkeep_39 ⟨by decide, by decide⟩ ?_
      refine s_iload_n hG dX2_upkeep_40 rfl ?_
      refine s_iastj (j := 5) hG dX2_upkeep_41 (sk_K hsk 26 rfl) ⟨by decide, by decide⟩ rfl ?_
      refine s_iload hG dX2_upkeep_42 rfl ?_
      refine s_aload_n hG dX2_upkeep_44 rfl ?_
      refine s_aload_n hG dX2_upkeep_45 rfl ?_
      obtain ⟨o5, ho5, hF⟩ := bd_some hF
      refine s_callV (d' := d - 1) (ci := 10) (args := []) hG (by omega) dX2_upkeep_46 cv_RX2_33 cw_X10_lawInForce rfl rfl h1.1 (Nat.le_of_ble_eq_true rfl) rfl (t_X10_lawInForce hsk (by omega) h1 ho5) ?_
      refine s_sipush hG dX2_upkeep_49 sp_257 ⟨by decide, by decide⟩ ?_
      refine s_aload_n hG dX2_upkeep_52 rfl ?_
      refine s_iload hG dX2_upkeep_53 rfl ?_
      refine s_iconst hG dX2_upkeep_55 ⟨by decide, by decide⟩ ?_
      obtain ⟨o6, ho6, hF⟩ := bd_some hF
      refine s_callV (d' := d - 1) (ci := 10) (args := [.inl a5, .inl 3]) hG (by omega) dX2_upkeep_56 cv_RX2_39 cw_X10_goodAt rfl rfl h1.1 (Nat.le_of_ble_eq_true rfl) rfl (t_X10_goodAt hsk (by omega) h1 ho6) ?_
      refine s_bipush hG dX2_upkeep_59 bp_99 ⟨by decide, by decide⟩ ?_
      obtain ⟨o7, ho7, hF⟩ := bd_some hF
      refine s_callV (d' := d - 1) (ci := 2) (args := [.inr (.inr o5), .inl 257, .inl o6, .inl 99]) hG (by omega) dX2_upkeep_61 cv_RX2_43 cw_X2_told rfl rfl (sk_k hsk 25 rfl) (Nat.le_of_ble_eq_true rfl) rfl (t_X2_told hsk (by omega) ho7) ?_
      refine s_iadd hG dX2_upkeep_64 ?_
      refine s_istore hG dX2_upkeep_65 (by decide) rfl ?_
      exact t_X2_upkeep_l6_j67 hsk hd h1 hG hK0 hK1 hF
    · replace hF := Eq.trans (if_neg c8).symm hF
      exact t_X2_upkeep_l6_j67 hsk hd h1 hG hK0 hK1 hF
  · replace hF := Eq.trans (if_neg c9).symm hF
    cases hF
    refine m_weak (ls1 := [none, none, none, none, some (.inl a4), none]) hG ⟨rfl, trivial⟩ ?_
    exact hK1 _ rfl
theorem t_X2_upkeep_lp6 {d n0 s0 nF sF : Nat} {X : MX} {r1 : Nat} {Ω : Nat → MS → Prop} {N : NN} {a2 : Int} {a3 : Int} {a4 : Int} {a5 : Int} (hsk : m_Sk X) (hd : 4 ≤ d) (h1 : m_isW X r1) (hG : m_G d yX2_upkeep.cls yX2_upkeep.name cX2_upkeep 6 n0 s0 nF sF Ω) {t : (NN × Int)} (hK1 : Ω 73 ([none, none, none, none, some (.inl t.2), none], [], t.1, X)) (hl : lp (fun s => b_X2_upkeep_6 X r1 s.1 s.2.1 s.2.2.1 s.2.2.2.1 s.2.2.2.2) (N, a2, a3, a4, a5) = some t) : Ω 6 ([some (.inr (.inr 25)), some (.inr (.inr r1)), some (.inl a2), some (.inl a3), some (.inl a4), some (.inl a5)], [], N, X) := by
  refine lp_ok (P := fun s => Ω 6 ([some (.inr (.inr 25)), some (.inr (.inr r1)), some (.inl s.2.1), some (.inl s.2.2.1), some (.inl s.2.2.2.1), some (.inl s.2.2.2.2)], [], s.1, X)) (K := fun t => Ω 73 ([none, none, none, none, some (.inl t.2), none], [], t.1, X)) (fun s out hF hK0 hK1 => ?_) hl hK1
  exact t_X2_upkeep_b6 hsk hd h1 hG (out := out) (fun s' e => hK0 s' e) (fun t' e => hK1 t' e) hF
theorem t_X2_upkeep {d : Nat} {X : MX} {r1 : Nat} {N : NN} {a2 : Int} {a3 : Int} {out : (Int × NN)} (hsk : m_Sk X) (hd : 4 ≤ d) (h1 : m_isW X r1) (hF : f_X2_upkeep X r1 N a2 a3 = some out) : m_Call d yX2_upkeep cX2_upkeep 6 (some .int) [(.inr (.inr 25)), (.inr (.inr r1)), (.inl a2), (.inl a3)] N X (some (.inl out.1)) out.2 X := by
  refine m_mk (ls0 := [some (.inr (.inr 25)), some (.inr (.inr r1)), some (.inl a2), some (.inl a3), none, none]) (by decide) rfl (Nat.le_of_ble_eq_true rfl) (Nat.le_refl _) (Nat.le_refl _) (fun Ω hE => ?_)
  have hG := hE.G
  unfold f_X2_upkeep at hF
  refine s_iconst hG dX2_upkeep_0 ⟨by decide, by decide⟩ ?_
  refine s_istore hG dX2_upkeep_1 (by decide) rfl ?_
  refine s_iconst hG dX2_upkeep_3 ⟨by decide, by decide⟩ ?_
  refine s_istore hG dX2_upkeep_4 (by decide) rfl ?_
  obtain ⟨o10, hlo10, hF⟩ := bd_some hF
  refine t_X2_upkeep_lp6 hsk hd h1 hG ?_ hlo10
  refine s_iload hG dX2_upkeep_73 rfl ?_
  cases hF
  exact s_iret hE dX2_upkeep_75 rfl
-- X0_passYear
theorem t_X0_passYear_l20_j138 {d n0 s0 nF sF : Nat} {X : MX} {r1 : Nat} {Ω : Nat → MS → Prop} {N : NN} {a2 : Int} {a3 : Int} {a4 : Int} {a5 : Int} (hsk : m_Sk X) (hd : 5 ≤ d) (h1 : m_isW X r1) (hG : m_G d yX0_passYear.cls yX0_passYear.name cX0_passYear 9 n0 s0 nF sF Ω) {out : ((NN × Int × Int × Int × Int) ⊕ (NN × Int × Int))} (hK0 : ∀ s' : (NN × Int × Int × Int × Int), out = .inl s' → Ω 20 ([some (.inr (.inr 29)), some (.inr (.inr r1)), some (.inl (s'.2.1)), some (.inl (s'.2.2.1)), some (.inl (s'.2.2.2.1)), some (.inl (s'.2.2.2.2)), none, none, none], [], s'.1, X)) (hK1 : ∀ t : (NN × Int × Int), out = .inr t → Ω 144 ([none, some (.inr (.inr r1)), none, some (.inl t.2.1), some (.inl t.2.2), none, none, none, none], [], t.1, X)) (hF : f_X0_passYear_l20_j138 X r1 N a2 a3 a4 a5 = some out) : Ω 138 ([some (.inr (.inr 29)), some (.inr (.inr r1)), some (.inl a2), some (.inl a3), some (.inl a4), some (.inl a5), none, none, none], [], N, X) := by
  unfold f_X0_passYear_l20_j138 at hF
  refine s_iinc hG dX0_passYear_138 (by decide) rfl rfl ?_
  refine s_goto hG 20 dX0_passYear_141 (by decide) ?_
  cases hF
  exact hK0 _ rfl
theorem t_X0_passYear_l20_j121 {d n0 s0 nF sF : Nat} {X : MX} {r1 : Nat} {Ω : Nat → MS → Prop} {N : NN} {a2 : Int} {a3 : Int} {a5 : Int} {z0 : Int} {z1 : Int} (hsk : m_Sk X) (hd : 5 ≤ d) (h1 : m_isW X r1) (hG : m_G d yX0_passYear.cls yX0_passYear.name cX0_passYear 9 n0 s0 nF sF Ω) {out : ((NN × Int × Int × Int × Int) ⊕ (NN × Int × Int))} (hK0 : ∀ s' : (NN × Int × Int × Int × Int), out = .inl s' → Ω 20 ([some (.inr (.inr 29)), some (.inr (.inr r1)), some (.inl (s'.2.1)), some (.inl (s'.2.2.1)), some (.inl (s'.2.2.2.1)), some (.inl (s'.2.2.2.2)), none, none, none], [], s'.1, X)) (hK1 : ∀ t : (NN × Int × Int), out = .inr t → Ω 144 ([none, some (.inr (.inr r1)), none, some (.inl t.2.1), some (.inl t.2.2), none, none, none, none], [], t.1, X)) (hF : f_X0_passYear_l20_j121 X r1 N a2 a3 a5 z0 z1 = some out) : Ω 121 ([some (.inr (.inr 29)), some (.inr (.inr r1)), some (.inl a2), some (.inl a3), none, some (.inl a5), none, none, none], [(.inl z1), (.inl z0)], N, X) := by
  unfold f_X0_passYear_l20_j121 at hF
  refine s_iadd hG dX0_passYear_121 ?_
  refine s_istore hG dX0_passYear_122 (by decide) rfl ?_
  refine s_aload_n hG dX0_passYear_124 rfl ?_
  refine s_iload hG dX0_passYear_125 rfl ?_
  refine s_iconst hG dX0_passYear_127 ⟨by decide, by decide⟩ ?_
  refine s_iconst hG dX0_passYear_128 ⟨by decide, by decide⟩ ?_
  obtain ⟨o13, ho13, hF⟩ := bd_some hF
  refine s_callV (d' := d - 1) (ci := 10) (args := [.inl a5, .inl 2, .inl 1]) hG (by omega) dX0_passYear_129 cv_RX0_94 cw_X10_setLord rfl rfl h1.1 (Nat.le_of_ble_eq_true rfl) rfl (t_X10_setLord hsk (by omega) h1 ho13) ?_
  refine s_aload_n hG dX0_passYear_132 rfl ?_
  refine s_iload hG dX0_passYear_133 rfl ?_
  obtain ⟨o14, ho14, hF⟩ := bd_some hF
  refine s_callS (d' := d - 1) (args := [.inr (.inr r1), .inl a5]) hG (by omega) dX0_passYear_135 cs_RX0_97 cw_X0_dropAllOf rfl (Nat.le_of_ble_eq_true rfl) rfl (t_X0_dropAllOf hsk (by omega) h1 ho14) ?_
  exact t_X0_passYear_l20_j138 hsk hd h1 hG hK0 hK1 hF
theorem t_X0_passYear_l20_j51 {d n0 s0 nF sF : Nat} {X : MX} {r1 : Nat} {Ω : Nat → MS → Prop} {N : NN} {a2 : Int} {a3 : Int} {a4 : Int} {a5 : Int} {z0 : Int} (hsk : m_Sk X) (hd : 5 ≤ d) (h1 : m_isW X r1) (hG : m_G d yX0_passYear.cls yX0_passYear.name cX0_passYear 9 n0 s0 nF sF Ω) {out : ((NN × Int × Int × Int × Int) ⊕ (NN × Int × Int))} (hK0 : ∀ s' : (NN × Int × Int × Int × Int), out = .inl s' → Ω 20 ([some (.inr (.inr 29)), some (.inr (.inr r1)), some (.inl (s'.2.1)), some (.inl (s'.2.2.1)), some (.inl (s'.2.2.2.1)), some (.inl (s'.2.2.2.2)), none, none, none], [], s'.1, X)) (hK1 : ∀ t : (NN × Int × Int), out = .inr t → Ω 144 ([none, some (.inr (.inr r1)), none, some (.inl t.2.1), some (.inl t.2.2), none, none, none, none], [], t.1, X)) (hF : f_X0_passYear_l20_j51 X r1 N a2 a3 a4 a5 z0 = some out) : Ω 51 ([some (.inr (.inr 29)), some (.inr (.inr r1)), some (.inl a2), some (.inl a3), some (.inl a4), some (.inl a5), none, none, none], [(.inl z0)], N, X) := by
  unfold f_X0_passYear_l20_j51 at hF
  refine s_istore hG dX0_passYear_51 (by decide) rfl ?_
  refine s_sipush hG dX0_passYear_53 sp_9999 ⟨by decide, by decide⟩ ?_
  refine s_aload_n hG dX0_passYear_56 rfl ?_
  refine s_iload hG dX0_passYear_57 rfl ?_
  refine s_iconst hG dX0_passYear_59 ⟨by decide, by decide⟩ ?_
  obtain ⟨o7, ho7, hF⟩ := bd_some hF
  refine s_callV (d' := d - 1) (ci := 10) (args := [.inl a5, .inl 0]) hG (by omega) dX0_passYear_60 cv_RX0_84 cw_X10_lordAt rfl rfl h1.1 (Nat.le_of_ble_eq_true rfl) rfl (t_X10_lordAt hsk (by omega) h1 ho7) ?_
  refine s_iload hG dX0_passYear_63 rfl ?_
  refine s_iadd hG dX0_passYear_65 ?_
  refine s_min hG (by omega) dX0_passYear_66 ml_RX0_87 lk_min_s lk_math lk_min_c (Nat.le_of_ble_eq_true rfl) ?_
  refine s_istore hG dX0_passYear_69 (by decide) rfl ?_
  refine s_iload hG dX0_passYear_71 rfl ?_
  refine s_aload_n hG dX0_passYear_73 rfl ?_
  refine s_getr (r := 25) hG dX0_passYear_74 fl_RX0_22 (sk_k hsk 29 rfl) rfl (sk_R hsk 29 0 rfl) ?_
  refine s_aload_n hG dX0_passYear_77 rfl ?_
  refine s_iload hG dX0_passYear_78 rfl ?_
  refine s_iload_n hG dX0_passYear_80 rfl ?_
  obtain ⟨o8, ho8, hF⟩ := bd_some hF
  refine s_callV (d' := d - 1) (ci := 2) (args := [.inr (.inr r1), .inl a5, .inl a3]) hG (by omega) dX0_passYear_81 cv_RX0_90 cw_X2_upkeep rfl rfl (sk_k hsk 25 rfl) (Nat.le_of_ble_eq_true rfl) rfl (t_X2_upkeep hsk (by omega) h1 ho8) ?_
  refine s_isub hG dX0_passYear_84 ?_
  refine s_istore hG dX0_passYear_85 (by decide) rfl ?_
  refine s_aload_n hG dX0_passYear_87 rfl ?_
  refine s_iload hG dX0_passYear_88 rfl ?_
  refine s_iconst hG dX0_passYear_90 ⟨by decide, by decide⟩ ?_
  refine s_iconst hG dX0_passYear_91 ⟨by decide, by decide⟩ ?_
  refine s_iload hG dX0_passYear_92 rfl ?_
  refine s_max hG (by omega) dX0_passYear_94 ml_RX0_70 lk_max_s lk_math lk_max_c (Nat.le_of_ble_eq_true rfl) ?_
  obtain ⟨o9, ho9, hF⟩ := bd_some hF
  refine s_callV (d' := d - 1) (ci := 10) (args := [.inl a5, .inl 0, .inl (m_max 0 (m_w ((m_min 9999 (m_w (o7 + z0))) - o8.1)))]) hG (by omega) dX0_passYear_97 cv_RX0_94 cw_X10_setLord rfl rfl h1.1 (Nat.le_of_ble_eq_true rfl) rfl (t_X10_setLord hsk (by omega) h1 ho9) ?_
  refine s_iload hG dX0_passYear_100 rfl ?_
  refine s_if_ge hG 138 dX0_passYear_102 (by decide) (fun c12 => ?_) (fun c12 => ?_)
  · replace hF := Eq.trans (if_pos c12).symm hF
    refine s_iload hG dX0_passYear_105 rfl ?_
    refine s_aload_n hG dX0_passYear_107 rfl ?_
    refine s_iload hG dX0_passYear_108 rfl ?_
    obtain ⟨o10, ho10, hF⟩ := bd_some hF
    refine s_callV (d' := d - 1) (ci := 10) (args := [.inl a5]) hG (by omega) dX0_passYear_110 cv_RX0_30 cw_X10_isRuined rfl rfl h1.1 (Nat.le_of_ble_eq_true rfl) rfl (t_X10_isRuined hsk (by omega) h1 ho10) ?_
    refine s_if_eq hG 120 dX0_passYear_113 (by decide) (fun c11 => ?_) (fun c11 => ?_)
    · replace hF := Eq.trans (if_pos c11).symm hF
      refine s_iconst hG dX0_passYear_120 ⟨by decide, by decide⟩ ?_
      refine m_weak (ls1 := [some (.inr (.inr 29)), some (.inr (.inr r1)), some (.inl a2), some (.inl a3), none, some (.inl a5), none, none, none]) hG ⟨rfl, ⟨rfl, ⟨rfl, ⟨rfl, ⟨rfl, trivial⟩⟩⟩⟩⟩ ?_
      exact t_X0_passYear_l20_j121 hsk hd h1 hG hK0 hK1 hF
    · replace hF := Eq.trans (if_neg c11).symm hF
      refine s_iconst hG dX0_passYear_116 ⟨by decide, by decide⟩ ?_
      refine s_goto hG 121 dX0_passYear_117 (by decide) ?_
      refine m_weak (ls1 := [some (.inr (.inr 29)), some (.inr (.inr r1)), some (.inl a2), some (.inl a3), none, some (.inl a5), none, none, none]) hG ⟨rfl, ⟨rfl, ⟨rfl, ⟨rfl, ⟨rfl, trivial⟩⟩⟩⟩⟩ ?_
      exact t_X0_passYear_l20_j121 hsk hd h1 hG hK0 hK1 hF
  · replace hF := Eq.trans (if_neg c12).symm hF
    refine m_weak (ls1 := [some (.inr (.inr 29)), some (.inr (.inr r1)), some (.inl a2), some (.inl a3), some (.inl a4), some (.inl a5), none, none, none]) hG ⟨rfl, ⟨rfl, ⟨rfl, ⟨rfl, ⟨rfl, ⟨rfl, trivial⟩⟩⟩⟩⟩⟩ ?_
    exact t_X0_passYear_l20_j138 hsk hd h1 hG hK0 hK1 hF
theorem t_X0_passYear_b20 {d n0 s0 nF sF : Nat} {X : MX} {r1 : Nat} {Ω : Nat → MS → Prop} {N : NN} {a2 : Int} {a3 : Int} {a4 : Int} {a5 : Int} (hsk : m_Sk X) (hd : 5 ≤ d) (h1 : m_isW X r1) (hG : m_G d yX0_passYear.cls yX0_passYear.name cX0_passYear 9 n0 s0 nF sF Ω) {out : ((NN × Int × Int × Int × Int) ⊕ (NN × Int × Int))} (hK0 : ∀ s' : (NN × Int × Int × Int × Int), out = .inl s' → Ω 20 ([some (.inr (.inr 29)), some (.inr (.inr r1)), some (.inl (s'.2.1)), some (.inl (s'.2.2.1)), some (.inl (s'.2.2.2.1)), some (.inl (s'.2.2.2.2)), none, none, none], [], s'.1, X)) (hK1 : ∀ t : (NN × Int × Int), out = .inr t → Ω 144 ([none, some (.inr (.inr r1)), none, some (.inl t.2.1), some (.inl t.2.2), none, none, none, none], [], t.1, X)) (hF : b_X0_passYear_20 X r1 N a2 a3 a4 a5 = some out) : Ω 20 ([some (.inr (.inr 29)), some (.inr (.inr r1)), some (.inl a2), some (.inl a3), some (.inl a4), some (.inl a5), none, none, none], [], N, X) := by
  unfold b_X0_passYear_20 at hF
  refine s_iload hG dX0_passYear_20 rfl ?_
  refine s_aload_n hG dX0_passYear_22 rfl ?_
  refine s_iconst hG dX0_passYear_23 ⟨by decide, by decide⟩ ?_
  obtain ⟨o3, ho3, hF⟩ := bd_some hF
  refine s_callV (d' := d - 1) (ci := 10) (args := [.inl 0]) hG (by omega) dX0_passYear_24 cv_RX0_81 cw_X10_many rfl rfl h1.1 (Nat.le_of_ble_eq_true rfl) rfl (t_X10_many hsk (by omega) h1 ho3) ?_
  refine s_icmp_ge hG 144 dX0_passYear_27 (by decide) (fun c6 => ?_) (fun c6 => ?_)
  · replace hF := Eq.trans (if_pos c6).symm hF
    refine s_iload_n hG dX0_passYear_30 rfl ?_
    refine s_iload hG dX0_passYear_31 rfl ?_
    refine s_ishr hG dX0_passYear_33 ?_
    refine s_iconst hG dX0_passYear_34 ⟨by decide, by decide⟩ ?_
    refine s_iand hG dX0_passYear_35 ?_
    refine s_iconst hG dX0_passYear_36 ⟨by decide, by decide⟩ ?_
    refine s_icmp_ne hG 44 dX0_passYear_37 (by decide) (fun c5 => ?_) (fun c5 => ?_)
    · replace hF := Eq.trans (if_pos c5).symm hF
      refine s_iconst hG dX0_passYear_40 ⟨by decide, by decide⟩ ?_
      refine s_goto hG 51 dX0_passYear_41 (by decide) ?_
      exact t_X0_passYear_l20_j51 hsk hd h1 hG hK0 hK1 hF
    · replace hF := Eq.trans (if_neg c5).symm hF
      refine s_aload_n hG dX0_passYear_44 rfl ?_
      refine s_iload hG dX0_passYear_45 rfl ?_
      refine s_iconst hG dX0_passYear_47 ⟨by decide, by decide⟩ ?_
      obtain ⟨o4, ho4, hF⟩ := bd_some hF
      refine s_callV (d' := d - 1) (ci := 10) (args := [.inl a5, .inl 1]) hG (by omega) dX0_passYear_48 cv_RX0_84 cw_X10_lordAt rfl rfl h1.1 (Nat.le_of_ble_eq_true rfl) rfl (t_X10_lordAt hsk (by omega) h1 ho4) ?_
      exact t_X0_passYear_l20_j51 hsk hd h1 hG hK0 hK1 hF
  · replace hF := Eq.trans (if_neg c6).symm hF
    cases hF
    refine m_weak (ls1 := [none, some (.inr (.inr r1)), none, some (.inl a3), some (.inl a4), none, none, none, none]) hG ⟨rfl, ⟨rfl, ⟨rfl, trivial⟩⟩⟩ ?_
    exact hK1 _ rfl
theorem t_X0_passYear_lp20 {d n0 s0 nF sF : Nat} {X : MX} {r1 : Nat} {Ω : Nat → MS → Prop} {N : NN} {a2 : Int} {a3 : Int} {a4 : Int} {a5 : Int} (hsk : m_Sk X) (hd : 5 ≤ d) (h1 : m_isW X r1) (hG : m_G d yX0_passYear.cls yX0_passYear.name cX0_passYear 9 n0 s0 nF sF Ω) {t : (NN × Int × Int)} (hK1 : Ω 144 ([none, some (.inr (.inr r1)), none, some (.inl t.2.1), some (.inl t.2.2), none, none, none, none], [], t.1, X)) (hl : lp (fun s => b_X0_passYear_20 X r1 s.1 s.2.1 s.2.2.1 s.2.2.2.1 s.2.2.2.2) (N, a2, a3, a4, a5) = some t) : Ω 20 ([some (.inr (.inr 29)), some (.inr (.inr r1)), some (.inl a2), some (.inl a3), some (.inl a4), some (.inl a5), none, none, none], [], N, X) := by
  refine lp_ok (P := fun s => Ω 20 ([some (.inr (.inr 29)), some (.inr (.inr r1)), some (.inl s.2.1), some (.inl s.2.2.1), some (.inl s.2.2.2.1), some (.inl s.2.2.2.2), none, none, none], [], s.1, X)) (K := fun t => Ω 144 ([none, some (.inr (.inr r1)), none, some (.inl t.2.1), some (.inl t.2.2), none, none, none, none], [], t.1, X)) (fun s out hF hK0 hK1 => ?_) hl hK1
  exact t_X0_passYear_b20 hsk hd h1 hG (out := out) (fun s' e => hK0 s' e) (fun t' e => hK1 t' e) hF
theorem t_X0_passYear {d : Nat} {X : MX} {r1 : Nat} {N : NN} {a2 : Int} {out : (Int × NN)} (hsk : m_Sk X) (hd : 5 ≤ d) (h1 : m_isW X r1) (hF : f_X0_passYear X r1 N a2 = some out) : m_Call d yX0_passYear cX0_passYear 9 (some .int) [(.inr (.inr 29)), (.inr (.inr r1)), (.inl a2)] N X (some (.inl out.1)) out.2 X := by
  refine m_mk (ls0 := [some (.inr (.inr 29)), some (.inr (.inr r1)), some (.inl a2), none, none, none, none, none, none]) (by decide) rfl (Nat.le_of_ble_eq_true rfl) (Nat.le_refl _) (Nat.le_refl _) (fun Ω hE => ?_)
  have hG := hE.G
  unfold f_X0_passYear at hF
  refine s_aload_n hG dX0_passYear_0 rfl ?_
  refine s_iconst hG dX0_passYear_1 ⟨by decide, by decide⟩ ?_
  obtain ⟨o1, ho1, hF⟩ := bd_some hF
  refine s_callV (d' := d - 1) (ci := 10) (args := [.inl 0]) hG (by omega) dX0_passYear_2 cv_RX0_62 cw_X10_term rfl rfl h1.1 (Nat.le_of_ble_eq_true rfl) rfl (t_X10_term hsk (by omega) h1 ho1) ?_
  refine s_iconst hG dX0_passYear_5 ⟨by decide, by decide⟩ ?_
  refine s_iadd hG dX0_passYear_6 ?_
  refine s_istore_n hG dX0_passYear_7 (by decide) rfl ?_
  refine s_aload_n hG dX0_passYear_8 rfl ?_
  refine s_iconst hG dX0_passYear_9 ⟨by decide, by decide⟩ ?_
  refine s_iload_n hG dX0_passYear_10 rfl ?_
  obtain ⟨o2, ho2, hF⟩ := bd_some hF
  refine s_callV (d' := d - 1) (ci := 10) (args := [.inl 0, .inl (m_w (o1 + 1))]) hG (by omega) dX0_passYear_11 cv_RX0_78 cw_X10_setTerm rfl rfl h1.1 (Nat.le_of_ble_eq_true rfl) rfl (t_X10_setTerm hsk (by omega) h1 ho2) ?_
  refine s_iconst hG dX0_passYear_14 ⟨by decide, by decide⟩ ?_
  refine s_istore hG dX0_passYear_15 (by decide) rfl ?_
  refine s_iconst hG dX0_passYear_17 ⟨by decide, by decide⟩ ?_
  refine s_istore hG dX0_passYear_18 (by decide) rfl ?_
  obtain ⟨o15, hlo15, hF⟩ := bd_some hF
  refine t_X0_passYear_lp20 hsk hd h1 hG ?_ hlo15
  refine s_aload_n hG dX0_passYear_144 rfl ?_
  refine s_iload_n hG dX0_passYear_145 rfl ?_
  refine s_aload_n hG dX0_passYear_146 rfl ?_
  refine s_iconst hG dX0_passYear_147 ⟨by decide, by decide⟩ ?_
  obtain ⟨o16, ho16, hF⟩ := bd_some hF
  refine s_callV (d' := d - 1) (ci := 10) (args := [.inl 1]) hG (by omega) dX0_passYear_148 cv_RX0_62 cw_X10_term rfl rfl h1.1 (Nat.le_of_ble_eq_true rfl) rfl (t_X10_term hsk (by omega) h1 ho16) ?_
  refine s_isub hG dX0_passYear_151 ?_
  obtain ⟨o17, ho17, hF⟩ := bd_some hF
  refine s_callS (d' := d - 1) (args := [.inr (.inr r1), .inl (m_w (o15.2.1 - o16))]) hG (by omega) dX0_passYear_152 cs_RX0_101 cw_X0_loseOld rfl (Nat.le_of_ble_eq_true rfl) rfl (t_X0_loseOld hsk (by omega) h1 ho17) ?_
  refine s_iload hG dX0_passYear_155 rfl ?_
  cases hF
  exact s_iret hE dX0_passYear_157 rfl
-- X10_copyFrom
theorem t_X10_copyFrom_b18 {d n0 s0 nF sF : Nat} {X : MX} {r0 : Nat} {r1 : Nat} {Ω : Nat → MS → Prop} {N : NN} {a2 : Int} (hsk : m_Sk X) (hd : 1 ≤ d) (h0 : m_isW X r0) (h1 : m_isW X r1) (hG : m_G d yX10_copyFrom.cls yX10_copyFrom.name cX10_copyFrom 3 n0 s0 nF sF Ω) {out : ((NN × Int) ⊕ NN)} (hK0 : ∀ s' : (NN × Int), out = .inl s' → Ω 18 ([some (.inr (.inr r0)), some (.inr (.inr r1)), some (.inl (s'.2))], [], s'.1, X)) (hK1 : ∀ t : NN, out = .inr t → Ω 42 ([none, none, none], [], t, X)) (hF : b_X10_copyFrom_18 X r0 r1 N a2 = some out) : Ω 18 ([some (.inr (.inr r0)), some (.inr (.inr r1)), some (.inl a2)], [], N, X) := by
  unfold b_X10_copyFrom_18 at hF
  refine s_iload_n hG dX10_copyFrom_18 rfl ?_
  refine s_bipush hG dX10_copyFrom_19 bp_6 ⟨by decide, by decide⟩ ?_
  refine s_icmp_ge hG 42 dX10_copyFrom_21 (by decide) (fun c7 => ?_) (fun c7 => ?_)
  · replace hF := Eq.trans (if_pos c7).symm hF
    refine s_aload_n hG dX10_copyFrom_24 rfl ?_
    refine s_getr (r := (r0 + 2)) hG dX10_copyFrom_25 fl_RX10_17 h0.1 rfl h0.2.2.1 ?_
    refine s_iload_n hG dX10_copyFrom_28 rfl ?_
    refine s_aload_n hG dX10_copyFrom_29 rfl ?_
    refine s_getr (r := (r1 + 2)) hG dX10_copyFrom_30 fl_RX10_17 h1.1 rfl h1.2.2.1 ?_
    refine s_iload_n hG dX10_copyFrom_33 rfl ?_
    obtain ⟨g3, hF⟩ := gd_some hF
    refine s_aaldj (j := a2.toNat) hG dX10_copyFrom_34 h1.2.2.2.2 g3 rfl ?_
    obtain ⟨g4, hF⟩ := gd_some hF
    obtain ⟨g5, hF⟩ := gd_some hF
    refine s_aastj (j := a2.toNat) hG dX10_copyFrom_35 h0.2.2.2.2 g4 rfl g5 ?_
    refine s_iinc hG dX10_copyFrom_36 (by decide) rfl rfl ?_
    refine s_goto hG 18 dX10_copyFrom_39 (by decide) ?_
    cases hF
    exact hK0 _ rfl
  · replace hF := Eq.trans (if_neg c7).symm hF
    cases hF
    refine m_weak (ls1 := [none, none, none]) hG trivial ?_
    exact hK1 _ rfl
theorem t_X10_copyFrom_lp18 {d n0 s0 nF sF : Nat} {X : MX} {r0 : Nat} {r1 : Nat} {Ω : Nat → MS → Prop} {N : NN} {a2 : Int} (hsk : m_Sk X) (hd : 1 ≤ d) (h0 : m_isW X r0) (h1 : m_isW X r1) (hG : m_G d yX10_copyFrom.cls yX10_copyFrom.name cX10_copyFrom 3 n0 s0 nF sF Ω) {t : NN} (hK1 : Ω 42 ([none, none, none], [], t, X)) (hl : lp (fun s => b_X10_copyFrom_18 X r0 r1 s.1 s.2) (N, a2) = some t) : Ω 18 ([some (.inr (.inr r0)), some (.inr (.inr r1)), some (.inl a2)], [], N, X) := by
  refine lp_ok (P := fun s => Ω 18 ([some (.inr (.inr r0)), some (.inr (.inr r1)), some (.inl s.2)], [], s.1, X)) (K := fun t => Ω 42 ([none, none, none], [], t, X)) (fun s out hF hK0 hK1 => ?_) hl hK1
  exact t_X10_copyFrom_b18 hsk hd h0 h1 hG (out := out) (fun s' e => hK0 s' e) (fun t' e => hK1 t' e) hF
theorem t_X10_copyFrom {d : Nat} {X : MX} {r0 : Nat} {r1 : Nat} {N : NN} {out : NN} (hsk : m_Sk X) (hd : 1 ≤ d) (h0 : m_isW X r0) (h1 : m_isW X r1) (hF : f_X10_copyFrom X r0 r1 N = some out) : m_Call d yX10_copyFrom cX10_copyFrom 3 none [(.inr (.inr r0)), (.inr (.inr r1))] N X none out X := by
  refine m_mk (ls0 := [some (.inr (.inr r0)), some (.inr (.inr r1)), none]) (by decide) rfl (Nat.le_of_ble_eq_true rfl) (Nat.le_refl _) (Nat.le_refl _) (fun Ω hE => ?_)
  have hG := hE.G
  unfold f_X10_copyFrom at hF
  refine s_aload_n hG dX10_copyFrom_0 rfl ?_
  refine s_getr (r := (r1 + 1)) hG dX10_copyFrom_1 fl_RX10_11 h1.1 rfl h1.2.1 ?_
  refine s_iconst hG dX10_copyFrom_4 ⟨by decide, by decide⟩ ?_
  refine s_aload_n hG dX10_copyFrom_5 rfl ?_
  refine s_getr (r := (r0 + 1)) hG dX10_copyFrom_6 fl_RX10_11 h0.1 rfl h0.2.1 ?_
  refine s_iconst hG dX10_copyFrom_9 ⟨by decide, by decide⟩ ?_
  refine s_sipush hG dX10_copyFrom_10 sp_266 ⟨by decide, by decide⟩ ?_
  obtain ⟨g1, hF⟩ := gd_some hF
  refine s_copy hG (by omega) dX10_copyFrom_13 ml_RX10_31 lk_cpy_n lk_cpy_s lk_sys (Nat.le_of_ble_eq_true rfl) h1.2.2.2.1 h0.2.2.2.1 g1 ?_
  refine s_iconst hG dX10_copyFrom_16 ⟨by decide, by decide⟩ ?_
  refine s_istore_n hG dX10_copyFrom_17 (by decide) rfl ?_
  obtain ⟨o8, hlo8, hF⟩ := bd_some hF
  refine t_X10_copyFrom_lp18 hsk hd h0 h1 hG ?_ hlo8
  cases hF
  exact s_vret hE dX10_copyFrom_42 rfl
-- X0_playOut
theorem t_X0_playOut_l104_j129 {d n0 s0 nF sF : Nat} {X : MX} {r1 : Nat} {Ω : Nat → MS → Prop} {N : NN} {a3 : Int} {a4 : Int} {a5 : Int} {a6 : Int} {a7 : Int} {a9 : Int} {z0 : Int} {z1 : Int} (hsk : m_Sk X) (hd : 6 ≤ d) (h1 : m_isW X r1) (hG : m_G d yX0_playOut.cls yX0_playOut.name cX0_playOut 10 n0 s0 nF sF Ω) {out : ((NN × Int × Int × Int × Int × Int × Int × Int) ⊕ (NN × Int × Int × Int × Int × Int × Int))} (hK0 : ∀ s' : (NN × Int × Int × Int × Int × Int × Int × Int), out = .inl s' → Ω 104 ([some (.inr (.inr 29)), none, none, some (.inl (s'.2.1)), some (.inl (s'.2.2.1)), some (.inl (s'.2.2.2.1)), some (.inl (s'.2.2.2.2.1)), some (.inl (s'.2.2.2.2.2.1)), some (.inl (s'.2.2.2.2.2.2.1)), some (.inl (s'.2.2.2.2.2.2.2))], [], s'.1, X)) (hK1 : ∀ t : (NN × Int × Int × Int × Int × Int × Int), out = .inr t → Ω 138 ([some (.inr (.inr 29)), none, none, some (.inl t.2.1), some (.inl t.2.2.1), some (.inl t.2.2.2.1), some (.inl t.2.2.2.2.1), some (.inl t.2.2.2.2.2.1), some (.inl t.2.2.2.2.2.2), none], [], t.1, X)) (hF : f_X0_playOut_l104_j129 X r1 N a3 a4 a5 a6 a7 a9 z0 z1 = some out) : Ω 129 ([some (.inr (.inr 29)), none, none, some (.inl a3), some (.inl a4), some (.inl a5), some (.inl a6), some (.inl a7), none, some (.inl a9)], [(.inl z1), (.inl z0)], N, X) := by
  unfold f_X0_playOut_l104_j129 at hF
  refine s_ior hG dX0_playOut_129 ?_
  refine s_istore hG dX0_playOut_130 (by decide) rfl ?_
  refine s_iinc hG dX0_playOut_132 (by decide) rfl rfl ?_
  refine s_goto hG 104 dX0_playOut_135 (by decide) ?_
  cases hF
  exact hK0 _ rfl
theorem t_X0_playOut_b104 {d n0 s0 nF sF : Nat} {X : MX} {r1 : Nat} {Ω : Nat → MS → Prop} {N : NN} {a3 : Int} {a4 : Int} {a5 : Int} {a6 : Int} {a7 : Int} {a8 : Int} {a9 : Int} (hsk : m_Sk X) (hd : 6 ≤ d) (h1 : m_isW X r1) (hG : m_G d yX0_playOut.cls yX0_playOut.name cX0_playOut 10 n0 s0 nF sF Ω) {out : ((NN × Int × Int × Int × Int × Int × Int × Int) ⊕ (NN × Int × Int × Int × Int × Int × Int))} (hK0 : ∀ s' : (NN × Int × Int × Int × Int × Int × Int × Int), out = .inl s' → Ω 104 ([some (.inr (.inr 29)), none, none, some (.inl (s'.2.1)), some (.inl (s'.2.2.1)), some (.inl (s'.2.2.2.1)), some (.inl (s'.2.2.2.2.1)), some (.inl (s'.2.2.2.2.2.1)), some (.inl (s'.2.2.2.2.2.2.1)), some (.inl (s'.2.2.2.2.2.2.2))], [], s'.1, X)) (hK1 : ∀ t : (NN × Int × Int × Int × Int × Int × Int), out = .inr t → Ω 138 ([some (.inr (.inr 29)), none, none, some (.inl t.2.1), some (.inl t.2.2.1), some (.inl t.2.2.2.1), some (.inl t.2.2.2.2.1), some (.inl t.2.2.2.2.2.1), some (.inl t.2.2.2.2.2.2), none], [], t.1, X)) (hF : b_X0_playOut_104 X r1 N a3 a4 a5 a6 a7 a8 a9 = some out) : Ω 104 ([some (.inr (.inr 29)), none, none, some (.inl a3), some (.inl a4), some (.inl a5), some (.inl a6), some (.inl a7), some (.inl a8), some (.inl a9)], [], N, X) := by
  unfold b_X0_playOut_104 at hF
  refine s_iload hG dX0_playOut_104 rfl ?_
  refine s_iload hG dX0_playOut_106 rfl ?_
  refine s_icmp_ge hG 138 dX0_playOut_108 (by decide) (fun c14 => ?_) (fun c14 => ?_)
  · replace hF := Eq.trans (if_pos c14).symm hF
    refine s_iload hG dX0_playOut_111 rfl ?_
    refine s_aload_n hG dX0_playOut_113 rfl ?_
    refine s_iconst hG dX0_playOut_114 ⟨by decide, by decide⟩ ?_
    obtain ⟨o12, ho12, hF⟩ := bd_some hF
    refine s_callV (d' := d - 1) (ci := 0) (args := [.inl 3]) hG (by omega) dX0_playOut_115 cv_RX0_108 cw_X0_draw rfl rfl (sk_k hsk 29 rfl) (Nat.le_of_ble_eq_true rfl) rfl (t_X0_draw hsk (by omega) ho12) ?_
    refine s_if_ne hG 128 dX0_playOut_118 (by decide) (fun c13 => ?_) (fun c13 => ?_)
    · replace hF := Eq.trans (if_pos c13).symm hF
      refine s_iconst hG dX0_playOut_121 ⟨by decide, by decide⟩ ?_
      refine s_iload hG dX0_playOut_122 rfl ?_
      refine s_ishl hG dX0_playOut_124 ?_
      refine s_goto hG 129 dX0_playOut_125 (by decide) ?_
      refine m_weak (ls1 := [some (.inr (.inr 29)), none, none, some (.inl a3), some (.inl a4), some (.inl a5), some (.inl a6), some (.inl a7), none, some (.inl a9)]) hG ⟨rfl, ⟨rfl, ⟨rfl, ⟨rfl, ⟨rfl, ⟨rfl, ⟨rfl, trivial⟩⟩⟩⟩⟩⟩⟩ ?_
      exact t_X0_playOut_l104_j129 hsk hd h1 hG hK0 hK1 hF
    · replace hF := Eq.trans (if_neg c13).symm hF
      refine s_iconst hG dX0_playOut_128 ⟨by decide, by decide⟩ ?_
      refine m_weak (ls1 := [some (.inr (.inr 29)), none, none, some (.inl a3), some (.inl a4), some (.inl a5), some (.inl a6), some (.inl a7), none, some (.inl a9)]) hG ⟨rfl, ⟨rfl, ⟨rfl, ⟨rfl, ⟨rfl, ⟨rfl, ⟨rfl, trivial⟩⟩⟩⟩⟩⟩⟩ ?_
      exact t_X0_playOut_l104_j129 hsk hd h1 hG hK0 hK1 hF
  · replace hF := Eq.trans (if_neg c14).symm hF
    cases hF
    refine m_weak (ls1 := [some (.inr (.inr 29)), none, none, some (.inl a3), some (.inl a4), some (.inl a5), some (.inl a6), some (.inl a7), some (.inl a8), none]) hG ⟨rfl, ⟨rfl, ⟨rfl, ⟨rfl, ⟨rfl, ⟨rfl, ⟨rfl, trivial⟩⟩⟩⟩⟩⟩⟩ ?_
    exact hK1 _ rfl
theorem t_X0_playOut_lp104 {d n0 s0 nF sF : Nat} {X : MX} {r1 : Nat} {Ω : Nat → MS → Prop} {N : NN} {a3 : Int} {a4 : Int} {a5 : Int} {a6 : Int} {a7 : Int} {a8 : Int} {a9 : Int} (hsk : m_Sk X) (hd : 6 ≤ d) (h1 : m_isW X r1) (hG : m_G d yX0_playOut.cls yX0_playOut.name cX0_playOut 10 n0 s0 nF sF Ω) {t : (NN × Int × Int × Int × Int × Int × Int)} (hK1 : Ω 138 ([some (.inr (.inr 29)), none, none, some (.inl t.2.1), some (.inl t.2.2.1), some (.inl t.2.2.2.1), some (.inl t.2.2.2.2.1), some (.inl t.2.2.2.2.2.1), some (.inl t.2.2.2.2.2.2), none], [], t.1, X)) (hl : lp (fun s => b_X0_playOut_104 X r1 s.1 s.2.1 s.2.2.1 s.2.2.2.1 s.2.2.2.2.1 s.2.2.2.2.2.1 s.2.2.2.2.2.2.1 s.2.2.2.2.2.2.2) (N, a3, a4, a5, a6, a7, a8, a9) = some t) : Ω 104 ([some (.inr (.inr 29)), none, none, some (.inl a3), some (.inl a4), some (.inl a5), some (.inl a6), some (.inl a7), some (.inl a8), some (.inl a9)], [], N, X) := by
  refine lp_ok (P := fun s => Ω 104 ([some (.inr (.inr 29)), none, none, some (.inl s.2.1), some (.inl s.2.2.1), some (.inl s.2.2.2.1), some (.inl s.2.2.2.2.1), some (.inl s.2.2.2.2.2.1), some (.inl s.2.2.2.2.2.2.1), some (.inl s.2.2.2.2.2.2.2)], [], s.1, X)) (K := fun t => Ω 138 ([some (.inr (.inr 29)), none, none, some (.inl t.2.1), some (.inl t.2.2.1), some (.inl t.2.2.2.1), some (.inl t.2.2.2.2.1), some (.inl t.2.2.2.2.2.1), some (.inl t.2.2.2.2.2.2), none], [], t.1, X)) (fun s out hF hK0 hK1 => ?_) hl hK1
  exact t_X0_playOut_b104 hsk hd h1 hG (out := out) (fun s' e => hK0 s' e) (fun t' e => hK1 t' e) hF
theorem t_X0_playOut_l40_j98 {d n0 s0 nF sF : Nat} {X : MX} {r1 : Nat} {Ω : Nat → MS → Prop} {N : NN} {a3 : Int} {a4 : Int} {a5 : Int} {a6 : Int} {a7 : Int} (hsk : m_Sk X) (hd : 6 ≤ d) (h1 : m_isW X r1) (hG : m_G d yX0_playOut.cls yX0_playOut.name cX0_playOut 10 n0 s0 nF sF Ω) {out : ((NN × Int × Int × Int × Int × Int) ⊕ ((NN × Int) ⊕ (NN × Int)))} (hK0 : ∀ s' : (NN × Int × Int × Int × Int × Int), out = .inl s' → Ω 40 ([some (.inr (.inr 29)), none, none, some (.inl (s'.2.1)), some (.inl (s'.2.2.1)), some (.inl (s'.2.2.2.1)), some (.inl (s'.2.2.2.2.1)), some (.inl (s'.2.2.2.2.2)), none, none], [], s'.1, X)) (hK1 : ∀ t : ((NN × Int) ⊕ (NN × Int)), out = .inr t → match t with | .inl e => Ω 172 ([none, none, none, none, none, none, some (.inl e.2), none, none, none], [], e.1, X) | .inr e => Ω 152 ([none, none, none, none, none, none, some (.inl e.2), none, none, none], [], e.1, X)) (hF : f_X0_playOut_l40_j98 X r1 N a3 a4 a5 a6 a7 = some out) : Ω 98 ([some (.inr (.inr 29)), none, none, some (.inl a3), some (.inl a4), some (.inl a5), some (.inl a6), some (.inl a7), none, none], [], N, X) := by
  unfold f_X0_playOut_l40_j98 at hF
  refine s_iconst hG dX0_playOut_98 ⟨by decide, by decide⟩ ?_
  refine s_istore hG dX0_playOut_99 (by decide) rfl ?_
  refine s_iconst hG dX0_playOut_101 ⟨by decide, by decide⟩ ?_
  refine s_istore hG dX0_playOut_102 (by decide) rfl ?_
  obtain ⟨o15, hlo15, hF⟩ := bd_some hF
  refine t_X0_playOut_lp104 hsk hd h1 hG ?_ hlo15
  refine s_aload_n hG dX0_playOut_138 rfl ?_
  refine s_getr (r := 30) hG dX0_playOut_139 fl_RX0_12 (sk_k hsk 29 rfl) rfl (sk_R hsk 29 1 rfl) ?_
  refine s_iconst hG dX0_playOut_142 ⟨by decide, by decide⟩ ?_
  obtain ⟨o16, ho16, hF⟩ := bd_some hF
  refine s_callV (d' := d - 1) (ci := 10) (args := [.inl 0]) hG (by omega) dX0_playOut_143 cv_RX0_62 cw_X10_term rfl rfl (sk_k hsk 30 rfl) (Nat.le_of_ble_eq_true rfl) rfl (t_X10_term hsk (by omega) (sk_W30 hsk) ho16) ?_
  refine s_sipush hG dX0_playOut_146 sp_999 ⟨by decide, by decide⟩ ?_
  refine s_icmp_lt hG 155 dX0_playOut_149 (by decide) (fun c18 => ?_) (fun c18 => ?_)
  · replace hF := Eq.trans (if_pos c18).symm hF
    refine s_aload_n hG dX0_playOut_155 rfl ?_
    refine s_aload_n hG dX0_playOut_156 rfl ?_
    refine s_getr (r := 30) hG dX0_playOut_157 fl_RX0_12 (sk_k hsk 29 rfl) rfl (sk_R hsk 29 1 rfl) ?_
    refine s_iload hG dX0_playOut_160 rfl ?_
    obtain ⟨o17, ho17, hF⟩ := bd_some hF
    refine s_callV (d' := d - 1) (ci := 0) (args := [.inr (.inr 30), .inl o15.2.2.2.2.2.2]) hG (by omega) dX0_playOut_162 cv_RX0_118 cw_X0_passYear rfl rfl (sk_k hsk 29 rfl) (Nat.le_of_ble_eq_true rfl) rfl (t_X0_passYear hsk (by omega) (sk_W30 hsk) ho17) ?_
    refine s_pop hG dX0_playOut_165 rfl ?_
    refine s_iinc hG dX0_playOut_166 (by decide) rfl rfl ?_
    refine s_goto hG 40 dX0_playOut_169 (by decide) ?_
    cases hF
    refine m_weak (ls1 := [some (.inr (.inr 29)), none, none, some (.inl o15.2.1), some (.inl o15.2.2.1), some (.inl o15.2.2.2.1), some (.inl o15.2.2.2.2.1), some (.inl (m_w (o15.2.2.2.2.2.1 + 1))), none, none]) hG ⟨rfl, ⟨rfl, ⟨rfl, ⟨rfl, ⟨rfl, ⟨rfl, trivial⟩⟩⟩⟩⟩⟩ ?_
    exact hK0 _ rfl
  · replace hF := Eq.trans (if_neg c18).symm hF
    cases hF
    refine m_weak (ls1 := [none, none, none, none, none, none, some (.inl o15.2.2.2.2.1), none, none, none]) hG ⟨rfl, trivial⟩ ?_
    exact hK1 _ rfl
theorem t_X0_playOut_b40 {d n0 s0 nF sF : Nat} {X : MX} {r1 : Nat} {Ω : Nat → MS → Prop} {N : NN} {a3 : Int} {a4 : Int} {a5 : Int} {a6 : Int} {a7 : Int} (hsk : m_Sk X) (hd : 6 ≤ d) (h1 : m_isW X r1) (hG : m_G d yX0_playOut.cls yX0_playOut.name cX0_playOut 10 n0 s0 nF sF Ω) {out : ((NN × Int × Int × Int × Int × Int) ⊕ ((NN × Int) ⊕ (NN × Int)))} (hK0 : ∀ s' : (NN × Int × Int × Int × Int × Int), out = .inl s' → Ω 40 ([some (.inr (.inr 29)), none, none, some (.inl (s'.2.1)), some (.inl (s'.2.2.1)), some (.inl (s'.2.2.2.1)), some (.inl (s'.2.2.2.2.1)), some (.inl (s'.2.2.2.2.2)), none, none], [], s'.1, X)) (hK1 : ∀ t : ((NN × Int) ⊕ (NN × Int)), out = .inr t → match t with | .inl e => Ω 172 ([none, none, none, none, none, none, some (.inl e.2), none, none, none], [], e.1, X) | .inr e => Ω 152 ([none, none, none, none, none, none, some (.inl e.2), none, none, none], [], e.1, X)) (hF : b_X0_playOut_40 X r1 N a3 a4 a5 a6 a7 = some out) : Ω 40 ([some (.inr (.inr 29)), none, none, some (.inl a3), some (.inl a4), some (.inl a5), some (.inl a6), some (.inl a7), none, none], [], N, X) := by
  unfold b_X0_playOut_40 at hF
  refine s_iload hG dX0_playOut_40 rfl ?_
  refine s_iload_n hG dX0_playOut_42 rfl ?_
  refine s_icmp_ge hG 172 dX0_playOut_43 (by decide) (fun c11 => ?_) (fun c11 => ?_)
  · replace hF := Eq.trans (if_pos c11).symm hF
    refine s_iload hG dX0_playOut_46 rfl ?_
    refine s_if_le hG 98 dX0_playOut_48 (by decide) (fun c10 => ?_) (fun c10 => ?_)
    · replace hF := Eq.trans (if_pos c10).symm hF
      refine s_aload_n hG dX0_playOut_51 rfl ?_
      refine s_iload hG dX0_playOut_52 rfl ?_
      obtain ⟨o5, ho5, hF⟩ := bd_some hF
      refine s_callV (d' := d - 1) (ci := 0) (args := [.inl a5]) hG (by omega) dX0_playOut_54 cv_RX0_108 cw_X0_draw rfl rfl (sk_k hsk 29 rfl) (Nat.le_of_ble_eq_true rfl) rfl (t_X0_draw hsk (by omega) ho5) ?_
      refine s_istore hG dX0_playOut_57 (by decide) rfl ?_
      refine s_aload_n hG dX0_playOut_59 rfl ?_
      refine s_iload hG dX0_playOut_60 rfl ?_
      obtain ⟨o6, ho6, hF⟩ := bd_some hF
      refine s_callV (d' := d - 1) (ci := 0) (args := [.inl a4]) hG (by omega) dX0_playOut_62 cv_RX0_108 cw_X0_draw rfl rfl (sk_k hsk 29 rfl) (Nat.le_of_ble_eq_true rfl) rfl (t_X0_draw hsk (by omega) ho6) ?_
      refine s_istore hG dX0_playOut_65 (by decide) rfl ?_
      refine s_aload_n hG dX0_playOut_67 rfl ?_
      refine s_aload_n hG dX0_playOut_68 rfl ?_
      refine s_getr (r := 30) hG dX0_playOut_69 fl_RX0_12 (sk_k hsk 29 rfl) rfl (sk_R hsk 29 1 rfl) ?_
      refine s_iload hG dX0_playOut_72 rfl ?_
      refine s_iload hG dX0_playOut_74 rfl ?_
      obtain ⟨o7, ho7, hF⟩ := bd_some hF
      refine s_callV (d' := d - 1) (ci := 0) (args := [.inr (.inr 30), .inl o5.1, .inl o6.1]) hG (by omega) dX0_playOut_76 cv_RX0_111 cw_X0_mayGive rfl rfl (sk_k hsk 29 rfl) (Nat.le_of_ble_eq_true rfl) rfl (t_X0_mayGive hsk (by omega) (sk_W30 hsk) ho7) ?_
      refine s_if_eq hG 98 dX0_playOut_79 (by decide) (fun c9 => ?_) (fun c9 => ?_)
      · replace hF := Eq.trans (if_pos c9).symm hF
        refine m_weak (ls1 := [some (.inr (.inr 29)), none, none, some (.inl a3), some (.inl a4), some (.inl a5), some (.inl a6), some (.inl a7), none, none]) hG ⟨rfl, ⟨rfl, ⟨rfl, ⟨rfl, ⟨rfl, ⟨rfl, trivial⟩⟩⟩⟩⟩⟩ ?_
        exact t_X0_playOut_l40_j98 hsk hd h1 hG hK0 hK1 hF
      · replace hF := Eq.trans (if_neg c9).symm hF
        refine s_aload_n hG dX0_playOut_82 rfl ?_
        refine s_aload_n hG dX0_playOut_83 rfl ?_
        refine s_getr (r := 30) hG dX0_playOut_84 fl_RX0_12 (sk_k hsk 29 rfl) rfl (sk_R hsk 29 1 rfl) ?_
        refine s_iload hG dX0_playOut_87 rfl ?_
        refine s_iload hG dX0_playOut_89 rfl ?_
        obtain ⟨o8, ho8, hF⟩ := bd_some hF
        refine s_callV (d' := d - 1) (ci := 0) (args := [.inr (.inr 30), .inl o5.1, .inl o6.1]) hG (by omega) dX0_playOut_91 cv_RX0_115 cw_X0_hand rfl rfl (sk_k hsk 29 rfl) (Nat.le_of_ble_eq_true rfl) rfl (t_X0_hand hsk (by omega) (sk_W30 hsk) ho8) ?_
        refine s_pop hG dX0_playOut_94 rfl ?_
        refine s_iinc hG dX0_playOut_95 (by decide) rfl rfl ?_
        refine m_weak (ls1 := [some (.inr (.inr 29)), none, none, some (.inl a3), some (.inl a4), some (.inl a5), some (.inl (m_w (a6 + 1))), some (.inl a7), none, none]) hG ⟨rfl, ⟨rfl, ⟨rfl, ⟨rfl, ⟨rfl, ⟨rfl, trivial⟩⟩⟩⟩⟩⟩ ?_
        exact t_X0_playOut_l40_j98 hsk hd h1 hG hK0 hK1 hF
    · replace hF := Eq.trans (if_neg c10).symm hF
      exact t_X0_playOut_l40_j98 hsk hd h1 hG hK0 hK1 hF
  · replace hF := Eq.trans (if_neg c11).symm hF
    cases hF
    refine m_weak (ls1 := [none, none, none, none, none, none, some (.inl a6), none, none, none]) hG ⟨rfl, trivial⟩ ?_
    exact hK1 _ rfl
theorem t_X0_playOut_lp40 {d n0 s0 nF sF : Nat} {X : MX} {r1 : Nat} {Ω : Nat → MS → Prop} {N : NN} {a3 : Int} {a4 : Int} {a5 : Int} {a6 : Int} {a7 : Int} (hsk : m_Sk X) (hd : 6 ≤ d) (h1 : m_isW X r1) (hG : m_G d yX0_playOut.cls yX0_playOut.name cX0_playOut 10 n0 s0 nF sF Ω) {t : ((NN × Int) ⊕ (NN × Int))} (hK1 : match t with | .inl e => Ω 172 ([none, none, none, none, none, none, some (.inl e.2), none, none, none], [], e.1, X) | .inr e => Ω 152 ([none, none, none, none, none, none, some (.inl e.2), none, none, none], [], e.1, X)) (hl : lp (fun s => b_X0_playOut_40 X r1 s.1 s.2.1 s.2.2.1 s.2.2.2.1 s.2.2.2.2.1 s.2.2.2.2.2) (N, a3, a4, a5, a6, a7) = some t) : Ω 40 ([some (.inr (.inr 29)), none, none, some (.inl a3), some (.inl a4), some (.inl a5), some (.inl a6), some (.inl a7), none, none], [], N, X) := by
  refine lp_ok (P := fun s => Ω 40 ([some (.inr (.inr 29)), none, none, some (.inl s.2.1), some (.inl s.2.2.1), some (.inl s.2.2.2.1), some (.inl s.2.2.2.2.1), some (.inl s.2.2.2.2.2), none, none], [], s.1, X)) (K := fun t => match t with | .inl e => Ω 172 ([none, none, none, none, none, none, some (.inl e.2), none, none, none], [], e.1, X) | .inr e => Ω 152 ([none, none, none, none, none, none, some (.inl e.2), none, none, none], [], e.1, X)) (fun s out hF hK0 hK1 => ?_) hl hK1
  exact t_X0_playOut_b40 hsk hd h1 hG (out := out) (fun s' e => hK0 s' e) (fun t' e => hK1 t' e) hF
theorem t_X0_playOut_j172 {d n0 s0 nF sF : Nat} {X : MX} {r1 : Nat} {Ω : Nat → MS → Prop} {N : NN} {a6 : Int} (hsk : m_Sk X) (hd : 6 ≤ d) (h1 : m_isW X r1) (hG : m_G d yX0_playOut.cls yX0_playOut.name cX0_playOut 10 n0 s0 nF sF Ω) {out : (Int × NN)} (hE : m_Gd d yX0_playOut cX0_playOut 10 (some .int) X (some (.inl out.1)) out.2 X Ω) (hF : f_X0_playOut_j172 X r1 N a6 = some out) : Ω 172 ([none, none, none, none, none, none, some (.inl a6), none, none, none], [], N, X) := by
  unfold f_X0_playOut_j172 at hF
  refine s_iload hG dX0_playOut_172 rfl ?_
  cases hF
  exact s_iret hE dX0_playOut_174 rfl
theorem t_X0_playOut {d : Nat} {X : MX} {r1 : Nat} {N : NN} {a2 : Int} {a3 : Int} {out : (Int × NN)} (hsk : m_Sk X) (hd : 6 ≤ d) (h1 : m_isW X r1) (hF : f_X0_playOut X r1 N a2 a3 = some out) : m_Call d yX0_playOut cX0_playOut 10 (some .int) [(.inr (.inr 29)), (.inr (.inr r1)), (.inl a2), (.inl a3)] N X (some (.inl out.1)) out.2 X := by
  refine m_mk (ls0 := [some (.inr (.inr 29)), some (.inr (.inr r1)), some (.inl a2), some (.inl a3), none, none, none, none, none, none]) (by decide) rfl (Nat.le_of_ble_eq_true rfl) (Nat.le_refl _) (Nat.le_refl _) (fun Ω hE => ?_)
  have hG := hE.G
  unfold f_X0_playOut at hF
  refine s_aload_n hG dX0_playOut_0 rfl ?_
  refine s_getr (r := 30) hG dX0_playOut_1 fl_RX0_12 (sk_k hsk 29 rfl) rfl (sk_R hsk 29 1 rfl) ?_
  refine s_aload_n hG dX0_playOut_4 rfl ?_
  obtain ⟨o1, ho1, hF⟩ := bd_some hF
  refine s_callV (d' := d - 1) (ci := 10) (args := [.inr (.inr r1)]) hG (by omega) dX0_playOut_5 cv_RX0_104 cw_X10_copyFrom rfl rfl (sk_k hsk 30 rfl) (Nat.le_of_ble_eq_true rfl) rfl (t_X10_copyFrom hsk (by omega) (sk_W30 hsk) h1 ho1) ?_
  refine s_aload_n hG dX0_playOut_8 rfl ?_
  refine s_iload_n hG dX0_playOut_9 rfl ?_
  refine s_i2l hG dX0_playOut_10 ?_
  refine s_putl hG dX0_playOut_11 fl_RX0_18 (fun h => by cases h) (sk_k hsk 29 rfl) rfl ?_
  refine s_aload_n hG dX0_playOut_14 rfl ?_
  refine s_getr (r := 30) hG dX0_playOut_15 fl_RX0_12 (sk_k hsk 29 rfl) rfl (sk_R hsk 29 1 rfl) ?_
  refine s_iconst hG dX0_playOut_18 ⟨by decide, by decide⟩ ?_
  obtain ⟨o3, ho3, hF⟩ := bd_some hF
  refine s_callV (d' := d - 1) (ci := 10) (args := [.inl 0]) hG (by omega) dX0_playOut_19 cv_RX0_81 cw_X10_many rfl rfl (sk_k hsk 30 rfl) (Nat.le_of_ble_eq_true rfl) rfl (t_X10_many hsk (by omega) (sk_W30 hsk) ho3) ?_
  refine s_istore hG dX0_playOut_22 (by decide) rfl ?_
  refine s_aload_n hG dX0_playOut_24 rfl ?_
  refine s_getr (r := 30) hG dX0_playOut_25 fl_RX0_12 (sk_k hsk 29 rfl) rfl (sk_R hsk 29 1 rfl) ?_
  refine s_iconst hG dX0_playOut_28 ⟨by decide, by decide⟩ ?_
  obtain ⟨o4, ho4, hF⟩ := bd_some hF
  refine s_callV (d' := d - 1) (ci := 10) (args := [.inl 1]) hG (by omega) dX0_playOut_29 cv_RX0_81 cw_X10_many rfl rfl (sk_k hsk 30 rfl) (Nat.le_of_ble_eq_true rfl) rfl (t_X10_many hsk (by omega) (sk_W30 hsk) ho4) ?_
  refine s_istore hG dX0_playOut_32 (by decide) rfl ?_
  refine s_iconst hG dX0_playOut_34 ⟨by decide, by decide⟩ ?_
  refine s_istore hG dX0_playOut_35 (by decide) rfl ?_
  refine s_iconst hG dX0_playOut_37 ⟨by decide, by decide⟩ ?_
  refine s_istore hG dX0_playOut_38 (by decide) rfl ?_
  obtain ⟨o19, hlo19, hF⟩ := bd_some hF
  refine m_weak (ls1 := [some (.inr (.inr 29)), none, none, some (.inl a3), some (.inl o3), some (.inl o4), some (.inl 0), some (.inl 0), none, none]) hG ⟨rfl, ⟨rfl, ⟨rfl, ⟨rfl, ⟨rfl, ⟨rfl, trivial⟩⟩⟩⟩⟩⟩ ?_
  refine t_X0_playOut_lp40 hsk hd h1 hG ?_ hlo19
  match o19, hF with
  | .inl e19, hF =>
        try dsimp only at hF
        exact t_X0_playOut_j172 hsk hd h1 hG hE hF
  | .inr e19, hF =>
        try dsimp only at hF
        refine s_goto hG 172 dX0_playOut_152 (by decide) ?_
        exact t_X0_playOut_j172 hsk hd h1 hG hE hF
-- X10_addGood
theorem t_X10_addGood {d : Nat} {X : MX} {r0 : Nat} {N : NN} {a1 : Int} {a2 : Int} {a3 : Int} {out : (Int × NN)} (hsk : m_Sk X) (hd : 1 ≤ d) (h0 : m_isW X r0) (hF : f_X10_addGood X r0 N a1 a2 a3 = some out) : m_Call d yX10_addGood cX10_addGood 6 (some .int) [(.inr (.inr r0)), (.inl a1), (.inl a2), (.inl a3)] N X (some (.inl out.1)) out.2 X := by
  refine m_mk (ls0 := [some (.inr (.inr r0)), some (.inl a1), some (.inl a2), some (.inl a3), none, none]) (by decide) rfl (Nat.le_of_ble_eq_true rfl) (Nat.le_refl _) (Nat.le_refl _) (fun Ω hE => ?_)
  have hG := hE.G
  unfold f_X10_addGood at hF
  refine s_aload_n hG dX10_addGood_0 rfl ?_
  refine s_getr (r := (r0 + 1)) hG dX10_addGood_1 fl_RX10_11 h0.1 rfl h0.2.1 ?_
  refine s_sipush hG dX10_addGood_4 sp_192 ⟨by decide, by decide⟩ ?_
  refine s_dup2 hG dX10_addGood_7 rfl rfl ?_
  refine s_ialdj (j := 192) hG dX10_addGood_8 h0.2.2.2.1 ⟨by decide, by decide⟩ rfl ?_
  refine s_dup_x2 hG dX10_addGood_9 rfl rfl rfl ?_
  refine s_iconst hG dX10_addGood_10 ⟨by decide, by decide⟩ ?_
  refine s_iadd hG dX10_addGood_11 ?_
  refine s_iastj (j := 192) hG dX10_addGood_12 h0.2.2.2.1 ⟨by decide, by decide⟩ rfl ?_
  refine s_istore hG dX10_addGood_13 (by decide) rfl ?_
  refine s_bipush hG dX10_addGood_15 bp_39 ⟨by decide, by decide⟩ ?_
  refine s_iload hG dX10_addGood_17 rfl ?_
  refine s_iconst hG dX10_addGood_19 ⟨by decide, by decide⟩ ?_
  refine s_imul hG dX10_addGood_20 ?_
  refine s_iadd hG dX10_addGood_21 ?_
  refine s_istore hG dX10_addGood_22 (by decide) rfl ?_
  refine s_aload_n hG dX10_addGood_24 rfl ?_
  refine s_getr (r := (r0 + 1)) hG dX10_addGood_25 fl_RX10_11 h0.1 rfl h0.2.1 ?_
  refine s_iload hG dX10_addGood_28 rfl ?_
  refine s_iconst hG dX10_addGood_30 ⟨by decide, by decide⟩ ?_
  refine s_iadd hG dX10_addGood_31 ?_
  refine s_iload_n hG dX10_addGood_32 rfl ?_
  obtain ⟨g2, hF⟩ := gd_some hF
  refine s_iastj (j := (m_w ((m_w (39 + (m_w ((N (r0 + 1) 192) * 5)))) + 0)).toNat) hG dX10_addGood_33 h0.2.2.2.1 g2 rfl ?_
  refine s_aload_n hG dX10_addGood_34 rfl ?_
  refine s_getr (r := (r0 + 1)) hG dX10_addGood_35 fl_RX10_11 h0.1 rfl h0.2.1 ?_
  refine s_iload hG dX10_addGood_38 rfl ?_
  refine s_iconst hG dX10_addGood_40 ⟨by decide, by decide⟩ ?_
  refine s_iadd hG dX10_addGood_41 ?_
  refine s_iload_n hG dX10_addGood_42 rfl ?_
  obtain ⟨g4, hF⟩ := gd_some hF
  refine s_iastj (j := (m_w ((m_w (39 + (m_w ((N (r0 + 1) 192) * 5)))) + 1)).toNat) hG dX10_addGood_43 h0.2.2.2.1 g4 rfl ?_
  refine s_aload_n hG dX10_addGood_44 rfl ?_
  refine s_getr (r := (r0 + 1)) hG dX10_addGood_45 fl_RX10_11 h0.1 rfl h0.2.1 ?_
  refine s_iload hG dX10_addGood_48 rfl ?_
  refine s_iconst hG dX10_addGood_50 ⟨by decide, by decide⟩ ?_
  refine s_iadd hG dX10_addGood_51 ?_
  refine s_iload_n hG dX10_addGood_52 rfl ?_
  obtain ⟨g6, hF⟩ := gd_some hF
  refine s_iastj (j := (m_w ((m_w (39 + (m_w ((N (r0 + 1) 192) * 5)))) + 2)).toNat) hG dX10_addGood_53 h0.2.2.2.1 g6 rfl ?_
  refine s_aload_n hG dX10_addGood_54 rfl ?_
  refine s_getr (r := (r0 + 1)) hG dX10_addGood_55 fl_RX10_11 h0.1 rfl h0.2.1 ?_
  refine s_iload hG dX10_addGood_58 rfl ?_
  refine s_iconst hG dX10_addGood_60 ⟨by decide, by decide⟩ ?_
  refine s_iadd hG dX10_addGood_61 ?_
  refine s_iload_n hG dX10_addGood_62 rfl ?_
  obtain ⟨g8, hF⟩ := gd_some hF
  refine s_iastj (j := (m_w ((m_w (39 + (m_w ((N (r0 + 1) 192) * 5)))) + 3)).toNat) hG dX10_addGood_63 h0.2.2.2.1 g8 rfl ?_
  refine s_aload_n hG dX10_addGood_64 rfl ?_
  refine s_getr (r := (r0 + 1)) hG dX10_addGood_65 fl_RX10_11 h0.1 rfl h0.2.1 ?_
  refine s_iload hG dX10_addGood_68 rfl ?_
  refine s_iconst hG dX10_addGood_70 ⟨by decide, by decide⟩ ?_
  refine s_iadd hG dX10_addGood_71 ?_
  refine s_iconst hG dX10_addGood_72 ⟨by decide, by decide⟩ ?_
  obtain ⟨g10, hF⟩ := gd_some hF
  refine s_iastj (j := (m_w ((m_w (39 + (m_w ((N (r0 + 1) 192) * 5)))) + 4)).toNat) hG dX10_addGood_73 h0.2.2.2.1 g10 rfl ?_
  refine s_iload hG dX10_addGood_74 rfl ?_
  cases hF
  exact s_iret hE dX10_addGood_76 rfl
