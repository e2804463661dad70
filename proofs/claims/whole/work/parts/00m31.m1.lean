-- X10_addHerald
theorem t_X10_addHerald {d : Nat} {X : MX} {r0 : Nat} {N : NN} {a1 : Int} {out : (Int × NN)} (hsk : m_Sk X) (hd : 1 ≤ d) (h0 : m_isW X r0) (hF : f_X10_addHerald X r0 N a1 = some out) : m_Call d yX10_addHerald cX10_addHerald 3 (some .int) [(.inr (.inr r0)), (.inl a1)] N X (some (.inl out.1)) out.2 X := by
  refine m_mk (ls0 := [some (.inr (.inr r0)), some (.inl a1), none]) (by decide) rfl (Nat.le_of_ble_eq_true rfl) (Nat.le_refl _) (Nat.le_refl _) (fun Ω hE => ?_)
  have hG := hE.G
  unfold f_X10_addHerald at hF
  refine s_aload_n hG dX10_addHerald_0 rfl ?_
  refine s_getr (r := (r0 + 1)) hG dX10_addHerald_1 fl_RX10_11 h0.1 rfl h0.2.1 ?_
  refine s_sipush hG dX10_addHerald_4 sp_193 ⟨by decide, by decide⟩ ?_
  refine s_dup2 hG dX10_addHerald_7 rfl rfl ?_
  refine s_ialdj (j := 193) hG dX10_addHerald_8 h0.2.2.2.1 ⟨by decide, by decide⟩ rfl ?_
  refine s_dup_x2 hG dX10_addHerald_9 rfl rfl rfl ?_
  refine s_iconst hG dX10_addHerald_10 ⟨by decide, by decide⟩ ?_
  refine s_iadd hG dX10_addHerald_11 ?_
  refine s_iastj (j := 193) hG dX10_addHerald_12 h0.2.2.2.1 ⟨by decide, by decide⟩ rfl ?_
  refine s_istore_n hG dX10_addHerald_13 (by decide) rfl ?_
  refine s_aload_n hG dX10_addHerald_14 rfl ?_
  refine s_getr (r := (r0 + 1)) hG dX10_addHerald_15 fl_RX10_11 h0.1 rfl h0.2.1 ?_
  refine s_sipush hG dX10_addHerald_18 sp_213 ⟨by decide, by decide⟩ ?_
  refine s_iload_n hG dX10_addHerald_21 rfl ?_
  refine s_iadd hG dX10_addHerald_22 ?_
  refine s_iload_n hG dX10_addHerald_23 rfl ?_
  obtain ⟨g2, hF⟩ := gd_some hF
  refine s_iastj (j := (m_w (213 + (N (r0 + 1) 193))).toNat) hG dX10_addHerald_24 h0.2.2.2.1 g2 rfl ?_
  refine s_iload_n hG dX10_addHerald_25 rfl ?_
  cases hF
  exact s_iret hE dX10_addHerald_26 rfl
-- X10_addLaw
theorem t_X10_addLaw {d : Nat} {X : MX} {r0 : Nat} {r1 : Nat} {N : NN} {out : (Int × NN)} (hsk : m_Sk X) (hd : 1 ≤ d) (h0 : m_isW X r0) (hF : f_X10_addLaw X r0 r1 N = some out) : m_Call d yX10_addLaw cX10_addLaw 3 (some .int) [(.inr (.inr r0)), (.inr (.inr r1))] N X (some (.inl out.1)) out.2 X := by
  refine m_mk (ls0 := [some (.inr (.inr r0)), some (.inr (.inr r1)), none]) (by decide) rfl (Nat.le_of_ble_eq_true rfl) (Nat.le_refl _) (Nat.le_refl _) (fun Ω hE => ?_)
  have hG := hE.G
  unfold f_X10_addLaw at hF
  refine s_aload_n hG dX10_addLaw_0 rfl ?_
  refine s_getr (r := (r0 + 1)) hG dX10_addLaw_1 fl_RX10_11 h0.1 rfl h0.2.1 ?_
  refine s_sipush hG dX10_addLaw_4 sp_195 ⟨by decide, by decide⟩ ?_
  refine s_dup2 hG dX10_addLaw_7 rfl rfl ?_
  refine s_ialdj (j := 195) hG dX10_addLaw_8 h0.2.2.2.1 ⟨by decide, by decide⟩ rfl ?_
  refine s_dup_x2 hG dX10_addLaw_9 rfl rfl rfl ?_
  refine s_iconst hG dX10_addLaw_10 ⟨by decide, by decide⟩ ?_
  refine s_iadd hG dX10_addLaw_11 ?_
  refine s_iastj (j := 195) hG dX10_addLaw_12 h0.2.2.2.1 ⟨by decide, by decide⟩ rfl ?_
  refine s_istore_n hG dX10_addLaw_13 (by decide) rfl ?_
  refine s_aload_n hG dX10_addLaw_14 rfl ?_
  refine s_getr (r := (r0 + 2)) hG dX10_addLaw_15 fl_RX10_17 h0.1 rfl h0.2.2.1 ?_
  refine s_iload_n hG dX10_addLaw_18 rfl ?_
  refine s_aload_n hG dX10_addLaw_19 rfl ?_
  obtain ⟨g2, hF⟩ := gd_some hF
  obtain ⟨g3, hF⟩ := gd_some hF
  refine s_aastj (j := (N (r0 + 1) 195).toNat) hG dX10_addLaw_20 h0.2.2.2.2 g2 rfl g3 ?_
  refine s_iload_n hG dX10_addLaw_21 rfl ?_
  cases hF
  exact s_iret hE dX10_addLaw_22 rfl
-- X10_addLord
theorem t_X10_addLord {d : Nat} {X : MX} {r0 : Nat} {N : NN} {a1 : Int} {a2 : Int} {out : (Int × NN)} (hsk : m_Sk X) (hd : 3 ≤ d) (h0 : m_isW X r0) (hF : f_X10_addLord X r0 N a1 a2 = some out) : m_Call d yX10_addLord cX10_addLord 5 (some .int) [(.inr (.inr r0)), (.inl a1), (.inl a2)] N X (some (.inl out.1)) out.2 X := by
  refine m_mk (ls0 := [some (.inr (.inr r0)), some (.inl a1), some (.inl a2), none, none]) (by decide) rfl (Nat.le_of_ble_eq_true rfl) (Nat.le_refl _) (Nat.le_refl _) (fun Ω hE => ?_)
  have hG := hE.G
  unfold f_X10_addLord at hF
  refine s_aload_n hG dX10_addLord_0 rfl ?_
  refine s_getr (r := (r0 + 1)) hG dX10_addLord_1 fl_RX10_11 h0.1 rfl h0.2.1 ?_
  refine s_sipush hG dX10_addLord_4 sp_191 ⟨by decide, by decide⟩ ?_
  refine s_dup2 hG dX10_addLord_7 rfl rfl ?_
  refine s_ialdj (j := 191) hG dX10_addLord_8 h0.2.2.2.1 ⟨by decide, by decide⟩ rfl ?_
  refine s_dup_x2 hG dX10_addLord_9 rfl rfl rfl ?_
  refine s_iconst hG dX10_addLord_10 ⟨by decide, by decide⟩ ?_
  refine s_iadd hG dX10_addLord_11 ?_
  refine s_iastj (j := 191) hG dX10_addLord_12 h0.2.2.2.1 ⟨by decide, by decide⟩ rfl ?_
  refine s_istore_n hG dX10_addLord_13 (by decide) rfl ?_
  refine s_iconst hG dX10_addLord_14 ⟨by decide, by decide⟩ ?_
  refine s_iload_n hG dX10_addLord_15 rfl ?_
  refine s_bipush hG dX10_addLord_16 bp_6 ⟨by decide, by decide⟩ ?_
  refine s_imul hG dX10_addLord_18 ?_
  refine s_iadd hG dX10_addLord_19 ?_
  refine s_istore hG dX10_addLord_20 (by decide) rfl ?_
  refine s_aload_n hG dX10_addLord_22 rfl ?_
  refine s_getr (r := (r0 + 1)) hG dX10_addLord_23 fl_RX10_11 h0.1 rfl h0.2.1 ?_
  refine s_iload hG dX10_addLord_26 rfl ?_
  refine s_iload hG dX10_addLord_28 rfl ?_
  refine s_bipush hG dX10_addLord_30 bp_6 ⟨by decide, by decide⟩ ?_
  refine s_iadd hG dX10_addLord_32 ?_
  refine s_iconst hG dX10_addLord_33 ⟨by decide, by decide⟩ ?_
  obtain ⟨o2, ho2, hF⟩ := bd_some hF
  refine s_callS (d' := d - 1) (args := [.inr (.inr (r0 + 1)), .inl (m_w (3 + (m_w ((N (r0 + 1) 191) * 6)))), .inl (m_w ((m_w (3 + (m_w ((N (r0 + 1) 191) * 6)))) + 6)), .inl 0]) hG (by omega) dX10_addLord_34 cs_RX10_25 cw_J7_fill_fda19 rfl (Nat.le_of_ble_eq_true rfl) rfl (t_J7_fill_fda19 hsk (by omega) (m_k1f h0.2.2.2.1) ho2) ?_
  refine s_aload_n hG dX10_addLord_37 rfl ?_
  refine s_getr (r := (r0 + 1)) hG dX10_addLord_38 fl_RX10_11 h0.1 rfl h0.2.1 ?_
  refine s_iload hG dX10_addLord_41 rfl ?_
  refine s_iconst hG dX10_addLord_43 ⟨by decide, by decide⟩ ?_
  refine s_iadd hG dX10_addLord_44 ?_
  refine s_iload_n hG dX10_addLord_45 rfl ?_
  obtain ⟨g3, hF⟩ := gd_some hF
  refine s_iastj (j := (m_w ((m_w (3 + (m_w ((N (r0 + 1) 191) * 6)))) + 0)).toNat) hG dX10_addLord_46 h0.2.2.2.1 g3 rfl ?_
  refine s_aload_n hG dX10_addLord_47 rfl ?_
  refine s_getr (r := (r0 + 1)) hG dX10_addLord_48 fl_RX10_11 h0.1 rfl h0.2.1 ?_
  refine s_iload hG dX10_addLord_51 rfl ?_
  refine s_iconst hG dX10_addLord_53 ⟨by decide, by decide⟩ ?_
  refine s_iadd hG dX10_addLord_54 ?_
  refine s_iload_n hG dX10_addLord_55 rfl ?_
  obtain ⟨g5, hF⟩ := gd_some hF
  refine s_iastj (j := (m_w ((m_w (3 + (m_w ((N (r0 + 1) 191) * 6)))) + 1)).toNat) hG dX10_addLord_56 h0.2.2.2.1 g5 rfl ?_
  refine s_iload_n hG dX10_addLord_57 rfl ?_
  cases hF
  exact s_iret hE dX10_addLord_58 rfl
-- X10_addRoad
theorem t_X10_addRoad {d : Nat} {X : MX} {r0 : Nat} {N : NN} {a1 : Int} {a2 : Int} {a3 : Int} {a4 : Int} {out : (Int × NN)} (hsk : m_Sk X) (hd : 1 ≤ d) (h0 : m_isW X r0) (hF : f_X10_addRoad X r0 N a1 a2 a3 a4 = some out) : m_Call d yX10_addRoad cX10_addRoad 7 (some .int) [(.inr (.inr r0)), (.inl a1), (.inl a2), (.inl a3), (.inl a4)] N X (some (.inl out.1)) out.2 X := by
  refine m_mk (ls0 := [some (.inr (.inr r0)), some (.inl a1), some (.inl a2), some (.inl a3), some (.inl a4), none, none]) (by decide) rfl (Nat.le_of_ble_eq_true rfl) (Nat.le_refl _) (Nat.le_refl _) (fun Ω hE => ?_)
  have hG := hE.G
  unfold f_X10_addRoad at hF
  refine s_aload_n hG dX10_addRoad_0 rfl ?_
  refine s_getr (r := (r0 + 1)) hG dX10_addRoad_1 fl_RX10_11 h0.1 rfl h0.2.1 ?_
  refine s_sipush hG dX10_addRoad_4 sp_194 ⟨by decide, by decide⟩ ?_
  refine s_dup2 hG dX10_addRoad_7 rfl rfl ?_
  refine s_ialdj (j := 194) hG dX10_addRoad_8 h0.2.2.2.1 ⟨by decide, by decide⟩ rfl ?_
  refine s_dup_x2 hG dX10_addRoad_9 rfl rfl rfl ?_
  refine s_iconst hG dX10_addRoad_10 ⟨by decide, by decide⟩ ?_
  refine s_iadd hG dX10_addRoad_11 ?_
  refine s_iastj (j := 194) hG dX10_addRoad_12 h0.2.2.2.1 ⟨by decide, by decide⟩ rfl ?_
  refine s_istore hG dX10_addRoad_13 (by decide) rfl ?_
  refine s_sipush hG dX10_addRoad_15 sp_218 ⟨by decide, by decide⟩ ?_
  refine s_iload hG dX10_addRoad_18 rfl ?_
  refine s_iconst hG dX10_addRoad_20 ⟨by decide, by decide⟩ ?_
  refine s_imul hG dX10_addRoad_21 ?_
  refine s_iadd hG dX10_addRoad_22 ?_
  refine s_istore hG dX10_addRoad_23 (by decide) rfl ?_
  refine s_aload_n hG dX10_addRoad_25 rfl ?_
  refine s_getr (r := (r0 + 1)) hG dX10_addRoad_26 fl_RX10_11 h0.1 rfl h0.2.1 ?_
  refine s_iload hG dX10_addRoad_29 rfl ?_
  refine s_iconst hG dX10_addRoad_31 ⟨by decide, by decide⟩ ?_
  refine s_iadd hG dX10_addRoad_32 ?_
  refine s_iload_n hG dX10_addRoad_33 rfl ?_
  obtain ⟨g2, hF⟩ := gd_some hF
  refine s_iastj (j := (m_w ((m_w (218 + (m_w ((N (r0 + 1) 194) * 4)))) + 0)).toNat) hG dX10_addRoad_34 h0.2.2.2.1 g2 rfl ?_
  refine s_aload_n hG dX10_addRoad_35 rfl ?_
  refine s_getr (r := (r0 + 1)) hG dX10_addRoad_36 fl_RX10_11 h0.1 rfl h0.2.1 ?_
  refine s_iload hG dX10_addRoad_39 rfl ?_
  refine s_iconst hG dX10_addRoad_41 ⟨by decide, by decide⟩ ?_
  refine s_iadd hG dX10_addRoad_42 ?_
  refine s_iload_n hG dX10_addRoad_43 rfl ?_
  obtain ⟨g4, hF⟩ := gd_some hF
  refine s_iastj (j := (m_w ((m_w (218 + (m_w ((N (r0 + 1) 194) * 4)))) + 1)).toNat) hG dX10_addRoad_44 h0.2.2.2.1 g4 rfl ?_
  refine s_aload_n hG dX10_addRoad_45 rfl ?_
  refine s_getr (r := (r0 + 1)) hG dX10_addRoad_46 fl_RX10_11 h0.1 rfl h0.2.1 ?_
  refine s_iload hG dX10_addRoad_49 rfl ?_
  refine s_iconst hG dX10_addRoad_51 ⟨by decide, by decide⟩ ?_
  refine s_iadd hG dX10_addRoad_52 ?_
  refine s_iload_n hG dX10_addRoad_53 rfl ?_
  obtain ⟨g6, hF⟩ := gd_some hF
  refine s_iastj (j := (m_w ((m_w (218 + (m_w ((N (r0 + 1) 194) * 4)))) + 2)).toNat) hG dX10_addRoad_54 h0.2.2.2.1 g6 rfl ?_
  refine s_aload_n hG dX10_addRoad_55 rfl ?_
  refine s_getr (r := (r0 + 1)) hG dX10_addRoad_56 fl_RX10_11 h0.1 rfl h0.2.1 ?_
  refine s_iload hG dX10_addRoad_59 rfl ?_
  refine s_iconst hG dX10_addRoad_61 ⟨by decide, by decide⟩ ?_
  refine s_iadd hG dX10_addRoad_62 ?_
  refine s_iload hG dX10_addRoad_63 rfl ?_
  obtain ⟨g8, hF⟩ := gd_some hF
  refine s_iastj (j := (m_w ((m_w (218 + (m_w ((N (r0 + 1) 194) * 4)))) + 3)).toNat) hG dX10_addRoad_65 h0.2.2.2.1 g8 rfl ?_
  refine s_iload hG dX10_addRoad_66 rfl ?_
  cases hF
  exact s_iret hE dX10_addRoad_68 rfl
-- X10_greatestCreditor
theorem t_X10_greatestCreditor_l7_j36 {d n0 s0 nF sF : Nat} {X : MX} {N : NN} {r0 : Nat} {Ω : Nat → MS → Prop} {a1 : Int} {a2 : Int} {a3 : Int} {a4 : Int} (hsk : m_Sk X) (hd : 2 ≤ d) (h0 : m_isW X r0) (hG : m_G d yX10_greatestCreditor.cls yX10_greatestCreditor.name cX10_greatestCreditor 5 n0 s0 nF sF Ω) {out : ((Int × Int × Int × Int) ⊕ Int)} (hK0 : ∀ s' : (Int × Int × Int × Int), out = .inl s' → Ω 7 ([some (.inr (.inr r0)), some (.inl (s'.1)), some (.inl (s'.2.1)), some (.inl (s'.2.2.1)), some (.inl (s'.2.2.2))], [], N, X)) (hK1 : ∀ t : Int, out = .inr t → Ω 42 ([none, none, some (.inl t), none, none], [], N, X)) (hF : f_X10_greatestCreditor_l7_j36 X N r0 a1 a2 a3 a4 = some out) : Ω 36 ([some (.inr (.inr r0)), some (.inl a1), some (.inl a2), some (.inl a3), some (.inl a4)], [], N, X) := by
  unfold f_X10_greatestCreditor_l7_j36 at hF
  refine s_iinc hG dX10_greatestCreditor_36 (by decide) rfl rfl ?_
  refine s_goto hG 7 dX10_greatestCreditor_39 (by decide) ?_
  cases hF
  exact hK0 _ rfl
theorem t_X10_greatestCreditor_b7 {d n0 s0 nF sF : Nat} {X : MX} {N : NN} {r0 : Nat} {Ω : Nat → MS → Prop} {a1 : Int} {a2 : Int} {a3 : Int} {a4 : Int} (hsk : m_Sk X) (hd : 2 ≤ d) (h0 : m_isW X r0) (hG : m_G d yX10_greatestCreditor.cls yX10_greatestCreditor.name cX10_greatestCreditor 5 n0 s0 nF sF Ω) {out : ((Int × Int × Int × Int) ⊕ Int)} (hK0 : ∀ s' : (Int × Int × Int × Int), out = .inl s' → Ω 7 ([some (.inr (.inr r0)), some (.inl (s'.1)), some (.inl (s'.2.1)), some (.inl (s'.2.2.1)), some (.inl (s'.2.2.2))], [], N, X)) (hK1 : ∀ t : Int, out = .inr t → Ω 42 ([none, none, some (.inl t), none, none], [], N, X)) (hF : b_X10_greatestCreditor_7 X N r0 a1 a2 a3 a4 = some out) : Ω 7 ([some (.inr (.inr r0)), some (.inl a1), some (.inl a2), some (.inl a3), some (.inl a4)], [], N, X) := by
  unfold b_X10_greatestCreditor_7 at hF
  refine s_iload hG dX10_greatestCreditor_7 rfl ?_
  refine s_bipush hG dX10_greatestCreditor_9 bp_6 ⟨by decide, by decide⟩ ?_
  refine s_icmp_ge hG 42 dX10_greatestCreditor_11 (by decide) (fun c4 => ?_) (fun c4 => ?_)
  · replace hF := Eq.trans (if_pos c4).symm hF
    refine s_aload_n hG dX10_greatestCreditor_14 rfl ?_
    refine s_iload_n hG dX10_greatestCreditor_15 rfl ?_
    refine s_iload hG dX10_greatestCreditor_16 rfl ?_
    obtain ⟨o1, ho1, hF⟩ := bd_some hF
    refine s_callV (d' := d - 1) (ci := 10) (args := [.inl a1, .inl a4]) hG (by omega) dX10_greatestCreditor_18 cv_RX10_51 cw_X10_worthOwed rfl rfl h0.1 (Nat.le_of_ble_eq_true rfl) rfl (t_X10_worthOwed hsk (by omega) h0 ho1) ?_
    refine s_iload_n hG dX10_greatestCreditor_21 rfl ?_
    refine s_icmp_le hG 36 dX10_greatestCreditor_22 (by decide) (fun c3 => ?_) (fun c3 => ?_)
    · replace hF := Eq.trans (if_pos c3).symm hF
      refine s_aload_n hG dX10_greatestCreditor_25 rfl ?_
      refine s_iload_n hG dX10_greatestCreditor_26 rfl ?_
      refine s_iload hG dX10_greatestCreditor_27 rfl ?_
      obtain ⟨o2, ho2, hF⟩ := bd_some hF
      refine s_callV (d' := d - 1) (ci := 10) (args := [.inl a1, .inl a4]) hG (by omega) dX10_greatestCreditor_29 cv_RX10_51 cw_X10_worthOwed rfl rfl h0.1 (Nat.le_of_ble_eq_true rfl) rfl (t_X10_worthOwed hsk (by omega) h0 ho2) ?_
      refine s_istore_n hG dX10_greatestCreditor_32 (by decide) rfl ?_
      refine s_iload hG dX10_greatestCreditor_33 rfl ?_
      refine s_istore_n hG dX10_greatestCreditor_35 (by decide) rfl ?_
      exact t_X10_greatestCreditor_l7_j36 hsk hd h0 hG hK0 hK1 hF
    · replace hF := Eq.trans (if_neg c3).symm hF
      exact t_X10_greatestCreditor_l7_j36 hsk hd h0 hG hK0 hK1 hF
  · replace hF := Eq.trans (if_neg c4).symm hF
    cases hF
    refine m_weak (ls1 := [none, none, some (.inl a2), none, none]) hG ⟨rfl, trivial⟩ ?_
    exact hK1 _ rfl
theorem t_X10_greatestCreditor_lp7 {d n0 s0 nF sF : Nat} {X : MX} {N : NN} {r0 : Nat} {Ω : Nat → MS → Prop} {a1 : Int} {a2 : Int} {a3 : Int} {a4 : Int} (hsk : m_Sk X) (hd : 2 ≤ d) (h0 : m_isW X r0) (hG : m_G d yX10_greatestCreditor.cls yX10_greatestCreditor.name cX10_greatestCreditor 5 n0 s0 nF sF Ω) {t : Int} (hK1 : Ω 42 ([none, none, some (.inl t), none, none], [], N, X)) (hl : lp (fun s => b_X10_greatestCreditor_7 X N r0 s.1 s.2.1 s.2.2.1 s.2.2.2) (a1, a2, a3, a4) = some t) : Ω 7 ([some (.inr (.inr r0)), some (.inl a1), some (.inl a2), some (.inl a3), some (.inl a4)], [], N, X) := by
  refine lp_ok (P := fun s => Ω 7 ([some (.inr (.inr r0)), some (.inl s.1), some (.inl s.2.1), some (.inl s.2.2.1), some (.inl s.2.2.2)], [], N, X)) (K := fun t => Ω 42 ([none, none, some (.inl t), none, none], [], N, X)) (fun s out hF hK0 hK1 => ?_) hl hK1
  exact t_X10_greatestCreditor_b7 hsk hd h0 hG (out := out) (fun s' e => hK0 s' e) (fun t' e => hK1 t' e) hF
theorem t_X10_greatestCreditor {d : Nat} {X : MX} {N : NN} {r0 : Nat} {a1 : Int} {out : Int} (hsk : m_Sk X) (hd : 2 ≤ d) (h0 : m_isW X r0) (hF : f_X10_greatestCreditor X N r0 a1 = some out) : m_Call d yX10_greatestCreditor cX10_greatestCreditor 5 (some .int) [(.inr (.inr r0)), (.inl a1)] N X (some (.inl out)) N X := by
  refine m_mk (ls0 := [some (.inr (.inr r0)), some (.inl a1), none, none, none]) (by decide) rfl (Nat.le_of_ble_eq_true rfl) (Nat.le_refl _) (Nat.le_refl _) (fun Ω hE => ?_)
  have hG := hE.G
  unfold f_X10_greatestCreditor at hF
  refine s_iconst hG dX10_greatestCreditor_0 ⟨by decide, by decide⟩ ?_
  refine s_istore_n hG dX10_greatestCreditor_1 (by decide) rfl ?_
  refine s_iconst hG dX10_greatestCreditor_2 ⟨by decide, by decide⟩ ?_
  refine s_istore_n hG dX10_greatestCreditor_3 (by decide) rfl ?_
  refine s_iconst hG dX10_greatestCreditor_4 ⟨by decide, by decide⟩ ?_
  refine s_istore hG dX10_greatestCreditor_5 (by decide) rfl ?_
  obtain ⟨o5, hlo5, hF⟩ := bd_some hF
  refine t_X10_greatestCreditor_lp7 hsk hd h0 hG ?_ hlo5
  refine s_iload_n hG dX10_greatestCreditor_42 rfl ?_
  cases hF
  exact s_iret hE dX10_greatestCreditor_43 rfl
-- X10_held
theorem t_X10_held_l4_j26 {d n0 s0 nF sF : Nat} {X : MX} {N : NN} {r0 : Nat} {Ω : Nat → MS → Prop} {a1 : Int} {a2 : Int} {a3 : Int} (hsk : m_Sk X) (hd : 2 ≤ d) (h0 : m_isW X r0) (hG : m_G d yX10_held.cls yX10_held.name cX10_held 4 n0 s0 nF sF Ω) {out : ((Int × Int × Int) ⊕ Int)} (hK0 : ∀ s' : (Int × Int × Int), out = .inl s' → Ω 4 ([some (.inr (.inr r0)), some (.inl (s'.1)), some (.inl (s'.2.1)), some (.inl (s'.2.2))], [], N, X)) (hK1 : ∀ t : Int, out = .inr t → Ω 32 ([none, none, some (.inl t), none], [], N, X)) (hF : f_X10_held_l4_j26 X N r0 a1 a2 a3 = some out) : Ω 26 ([some (.inr (.inr r0)), some (.inl a1), some (.inl a2), some (.inl a3)], [], N, X) := by
  unfold f_X10_held_l4_j26 at hF
  refine s_iinc hG dX10_held_26 (by decide) rfl rfl ?_
  refine s_goto hG 4 dX10_held_29 (by decide) ?_
  cases hF
  exact hK0 _ rfl
theorem t_X10_held_b4 {d n0 s0 nF sF : Nat} {X : MX} {N : NN} {r0 : Nat} {Ω : Nat → MS → Prop} {a1 : Int} {a2 : Int} {a3 : Int} (hsk : m_Sk X) (hd : 2 ≤ d) (h0 : m_isW X r0) (hG : m_G d yX10_held.cls yX10_held.name cX10_held 4 n0 s0 nF sF Ω) {out : ((Int × Int × Int) ⊕ Int)} (hK0 : ∀ s' : (Int × Int × Int), out = .inl s' → Ω 4 ([some (.inr (.inr r0)), some (.inl (s'.1)), some (.inl (s'.2.1)), some (.inl (s'.2.2))], [], N, X)) (hK1 : ∀ t : Int, out = .inr t → Ω 32 ([none, none, some (.inl t), none], [], N, X)) (hF : b_X10_held_4 X N r0 a1 a2 a3 = some out) : Ω 4 ([some (.inr (.inr r0)), some (.inl a1), some (.inl a2), some (.inl a3)], [], N, X) := by
  unfold b_X10_held_4 at hF
  refine s_iload_n hG dX10_held_4 rfl ?_
  refine s_aload_n hG dX10_held_5 rfl ?_
  refine s_iconst hG dX10_held_6 ⟨by decide, by decide⟩ ?_
  obtain ⟨o1, ho1, hF⟩ := bd_some hF
  refine s_callV (d' := d - 1) (ci := 10) (args := [.inl 1]) hG (by omega) dX10_held_7 cv_RX10_45 cw_X10_many rfl rfl h0.1 (Nat.le_of_ble_eq_true rfl) rfl (t_X10_many hsk (by omega) h0 ho1) ?_
  refine s_icmp_ge hG 32 dX10_held_10 (by decide) (fun c4 => ?_) (fun c4 => ?_)
  · replace hF := Eq.trans (if_pos c4).symm hF
    refine s_aload_n hG dX10_held_13 rfl ?_
    refine s_iload_n hG dX10_held_14 rfl ?_
    refine s_iconst hG dX10_held_15 ⟨by decide, by decide⟩ ?_
    obtain ⟨o2, ho2, hF⟩ := bd_some hF
    refine s_callV (d' := d - 1) (ci := 10) (args := [.inl a3, .inl 0]) hG (by omega) dX10_held_16 cv_RX10_48 cw_X10_goodAt rfl rfl h0.1 (Nat.le_of_ble_eq_true rfl) rfl (t_X10_goodAt hsk (by omega) h0 ho2) ?_
    refine s_iload_n hG dX10_held_19 rfl ?_
    refine s_icmp_ne hG 26 dX10_held_20 (by decide) (fun c3 => ?_) (fun c3 => ?_)
    · replace hF := Eq.trans (if_pos c3).symm hF
      refine s_iinc hG dX10_held_23 (by decide) rfl rfl ?_
      exact t_X10_held_l4_j26 hsk hd h0 hG hK0 hK1 hF
    · replace hF := Eq.trans (if_neg c3).symm hF
      exact t_X10_held_l4_j26 hsk hd h0 hG hK0 hK1 hF
  · replace hF := Eq.trans (if_neg c4).symm hF
    cases hF
    refine m_weak (ls1 := [none, none, some (.inl a2), none]) hG ⟨rfl, trivial⟩ ?_
    exact hK1 _ rfl
theorem t_X10_held_lp4 {d n0 s0 nF sF : Nat} {X : MX} {N : NN} {r0 : Nat} {Ω : Nat → MS → Prop} {a1 : Int} {a2 : Int} {a3 : Int} (hsk : m_Sk X) (hd : 2 ≤ d) (h0 : m_isW X r0) (hG : m_G d yX10_held.cls yX10_held.name cX10_held 4 n0 s0 nF sF Ω) {t : Int} (hK1 : Ω 32 ([none, none, some (.inl t), none], [], N, X)) (hl : lp (fun s => b_X10_held_4 X N r0 s.1 s.2.1 s.2.2) (a1, a2, a3) = some t) : Ω 4 ([some (.inr (.inr r0)), some (.inl a1), some (.inl a2), some (.inl a3)], [], N, X) := by
  refine lp_ok (P := fun s => Ω 4 ([some (.inr (.inr r0)), some (.inl s.1), some (.inl s.2.1), some (.inl s.2.2)], [], N, X)) (K := fun t => Ω 32 ([none, none, some (.inl t), none], [], N, X)) (fun s out hF hK0 hK1 => ?_) hl hK1
  exact t_X10_held_b4 hsk hd h0 hG (out := out) (fun s' e => hK0 s' e) (fun t' e => hK1 t' e) hF
theorem t_X10_held {d : Nat} {X : MX} {N : NN} {r0 : Nat} {a1 : Int} {out : Int} (hsk : m_Sk X) (hd : 2 ≤ d) (h0 : m_isW X r0) (hF : f_X10_held X N r0 a1 = some out) : m_Call d yX10_held cX10_held 4 (some .int) [(.inr (.inr r0)), (.inl a1)] N X (some (.inl out)) N X := by
  refine m_mk (ls0 := [some (.inr (.inr r0)), some (.inl a1), none, none]) (by decide) rfl (Nat.le_of_ble_eq_true rfl) (Nat.le_refl _) (Nat.le_refl _) (fun Ω hE => ?_)
  have hG := hE.G
  unfold f_X10_held at hF
  refine s_iconst hG dX10_held_0 ⟨by decide, by decide⟩ ?_
  refine s_istore_n hG dX10_held_1 (by decide) rfl ?_
  refine s_iconst hG dX10_held_2 ⟨by decide, by decide⟩ ?_
  refine s_istore_n hG dX10_held_3 (by decide) rfl ?_
  obtain ⟨o5, hlo5, hF⟩ := bd_some hF
  refine t_X10_held_lp4 hsk hd h0 hG ?_ hlo5
  refine s_iload_n hG dX10_held_32 rfl ?_
  cases hF
  exact s_iret hE dX10_held_33 rfl
-- X10_inForce
theorem t_X10_inForce {d : Nat} {X : MX} {N : NN} {r0 : Nat} {out : Int} (hsk : m_Sk X) (hd : 1 ≤ d) (h0 : m_isW X r0) (hF : f_X10_inForce X N r0 = some out) : m_Call d yX10_inForce cX10_inForce 1 (some .int) [(.inr (.inr r0))] N X (some (.inl out)) N X := by
  refine m_mk (ls0 := [some (.inr (.inr r0))]) (by decide) rfl (Nat.le_of_ble_eq_true rfl) (Nat.le_refl _) (Nat.le_refl _) (fun Ω hE => ?_)
  have hG := hE.G
  unfold f_X10_inForce at hF
  refine s_aload_n hG dX10_inForce_0 rfl ?_
  refine s_getr (r := (r0 + 1)) hG dX10_inForce_1 fl_RX10_11 h0.1 rfl h0.2.1 ?_
  refine s_sipush hG dX10_inForce_4 sp_196 ⟨by decide, by decide⟩ ?_
  refine s_ialdj (j := 196) hG dX10_inForce_7 h0.2.2.2.1 ⟨by decide, by decide⟩ rfl ?_
  cases hF
  exact s_iret hE dX10_inForce_8 rfl
-- X10_isGood
theorem t_X10_isGood_j21 {d n0 s0 nF sF : Nat} {X : MX} {N : NN} {r0 : Nat} {Ω : Nat → MS → Prop} {z0 : Int} (hsk : m_Sk X) (hd : 1 ≤ d) (h0 : m_isW X r0) (hG : m_G d yX10_isGood.cls yX10_isGood.name cX10_isGood 2 n0 s0 nF sF Ω) {out : Int} (hE : m_Gd d yX10_isGood cX10_isGood 2 (some .boolean) X (some (.inl out)) N X Ω) (hF : f_X10_isGood_j21 X N r0 z0 = some out) : Ω 21 ([none, none], [(.inl z0)], N, X) := by
  unfold f_X10_isGood_j21 at hF
  obtain ⟨g3, hF⟩ := gd_some hF
  cases hF
  exact s_zret hE dX10_isGood_21 rfl g3
theorem t_X10_isGood_j20 {d n0 s0 nF sF : Nat} {X : MX} {N : NN} {r0 : Nat} {Ω : Nat → MS → Prop} (hsk : m_Sk X) (hd : 1 ≤ d) (h0 : m_isW X r0) (hG : m_G d yX10_isGood.cls yX10_isGood.name cX10_isGood 2 n0 s0 nF sF Ω) {out : Int} (hE : m_Gd d yX10_isGood cX10_isGood 2 (some .boolean) X (some (.inl out)) N X Ω) (hF : f_X10_isGood_j20 X N r0 = some out) : Ω 20 ([none, none], [], N, X) := by
  unfold f_X10_isGood_j20 at hF
  refine s_iconst hG dX10_isGood_20 ⟨by decide, by decide⟩ ?_
  exact t_X10_isGood_j21 hsk hd h0 hG hE hF
theorem t_X10_isGood {d : Nat} {X : MX} {N : NN} {r0 : Nat} {a1 : Int} {out : Int} (hsk : m_Sk X) (hd : 1 ≤ d) (h0 : m_isW X r0) (hF : f_X10_isGood X N r0 a1 = some out) : m_Call d yX10_isGood cX10_isGood 2 (some .boolean) [(.inr (.inr r0)), (.inl a1)] N X (some (.inl out)) N X := by
  refine m_mk (ls0 := [some (.inr (.inr r0)), some (.inl a1)]) (by decide) rfl (Nat.le_of_ble_eq_true rfl) (Nat.le_refl _) (Nat.le_refl _) (fun Ω hE => ?_)
  have hG := hE.G
  unfold f_X10_isGood at hF
  refine s_iload_n hG dX10_isGood_0 rfl ?_
  refine s_if_lt hG 20 dX10_isGood_1 (by decide) (fun c2 => ?_) (fun c2 => ?_)
  · replace hF := Eq.trans (if_pos c2).symm hF
    refine m_weak (ls1 := [none, none]) hG trivial ?_
    exact t_X10_isGood_j20 hsk hd h0 hG hE hF
  · replace hF := Eq.trans (if_neg c2).symm hF
    refine s_iload_n hG dX10_isGood_4 rfl ?_
    refine s_aload_n hG dX10_isGood_5 rfl ?_
    refine s_getr (r := (r0 + 1)) hG dX10_isGood_6 fl_RX10_11 h0.1 rfl h0.2.1 ?_
    refine s_sipush hG dX10_isGood_9 sp_192 ⟨by decide, by decide⟩ ?_
    refine s_ialdj (j := 192) hG dX10_isGood_12 h0.2.2.2.1 ⟨by decide, by decide⟩ rfl ?_
    refine s_icmp_ge hG 20 dX10_isGood_13 (by decide) (fun c1 => ?_) (fun c1 => ?_)
    · replace hF := Eq.trans (if_pos c1).symm hF
      refine s_iconst hG dX10_isGood_16 ⟨by decide, by decide⟩ ?_
      refine s_goto hG 21 dX10_isGood_17 (by decide) ?_
      refine m_weak (ls1 := [none, none]) hG trivial ?_
      exact t_X10_isGood_j21 hsk hd h0 hG hE hF
    · replace hF := Eq.trans (if_neg c1).symm hF
      refine m_weak (ls1 := [none, none]) hG trivial ?_
      exact t_X10_isGood_j20 hsk hd h0 hG hE hF
-- X10_isKept
theorem t_X10_isKept {d : Nat} {X : MX} {N : NN} {r0 : Nat} {out : Int} (hsk : m_Sk X) (hd : 1 ≤ d) (h0 : m_isW X r0) (hF : f_X10_isKept X N r0 = some out) : m_Call d yX10_isKept cX10_isKept 1 (some .boolean) [(.inr (.inr r0))] N X (some (.inl out)) N X := by
  refine m_mk (ls0 := [some (.inr (.inr r0))]) (by decide) rfl (Nat.le_of_ble_eq_true rfl) (Nat.le_refl _) (Nat.le_refl _) (fun Ω hE => ?_)
  have hG := hE.G
  unfold f_X10_isKept at hF
  refine s_aload_n hG dX10_isKept_0 rfl ?_
  refine s_getz hG dX10_isKept_1 fl_RX10_21 h0.1 rfl ?_
  obtain ⟨g1, hF⟩ := gd_some hF
  cases hF
  exact s_zret hE dX10_isKept_4 rfl g1
-- X10_isLord
theorem t_X10_isLord_j21 {d n0 s0 nF sF : Nat} {X : MX} {N : NN} {r0 : Nat} {Ω : Nat → MS → Prop} {z0 : Int} (hsk : m_Sk X) (hd : 1 ≤ d) (h0 : m_isW X r0) (hG : m_G d yX10_isLord.cls yX10_isLord.name cX10_isLord 2 n0 s0 nF sF Ω) {out : Int} (hE : m_Gd d yX10_isLord cX10_isLord 2 (some .boolean) X (some (.inl out)) N X Ω) (hF : f_X10_isLord_j21 X N r0 z0 = some out) : Ω 21 ([none, none], [(.inl z0)], N, X) := by
  unfold f_X10_isLord_j21 at hF
  obtain ⟨g3, hF⟩ := gd_some hF
  cases hF
  exact s_zret hE dX10_isLord_21 rfl g3
theorem t_X10_isLord_j20 {d n0 s0 nF sF : Nat} {X : MX} {N : NN} {r0 : Nat} {Ω : Nat → MS → Prop} (hsk : m_Sk X) (hd : 1 ≤ d) (h0 : m_isW X r0) (hG : m_G d yX10_isLord.cls yX10_isLord.name cX10_isLord 2 n0 s0 nF sF Ω) {out : Int} (hE : m_Gd d yX10_isLord cX10_isLord 2 (some .boolean) X (some (.inl out)) N X Ω) (hF : f_X10_isLord_j20 X N r0 = some out) : Ω 20 ([none, none], [], N, X) := by
  unfold f_X10_isLord_j20 at hF
  refine s_iconst hG dX10_isLord_20 ⟨by decide, by decide⟩ ?_
  exact t_X10_isLord_j21 hsk hd h0 hG hE hF
theorem t_X10_isLord {d : Nat} {X : MX} {N : NN} {r0 : Nat} {a1 : Int} {out : Int} (hsk : m_Sk X) (hd : 1 ≤ d) (h0 : m_isW X r0) (hF : f_X10_isLord X N r0 a1 = some out) : m_Call d yX10_isLord cX10_isLord 2 (some .boolean) [(.inr (.inr r0)), (.inl a1)] N X (some (.inl out)) N X := by
  refine m_mk (ls0 := [some (.inr (.inr r0)), some (.inl a1)]) (by decide) rfl (Nat.le_of_ble_eq_true rfl) (Nat.le_refl _) (Nat.le_refl _) (fun Ω hE => ?_)
  have hG := hE.G
  unfold f_X10_isLord at hF
  refine s_iload_n hG dX10_isLord_0 rfl ?_
  refine s_if_lt hG 20 dX10_isLord_1 (by decide) (fun c2 => ?_) (fun c2 => ?_)
  · replace hF := Eq.trans (if_pos c2).symm hF
    refine m_weak (ls1 := [none, none]) hG trivial ?_
    exact t_X10_isLord_j20 hsk hd h0 hG hE hF
  · replace hF := Eq.trans (if_neg c2).symm hF
    refine s_iload_n hG dX10_isLord_4 rfl ?_
    refine s_aload_n hG dX10_isLord_5 rfl ?_
    refine s_getr (r := (r0 + 1)) hG dX10_isLord_6 fl_RX10_11 h0.1 rfl h0.2.1 ?_
    refine s_sipush hG dX10_isLord_9 sp_191 ⟨by decide, by decide⟩ ?_
    refine s_ialdj (j := 191) hG dX10_isLord_12 h0.2.2.2.1 ⟨by decide, by decide⟩ rfl ?_
    refine s_icmp_ge hG 20 dX10_isLord_13 (by decide) (fun c1 => ?_) (fun c1 => ?_)
    · replace hF := Eq.trans (if_pos c1).symm hF
      refine s_iconst hG dX10_isLord_16 ⟨by decide, by decide⟩ ?_
      refine s_goto hG 21 dX10_isLord_17 (by decide) ?_
      refine m_weak (ls1 := [none, none]) hG trivial ?_
      exact t_X10_isLord_j21 hsk hd h0 hG hE hF
    · replace hF := Eq.trans (if_neg c1).symm hF
      refine m_weak (ls1 := [none, none]) hG trivial ?_
      exact t_X10_isLord_j20 hsk hd h0 hG hE hF
-- X10_isOwnedAndHeld
theorem t_X10_isOwnedAndHeld_j36 {d n0 s0 nF sF : Nat} {X : MX} {N : NN} {r0 : Nat} {Ω : Nat → MS → Prop} {z0 : Int} (hsk : m_Sk X) (hd : 1 ≤ d) (h0 : m_isW X r0) (hG : m_G d yX10_isOwnedAndHeld.cls yX10_isOwnedAndHeld.name cX10_isOwnedAndHeld 4 n0 s0 nF sF Ω) {out : Int} (hE : m_Gd d yX10_isOwnedAndHeld cX10_isOwnedAndHeld 4 (some .boolean) X (some (.inl out)) N X Ω) (hF : f_X10_isOwnedAndHeld_j36 X N r0 z0 = some out) : Ω 36 ([none, none, none, none], [(.inl z0)], N, X) := by
  unfold f_X10_isOwnedAndHeld_j36 at hF
  obtain ⟨g5, hF⟩ := gd_some hF
  cases hF
  exact s_zret hE dX10_isOwnedAndHeld_36 rfl g5
theorem t_X10_isOwnedAndHeld_j35 {d n0 s0 nF sF : Nat} {X : MX} {N : NN} {r0 : Nat} {Ω : Nat → MS → Prop} (hsk : m_Sk X) (hd : 1 ≤ d) (h0 : m_isW X r0) (hG : m_G d yX10_isOwnedAndHeld.cls yX10_isOwnedAndHeld.name cX10_isOwnedAndHeld 4 n0 s0 nF sF Ω) {out : Int} (hE : m_Gd d yX10_isOwnedAndHeld cX10_isOwnedAndHeld 4 (some .boolean) X (some (.inl out)) N X Ω) (hF : f_X10_isOwnedAndHeld_j35 X N r0 = some out) : Ω 35 ([none, none, none, none], [], N, X) := by
  unfold f_X10_isOwnedAndHeld_j35 at hF
  refine s_iconst hG dX10_isOwnedAndHeld_35 ⟨by decide, by decide⟩ ?_
  exact t_X10_isOwnedAndHeld_j36 hsk hd h0 hG hE hF
theorem t_X10_isOwnedAndHeld {d : Nat} {X : MX} {N : NN} {r0 : Nat} {a1 : Int} {a2 : Int} {out : Int} (hsk : m_Sk X) (hd : 1 ≤ d) (h0 : m_isW X r0) (hF : f_X10_isOwnedAndHeld X N r0 a1 a2 = some out) : m_Call d yX10_isOwnedAndHeld cX10_isOwnedAndHeld 4 (some .boolean) [(.inr (.inr r0)), (.inl a1), (.inl a2)] N X (some (.inl out)) N X := by
  refine m_mk (ls0 := [some (.inr (.inr r0)), some (.inl a1), some (.inl a2), none]) (by decide) rfl (Nat.le_of_ble_eq_true rfl) (Nat.le_refl _) (Nat.le_refl _) (fun Ω hE => ?_)
  have hG := hE.G
  unfold f_X10_isOwnedAndHeld at hF
  refine s_bipush hG dX10_isOwnedAndHeld_0 bp_39 ⟨by decide, by decide⟩ ?_
  refine s_iload_n hG dX10_isOwnedAndHeld_2 rfl ?_
  refine s_iconst hG dX10_isOwnedAndHeld_3 ⟨by decide, by decide⟩ ?_
  refine s_imul hG dX10_isOwnedAndHeld_4 ?_
  refine s_iadd hG dX10_isOwnedAndHeld_5 ?_
  refine s_istore_n hG dX10_isOwnedAndHeld_6 (by decide) rfl ?_
  refine s_aload_n hG dX10_isOwnedAndHeld_7 rfl ?_
  refine s_getr (r := (r0 + 1)) hG dX10_isOwnedAndHeld_8 fl_RX10_11 h0.1 rfl h0.2.1 ?_
  refine s_iload_n hG dX10_isOwnedAndHeld_11 rfl ?_
  refine s_iconst hG dX10_isOwnedAndHeld_12 ⟨by decide, by decide⟩ ?_
  refine s_iadd hG dX10_isOwnedAndHeld_13 ?_
  obtain ⟨g1, hF⟩ := gd_some hF
  refine s_ialdj (j := (m_w ((m_w (39 + (m_w (a1 * 5)))) + 0)).toNat) hG dX10_isOwnedAndHeld_14 h0.2.2.2.1 g1 rfl ?_
  refine s_iload_n hG dX10_isOwnedAndHeld_15 rfl ?_
  refine s_icmp_ne hG 35 dX10_isOwnedAndHeld_16 (by decide) (fun c4 => ?_) (fun c4 => ?_)
  · replace hF := Eq.trans (if_pos c4).symm hF
    refine s_aload_n hG dX10_isOwnedAndHeld_19 rfl ?_
    refine s_getr (r := (r0 + 1)) hG dX10_isOwnedAndHeld_20 fl_RX10_11 h0.1 rfl h0.2.1 ?_
    refine s_iload_n hG dX10_isOwnedAndHeld_23 rfl ?_
    refine s_iconst hG dX10_isOwnedAndHeld_24 ⟨by decide, by decide⟩ ?_
    refine s_iadd hG dX10_isOwnedAndHeld_25 ?_
    obtain ⟨g2, hF⟩ := gd_some hF
    refine s_ialdj (j := (m_w ((m_w (39 + (m_w (a1 * 5)))) + 1)).toNat) hG dX10_isOwnedAndHeld_26 h0.2.2.2.1 g2 rfl ?_
    refine s_iload_n hG dX10_isOwnedAndHeld_27 rfl ?_
    refine s_icmp_ne hG 35 dX10_isOwnedAndHeld_28 (by decide) (fun c3 => ?_) (fun c3 => ?_)
    · replace hF := Eq.trans (if_pos c3).symm hF
      refine s_iconst hG dX10_isOwnedAndHeld_31 ⟨by decide, by decide⟩ ?_
      refine s_goto hG 36 dX10_isOwnedAndHeld_32 (by decide) ?_
      refine m_weak (ls1 := [none, none, none, none]) hG trivial ?_
      exact t_X10_isOwnedAndHeld_j36 hsk hd h0 hG hE hF
    · replace hF := Eq.trans (if_neg c3).symm hF
      refine m_weak (ls1 := [none, none, none, none]) hG trivial ?_
      exact t_X10_isOwnedAndHeld_j35 hsk hd h0 hG hE hF
  · replace hF := Eq.trans (if_neg c4).symm hF
    refine m_weak (ls1 := [none, none, none, none]) hG trivial ?_
    exact t_X10_isOwnedAndHeld_j35 hsk hd h0 hG hE hF
-- X10_markKept
theorem t_X10_markKept {d : Nat} {X : MX} {r0 : Nat} {N : NN} {out : NN} (hsk : m_Sk X) (hd : 1 ≤ d) (h0 : m_isW X r0) (hF : f_X10_markKept X r0 N = some out) : m_Call d yX10_markKept cX10_markKept 1 none [(.inr (.inr r0))] N X none out X := by
  refine m_mk (ls0 := [some (.inr (.inr r0))]) (by decide) rfl (Nat.le_of_ble_eq_true rfl) (Nat.le_refl _) (Nat.le_refl _) (fun Ω hE => ?_)
  have hG := hE.G
  unfold f_X10_markKept at hF
  refine s_aload_n hG dX10_markKept_0 rfl ?_
  refine s_iconst hG dX10_markKept_1 ⟨by decide, by decide⟩ ?_
  refine s_putz hG dX10_markKept_2 fl_RX10_21 (fun h => by cases h) h0.1 rfl ⟨by decide, by decide⟩ ?_
  cases hF
  exact s_vret hE dX10_markKept_5 rfl
-- X10_price
theorem t_X10_price {d : Nat} {X : MX} {N : NN} {r0 : Nat} {a1 : Int} {out : Int} (hsk : m_Sk X) (hd : 1 ≤ d) (h0 : m_isW X r0) (hF : f_X10_price X N r0 a1 = some out) : m_Call d yX10_price cX10_price 2 (some .int) [(.inr (.inr r0)), (.inl a1)] N X (some (.inl out)) N X := by
  refine m_mk (ls0 := [some (.inr (.inr r0)), some (.inl a1)]) (by decide) rfl (Nat.le_of_ble_eq_true rfl) (Nat.le_refl _) (Nat.le_refl _) (fun Ω hE => ?_)
  have hG := hE.G
  unfold f_X10_price at hF
  refine s_aload_n hG dX10_price_0 rfl ?_
  refine s_getr (r := (r0 + 1)) hG dX10_price_1 fl_RX10_11 h0.1 rfl h0.2.1 ?_
  refine s_sipush hG dX10_price_4 sp_213 ⟨by decide, by decide⟩ ?_
  refine s_iload_n hG dX10_price_7 rfl ?_
  refine s_iadd hG dX10_price_8 ?_
  obtain ⟨g1, hF⟩ := gd_some hF
  refine s_ialdj (j := (m_w (213 + a1)).toNat) hG dX10_price_9 h0.2.2.2.1 g1 rfl ?_
  cases hF
  exact s_iret hE dX10_price_10 rfl
-- X10_restoreFrom
theorem t_X10_restoreFrom {d : Nat} {X : MX} {r0 : Nat} {r1 : Nat} {N : NN} {a2 : Int} {out : NN} (hsk : m_Sk X) (hd : 1 ≤ d) (h0 : m_isW X r0) (h1 : (xK X r1).1 = 1) (hF : f_X10_restoreFrom X r0 r1 N a2 = some out) : m_Call d yX10_restoreFrom cX10_restoreFrom 3 none [(.inr (.inr r0)), (.inr (.inr r1)), (.inl a2)] N X none out X := by
  refine m_mk (ls0 := [some (.inr (.inr r0)), some (.inr (.inr r1)), some (.inl a2)]) (by decide) rfl (Nat.le_of_ble_eq_true rfl) (Nat.le_refl _) (Nat.le_refl _) (fun Ω hE => ?_)
  have hG := hE.G
  unfold f_X10_restoreFrom at hF
  refine s_aload_n hG dX10_restoreFrom_0 rfl ?_
  refine s_iload_n hG dX10_restoreFrom_1 rfl ?_
  refine s_aload_n hG dX10_restoreFrom_2 rfl ?_
  refine s_getr (r := (r0 + 1)) hG dX10_restoreFrom_3 fl_RX10_11 h0.1 rfl h0.2.1 ?_
  refine s_iconst hG dX10_restoreFrom_6 ⟨by decide, by decide⟩ ?_
  refine s_sipush hG dX10_restoreFrom_7 sp_191 ⟨by decide, by decide⟩ ?_
  obtain ⟨g1, hF⟩ := gd_some hF
  refine s_copy hG (by omega) dX10_restoreFrom_10 ml_RX10_31 lk_cpy_n lk_cpy_s lk_sys (Nat.le_of_ble_eq_true rfl) (m_k1 h1) h0.2.2.2.1 g1 ?_
  cases hF
  exact s_vret hE dX10_restoreFrom_13 rfl
-- X10_roadAt
theorem t_X10_roadAt {d : Nat} {X : MX} {N : NN} {r0 : Nat} {a1 : Int} {a2 : Int} {out : Int} (hsk : m_Sk X) (hd : 1 ≤ d) (h0 : m_isW X r0) (hF : f_X10_roadAt X N r0 a1 a2 = some out) : m_Call d yX10_roadAt cX10_roadAt 3 (some .int) [(.inr (.inr r0)), (.inl a1), (.inl a2)] N X (some (.inl out)) N X := by
  refine m_mk (ls0 := [some (.inr (.inr r0)), some (.inl a1), some (.inl a2)]) (by decide) rfl (Nat.le_of_ble_eq_true rfl) (Nat.le_refl _) (Nat.le_refl _) (fun Ω hE => ?_)
  have hG := hE.G
  unfold f_X10_roadAt at hF
  refine s_aload_n hG dX10_roadAt_0 rfl ?_
  refine s_getr (r := (r0 + 1)) hG dX10_roadAt_1 fl_RX10_11 h0.1 rfl h0.2.1 ?_
  refine s_sipush hG dX10_roadAt_4 sp_218 ⟨by decide, by decide⟩ ?_
  refine s_iload_n hG dX10_roadAt_7 rfl ?_
  refine s_iconst hG dX10_roadAt_8 ⟨by decide, by decide⟩ ?_
  refine s_imul hG dX10_roadAt_9 ?_
  refine s_iadd hG dX10_roadAt_10 ?_
  refine s_iload_n hG dX10_roadAt_11 rfl ?_
  refine s_iadd hG dX10_roadAt_12 ?_
  obtain ⟨g1, hF⟩ := gd_some hF
  refine s_ialdj (j := (m_w ((m_w (218 + (m_w (a1 * 4)))) + a2)).toNat) hG dX10_roadAt_13 h0.2.2.2.1 g1 rfl ?_
  cases hF
  exact s_iret hE dX10_roadAt_14 rfl
-- X10_saveTo
theorem t_X10_saveTo {d : Nat} {X : MX} {r0 : Nat} {r1 : Nat} {N : NN} {a2 : Int} {out : NN} (hsk : m_Sk X) (hd : 1 ≤ d) (h0 : m_isW X r0) (h1 : (xK X r1).1 = 1) (hF : f_X10_saveTo X r0 r1 N a2 = some out) : m_Call d yX10_saveTo cX10_saveTo 3 none [(.inr (.inr r0)), (.inr (.inr r1)), (.inl a2)] N X none out X := by
  refine m_mk (ls0 := [some (.inr (.inr r0)), some (.inr (.inr r1)), some (.inl a2)]) (by decide) rfl (Nat.le_of_ble_eq_true rfl) (Nat.le_refl _) (Nat.le_refl _) (fun Ω hE => ?_)
  have hG := hE.G
  unfold f_X10_saveTo at hF
  refine s_aload_n hG dX10_saveTo_0 rfl ?_
  refine s_getr (r := (r0 + 1)) hG dX10_saveTo_1 fl_RX10_11 h0.1 rfl h0.2.1 ?_
  refine s_iconst hG dX10_saveTo_4 ⟨by decide, by decide⟩ ?_
  refine s_aload_n hG dX10_saveTo_5 rfl ?_
  refine s_iload_n hG dX10_saveTo_6 rfl ?_
  refine s_sipush hG dX10_saveTo_7 sp_191 ⟨by decide, by decide⟩ ?_
  obtain ⟨g1, hF⟩ := gd_some hF
  refine s_copy hG (by omega) dX10_saveTo_10 ml_RX10_31 lk_cpy_n lk_cpy_s lk_sys (Nat.le_of_ble_eq_true rfl) h0.2.2.2.1 (m_k1 h1) g1 ?_
  cases hF
  exact s_vret hE dX10_saveTo_13 rfl
-- X10_seenOf
theorem t_X10_seenOf_j31 {d n0 s0 nF sF : Nat} {X : MX} {N : NN} {r0 : Nat} {Ω : Nat → MS → Prop} {z0 : Int} (hsk : m_Sk X) (hd : 3 ≤ d) (h0 : m_isW X r0) (hG : m_G d yX10_seenOf.cls yX10_seenOf.name cX10_seenOf 3 n0 s0 nF sF Ω) {out : Int} (hE : m_Gd d yX10_seenOf cX10_seenOf 3 (some .int) X (some (.inl out)) N X Ω) (hF : f_X10_seenOf_j31 X N r0 z0 = some out) : Ω 31 ([none, none, none], [(.inl z0)], N, X) := by
  unfold f_X10_seenOf_j31 at hF
  cases hF
  exact s_iret hE dX10_seenOf_31 rfl
theorem t_X10_seenOf_j16 {d n0 s0 nF sF : Nat} {X : MX} {N : NN} {r0 : Nat} {Ω : Nat → MS → Prop} {a1 : Int} {a2 : Int} (hsk : m_Sk X) (hd : 3 ≤ d) (h0 : m_isW X r0) (hG : m_G d yX10_seenOf.cls yX10_seenOf.name cX10_seenOf 3 n0 s0 nF sF Ω) {out : Int} (hE : m_Gd d yX10_seenOf cX10_seenOf 3 (some .int) X (some (.inl out)) N X Ω) (hF : f_X10_seenOf_j16 X N r0 a1 a2 = some out) : Ω 16 ([some (.inr (.inr r0)), some (.inl a1), some (.inl a2)], [], N, X) := by
  unfold f_X10_seenOf_j16 at hF
  refine s_iload_n hG dX10_seenOf_16 rfl ?_
  refine s_bipush hG dX10_seenOf_17 bp_6 ⟨by decide, by decide⟩ ?_
  refine s_icmp_ne hG 30 dX10_seenOf_19 (by decide) (fun c5 => ?_) (fun c5 => ?_)
  · replace hF := Eq.trans (if_pos c5).symm hF
    refine s_aload_n hG dX10_seenOf_22 rfl ?_
    refine s_iload_n hG dX10_seenOf_23 rfl ?_
    obtain ⟨o4, ho4, hF⟩ := bd_some hF
    refine s_callV (d' := d - 1) (ci := 10) (args := [.inl a1]) hG (by omega) dX10_seenOf_24 cv_RX10_41 cw_X10_held rfl rfl h0.1 (Nat.le_of_ble_eq_true rfl) rfl (t_X10_held hsk (by omega) h0 ho4) ?_
    refine s_goto hG 31 dX10_seenOf_27 (by decide) ?_
    refine m_weak (ls1 := [none, none, none]) hG trivial ?_
    exact t_X10_seenOf_j31 hsk hd h0 hG hE hF
  · replace hF := Eq.trans (if_neg c5).symm hF
    refine s_iconst hG dX10_seenOf_30 ⟨by decide, by decide⟩ ?_
    refine m_weak (ls1 := [none, none, none]) hG trivial ?_
    exact t_X10_seenOf_j31 hsk hd h0 hG hE hF
theorem t_X10_seenOf {d : Nat} {X : MX} {N : NN} {r0 : Nat} {a1 : Int} {a2 : Int} {out : Int} (hsk : m_Sk X) (hd : 3 ≤ d) (h0 : m_isW X r0) (hF : f_X10_seenOf X N r0 a1 a2 = some out) : m_Call d yX10_seenOf cX10_seenOf 3 (some .int) [(.inr (.inr r0)), (.inl a1), (.inl a2)] N X (some (.inl out)) N X := by
  refine m_mk (ls0 := [some (.inr (.inr r0)), some (.inl a1), some (.inl a2)]) (by decide) rfl (Nat.le_of_ble_eq_true rfl) (Nat.le_refl _) (Nat.le_refl _) (fun Ω hE => ?_)
  have hG := hE.G
  unfold f_X10_seenOf at hF
  refine s_iload_n hG dX10_seenOf_0 rfl ?_
  refine s_if_lt hG 16 dX10_seenOf_1 (by decide) (fun c3 => ?_) (fun c3 => ?_)
  · replace hF := Eq.trans (if_pos c3).symm hF
    exact t_X10_seenOf_j16 hsk hd h0 hG hE hF
  · replace hF := Eq.trans (if_neg c3).symm hF
    refine s_iload_n hG dX10_seenOf_4 rfl ?_
    refine s_iconst hG dX10_seenOf_5 ⟨by decide, by decide⟩ ?_
    refine s_icmp_gt hG 16 dX10_seenOf_6 (by decide) (fun c2 => ?_) (fun c2 => ?_)
    · replace hF := Eq.trans (if_pos c2).symm hF
      exact t_X10_seenOf_j16 hsk hd h0 hG hE hF
    · replace hF := Eq.trans (if_neg c2).symm hF
      refine s_aload_n hG dX10_seenOf_9 rfl ?_
      refine s_iload_n hG dX10_seenOf_10 rfl ?_
      refine s_iload_n hG dX10_seenOf_11 rfl ?_
      obtain ⟨o1, ho1, hF⟩ := bd_some hF
      refine s_callV (d' := d - 1) (ci := 10) (args := [.inl a1, .inl a2]) hG (by omega) dX10_seenOf_12 cv_RX10_37 cw_X10_lordAt rfl rfl h0.1 (Nat.le_of_ble_eq_true rfl) rfl (t_X10_lordAt hsk (by omega) h0 ho1) ?_
      cases hF
      exact s_iret hE dX10_seenOf_15 rfl
-- X10_setForce
theorem t_X10_setForce {d : Nat} {X : MX} {r0 : Nat} {N : NN} {a1 : Int} {out : NN} (hsk : m_Sk X) (hd : 1 ≤ d) (h0 : m_isW X r0) (hF : f_X10_setForce X r0 N a1 = some out) : m_Call d yX10_setForce cX10_setForce 2 none [(.inr (.inr r0)), (.inl a1)] N X none out X := by
  refine m_mk (ls0 := [some (.inr (.inr r0)), some (.inl a1)]) (by decide) rfl (Nat.le_of_ble_eq_true rfl) (Nat.le_refl _) (Nat.le_refl _) (fun Ω hE => ?_)
  have hG := hE.G
  unfold f_X10_setForce at hF
  refine s_aload_n hG dX10_setForce_0 rfl ?_
  refine s_getr (r := (r0 + 1)) hG dX10_setForce_1 fl_RX10_11 h0.1 rfl h0.2.1 ?_
  refine s_sipush hG dX10_setForce_4 sp_196 ⟨by decide, by decide⟩ ?_
  refine s_iload_n hG dX10_setForce_7 rfl ?_
  refine s_iastj (j := 196) hG dX10_setForce_8 h0.2.2.2.1 ⟨by decide, by decide⟩ rfl ?_
  cases hF
  exact s_vret hE dX10_setForce_9 rfl
-- X10_standingAgainst
theorem t_X10_standingAgainst_l4_j23 {d n0 s0 nF sF : Nat} {X : MX} {N : NN} {r0 : Nat} {Ω : Nat → MS → Prop} {a1 : Int} {a2 : Int} {a3 : Int} (hsk : m_Sk X) (hd : 2 ≤ d) (h0 : m_isW X r0) (hG : m_G d yX10_standingAgainst.cls yX10_standingAgainst.name cX10_standingAgainst 4 n0 s0 nF sF Ω) {out : ((Int × Int × Int) ⊕ Int)} (hK0 : ∀ s' : (Int × Int × Int), out = .inl s' → Ω 4 ([some (.inr (.inr r0)), some (.inl (s'.1)), some (.inl (s'.2.1)), some (.inl (s'.2.2))], [], N, X)) (hK1 : ∀ t : Int, out = .inr t → Ω 29 ([none, none, some (.inl t), none], [], N, X)) (hF : f_X10_standingAgainst_l4_j23 X N r0 a1 a2 a3 = some out) : Ω 23 ([some (.inr (.inr r0)), some (.inl a1), some (.inl a2), some (.inl a3)], [], N, X) := by
  unfold f_X10_standingAgainst_l4_j23 at hF
  refine s_iinc hG dX10_standingAgainst_23 (by decide) rfl rfl ?_
  refine s_goto hG 4 dX10_standingAgainst_26 (by decide) ?_
  cases hF
  exact hK0 _ rfl
theorem t_X10_standingAgainst_b4 {d n0 s0 nF sF : Nat} {X : MX} {N : NN} {r0 : Nat} {Ω : Nat → MS → Prop} {a1 : Int} {a2 : Int} {a3 : Int} (hsk : m_Sk X) (hd : 2 ≤ d) (h0 : m_isW X r0) (hG : m_G d yX10_standingAgainst.cls yX10_standingAgainst.name cX10_standingAgainst 4 n0 s0 nF sF Ω) {out : ((Int × Int × Int) ⊕ Int)} (hK0 : ∀ s' : (Int × Int × Int), out = .inl s' → Ω 4 ([some (.inr (.inr r0)), some (.inl (s'.1)), some (.inl (s'.2.1)), some (.inl (s'.2.2))], [], N, X)) (hK1 : ∀ t : Int, out = .inr t → Ω 29 ([none, none, some (.inl t), none], [], N, X)) (hF : b_X10_standingAgainst_4 X N r0 a1 a2 a3 = some out) : Ω 4 ([some (.inr (.inr r0)), some (.inl a1), some (.inl a2), some (.inl a3)], [], N, X) := by
  unfold b_X10_standingAgainst_4 at hF
  refine s_iload_n hG dX10_standingAgainst_4 rfl ?_
  refine s_bipush hG dX10_standingAgainst_5 bp_6 ⟨by decide, by decide⟩ ?_
  refine s_icmp_ge hG 29 dX10_standingAgainst_7 (by decide) (fun c3 => ?_) (fun c3 => ?_)
  · replace hF := Eq.trans (if_pos c3).symm hF
    refine s_aload_n hG dX10_standingAgainst_10 rfl ?_
    refine s_iload_n hG dX10_standingAgainst_11 rfl ?_
    refine s_iload_n hG dX10_standingAgainst_12 rfl ?_
    obtain ⟨o1, ho1, hF⟩ := bd_some hF
    refine s_callV (d' := d - 1) (ci := 10) (args := [.inl a1, .inl a3]) hG (by omega) dX10_standingAgainst_13 cv_RX10_51 cw_X10_worthOwed rfl rfl h0.1 (Nat.le_of_ble_eq_true rfl) rfl (t_X10_worthOwed hsk (by omega) h0 ho1) ?_
    refine s_iconst hG dX10_standingAgainst_16 ⟨by decide, by decide⟩ ?_
    refine s_icmp_eq hG 23 dX10_standingAgainst_17 (by decide) (fun c2 => ?_) (fun c2 => ?_)
    · replace hF := Eq.trans (if_pos c2).symm hF
      exact t_X10_standingAgainst_l4_j23 hsk hd h0 hG hK0 hK1 hF
    · replace hF := Eq.trans (if_neg c2).symm hF
      refine s_iinc hG dX10_standingAgainst_20 (by decide) rfl rfl ?_
      exact t_X10_standingAgainst_l4_j23 hsk hd h0 hG hK0 hK1 hF
  · replace hF := Eq.trans (if_neg c3).symm hF
    cases hF
    refine m_weak (ls1 := [none, none, some (.inl a2), none]) hG ⟨rfl, trivial⟩ ?_
    exact hK1 _ rfl
theorem t_X10_standingAgainst_lp4 {d n0 s0 nF sF : Nat} {X : MX} {N : NN} {r0 : Nat} {Ω : Nat → MS → Prop} {a1 : Int} {a2 : Int} {a3 : Int} (hsk : m_Sk X) (hd : 2 ≤ d) (h0 : m_isW X r0) (hG : m_G d yX10_standingAgainst.cls yX10_standingAgainst.name cX10_standingAgainst 4 n0 s0 nF sF Ω) {t : Int} (hK1 : Ω 29 ([none, none, some (.inl t), none], [], N, X)) (hl : lp (fun s => b_X10_standingAgainst_4 X N r0 s.1 s.2.1 s.2.2) (a1, a2, a3) = some t) : Ω 4 ([some (.inr (.inr r0)), some (.inl a1), some (.inl a2), some (.inl a3)], [], N, X) := by
  refine lp_ok (P := fun s => Ω 4 ([some (.inr (.inr r0)), some (.inl s.1), some (.inl s.2.1), some (.inl s.2.2)], [], N, X)) (K := fun t => Ω 29 ([none, none, some (.inl t), none], [], N, X)) (fun s out hF hK0 hK1 => ?_) hl hK1
  exact t_X10_standingAgainst_b4 hsk hd h0 hG (out := out) (fun s' e => hK0 s' e) (fun t' e => hK1 t' e) hF
theorem t_X10_standingAgainst {d : Nat} {X : MX} {N : NN} {r0 : Nat} {a1 : Int} {out : Int} (hsk : m_Sk X) (hd : 2 ≤ d) (h0 : m_isW X r0) (hF : f_X10_standingAgainst X N r0 a1 = some out) : m_Call d yX10_standingAgainst cX10_standingAgainst 4 (some .int) [(.inr (.inr r0)), (.inl a1)] N X (some (.inl out)) N X := by
  refine m_mk (ls0 := [some (.inr (.inr r0)), some (.inl a1), none, none]) (by decide) rfl (Nat.le_of_ble_eq_true rfl) (Nat.le_refl _) (Nat.le_refl _) (fun Ω hE => ?_)
  have hG := hE.G
  unfold f_X10_standingAgainst at hF
  refine s_iconst hG dX10_standingAgainst_0 ⟨by decide, by decide⟩ ?_
  refine s_istore_n hG dX10_standingAgainst_1 (by decide) rfl ?_
  refine s_iconst hG dX10_standingAgainst_2 ⟨by decide, by decide⟩ ?_
  refine s_istore_n hG dX10_standingAgainst_3 (by decide) rfl ?_
  obtain ⟨o4, hlo4, hF⟩ := bd_some hF
  refine t_X10_standingAgainst_lp4 hsk hd h0 hG ?_ hlo4
  refine s_iload_n hG dX10_standingAgainst_29 rfl ?_
  cases hF
  exact s_iret hE dX10_standingAgainst_30 rfl
-- X10_standing
theorem t_X10_standing_b4 {d n0 s0 nF sF : Nat} {X : MX} {N : NN} {r0 : Nat} {Ω : Nat → MS → Prop} {a1 : Int} {a2 : Int} (hsk : m_Sk X) (hd : 3 ≤ d) (h0 : m_isW X r0) (hG : m_G d yX10_standing.cls yX10_standing.name cX10_standing 3 n0 s0 nF sF Ω) {out : ((Int × Int) ⊕ Int)} (hK0 : ∀ s' : (Int × Int), out = .inl s' → Ω 4 ([some (.inr (.inr r0)), some (.inl (s'.1)), some (.inl (s'.2))], [], N, X)) (hK1 : ∀ t : Int, out = .inr t → Ω 24 ([none, some (.inl t), none], [], N, X)) (hF : b_X10_standing_4 X N r0 a1 a2 = some out) : Ω 4 ([some (.inr (.inr r0)), some (.inl a1), some (.inl a2)], [], N, X) := by
  unfold b_X10_standing_4 at hF
  refine s_iload_n hG dX10_standing_4 rfl ?_
  refine s_bipush hG dX10_standing_5 bp_6 ⟨by decide, by decide⟩ ?_
  refine s_icmp_ge hG 24 dX10_standing_7 (by decide) (fun c2 => ?_) (fun c2 => ?_)
  · replace hF := Eq.trans (if_pos c2).symm hF
    refine s_iload_n hG dX10_standing_10 rfl ?_
    refine s_aload_n hG dX10_standing_11 rfl ?_
    refine s_iload_n hG dX10_standing_12 rfl ?_
    obtain ⟨o1, ho1, hF⟩ := bd_some hF
    refine s_callV (d' := d - 1) (ci := 10) (args := [.inl a2]) hG (by omega) dX10_standing_13 cv_RX10_54 cw_X10_standingAgainst rfl rfl h0.1 (Nat.le_of_ble_eq_true rfl) rfl (t_X10_standingAgainst hsk (by omega) h0 ho1) ?_
    refine s_iadd hG dX10_standing_16 ?_
    refine s_istore_n hG dX10_standing_17 (by decide) rfl ?_
    refine s_iinc hG dX10_standing_18 (by decide) rfl rfl ?_
    refine s_goto hG 4 dX10_standing_21 (by decide) ?_
    cases hF
    exact hK0 _ rfl
  · replace hF := Eq.trans (if_neg c2).symm hF
    cases hF
    refine m_weak (ls1 := [none, some (.inl a1), none]) hG ⟨rfl, trivial⟩ ?_
    exact hK1 _ rfl
theorem t_X10_standing_lp4 {d n0 s0 nF sF : Nat} {X : MX} {N : NN} {r0 : Nat} {Ω : Nat → MS → Prop} {a1 : Int} {a2 : Int} (hsk : m_Sk X) (hd : 3 ≤ d) (h0 : m_isW X r0) (hG : m_G d yX10_standing.cls yX10_standing.name cX10_standing 3 n0 s0 nF sF Ω) {t : Int} (hK1 : Ω 24 ([none, some (.inl t), none], [], N, X)) (hl : lp (fun s => b_X10_standing_4 X N r0 s.1 s.2) (a1, a2) = some t) : Ω 4 ([some (.inr (.inr r0)), some (.inl a1), some (.inl a2)], [], N, X) := by
  refine lp_ok (P := fun s => Ω 4 ([some (.inr (.inr r0)), some (.inl s.1), some (.inl s.2)], [], N, X)) (K := fun t => Ω 24 ([none, some (.inl t), none], [], N, X)) (fun s out hF hK0 hK1 => ?_) hl hK1
  exact t_X10_standing_b4 hsk hd h0 hG (out := out) (fun s' e => hK0 s' e) (fun t' e => hK1 t' e) hF
theorem t_X10_standing {d : Nat} {X : MX} {N : NN} {r0 : Nat} {out : Int} (hsk : m_Sk X) (hd : 3 ≤ d) (h0 : m_isW X r0) (hF : f_X10_standing X N r0 = some out) : m_Call d yX10_standing cX10_standing 3 (some .int) [(.inr (.inr r0))] N X (some (.inl out)) N X := by
  refine m_mk (ls0 := [some (.inr (.inr r0)), none, none]) (by decide) rfl (Nat.le_of_ble_eq_true rfl) (Nat.le_refl _) (Nat.le_refl _) (fun Ω hE => ?_)
  have hG := hE.G
  unfold f_X10_standing at hF
  refine s_iconst hG dX10_standing_0 ⟨by decide, by decide⟩ ?_
  refine s_istore_n hG dX10_standing_1 (by decide) rfl ?_
  refine s_iconst hG dX10_standing_2 ⟨by decide, by decide⟩ ?_
  refine s_istore_n hG dX10_standing_3 (by decide) rfl ?_
  obtain ⟨o3, hlo3, hF⟩ := bd_some hF
  refine t_X10_standing_lp4 hsk hd h0 hG ?_ hlo3
  refine s_iload_n hG dX10_standing_24 rfl ?_
  cases hF
  exact s_iret hE dX10_standing_25 rfl
-- X10_tellHolder
theorem t_X10_tellHolder {d : Nat} {X : MX} {r0 : Nat} {N : NN} {a1 : Int} {a2 : Int} {out : NN} (hsk : m_Sk X) (hd : 1 ≤ d) (h0 : m_isW X r0) (hF : f_X10_tellHolder X r0 N a1 a2 = some out) : m_Call d yX10_tellHolder cX10_tellHolder 3 none [(.inr (.inr r0)), (.inl a1), (.inl a2)] N X none out X := by
  refine m_mk (ls0 := [some (.inr (.inr r0)), some (.inl a1), some (.inl a2)]) (by decide) rfl (Nat.le_of_ble_eq_true rfl) (Nat.le_refl _) (Nat.le_refl _) (fun Ω hE => ?_)
  have hG := hE.G
  unfold f_X10_tellHolder at hF
  refine s_aload_n hG dX10_tellHolder_0 rfl ?_
  refine s_getr (r := (r0 + 1)) hG dX10_tellHolder_1 fl_RX10_11 h0.1 rfl h0.2.1 ?_
  refine s_sipush hG dX10_tellHolder_4 sp_197 ⟨by decide, by decide⟩ ?_
  refine s_iload_n hG dX10_tellHolder_7 rfl ?_
  refine s_iadd hG dX10_tellHolder_8 ?_
  refine s_iload_n hG dX10_tellHolder_9 rfl ?_
  obtain ⟨g1, hF⟩ := gd_some hF
  refine s_iastj (j := (m_w (197 + a1)).toNat) hG dX10_tellHolder_10 h0.2.2.2.1 g1 rfl ?_
  cases hF
  exact s_vret hE dX10_tellHolder_11 rfl
-- X10_toldHolder
theorem t_X10_toldHolder {d : Nat} {X : MX} {N : NN} {r0 : Nat} {a1 : Int} {out : Int} (hsk : m_Sk X) (hd : 1 ≤ d) (h0 : m_isW X r0) (hF : f_X10_toldHolder X N r0 a1 = some out) : m_Call d yX10_toldHolder cX10_toldHolder 2 (some .int) [(.inr (.inr r0)), (.inl a1)] N X (some (.inl out)) N X := by
  refine m_mk (ls0 := [some (.inr (.inr r0)), some (.inl a1)]) (by decide) rfl (Nat.le_of_ble_eq_true rfl) (Nat.le_refl _) (Nat.le_refl _) (fun Ω hE => ?_)
  have hG := hE.G
  unfold f_X10_toldHolder at hF
  refine s_aload_n hG dX10_toldHolder_0 rfl ?_
  refine s_getr (r := (r0 + 1)) hG dX10_toldHolder_1 fl_RX10_11 h0.1 rfl h0.2.1 ?_
  refine s_sipush hG dX10_toldHolder_4 sp_197 ⟨by decide, by decide⟩ ?_
  refine s_iload_n hG dX10_toldHolder_7 rfl ?_
  refine s_iadd hG dX10_toldHolder_8 ?_
  obtain ⟨g1, hF⟩ := gd_some hF
  refine s_ialdj (j := (m_w (197 + a1)).toNat) hG dX10_toldHolder_9 h0.2.2.2.1 g1 rfl ?_
  cases hF
  exact s_iret hE dX10_toldHolder_10 rfl
-- X11_accept
theorem t_X11_accept {d : Nat} {X : MX} {N : NN} {a1 : Int} {out : (Int × NN)} (hsk : m_Sk X) (hd : 1 ≤ d) (hF : f_X11_accept X N a1 = some out) : m_Call d yX11_accept cX11_accept 2 (some .int) [(.inr (.inr 3)), (.inl a1)] N X (some (.inl out.1)) out.2 X := by
  refine m_mk (ls0 := [some (.inr (.inr 3)), some (.inl a1)]) (by decide) rfl (Nat.le_of_ble_eq_true rfl) (Nat.le_refl _) (Nat.le_refl _) (fun Ω hE => ?_)
  have hG := hE.G
  unfold f_X11_accept at hF
  refine s_aload_n hG dX11_accept_0 rfl ?_
  refine s_iconst hG dX11_accept_1 ⟨by decide, by decide⟩ ?_
  refine s_puti hG dX11_accept_2 fl_RX11_93 (fun h => by cases h) (sk_k hsk 3 rfl) rfl ?_
  refine s_iload_n hG dX11_accept_5 rfl ?_
  cases hF
  exact s_iret hE dX11_accept_6 rfl
-- X11_asks
theorem t_X11_asks_j22 {d n0 s0 nF sF : Nat} {X : MX} {Ω : Nat → MS → Prop} {N : NN} (hsk : m_Sk X) (hd : 5 ≤ d) (hG : m_G d yX11_asks.cls yX11_asks.name cX11_asks 5 n0 s0 nF sF Ω) {out : (Int × NN)} (hE : m_Gd d yX11_asks cX11_asks 5 (some .int) X (some (.inl out.1)) out.2 X Ω) (hF : f_X11_asks_j22 X N = some out) : Ω 22 ([none, none, none, none, none], [], N, X) := by
  unfold f_X11_asks_j22 at hF
  refine s_iconst hG dX11_asks_22 ⟨by decide, by decide⟩ ?_
  cases hF
  exact s_iret hE dX11_asks_23 rfl
theorem t_X11_asks_j111 {d n0 s0 nF sF : Nat} {X : MX} {Ω : Nat → MS → Prop} {N : NN} {z0 : Int} (hsk : m_Sk X) (hd : 5 ≤ d) (hG : m_G d yX11_asks.cls yX11_asks.name cX11_asks 5 n0 s0 nF sF Ω) {out : (Int × NN)} (hE : m_Gd d yX11_asks cX11_asks 5 (some .int) X (some (.inl out.1)) out.2 X Ω) (hF : f_X11_asks_j111 X N z0 = some out) : Ω 111 ([none, none, none, none, none], [(.inl z0)], N, X) := by
  unfold f_X11_asks_j111 at hF
  cases hF
  exact s_iret hE dX11_asks_111 rfl
theorem t_X11_asks_j131 {d n0 s0 nF sF : Nat} {X : MX} {Ω : Nat → MS → Prop} {N : NN} {z0 : Int} (hsk : m_Sk X) (hd : 5 ≤ d) (hG : m_G d yX11_asks.cls yX11_asks.name cX11_asks 5 n0 s0 nF sF Ω) {out : (Int × NN)} (hE : m_Gd d yX11_asks cX11_asks 5 (some .int) X (some (.inl out.1)) out.2 X Ω) (hF : f_X11_asks_j131 X N z0 = some out) : Ω 131 ([none, none, none, none, none], [(.inl z0)], N, X) := by
  unfold f_X11_asks_j131 at hF
  cases hF
  exact s_iret hE dX11_asks_131 rfl
theorem t_X11_asks {d : Nat} {X : MX} {N : NN} {a1 : Int} {a2 : Int} {a3 : Int} {out : (Int × NN)} (hsk : m_Sk X) (hd : 5 ≤ d) (hF : f_X11_asks X N a1 a2 a3 = some out) : m_Call d yX11_asks cX11_asks 5 (some .int) [(.inr (.inr 3)), (.inl a1), (.inl a2), (.inl a3)] N X (some (.inl out.1)) out.2 X := by
  refine m_mk (ls0 := [some (.inr (.inr 3)), some (.inl a1), some (.inl a2), some (.inl a3), none]) (by decide) rfl (Nat.le_of_ble_eq_true rfl) (Nat.le_refl _) (Nat.le_refl _) (fun Ω hE => ?_)
  have hG := hE.G
  unfold f_X11_asks at hF
  refine s_aload_n hG dX11_asks_0 rfl ?_
  refine s_getr (r := 4) hG dX11_asks_1 fl_RX11_10 (sk_k hsk 3 rfl) rfl (sk_R hsk 3 0 rfl) ?_
  refine s_iload_n hG dX11_asks_4 rfl ?_
  obtain ⟨o1, ho1, hF⟩ := bd_some hF
  refine s_callV (d' := d - 1) (ci := 10) (args := [.inl a1]) hG (by omega) dX11_asks_5 cv_RX11_146 cw_X10_isGood rfl rfl (sk_k hsk 4 rfl) (Nat.le_of_ble_eq_true rfl) rfl (t_X10_isGood hsk (by omega) (sk_W4 hsk) ho1) ?_
  refine s_if_eq hG 22 dX11_asks_8 (by decide) (fun c15 => ?_) (fun c15 => ?_)
  · replace hF := Eq.trans (if_pos c15).symm hF
    refine m_weak (ls1 := [none, none, none, none, none]) hG trivial ?_
    exact t_X11_asks_j22 hsk hd hG hE hF
  · replace hF := Eq.trans (if_neg c15).symm hF
    refine s_aload_n hG dX11_asks_11 rfl ?_
    refine s_getr (r := 4) hG dX11_asks_12 fl_RX11_10 (sk_k hsk 3 rfl) rfl (sk_R hsk 3 0 rfl) ?_
    refine s_iload_n hG dX11_asks_15 rfl ?_
    obtain ⟨o2, ho2, hF⟩ := bd_some hF
    refine s_callV (d' := d - 1) (ci := 10) (args := [.inl a2]) hG (by omega) dX11_asks_16 cv_RX11_121 cw_X10_isLord rfl rfl (sk_k hsk 4 rfl) (Nat.le_of_ble_eq_true rfl) rfl (t_X10_isLord hsk (by omega) (sk_W4 hsk) ho2) ?_
    refine s_if_ne hG 24 dX11_asks_19 (by decide) (fun c14 => ?_) (fun c14 => ?_)
    · replace hF := Eq.trans (if_pos c14).symm hF
      refine m_weak (ls1 := [none, none, none, none, none]) hG trivial ?_
      exact t_X11_asks_j22 hsk hd hG hE hF
    · replace hF := Eq.trans (if_neg c14).symm hF
      refine s_aload_n hG dX11_asks_24 rfl ?_
      refine s_getr (r := 4) hG dX11_asks_25 fl_RX11_10 (sk_k hsk 3 rfl) rfl (sk_R hsk 3 0 rfl) ?_
      refine s_iload_n hG dX11_asks_28 rfl ?_
      refine s_iconst hG dX11_asks_29 ⟨by decide, by decide⟩ ?_
      obtain ⟨o3, ho3, hF⟩ := bd_some hF
      refine s_callV (d' := d - 1) (ci := 10) (args := [.inl a1, .inl 0]) hG (by omega) dX11_asks_30 cv_RX11_149 cw_X10_goodAt rfl rfl (sk_k hsk 4 rfl) (Nat.le_of_ble_eq_true rfl) rfl (t_X10_goodAt hsk (by omega) (sk_W4 hsk) ho3) ?_
      refine s_istore hG dX11_asks_33 (by decide) rfl ?_
      refine s_iload hG dX11_asks_35 rfl ?_
      refine s_iload_n hG dX11_asks_37 rfl ?_
      refine s_icmp_ne hG 43 dX11_asks_38 (by decide) (fun c13 => ?_) (fun c13 => ?_)
      · replace hF := Eq.trans (if_pos c13).symm hF
        refine s_iconst hG dX11_asks_41 ⟨by decide, by decide⟩ ?_
        cases hF
        exact s_iret hE dX11_asks_42 rfl
      · replace hF := Eq.trans (if_neg c13).symm hF
        refine s_iload_n hG dX11_asks_43 rfl ?_
        by_cases c12 : a3 = 0
        · replace hF := Eq.trans (if_pos c12).symm hF
          refine s_tableIn hG (off := 28) 72 dX11_asks_44 (by omega) (by omega) (by rw [c12]; rfl) (by decide) ?_
          refine s_aload_n hG dX11_asks_72 rfl ?_
          refine s_getr (r := 25) hG dX11_asks_73 fl_RX11_39 (sk_k hsk 3 rfl) rfl (sk_R hsk 3 5 rfl) ?_
          refine s_aload_n hG dX11_asks_76 rfl ?_
          refine s_getr (r := 4) hG dX11_asks_77 fl_RX11_10 (sk_k hsk 3 rfl) rfl (sk_R hsk 3 0 rfl) ?_
          refine s_iload_n hG dX11_asks_80 rfl ?_
          refine s_iload hG dX11_asks_81 rfl ?_
          refine s_iload_n hG dX11_asks_83 rfl ?_
          obtain ⟨o4, ho4, hF⟩ := bd_some hF
          refine s_callV (d' := d - 1) (ci := 2) (args := [.inr (.inr 4), .inl a1, .inl o3, .inl a2]) hG (by omega) dX11_asks_84 cv_RX11_216 cw_X2_worth rfl rfl (sk_k hsk 25 rfl) (Nat.le_of_ble_eq_true rfl) rfl (t_X2_worth hsk (by omega) (sk_W4 hsk) ho4) ?_
          cases hF
          exact s_iret hE dX11_asks_87 rfl
        · replace hF := Eq.trans (if_neg c12).symm hF
          by_cases c11 : a3 = 1
          · replace hF := Eq.trans (if_pos c11).symm hF
            refine s_tableIn hG (off := 44) 88 dX11_asks_44 (by omega) (by omega) (by rw [c11]; rfl) (by decide) ?_
            refine s_aload_n hG dX11_asks_88 rfl ?_
            refine s_getr (r := 25) hG dX11_asks_89 fl_RX11_39 (sk_k hsk 3 rfl) rfl (sk_R hsk 3 5 rfl) ?_
            refine s_aload_n hG dX11_asks_92 rfl ?_
            refine s_getr (r := 4) hG dX11_asks_93 fl_RX11_10 (sk_k hsk 3 rfl) rfl (sk_R hsk 3 0 rfl) ?_
            refine s_iload_n hG dX11_asks_96 rfl ?_
            refine s_iload hG dX11_asks_97 rfl ?_
            refine s_iload_n hG dX11_asks_99 rfl ?_
            obtain ⟨o5, ho5, hF⟩ := bd_some hF
            refine s_callV (d' := d - 1) (ci := 2) (args := [.inr (.inr 4), .inl a1, .inl o3, .inl a2]) hG (by omega) dX11_asks_100 cv_RX11_219 cw_X2_bars rfl rfl (sk_k hsk 25 rfl) (Nat.le_of_ble_eq_true rfl) rfl (t_X2_bars hsk (by omega) (sk_W4 hsk) ho5) ?_
            refine s_if_eq hG 110 dX11_asks_103 (by decide) (fun c6 => ?_) (fun c6 => ?_)
            · replace hF := Eq.trans (if_pos c6).symm hF
              refine s_iconst hG dX11_asks_110 ⟨by decide, by decide⟩ ?_
              refine m_weak (ls1 := [none, none, none, none, none]) hG trivial ?_
              exact t_X11_asks_j111 hsk hd hG hE hF
            · replace hF := Eq.trans (if_neg c6).symm hF
              refine s_iconst hG dX11_asks_106 ⟨by decide, by decide⟩ ?_
              refine s_goto hG 111 dX11_asks_107 (by decide) ?_
              refine m_weak (ls1 := [none, none, none, none, none]) hG trivial ?_
              exact t_X11_asks_j111 hsk hd hG hE hF
          · replace hF := Eq.trans (if_neg c11).symm hF
            by_cases c10 : a3 = 2
            · replace hF := Eq.trans (if_pos c10).symm hF
              refine s_tableIn hG (off := 68) 112 dX11_asks_44 (by omega) (by omega) (by rw [c10]; rfl) (by decide) ?_
              refine s_aload_n hG dX11_asks_112 rfl ?_
              refine s_getr (r := 4) hG dX11_asks_113 fl_RX11_10 (sk_k hsk 3 rfl) rfl (sk_R hsk 3 0 rfl) ?_
              refine s_iload_n hG dX11_asks_116 rfl ?_
              refine s_iconst hG dX11_asks_117 ⟨by decide, by decide⟩ ?_
              obtain ⟨o7, ho7, hF⟩ := bd_some hF
              refine s_callV (d' := d - 1) (ci := 10) (args := [.inl a1, .inl 1]) hG (by omega) dX11_asks_118 cv_RX11_149 cw_X10_goodAt rfl rfl (sk_k hsk 4 rfl) (Nat.le_of_ble_eq_true rfl) rfl (t_X10_goodAt hsk (by omega) (sk_W4 hsk) ho7) ?_
              refine s_iload hG dX11_asks_121 rfl ?_
              refine s_icmp_eq hG 130 dX11_asks_123 (by decide) (fun c8 => ?_) (fun c8 => ?_)
              · replace hF := Eq.trans (if_pos c8).symm hF
                refine s_iconst hG dX11_asks_130 ⟨by decide, by decide⟩ ?_
                refine m_weak (ls1 := [none, none, none, none, none]) hG trivial ?_
                exact t_X11_asks_j131 hsk hd hG hE hF
              · replace hF := Eq.trans (if_neg c8).symm hF
                refine s_iconst hG dX11_asks_126 ⟨by decide, by decide⟩ ?_
                refine s_goto hG 131 dX11_asks_127 (by decide) ?_
                refine m_weak (ls1 := [none, none, none, none, none]) hG trivial ?_
                exact t_X11_asks_j131 hsk hd hG hE hF
            · replace hF := Eq.trans (if_neg c10).symm hF
              refine s_tableOut hG 132 dX11_asks_44 (by omega) (by decide) ?_
              refine s_iconst hG dX11_asks_132 ⟨by decide, by decide⟩ ?_
              cases hF
              exact s_iret hE dX11_asks_133 rfl
-- X11_within
theorem t_X11_within_j15 {d n0 s0 nF sF : Nat} {X : MX} {N : NN} {Ω : Nat → MS → Prop} {z0 : Int} (hsk : m_Sk X) (hd : 1 ≤ d) (hG : m_G d yX11_within.cls yX11_within.name cX11_within 3 n0 s0 nF sF Ω) {out : Int} (hE : m_Gd d yX11_within cX11_within 3 (some .boolean) X (some (.inl out)) N X Ω) (hF : f_X11_within_j15 X N z0 = some out) : Ω 15 ([none, none, none], [(.inl z0)], N, X) := by
  unfold f_X11_within_j15 at hF
  obtain ⟨g3, hF⟩ := gd_some hF
  cases hF
  exact s_zret hE dX11_within_15 rfl g3
theorem t_X11_within_j14 {d n0 s0 nF sF : Nat} {X : MX} {N : NN} {Ω : Nat → MS → Prop} (hsk : m_Sk X) (hd : 1 ≤ d) (hG : m_G d yX11_within.cls yX11_within.name cX11_within 3 n0 s0 nF sF Ω) {out : Int} (hE : m_Gd d yX11_within cX11_within 3 (some .boolean) X (some (.inl out)) N X Ω) (hF : f_X11_within_j14 X N = some out) : Ω 14 ([none, none, none], [], N, X) := by
  unfold f_X11_within_j14 at hF
  refine s_iconst hG dX11_within_14 ⟨by decide, by decide⟩ ?_
  exact t_X11_within_j15 hsk hd hG hE hF
theorem t_X11_within {d : Nat} {X : MX} {N : NN} {a0 : Int} {a1 : Int} {a2 : Int} {out : Int} (hsk : m_Sk X) (hd : 1 ≤ d) (hF : f_X11_within X N a0 a1 a2 = some out) : m_Call d yX11_within cX11_within 3 (some .boolean) [(.inl a0), (.inl a1), (.inl a2)] N X (some (.inl out)) N X := by
  refine m_mk (ls0 := [some (.inl a0), some (.inl a1), some (.inl a2)]) (by decide) rfl (Nat.le_of_ble_eq_true rfl) (Nat.le_refl _) (Nat.le_refl _) (fun Ω hE => ?_)
  have hG := hE.G
  unfold f_X11_within at hF
  refine s_iload_n hG dX11_within_0 rfl ?_
  refine s_iload_n hG dX11_within_1 rfl ?_
  refine s_icmp_lt hG 14 dX11_within_2 (by decide) (fun c2 => ?_) (fun c2 => ?_)
  · replace hF := Eq.trans (if_pos c2).symm hF
    refine m_weak (ls1 := [none, none, none]) hG trivial ?_
    exact t_X11_within_j14 hsk hd hG hE hF
  · replace hF := Eq.trans (if_neg c2).symm hF
    refine s_iload_n hG dX11_within_5 rfl ?_
    refine s_iload_n hG dX11_within_6 rfl ?_
    refine s_icmp_gt hG 14 dX11_within_7 (by decide) (fun c1 => ?_) (fun c1 => ?_)
    · replace hF := Eq.trans (if_pos c1).symm hF
      refine m_weak (ls1 := [none, none, none]) hG trivial ?_
      exact t_X11_within_j14 hsk hd hG hE hF
    · replace hF := Eq.trans (if_neg c1).symm hF
      refine s_iconst hG dX11_within_10 ⟨by decide, by decide⟩ ?_
      refine s_goto hG 15 dX11_within_11 (by decide) ?_
      refine m_weak (ls1 := [none, none, none]) hG trivial ?_
      exact t_X11_within_j15 hsk hd hG hE hF
-- X2_costs
theorem t_X2_costs {d : Nat} {X : MX} {r1 : Nat} {N : NN} {a2 : Int} {a3 : Int} {a4 : Int} {out : (Int × NN)} (hsk : m_Sk X) (hd : 4 ≤ d) (h1 : m_isW X r1) (hF : f_X2_costs X r1 N a2 a3 a4 = some out) : m_Call d yX2_costs cX2_costs 5 (some .int) [(.inr (.inr 25)), (.inr (.inr r1)), (.inl a2), (.inl a3), (.inl a4)] N X (some (.inl out.1)) out.2 X := by
  refine m_mk (ls0 := [some (.inr (.inr 25)), some (.inr (.inr r1)), some (.inl a2), some (.inl a3), some (.inl a4)]) (by decide) rfl (Nat.le_of_ble_eq_true rfl) (Nat.le_refl _) (Nat.le_refl _) (fun Ω hE => ?_)
  have hG := hE.G
  unfold f_X2_costs at hF
  refine s_aload_n hG dX2_costs_0 rfl ?_
  refine s_aload_n hG dX2_costs_1 rfl ?_
  refine s_iload_n hG dX2_costs_2 rfl ?_
  refine s_iload hG dX2_costs_3 rfl ?_
  obtain ⟨o1, ho1, hF⟩ := bd_some hF
  refine s_callV (d' := d - 1) (ci := 2) (args := [.inr (.inr r1), .inl a2, .inl a4]) hG (by omega) dX2_costs_5 cv_RX2_29 cw_X2_ask rfl rfl (sk_k hsk 25 rfl) (Nat.le_of_ble_eq_true rfl) rfl (t_X2_ask hsk (by omega) h1 ho1) ?_
  refine s_aload_n hG dX2_costs_8 rfl ?_
  refine s_getr (r := 26) hG dX2_costs_9 fl_RX2_11 (sk_k hsk 25 rfl) rfl (sk_R hsk 25 0 rfl) ?_
  refine s_iconst hG dX2_costs_12 ⟨by decide, by decide⟩ ?_
  refine s_iload_n hG dX2_costs_13 rfl ?_
  refine s_iastj (j := 5) hG dX2_costs_14 (sk_K hsk 26 rfl) ⟨by decide, by decide⟩ rfl ?_
  refine s_aload_n hG dX2_costs_15 rfl ?_
  refine s_aload_n hG dX2_costs_16 rfl ?_
  obtain ⟨o3, ho3, hF⟩ := bd_some hF
  refine s_callV (d' := d - 1) (ci := 10) (args := []) hG (by omega) dX2_costs_17 cv_RX2_33 cw_X10_lawInForce rfl rfl h1.1 (Nat.le_of_ble_eq_true rfl) rfl (t_X10_lawInForce hsk (by omega) h1 ho3) ?_
  refine s_sipush hG dX2_costs_20 sp_257 ⟨by decide, by decide⟩ ?_
  refine s_aload_n hG dX2_costs_23 rfl ?_
  refine s_iload_n hG dX2_costs_24 rfl ?_
  refine s_iconst hG dX2_costs_25 ⟨by decide, by decide⟩ ?_
  obtain ⟨o4, ho4, hF⟩ := bd_some hF
  refine s_callV (d' := d - 1) (ci := 10) (args := [.inl a2, .inl 3]) hG (by omega) dX2_costs_26 cv_RX2_39 cw_X10_goodAt rfl rfl h1.1 (Nat.le_of_ble_eq_true rfl) rfl (t_X10_goodAt hsk (by omega) h1 ho4) ?_
  refine s_bipush hG dX2_costs_29 bp_99 ⟨by decide, by decide⟩ ?_
  obtain ⟨o5, ho5, hF⟩ := bd_some hF
  refine s_callV (d' := d - 1) (ci := 2) (args := [.inr (.inr o3), .inl 257, .inl o4, .inl 99]) hG (by omega) dX2_costs_31 cv_RX2_43 cw_X2_told rfl rfl (sk_k hsk 25 rfl) (Nat.le_of_ble_eq_true rfl) rfl (t_X2_told hsk (by omega) ho5) ?_
  cases hF
  exact s_iret hE dX2_costs_34 rfl
-- X11_at
theorem t_X11_at_j20 {d n0 s0 nF sF : Nat} {X : MX} {Ω : Nat → MS → Prop} {N : NN} (hsk : m_Sk X) (hd : 5 ≤ d) (hG : m_G d yX11_at.cls yX11_at.name cX11_at 3 n0 s0 nF sF Ω) {out : (Int × NN)} (hE : m_Gd d yX11_at cX11_at 3 (some .int) X (some (.inl out.1)) out.2 X Ω) (hF : f_X11_at_j20 X N = some out) : Ω 20 ([none, none, none], [], N, X) := by
  unfold f_X11_at_j20 at hF
  refine s_iconst hG dX11_at_20 ⟨by decide, by decide⟩ ?_
  cases hF
  exact s_iret hE dX11_at_21 rfl
theorem t_X11_at {d : Nat} {X : MX} {N : NN} {a1 : Int} {a2 : Int} {out : (Int × NN)} (hsk : m_Sk X) (hd : 5 ≤ d) (hF : f_X11_at X N a1 a2 = some out) : m_Call d yX11_at cX11_at 3 (some .int) [(.inr (.inr 3)), (.inl a1), (.inl a2)] N X (some (.inl out.1)) out.2 X := by
  refine m_mk (ls0 := [some (.inr (.inr 3)), some (.inl a1), some (.inl a2)]) (by decide) rfl (Nat.le_of_ble_eq_true rfl) (Nat.le_refl _) (Nat.le_refl _) (fun Ω hE => ?_)
  have hG := hE.G
  unfold f_X11_at at hF
  refine s_aload_n hG dX11_at_0 rfl ?_
  refine s_getr (r := 4) hG dX11_at_1 fl_RX11_10 (sk_k hsk 3 rfl) rfl (sk_R hsk 3 0 rfl) ?_
  refine s_iload_n hG dX11_at_4 rfl ?_
  obtain ⟨o1, ho1, hF⟩ := bd_some hF
  refine s_callV (d' := d - 1) (ci := 10) (args := [.inl a1]) hG (by omega) dX11_at_5 cv_RX11_146 cw_X10_isGood rfl rfl (sk_k hsk 4 rfl) (Nat.le_of_ble_eq_true rfl) rfl (t_X10_isGood hsk (by omega) (sk_W4 hsk) ho1) ?_
  refine s_if_eq hG 20 dX11_at_8 (by decide) (fun c9 => ?_) (fun c9 => ?_)
  · replace hF := Eq.trans (if_pos c9).symm hF
    refine m_weak (ls1 := [none, none, none]) hG trivial ?_
    exact t_X11_at_j20 hsk hd hG hE hF
  · replace hF := Eq.trans (if_neg c9).symm hF
    refine s_iload_n hG dX11_at_11 rfl ?_
    refine s_iconst hG dX11_at_12 ⟨by decide, by decide⟩ ?_
    refine s_iconst hG dX11_at_13 ⟨by decide, by decide⟩ ?_
    obtain ⟨o2, ho2, hF⟩ := bd_some hF
    refine s_callS (d' := d - 1) (args := [.inl a2, .inl 0, .inl 5]) hG (by omega) dX11_at_14 cs_RX11_100 cw_X11_within rfl (Nat.le_of_ble_eq_true rfl) rfl (t_X11_within hsk (by omega) ho2) ?_
    refine s_if_ne hG 22 dX11_at_17 (by decide) (fun c8 => ?_) (fun c8 => ?_)
    · replace hF := Eq.trans (if_pos c8).symm hF
      refine m_weak (ls1 := [none, none, none]) hG trivial ?_
      exact t_X11_at_j20 hsk hd hG hE hF
    · replace hF := Eq.trans (if_neg c8).symm hF
      refine s_iload_n hG dX11_at_22 rfl ?_
      refine s_iconst hG dX11_at_23 ⟨by decide, by decide⟩ ?_
      refine s_icmp_ne hG 57 dX11_at_24 (by decide) (fun c7 => ?_) (fun c7 => ?_)
      · replace hF := Eq.trans (if_pos c7).symm hF
        refine s_aload_n hG dX11_at_27 rfl ?_
        refine s_getr (r := 25) hG dX11_at_28 fl_RX11_39 (sk_k hsk 3 rfl) rfl (sk_R hsk 3 5 rfl) ?_
        refine s_aload_n hG dX11_at_31 rfl ?_
        refine s_getr (r := 4) hG dX11_at_32 fl_RX11_10 (sk_k hsk 3 rfl) rfl (sk_R hsk 3 0 rfl) ?_
        refine s_iload_n hG dX11_at_35 rfl ?_
        refine s_aload_n hG dX11_at_36 rfl ?_
        refine s_getr (r := 4) hG dX11_at_37 fl_RX11_10 (sk_k hsk 3 rfl) rfl (sk_R hsk 3 0 rfl) ?_
        refine s_iload_n hG dX11_at_40 rfl ?_
        refine s_iconst hG dX11_at_41 ⟨by decide, by decide⟩ ?_
        obtain ⟨o3, ho3, hF⟩ := bd_some hF
        refine s_callV (d' := d - 1) (ci := 10) (args := [.inl a1, .inl 0]) hG (by omega) dX11_at_42 cv_RX11_149 cw_X10_goodAt rfl rfl (sk_k hsk 4 rfl) (Nat.le_of_ble_eq_true rfl) rfl (t_X10_goodAt hsk (by omega) (sk_W4 hsk) ho3) ?_
        refine s_aload_n hG dX11_at_45 rfl ?_
        refine s_getr (r := 4) hG dX11_at_46 fl_RX11_10 (sk_k hsk 3 rfl) rfl (sk_R hsk 3 0 rfl) ?_
        refine s_iconst hG dX11_at_49 ⟨by decide, by decide⟩ ?_
        obtain ⟨o4, ho4, hF⟩ := bd_some hF
        refine s_callV (d' := d - 1) (ci := 10) (args := [.inl 0]) hG (by omega) dX11_at_50 cv_RX11_125 cw_X10_term rfl rfl (sk_k hsk 4 rfl) (Nat.le_of_ble_eq_true rfl) rfl (t_X10_term hsk (by omega) (sk_W4 hsk) ho4) ?_
        obtain ⟨o5, ho5, hF⟩ := bd_some hF
        refine s_callV (d' := d - 1) (ci := 2) (args := [.inr (.inr 4), .inl a1, .inl o3, .inl o4]) hG (by omega) dX11_at_53 cv_RX11_152 cw_X2_costs rfl rfl (sk_k hsk 25 rfl) (Nat.le_of_ble_eq_true rfl) rfl (t_X2_costs hsk (by omega) (sk_W4 hsk) ho5) ?_
        cases hF
        exact s_iret hE dX11_at_56 rfl
      · replace hF := Eq.trans (if_neg c7).symm hF
        refine s_aload_n hG dX11_at_57 rfl ?_
        refine s_getr (r := 4) hG dX11_at_58 fl_RX11_10 (sk_k hsk 3 rfl) rfl (sk_R hsk 3 0 rfl) ?_
        refine s_iload_n hG dX11_at_61 rfl ?_
        refine s_iload_n hG dX11_at_62 rfl ?_
        obtain ⟨o6, ho6, hF⟩ := bd_some hF
        refine s_callV (d' := d - 1) (ci := 10) (args := [.inl a1, .inl a2]) hG (by omega) dX11_at_63 cv_RX11_149 cw_X10_goodAt rfl rfl (sk_k hsk 4 rfl) (Nat.le_of_ble_eq_true rfl) rfl (t_X10_goodAt hsk (by omega) (sk_W4 hsk) ho6) ?_
        cases hF
        exact s_iret hE dX11_at_66 rfl
-- X11_refuse
theorem t_X11_refuse_j30 {d n0 s0 nF sF : Nat} {X : MX} {Ω : Nat → MS → Prop} {N : NN} {a1 : Int} (hsk : m_Sk X) (hd : 1 ≤ d) (hG : m_G d yX11_refuse.cls yX11_refuse.name cX11_refuse 2 n0 s0 nF sF Ω) {out : (Int × NN)} (hE : m_Gd d yX11_refuse cX11_refuse 2 (some .int) X (some (.inl out.1)) out.2 X Ω) (hF : f_X11_refuse_j30 X N a1 = some out) : Ω 30 ([none, some (.inl a1)], [], N, X) := by
  unfold f_X11_refuse_j30 at hF
  refine s_iload_n hG dX11_refuse_30 rfl ?_
  cases hF
  exact s_iret hE dX11_refuse_31 rfl
theorem t_X11_refuse {d : Nat} {X : MX} {N : NN} {a1 : Int} {out : (Int × NN)} (hsk : m_Sk X) (hd : 1 ≤ d) (hF : f_X11_refuse X N a1 = some out) : m_Call d yX11_refuse cX11_refuse 2 (some .int) [(.inr (.inr 3)), (.inl a1)] N X (some (.inl out.1)) out.2 X := by
  refine m_mk (ls0 := [some (.inr (.inr 3)), some (.inl a1)]) (by decide) rfl (Nat.le_of_ble_eq_true rfl) (Nat.le_refl _) (Nat.le_refl _) (fun Ω hE => ?_)
  have hG := hE.G
  unfold f_X11_refuse at hF
  refine s_aload_n hG dX11_refuse_0 rfl ?_
  refine s_iload_n hG dX11_refuse_1 rfl ?_
  refine s_puti hG dX11_refuse_2 fl_RX11_93 (fun h => by cases h) (sk_k hsk 3 rfl) rfl ?_
  refine s_iload_n hG dX11_refuse_5 rfl ?_
  refine s_if_ge hG 30 dX11_refuse_6 (by decide) (fun c6 => ?_) (fun c6 => ?_)
  · replace hF := Eq.trans (if_pos c6).symm hF
    refine s_iload_n hG dX11_refuse_9 rfl ?_
    refine s_aload_n hG dX11_refuse_10 rfl ?_
    refine s_getr (r := 63) hG dX11_refuse_11 fl_RX11_89 (sk_k hsk 3 rfl) rfl (sk_R hsk 3 12 rfl) ?_
    refine s_alen1j (v := 7) hG dX11_refuse_14 (sk_K hsk 63 rfl) (by decide) rfl ?_
    refine s_ineg hG dX11_refuse_15 ?_
    refine s_icmp_le hG 30 dX11_refuse_16 (by decide) (fun c5 => ?_) (fun c5 => ?_)
    · replace hF := Eq.trans (if_pos c5).symm hF
      refine s_aload_n hG dX11_refuse_19 rfl ?_
      refine s_getr (r := 63) hG dX11_refuse_20 fl_RX11_89 (sk_k hsk 3 rfl) rfl (sk_R hsk 3 12 rfl) ?_
      refine s_iload_n hG dX11_refuse_23 rfl ?_
      refine s_ineg hG dX11_refuse_24 ?_
      refine s_dup2 hG dX11_refuse_25 rfl rfl ?_
      obtain ⟨g2, hF⟩ := gd_some hF
      refine s_ialdj (j := (m_w (-a1)).toNat) hG dX11_refuse_26 (sk_K hsk 63 rfl) g2 rfl ?_
      refine s_iconst hG dX11_refuse_27 ⟨by decide, by decide⟩ ?_
      refine s_iadd hG dX11_refuse_28 ?_
      obtain ⟨g3, hF⟩ := gd_some hF
      refine s_iastj (j := (m_w (-a1)).toNat) hG dX11_refuse_29 (sk_K hsk 63 rfl) g3 rfl ?_
      refine m_weak (ls1 := [none, some (.inl a1)]) hG ⟨rfl, trivial⟩ ?_
      exact t_X11_refuse_j30 hsk hd hG hE hF
    · replace hF := Eq.trans (if_neg c5).symm hF
      refine m_weak (ls1 := [none, some (.inl a1)]) hG ⟨rfl, trivial⟩ ?_
      exact t_X11_refuse_j30 hsk hd hG hE hF
  · replace hF := Eq.trans (if_neg c6).symm hF
    refine m_weak (ls1 := [none, some (.inl a1)]) hG ⟨rfl, trivial⟩ ?_
    exact t_X11_refuse_j30 hsk hd hG hE hF
-- X4_keep
theorem t_X4_keep {d : Nat} {X : MX} {r0 : Nat} {r1 : Nat} {N : NN} {a2 : Int} {out : NN} (hsk : m_Sk X) (hd : 2 ≤ d) (h0 : m_isP X r0) (h1 : m_isW X r1) (hF : f_X4_keep X r0 r1 N a2 = some out) : m_Call d yX4_keep cX4_keep 3 none [(.inr (.inr r0)), (.inr (.inr r1)), (.inl a2)] N X none out X := by
  refine m_mk (ls0 := [some (.inr (.inr r0)), some (.inr (.inr r1)), some (.inl a2)]) (by decide) rfl (Nat.le_of_ble_eq_true rfl) (Nat.le_refl _) (Nat.le_refl _) (fun Ω hE => ?_)
  have hG := hE.G
  unfold f_X4_keep at hF
  refine s_aload_n hG dX4_keep_0 rfl ?_
  refine s_aload_n hG dX4_keep_1 rfl ?_
  refine s_getr (r := (r0 + 1)) hG dX4_keep_2 fl_RX4_13 h0.1 rfl h0.2.1 ?_
  refine s_aload_n hG dX4_keep_5 rfl ?_
  refine s_geti hG dX4_keep_6 fl_RX4_20 h0.1 rfl ?_
  refine s_sipush hG dX4_keep_9 sp_191 ⟨by decide, by decide⟩ ?_
  refine s_imul hG dX4_keep_12 ?_
  obtain ⟨o1, ho1, hF⟩ := bd_some hF
  refine s_callV (d' := d - 1) (ci := 10) (args := [.inr (.inr (r0 + 1)), .inl (m_w ((N r0 2) * 191))]) hG (by omega) dX4_keep_13 cv_RX4_33 cw_X10_saveTo rfl rfl h1.1 (Nat.le_of_ble_eq_true rfl) rfl (t_X10_saveTo hsk (by omega) h1 (m_k1f h0.2.2.2.1) ho1) ?_
  refine s_aload_n hG dX4_keep_16 rfl ?_
  refine s_getr (r := (r0 + 2)) hG dX4_keep_17 fl_RX4_17 h0.1 rfl h0.2.2.1 ?_
  refine s_aload_n hG dX4_keep_20 rfl ?_
  refine s_geti hG dX4_keep_21 fl_RX4_20 h0.1 rfl ?_
  refine s_iload_n hG dX4_keep_24 rfl ?_
  obtain ⟨g2, hF⟩ := gd_some hF
  refine s_iastj (j := (o1 r0 2).toNat) hG dX4_keep_25 h0.2.2.2.2 g2 rfl ?_
  refine s_aload_n hG dX4_keep_26 rfl ?_
  refine s_aload_n hG dX4_keep_27 rfl ?_
  refine s_geti hG dX4_keep_28 fl_RX4_20 h0.1 rfl ?_
  refine s_iconst hG dX4_keep_31 ⟨by decide, by decide⟩ ?_
  refine s_iadd hG dX4_keep_32 ?_
  refine s_bipush hG dX4_keep_33 bp_16 ⟨by decide, by decide⟩ ?_
  refine s_irem hG dX4_keep_35 (by decide) ?_
  refine s_puti hG dX4_keep_36 fl_RX4_20 (fun h => by cases h) h0.1 rfl ?_
  refine s_aload_n hG dX4_keep_39 rfl ?_
  refine s_aload_n hG dX4_keep_40 rfl ?_
  refine s_geti hG dX4_keep_41 fl_RX4_24 h0.1 rfl ?_
  refine s_iconst hG dX4_keep_44 ⟨by decide, by decide⟩ ?_
  refine s_iadd hG dX4_keep_45 ?_
  refine s_bipush hG dX4_keep_46 bp_16 ⟨by decide, by decide⟩ ?_
  refine s_min hG (by omega) dX4_keep_48 ml_RX4_37 lk_min_s lk_math lk_min_c (Nat.le_of_ble_eq_true rfl) ?_
  refine s_puti hG dX4_keep_51 fl_RX4_24 (fun h => by cases h) h0.1 rfl ?_
  cases hF
  exact s_vret hE dX4_keep_54 rfl
-- X11_await
theorem t_X11_await {d : Nat} {X : MX} {N : NN} {out : (Int × NN)} (hsk : m_Sk X) (hd : 6 ≤ d) (hF : f_X11_await X N = some out) : m_Call d yX11_await cX11_await 1 (some .int) [(.inr (.inr 3))] N X (some (.inl out.1)) out.2 X := by
  refine m_mk (ls0 := [some (.inr (.inr 3))]) (by decide) rfl (Nat.le_of_ble_eq_true rfl) (Nat.le_refl _) (Nat.le_refl _) (fun Ω hE => ?_)
  have hG := hE.G
  unfold f_X11_await at hF
  refine s_aload_n hG dX11_await_0 rfl ?_
  refine s_getr (r := 4) hG dX11_await_1 fl_RX11_10 (sk_k hsk 3 rfl) rfl (sk_R hsk 3 0 rfl) ?_
  refine s_iconst hG dX11_await_4 ⟨by decide, by decide⟩ ?_
  obtain ⟨o1, ho1, hF⟩ := bd_some hF
  refine s_callV (d' := d - 1) (ci := 10) (args := [.inl 0]) hG (by omega) dX11_await_5 cv_RX11_125 cw_X10_term rfl rfl (sk_k hsk 4 rfl) (Nat.le_of_ble_eq_true rfl) rfl (t_X10_term hsk (by omega) (sk_W4 hsk) ho1) ?_
  refine s_sipush hG dX11_await_8 sp_999 ⟨by decide, by decide⟩ ?_
  refine s_icmp_lt hG 21 dX11_await_11 (by decide) (fun c6 => ?_) (fun c6 => ?_)
  · replace hF := Eq.trans (if_pos c6).symm hF
    refine s_aload_n hG dX11_await_21 rfl ?_
    refine s_getr (r := 13) hG dX11_await_22 fl_RX11_25 (sk_k hsk 3 rfl) rfl (sk_R hsk 3 3 rfl) ?_
    refine s_aload_n hG dX11_await_25 rfl ?_
    refine s_getr (r := 4) hG dX11_await_26 fl_RX11_10 (sk_k hsk 3 rfl) rfl (sk_R hsk 3 0 rfl) ?_
    refine s_iconst hG dX11_await_29 ⟨by decide, by decide⟩ ?_
    obtain ⟨o2, ho2, hF⟩ := bd_some hF
    refine s_callV (d' := d - 1) (ci := 4) (args := [.inr (.inr 4), .inl 1]) hG (by omega) dX11_await_30 cv_RX11_227 cw_X4_keep rfl rfl (sk_k hsk 13 rfl) (Nat.le_of_ble_eq_true rfl) rfl (t_X4_keep hsk (by omega) (sk_P13 hsk) (sk_W4 hsk) ho2) ?_
    refine s_aload_n hG dX11_await_33 rfl ?_
    refine s_aload_n hG dX11_await_34 rfl ?_
    refine s_getr (r := 29) hG dX11_await_35 fl_RX11_48 (sk_k hsk 3 rfl) rfl (sk_R hsk 3 6 rfl) ?_
    refine s_aload_n hG dX11_await_38 rfl ?_
    refine s_getr (r := 4) hG dX11_await_39 fl_RX11_10 (sk_k hsk 3 rfl) rfl (sk_R hsk 3 0 rfl) ?_
    refine s_iconst hG dX11_await_42 ⟨by decide, by decide⟩ ?_
    obtain ⟨o3, ho3, hF⟩ := bd_some hF
    refine s_callV (d' := d - 1) (ci := 0) (args := [.inr (.inr 4), .inl 0]) hG (by omega) dX11_await_43 cv_RX11_234 cw_X0_passYear rfl rfl (sk_k hsk 29 rfl) (Nat.le_of_ble_eq_true rfl) rfl (t_X0_passYear hsk (by omega) (sk_W4 hsk) ho3) ?_
    obtain ⟨o4, ho4, hF⟩ := bd_some hF
    refine s_callV (d' := d - 1) (ci := 11) (args := [.inl o3.1]) hG (by omega) dX11_await_46 cv_RX11_118 cw_X11_accept rfl rfl (sk_k hsk 3 rfl) (Nat.le_of_ble_eq_true rfl) rfl (t_X11_accept hsk (by omega) ho4) ?_
    cases hF
    exact s_iret hE dX11_await_49 rfl
  · replace hF := Eq.trans (if_neg c6).symm hF
    refine s_aload_n hG dX11_await_14 rfl ?_
    refine s_bipush hG dX11_await_15 bp_m3 ⟨by decide, by decide⟩ ?_
    obtain ⟨o5, ho5, hF⟩ := bd_some hF
    refine s_callV (d' := d - 1) (ci := 11) (args := [.inl (-3)]) hG (by omega) dX11_await_17 cv_RX11_104 cw_X11_refuse rfl rfl (sk_k hsk 3 rfl) (Nat.le_of_ble_eq_true rfl) rfl (t_X11_refuse hsk (by omega) ho5) ?_
    cases hF
    exact s_iret hE dX11_await_20 rfl
-- X4_clear
theorem t_X4_clear {d : Nat} {X : MX} {r0 : Nat} {N : NN} {out : NN} (hsk : m_Sk X) (hd : 1 ≤ d) (h0 : m_isP X r0) (hF : f_X4_clear X r0 N = some out) : m_Call d yX4_clear cX4_clear 1 none [(.inr (.inr r0))] N X none out X := by
  refine m_mk (ls0 := [some (.inr (.inr r0))]) (by decide) rfl (Nat.le_of_ble_eq_true rfl) (Nat.le_refl _) (Nat.le_refl _) (fun Ω hE => ?_)
  have hG := hE.G
  unfold f_X4_clear at hF
  refine s_aload_n hG dX4_clear_0 rfl ?_
  refine s_iconst hG dX4_clear_1 ⟨by decide, by decide⟩ ?_
  refine s_puti hG dX4_clear_2 fl_RX4_24 (fun h => by cases h) h0.1 rfl ?_
  cases hF
  exact s_vret hE dX4_clear_5 rfl
-- X11_back
theorem t_X11_back_j30 {d n0 s0 nF sF : Nat} {X : MX} {Ω : Nat → MS → Prop} {N : NN} {q0 : Nat} (hsk : m_Sk X) (hd : 2 ≤ d) (hG : m_G d yX11_back.cls yX11_back.name cX11_back 3 n0 s0 nF sF Ω) {out : (Int × NN)} (hE : m_Gd d yX11_back cX11_back 3 (some .int) X (some (.inl out.1)) out.2 X Ω) (hq0 : m_isW X q0) (hF : f_X11_back_j30 X N q0 = some out) : Ω 30 ([some (.inr (.inr 3)), none, none], [(.inr (.inr q0))], N, X) := by
  unfold f_X11_back_j30 at hF
  refine s_astore_n hG dX11_back_30 (by decide) rfl ?_
  refine s_aload_n hG dX11_back_31 rfl ?_
  obtain ⟨o5, ho5, hF⟩ := bd_some hF
  refine s_callV (d' := d - 1) (ci := 10) (args := []) hG (by omega) dX11_back_32 cv_RX11_309 cw_X10_isKept rfl rfl hq0.1 (Nat.le_of_ble_eq_true rfl) rfl (t_X10_isKept hsk (by omega) hq0 ho5) ?_
  refine s_if_ne hG 45 dX11_back_35 (by decide) (fun c10 => ?_) (fun c10 => ?_)
  · replace hF := Eq.trans (if_pos c10).symm hF
    refine s_aload_n hG dX11_back_38 rfl ?_
    refine s_bipush hG dX11_back_39 bp_m2 ⟨by decide, by decide⟩ ?_
    obtain ⟨o6, ho6, hF⟩ := bd_some hF
    refine s_callV (d' := d - 1) (ci := 11) (args := [.inl (-2)]) hG (by omega) dX11_back_41 cv_RX11_104 cw_X11_refuse rfl rfl (sk_k hsk 3 rfl) (Nat.le_of_ble_eq_true rfl) rfl (t_X11_refuse hsk (by omega) ho6) ?_
    cases hF
    exact s_iret hE dX11_back_44 rfl
  · replace hF := Eq.trans (if_neg c10).symm hF
    refine s_aload_n hG dX11_back_45 rfl ?_
    refine s_getr (r := 4) hG dX11_back_46 fl_RX11_10 (sk_k hsk 3 rfl) rfl (sk_R hsk 3 0 rfl) ?_
    refine s_aload_n hG dX11_back_49 rfl ?_
    obtain ⟨o7, ho7, hF⟩ := bd_some hF
    refine s_callV (d' := d - 1) (ci := 10) (args := [.inr (.inr q0)]) hG (by omega) dX11_back_50 cv_RX11_302 cw_X10_copyFrom rfl rfl (sk_k hsk 4 rfl) (Nat.le_of_ble_eq_true rfl) rfl (t_X10_copyFrom hsk (by omega) (sk_W4 hsk) hq0 ho7) ?_
    refine s_aload_n hG dX11_back_53 rfl ?_
    refine s_getr (r := 13) hG dX11_back_54 fl_RX11_25 (sk_k hsk 3 rfl) rfl (sk_R hsk 3 3 rfl) ?_
    obtain ⟨o8, ho8, hF⟩ := bd_some hF
    refine s_callV (d' := d - 1) (ci := 4) (args := []) hG (by omega) dX11_back_57 cv_RX11_111 cw_X4_clear rfl rfl (sk_k hsk 13 rfl) (Nat.le_of_ble_eq_true rfl) rfl (t_X4_clear hsk (by omega) (sk_P13 hsk) ho8) ?_
    refine s_aload_n hG dX11_back_60 rfl ?_
    refine s_iconst hG dX11_back_61 ⟨by decide, by decide⟩ ?_
    obtain ⟨o9, ho9, hF⟩ := bd_some hF
    refine s_callV (d' := d - 1) (ci := 11) (args := [.inl 0]) hG (by omega) dX11_back_62 cv_RX11_118 cw_X11_accept rfl rfl (sk_k hsk 3 rfl) (Nat.le_of_ble_eq_true rfl) rfl (t_X11_accept hsk (by omega) ho9) ?_
    cases hF
    exact s_iret hE dX11_back_65 rfl
theorem t_X11_back {d : Nat} {X : MX} {N : NN} {a1 : Int} {out : (Int × NN)} (hsk : m_Sk X) (hd : 2 ≤ d) (hF : f_X11_back X N a1 = some out) : m_Call d yX11_back cX11_back 3 (some .int) [(.inr (.inr 3)), (.inl a1)] N X (some (.inl out.1)) out.2 X := by
  refine m_mk (ls0 := [some (.inr (.inr 3)), some (.inl a1), none]) (by decide) rfl (Nat.le_of_ble_eq_true rfl) (Nat.le_refl _) (Nat.le_refl _) (fun Ω hE => ?_)
  have hG := hE.G
  unfold f_X11_back at hF
  refine s_iload_n hG dX11_back_0 rfl ?_
  refine s_iconst hG dX11_back_1 ⟨by decide, by decide⟩ ?_
  refine s_iconst hG dX11_back_2 ⟨by decide, by decide⟩ ?_
  obtain ⟨o1, ho1, hF⟩ := bd_some hF
  refine s_callS (d' := d - 1) (args := [.inl a1, .inl 0, .inl 1]) hG (by omega) dX11_back_3 cs_RX11_100 cw_X11_within rfl (Nat.le_of_ble_eq_true rfl) rfl (t_X11_within hsk (by omega) ho1) ?_
  refine s_if_ne hG 15 dX11_back_6 (by decide) (fun c4 => ?_) (fun c4 => ?_)
  · replace hF := Eq.trans (if_pos c4).symm hF
    refine s_aload_n hG dX11_back_9 rfl ?_
    refine s_iconst hG dX11_back_10 ⟨by decide, by decide⟩ ?_
    obtain ⟨o2, ho2, hF⟩ := bd_some hF
    refine s_callV (d' := d - 1) (ci := 11) (args := [.inl (-1)]) hG (by omega) dX11_back_11 cv_RX11_104 cw_X11_refuse rfl rfl (sk_k hsk 3 rfl) (Nat.le_of_ble_eq_true rfl) rfl (t_X11_refuse hsk (by omega) ho2) ?_
    cases hF
    exact s_iret hE dX11_back_14 rfl
  · replace hF := Eq.trans (if_neg c4).symm hF
    refine s_iload_n hG dX11_back_15 rfl ?_
    refine s_if_ne hG 26 dX11_back_16 (by decide) (fun c3 => ?_) (fun c3 => ?_)
    · replace hF := Eq.trans (if_pos c3).symm hF
      refine s_aload_n hG dX11_back_19 rfl ?_
      refine s_getr (r := 7) hG dX11_back_20 fl_RX11_16 (sk_k hsk 3 rfl) rfl (sk_R hsk 3 1 rfl) ?_
      refine s_goto hG 30 dX11_back_23 (by decide) ?_
      refine m_weak (ls1 := [some (.inr (.inr 3)), none, none]) hG ⟨rfl, trivial⟩ ?_
      exact t_X11_back_j30 hsk hd hG hE (sk_W7 hsk) hF
    · replace hF := Eq.trans (if_neg c3).symm hF
      refine s_aload_n hG dX11_back_26 rfl ?_
      refine s_getr (r := 10) hG dX11_back_27 fl_RX11_19 (sk_k hsk 3 rfl) rfl (sk_R hsk 3 2 rfl) ?_
      refine m_weak (ls1 := [some (.inr (.inr 3)), none, none]) hG ⟨rfl, trivial⟩ ?_
      exact t_X11_back_j30 hsk hd hG hE (sk_W10 hsk) hF
-- X6_beating
theorem t_X6_beating_l6_j46 {d n0 s0 nF sF : Nat} {X : MX} {r1 : Nat} {Ω : Nat → MS → Prop} {N : NN} {a2 : Int} {a3 : Int} {a4 : Int} {a5 : Int} {a6 : Int} (hsk : m_Sk X) (hd : 5 ≤ d) (h1 : m_isW X r1) (hG : m_G d yX6_beating.cls yX6_beating.name cX6_beating 8 n0 s0 nF sF Ω) {out : ((NN × Int × Int × Int × Int × Int) ⊕ (NN × Int × Int × Int × Int))} (hK0 : ∀ s' : (NN × Int × Int × Int × Int × Int), out = .inl s' → Ω 6 ([some (.inr (.inr 58)), some (.inr (.inr r1)), some (.inl (s'.2.1)), some (.inl (s'.2.2.1)), some (.inl (s'.2.2.2.1)), some (.inl (s'.2.2.2.2.1)), some (.inl (s'.2.2.2.2.2)), none], [], s'.1, X)) (hK1 : ∀ t : (NN × Int × Int × Int × Int), out = .inr t → Ω 52 ([some (.inr (.inr 58)), some (.inr (.inr r1)), some (.inl t.2.1), some (.inl t.2.2.1), some (.inl t.2.2.2.1), some (.inl t.2.2.2.2), none, none], [], t.1, X)) (hF : f_X6_beating_l6_j46 X r1 N a2 a3 a4 a5 a6 = some out) : Ω 46 ([some (.inr (.inr 58)), some (.inr (.inr r1)), some (.inl a2), some (.inl a3), some (.inl a4), some (.inl a5), some (.inl a6), none], [], N, X) := by
  unfold f_X6_beating_l6_j46 at hF
  refine s_iinc hG dX6_beating_46 (by decide) rfl rfl ?_
  refine s_goto hG 6 dX6_beating_49 (by decide) ?_
  cases hF
  exact hK0 _ rfl
theorem t_X6_beating_b6 {d n0 s0 nF sF : Nat} {X : MX} {r1 : Nat} {Ω : Nat → MS → Prop} {N : NN} {a2 : Int} {a3 : Int} {a4 : Int} {a5 : Int} {a6 : Int} (hsk : m_Sk X) (hd : 5 ≤ d) (h1 : m_isW X r1) (hG : m_G d yX6_beating.cls yX6_beating.name cX6_beating 8 n0 s0 nF sF Ω) {out : ((NN × Int × Int × Int × Int × Int) ⊕ (NN × Int × Int × Int × Int))} (hK0 : ∀ s' : (NN × Int × Int × Int × Int × Int), out = .inl s' → Ω 6 ([some (.inr (.inr 58)), some (.inr (.inr r1)), some (.inl (s'.2.1)), some (.inl (s'.2.2.1)), some (.inl (s'.2.2.2.1)), some (.inl (s'.2.2.2.2.1)), some (.inl (s'.2.2.2.2.2)), none], [], s'.1, X)) (hK1 : ∀ t : (NN × Int × Int × Int × Int), out = .inr t → Ω 52 ([some (.inr (.inr 58)), some (.inr (.inr r1)), some (.inl t.2.1), some (.inl t.2.2.1), some (.inl t.2.2.2.1), some (.inl t.2.2.2.2), none, none], [], t.1, X)) (hF : b_X6_beating_6 X r1 N a2 a3 a4 a5 a6 = some out) : Ω 6 ([some (.inr (.inr 58)), some (.inr (.inr r1)), some (.inl a2), some (.inl a3), some (.inl a4), some (.inl a5), some (.inl a6), none], [], N, X) := by
  unfold b_X6_beating_6 at hF
  refine s_iload hG dX6_beating_6 rfl ?_
  refine s_aload_n hG dX6_beating_8 rfl ?_
  refine s_iconst hG dX6_beating_9 ⟨by decide, by decide⟩ ?_
  obtain ⟨o1, ho1, hF⟩ := bd_some hF
  refine s_callV (d' := d - 1) (ci := 10) (args := [.inl 1]) hG (by omega) dX6_beating_10 cv_RX6_44 cw_X10_many rfl rfl h1.1 (Nat.le_of_ble_eq_true rfl) rfl (t_X10_many hsk (by omega) h1 ho1) ?_
  refine s_icmp_ge hG 52 dX6_beating_13 (by decide) (fun c5 => ?_) (fun c5 => ?_)
  · replace hF := Eq.trans (if_pos c5).symm hF
    refine s_aload_n hG dX6_beating_16 rfl ?_
    refine s_iload hG dX6_beating_17 rfl ?_
    refine s_iconst hG dX6_beating_19 ⟨by decide, by decide⟩ ?_
    obtain ⟨o2, ho2, hF⟩ := bd_some hF
    refine s_callV (d' := d - 1) (ci := 10) (args := [.inl a6, .inl 0]) hG (by omega) dX6_beating_20 cv_RX6_54 cw_X10_goodAt rfl rfl h1.1 (Nat.le_of_ble_eq_true rfl) rfl (t_X10_goodAt hsk (by omega) h1 ho2) ?_
    refine s_iload_n hG dX6_beating_23 rfl ?_
    refine s_icmp_ne hG 46 dX6_beating_24 (by decide) (fun c4 => ?_) (fun c4 => ?_)
    · replace hF := Eq.trans (if_pos c4).symm hF
      refine s_iload hG dX6_beating_27 rfl ?_
      refine s_aload_n hG dX6_beating_29 rfl ?_
      refine s_getr (r := 25) hG dX6_beating_30 fl_RX6_38 (sk_k hsk 58 rfl) rfl (sk_R hsk 58 0 rfl) ?_
      refine s_aload_n hG dX6_beating_33 rfl ?_
      refine s_iload hG dX6_beating_34 rfl ?_
      refine s_iload_n hG dX6_beating_36 rfl ?_
      refine s_iload_n hG dX6_beating_37 rfl ?_
      obtain ⟨o3, ho3, hF⟩ := bd_some hF
      refine s_callV (d' := d - 1) (ci := 2) (args := [.inr (.inr r1), .inl a6, .inl a3, .inl a2]) hG (by omega) dX6_beating_38 cv_RX6_89 cw_X2_worth rfl rfl (sk_k hsk 25 rfl) (Nat.le_of_ble_eq_true rfl) rfl (t_X2_worth hsk (by omega) h1 ho3) ?_
      refine s_max hG (by omega) dX6_beating_41 ml_RX6_93 lk_max_s lk_math lk_max_c (Nat.le_of_ble_eq_true rfl) ?_
      refine s_istore hG dX6_beating_44 (by decide) rfl ?_
      exact t_X6_beating_l6_j46 hsk hd h1 hG hK0 hK1 hF
    · replace hF := Eq.trans (if_neg c4).symm hF
      exact t_X6_beating_l6_j46 hsk hd h1 hG hK0 hK1 hF
  · replace hF := Eq.trans (if_neg c5).symm hF
    cases hF
    refine m_weak (ls1 := [some (.inr (.inr 58)), some (.inr (.inr r1)), some (.inl a2), some (.inl a3), some (.inl a4), some (.inl a5), none, none]) hG ⟨rfl, ⟨rfl, ⟨rfl, ⟨rfl, ⟨rfl, ⟨rfl, trivial⟩⟩⟩⟩⟩⟩ ?_
    exact hK1 _ rfl
theorem t_X6_beating_lp6 {d n0 s0 nF sF : Nat} {X : MX} {r1 : Nat} {Ω : Nat → MS → Prop} {N : NN} {a2 : Int} {a3 : Int} {a4 : Int} {a5 : Int} {a6 : Int} (hsk : m_Sk X) (hd : 5 ≤ d) (h1 : m_isW X r1) (hG : m_G d yX6_beating.cls yX6_beating.name cX6_beating 8 n0 s0 nF sF Ω) {t : (NN × Int × Int × Int × Int)} (hK1 : Ω 52 ([some (.inr (.inr 58)), some (.inr (.inr r1)), some (.inl t.2.1), some (.inl t.2.2.1), some (.inl t.2.2.2.1), some (.inl t.2.2.2.2), none, none], [], t.1, X)) (hl : lp (fun s => b_X6_beating_6 X r1 s.1 s.2.1 s.2.2.1 s.2.2.2.1 s.2.2.2.2.1 s.2.2.2.2.2) (N, a2, a3, a4, a5, a6) = some t) : Ω 6 ([some (.inr (.inr 58)), some (.inr (.inr r1)), some (.inl a2), some (.inl a3), some (.inl a4), some (.inl a5), some (.inl a6), none], [], N, X) := by
  refine lp_ok (P := fun s => Ω 6 ([some (.inr (.inr 58)), some (.inr (.inr r1)), some (.inl s.2.1), some (.inl s.2.2.1), some (.inl s.2.2.2.1), some (.inl s.2.2.2.2.1), some (.inl s.2.2.2.2.2), none], [], s.1, X)) (K := fun t => Ω 52 ([some (.inr (.inr 58)), some (.inr (.inr r1)), some (.inl t.2.1), some (.inl t.2.2.1), some (.inl t.2.2.2.1), some (.inl t.2.2.2.2), none, none], [], t.1, X)) (fun s out hF hK0 hK1 => ?_) hl hK1
  exact t_X6_beating_b6 hsk hd h1 hG (out := out) (fun s' e => hK0 s' e) (fun t' e => hK1 t' e) hF
theorem t_X6_beating_l58_j109 {d n0 s0 nF sF : Nat} {X : MX} {r1 : Nat} {Ω : Nat → MS → Prop} {N : NN} {a2 : Int} {a3 : Int} {a4 : Int} {a5 : Int} {a6 : Int} {a7 : Int} (hsk : m_Sk X) (hd : 5 ≤ d) (h1 : m_isW X r1) (hG : m_G d yX6_beating.cls yX6_beating.name cX6_beating 8 n0 s0 nF sF Ω) {out : ((NN × Int × Int × Int × Int × Int × Int) ⊕ ((NN × Int × Int) ⊕ (NN × Int)))} (hK0 : ∀ s' : (NN × Int × Int × Int × Int × Int × Int), out = .inl s' → Ω 58 ([some (.inr (.inr 58)), some (.inr (.inr r1)), some (.inl (s'.2.1)), some (.inl (s'.2.2.1)), some (.inl (s'.2.2.2.1)), some (.inl (s'.2.2.2.2.1)), some (.inl (s'.2.2.2.2.2.1)), some (.inl (s'.2.2.2.2.2.2))], [], s'.1, X)) (hK1 : ∀ t : ((NN × Int × Int) ⊕ (NN × Int)), out = .inr t → match t with | .inl e => Ω 115 ([none, none, none, none, some (.inl e.2.1), none, some (.inl e.2.2), none], [], e.1, X) | .inr e => Ω 103 ([none, none, none, none, none, none, none, some (.inl e.2)], [], e.1, X)) (hF : f_X6_beating_l58_j109 X r1 N a2 a3 a4 a5 a6 a7 = some out) : Ω 109 ([some (.inr (.inr 58)), some (.inr (.inr r1)), some (.inl a2), some (.inl a3), some (.inl a4), some (.inl a5), some (.inl a6), some (.inl a7)], [], N, X) := by
  unfold f_X6_beating_l58_j109 at hF
  refine s_iinc hG dX6_beating_109 (by decide) rfl rfl ?_
  refine s_goto hG 58 dX6_beating_112 (by decide) ?_
  cases hF
  exact hK0 _ rfl
theorem t_X6_beating_b58 {d n0 s0 nF sF : Nat} {X : MX} {r1 : Nat} {Ω : Nat → MS → Prop} {N : NN} {a2 : Int} {a3 : Int} {a4 : Int} {a5 : Int} {a6 : Int} {a7 : Int} (hsk : m_Sk X) (hd : 5 ≤ d) (h1 : m_isW X r1) (hG : m_G d yX6_beating.cls yX6_beating.name cX6_beating 8 n0 s0 nF sF Ω) {out : ((NN × Int × Int × Int × Int × Int × Int) ⊕ ((NN × Int × Int) ⊕ (NN × Int)))} (hK0 : ∀ s' : (NN × Int × Int × Int × Int × Int × Int), out = .inl s' → Ω 58 ([some (.inr (.inr 58)), some (.inr (.inr r1)), some (.inl (s'.2.1)), some (.inl (s'.2.2.1)), some (.inl (s'.2.2.2.1)), some (.inl (s'.2.2.2.2.1)), some (.inl (s'.2.2.2.2.2.1)), some (.inl (s'.2.2.2.2.2.2))], [], s'.1, X)) (hK1 : ∀ t : ((NN × Int × Int) ⊕ (NN × Int)), out = .inr t → match t with | .inl e => Ω 115 ([none, none, none, none, some (.inl e.2.1), none, some (.inl e.2.2), none], [], e.1, X) | .inr e => Ω 103 ([none, none, none, none, none, none, none, some (.inl e.2)], [], e.1, X)) (hF : b_X6_beating_58 X r1 N a2 a3 a4 a5 a6 a7 = some out) : Ω 58 ([some (.inr (.inr 58)), some (.inr (.inr r1)), some (.inl a2), some (.inl a3), some (.inl a4), some (.inl a5), some (.inl a6), some (.inl a7)], [], N, X) := by
  unfold b_X6_beating_58 at hF
  refine s_iload hG dX6_beating_58 rfl ?_
  refine s_aload_n hG dX6_beating_60 rfl ?_
  refine s_iconst hG dX6_beating_61 ⟨by decide, by decide⟩ ?_
  obtain ⟨o7, ho7, hF⟩ := bd_some hF
  refine s_callV (d' := d - 1) (ci := 10) (args := [.inl 1]) hG (by omega) dX6_beating_62 cv_RX6_44 cw_X10_many rfl rfl h1.1 (Nat.le_of_ble_eq_true rfl) rfl (t_X10_many hsk (by omega) h1 ho7) ?_
  refine s_icmp_ge hG 115 dX6_beating_65 (by decide) (fun c13 => ?_) (fun c13 => ?_)
  · replace hF := Eq.trans (if_pos c13).symm hF
    refine s_aload_n hG dX6_beating_68 rfl ?_
    refine s_iload hG dX6_beating_69 rfl ?_
    refine s_iconst hG dX6_beating_71 ⟨by decide, by decide⟩ ?_
    obtain ⟨o8, ho8, hF⟩ := bd_some hF
    refine s_callV (d' := d - 1) (ci := 10) (args := [.inl a7, .inl 0]) hG (by omega) dX6_beating_72 cv_RX6_54 cw_X10_goodAt rfl rfl h1.1 (Nat.le_of_ble_eq_true rfl) rfl (t_X10_goodAt hsk (by omega) h1 ho8) ?_
    refine s_iload_n hG dX6_beating_75 rfl ?_
    refine s_icmp_ne hG 109 dX6_beating_76 (by decide) (fun c12 => ?_) (fun c12 => ?_)
    · replace hF := Eq.trans (if_pos c12).symm hF
      refine s_aload_n hG dX6_beating_79 rfl ?_
      refine s_getr (r := 25) hG dX6_beating_80 fl_RX6_38 (sk_k hsk 58 rfl) rfl (sk_R hsk 58 0 rfl) ?_
      refine s_aload_n hG dX6_beating_83 rfl ?_
      refine s_iload hG dX6_beating_84 rfl ?_
      refine s_iload_n hG dX6_beating_86 rfl ?_
      refine s_iload_n hG dX6_beating_87 rfl ?_
      obtain ⟨o9, ho9, hF⟩ := bd_some hF
      refine s_callV (d' := d - 1) (ci := 2) (args := [.inr (.inr r1), .inl a7, .inl a2, .inl a3]) hG (by omega) dX6_beating_88 cv_RX6_89 cw_X2_worth rfl rfl (sk_k hsk 25 rfl) (Nat.le_of_ble_eq_true rfl) rfl (t_X2_worth hsk (by omega) h1 ho9) ?_
      refine s_iload hG dX6_beating_91 rfl ?_
      refine s_icmp_le hG 109 dX6_beating_93 (by decide) (fun c11 => ?_) (fun c11 => ?_)
      · replace hF := Eq.trans (if_pos c11).symm hF
        refine s_iload hG dX6_beating_96 rfl ?_
        refine s_iload hG dX6_beating_98 rfl ?_
        refine s_icmp_ne hG 106 dX6_beating_100 (by decide) (fun c10 => ?_) (fun c10 => ?_)
        · replace hF := Eq.trans (if_pos c10).symm hF
          cases hF
          refine m_weak (ls1 := [none, none, none, none, none, none, none, some (.inl a7)]) hG ⟨rfl, trivial⟩ ?_
          exact hK1 _ rfl
        · replace hF := Eq.trans (if_neg c10).symm hF
          refine s_iinc hG dX6_beating_106 (by decide) rfl rfl ?_
          exact t_X6_beating_l58_j109 hsk hd h1 hG hK0 hK1 hF
      · replace hF := Eq.trans (if_neg c11).symm hF
        exact t_X6_beating_l58_j109 hsk hd h1 hG hK0 hK1 hF
    · replace hF := Eq.trans (if_neg c12).symm hF
      exact t_X6_beating_l58_j109 hsk hd h1 hG hK0 hK1 hF
  · replace hF := Eq.trans (if_neg c13).symm hF
    cases hF
    refine m_weak (ls1 := [none, none, none, none, some (.inl a4), none, some (.inl a6), none]) hG ⟨rfl, ⟨rfl, trivial⟩⟩ ?_
    exact hK1 _ rfl
theorem t_X6_beating_lp58 {d n0 s0 nF sF : Nat} {X : MX} {r1 : Nat} {Ω : Nat → MS → Prop} {N : NN} {a2 : Int} {a3 : Int} {a4 : Int} {a5 : Int} {a6 : Int} {a7 : Int} (hsk : m_Sk X) (hd : 5 ≤ d) (h1 : m_isW X r1) (hG : m_G d yX6_beating.cls yX6_beating.name cX6_beating 8 n0 s0 nF sF Ω) {t : ((NN × Int × Int) ⊕ (NN × Int))} (hK1 : match t with | .inl e => Ω 115 ([none, none, none, none, some (.inl e.2.1), none, some (.inl e.2.2), none], [], e.1, X) | .inr e => Ω 103 ([none, none, none, none, none, none, none, some (.inl e.2)], [], e.1, X)) (hl : lp (fun s => b_X6_beating_58 X r1 s.1 s.2.1 s.2.2.1 s.2.2.2.1 s.2.2.2.2.1 s.2.2.2.2.2.1 s.2.2.2.2.2.2) (N, a2, a3, a4, a5, a6, a7) = some t) : Ω 58 ([some (.inr (.inr 58)), some (.inr (.inr r1)), some (.inl a2), some (.inl a3), some (.inl a4), some (.inl a5), some (.inl a6), some (.inl a7)], [], N, X) := by
  refine lp_ok (P := fun s => Ω 58 ([some (.inr (.inr 58)), some (.inr (.inr r1)), some (.inl s.2.1), some (.inl s.2.2.1), some (.inl s.2.2.2.1), some (.inl s.2.2.2.2.1), some (.inl s.2.2.2.2.2.1), some (.inl s.2.2.2.2.2.2)], [], s.1, X)) (K := fun t => match t with | .inl e => Ω 115 ([none, none, none, none, some (.inl e.2.1), none, some (.inl e.2.2), none], [], e.1, X) | .inr e => Ω 103 ([none, none, none, none, none, none, none, some (.inl e.2)], [], e.1, X)) (fun s out hF hK0 hK1 => ?_) hl hK1
  exact t_X6_beating_b58 hsk hd h1 hG (out := out) (fun s' e => hK0 s' e) (fun t' e => hK1 t' e) hF
theorem t_X6_beating_j127 {d n0 s0 nF sF : Nat} {X : MX} {r1 : Nat} {Ω : Nat → MS → Prop} {N : NN} {z0 : Int} (hsk : m_Sk X) (hd : 5 ≤ d) (h1 : m_isW X r1) (hG : m_G d yX6_beating.cls yX6_beating.name cX6_beating 8 n0 s0 nF sF Ω) {out : (Int × NN)} (hE : m_Gd d yX6_beating cX6_beating 8 (some .int) X (some (.inl out.1)) out.2 X Ω) (hF : f_X6_beating_j127 X r1 N z0 = some out) : Ω 127 ([none, none, none, none, none, none, none, none], [(.inl z0)], N, X) := by
  unfold f_X6_beating_j127 at hF
  cases hF
  exact s_iret hE dX6_beating_127 rfl
theorem t_X6_beating {d : Nat} {X : MX} {r1 : Nat} {N : NN} {a2 : Int} {a3 : Int} {a4 : Int} {out : (Int × NN)} (hsk : m_Sk X) (hd : 5 ≤ d) (h1 : m_isW X r1) (hF : f_X6_beating X r1 N a2 a3 a4 = some out) : m_Call d yX6_beating cX6_beating 8 (some .int) [(.inr (.inr 58)), (.inr (.inr r1)), (.inl a2), (.inl a3), (.inl a4)] N X (some (.inl out.1)) out.2 X := by
  refine m_mk (ls0 := [some (.inr (.inr 58)), some (.inr (.inr r1)), some (.inl a2), some (.inl a3), some (.inl a4), none, none, none]) (by decide) rfl (Nat.le_of_ble_eq_true rfl) (Nat.le_refl _) (Nat.le_refl _) (fun Ω hE => ?_)
  have hG := hE.G
  unfold f_X6_beating at hF
  refine s_iconst hG dX6_beating_0 ⟨by decide, by decide⟩ ?_
  refine s_istore hG dX6_beating_1 (by decide) rfl ?_
  refine s_iconst hG dX6_beating_3 ⟨by decide, by decide⟩ ?_
  refine s_istore hG dX6_beating_4 (by decide) rfl ?_
  obtain ⟨o6, hlo6, hF⟩ := bd_some hF
  refine t_X6_beating_lp6 hsk hd h1 hG ?_ hlo6
  refine s_iconst hG dX6_beating_52 ⟨by decide, by decide⟩ ?_
  refine s_istore hG dX6_beating_53 (by decide) rfl ?_
  refine s_iconst hG dX6_beating_55 ⟨by decide, by decide⟩ ?_
  refine s_istore hG dX6_beating_56 (by decide) rfl ?_
  obtain ⟨o14, hlo14, hF⟩ := bd_some hF
  refine t_X6_beating_lp58 hsk hd h1 hG ?_ hlo14
  match o14, hF with
  | .inl e14, hF =>
        try dsimp only at hF
        refine s_iload hG dX6_beating_115 rfl ?_
        refine s_iconst hG dX6_beating_117 ⟨by decide, by decide⟩ ?_
        refine s_icmp_ne hG 126 dX6_beating_118 (by decide) (fun c15 => ?_) (fun c15 => ?_)
        · replace hF := Eq.trans (if_pos c15).symm hF
          refine s_iload hG dX6_beating_121 rfl ?_
          refine s_goto hG 127 dX6_beating_123 (by decide) ?_
          refine m_weak (ls1 := [none, none, none, none, none, none, none, none]) hG trivial ?_
          exact t_X6_beating_j127 hsk hd h1 hG hE hF
        · replace hF := Eq.trans (if_neg c15).symm hF
          refine s_iconst hG dX6_beating_126 ⟨by decide, by decide⟩ ?_
          refine m_weak (ls1 := [none, none, none, none, none, none, none, none]) hG trivial ?_
          exact t_X6_beating_j127 hsk hd h1 hG hE hF
  | .inr e14, hF =>
        try dsimp only at hF
        refine s_iload hG dX6_beating_103 rfl ?_
        cases hF
        exact s_iret hE dX6_beating_105 rfl
-- X11_beats
theorem t_X11_beats_j32 {d n0 s0 nF sF : Nat} {X : MX} {Ω : Nat → MS → Prop} {N : NN} (hsk : m_Sk X) (hd : 6 ≤ d) (hG : m_G d yX11_beats.cls yX11_beats.name cX11_beats 4 n0 s0 nF sF Ω) {out : (Int × NN)} (hE : m_Gd d yX11_beats cX11_beats 4 (some .int) X (some (.inl out.1)) out.2 X Ω) (hF : f_X11_beats_j32 X N = some out) : Ω 32 ([none, none, none, none], [], N, X) := by
  unfold f_X11_beats_j32 at hF
  refine s_iconst hG dX11_beats_32 ⟨by decide, by decide⟩ ?_
  cases hF
  exact s_iret hE dX11_beats_33 rfl
theorem t_X11_beats {d : Nat} {X : MX} {N : NN} {a1 : Int} {a2 : Int} {a3 : Int} {out : (Int × NN)} (hsk : m_Sk X) (hd : 6 ≤ d) (hF : f_X11_beats X N a1 a2 a3 = some out) : m_Call d yX11_beats cX11_beats 4 (some .int) [(.inr (.inr 3)), (.inl a1), (.inl a2), (.inl a3)] N X (some (.inl out.1)) out.2 X := by
  refine m_mk (ls0 := [some (.inr (.inr 3)), some (.inl a1), some (.inl a2), some (.inl a3)]) (by decide) rfl (Nat.le_of_ble_eq_true rfl) (Nat.le_refl _) (Nat.le_refl _) (fun Ω hE => ?_)
  have hG := hE.G
  unfold f_X11_beats at hF
  refine s_aload_n hG dX11_beats_0 rfl ?_
  refine s_getr (r := 4) hG dX11_beats_1 fl_RX11_10 (sk_k hsk 3 rfl) rfl (sk_R hsk 3 0 rfl) ?_
  refine s_iload_n hG dX11_beats_4 rfl ?_
  obtain ⟨o1, ho1, hF⟩ := bd_some hF
  refine s_callV (d' := d - 1) (ci := 10) (args := [.inl a1]) hG (by omega) dX11_beats_5 cv_RX11_121 cw_X10_isLord rfl rfl (sk_k hsk 4 rfl) (Nat.le_of_ble_eq_true rfl) rfl (t_X10_isLord hsk (by omega) (sk_W4 hsk) ho1) ?_
  refine s_if_eq hG 32 dX11_beats_8 (by decide) (fun c7 => ?_) (fun c7 => ?_)
  · replace hF := Eq.trans (if_pos c7).symm hF
    refine m_weak (ls1 := [none, none, none, none]) hG trivial ?_
    exact t_X11_beats_j32 hsk hd hG hE hF
  · replace hF := Eq.trans (if_neg c7).symm hF
    refine s_aload_n hG dX11_beats_11 rfl ?_
    refine s_getr (r := 4) hG dX11_beats_12 fl_RX11_10 (sk_k hsk 3 rfl) rfl (sk_R hsk 3 0 rfl) ?_
    refine s_iload_n hG dX11_beats_15 rfl ?_
    obtain ⟨o2, ho2, hF⟩ := bd_some hF
    refine s_callV (d' := d - 1) (ci := 10) (args := [.inl a2]) hG (by omega) dX11_beats_16 cv_RX11_121 cw_X10_isLord rfl rfl (sk_k hsk 4 rfl) (Nat.le_of_ble_eq_true rfl) rfl (t_X10_isLord hsk (by omega) (sk_W4 hsk) ho2) ?_
    refine s_if_eq hG 32 dX11_beats_19 (by decide) (fun c6 => ?_) (fun c6 => ?_)
    · replace hF := Eq.trans (if_pos c6).symm hF
      refine m_weak (ls1 := [none, none, none, none]) hG trivial ?_
      exact t_X11_beats_j32 hsk hd hG hE hF
    · replace hF := Eq.trans (if_neg c6).symm hF
      refine s_iload_n hG dX11_beats_22 rfl ?_
      refine s_iload_n hG dX11_beats_23 rfl ?_
      refine s_icmp_eq hG 32 dX11_beats_24 (by decide) (fun c5 => ?_) (fun c5 => ?_)
      · replace hF := Eq.trans (if_pos c5).symm hF
        refine m_weak (ls1 := [none, none, none, none]) hG trivial ?_
        exact t_X11_beats_j32 hsk hd hG hE hF
      · replace hF := Eq.trans (if_neg c5).symm hF
        refine s_iload_n hG dX11_beats_27 rfl ?_
        refine s_iconst hG dX11_beats_28 ⟨by decide, by decide⟩ ?_
        refine s_icmp_ge hG 34 dX11_beats_29 (by decide) (fun c4 => ?_) (fun c4 => ?_)
        · replace hF := Eq.trans (if_pos c4).symm hF
          refine m_weak (ls1 := [none, none, none, none]) hG trivial ?_
          exact t_X11_beats_j32 hsk hd hG hE hF
        · replace hF := Eq.trans (if_neg c4).symm hF
          refine s_aload_n hG dX11_beats_34 rfl ?_
          refine s_getr (r := 58) hG dX11_beats_35 fl_RX11_85 (sk_k hsk 3 rfl) rfl (sk_R hsk 3 11 rfl) ?_
          refine s_aload_n hG dX11_beats_38 rfl ?_
          refine s_getr (r := 4) hG dX11_beats_39 fl_RX11_10 (sk_k hsk 3 rfl) rfl (sk_R hsk 3 0 rfl) ?_
          refine s_iload_n hG dX11_beats_42 rfl ?_
          refine s_iload_n hG dX11_beats_43 rfl ?_
          refine s_iload_n hG dX11_beats_44 rfl ?_
          obtain ⟨o3, ho3, hF⟩ := bd_some hF
          refine s_callV (d' := d - 1) (ci := 6) (args := [.inr (.inr 4), .inl a1, .inl a2, .inl a3]) hG (by omega) dX11_beats_45 cv_RX11_291 cw_X6_beating rfl rfl (sk_k hsk 58 rfl) (Nat.le_of_ble_eq_true rfl) rfl (t_X6_beating hsk (by omega) (sk_W4 hsk) ho3) ?_
          cases hF
          exact s_iret hE dX11_beats_48 rfl
-- X2_voice
theorem t_X2_voice {d : Nat} {X : MX} {r1 : Nat} {N : NN} {a2 : Int} {a3 : Int} {out : (Int × NN)} (hsk : m_Sk X) (hd : 4 ≤ d) (h1 : m_isW X r1) (hF : f_X2_voice X r1 N a2 a3 = some out) : m_Call d yX2_voice cX2_voice 4 (some .int) [(.inr (.inr 25)), (.inr (.inr r1)), (.inl a2), (.inl a3)] N X (some (.inl out.1)) out.2 X := by
  refine m_mk (ls0 := [some (.inr (.inr 25)), some (.inr (.inr r1)), some (.inl a2), some (.inl a3)]) (by decide) rfl (Nat.le_of_ble_eq_true rfl) (Nat.le_refl _) (Nat.le_refl _) (fun Ω hE => ?_)
  have hG := hE.G
  unfold f_X2_voice at hF
  refine s_aload_n hG dX2_voice_0 rfl ?_
  refine s_aload_n hG dX2_voice_1 rfl ?_
  refine s_iload_n hG dX2_voice_2 rfl ?_
  refine s_aload_n hG dX2_voice_3 rfl ?_
  refine s_iconst hG dX2_voice_4 ⟨by decide, by decide⟩ ?_
  obtain ⟨o1, ho1, hF⟩ := bd_some hF
  refine s_callV (d' := d - 1) (ci := 10) (args := [.inl 0]) hG (by omega) dX2_voice_5 cv_RX2_25 cw_X10_term rfl rfl h1.1 (Nat.le_of_ble_eq_true rfl) rfl (t_X10_term hsk (by omega) h1 ho1) ?_
  obtain ⟨o2, ho2, hF⟩ := bd_some hF
  refine s_callV (d' := d - 1) (ci := 2) (args := [.inr (.inr r1), .inl a3, .inl o1]) hG (by omega) dX2_voice_8 cv_RX2_29 cw_X2_ask rfl rfl (sk_k hsk 25 rfl) (Nat.le_of_ble_eq_true rfl) rfl (t_X2_ask hsk (by omega) h1 ho2) ?_
  refine s_aload_n hG dX2_voice_11 rfl ?_
  refine s_getr (r := 26) hG dX2_voice_12 fl_RX2_11 (sk_k hsk 25 rfl) rfl (sk_R hsk 25 0 rfl) ?_
  refine s_bipush hG dX2_voice_15 bp_7 ⟨by decide, by decide⟩ ?_
  refine s_iload_n hG dX2_voice_17 rfl ?_
  refine s_iastj (j := 7) hG dX2_voice_18 (sk_K hsk 26 rfl) ⟨by decide, by decide⟩ rfl ?_
  refine s_aload_n hG dX2_voice_19 rfl ?_
  refine s_aload_n hG dX2_voice_20 rfl ?_
  obtain ⟨o4, ho4, hF⟩ := bd_some hF
  refine s_callV (d' := d - 1) (ci := 10) (args := []) hG (by omega) dX2_voice_21 cv_RX2_33 cw_X10_lawInForce rfl rfl h1.1 (Nat.le_of_ble_eq_true rfl) rfl (t_X10_lawInForce hsk (by omega) h1 ho4) ?_
  refine s_sipush hG dX2_voice_24 sp_256 ⟨by decide, by decide⟩ ?_
  refine s_aload_n hG dX2_voice_27 rfl ?_
  refine s_iload_n hG dX2_voice_28 rfl ?_
  refine s_iconst hG dX2_voice_29 ⟨by decide, by decide⟩ ?_
  obtain ⟨o5, ho5, hF⟩ := bd_some hF
  refine s_callV (d' := d - 1) (ci := 10) (args := [.inl a3, .inl 2]) hG (by omega) dX2_voice_30 cv_RX2_39 cw_X10_goodAt rfl rfl h1.1 (Nat.le_of_ble_eq_true rfl) rfl (t_X10_goodAt hsk (by omega) h1 ho5) ?_
  refine s_sipush hG dX2_voice_33 sp_999 ⟨by decide, by decide⟩ ?_
  obtain ⟨o6, ho6, hF⟩ := bd_some hF
  refine s_callV (d' := d - 1) (ci := 2) (args := [.inr (.inr o4), .inl 256, .inl o5, .inl 999]) hG (by omega) dX2_voice_36 cv_RX2_43 cw_X2_told rfl rfl (sk_k hsk 25 rfl) (Nat.le_of_ble_eq_true rfl) rfl (t_X2_told hsk (by omega) ho6) ?_
  cases hF
  exact s_iret hE dX2_voice_39 rfl
-- X2_hear
theorem t_X2_hear_b13 {d n0 s0 nF sF : Nat} {X : MX} {r1 : Nat} {Ω : Nat → MS → Prop} {N : NN} {a2 : Int} {a3 : Int} {a4 : Int} (hsk : m_Sk X) (hd : 5 ≤ d) (h1 : m_isW X r1) (hG : m_G d yX2_hear.cls yX2_hear.name cX2_hear 5 n0 s0 nF sF Ω) {out : ((NN × Int × Int × Int) ⊕ (NN × Int))} (hK0 : ∀ s' : (NN × Int × Int × Int), out = .inl s' → Ω 13 ([some (.inr (.inr 25)), some (.inr (.inr r1)), some (.inl (s'.2.1)), some (.inl (s'.2.2.1)), some (.inl (s'.2.2.2))], [], s'.1, X)) (hK1 : ∀ t : (NN × Int), out = .inr t → Ω 40 ([none, none, none, some (.inl t.2), none], [], t.1, X)) (hF : b_X2_hear_13 X r1 N a2 a3 a4 = some out) : Ω 13 ([some (.inr (.inr 25)), some (.inr (.inr r1)), some (.inl a2), some (.inl a3), some (.inl a4)], [], N, X) := by
  unfold b_X2_hear_13 at hF
  refine s_iload hG dX2_hear_13 rfl ?_
  refine s_iload_n hG dX2_hear_15 rfl ?_
  refine s_icmp_ge hG 40 dX2_hear_16 (by decide) (fun c5 => ?_) (fun c5 => ?_)
  · replace hF := Eq.trans (if_pos c5).symm hF
    refine s_aload_n hG dX2_hear_19 rfl ?_
    refine s_getr (r := 28) hG dX2_hear_20 fl_RX2_20 (sk_k hsk 25 rfl) rfl (sk_R hsk 25 2 rfl) ?_
    refine s_iload hG dX2_hear_23 rfl ?_
    refine s_aload_n hG dX2_hear_25 rfl ?_
    refine s_aload_n hG dX2_hear_26 rfl ?_
    refine s_iload hG dX2_hear_27 rfl ?_
    refine s_iload_n hG dX2_hear_29 rfl ?_
    obtain ⟨o2, ho2, hF⟩ := bd_some hF
    refine s_callV (d' := d - 1) (ci := 2) (args := [.inr (.inr r1), .inl a4, .inl a2]) hG (by omega) dX2_hear_30 cv_RX2_74 cw_X2_voice rfl rfl (sk_k hsk 25 rfl) (Nat.le_of_ble_eq_true rfl) rfl (t_X2_voice hsk (by omega) h1 ho2) ?_
    obtain ⟨g3, hF⟩ := gd_some hF
    refine s_iastj (j := a4.toNat) hG dX2_hear_33 (sk_K hsk 28 rfl) g3 rfl ?_
    refine s_iinc hG dX2_hear_34 (by decide) rfl rfl ?_
    refine s_goto hG 13 dX2_hear_37 (by decide) ?_
    cases hF
    exact hK0 _ rfl
  · replace hF := Eq.trans (if_neg c5).symm hF
    cases hF
    refine m_weak (ls1 := [none, none, none, some (.inl a3), none]) hG ⟨rfl, trivial⟩ ?_
    exact hK1 _ rfl
theorem t_X2_hear_lp13 {d n0 s0 nF sF : Nat} {X : MX} {r1 : Nat} {Ω : Nat → MS → Prop} {N : NN} {a2 : Int} {a3 : Int} {a4 : Int} (hsk : m_Sk X) (hd : 5 ≤ d) (h1 : m_isW X r1) (hG : m_G d yX2_hear.cls yX2_hear.name cX2_hear 5 n0 s0 nF sF Ω) {t : (NN × Int)} (hK1 : Ω 40 ([none, none, none, some (.inl t.2), none], [], t.1, X)) (hl : lp (fun s => b_X2_hear_13 X r1 s.1 s.2.1 s.2.2.1 s.2.2.2) (N, a2, a3, a4) = some t) : Ω 13 ([some (.inr (.inr 25)), some (.inr (.inr r1)), some (.inl a2), some (.inl a3), some (.inl a4)], [], N, X) := by
  refine lp_ok (P := fun s => Ω 13 ([some (.inr (.inr 25)), some (.inr (.inr r1)), some (.inl s.2.1), some (.inl s.2.2.1), some (.inl s.2.2.2)], [], s.1, X)) (K := fun t => Ω 40 ([none, none, none, some (.inl t.2), none], [], t.1, X)) (fun s out hF hK0 hK1 => ?_) hl hK1
  exact t_X2_hear_b13 hsk hd h1 hG (out := out) (fun s' e => hK0 s' e) (fun t' e => hK1 t' e) hF
theorem t_X2_hear {d : Nat} {X : MX} {r1 : Nat} {N : NN} {a2 : Int} {out : (Int × NN)} (hsk : m_Sk X) (hd : 5 ≤ d) (h1 : m_isW X r1) (hF : f_X2_hear X r1 N a2 = some out) : m_Call d yX2_hear cX2_hear 5 (some .int) [(.inr (.inr 25)), (.inr (.inr r1)), (.inl a2)] N X (some (.inl out.1)) out.2 X := by
  refine m_mk (ls0 := [some (.inr (.inr 25)), some (.inr (.inr r1)), some (.inl a2), none, none]) (by decide) rfl (Nat.le_of_ble_eq_true rfl) (Nat.le_refl _) (Nat.le_refl _) (fun Ω hE => ?_)
  have hG := hE.G
  unfold f_X2_hear at hF
  refine s_aload_n hG dX2_hear_0 rfl ?_
  refine s_iconst hG dX2_hear_1 ⟨by decide, by decide⟩ ?_
  obtain ⟨o1, ho1, hF⟩ := bd_some hF
  refine s_callV (d' := d - 1) (ci := 10) (args := [.inl 2]) hG (by omega) dX2_hear_2 cv_RX2_58 cw_X10_many rfl rfl h1.1 (Nat.le_of_ble_eq_true rfl) rfl (t_X10_many hsk (by omega) h1 ho1) ?_
  refine s_iconst hG dX2_hear_5 ⟨by decide, by decide⟩ ?_
  refine s_min hG (by omega) dX2_hear_6 ml_RX2_66 lk_min_s lk_math lk_min_c (Nat.le_of_ble_eq_true rfl) ?_
  refine s_istore_n hG dX2_hear_9 (by decide) rfl ?_
  refine s_iconst hG dX2_hear_10 ⟨by decide, by decide⟩ ?_
  refine s_istore hG dX2_hear_11 (by decide) rfl ?_
  obtain ⟨o6, hlo6, hF⟩ := bd_some hF
  refine t_X2_hear_lp13 hsk hd h1 hG ?_ hlo6
  refine s_iload_n hG dX2_hear_40 rfl ?_
  cases hF
  exact s_iret hE dX2_hear_41 rfl
-- X2_middle
theorem t_X2_middle_b29 {d n0 s0 nF sF : Nat} {X : MX} {r1 : Nat} {Ω : Nat → MS → Prop} {N : NN} {a3 : Int} {a4 : Int} {a5 : Int} {a6 : Int} (hsk : m_Sk X) (hd : 6 ≤ d) (h1 : m_isW X r1) (hG : m_G d yX2_middle.cls yX2_middle.name cX2_middle 7 n0 s0 nF sF Ω) {out : ((NN × Int × Int × Int × Int) ⊕ (NN × Int × Int × Int × Int))} (hK0 : ∀ s' : (NN × Int × Int × Int × Int), out = .inl s' → Ω 29 ([some (.inr (.inr 25)), none, none, some (.inl (s'.2.1)), some (.inl (s'.2.2.1)), some (.inl (s'.2.2.2.1)), some (.inl (s'.2.2.2.2))], [], s'.1, X)) (hK1 : ∀ t : (NN × Int × Int × Int × Int), out = .inr t → Ω 70 ([some (.inr (.inr 25)), none, none, some (.inl t.2.1), some (.inl t.2.2.1), some (.inl t.2.2.2.1), some (.inl t.2.2.2.2)], [], t.1, X)) (hF : b_X2_middle_29 X r1 N a3 a4 a5 a6 = some out) : Ω 29 ([some (.inr (.inr 25)), none, none, some (.inl a3), some (.inl a4), some (.inl a5), some (.inl a6)], [], N, X) := by
  unfold b_X2_middle_29 at hF
  refine s_iload hG dX2_middle_29 rfl ?_
  refine s_if_le hG 70 dX2_middle_31 (by decide) (fun c8 => ?_) (fun c8 => ?_)
  · replace hF := Eq.trans (if_pos c8).symm hF
    refine s_aload_n hG dX2_middle_34 rfl ?_
    refine s_getr (r := 28) hG dX2_middle_35 fl_RX2_20 (sk_k hsk 25 rfl) rfl (sk_R hsk 25 2 rfl) ?_
    refine s_iload hG dX2_middle_38 rfl ?_
    refine s_iconst hG dX2_middle_40 ⟨by decide, by decide⟩ ?_
    refine s_isub hG dX2_middle_41 ?_
    obtain ⟨g3, hF⟩ := gd_some hF
    refine s_ialdj (j := (m_w (a6 - 1)).toNat) hG dX2_middle_42 (sk_K hsk 28 rfl) g3 rfl ?_
    refine s_iload hG dX2_middle_43 rfl ?_
    refine s_icmp_le hG 70 dX2_middle_45 (by decide) (fun c7 => ?_) (fun c7 => ?_)
    · replace hF := Eq.trans (if_pos c7).symm hF
      refine s_aload_n hG dX2_middle_48 rfl ?_
      refine s_getr (r := 28) hG dX2_middle_49 fl_RX2_20 (sk_k hsk 25 rfl) rfl (sk_R hsk 25 2 rfl) ?_
      refine s_iload hG dX2_middle_52 rfl ?_
      refine s_aload_n hG dX2_middle_54 rfl ?_
      refine s_getr (r := 28) hG dX2_middle_55 fl_RX2_20 (sk_k hsk 25 rfl) rfl (sk_R hsk 25 2 rfl) ?_
      refine s_iload hG dX2_middle_58 rfl ?_
      refine s_iconst hG dX2_middle_60 ⟨by decide, by decide⟩ ?_
      refine s_isub hG dX2_middle_61 ?_
      obtain ⟨g4, hF⟩ := gd_some hF
      refine s_ialdj (j := (m_w (a6 - 1)).toNat) hG dX2_middle_62 (sk_K hsk 28 rfl) g4 rfl ?_
      obtain ⟨g5, hF⟩ := gd_some hF
      refine s_iastj (j := a6.toNat) hG dX2_middle_63 (sk_K hsk 28 rfl) g5 rfl ?_
      refine s_iinc hG dX2_middle_64 (by decide) rfl rfl ?_
      refine s_goto hG 29 dX2_middle_67 (by decide) ?_
      cases hF
      exact hK0 _ rfl
    · replace hF := Eq.trans (if_neg c7).symm hF
      cases hF
      exact hK1 _ rfl
  · replace hF := Eq.trans (if_neg c8).symm hF
    cases hF
    exact hK1 _ rfl
theorem t_X2_middle_lp29 {d n0 s0 nF sF : Nat} {X : MX} {r1 : Nat} {Ω : Nat → MS → Prop} {N : NN} {a3 : Int} {a4 : Int} {a5 : Int} {a6 : Int} (hsk : m_Sk X) (hd : 6 ≤ d) (h1 : m_isW X r1) (hG : m_G d yX2_middle.cls yX2_middle.name cX2_middle 7 n0 s0 nF sF Ω) {t : (NN × Int × Int × Int × Int)} (hK1 : Ω 70 ([some (.inr (.inr 25)), none, none, some (.inl t.2.1), some (.inl t.2.2.1), some (.inl t.2.2.2.1), some (.inl t.2.2.2.2)], [], t.1, X)) (hl : lp (fun s => b_X2_middle_29 X r1 s.1 s.2.1 s.2.2.1 s.2.2.2.1 s.2.2.2.2) (N, a3, a4, a5, a6) = some t) : Ω 29 ([some (.inr (.inr 25)), none, none, some (.inl a3), some (.inl a4), some (.inl a5), some (.inl a6)], [], N, X) := by
  refine lp_ok (P := fun s => Ω 29 ([some (.inr (.inr 25)), none, none, some (.inl s.2.1), some (.inl s.2.2.1), some (.inl s.2.2.2.1), some (.inl s.2.2.2.2)], [], s.1, X)) (K := fun t => Ω 70 ([some (.inr (.inr 25)), none, none, some (.inl t.2.1), some (.inl t.2.2.1), some (.inl t.2.2.2.1), some (.inl t.2.2.2.2)], [], t.1, X)) (fun s out hF hK0 hK1 => ?_) hl hK1
  exact t_X2_middle_b29 hsk hd h1 hG (out := out) (fun s' e => hK0 s' e) (fun t' e => hK1 t' e) hF
theorem t_X2_middle_b10 {d n0 s0 nF sF : Nat} {X : MX} {r1 : Nat} {Ω : Nat → MS → Prop} {N : NN} {a3 : Int} {a4 : Int} (hsk : m_Sk X) (hd : 6 ≤ d) (h1 : m_isW X r1) (hG : m_G d yX2_middle.cls yX2_middle.name cX2_middle 7 n0 s0 nF sF Ω) {out : ((NN × Int × Int) ⊕ (NN × Int))} (hK0 : ∀ s' : (NN × Int × Int), out = .inl s' → Ω 10 ([some (.inr (.inr 25)), none, none, some (.inl (s'.2.1)), some (.inl (s'.2.2)), none, none], [], s'.1, X)) (hK1 : ∀ t : (NN × Int), out = .inr t → Ω 85 ([some (.inr (.inr 25)), none, none, some (.inl t.2), none, none, none], [], t.1, X)) (hF : b_X2_middle_10 X r1 N a3 a4 = some out) : Ω 10 ([some (.inr (.inr 25)), none, none, some (.inl a3), some (.inl a4), none, none], [], N, X) := by
  unfold b_X2_middle_10 at hF
  refine s_iload hG dX2_middle_10 rfl ?_
  refine s_iload_n hG dX2_middle_12 rfl ?_
  refine s_icmp_ge hG 85 dX2_middle_13 (by decide) (fun c12 => ?_) (fun c12 => ?_)
  · replace hF := Eq.trans (if_pos c12).symm hF
    refine s_aload_n hG dX2_middle_16 rfl ?_
    refine s_getr (r := 28) hG dX2_middle_17 fl_RX2_20 (sk_k hsk 25 rfl) rfl (sk_R hsk 25 2 rfl) ?_
    refine s_iload hG dX2_middle_20 rfl ?_
    obtain ⟨g2, hF⟩ := gd_some hF
    refine s_ialdj (j := a4.toNat) hG dX2_middle_22 (sk_K hsk 28 rfl) g2 rfl ?_
    refine s_istore hG dX2_middle_23 (by decide) rfl ?_
    refine s_iload hG dX2_middle_25 rfl ?_
    refine s_istore hG dX2_middle_27 (by decide) rfl ?_
    obtain ⟨o9, hlo9, hF⟩ := bd_some hF
    refine t_X2_middle_lp29 hsk hd h1 hG ?_ hlo9
    refine s_aload_n hG dX2_middle_70 rfl ?_
    refine s_getr (r := 28) hG dX2_middle_71 fl_RX2_20 (sk_k hsk 25 rfl) rfl (sk_R hsk 25 2 rfl) ?_
    refine s_iload hG dX2_middle_74 rfl ?_
    refine s_iload hG dX2_middle_76 rfl ?_
    obtain ⟨g10, hF⟩ := gd_some hF
    refine s_iastj (j := o9.2.2.2.2.toNat) hG dX2_middle_78 (sk_K hsk 28 rfl) g10 rfl ?_
    refine s_iinc hG dX2_middle_79 (by decide) rfl rfl ?_
    refine s_goto hG 10 dX2_middle_82 (by decide) ?_
    cases hF
    refine m_weak (ls1 := [some (.inr (.inr 25)), none, none, some (.inl o9.2.1), some (.inl (m_w (o9.2.2.1 + 1))), none, none]) hG ⟨rfl, ⟨rfl, ⟨rfl, trivial⟩⟩⟩ ?_
    exact hK0 _ rfl
  · replace hF := Eq.trans (if_neg c12).symm hF
    cases hF
    refine m_weak (ls1 := [some (.inr (.inr 25)), none, none, some (.inl a3), none, none, none]) hG ⟨rfl, ⟨rfl, trivial⟩⟩ ?_
    exact hK1 _ rfl
theorem t_X2_middle_lp10 {d n0 s0 nF sF : Nat} {X : MX} {r1 : Nat} {Ω : Nat → MS → Prop} {N : NN} {a3 : Int} {a4 : Int} (hsk : m_Sk X) (hd : 6 ≤ d) (h1 : m_isW X r1) (hG : m_G d yX2_middle.cls yX2_middle.name cX2_middle 7 n0 s0 nF sF Ω) {t : (NN × Int)} (hK1 : Ω 85 ([some (.inr (.inr 25)), none, none, some (.inl t.2), none, none, none], [], t.1, X)) (hl : lp (fun s => b_X2_middle_10 X r1 s.1 s.2.1 s.2.2) (N, a3, a4) = some t) : Ω 10 ([some (.inr (.inr 25)), none, none, some (.inl a3), some (.inl a4), none, none], [], N, X) := by
  refine lp_ok (P := fun s => Ω 10 ([some (.inr (.inr 25)), none, none, some (.inl s.2.1), some (.inl s.2.2), none, none], [], s.1, X)) (K := fun t => Ω 85 ([some (.inr (.inr 25)), none, none, some (.inl t.2), none, none, none], [], t.1, X)) (fun s out hF hK0 hK1 => ?_) hl hK1
  exact t_X2_middle_b10 hsk hd h1 hG (out := out) (fun s' e => hK0 s' e) (fun t' e => hK1 t' e) hF
theorem t_X2_middle_j103 {d n0 s0 nF sF : Nat} {X : MX} {r1 : Nat} {Ω : Nat → MS → Prop} {N : NN} {z0 : Int} (hsk : m_Sk X) (hd : 6 ≤ d) (h1 : m_isW X r1) (hG : m_G d yX2_middle.cls yX2_middle.name cX2_middle 7 n0 s0 nF sF Ω) {out : (Int × NN)} (hE : m_Gd d yX2_middle cX2_middle 7 (some .int) X (some (.inl out.1)) out.2 X Ω) (hF : f_X2_middle_j103 X r1 N z0 = some out) : Ω 103 ([none, none, none, none, none, none, none], [(.inl z0)], N, X) := by
  unfold f_X2_middle_j103 at hF
  cases hF
  exact s_iret hE dX2_middle_103 rfl
theorem t_X2_middle {d : Nat} {X : MX} {r1 : Nat} {N : NN} {a2 : Int} {out : (Int × NN)} (hsk : m_Sk X) (hd : 6 ≤ d) (h1 : m_isW X r1) (hF : f_X2_middle X r1 N a2 = some out) : m_Call d yX2_middle cX2_middle 7 (some .int) [(.inr (.inr 25)), (.inr (.inr r1)), (.inl a2)] N X (some (.inl out.1)) out.2 X := by
  refine m_mk (ls0 := [some (.inr (.inr 25)), some (.inr (.inr r1)), some (.inl a2), none, none, none, none]) (by decide) rfl (Nat.le_of_ble_eq_true rfl) (Nat.le_refl _) (Nat.le_refl _) (fun Ω hE => ?_)
  have hG := hE.G
  unfold f_X2_middle at hF
  refine s_aload_n hG dX2_middle_0 rfl ?_
  refine s_aload_n hG dX2_middle_1 rfl ?_
  refine s_iload_n hG dX2_middle_2 rfl ?_
  obtain ⟨o1, ho1, hF⟩ := bd_some hF
  refine s_callV (d' := d - 1) (ci := 2) (args := [.inr (.inr r1), .inl a2]) hG (by omega) dX2_middle_3 cv_RX2_78 cw_X2_hear rfl rfl (sk_k hsk 25 rfl) (Nat.le_of_ble_eq_true rfl) rfl (t_X2_hear hsk (by omega) h1 ho1) ?_
  refine s_istore_n hG dX2_middle_6 (by decide) rfl ?_
  refine s_iconst hG dX2_middle_7 ⟨by decide, by decide⟩ ?_
  refine s_istore hG dX2_middle_8 (by decide) rfl ?_
  obtain ⟨o13, hlo13, hF⟩ := bd_some hF
  refine m_weak (ls1 := [some (.inr (.inr 25)), none, none, some (.inl o1.1), some (.inl 1), none, none]) hG ⟨rfl, ⟨rfl, ⟨rfl, trivial⟩⟩⟩ ?_
  refine t_X2_middle_lp10 hsk hd h1 hG ?_ hlo13
  refine s_iload_n hG dX2_middle_85 rfl ?_
  refine s_if_le hG 102 dX2_middle_86 (by decide) (fun c15 => ?_) (fun c15 => ?_)
  · replace hF := Eq.trans (if_pos c15).symm hF
    refine s_aload_n hG dX2_middle_89 rfl ?_
    refine s_getr (r := 28) hG dX2_middle_90 fl_RX2_20 (sk_k hsk 25 rfl) rfl (sk_R hsk 25 2 rfl) ?_
    refine s_iload_n hG dX2_middle_93 rfl ?_
    refine s_iconst hG dX2_middle_94 ⟨by decide, by decide⟩ ?_
    refine s_isub hG dX2_middle_95 ?_
    refine s_iconst hG dX2_middle_96 ⟨by decide, by decide⟩ ?_
    refine s_idiv hG dX2_middle_97 (by decide) ?_
    obtain ⟨g14, hF⟩ := gd_some hF
    refine s_ialdj (j := (m_div (m_w (o13.2 - 1)) 2).toNat) hG dX2_middle_98 (sk_K hsk 28 rfl) g14 rfl ?_
    refine s_goto hG 103 dX2_middle_99 (by decide) ?_
    refine m_weak (ls1 := [none, none, none, none, none, none, none]) hG trivial ?_
    exact t_X2_middle_j103 hsk hd h1 hG hE hF
  · replace hF := Eq.trans (if_neg c15).symm hF
    refine s_iconst hG dX2_middle_102 ⟨by decide, by decide⟩ ?_
    refine m_weak (ls1 := [none, none, none, none, none, none, none]) hG trivial ?_
    exact t_X2_middle_j103 hsk hd h1 hG hE hF
-- X2_cheapestBribe
theorem t_X2_cheapestBribe_l77_j161 {d n0 s0 nF sF : Nat} {X : MX} {r1 : Nat} {Ω : Nat → MS → Prop} {N : NN} {a4 : Int} {a5 : Int} {a6 : Int} {a7 : Int} {a8 : Int} {a9 : Int} {a10 : Int} {a11 : Int} {a13 : Int} {z0 : Int} {z1 : Int} (hsk : m_Sk X) (hd : 7 ≤ d) (h1 : m_isW X r1) (hG : m_G d yX2_cheapestBribe.cls yX2_cheapestBribe.name cX2_cheapestBribe 15 n0 s0 nF sF Ω) {out : ((NN × Int × Int × Int × Int × Int × Int × Int × Int × Int × Int) ⊕ (NN × Int × Int × Int × Int × Int × Int × Int × Int × Int))} (hK0 : ∀ s' : (NN × Int × Int × Int × Int × Int × Int × Int × Int × Int × Int), out = .inl s' → Ω 77 ([some (.inr (.inr 25)), some (.inr (.inr r1)), none, none, some (.inl (s'.2.1)), some (.inl (s'.2.2.1)), some (.inl (s'.2.2.2.1)), some (.inl (s'.2.2.2.2.1)), some (.inl (s'.2.2.2.2.2.1)), some (.inl (s'.2.2.2.2.2.2.1)), some (.inl (s'.2.2.2.2.2.2.2.1)), some (.inl (s'.2.2.2.2.2.2.2.2.1)), some (.inl (s'.2.2.2.2.2.2.2.2.2.1)), some (.inl (s'.2.2.2.2.2.2.2.2.2.2)), none], [], s'.1, X)) (hK1 : ∀ t : (NN × Int × Int × Int × Int × Int × Int × Int × Int × Int), out = .inr t → Ω 170 ([some (.inr (.inr 25)), some (.inr (.inr r1)), none, none, some (.inl t.2.1), some (.inl t.2.2.1), some (.inl t.2.2.2.1), some (.inl t.2.2.2.2.1), some (.inl t.2.2.2.2.2.1), some (.inl t.2.2.2.2.2.2.1), some (.inl t.2.2.2.2.2.2.2.1), some (.inl t.2.2.2.2.2.2.2.2.1), some (.inl t.2.2.2.2.2.2.2.2.2), none, none], [], t.1, X)) (hF : f_X2_cheapestBribe_l77_j161 X r1 N a4 a5 a6 a7 a8 a9 a10 a11 a13 z0 z1 = some out) : Ω 161 ([some (.inr (.inr 25)), some (.inr (.inr r1)), none, none, some (.inl a4), some (.inl a5), some (.inl a6), some (.inl a7), some (.inl a8), some (.inl a9), some (.inl a10), some (.inl a11), none, some (.inl a13), none], [(.inl z1), (.inl z0)], N, X) := by
  unfold f_X2_cheapestBribe_l77_j161 at hF
  refine s_iadd hG dX2_cheapestBribe_161 ?_
  refine s_istore hG dX2_cheapestBribe_162 (by decide) rfl ?_
  refine s_iinc hG dX2_cheapestBribe_164 (by decide) rfl rfl ?_
  refine s_goto hG 77 dX2_cheapestBribe_167 (by decide) ?_
  cases hF
  exact hK0 _ rfl
theorem t_X2_cheapestBribe_l77_j126 {d n0 s0 nF sF : Nat} {X : MX} {r1 : Nat} {Ω : Nat → MS → Prop} {N : NN} {a4 : Int} {a5 : Int} {a6 : Int} {a7 : Int} {a8 : Int} {a9 : Int} {a10 : Int} {a12 : Int} {a13 : Int} {a14 : Int} {z0 : Int} {z1 : Int} (hsk : m_Sk X) (hd : 7 ≤ d) (h1 : m_isW X r1) (hG : m_G d yX2_cheapestBribe.cls yX2_cheapestBribe.name cX2_cheapestBribe 15 n0 s0 nF sF Ω) {out : ((NN × Int × Int × Int × Int × Int × Int × Int × Int × Int × Int) ⊕ (NN × Int × Int × Int × Int × Int × Int × Int × Int × Int))} (hK0 : ∀ s' : (NN × Int × Int × Int × Int × Int × Int × Int × Int × Int × Int), out = .inl s' → Ω 77 ([some (.inr (.inr 25)), some (.inr (.inr r1)), none, none, some (.inl (s'.2.1)), some (.inl (s'.2.2.1)), some (.inl (s'.2.2.2.1)), some (.inl (s'.2.2.2.2.1)), some (.inl (s'.2.2.2.2.2.1)), some (.inl (s'.2.2.2.2.2.2.1)), some (.inl (s'.2.2.2.2.2.2.2.1)), some (.inl (s'.2.2.2.2.2.2.2.2.1)), some (.inl (s'.2.2.2.2.2.2.2.2.2.1)), some (.inl (s'.2.2.2.2.2.2.2.2.2.2)), none], [], s'.1, X)) (hK1 : ∀ t : (NN × Int × Int × Int × Int × Int × Int × Int × Int × Int), out = .inr t → Ω 170 ([some (.inr (.inr 25)), some (.inr (.inr r1)), none, none, some (.inl t.2.1), some (.inl t.2.2.1), some (.inl t.2.2.2.1), some (.inl t.2.2.2.2.1), some (.inl t.2.2.2.2.2.1), some (.inl t.2.2.2.2.2.2.1), some (.inl t.2.2.2.2.2.2.2.1), some (.inl t.2.2.2.2.2.2.2.2.1), some (.inl t.2.2.2.2.2.2.2.2.2), none, none], [], t.1, X)) (hF : f_X2_cheapestBribe_l77_j126 X r1 N a4 a5 a6 a7 a8 a9 a10 a12 a13 a14 z0 z1 = some out) : Ω 126 ([some (.inr (.inr 25)), some (.inr (.inr r1)), none, none, some (.inl a4), some (.inl a5), some (.inl a6), some (.inl a7), some (.inl a8), some (.inl a9), some (.inl a10), none, some (.inl a12), some (.inl a13), some (.inl a14)], [(.inl z1), (.inl z0)], N, X) := by
  unfold f_X2_cheapestBribe_l77_j126 at hF
  refine s_iadd hG dX2_cheapestBribe_126 ?_
  refine s_istore hG dX2_cheapestBribe_127 (by decide) rfl ?_
  refine s_iload hG dX2_cheapestBribe_129 rfl ?_
  refine s_iload hG dX2_cheapestBribe_131 rfl ?_
  refine s_if_eq hG 160 dX2_cheapestBribe_133 (by decide) (fun c10 => ?_) (fun c10 => ?_)
  · replace hF := Eq.trans (if_pos c10).symm hF
    refine s_iconst hG dX2_cheapestBribe_160 ⟨by decide, by decide⟩ ?_
    refine m_weak (ls1 := [some (.inr (.inr 25)), some (.inr (.inr r1)), none, none, some (.inl a4), some (.inl a5), some (.inl a6), some (.inl a7), some (.inl a8), some (.inl a9), some (.inl a10), some (.inl (m_w (z0 + z1))), none, some (.inl a13), none]) hG ⟨rfl, ⟨rfl, ⟨rfl, ⟨rfl, ⟨rfl, ⟨rfl, ⟨rfl, ⟨rfl, ⟨rfl, ⟨rfl, ⟨rfl, trivial⟩⟩⟩⟩⟩⟩⟩⟩⟩⟩⟩ ?_
    exact t_X2_cheapestBribe_l77_j161 hsk hd h1 hG hK0 hK1 hF
  · replace hF := Eq.trans (if_neg c10).symm hF
    refine s_iconst hG dX2_cheapestBribe_136 ⟨by decide, by decide⟩ ?_
    refine s_iload hG dX2_cheapestBribe_137 rfl ?_
    refine s_aload_n hG dX2_cheapestBribe_139 rfl ?_
    refine s_getr (r := 28) hG dX2_cheapestBribe_140 fl_RX2_20 (sk_k hsk 25 rfl) rfl (sk_R hsk 25 2 rfl) ?_
    refine s_iload hG dX2_cheapestBribe_143 rfl ?_
    obtain ⟨g8, hF⟩ := gd_some hF
    refine s_ialdj (j := a13.toNat) hG dX2_cheapestBribe_145 (sk_K hsk 28 rfl) g8 rfl ?_
    refine s_isub hG dX2_cheapestBribe_146 ?_
    refine s_max hG (by omega) dX2_cheapestBribe_147 ml_RX2_71 lk_max_s lk_math lk_max_c (Nat.le_of_ble_eq_true rfl) ?_
    refine s_aload_n hG dX2_cheapestBribe_150 rfl ?_
    refine s_iload hG dX2_cheapestBribe_151 rfl ?_
    obtain ⟨o9, ho9, hF⟩ := bd_some hF
    refine s_callV (d' := d - 1) (ci := 10) (args := [.inl a13]) hG (by omega) dX2_cheapestBribe_153 cv_RX2_85 cw_X10_price rfl rfl h1.1 (Nat.le_of_ble_eq_true rfl) rfl (t_X10_price hsk (by omega) h1 ho9) ?_
    refine s_imul hG dX2_cheapestBribe_156 ?_
    refine s_goto hG 161 dX2_cheapestBribe_157 (by decide) ?_
    refine m_weak (ls1 := [some (.inr (.inr 25)), some (.inr (.inr r1)), none, none, some (.inl a4), some (.inl a5), some (.inl a6), some (.inl a7), some (.inl a8), some (.inl a9), some (.inl a10), some (.inl (m_w (z0 + z1))), none, some (.inl a13), none]) hG ⟨rfl, ⟨rfl, ⟨rfl, ⟨rfl, ⟨rfl, ⟨rfl, ⟨rfl, ⟨rfl, ⟨rfl, ⟨rfl, ⟨rfl, trivial⟩⟩⟩⟩⟩⟩⟩⟩⟩⟩⟩ ?_
    exact t_X2_cheapestBribe_l77_j161 hsk hd h1 hG hK0 hK1 hF
theorem t_X2_cheapestBribe_l77_j121 {d n0 s0 nF sF : Nat} {X : MX} {r1 : Nat} {Ω : Nat → MS → Prop} {N : NN} {a4 : Int} {a5 : Int} {a6 : Int} {a7 : Int} {a8 : Int} {a9 : Int} {a10 : Int} {a12 : Int} {a13 : Int} {a14 : Int} {z0 : Int} (hsk : m_Sk X) (hd : 7 ≤ d) (h1 : m_isW X r1) (hG : m_G d yX2_cheapestBribe.cls yX2_cheapestBribe.name cX2_cheapestBribe 15 n0 s0 nF sF Ω) {out : ((NN × Int × Int × Int × Int × Int × Int × Int × Int × Int × Int) ⊕ (NN × Int × Int × Int × Int × Int × Int × Int × Int × Int))} (hK0 : ∀ s' : (NN × Int × Int × Int × Int × Int × Int × Int × Int × Int × Int), out = .inl s' → Ω 77 ([some (.inr (.inr 25)), some (.inr (.inr r1)), none, none, some (.inl (s'.2.1)), some (.inl (s'.2.2.1)), some (.inl (s'.2.2.2.1)), some (.inl (s'.2.2.2.2.1)), some (.inl (s'.2.2.2.2.2.1)), some (.inl (s'.2.2.2.2.2.2.1)), some (.inl (s'.2.2.2.2.2.2.2.1)), some (.inl (s'.2.2.2.2.2.2.2.2.1)), some (.inl (s'.2.2.2.2.2.2.2.2.2.1)), some (.inl (s'.2.2.2.2.2.2.2.2.2.2)), none], [], s'.1, X)) (hK1 : ∀ t : (NN × Int × Int × Int × Int × Int × Int × Int × Int × Int), out = .inr t → Ω 170 ([some (.inr (.inr 25)), some (.inr (.inr r1)), none, none, some (.inl t.2.1), some (.inl t.2.2.1), some (.inl t.2.2.2.1), some (.inl t.2.2.2.2.1), some (.inl t.2.2.2.2.2.1), some (.inl t.2.2.2.2.2.2.1), some (.inl t.2.2.2.2.2.2.2.1), some (.inl t.2.2.2.2.2.2.2.2.1), some (.inl t.2.2.2.2.2.2.2.2.2), none, none], [], t.1, X)) (hF : f_X2_cheapestBribe_l77_j121 X r1 N a4 a5 a6 a7 a8 a9 a10 a12 a13 a14 z0 = some out) : Ω 121 ([some (.inr (.inr 25)), some (.inr (.inr r1)), none, none, some (.inl a4), some (.inl a5), some (.inl a6), some (.inl a7), some (.inl a8), some (.inl a9), some (.inl a10), none, some (.inl a12), some (.inl a13), some (.inl a14)], [(.inl z0)], N, X) := by
  unfold f_X2_cheapestBribe_l77_j121 at hF
  refine s_iconst hG dX2_cheapestBribe_121 ⟨by decide, by decide⟩ ?_
  refine s_goto hG 126 dX2_cheapestBribe_122 (by decide) ?_
  exact t_X2_cheapestBribe_l77_j126 hsk hd h1 hG hK0 hK1 hF
theorem t_X2_cheapestBribe_l77_j100 {d n0 s0 nF sF : Nat} {X : MX} {r1 : Nat} {Ω : Nat → MS → Prop} {N : NN} {a4 : Int} {a5 : Int} {a6 : Int} {a7 : Int} {a8 : Int} {a9 : Int} {a10 : Int} {a11 : Int} {a12 : Int} {a13 : Int} {z0 : Int} (hsk : m_Sk X) (hd : 7 ≤ d) (h1 : m_isW X r1) (hG : m_G d yX2_cheapestBribe.cls yX2_cheapestBribe.name cX2_cheapestBribe 15 n0 s0 nF sF Ω) {out : ((NN × Int × Int × Int × Int × Int × Int × Int × Int × Int × Int) ⊕ (NN × Int × Int × Int × Int × Int × Int × Int × Int × Int))} (hK0 : ∀ s' : (NN × Int × Int × Int × Int × Int × Int × Int × Int × Int × Int), out = .inl s' → Ω 77 ([some (.inr (.inr 25)), some (.inr (.inr r1)), none, none, some (.inl (s'.2.1)), some (.inl (s'.2.2.1)), some (.inl (s'.2.2.2.1)), some (.inl (s'.2.2.2.2.1)), some (.inl (s'.2.2.2.2.2.1)), some (.inl (s'.2.2.2.2.2.2.1)), some (.inl (s'.2.2.2.2.2.2.2.1)), some (.inl (s'.2.2.2.2.2.2.2.2.1)), some (.inl (s'.2.2.2.2.2.2.2.2.2.1)), some (.inl (s'.2.2.2.2.2.2.2.2.2.2)), none], [], s'.1, X)) (hK1 : ∀ t : (NN × Int × Int × Int × Int × Int × Int × Int × Int × Int), out = .inr t → Ω 170 ([some (.inr (.inr 25)), some (.inr (.inr r1)), none, none, some (.inl t.2.1), some (.inl t.2.2.1), some (.inl t.2.2.2.1), some (.inl t.2.2.2.2.1), some (.inl t.2.2.2.2.2.1), some (.inl t.2.2.2.2.2.2.1), some (.inl t.2.2.2.2.2.2.2.1), some (.inl t.2.2.2.2.2.2.2.2.1), some (.inl t.2.2.2.2.2.2.2.2.2), none, none], [], t.1, X)) (hF : f_X2_cheapestBribe_l77_j100 X r1 N a4 a5 a6 a7 a8 a9 a10 a11 a12 a13 z0 = some out) : Ω 100 ([some (.inr (.inr 25)), some (.inr (.inr r1)), none, none, some (.inl a4), some (.inl a5), some (.inl a6), some (.inl a7), some (.inl a8), some (.inl a9), some (.inl a10), some (.inl a11), some (.inl a12), some (.inl a13), none], [(.inl z0)], N, X) := by
  unfold f_X2_cheapestBribe_l77_j100 at hF
  refine s_istore hG dX2_cheapestBribe_100 (by decide) rfl ?_
  refine s_iload hG dX2_cheapestBribe_102 rfl ?_
  refine s_iload hG dX2_cheapestBribe_104 rfl ?_
  refine s_if_ne hG 121 dX2_cheapestBribe_106 (by decide) (fun c7 => ?_) (fun c7 => ?_)
  · replace hF := Eq.trans (if_pos c7).symm hF
    refine s_aload_n hG dX2_cheapestBribe_109 rfl ?_
    refine s_getr (r := 28) hG dX2_cheapestBribe_110 fl_RX2_20 (sk_k hsk 25 rfl) rfl (sk_R hsk 25 2 rfl) ?_
    refine s_iload hG dX2_cheapestBribe_113 rfl ?_
    obtain ⟨g5, hF⟩ := gd_some hF
    refine s_ialdj (j := a13.toNat) hG dX2_cheapestBribe_115 (sk_K hsk 28 rfl) g5 rfl ?_
    refine s_iload hG dX2_cheapestBribe_116 rfl ?_
    refine s_icmp_lt hG 125 dX2_cheapestBribe_118 (by decide) (fun c6 => ?_) (fun c6 => ?_)
    · replace hF := Eq.trans (if_pos c6).symm hF
      refine s_iconst hG dX2_cheapestBribe_125 ⟨by decide, by decide⟩ ?_
      refine m_weak (ls1 := [some (.inr (.inr 25)), some (.inr (.inr r1)), none, none, some (.inl a4), some (.inl a5), some (.inl a6), some (.inl a7), some (.inl a8), some (.inl a9), some (.inl a10), none, some (.inl a12), some (.inl a13), some (.inl z0)]) hG ⟨rfl, ⟨rfl, ⟨rfl, ⟨rfl, ⟨rfl, ⟨rfl, ⟨rfl, ⟨rfl, ⟨rfl, ⟨rfl, ⟨rfl, ⟨rfl, trivial⟩⟩⟩⟩⟩⟩⟩⟩⟩⟩⟩⟩ ?_
      exact t_X2_cheapestBribe_l77_j126 hsk hd h1 hG hK0 hK1 hF
    · replace hF := Eq.trans (if_neg c6).symm hF
      refine m_weak (ls1 := [some (.inr (.inr 25)), some (.inr (.inr r1)), none, none, some (.inl a4), some (.inl a5), some (.inl a6), some (.inl a7), some (.inl a8), some (.inl a9), some (.inl a10), none, some (.inl a12), some (.inl a13), some (.inl z0)]) hG ⟨rfl, ⟨rfl, ⟨rfl, ⟨rfl, ⟨rfl, ⟨rfl, ⟨rfl, ⟨rfl, ⟨rfl, ⟨rfl, ⟨rfl, ⟨rfl, trivial⟩⟩⟩⟩⟩⟩⟩⟩⟩⟩⟩⟩ ?_
      exact t_X2_cheapestBribe_l77_j121 hsk hd h1 hG hK0 hK1 hF
  · replace hF := Eq.trans (if_neg c7).symm hF
    refine m_weak (ls1 := [some (.inr (.inr 25)), some (.inr (.inr r1)), none, none, some (.inl a4), some (.inl a5), some (.inl a6), some (.inl a7), some (.inl a8), some (.inl a9), some (.inl a10), none, some (.inl a12), some (.inl a13), some (.inl z0)]) hG ⟨rfl, ⟨rfl, ⟨rfl, ⟨rfl, ⟨rfl, ⟨rfl, ⟨rfl, ⟨rfl, ⟨rfl, ⟨rfl, ⟨rfl, ⟨rfl, trivial⟩⟩⟩⟩⟩⟩⟩⟩⟩⟩⟩⟩ ?_
    exact t_X2_cheapestBribe_l77_j121 hsk hd h1 hG hK0 hK1 hF
theorem t_X2_cheapestBribe_b77 {d n0 s0 nF sF : Nat} {X : MX} {r1 : Nat} {Ω : Nat → MS → Prop} {N : NN} {a4 : Int} {a5 : Int} {a6 : Int} {a7 : Int} {a8 : Int} {a9 : Int} {a10 : Int} {a11 : Int} {a12 : Int} {a13 : Int} (hsk : m_Sk X) (hd : 7 ≤ d) (h1 : m_isW X r1) (hG : m_G d yX2_cheapestBribe.cls yX2_cheapestBribe.name cX2_cheapestBribe 15 n0 s0 nF sF Ω) {out : ((NN × Int × Int × Int × Int × Int × Int × Int × Int × Int × Int) ⊕ (NN × Int × Int × Int × Int × Int × Int × Int × Int × Int))} (hK0 : ∀ s' : (NN × Int × Int × Int × Int × Int × Int × Int × Int × Int × Int), out = .inl s' → Ω 77 ([some (.inr (.inr 25)), some (.inr (.inr r1)), none, none, some (.inl (s'.2.1)), some (.inl (s'.2.2.1)), some (.inl (s'.2.2.2.1)), some (.inl (s'.2.2.2.2.1)), some (.inl (s'.2.2.2.2.2.1)), some (.inl (s'.2.2.2.2.2.2.1)), some (.inl (s'.2.2.2.2.2.2.2.1)), some (.inl (s'.2.2.2.2.2.2.2.2.1)), some (.inl (s'.2.2.2.2.2.2.2.2.2.1)), some (.inl (s'.2.2.2.2.2.2.2.2.2.2)), none], [], s'.1, X)) (hK1 : ∀ t : (NN × Int × Int × Int × Int × Int × Int × Int × Int × Int), out = .inr t → Ω 170 ([some (.inr (.inr 25)), some (.inr (.inr r1)), none, none, some (.inl t.2.1), some (.inl t.2.2.1), some (.inl t.2.2.2.1), some (.inl t.2.2.2.2.1), some (.inl t.2.2.2.2.2.1), some (.inl t.2.2.2.2.2.2.1), some (.inl t.2.2.2.2.2.2.2.1), some (.inl t.2.2.2.2.2.2.2.2.1), some (.inl t.2.2.2.2.2.2.2.2.2), none, none], [], t.1, X)) (hF : b_X2_cheapestBribe_77 X r1 N a4 a5 a6 a7 a8 a9 a10 a11 a12 a13 = some out) : Ω 77 ([some (.inr (.inr 25)), some (.inr (.inr r1)), none, none, some (.inl a4), some (.inl a5), some (.inl a6), some (.inl a7), some (.inl a8), some (.inl a9), some (.inl a10), some (.inl a11), some (.inl a12), some (.inl a13), none], [], N, X) := by
  unfold b_X2_cheapestBribe_77 at hF
  refine s_iload hG dX2_cheapestBribe_77 rfl ?_
  refine s_iload hG dX2_cheapestBribe_79 rfl ?_
  refine s_icmp_ge hG 170 dX2_cheapestBribe_81 (by decide) (fun c4 => ?_) (fun c4 => ?_)
  · replace hF := Eq.trans (if_pos c4).symm hF
    refine s_iload hG dX2_cheapestBribe_84 rfl ?_
    refine s_iload hG dX2_cheapestBribe_86 rfl ?_
    refine s_ishr hG dX2_cheapestBribe_88 ?_
    refine s_iconst hG dX2_cheapestBribe_89 ⟨by decide, by decide⟩ ?_
    refine s_iand hG dX2_cheapestBribe_90 ?_
    refine s_iconst hG dX2_cheapestBribe_91 ⟨by decide, by decide⟩ ?_
    refine s_icmp_ne hG 99 dX2_cheapestBribe_92 (by decide) (fun c3 => ?_) (fun c3 => ?_)
    · replace hF := Eq.trans (if_pos c3).symm hF
      refine s_iconst hG dX2_cheapestBribe_95 ⟨by decide, by decide⟩ ?_
      refine s_goto hG 100 dX2_cheapestBribe_96 (by decide) ?_
      exact t_X2_cheapestBribe_l77_j100 hsk hd h1 hG hK0 hK1 hF
    · replace hF := Eq.trans (if_neg c3).symm hF
      refine s_iconst hG dX2_cheapestBribe_99 ⟨by decide, by decide⟩ ?_
      exact t_X2_cheapestBribe_l77_j100 hsk hd h1 hG hK0 hK1 hF
  · replace hF := Eq.trans (if_neg c4).symm hF
    cases hF
    refine m_weak (ls1 := [some (.inr (.inr 25)), some (.inr (.inr r1)), none, none, some (.inl a4), some (.inl a5), some (.inl a6), some (.inl a7), some (.inl a8), some (.inl a9), some (.inl a10), some (.inl a11), some (.inl a12), none, none]) hG ⟨rfl, ⟨rfl, ⟨rfl, ⟨rfl, ⟨rfl, ⟨rfl, ⟨rfl, ⟨rfl, ⟨rfl, ⟨rfl, ⟨rfl, trivial⟩⟩⟩⟩⟩⟩⟩⟩⟩⟩⟩ ?_
    exact hK1 _ rfl
theorem t_X2_cheapestBribe_lp77 {d n0 s0 nF sF : Nat} {X : MX} {r1 : Nat} {Ω : Nat → MS → Prop} {N : NN} {a4 : Int} {a5 : Int} {a6 : Int} {a7 : Int} {a8 : Int} {a9 : Int} {a10 : Int} {a11 : Int} {a12 : Int} {a13 : Int} (hsk : m_Sk X) (hd : 7 ≤ d) (h1 : m_isW X r1) (hG : m_G d yX2_cheapestBribe.cls yX2_cheapestBribe.name cX2_cheapestBribe 15 n0 s0 nF sF Ω) {t : (NN × Int × Int × Int × Int × Int × Int × Int × Int × Int)} (hK1 : Ω 170 ([some (.inr (.inr 25)), some (.inr (.inr r1)), none, none, some (.inl t.2.1), some (.inl t.2.2.1), some (.inl t.2.2.2.1), some (.inl t.2.2.2.2.1), some (.inl t.2.2.2.2.2.1), some (.inl t.2.2.2.2.2.2.1), some (.inl t.2.2.2.2.2.2.2.1), some (.inl t.2.2.2.2.2.2.2.2.1), some (.inl t.2.2.2.2.2.2.2.2.2), none, none], [], t.1, X)) (hl : lp (fun s => b_X2_cheapestBribe_77 X r1 s.1 s.2.1 s.2.2.1 s.2.2.2.1 s.2.2.2.2.1 s.2.2.2.2.2.1 s.2.2.2.2.2.2.1 s.2.2.2.2.2.2.2.1 s.2.2.2.2.2.2.2.2.1 s.2.2.2.2.2.2.2.2.2.1 s.2.2.2.2.2.2.2.2.2.2) (N, a4, a5, a6, a7, a8, a9, a10, a11, a12, a13) = some t) : Ω 77 ([some (.inr (.inr 25)), some (.inr (.inr r1)), none, none, some (.inl a4), some (.inl a5), some (.inl a6), some (.inl a7), some (.inl a8), some (.inl a9), some (.inl a10), some (.inl a11), some (.inl a12), some (.inl a13), none], [], N, X) := by
  refine lp_ok (P := fun s => Ω 77 ([some (.inr (.inr 25)), some (.inr (.inr r1)), none, none, some (.inl s.2.1), some (.inl s.2.2.1), some (.inl s.2.2.2.1), some (.inl s.2.2.2.2.1), some (.inl s.2.2.2.2.2.1), some (.inl s.2.2.2.2.2.2.1), some (.inl s.2.2.2.2.2.2.2.1), some (.inl s.2.2.2.2.2.2.2.2.1), some (.inl s.2.2.2.2.2.2.2.2.2.1), some (.inl s.2.2.2.2.2.2.2.2.2.2), none], [], s.1, X)) (K := fun t => Ω 170 ([some (.inr (.inr 25)), some (.inr (.inr r1)), none, none, some (.inl t.2.1), some (.inl t.2.2.1), some (.inl t.2.2.2.1), some (.inl t.2.2.2.2.1), some (.inl t.2.2.2.2.2.1), some (.inl t.2.2.2.2.2.2.1), some (.inl t.2.2.2.2.2.2.2.1), some (.inl t.2.2.2.2.2.2.2.2.1), some (.inl t.2.2.2.2.2.2.2.2.2), none, none], [], t.1, X)) (fun s out hF hK0 hK1 => ?_) hl hK1
  exact t_X2_cheapestBribe_b77 hsk hd h1 hG (out := out) (fun s' e => hK0 s' e) (fun t' e => hK1 t' e) hF
theorem t_X2_cheapestBribe_l59_j198 {d n0 s0 nF sF : Nat} {X : MX} {r1 : Nat} {Ω : Nat → MS → Prop} {N : NN} {a4 : Int} {a5 : Int} {a6 : Int} {a7 : Int} {a8 : Int} {a9 : Int} {a10 : Int} (hsk : m_Sk X) (hd : 7 ≤ d) (h1 : m_isW X r1) (hG : m_G d yX2_cheapestBribe.cls yX2_cheapestBribe.name cX2_cheapestBribe 15 n0 s0 nF sF Ω) {out : ((NN × Int × Int × Int × Int × Int × Int × Int) ⊕ (NN × Int × Int × Int))} (hK0 : ∀ s' : (NN × Int × Int × Int × Int × Int × Int × Int), out = .inl s' → Ω 59 ([some (.inr (.inr 25)), some (.inr (.inr r1)), none, none, some (.inl (s'.2.1)), some (.inl (s'.2.2.1)), some (.inl (s'.2.2.2.1)), some (.inl (s'.2.2.2.2.1)), some (.inl (s'.2.2.2.2.2.1)), some (.inl (s'.2.2.2.2.2.2.1)), some (.inl (s'.2.2.2.2.2.2.2)), none, none, none, none], [], s'.1, X)) (hK1 : ∀ t : (NN × Int × Int × Int), out = .inr t → Ω 204 ([none, none, none, none, some (.inl t.2.1), none, none, none, some (.inl t.2.2.1), some (.inl t.2.2.2), none, none, none, none, none], [], t.1, X)) (hF : f_X2_cheapestBribe_l59_j198 X r1 N a4 a5 a6 a7 a8 a9 a10 = some out) : Ω 198 ([some (.inr (.inr 25)), some (.inr (.inr r1)), none, none, some (.inl a4), some (.inl a5), some (.inl a6), some (.inl a7), some (.inl a8), some (.inl a9), some (.inl a10), none, none, none, none], [], N, X) := by
  unfold f_X2_cheapestBribe_l59_j198 at hF
  refine s_iinc hG dX2_cheapestBribe_198 (by decide) rfl rfl ?_
  refine s_goto hG 59 dX2_cheapestBribe_201 (by decide) ?_
  cases hF
  exact hK0 _ rfl
theorem t_X2_cheapestBribe_l59_j190 {d n0 s0 nF sF : Nat} {X : MX} {r1 : Nat} {Ω : Nat → MS → Prop} {N : NN} {a4 : Int} {a5 : Int} {a6 : Int} {a7 : Int} {a10 : Int} {a12 : Int} (hsk : m_Sk X) (hd : 7 ≤ d) (h1 : m_isW X r1) (hG : m_G d yX2_cheapestBribe.cls yX2_cheapestBribe.name cX2_cheapestBribe 15 n0 s0 nF sF Ω) {out : ((NN × Int × Int × Int × Int × Int × Int × Int) ⊕ (NN × Int × Int × Int))} (hK0 : ∀ s' : (NN × Int × Int × Int × Int × Int × Int × Int), out = .inl s' → Ω 59 ([some (.inr (.inr 25)), some (.inr (.inr r1)), none, none, some (.inl (s'.2.1)), some (.inl (s'.2.2.1)), some (.inl (s'.2.2.2.1)), some (.inl (s'.2.2.2.2.1)), some (.inl (s'.2.2.2.2.2.1)), some (.inl (s'.2.2.2.2.2.2.1)), some (.inl (s'.2.2.2.2.2.2.2)), none, none, none, none], [], s'.1, X)) (hK1 : ∀ t : (NN × Int × Int × Int), out = .inr t → Ω 204 ([none, none, none, none, some (.inl t.2.1), none, none, none, some (.inl t.2.2.1), some (.inl t.2.2.2), none, none, none, none, none], [], t.1, X)) (hF : f_X2_cheapestBribe_l59_j190 X r1 N a4 a5 a6 a7 a10 a12 = some out) : Ω 190 ([some (.inr (.inr 25)), some (.inr (.inr r1)), none, none, some (.inl a4), some (.inl a5), some (.inl a6), some (.inl a7), none, none, some (.inl a10), none, some (.inl a12), none, none], [], N, X) := by
  unfold f_X2_cheapestBribe_l59_j190 at hF
  refine s_iload hG dX2_cheapestBribe_190 rfl ?_
  refine s_istore hG dX2_cheapestBribe_192 (by decide) rfl ?_
  refine s_iload hG dX2_cheapestBribe_194 rfl ?_
  refine s_istore hG dX2_cheapestBribe_196 (by decide) rfl ?_
  refine m_weak (ls1 := [some (.inr (.inr 25)), some (.inr (.inr r1)), none, none, some (.inl a4), some (.inl a5), some (.inl a6), some (.inl a7), some (.inl a12), some (.inl a10), some (.inl a10), none, none, none, none]) hG ⟨rfl, ⟨rfl, ⟨rfl, ⟨rfl, ⟨rfl, ⟨rfl, ⟨rfl, ⟨rfl, ⟨rfl, trivial⟩⟩⟩⟩⟩⟩⟩⟩⟩ ?_
  exact t_X2_cheapestBribe_l59_j198 hsk hd h1 hG hK0 hK1 hF
theorem t_X2_cheapestBribe_b59 {d n0 s0 nF sF : Nat} {X : MX} {r1 : Nat} {Ω : Nat → MS → Prop} {N : NN} {a4 : Int} {a5 : Int} {a6 : Int} {a7 : Int} {a8 : Int} {a9 : Int} {a10 : Int} (hsk : m_Sk X) (hd : 7 ≤ d) (h1 : m_isW X r1) (hG : m_G d yX2_cheapestBribe.cls yX2_cheapestBribe.name cX2_cheapestBribe 15 n0 s0 nF sF Ω) {out : ((NN × Int × Int × Int × Int × Int × Int × Int) ⊕ (NN × Int × Int × Int))} (hK0 : ∀ s' : (NN × Int × Int × Int × Int × Int × Int × Int), out = .inl s' → Ω 59 ([some (.inr (.inr 25)), some (.inr (.inr r1)), none, none, some (.inl (s'.2.1)), some (.inl (s'.2.2.1)), some (.inl (s'.2.2.2.1)), some (.inl (s'.2.2.2.2.1)), some (.inl (s'.2.2.2.2.2.1)), some (.inl (s'.2.2.2.2.2.2.1)), some (.inl (s'.2.2.2.2.2.2.2)), none, none, none, none], [], s'.1, X)) (hK1 : ∀ t : (NN × Int × Int × Int), out = .inr t → Ω 204 ([none, none, none, none, some (.inl t.2.1), none, none, none, some (.inl t.2.2.1), some (.inl t.2.2.2), none, none, none, none, none], [], t.1, X)) (hF : b_X2_cheapestBribe_59 X r1 N a4 a5 a6 a7 a8 a9 a10 = some out) : Ω 59 ([some (.inr (.inr 25)), some (.inr (.inr r1)), none, none, some (.inl a4), some (.inl a5), some (.inl a6), some (.inl a7), some (.inl a8), some (.inl a9), some (.inl a10), none, none, none, none], [], N, X) := by
  unfold b_X2_cheapestBribe_59 at hF
  refine s_iload hG dX2_cheapestBribe_59 rfl ?_
  refine s_iconst hG dX2_cheapestBribe_61 ⟨by decide, by decide⟩ ?_
  refine s_iload hG dX2_cheapestBribe_62 rfl ?_
  refine s_ishl hG dX2_cheapestBribe_64 ?_
  refine s_icmp_ge hG 204 dX2_cheapestBribe_65 (by decide) (fun c15 => ?_) (fun c15 => ?_)
  · replace hF := Eq.trans (if_pos c15).symm hF
    refine s_iconst hG dX2_cheapestBribe_68 ⟨by decide, by decide⟩ ?_
    refine s_istore hG dX2_cheapestBribe_69 (by decide) rfl ?_
    refine s_iconst hG dX2_cheapestBribe_71 ⟨by decide, by decide⟩ ?_
    refine s_istore hG dX2_cheapestBribe_72 (by decide) rfl ?_
    refine s_iconst hG dX2_cheapestBribe_74 ⟨by decide, by decide⟩ ?_
    refine s_istore hG dX2_cheapestBribe_75 (by decide) rfl ?_
    obtain ⟨o11, hlo11, hF⟩ := bd_some hF
    refine t_X2_cheapestBribe_lp77 hsk hd h1 hG ?_ hlo11
    refine s_iload hG dX2_cheapestBribe_170 rfl ?_
    refine s_iload hG dX2_cheapestBribe_172 rfl ?_
    refine s_icmp_lt hG 198 dX2_cheapestBribe_174 (by decide) (fun c14 => ?_) (fun c14 => ?_)
    · replace hF := Eq.trans (if_pos c14).symm hF
      refine m_weak (ls1 := [some (.inr (.inr 25)), some (.inr (.inr r1)), none, none, some (.inl o11.2.1), some (.inl o11.2.2.1), some (.inl o11.2.2.2.1), some (.inl o11.2.2.2.2.1), some (.inl o11.2.2.2.2.2.1), some (.inl o11.2.2.2.2.2.2.1), some (.inl o11.2.2.2.2.2.2.2.1), none, none, none, none]) hG ⟨rfl, ⟨rfl, ⟨rfl, ⟨rfl, ⟨rfl, ⟨rfl, ⟨rfl, ⟨rfl, ⟨rfl, trivial⟩⟩⟩⟩⟩⟩⟩⟩⟩ ?_
      exact t_X2_cheapestBribe_l59_j198 hsk hd h1 hG hK0 hK1 hF
    · replace hF := Eq.trans (if_neg c14).symm hF
      refine s_iload hG dX2_cheapestBribe_177 rfl ?_
      refine s_iconst hG dX2_cheapestBribe_179 ⟨by decide, by decide⟩ ?_
      refine s_icmp_eq hG 190 dX2_cheapestBribe_180 (by decide) (fun c13 => ?_) (fun c13 => ?_)
      · replace hF := Eq.trans (if_pos c13).symm hF
        refine m_weak (ls1 := [some (.inr (.inr 25)), some (.inr (.inr r1)), none, none, some (.inl o11.2.1), some (.inl o11.2.2.1), some (.inl o11.2.2.2.1), some (.inl o11.2.2.2.2.1), none, none, some (.inl o11.2.2.2.2.2.2.2.1), none, some (.inl o11.2.2.2.2.2.2.2.2.2), none, none]) hG ⟨rfl, ⟨rfl, ⟨rfl, ⟨rfl, ⟨rfl, ⟨rfl, ⟨rfl, ⟨rfl, trivial⟩⟩⟩⟩⟩⟩⟩⟩ ?_
        exact t_X2_cheapestBribe_l59_j190 hsk hd h1 hG hK0 hK1 hF
      · replace hF := Eq.trans (if_neg c13).symm hF
        refine s_iload hG dX2_cheapestBribe_183 rfl ?_
        refine s_iload hG dX2_cheapestBribe_185 rfl ?_
        refine s_icmp_ge hG 198 dX2_cheapestBribe_187 (by decide) (fun c12 => ?_) (fun c12 => ?_)
        · replace hF := Eq.trans (if_pos c12).symm hF
          refine m_weak (ls1 := [some (.inr (.inr 25)), some (.inr (.inr r1)), none, none, some (.inl o11.2.1), some (.inl o11.2.2.1), some (.inl o11.2.2.2.1), some (.inl o11.2.2.2.2.1), none, none, some (.inl o11.2.2.2.2.2.2.2.1), none, some (.inl o11.2.2.2.2.2.2.2.2.2), none, none]) hG ⟨rfl, ⟨rfl, ⟨rfl, ⟨rfl, ⟨rfl, ⟨rfl, ⟨rfl, ⟨rfl, trivial⟩⟩⟩⟩⟩⟩⟩⟩ ?_
          exact t_X2_cheapestBribe_l59_j190 hsk hd h1 hG hK0 hK1 hF
        · replace hF := Eq.trans (if_neg c12).symm hF
          refine m_weak (ls1 := [some (.inr (.inr 25)), some (.inr (.inr r1)), none, none, some (.inl o11.2.1), some (.inl o11.2.2.1), some (.inl o11.2.2.2.1), some (.inl o11.2.2.2.2.1), some (.inl o11.2.2.2.2.2.1), some (.inl o11.2.2.2.2.2.2.1), some (.inl o11.2.2.2.2.2.2.2.1), none, none, none, none]) hG ⟨rfl, ⟨rfl, ⟨rfl, ⟨rfl, ⟨rfl, ⟨rfl, ⟨rfl, ⟨rfl, ⟨rfl, trivial⟩⟩⟩⟩⟩⟩⟩⟩⟩ ?_
          exact t_X2_cheapestBribe_l59_j198 hsk hd h1 hG hK0 hK1 hF
  · replace hF := Eq.trans (if_neg c15).symm hF
    cases hF
    refine m_weak (ls1 := [none, none, none, none, some (.inl a4), none, none, none, some (.inl a8), some (.inl a9), none, none, none, none, none]) hG ⟨rfl, ⟨rfl, ⟨rfl, trivial⟩⟩⟩ ?_
    exact hK1 _ rfl
theorem t_X2_cheapestBribe_lp59 {d n0 s0 nF sF : Nat} {X : MX} {r1 : Nat} {Ω : Nat → MS → Prop} {N : NN} {a4 : Int} {a5 : Int} {a6 : Int} {a7 : Int} {a8 : Int} {a9 : Int} {a10 : Int} (hsk : m_Sk X) (hd : 7 ≤ d) (h1 : m_isW X r1) (hG : m_G d yX2_cheapestBribe.cls yX2_cheapestBribe.name cX2_cheapestBribe 15 n0 s0 nF sF Ω) {t : (NN × Int × Int × Int)} (hK1 : Ω 204 ([none, none, none, none, some (.inl t.2.1), none, none, none, some (.inl t.2.2.1), some (.inl t.2.2.2), none, none, none, none, none], [], t.1, X)) (hl : lp (fun s => b_X2_cheapestBribe_59 X r1 s.1 s.2.1 s.2.2.1 s.2.2.2.1 s.2.2.2.2.1 s.2.2.2.2.2.1 s.2.2.2.2.2.2.1 s.2.2.2.2.2.2.2) (N, a4, a5, a6, a7, a8, a9, a10) = some t) : Ω 59 ([some (.inr (.inr 25)), some (.inr (.inr r1)), none, none, some (.inl a4), some (.inl a5), some (.inl a6), some (.inl a7), some (.inl a8), some (.inl a9), some (.inl a10), none, none, none, none], [], N, X) := by
  refine lp_ok (P := fun s => Ω 59 ([some (.inr (.inr 25)), some (.inr (.inr r1)), none, none, some (.inl s.2.1), some (.inl s.2.2.1), some (.inl s.2.2.2.1), some (.inl s.2.2.2.2.1), some (.inl s.2.2.2.2.2.1), some (.inl s.2.2.2.2.2.2.1), some (.inl s.2.2.2.2.2.2.2), none, none, none, none], [], s.1, X)) (K := fun t => Ω 204 ([none, none, none, none, some (.inl t.2.1), none, none, none, some (.inl t.2.2.1), some (.inl t.2.2.2), none, none, none, none, none], [], t.1, X)) (fun s out hF hK0 hK1 => ?_) hl hK1
  exact t_X2_cheapestBribe_b59 hsk hd h1 hG (out := out) (fun s' e => hK0 s' e) (fun t' e => hK1 t' e) hF
theorem t_X2_cheapestBribe_j29 {d n0 s0 nF sF : Nat} {X : MX} {r1 : Nat} {Ω : Nat → MS → Prop} {N : NN} (hsk : m_Sk X) (hd : 7 ≤ d) (h1 : m_isW X r1) (hG : m_G d yX2_cheapestBribe.cls yX2_cheapestBribe.name cX2_cheapestBribe 15 n0 s0 nF sF Ω) {out : (Int × NN)} (hE : m_Gd d yX2_cheapestBribe cX2_cheapestBribe 15 (some .int) X (some (.inl out.1)) out.2 X Ω) (hF : f_X2_cheapestBribe_j29 X r1 N = some out) : Ω 29 ([none, none, none, none, none, none, none, none, none, none, none, none, none, none, none], [], N, X) := by
  unfold f_X2_cheapestBribe_j29 at hF
  refine s_iconst hG dX2_cheapestBribe_29 ⟨by decide, by decide⟩ ?_
  cases hF
  exact s_iret hE dX2_cheapestBribe_30 rfl
theorem t_X2_cheapestBribe_j216 {d n0 s0 nF sF : Nat} {X : MX} {r1 : Nat} {Ω : Nat → MS → Prop} {N : NN} {z0 : Int} (hsk : m_Sk X) (hd : 7 ≤ d) (h1 : m_isW X r1) (hG : m_G d yX2_cheapestBribe.cls yX2_cheapestBribe.name cX2_cheapestBribe 15 n0 s0 nF sF Ω) {out : (Int × NN)} (hE : m_Gd d yX2_cheapestBribe cX2_cheapestBribe 15 (some .int) X (some (.inl out.1)) out.2 X Ω) (hF : f_X2_cheapestBribe_j216 X r1 N z0 = some out) : Ω 216 ([none, none, none, none, none, none, none, none, none, none, none, none, none, none, none], [(.inl z0)], N, X) := by
  unfold f_X2_cheapestBribe_j216 at hF
  cases hF
  exact s_iret hE dX2_cheapestBribe_216 rfl
theorem t_X2_cheapestBribe {d : Nat} {X : MX} {r1 : Nat} {N : NN} {a2 : Int} {a3 : Int} {a4 : Int} {out : (Int × NN)} (hsk : m_Sk X) (hd : 7 ≤ d) (h1 : m_isW X r1) (hF : f_X2_cheapestBribe X r1 N a2 a3 a4 = some out) : m_Call d yX2_cheapestBribe cX2_cheapestBribe 15 (some .int) [(.inr (.inr 25)), (.inr (.inr r1)), (.inl a2), (.inl a3), (.inl a4)] N X (some (.inl out.1)) out.2 X := by
  refine m_mk (ls0 := [some (.inr (.inr 25)), some (.inr (.inr r1)), some (.inl a2), some (.inl a3), some (.inl a4), none, none, none, none, none, none, none, none, none, none]) (by decide) rfl (Nat.le_of_ble_eq_true rfl) (Nat.le_refl _) (Nat.le_refl _) (fun Ω hE => ?_)
  have hG := hE.G
  unfold f_X2_cheapestBribe at hF
  refine s_aload_n hG dX2_cheapestBribe_0 rfl ?_
  refine s_aload_n hG dX2_cheapestBribe_1 rfl ?_
  refine s_iload_n hG dX2_cheapestBribe_2 rfl ?_
  obtain ⟨o1, ho1, hF⟩ := bd_some hF
  refine s_callV (d' := d - 1) (ci := 2) (args := [.inr (.inr r1), .inl a3]) hG (by omega) dX2_cheapestBribe_3 cv_RX2_82 cw_X2_middle rfl rfl (sk_k hsk 25 rfl) (Nat.le_of_ble_eq_true rfl) rfl (t_X2_middle hsk (by omega) h1 ho1) ?_
  refine s_iconst hG dX2_cheapestBribe_6 ⟨by decide, by decide⟩ ?_
  refine s_iadd hG dX2_cheapestBribe_7 ?_
  refine s_istore hG dX2_cheapestBribe_8 (by decide) rfl ?_
  refine s_iload hG dX2_cheapestBribe_10 rfl ?_
  refine s_sipush hG dX2_cheapestBribe_12 sp_999 ⟨by decide, by decide⟩ ?_
  refine s_icmp_gt hG 29 dX2_cheapestBribe_15 (by decide) (fun c20 => ?_) (fun c20 => ?_)
  · replace hF := Eq.trans (if_pos c20).symm hF
    refine m_weak (ls1 := [none, none, none, none, none, none, none, none, none, none, none, none, none, none, none]) hG trivial ?_
    exact t_X2_cheapestBribe_j29 hsk hd h1 hG hE hF
  · replace hF := Eq.trans (if_neg c20).symm hF
    refine s_iload hG dX2_cheapestBribe_18 rfl ?_
    refine s_if_lt hG 29 dX2_cheapestBribe_20 (by decide) (fun c19 => ?_) (fun c19 => ?_)
    · replace hF := Eq.trans (if_pos c19).symm hF
      refine m_weak (ls1 := [none, none, none, none, none, none, none, none, none, none, none, none, none, none, none]) hG trivial ?_
      exact t_X2_cheapestBribe_j29 hsk hd h1 hG hE hF
    · replace hF := Eq.trans (if_neg c19).symm hF
      refine s_iload hG dX2_cheapestBribe_23 rfl ?_
      refine s_iconst hG dX2_cheapestBribe_25 ⟨by decide, by decide⟩ ?_
      refine s_icmp_le hG 31 dX2_cheapestBribe_26 (by decide) (fun c18 => ?_) (fun c18 => ?_)
      · replace hF := Eq.trans (if_pos c18).symm hF
        refine m_weak (ls1 := [none, none, none, none, none, none, none, none, none, none, none, none, none, none, none]) hG trivial ?_
        exact t_X2_cheapestBribe_j29 hsk hd h1 hG hE hF
      · replace hF := Eq.trans (if_neg c18).symm hF
        refine s_aload_n hG dX2_cheapestBribe_31 rfl ?_
        refine s_aload_n hG dX2_cheapestBribe_32 rfl ?_
        refine s_iload_n hG dX2_cheapestBribe_33 rfl ?_
        obtain ⟨o2, ho2, hF⟩ := bd_some hF
        refine s_callV (d' := d - 1) (ci := 2) (args := [.inr (.inr r1), .inl a2]) hG (by omega) dX2_cheapestBribe_34 cv_RX2_78 cw_X2_hear rfl rfl (sk_k hsk 25 rfl) (Nat.le_of_ble_eq_true rfl) rfl (t_X2_hear hsk (by omega) h1 ho2) ?_
        refine s_istore hG dX2_cheapestBribe_37 (by decide) rfl ?_
        refine s_iload hG dX2_cheapestBribe_39 rfl ?_
        refine s_iload hG dX2_cheapestBribe_41 rfl ?_
        refine s_iconst hG dX2_cheapestBribe_43 ⟨by decide, by decide⟩ ?_
        refine s_isub hG dX2_cheapestBribe_44 ?_
        refine s_iconst hG dX2_cheapestBribe_45 ⟨by decide, by decide⟩ ?_
        refine s_idiv hG dX2_cheapestBribe_46 (by decide) ?_
        refine s_isub hG dX2_cheapestBribe_47 ?_
        refine s_istore hG dX2_cheapestBribe_48 (by decide) rfl ?_
        refine s_iconst hG dX2_cheapestBribe_50 ⟨by decide, by decide⟩ ?_
        refine s_istore hG dX2_cheapestBribe_51 (by decide) rfl ?_
        refine s_iconst hG dX2_cheapestBribe_53 ⟨by decide, by decide⟩ ?_
        refine s_istore hG dX2_cheapestBribe_54 (by decide) rfl ?_
        refine s_iconst hG dX2_cheapestBribe_56 ⟨by decide, by decide⟩ ?_
        refine s_istore hG dX2_cheapestBribe_57 (by decide) rfl ?_
        obtain ⟨o16, hlo16, hF⟩ := bd_some hF
        refine m_weak (ls1 := [some (.inr (.inr 25)), some (.inr (.inr r1)), none, none, some (.inl a4), some (.inl (m_w (o1.1 + 1))), some (.inl o2.1), some (.inl (m_w (o2.1 - (m_div (m_w (o2.1 - 1)) 2)))), some (.inl (-1)), some (.inl 0), some (.inl 0), none, none, none, none]) hG ⟨rfl, ⟨rfl, ⟨rfl, ⟨rfl, ⟨rfl, ⟨rfl, ⟨rfl, ⟨rfl, ⟨rfl, trivial⟩⟩⟩⟩⟩⟩⟩⟩⟩ ?_
        refine t_X2_cheapestBribe_lp59 hsk hd h1 hG ?_ hlo16
        refine s_iload hG dX2_cheapestBribe_204 rfl ?_
        refine s_if_ne hG 214 dX2_cheapestBribe_206 (by decide) (fun c17 => ?_) (fun c17 => ?_)
        · replace hF := Eq.trans (if_pos c17).symm hF
          refine s_iload hG dX2_cheapestBribe_209 rfl ?_
          refine s_goto hG 216 dX2_cheapestBribe_211 (by decide) ?_
          refine m_weak (ls1 := [none, none, none, none, none, none, none, none, none, none, none, none, none, none, none]) hG trivial ?_
          exact t_X2_cheapestBribe_j216 hsk hd h1 hG hE hF
        · replace hF := Eq.trans (if_neg c17).symm hF
          refine s_iload hG dX2_cheapestBribe_214 rfl ?_
          refine m_weak (ls1 := [none, none, none, none, none, none, none, none, none, none, none, none, none, none, none]) hG trivial ?_
          exact t_X2_cheapestBribe_j216 hsk hd h1 hG hE hF
-- X11_bribe
theorem t_X11_bribe_j38 {d n0 s0 nF sF : Nat} {X : MX} {Ω : Nat → MS → Prop} {N : NN} (hsk : m_Sk X) (hd : 8 ≤ d) (hG : m_G d yX11_bribe.cls yX11_bribe.name cX11_bribe 4 n0 s0 nF sF Ω) {out : (Int × NN)} (hE : m_Gd d yX11_bribe cX11_bribe 4 (some .int) X (some (.inl out.1)) out.2 X Ω) (hF : f_X11_bribe_j38 X N = some out) : Ω 38 ([none, none, none, none], [], N, X) := by
  unfold f_X11_bribe_j38 at hF
  refine s_iconst hG dX11_bribe_38 ⟨by decide, by decide⟩ ?_
  cases hF
  exact s_iret hE dX11_bribe_39 rfl
theorem t_X11_bribe {d : Nat} {X : MX} {N : NN} {a1 : Int} {a2 : Int} {a3 : Int} {out : (Int × NN)} (hsk : m_Sk X) (hd : 8 ≤ d) (hF : f_X11_bribe X N a1 a2 a3 = some out) : m_Call d yX11_bribe cX11_bribe 4 (some .int) [(.inr (.inr 3)), (.inl a1), (.inl a2), (.inl a3)] N X (some (.inl out.1)) out.2 X := by
  refine m_mk (ls0 := [some (.inr (.inr 3)), some (.inl a1), some (.inl a2), some (.inl a3)]) (by decide) rfl (Nat.le_of_ble_eq_true rfl) (Nat.le_refl _) (Nat.le_refl _) (fun Ω hE => ?_)
  have hG := hE.G
  unfold f_X11_bribe at hF
  refine s_aload_n hG dX11_bribe_0 rfl ?_
  refine s_getr (r := 4) hG dX11_bribe_1 fl_RX11_10 (sk_k hsk 3 rfl) rfl (sk_R hsk 3 0 rfl) ?_
  refine s_iload_n hG dX11_bribe_4 rfl ?_
  obtain ⟨o1, ho1, hF⟩ := bd_some hF
  refine s_callV (d' := d - 1) (ci := 10) (args := [.inl a1]) hG (by omega) dX11_bribe_5 cv_RX11_146 cw_X10_isGood rfl rfl (sk_k hsk 4 rfl) (Nat.le_of_ble_eq_true rfl) rfl (t_X10_isGood hsk (by omega) (sk_W4 hsk) ho1) ?_
  refine s_if_eq hG 38 dX11_bribe_8 (by decide) (fun c8 => ?_) (fun c8 => ?_)
  · replace hF := Eq.trans (if_pos c8).symm hF
    refine m_weak (ls1 := [none, none, none, none]) hG trivial ?_
    exact t_X11_bribe_j38 hsk hd hG hE hF
  · replace hF := Eq.trans (if_neg c8).symm hF
    refine s_aload_n hG dX11_bribe_11 rfl ?_
    refine s_getr (r := 4) hG dX11_bribe_12 fl_RX11_10 (sk_k hsk 3 rfl) rfl (sk_R hsk 3 0 rfl) ?_
    refine s_iload_n hG dX11_bribe_15 rfl ?_
    obtain ⟨o2, ho2, hF⟩ := bd_some hF
    refine s_callV (d' := d - 1) (ci := 10) (args := [.inl a2]) hG (by omega) dX11_bribe_16 cv_RX11_146 cw_X10_isGood rfl rfl (sk_k hsk 4 rfl) (Nat.le_of_ble_eq_true rfl) rfl (t_X10_isGood hsk (by omega) (sk_W4 hsk) ho2) ?_
    refine s_if_eq hG 38 dX11_bribe_19 (by decide) (fun c7 => ?_) (fun c7 => ?_)
    · replace hF := Eq.trans (if_pos c7).symm hF
      refine m_weak (ls1 := [none, none, none, none]) hG trivial ?_
      exact t_X11_bribe_j38 hsk hd hG hE hF
    · replace hF := Eq.trans (if_neg c7).symm hF
      refine s_iload_n hG dX11_bribe_22 rfl ?_
      refine s_iload_n hG dX11_bribe_23 rfl ?_
      refine s_icmp_eq hG 38 dX11_bribe_24 (by decide) (fun c6 => ?_) (fun c6 => ?_)
      · replace hF := Eq.trans (if_pos c6).symm hF
        refine m_weak (ls1 := [none, none, none, none]) hG trivial ?_
        exact t_X11_bribe_j38 hsk hd hG hE hF
      · replace hF := Eq.trans (if_neg c6).symm hF
        refine s_aload_n hG dX11_bribe_27 rfl ?_
        refine s_getr (r := 4) hG dX11_bribe_28 fl_RX11_10 (sk_k hsk 3 rfl) rfl (sk_R hsk 3 0 rfl) ?_
        refine s_iconst hG dX11_bribe_31 ⟨by decide, by decide⟩ ?_
        obtain ⟨o3, ho3, hF⟩ := bd_some hF
        refine s_callV (d' := d - 1) (ci := 10) (args := [.inl 2]) hG (by omega) dX11_bribe_32 cv_RX11_108 cw_X10_many rfl rfl (sk_k hsk 4 rfl) (Nat.le_of_ble_eq_true rfl) rfl (t_X10_many hsk (by omega) (sk_W4 hsk) ho3) ?_
        refine s_if_ne hG 40 dX11_bribe_35 (by decide) (fun c5 => ?_) (fun c5 => ?_)
        · replace hF := Eq.trans (if_pos c5).symm hF
          refine m_weak (ls1 := [none, none, none, none]) hG trivial ?_
          exact t_X11_bribe_j38 hsk hd hG hE hF
        · replace hF := Eq.trans (if_neg c5).symm hF
          refine s_aload_n hG dX11_bribe_40 rfl ?_
          refine s_getr (r := 25) hG dX11_bribe_41 fl_RX11_39 (sk_k hsk 3 rfl) rfl (sk_R hsk 3 5 rfl) ?_
          refine s_aload_n hG dX11_bribe_44 rfl ?_
          refine s_getr (r := 4) hG dX11_bribe_45 fl_RX11_10 (sk_k hsk 3 rfl) rfl (sk_R hsk 3 0 rfl) ?_
          refine s_iload_n hG dX11_bribe_48 rfl ?_
          refine s_iload_n hG dX11_bribe_49 rfl ?_
          refine s_iload_n hG dX11_bribe_50 rfl ?_
          obtain ⟨o4, ho4, hF⟩ := bd_some hF
          refine s_callV (d' := d - 1) (ci := 2) (args := [.inr (.inr 4), .inl a1, .inl a2, .inl a3]) hG (by omega) dX11_bribe_51 cv_RX11_272 cw_X2_cheapestBribe rfl rfl (sk_k hsk 25 rfl) (Nat.le_of_ble_eq_true rfl) rfl (t_X2_cheapestBribe hsk (by omega) (sk_W4 hsk) ho4) ?_
          cases hF
          exact s_iret hE dX11_bribe_54 rfl
-- X11_comes
theorem t_X11_comes_j59 {d n0 s0 nF sF : Nat} {X : MX} {Ω : Nat → MS → Prop} {N : NN} {a4 : Int} (hsk : m_Sk X) (hd : 2 ≤ d) (hG : m_G d yX11_comes.cls yX11_comes.name cX11_comes 5 n0 s0 nF sF Ω) {out : (Int × NN)} (hE : m_Gd d yX11_comes cX11_comes 5 (some .boolean) X (some (.inl out.1)) out.2 X Ω) (hF : f_X11_comes_j59 X N a4 = some out) : Ω 59 ([none, none, none, none, some (.inl a4)], [], N, X) := by
  unfold f_X11_comes_j59 at hF
  refine s_iload hG dX11_comes_59 rfl ?_
  obtain ⟨g9, hF⟩ := gd_some hF
  cases hF
  exact s_zret hE dX11_comes_61 rfl g9
theorem t_X11_comes_j41 {d n0 s0 nF sF : Nat} {X : MX} {Ω : Nat → MS → Prop} {N : NN} {a1 : Int} {a2 : Int} {a3 : Int} {z0 : Int} (hsk : m_Sk X) (hd : 2 ≤ d) (hG : m_G d yX11_comes.cls yX11_comes.name cX11_comes 5 n0 s0 nF sF Ω) {out : (Int × NN)} (hE : m_Gd d yX11_comes cX11_comes 5 (some .boolean) X (some (.inl out.1)) out.2 X Ω) (hF : f_X11_comes_j41 X N a1 a2 a3 z0 = some out) : Ω 41 ([some (.inr (.inr 3)), some (.inl a1), some (.inl a2), some (.inl a3), none], [(.inl z0)], N, X) := by
  unfold f_X11_comes_j41 at hF
  refine s_istore hG dX11_comes_41 (by decide) rfl ?_
  refine s_iload hG dX11_comes_43 rfl ?_
  refine s_if_eq hG 59 dX11_comes_45 (by decide) (fun c8 => ?_) (fun c8 => ?_)
  · replace hF := Eq.trans (if_pos c8).symm hF
    refine m_weak (ls1 := [none, none, none, none, some (.inl z0)]) hG ⟨rfl, trivial⟩ ?_
    exact t_X11_comes_j59 hsk hd hG hE hF
  · replace hF := Eq.trans (if_neg c8).symm hF
    refine s_aload_n hG dX11_comes_48 rfl ?_
    refine s_getr (r := 4) hG dX11_comes_49 fl_RX11_10 (sk_k hsk 3 rfl) rfl (sk_R hsk 3 0 rfl) ?_
    refine s_iload_n hG dX11_comes_52 rfl ?_
    refine s_iload_n hG dX11_comes_53 rfl ?_
    refine s_iload_n hG dX11_comes_54 rfl ?_
    obtain ⟨o7, ho7, hF⟩ := bd_some hF
    refine s_callV (d' := d - 1) (ci := 10) (args := [.inl a1, .inl a2, .inl a3]) hG (by omega) dX11_comes_55 cv_RX11_142 cw_X10_addGood rfl rfl (sk_k hsk 4 rfl) (Nat.le_of_ble_eq_true rfl) rfl (t_X10_addGood hsk (by omega) (sk_W4 hsk) ho7) ?_
    refine s_pop hG dX11_comes_58 rfl ?_
    refine m_weak (ls1 := [none, none, none, none, some (.inl z0)]) hG ⟨rfl, trivial⟩ ?_
    exact t_X11_comes_j59 hsk hd hG hE hF
theorem t_X11_comes_j40 {d n0 s0 nF sF : Nat} {X : MX} {Ω : Nat → MS → Prop} {N : NN} {a1 : Int} {a2 : Int} {a3 : Int} (hsk : m_Sk X) (hd : 2 ≤ d) (hG : m_G d yX11_comes.cls yX11_comes.name cX11_comes 5 n0 s0 nF sF Ω) {out : (Int × NN)} (hE : m_Gd d yX11_comes cX11_comes 5 (some .boolean) X (some (.inl out.1)) out.2 X Ω) (hF : f_X11_comes_j40 X N a1 a2 a3 = some out) : Ω 40 ([some (.inr (.inr 3)), some (.inl a1), some (.inl a2), some (.inl a3), none], [], N, X) := by
  unfold f_X11_comes_j40 at hF
  refine s_iconst hG dX11_comes_40 ⟨by decide, by decide⟩ ?_
  exact t_X11_comes_j41 hsk hd hG hE hF
theorem t_X11_comes {d : Nat} {X : MX} {N : NN} {a1 : Int} {a2 : Int} {a3 : Int} {out : (Int × NN)} (hsk : m_Sk X) (hd : 2 ≤ d) (hF : f_X11_comes X N a1 a2 a3 = some out) : m_Call d yX11_comes cX11_comes 5 (some .boolean) [(.inr (.inr 3)), (.inl a1), (.inl a2), (.inl a3)] N X (some (.inl out.1)) out.2 X := by
  refine m_mk (ls0 := [some (.inr (.inr 3)), some (.inl a1), some (.inl a2), some (.inl a3), none]) (by decide) rfl (Nat.le_of_ble_eq_true rfl) (Nat.le_refl _) (Nat.le_refl _) (fun Ω hE => ?_)
  have hG := hE.G
  unfold f_X11_comes at hF
  refine s_aload_n hG dX11_comes_0 rfl ?_
  refine s_getr (r := 4) hG dX11_comes_1 fl_RX11_10 (sk_k hsk 3 rfl) rfl (sk_R hsk 3 0 rfl) ?_
  refine s_iload_n hG dX11_comes_4 rfl ?_
  obtain ⟨o1, ho1, hF⟩ := bd_some hF
  refine s_callV (d' := d - 1) (ci := 10) (args := [.inl a1]) hG (by omega) dX11_comes_5 cv_RX11_121 cw_X10_isLord rfl rfl (sk_k hsk 4 rfl) (Nat.le_of_ble_eq_true rfl) rfl (t_X10_isLord hsk (by omega) (sk_W4 hsk) ho1) ?_
  refine s_if_eq hG 40 dX11_comes_8 (by decide) (fun c6 => ?_) (fun c6 => ?_)
  · replace hF := Eq.trans (if_pos c6).symm hF
    exact t_X11_comes_j40 hsk hd hG hE hF
  · replace hF := Eq.trans (if_neg c6).symm hF
    refine s_iload_n hG dX11_comes_11 rfl ?_
    refine s_bipush hG dX11_comes_12 bp_99 ⟨by decide, by decide⟩ ?_
    refine s_icmp_gt hG 40 dX11_comes_14 (by decide) (fun c5 => ?_) (fun c5 => ?_)
    · replace hF := Eq.trans (if_pos c5).symm hF
      exact t_X11_comes_j40 hsk hd hG hE hF
    · replace hF := Eq.trans (if_neg c5).symm hF
      refine s_iload_n hG dX11_comes_17 rfl ?_
      refine s_bipush hG dX11_comes_18 bp_20 ⟨by decide, by decide⟩ ?_
      refine s_icmp_gt hG 40 dX11_comes_20 (by decide) (fun c4 => ?_) (fun c4 => ?_)
      · replace hF := Eq.trans (if_pos c4).symm hF
        exact t_X11_comes_j40 hsk hd hG hE hF
      · replace hF := Eq.trans (if_neg c4).symm hF
        refine s_aload_n hG dX11_comes_23 rfl ?_
        refine s_getr (r := 4) hG dX11_comes_24 fl_RX11_10 (sk_k hsk 3 rfl) rfl (sk_R hsk 3 0 rfl) ?_
        refine s_iconst hG dX11_comes_27 ⟨by decide, by decide⟩ ?_
        obtain ⟨o2, ho2, hF⟩ := bd_some hF
        refine s_callV (d' := d - 1) (ci := 10) (args := [.inl 1]) hG (by omega) dX11_comes_28 cv_RX11_108 cw_X10_many rfl rfl (sk_k hsk 4 rfl) (Nat.le_of_ble_eq_true rfl) rfl (t_X10_many hsk (by omega) (sk_W4 hsk) ho2) ?_
        refine s_bipush hG dX11_comes_31 bp_16 ⟨by decide, by decide⟩ ?_
        refine s_icmp_ge hG 40 dX11_comes_33 (by decide) (fun c3 => ?_) (fun c3 => ?_)
        · replace hF := Eq.trans (if_pos c3).symm hF
          refine s_iconst hG dX11_comes_36 ⟨by decide, by decide⟩ ?_
          refine s_goto hG 41 dX11_comes_37 (by decide) ?_
          exact t_X11_comes_j41 hsk hd hG hE hF
        · replace hF := Eq.trans (if_neg c3).symm hF
          exact t_X11_comes_j40 hsk hd hG hE hF
