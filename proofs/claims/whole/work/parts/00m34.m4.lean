-- X7_fallOf
theorem t_X7_fallOf_b31 {d n0 s0 nF sF : Nat} {X : MX} {r1 : Nat} {Ω : Nat → MS → Prop} {N : NN} {a2 : Int} {a3 : Int} {a4 : Int} {a5 : Int} {a6 : Int} (hsk : m_Sk X) (hd : 5 ≤ d) (h1 : m_isW X r1) (hG : m_G d yX7_fallOf.cls yX7_fallOf.name cX7_fallOf 7 n0 s0 nF sF Ω) {out : ((NN × Int × Int × Int × Int × Int) ⊕ (NN ⊕ (NN × Int)))} (hK0 : ∀ s' : (NN × Int × Int × Int × Int × Int), out = .inl s' → Ω 31 ([some (.inr (.inr 48)), some (.inr (.inr r1)), some (.inl (s'.2.1)), some (.inl (s'.2.2.1)), some (.inl (s'.2.2.2.1)), some (.inl (s'.2.2.2.2.1)), some (.inl (s'.2.2.2.2.2))], [], s'.1, X)) (hK1 : ∀ t : (NN ⊕ (NN × Int)), out = .inr t → match t with | .inl e => Ω 87 ([none, none, none, none, none, none, none], [], e, X) | .inr e => Ω 78 ([none, none, none, none, none, none, some (.inl e.2)], [], e.1, X)) (hF : b_X7_fallOf_31 X r1 N a2 a3 a4 a5 a6 = some out) : Ω 31 ([some (.inr (.inr 48)), some (.inr (.inr r1)), some (.inl a2), some (.inl a3), some (.inl a4), some (.inl a5), some (.inl a6)], [], N, X) := by
  unfold b_X7_fallOf_31 at hF
  refine s_iload hG dX7_fallOf_31 rfl ?_
  refine s_iload hG dX7_fallOf_33 rfl ?_
  refine s_iload_n hG dX7_fallOf_35 rfl ?_
  refine s_iadd hG dX7_fallOf_36 ?_
  refine s_icmp_gt hG 87 dX7_fallOf_37 (by decide) (fun c7 => ?_) (fun c7 => ?_)
  · replace hF := Eq.trans (if_pos c7).symm hF
    cases hF
    refine m_weak (ls1 := [none, none, none, none, none, none, none]) hG trivial ?_
    exact hK1 _ rfl
  · replace hF := Eq.trans (if_neg c7).symm hF
    refine s_sipush hG dX7_fallOf_40 sp_9999 ⟨by decide, by decide⟩ ?_
    refine s_iload hG dX7_fallOf_43 rfl ?_
    refine s_aload_n hG dX7_fallOf_45 rfl ?_
    refine s_iload_n hG dX7_fallOf_46 rfl ?_
    refine s_iconst hG dX7_fallOf_47 ⟨by decide, by decide⟩ ?_
    obtain ⟨o4, ho4, hF⟩ := bd_some hF
    refine s_callV (d' := d - 1) (ci := 10) (args := [.inl a2, .inl 1]) hG (by omega) dX7_fallOf_48 cv_RX7_44 cw_X10_lordAt rfl rfl h1.1 (Nat.le_of_ble_eq_true rfl) rfl (t_X10_lordAt hsk (by omega) h1 ho4) ?_
    refine s_iadd hG dX7_fallOf_51 ?_
    refine s_min hG (by omega) dX7_fallOf_52 ml_RX7_52 lk_min_s lk_math lk_min_c (Nat.le_of_ble_eq_true rfl) ?_
    refine s_istore hG dX7_fallOf_55 (by decide) rfl ?_
    refine s_iload hG dX7_fallOf_57 rfl ?_
    refine s_aload_n hG dX7_fallOf_59 rfl ?_
    refine s_getr (r := 25) hG dX7_fallOf_60 fl_RX7_34 (sk_k hsk 48 rfl) rfl (sk_R hsk 48 0 rfl) ?_
    refine s_aload_n hG dX7_fallOf_63 rfl ?_
    refine s_iload_n hG dX7_fallOf_64 rfl ?_
    refine s_iload hG dX7_fallOf_65 rfl ?_
    obtain ⟨o5, ho5, hF⟩ := bd_some hF
    refine s_callV (d' := d - 1) (ci := 2) (args := [.inr (.inr r1), .inl a2, .inl a6]) hG (by omega) dX7_fallOf_67 cv_RX7_57 cw_X2_upkeep rfl rfl (sk_k hsk 25 rfl) (Nat.le_of_ble_eq_true rfl) rfl (t_X2_upkeep hsk (by omega) h1 ho5) ?_
    refine s_isub hG dX7_fallOf_70 ?_
    refine s_istore hG dX7_fallOf_71 (by decide) rfl ?_
    refine s_iload hG dX7_fallOf_73 rfl ?_
    refine s_if_ge hG 81 dX7_fallOf_75 (by decide) (fun c6 => ?_) (fun c6 => ?_)
    · replace hF := Eq.trans (if_pos c6).symm hF
      cases hF
      refine m_weak (ls1 := [none, none, none, none, none, none, some (.inl a6)]) hG ⟨rfl, trivial⟩ ?_
      exact hK1 _ rfl
    · replace hF := Eq.trans (if_neg c6).symm hF
      refine s_iinc hG dX7_fallOf_81 (by decide) rfl rfl ?_
      refine s_goto hG 31 dX7_fallOf_84 (by decide) ?_
      cases hF
      exact hK0 _ rfl
theorem t_X7_fallOf_lp31 {d n0 s0 nF sF : Nat} {X : MX} {r1 : Nat} {Ω : Nat → MS → Prop} {N : NN} {a2 : Int} {a3 : Int} {a4 : Int} {a5 : Int} {a6 : Int} (hsk : m_Sk X) (hd : 5 ≤ d) (h1 : m_isW X r1) (hG : m_G d yX7_fallOf.cls yX7_fallOf.name cX7_fallOf 7 n0 s0 nF sF Ω) {t : (NN ⊕ (NN × Int))} (hK1 : match t with | .inl e => Ω 87 ([none, none, none, none, none, none, none], [], e, X) | .inr e => Ω 78 ([none, none, none, none, none, none, some (.inl e.2)], [], e.1, X)) (hl : lp (fun s => b_X7_fallOf_31 X r1 s.1 s.2.1 s.2.2.1 s.2.2.2.1 s.2.2.2.2.1 s.2.2.2.2.2) (N, a2, a3, a4, a5, a6) = some t) : Ω 31 ([some (.inr (.inr 48)), some (.inr (.inr r1)), some (.inl a2), some (.inl a3), some (.inl a4), some (.inl a5), some (.inl a6)], [], N, X) := by
  refine lp_ok (P := fun s => Ω 31 ([some (.inr (.inr 48)), some (.inr (.inr r1)), some (.inl s.2.1), some (.inl s.2.2.1), some (.inl s.2.2.2.1), some (.inl s.2.2.2.2.1), some (.inl s.2.2.2.2.2)], [], s.1, X)) (K := fun t => match t with | .inl e => Ω 87 ([none, none, none, none, none, none, none], [], e, X) | .inr e => Ω 78 ([none, none, none, none, none, none, some (.inl e.2)], [], e.1, X)) (fun s out hF hK0 hK1 => ?_) hl hK1
  exact t_X7_fallOf_b31 hsk hd h1 hG (out := out) (fun s' e => hK0 s' e) (fun t' e => hK1 t' e) hF
theorem t_X7_fallOf {d : Nat} {X : MX} {r1 : Nat} {N : NN} {a2 : Int} {a3 : Int} {out : (Int × NN)} (hsk : m_Sk X) (hd : 5 ≤ d) (h1 : m_isW X r1) (hF : f_X7_fallOf X r1 N a2 a3 = some out) : m_Call d yX7_fallOf cX7_fallOf 7 (some .int) [(.inr (.inr 48)), (.inr (.inr r1)), (.inl a2), (.inl a3)] N X (some (.inl out.1)) out.2 X := by
  refine m_mk (ls0 := [some (.inr (.inr 48)), some (.inr (.inr r1)), some (.inl a2), some (.inl a3), none, none, none]) (by decide) rfl (Nat.le_of_ble_eq_true rfl) (Nat.le_refl _) (Nat.le_refl _) (fun Ω hE => ?_)
  have hG := hE.G
  unfold f_X7_fallOf at hF
  refine s_aload_n hG dX7_fallOf_0 rfl ?_
  refine s_iload_n hG dX7_fallOf_1 rfl ?_
  obtain ⟨o1, ho1, hF⟩ := bd_some hF
  refine s_callV (d' := d - 1) (ci := 10) (args := [.inl a2]) hG (by omega) dX7_fallOf_2 cv_RX7_38 cw_X10_isRuined rfl rfl h1.1 (Nat.le_of_ble_eq_true rfl) rfl (t_X10_isRuined hsk (by omega) h1 ho1) ?_
  refine s_if_eq hG 10 dX7_fallOf_5 (by decide) (fun c9 => ?_) (fun c9 => ?_)
  · replace hF := Eq.trans (if_pos c9).symm hF
    refine s_aload_n hG dX7_fallOf_10 rfl ?_
    refine s_iload_n hG dX7_fallOf_11 rfl ?_
    refine s_iconst hG dX7_fallOf_12 ⟨by decide, by decide⟩ ?_
    obtain ⟨o2, ho2, hF⟩ := bd_some hF
    refine s_callV (d' := d - 1) (ci := 10) (args := [.inl a2, .inl 0]) hG (by omega) dX7_fallOf_13 cv_RX7_44 cw_X10_lordAt rfl rfl h1.1 (Nat.le_of_ble_eq_true rfl) rfl (t_X10_lordAt hsk (by omega) h1 ho2) ?_
    refine s_istore hG dX7_fallOf_16 (by decide) rfl ?_
    refine s_aload_n hG dX7_fallOf_18 rfl ?_
    refine s_iconst hG dX7_fallOf_19 ⟨by decide, by decide⟩ ?_
    obtain ⟨o3, ho3, hF⟩ := bd_some hF
    refine s_callV (d' := d - 1) (ci := 10) (args := [.inl 0]) hG (by omega) dX7_fallOf_20 cv_RX7_48 cw_X10_term rfl rfl h1.1 (Nat.le_of_ble_eq_true rfl) rfl (t_X10_term hsk (by omega) h1 ho3) ?_
    refine s_istore hG dX7_fallOf_23 (by decide) rfl ?_
    refine s_iload hG dX7_fallOf_25 rfl ?_
    refine s_iconst hG dX7_fallOf_27 ⟨by decide, by decide⟩ ?_
    refine s_iadd hG dX7_fallOf_28 ?_
    refine s_istore hG dX7_fallOf_29 (by decide) rfl ?_
    obtain ⟨o8, hlo8, hF⟩ := bd_some hF
    refine t_X7_fallOf_lp31 hsk hd h1 hG ?_ hlo8
    match o8, hF with
    | .inl e8, hF =>
          try dsimp only at hF
          refine s_iconst hG dX7_fallOf_87 ⟨by decide, by decide⟩ ?_
          cases hF
          exact s_iret hE dX7_fallOf_88 rfl
    | .inr e8, hF =>
          try dsimp only at hF
          refine s_iload hG dX7_fallOf_78 rfl ?_
          cases hF
          exact s_iret hE dX7_fallOf_80 rfl
  · replace hF := Eq.trans (if_neg c9).symm hF
    refine s_iconst hG dX7_fallOf_8 ⟨by decide, by decide⟩ ?_
    cases hF
    exact s_iret hE dX7_fallOf_9 rfl
-- X11_ruin
theorem t_X11_ruin_j21 {d n0 s0 nF sF : Nat} {X : MX} {Ω : Nat → MS → Prop} {N : NN} (hsk : m_Sk X) (hd : 6 ≤ d) (hG : m_G d yX11_ruin.cls yX11_ruin.name cX11_ruin 3 n0 s0 nF sF Ω) {out : (Int × NN)} (hE : m_Gd d yX11_ruin cX11_ruin 3 (some .int) X (some (.inl out.1)) out.2 X Ω) (hF : f_X11_ruin_j21 X N = some out) : Ω 21 ([none, none, none], [], N, X) := by
  unfold f_X11_ruin_j21 at hF
  refine s_iconst hG dX11_ruin_21 ⟨by decide, by decide⟩ ?_
  cases hF
  exact s_iret hE dX11_ruin_22 rfl
theorem t_X11_ruin {d : Nat} {X : MX} {N : NN} {a1 : Int} {a2 : Int} {out : (Int × NN)} (hsk : m_Sk X) (hd : 6 ≤ d) (hF : f_X11_ruin X N a1 a2 = some out) : m_Call d yX11_ruin cX11_ruin 3 (some .int) [(.inr (.inr 3)), (.inl a1), (.inl a2)] N X (some (.inl out.1)) out.2 X := by
  refine m_mk (ls0 := [some (.inr (.inr 3)), some (.inl a1), some (.inl a2)]) (by decide) rfl (Nat.le_of_ble_eq_true rfl) (Nat.le_refl _) (Nat.le_refl _) (fun Ω hE => ?_)
  have hG := hE.G
  unfold f_X11_ruin at hF
  refine s_aload_n hG dX11_ruin_0 rfl ?_
  refine s_getr (r := 4) hG dX11_ruin_1 fl_RX11_10 (sk_k hsk 3 rfl) rfl (sk_R hsk 3 0 rfl) ?_
  refine s_iload_n hG dX11_ruin_4 rfl ?_
  obtain ⟨o1, ho1, hF⟩ := bd_some hF
  refine s_callV (d' := d - 1) (ci := 10) (args := [.inl a1]) hG (by omega) dX11_ruin_5 cv_RX11_121 cw_X10_isLord rfl rfl (sk_k hsk 4 rfl) (Nat.le_of_ble_eq_true rfl) rfl (t_X10_isLord hsk (by omega) (sk_W4 hsk) ho1) ?_
  refine s_if_eq hG 21 dX11_ruin_8 (by decide) (fun c5 => ?_) (fun c5 => ?_)
  · replace hF := Eq.trans (if_pos c5).symm hF
    refine m_weak (ls1 := [none, none, none]) hG trivial ?_
    exact t_X11_ruin_j21 hsk hd hG hE hF
  · replace hF := Eq.trans (if_neg c5).symm hF
    refine s_iload_n hG dX11_ruin_11 rfl ?_
    refine s_iconst hG dX11_ruin_12 ⟨by decide, by decide⟩ ?_
    refine s_bipush hG dX11_ruin_13 bp_99 ⟨by decide, by decide⟩ ?_
    obtain ⟨o2, ho2, hF⟩ := bd_some hF
    refine s_callS (d' := d - 1) (args := [.inl a2, .inl 1, .inl 99]) hG (by omega) dX11_ruin_15 cs_RX11_100 cw_X11_within rfl (Nat.le_of_ble_eq_true rfl) rfl (t_X11_within hsk (by omega) ho2) ?_
    refine s_if_ne hG 23 dX11_ruin_18 (by decide) (fun c4 => ?_) (fun c4 => ?_)
    · replace hF := Eq.trans (if_pos c4).symm hF
      refine m_weak (ls1 := [none, none, none]) hG trivial ?_
      exact t_X11_ruin_j21 hsk hd hG hE hF
    · replace hF := Eq.trans (if_neg c4).symm hF
      refine s_aload_n hG dX11_ruin_23 rfl ?_
      refine s_getr (r := 48) hG dX11_ruin_24 fl_RX11_71 (sk_k hsk 3 rfl) rfl (sk_R hsk 3 9 rfl) ?_
      refine s_aload_n hG dX11_ruin_27 rfl ?_
      refine s_getr (r := 4) hG dX11_ruin_28 fl_RX11_10 (sk_k hsk 3 rfl) rfl (sk_R hsk 3 0 rfl) ?_
      refine s_iload_n hG dX11_ruin_31 rfl ?_
      refine s_iload_n hG dX11_ruin_32 rfl ?_
      obtain ⟨o3, ho3, hF⟩ := bd_some hF
      refine s_callV (d' := d - 1) (ci := 7) (args := [.inr (.inr 4), .inl a1, .inl a2]) hG (by omega) dX11_ruin_33 cv_RX11_257 cw_X7_fallOf rfl rfl (sk_k hsk 48 rfl) (Nat.le_of_ble_eq_true rfl) rfl (t_X7_fallOf hsk (by omega) (sk_W4 hsk) ho3) ?_
      cases hF
      exact s_iret hE dX11_ruin_36 rfl
-- X11_shelf
theorem t_X11_shelf_j38 {d n0 s0 nF sF : Nat} {X : MX} {Ω : Nat → MS → Prop} {N : NN} (hsk : m_Sk X) (hd : 2 ≤ d) (hG : m_G d yX11_shelf.cls yX11_shelf.name cX11_shelf 4 n0 s0 nF sF Ω) {out : (Int × NN)} (hE : m_Gd d yX11_shelf cX11_shelf 4 (some .int) X (some (.inl out.1)) out.2 X Ω) (hF : f_X11_shelf_j38 X N = some out) : Ω 38 ([some (.inr (.inr 3)), none, none, none], [], N, X) := by
  unfold f_X11_shelf_j38 at hF
  refine s_aload_n hG dX11_shelf_38 rfl ?_
  refine s_bipush hG dX11_shelf_39 bp_m2 ⟨by decide, by decide⟩ ?_
  obtain ⟨o8, ho8, hF⟩ := bd_some hF
  refine s_callV (d' := d - 1) (ci := 11) (args := [.inl (-2)]) hG (by omega) dX11_shelf_41 cv_RX11_104 cw_X11_refuse rfl rfl (sk_k hsk 3 rfl) (Nat.le_of_ble_eq_true rfl) rfl (t_X11_refuse hsk (by omega) ho8) ?_
  cases hF
  exact s_iret hE dX11_shelf_44 rfl
theorem t_X11_shelf_j45 {d n0 s0 nF sF : Nat} {X : MX} {Ω : Nat → MS → Prop} {N : NN} {a1 : Int} {a2 : Int} (hsk : m_Sk X) (hd : 2 ≤ d) (hG : m_G d yX11_shelf.cls yX11_shelf.name cX11_shelf 4 n0 s0 nF sF Ω) {out : (Int × NN)} (hE : m_Gd d yX11_shelf cX11_shelf 4 (some .int) X (some (.inl out.1)) out.2 X Ω) (hF : f_X11_shelf_j45 X N a1 a2 = some out) : Ω 45 ([some (.inr (.inr 3)), some (.inl a1), some (.inl a2), none], [], N, X) := by
  unfold f_X11_shelf_j45 at hF
  refine s_aload_n hG dX11_shelf_45 rfl ?_
  refine s_getr (r := 4) hG dX11_shelf_46 fl_RX11_10 (sk_k hsk 3 rfl) rfl (sk_R hsk 3 0 rfl) ?_
  refine s_iload_n hG dX11_shelf_49 rfl ?_
  obtain ⟨o9, ho9, hF⟩ := bd_some hF
  refine s_callV (d' := d - 1) (ci := 10) (args := [.inl a1]) hG (by omega) dX11_shelf_50 cv_RX11_283 cw_X10_toldHolder rfl rfl (sk_k hsk 4 rfl) (Nat.le_of_ble_eq_true rfl) rfl (t_X10_toldHolder hsk (by omega) (sk_W4 hsk) ho9) ?_
  refine s_istore_n hG dX11_shelf_53 (by decide) rfl ?_
  refine s_aload_n hG dX11_shelf_54 rfl ?_
  refine s_getr (r := 4) hG dX11_shelf_55 fl_RX11_10 (sk_k hsk 3 rfl) rfl (sk_R hsk 3 0 rfl) ?_
  refine s_iload_n hG dX11_shelf_58 rfl ?_
  refine s_iload_n hG dX11_shelf_59 rfl ?_
  obtain ⟨o10, ho10, hF⟩ := bd_some hF
  refine s_callV (d' := d - 1) (ci := 10) (args := [.inl a1, .inl a2]) hG (by omega) dX11_shelf_60 cv_RX11_286 cw_X10_tellHolder rfl rfl (sk_k hsk 4 rfl) (Nat.le_of_ble_eq_true rfl) rfl (t_X10_tellHolder hsk (by omega) (sk_W4 hsk) ho10) ?_
  refine s_aload_n hG dX11_shelf_63 rfl ?_
  refine s_iload_n hG dX11_shelf_64 rfl ?_
  obtain ⟨o11, ho11, hF⟩ := bd_some hF
  refine s_callV (d' := d - 1) (ci := 11) (args := [.inl o9]) hG (by omega) dX11_shelf_65 cv_RX11_118 cw_X11_accept rfl rfl (sk_k hsk 3 rfl) (Nat.le_of_ble_eq_true rfl) rfl (t_X11_accept hsk (by omega) ho11) ?_
  cases hF
  exact s_iret hE dX11_shelf_68 rfl
theorem t_X11_shelf {d : Nat} {X : MX} {N : NN} {a1 : Int} {a2 : Int} {out : (Int × NN)} (hsk : m_Sk X) (hd : 2 ≤ d) (hF : f_X11_shelf X N a1 a2 = some out) : m_Call d yX11_shelf cX11_shelf 4 (some .int) [(.inr (.inr 3)), (.inl a1), (.inl a2)] N X (some (.inl out.1)) out.2 X := by
  refine m_mk (ls0 := [some (.inr (.inr 3)), some (.inl a1), some (.inl a2), none]) (by decide) rfl (Nat.le_of_ble_eq_true rfl) (Nat.le_refl _) (Nat.le_refl _) (fun Ω hE => ?_)
  have hG := hE.G
  unfold f_X11_shelf at hF
  refine s_iload_n hG dX11_shelf_0 rfl ?_
  refine s_iconst hG dX11_shelf_1 ⟨by decide, by decide⟩ ?_
  refine s_icmp_ge hG 11 dX11_shelf_2 (by decide) (fun c7 => ?_) (fun c7 => ?_)
  · replace hF := Eq.trans (if_pos c7).symm hF
    refine s_aload_n hG dX11_shelf_5 rfl ?_
    refine s_iconst hG dX11_shelf_6 ⟨by decide, by decide⟩ ?_
    obtain ⟨o1, ho1, hF⟩ := bd_some hF
    refine s_callV (d' := d - 1) (ci := 11) (args := [.inl (-1)]) hG (by omega) dX11_shelf_7 cv_RX11_104 cw_X11_refuse rfl rfl (sk_k hsk 3 rfl) (Nat.le_of_ble_eq_true rfl) rfl (t_X11_refuse hsk (by omega) ho1) ?_
    cases hF
    exact s_iret hE dX11_shelf_10 rfl
  · replace hF := Eq.trans (if_neg c7).symm hF
    refine s_aload_n hG dX11_shelf_11 rfl ?_
    refine s_getr (r := 4) hG dX11_shelf_12 fl_RX11_10 (sk_k hsk 3 rfl) rfl (sk_R hsk 3 0 rfl) ?_
    refine s_iload_n hG dX11_shelf_15 rfl ?_
    obtain ⟨o2, ho2, hF⟩ := bd_some hF
    refine s_callV (d' := d - 1) (ci := 10) (args := [.inl a1]) hG (by omega) dX11_shelf_16 cv_RX11_146 cw_X10_isGood rfl rfl (sk_k hsk 4 rfl) (Nat.le_of_ble_eq_true rfl) rfl (t_X10_isGood hsk (by omega) (sk_W4 hsk) ho2) ?_
    refine s_if_eq hG 38 dX11_shelf_19 (by decide) (fun c6 => ?_) (fun c6 => ?_)
    · replace hF := Eq.trans (if_pos c6).symm hF
      refine m_weak (ls1 := [some (.inr (.inr 3)), none, none, none]) hG ⟨rfl, trivial⟩ ?_
      exact t_X11_shelf_j38 hsk hd hG hE hF
    · replace hF := Eq.trans (if_neg c6).symm hF
      refine s_iload_n hG dX11_shelf_22 rfl ?_
      refine s_iconst hG dX11_shelf_23 ⟨by decide, by decide⟩ ?_
      refine s_icmp_eq hG 45 dX11_shelf_24 (by decide) (fun c5 => ?_) (fun c5 => ?_)
      · replace hF := Eq.trans (if_pos c5).symm hF
        exact t_X11_shelf_j45 hsk hd hG hE hF
      · replace hF := Eq.trans (if_neg c5).symm hF
        refine s_aload_n hG dX11_shelf_27 rfl ?_
        refine s_getr (r := 4) hG dX11_shelf_28 fl_RX11_10 (sk_k hsk 3 rfl) rfl (sk_R hsk 3 0 rfl) ?_
        refine s_iload_n hG dX11_shelf_31 rfl ?_
        obtain ⟨o3, ho3, hF⟩ := bd_some hF
        refine s_callV (d' := d - 1) (ci := 10) (args := [.inl a2]) hG (by omega) dX11_shelf_32 cv_RX11_121 cw_X10_isLord rfl rfl (sk_k hsk 4 rfl) (Nat.le_of_ble_eq_true rfl) rfl (t_X10_isLord hsk (by omega) (sk_W4 hsk) ho3) ?_
        refine s_if_ne hG 45 dX11_shelf_35 (by decide) (fun c4 => ?_) (fun c4 => ?_)
        · replace hF := Eq.trans (if_pos c4).symm hF
          refine m_weak (ls1 := [some (.inr (.inr 3)), none, none, none]) hG ⟨rfl, trivial⟩ ?_
          exact t_X11_shelf_j38 hsk hd hG hE hF
        · replace hF := Eq.trans (if_neg c4).symm hF
          exact t_X11_shelf_j45 hsk hd hG hE hF
-- X7_bitsOf
theorem t_X7_bitsOf_b4 {d n0 s0 nF sF : Nat} {X : MX} {N : NN} {Ω : Nat → MS → Prop} {a1 : Int} {a2 : Int} {a3 : Int} (hsk : m_Sk X) (hd : 1 ≤ d) (hG : m_G d yX7_bitsOf.cls yX7_bitsOf.name cX7_bitsOf 4 n0 s0 nF sF Ω) {out : ((Int × Int × Int) ⊕ Int)} (hK0 : ∀ s' : (Int × Int × Int), out = .inl s' → Ω 4 ([some (.inr (.inr 48)), some (.inl (s'.1)), some (.inl (s'.2.1)), some (.inl (s'.2.2))], [], N, X)) (hK1 : ∀ t : Int, out = .inr t → Ω 33 ([none, none, some (.inl t), none], [], N, X)) (hF : b_X7_bitsOf_4 X N a1 a2 a3 = some out) : Ω 4 ([some (.inr (.inr 48)), some (.inl a1), some (.inl a2), some (.inl a3)], [], N, X) := by
  unfold b_X7_bitsOf_4 at hF
  refine s_iload_n hG dX7_bitsOf_4 rfl ?_
  refine s_aload_n hG dX7_bitsOf_5 rfl ?_
  refine s_geti hG dX7_bitsOf_6 fl_RX7_24 (sk_k hsk 48 rfl) rfl ?_
  refine s_icmp_ge hG 33 dX7_bitsOf_9 (by decide) (fun c2 => ?_) (fun c2 => ?_)
  · replace hF := Eq.trans (if_pos c2).symm hF
    refine s_iload_n hG dX7_bitsOf_12 rfl ?_
    refine s_iload_n hG dX7_bitsOf_13 rfl ?_
    refine s_iload_n hG dX7_bitsOf_14 rfl ?_
    refine s_ishr hG dX7_bitsOf_15 ?_
    refine s_iconst hG dX7_bitsOf_16 ⟨by decide, by decide⟩ ?_
    refine s_iand hG dX7_bitsOf_17 ?_
    refine s_aload_n hG dX7_bitsOf_18 rfl ?_
    refine s_getr (r := 49) hG dX7_bitsOf_19 fl_RX7_11 (sk_k hsk 48 rfl) rfl (sk_R hsk 48 1 rfl) ?_
    refine s_iload_n hG dX7_bitsOf_22 rfl ?_
    obtain ⟨g1, hF⟩ := gd_some hF
    refine s_ialdj (j := a3.toNat) hG dX7_bitsOf_23 (sk_K hsk 49 rfl) g1 rfl ?_
    refine s_ishl hG dX7_bitsOf_24 ?_
    refine s_ior hG dX7_bitsOf_25 ?_
    refine s_istore_n hG dX7_bitsOf_26 (by decide) rfl ?_
    refine s_iinc hG dX7_bitsOf_27 (by decide) rfl rfl ?_
    refine s_goto hG 4 dX7_bitsOf_30 (by decide) ?_
    cases hF
    exact hK0 _ rfl
  · replace hF := Eq.trans (if_neg c2).symm hF
    cases hF
    refine m_weak (ls1 := [none, none, some (.inl a2), none]) hG ⟨rfl, trivial⟩ ?_
    exact hK1 _ rfl
theorem t_X7_bitsOf_lp4 {d n0 s0 nF sF : Nat} {X : MX} {N : NN} {Ω : Nat → MS → Prop} {a1 : Int} {a2 : Int} {a3 : Int} (hsk : m_Sk X) (hd : 1 ≤ d) (hG : m_G d yX7_bitsOf.cls yX7_bitsOf.name cX7_bitsOf 4 n0 s0 nF sF Ω) {t : Int} (hK1 : Ω 33 ([none, none, some (.inl t), none], [], N, X)) (hl : lp (fun s => b_X7_bitsOf_4 X N s.1 s.2.1 s.2.2) (a1, a2, a3) = some t) : Ω 4 ([some (.inr (.inr 48)), some (.inl a1), some (.inl a2), some (.inl a3)], [], N, X) := by
  refine lp_ok (P := fun s => Ω 4 ([some (.inr (.inr 48)), some (.inl s.1), some (.inl s.2.1), some (.inl s.2.2)], [], N, X)) (K := fun t => Ω 33 ([none, none, some (.inl t), none], [], N, X)) (fun s out hF hK0 hK1 => ?_) hl hK1
  exact t_X7_bitsOf_b4 hsk hd hG (out := out) (fun s' e => hK0 s' e) (fun t' e => hK1 t' e) hF
theorem t_X7_bitsOf {d : Nat} {X : MX} {N : NN} {a1 : Int} {out : Int} (hsk : m_Sk X) (hd : 1 ≤ d) (hF : f_X7_bitsOf X N a1 = some out) : m_Call d yX7_bitsOf cX7_bitsOf 4 (some .int) [(.inr (.inr 48)), (.inl a1)] N X (some (.inl out)) N X := by
  refine m_mk (ls0 := [some (.inr (.inr 48)), some (.inl a1), none, none]) (by decide) rfl (Nat.le_of_ble_eq_true rfl) (Nat.le_refl _) (Nat.le_refl _) (fun Ω hE => ?_)
  have hG := hE.G
  unfold f_X7_bitsOf at hF
  refine s_iconst hG dX7_bitsOf_0 ⟨by decide, by decide⟩ ?_
  refine s_istore_n hG dX7_bitsOf_1 (by decide) rfl ?_
  refine s_iconst hG dX7_bitsOf_2 ⟨by decide, by decide⟩ ?_
  refine s_istore_n hG dX7_bitsOf_3 (by decide) rfl ?_
  obtain ⟨o3, hlo3, hF⟩ := bd_some hF
  refine t_X7_bitsOf_lp4 hsk hd hG ?_ hlo3
  refine s_iload_n hG dX7_bitsOf_33 rfl ?_
  cases hF
  exact s_iret hE dX7_bitsOf_34 rfl
-- X7_falls
theorem t_X7_falls_b38 {d n0 s0 nF sF : Nat} {X : MX} {N : NN} {Ω : Nat → MS → Prop} {a1 : Int} {a2 : Int} {a3 : Int} {a4 : Int} {a5 : Int} (hsk : m_Sk X) (hd : 1 ≤ d) (hG : m_G d yX7_falls.cls yX7_falls.name cX7_falls 6 n0 s0 nF sF Ω) {out : ((Int × Int × Int × Int × Int) ⊕ (Int × Int × Int × Int))} (hK0 : ∀ s' : (Int × Int × Int × Int × Int), out = .inl s' → Ω 38 ([some (.inr (.inr 48)), some (.inl (s'.1)), some (.inl (s'.2.1)), some (.inl (s'.2.2.1)), some (.inl (s'.2.2.2.1)), some (.inl (s'.2.2.2.2))], [], N, X)) (hK1 : ∀ t : (Int × Int × Int × Int), out = .inr t → Ω 76 ([some (.inr (.inr 48)), some (.inl t.1), some (.inl t.2.1), some (.inl t.2.2.1), some (.inl t.2.2.2), none], [], N, X)) (hF : b_X7_falls_38 X N a1 a2 a3 a4 a5 = some out) : Ω 38 ([some (.inr (.inr 48)), some (.inl a1), some (.inl a2), some (.inl a3), some (.inl a4), some (.inl a5)], [], N, X) := by
  unfold b_X7_falls_38 at hF
  refine s_iload hG dX7_falls_38 rfl ?_
  refine s_aload_n hG dX7_falls_40 rfl ?_
  refine s_geti hG dX7_falls_41 fl_RX7_24 (sk_k hsk 48 rfl) rfl ?_
  refine s_icmp_ge hG 76 dX7_falls_44 (by decide) (fun c3 => ?_) (fun c3 => ?_)
  · replace hF := Eq.trans (if_pos c3).symm hF
    refine s_iload_n hG dX7_falls_47 rfl ?_
    refine s_iload_n hG dX7_falls_48 rfl ?_
    refine s_iload hG dX7_falls_49 rfl ?_
    refine s_ishr hG dX7_falls_51 ?_
    refine s_iconst hG dX7_falls_52 ⟨by decide, by decide⟩ ?_
    refine s_iand hG dX7_falls_53 ?_
    refine s_aload_n hG dX7_falls_54 rfl ?_
    refine s_getr (r := 51) hG dX7_falls_55 fl_RX7_18 (sk_k hsk 48 rfl) rfl (sk_R hsk 48 3 rfl) ?_
    refine s_iload hG dX7_falls_58 rfl ?_
    refine s_bipush hG dX7_falls_60 bp_9 ⟨by decide, by decide⟩ ?_
    refine s_imul hG dX7_falls_62 ?_
    refine s_iload hG dX7_falls_63 rfl ?_
    refine s_iadd hG dX7_falls_65 ?_
    obtain ⟨g2, hF⟩ := gd_some hF
    refine s_ialdj (j := (m_w ((m_w (a5 * 9)) + a4)).toNat) hG dX7_falls_66 (sk_K hsk 51 rfl) g2 rfl ?_
    refine s_imul hG dX7_falls_67 ?_
    refine s_isub hG dX7_falls_68 ?_
    refine s_istore_n hG dX7_falls_69 (by decide) rfl ?_
    refine s_iinc hG dX7_falls_70 (by decide) rfl rfl ?_
    refine s_goto hG 38 dX7_falls_73 (by decide) ?_
    cases hF
    exact hK0 _ rfl
  · replace hF := Eq.trans (if_neg c3).symm hF
    cases hF
    refine m_weak (ls1 := [some (.inr (.inr 48)), some (.inl a1), some (.inl a2), some (.inl a3), some (.inl a4), none]) hG ⟨rfl, ⟨rfl, ⟨rfl, ⟨rfl, ⟨rfl, trivial⟩⟩⟩⟩⟩ ?_
    exact hK1 _ rfl
theorem t_X7_falls_lp38 {d n0 s0 nF sF : Nat} {X : MX} {N : NN} {Ω : Nat → MS → Prop} {a1 : Int} {a2 : Int} {a3 : Int} {a4 : Int} {a5 : Int} (hsk : m_Sk X) (hd : 1 ≤ d) (hG : m_G d yX7_falls.cls yX7_falls.name cX7_falls 6 n0 s0 nF sF Ω) {t : (Int × Int × Int × Int)} (hK1 : Ω 76 ([some (.inr (.inr 48)), some (.inl t.1), some (.inl t.2.1), some (.inl t.2.2.1), some (.inl t.2.2.2), none], [], N, X)) (hl : lp (fun s => b_X7_falls_38 X N s.1 s.2.1 s.2.2.1 s.2.2.2.1 s.2.2.2.2) (a1, a2, a3, a4, a5) = some t) : Ω 38 ([some (.inr (.inr 48)), some (.inl a1), some (.inl a2), some (.inl a3), some (.inl a4), some (.inl a5)], [], N, X) := by
  refine lp_ok (P := fun s => Ω 38 ([some (.inr (.inr 48)), some (.inl s.1), some (.inl s.2.1), some (.inl s.2.2.1), some (.inl s.2.2.2.1), some (.inl s.2.2.2.2)], [], N, X)) (K := fun t => Ω 76 ([some (.inr (.inr 48)), some (.inl t.1), some (.inl t.2.1), some (.inl t.2.2.1), some (.inl t.2.2.2), none], [], N, X)) (fun s out hF hK0 hK1 => ?_) hl hK1
  exact t_X7_falls_b38 hsk hd hG (out := out) (fun s' e => hK0 s' e) (fun t' e => hK1 t' e) hF
theorem t_X7_falls_b8 {d n0 s0 nF sF : Nat} {X : MX} {N : NN} {Ω : Nat → MS → Prop} {a1 : Int} {a2 : Int} {a3 : Int} {a4 : Int} (hsk : m_Sk X) (hd : 1 ≤ d) (hG : m_G d yX7_falls.cls yX7_falls.name cX7_falls 6 n0 s0 nF sF Ω) {out : ((Int × Int × Int × Int) ⊕ (Unit ⊕ Unit))} (hK0 : ∀ s' : (Int × Int × Int × Int), out = .inl s' → Ω 8 ([some (.inr (.inr 48)), some (.inl (s'.1)), some (.inl (s'.2.1)), some (.inl (s'.2.2.1)), some (.inl (s'.2.2.2)), none], [], N, X)) (hK1 : ∀ t : (Unit ⊕ Unit), out = .inr t → match t with | .inl e => Ω 88 ([none, none, none, none, none, none], [], N, X) | .inr e => Ω 80 ([none, none, none, none, none, none], [], N, X)) (hF : b_X7_falls_8 X N a1 a2 a3 a4 = some out) : Ω 8 ([some (.inr (.inr 48)), some (.inl a1), some (.inl a2), some (.inl a3), some (.inl a4), none], [], N, X) := by
  unfold b_X7_falls_8 at hF
  refine s_iload hG dX7_falls_8 rfl ?_
  refine s_iload_n hG dX7_falls_10 rfl ?_
  refine s_icmp_ge hG 88 dX7_falls_11 (by decide) (fun c6 => ?_) (fun c6 => ?_)
  · replace hF := Eq.trans (if_pos c6).symm hF
    refine s_sipush hG dX7_falls_14 sp_9999 ⟨by decide, by decide⟩ ?_
    refine s_iload_n hG dX7_falls_17 rfl ?_
    refine s_aload_n hG dX7_falls_18 rfl ?_
    refine s_geti hG dX7_falls_19 fl_RX7_31 (sk_k hsk 48 rfl) rfl ?_
    refine s_iadd hG dX7_falls_22 ?_
    refine s_min hG (by omega) dX7_falls_23 ml_RX7_52 lk_min_s lk_math lk_min_c (Nat.le_of_ble_eq_true rfl) ?_
    refine s_aload_n hG dX7_falls_26 rfl ?_
    refine s_getr (r := 52) hG dX7_falls_27 fl_RX7_21 (sk_k hsk 48 rfl) rfl (sk_R hsk 48 4 rfl) ?_
    refine s_iload hG dX7_falls_30 rfl ?_
    obtain ⟨g1, hF⟩ := gd_some hF
    refine s_ialdj (j := a4.toNat) hG dX7_falls_32 (sk_K hsk 52 rfl) g1 rfl ?_
    refine s_isub hG dX7_falls_33 ?_
    refine s_istore_n hG dX7_falls_34 (by decide) rfl ?_
    refine s_iconst hG dX7_falls_35 ⟨by decide, by decide⟩ ?_
    refine s_istore hG dX7_falls_36 (by decide) rfl ?_
    obtain ⟨o4, hlo4, hF⟩ := bd_some hF
    refine t_X7_falls_lp38 hsk hd hG ?_ hlo4
    refine s_iload_n hG dX7_falls_76 rfl ?_
    refine s_if_ge hG 82 dX7_falls_77 (by decide) (fun c5 => ?_) (fun c5 => ?_)
    · replace hF := Eq.trans (if_pos c5).symm hF
      cases hF
      refine m_weak (ls1 := [none, none, none, none, none, none]) hG trivial ?_
      exact hK1 _ rfl
    · replace hF := Eq.trans (if_neg c5).symm hF
      refine s_iinc hG dX7_falls_82 (by decide) rfl rfl ?_
      refine s_goto hG 8 dX7_falls_85 (by decide) ?_
      cases hF
      exact hK0 _ rfl
  · replace hF := Eq.trans (if_neg c6).symm hF
    cases hF
    refine m_weak (ls1 := [none, none, none, none, none, none]) hG trivial ?_
    exact hK1 _ rfl
theorem t_X7_falls_lp8 {d n0 s0 nF sF : Nat} {X : MX} {N : NN} {Ω : Nat → MS → Prop} {a1 : Int} {a2 : Int} {a3 : Int} {a4 : Int} (hsk : m_Sk X) (hd : 1 ≤ d) (hG : m_G d yX7_falls.cls yX7_falls.name cX7_falls 6 n0 s0 nF sF Ω) {t : (Unit ⊕ Unit)} (hK1 : match t with | .inl e => Ω 88 ([none, none, none, none, none, none], [], N, X) | .inr e => Ω 80 ([none, none, none, none, none, none], [], N, X)) (hl : lp (fun s => b_X7_falls_8 X N s.1 s.2.1 s.2.2.1 s.2.2.2) (a1, a2, a3, a4) = some t) : Ω 8 ([some (.inr (.inr 48)), some (.inl a1), some (.inl a2), some (.inl a3), some (.inl a4), none], [], N, X) := by
  refine lp_ok (P := fun s => Ω 8 ([some (.inr (.inr 48)), some (.inl s.1), some (.inl s.2.1), some (.inl s.2.2.1), some (.inl s.2.2.2), none], [], N, X)) (K := fun t => match t with | .inl e => Ω 88 ([none, none, none, none, none, none], [], N, X) | .inr e => Ω 80 ([none, none, none, none, none, none], [], N, X)) (fun s out hF hK0 hK1 => ?_) hl hK1
  exact t_X7_falls_b8 hsk hd hG (out := out) (fun s' e => hK0 s' e) (fun t' e => hK1 t' e) hF
theorem t_X7_falls {d : Nat} {X : MX} {N : NN} {a1 : Int} {a2 : Int} {out : Int} (hsk : m_Sk X) (hd : 1 ≤ d) (hF : f_X7_falls X N a1 a2 = some out) : m_Call d yX7_falls cX7_falls 6 (some .boolean) [(.inr (.inr 48)), (.inl a1), (.inl a2)] N X (some (.inl out)) N X := by
  refine m_mk (ls0 := [some (.inr (.inr 48)), some (.inl a1), some (.inl a2), none, none, none]) (by decide) rfl (Nat.le_of_ble_eq_true rfl) (Nat.le_refl _) (Nat.le_refl _) (fun Ω hE => ?_)
  have hG := hE.G
  unfold f_X7_falls at hF
  refine s_aload_n hG dX7_falls_0 rfl ?_
  refine s_geti hG dX7_falls_1 fl_RX7_28 (sk_k hsk 48 rfl) rfl ?_
  refine s_istore_n hG dX7_falls_4 (by decide) rfl ?_
  refine s_iconst hG dX7_falls_5 ⟨by decide, by decide⟩ ?_
  refine s_istore hG dX7_falls_6 (by decide) rfl ?_
  obtain ⟨o7, hlo7, hF⟩ := bd_some hF
  refine t_X7_falls_lp8 hsk hd hG ?_ hlo7
  match o7, hF with
  | .inl e7, hF =>
        try dsimp only at hF
        refine s_iconst hG dX7_falls_88 ⟨by decide, by decide⟩ ?_
        cases hF
        exact s_zret hE dX7_falls_89 rfl ⟨by decide, by decide⟩
  | .inr e7, hF =>
        try dsimp only at hF
        refine s_iconst hG dX7_falls_80 ⟨by decide, by decide⟩ ?_
        cases hF
        exact s_zret hE dX7_falls_81 rfl ⟨by decide, by decide⟩
-- X7_worthOf
theorem t_X7_worthOf_b4 {d n0 s0 nF sF : Nat} {X : MX} {N : NN} {Ω : Nat → MS → Prop} {a1 : Int} {a2 : Int} {a3 : Int} (hsk : m_Sk X) (hd : 1 ≤ d) (hG : m_G d yX7_worthOf.cls yX7_worthOf.name cX7_worthOf 4 n0 s0 nF sF Ω) {out : ((Int × Int × Int) ⊕ Int)} (hK0 : ∀ s' : (Int × Int × Int), out = .inl s' → Ω 4 ([some (.inr (.inr 48)), some (.inl (s'.1)), some (.inl (s'.2.1)), some (.inl (s'.2.2))], [], N, X)) (hK1 : ∀ t : Int, out = .inr t → Ω 33 ([none, none, some (.inl t), none], [], N, X)) (hF : b_X7_worthOf_4 X N a1 a2 a3 = some out) : Ω 4 ([some (.inr (.inr 48)), some (.inl a1), some (.inl a2), some (.inl a3)], [], N, X) := by
  unfold b_X7_worthOf_4 at hF
  refine s_iload_n hG dX7_worthOf_4 rfl ?_
  refine s_aload_n hG dX7_worthOf_5 rfl ?_
  refine s_geti hG dX7_worthOf_6 fl_RX7_24 (sk_k hsk 48 rfl) rfl ?_
  refine s_icmp_ge hG 33 dX7_worthOf_9 (by decide) (fun c2 => ?_) (fun c2 => ?_)
  · replace hF := Eq.trans (if_pos c2).symm hF
    refine s_iload_n hG dX7_worthOf_12 rfl ?_
    refine s_iload_n hG dX7_worthOf_13 rfl ?_
    refine s_iload_n hG dX7_worthOf_14 rfl ?_
    refine s_ishr hG dX7_worthOf_15 ?_
    refine s_iconst hG dX7_worthOf_16 ⟨by decide, by decide⟩ ?_
    refine s_iand hG dX7_worthOf_17 ?_
    refine s_aload_n hG dX7_worthOf_18 rfl ?_
    refine s_getr (r := 50) hG dX7_worthOf_19 fl_RX7_15 (sk_k hsk 48 rfl) rfl (sk_R hsk 48 2 rfl) ?_
    refine s_iload_n hG dX7_worthOf_22 rfl ?_
    obtain ⟨g1, hF⟩ := gd_some hF
    refine s_ialdj (j := a3.toNat) hG dX7_worthOf_23 (sk_K hsk 50 rfl) g1 rfl ?_
    refine s_imul hG dX7_worthOf_24 ?_
    refine s_iadd hG dX7_worthOf_25 ?_
    refine s_istore_n hG dX7_worthOf_26 (by decide) rfl ?_
    refine s_iinc hG dX7_worthOf_27 (by decide) rfl rfl ?_
    refine s_goto hG 4 dX7_worthOf_30 (by decide) ?_
    cases hF
    exact hK0 _ rfl
  · replace hF := Eq.trans (if_neg c2).symm hF
    cases hF
    refine m_weak (ls1 := [none, none, some (.inl a2), none]) hG ⟨rfl, trivial⟩ ?_
    exact hK1 _ rfl
theorem t_X7_worthOf_lp4 {d n0 s0 nF sF : Nat} {X : MX} {N : NN} {Ω : Nat → MS → Prop} {a1 : Int} {a2 : Int} {a3 : Int} (hsk : m_Sk X) (hd : 1 ≤ d) (hG : m_G d yX7_worthOf.cls yX7_worthOf.name cX7_worthOf 4 n0 s0 nF sF Ω) {t : Int} (hK1 : Ω 33 ([none, none, some (.inl t), none], [], N, X)) (hl : lp (fun s => b_X7_worthOf_4 X N s.1 s.2.1 s.2.2) (a1, a2, a3) = some t) : Ω 4 ([some (.inr (.inr 48)), some (.inl a1), some (.inl a2), some (.inl a3)], [], N, X) := by
  refine lp_ok (P := fun s => Ω 4 ([some (.inr (.inr 48)), some (.inl s.1), some (.inl s.2.1), some (.inl s.2.2)], [], N, X)) (K := fun t => Ω 33 ([none, none, some (.inl t), none], [], N, X)) (fun s out hF hK0 hK1 => ?_) hl hK1
  exact t_X7_worthOf_b4 hsk hd hG (out := out) (fun s' e => hK0 s' e) (fun t' e => hK1 t' e) hF
theorem t_X7_worthOf {d : Nat} {X : MX} {N : NN} {a1 : Int} {out : Int} (hsk : m_Sk X) (hd : 1 ≤ d) (hF : f_X7_worthOf X N a1 = some out) : m_Call d yX7_worthOf cX7_worthOf 4 (some .int) [(.inr (.inr 48)), (.inl a1)] N X (some (.inl out)) N X := by
  refine m_mk (ls0 := [some (.inr (.inr 48)), some (.inl a1), none, none]) (by decide) rfl (Nat.le_of_ble_eq_true rfl) (Nat.le_refl _) (Nat.le_refl _) (fun Ω hE => ?_)
  have hG := hE.G
  unfold f_X7_worthOf at hF
  refine s_iconst hG dX7_worthOf_0 ⟨by decide, by decide⟩ ?_
  refine s_istore_n hG dX7_worthOf_1 (by decide) rfl ?_
  refine s_iconst hG dX7_worthOf_2 ⟨by decide, by decide⟩ ?_
  refine s_istore_n hG dX7_worthOf_3 (by decide) rfl ?_
  obtain ⟨o3, hlo3, hF⟩ := bd_some hF
  refine t_X7_worthOf_lp4 hsk hd hG ?_ hlo3
  refine s_iload_n hG dX7_worthOf_33 rfl ?_
  cases hF
  exact s_iret hE dX7_worthOf_34 rfl
-- X7_cheapest
theorem t_X7_cheapest_l38_j101 {d n0 s0 nF sF : Nat} {X : MX} {N : NN} {Ω : Nat → MS → Prop} {a1 : Int} {a2 : Int} {a3 : Int} {a4 : Int} {a5 : Int} {a6 : Int} (hsk : m_Sk X) (hd : 2 ≤ d) (hG : m_G d yX7_cheapest.cls yX7_cheapest.name cX7_cheapest 9 n0 s0 nF sF Ω) {out : ((Int × Int × Int × Int × Int × Int) ⊕ Int)} (hK0 : ∀ s' : (Int × Int × Int × Int × Int × Int), out = .inl s' → Ω 38 ([some (.inr (.inr 48)), some (.inl (s'.1)), some (.inl (s'.2.1)), some (.inl (s'.2.2.1)), some (.inl (s'.2.2.2.1)), some (.inl (s'.2.2.2.2.1)), some (.inl (s'.2.2.2.2.2)), none, none], [], N, X)) (hK1 : ∀ t : Int, out = .inr t → Ω 107 ([none, none, none, some (.inl t), none, none, none, none, none], [], N, X)) (hF : f_X7_cheapest_l38_j101 X N a1 a2 a3 a4 a5 a6 = some out) : Ω 101 ([some (.inr (.inr 48)), some (.inl a1), some (.inl a2), some (.inl a3), some (.inl a4), some (.inl a5), some (.inl a6), none, none], [], N, X) := by
  unfold f_X7_cheapest_l38_j101 at hF
  refine s_iinc hG dX7_cheapest_101 (by decide) rfl rfl ?_
  refine s_goto hG 38 dX7_cheapest_104 (by decide) ?_
  cases hF
  exact hK0 _ rfl
theorem t_X7_cheapest_l38_j80 {d n0 s0 nF sF : Nat} {X : MX} {N : NN} {Ω : Nat → MS → Prop} {a1 : Int} {a2 : Int} {a3 : Int} {a4 : Int} {a5 : Int} {a6 : Int} {a7 : Int} {a8 : Int} (hsk : m_Sk X) (hd : 2 ≤ d) (hG : m_G d yX7_cheapest.cls yX7_cheapest.name cX7_cheapest 9 n0 s0 nF sF Ω) {out : ((Int × Int × Int × Int × Int × Int) ⊕ Int)} (hK0 : ∀ s' : (Int × Int × Int × Int × Int × Int), out = .inl s' → Ω 38 ([some (.inr (.inr 48)), some (.inl (s'.1)), some (.inl (s'.2.1)), some (.inl (s'.2.2.1)), some (.inl (s'.2.2.2.1)), some (.inl (s'.2.2.2.2.1)), some (.inl (s'.2.2.2.2.2)), none, none], [], N, X)) (hK1 : ∀ t : Int, out = .inr t → Ω 107 ([none, none, none, some (.inl t), none, none, none, none, none], [], N, X)) (hF : f_X7_cheapest_l38_j80 X N a1 a2 a3 a4 a5 a6 a7 a8 = some out) : Ω 80 ([some (.inr (.inr 48)), some (.inl a1), some (.inl a2), some (.inl a3), some (.inl a4), some (.inl a5), some (.inl a6), some (.inl a7), some (.inl a8)], [], N, X) := by
  unfold f_X7_cheapest_l38_j80 at hF
  refine s_aload_n hG dX7_cheapest_80 rfl ?_
  refine s_iload hG dX7_cheapest_81 rfl ?_
  refine s_iload_n hG dX7_cheapest_83 rfl ?_
  obtain ⟨o9, ho9, hF⟩ := bd_some hF
  refine s_callV (d' := d - 1) (ci := 7) (args := [.inl a6, .inl a1]) hG (by omega) dX7_cheapest_84 cv_RX7_97 cw_X7_falls rfl rfl (sk_k hsk 48 rfl) (Nat.le_of_ble_eq_true rfl) rfl (t_X7_falls hsk (by omega) ho9) ?_
  refine s_if_eq hG 101 dX7_cheapest_87 (by decide) (fun c10 => ?_) (fun c10 => ?_)
  · replace hF := Eq.trans (if_pos c10).symm hF
    refine m_weak (ls1 := [some (.inr (.inr 48)), some (.inl a1), some (.inl a2), some (.inl a3), some (.inl a4), some (.inl a5), some (.inl a6), none, none]) hG ⟨rfl, ⟨rfl, ⟨rfl, ⟨rfl, ⟨rfl, ⟨rfl, ⟨rfl, trivial⟩⟩⟩⟩⟩⟩⟩ ?_
    exact t_X7_cheapest_l38_j101 hsk hd hG hK0 hK1 hF
  · replace hF := Eq.trans (if_neg c10).symm hF
    refine s_iload hG dX7_cheapest_90 rfl ?_
    refine s_istore_n hG dX7_cheapest_92 (by decide) rfl ?_
    refine s_iload hG dX7_cheapest_93 rfl ?_
    refine s_istore hG dX7_cheapest_95 (by decide) rfl ?_
    refine s_iload hG dX7_cheapest_97 rfl ?_
    refine s_istore hG dX7_cheapest_99 (by decide) rfl ?_
    refine m_weak (ls1 := [some (.inr (.inr 48)), some (.inl a1), some (.inl a2), some (.inl a6), some (.inl a7), some (.inl a8), some (.inl a6), none, none]) hG ⟨rfl, ⟨rfl, ⟨rfl, ⟨rfl, ⟨rfl, ⟨rfl, ⟨rfl, trivial⟩⟩⟩⟩⟩⟩⟩ ?_
    exact t_X7_cheapest_l38_j101 hsk hd hG hK0 hK1 hF
theorem t_X7_cheapest_b38 {d n0 s0 nF sF : Nat} {X : MX} {N : NN} {Ω : Nat → MS → Prop} {a1 : Int} {a2 : Int} {a3 : Int} {a4 : Int} {a5 : Int} {a6 : Int} (hsk : m_Sk X) (hd : 2 ≤ d) (hG : m_G d yX7_cheapest.cls yX7_cheapest.name cX7_cheapest 9 n0 s0 nF sF Ω) {out : ((Int × Int × Int × Int × Int × Int) ⊕ Int)} (hK0 : ∀ s' : (Int × Int × Int × Int × Int × Int), out = .inl s' → Ω 38 ([some (.inr (.inr 48)), some (.inl (s'.1)), some (.inl (s'.2.1)), some (.inl (s'.2.2.1)), some (.inl (s'.2.2.2.1)), some (.inl (s'.2.2.2.2.1)), some (.inl (s'.2.2.2.2.2)), none, none], [], N, X)) (hK1 : ∀ t : Int, out = .inr t → Ω 107 ([none, none, none, some (.inl t), none, none, none, none, none], [], N, X)) (hF : b_X7_cheapest_38 X N a1 a2 a3 a4 a5 a6 = some out) : Ω 38 ([some (.inr (.inr 48)), some (.inl a1), some (.inl a2), some (.inl a3), some (.inl a4), some (.inl a5), some (.inl a6), none, none], [], N, X) := by
  unfold b_X7_cheapest_38 at hF
  refine s_iload hG dX7_cheapest_38 rfl ?_
  refine s_iload_n hG dX7_cheapest_40 rfl ?_
  refine s_icmp_ge hG 107 dX7_cheapest_41 (by decide) (fun c8 => ?_) (fun c8 => ?_)
  · replace hF := Eq.trans (if_pos c8).symm hF
    refine s_iload hG dX7_cheapest_44 rfl ?_
    obtain ⟨o3, ho3, hF⟩ := bd_some hF
    refine s_callS (d' := d - 1) (args := [.inl a6]) hG (by omega) dX7_cheapest_46 cs_RX7_70 cw_J6_bitCount_0f7a4 rfl (Nat.le_of_ble_eq_true rfl) rfl (t_J6_bitCount_0f7a4 hsk (by omega) ho3) ?_
    refine s_istore hG dX7_cheapest_49 (by decide) rfl ?_
    refine s_iload hG dX7_cheapest_51 rfl ?_
    refine s_iload hG dX7_cheapest_53 rfl ?_
    refine s_icmp_gt hG 101 dX7_cheapest_55 (by decide) (fun c7 => ?_) (fun c7 => ?_)
    · replace hF := Eq.trans (if_pos c7).symm hF
      refine m_weak (ls1 := [some (.inr (.inr 48)), some (.inl a1), some (.inl a2), some (.inl a3), some (.inl a4), some (.inl a5), some (.inl a6), none, none]) hG ⟨rfl, ⟨rfl, ⟨rfl, ⟨rfl, ⟨rfl, ⟨rfl, ⟨rfl, trivial⟩⟩⟩⟩⟩⟩⟩ ?_
      exact t_X7_cheapest_l38_j101 hsk hd hG hK0 hK1 hF
    · replace hF := Eq.trans (if_neg c7).symm hF
      refine s_aload_n hG dX7_cheapest_58 rfl ?_
      refine s_iload hG dX7_cheapest_59 rfl ?_
      obtain ⟨o4, ho4, hF⟩ := bd_some hF
      refine s_callV (d' := d - 1) (ci := 7) (args := [.inl a6]) hG (by omega) dX7_cheapest_61 cv_RX7_75 cw_X7_worthOf rfl rfl (sk_k hsk 48 rfl) (Nat.le_of_ble_eq_true rfl) rfl (t_X7_worthOf hsk (by omega) ho4) ?_
      refine s_istore hG dX7_cheapest_64 (by decide) rfl ?_
      refine s_iload hG dX7_cheapest_66 rfl ?_
      refine s_iload hG dX7_cheapest_68 rfl ?_
      refine s_icmp_lt hG 80 dX7_cheapest_70 (by decide) (fun c6 => ?_) (fun c6 => ?_)
      · replace hF := Eq.trans (if_pos c6).symm hF
        exact t_X7_cheapest_l38_j80 hsk hd hG hK0 hK1 hF
      · replace hF := Eq.trans (if_neg c6).symm hF
        refine s_iload hG dX7_cheapest_73 rfl ?_
        refine s_iload hG dX7_cheapest_75 rfl ?_
        refine s_icmp_ge hG 101 dX7_cheapest_77 (by decide) (fun c5 => ?_) (fun c5 => ?_)
        · replace hF := Eq.trans (if_pos c5).symm hF
          exact t_X7_cheapest_l38_j80 hsk hd hG hK0 hK1 hF
        · replace hF := Eq.trans (if_neg c5).symm hF
          refine m_weak (ls1 := [some (.inr (.inr 48)), some (.inl a1), some (.inl a2), some (.inl a3), some (.inl a4), some (.inl a5), some (.inl a6), none, none]) hG ⟨rfl, ⟨rfl, ⟨rfl, ⟨rfl, ⟨rfl, ⟨rfl, ⟨rfl, trivial⟩⟩⟩⟩⟩⟩⟩ ?_
          exact t_X7_cheapest_l38_j101 hsk hd hG hK0 hK1 hF
  · replace hF := Eq.trans (if_neg c8).symm hF
    cases hF
    refine m_weak (ls1 := [none, none, none, some (.inl a3), none, none, none, none, none]) hG ⟨rfl, trivial⟩ ?_
    exact hK1 _ rfl
theorem t_X7_cheapest_lp38 {d n0 s0 nF sF : Nat} {X : MX} {N : NN} {Ω : Nat → MS → Prop} {a1 : Int} {a2 : Int} {a3 : Int} {a4 : Int} {a5 : Int} {a6 : Int} (hsk : m_Sk X) (hd : 2 ≤ d) (hG : m_G d yX7_cheapest.cls yX7_cheapest.name cX7_cheapest 9 n0 s0 nF sF Ω) {t : Int} (hK1 : Ω 107 ([none, none, none, some (.inl t), none, none, none, none, none], [], N, X)) (hl : lp (fun s => b_X7_cheapest_38 X N s.1 s.2.1 s.2.2.1 s.2.2.2.1 s.2.2.2.2.1 s.2.2.2.2.2) (a1, a2, a3, a4, a5, a6) = some t) : Ω 38 ([some (.inr (.inr 48)), some (.inl a1), some (.inl a2), some (.inl a3), some (.inl a4), some (.inl a5), some (.inl a6), none, none], [], N, X) := by
  refine lp_ok (P := fun s => Ω 38 ([some (.inr (.inr 48)), some (.inl s.1), some (.inl s.2.1), some (.inl s.2.2.1), some (.inl s.2.2.2.1), some (.inl s.2.2.2.2.1), some (.inl s.2.2.2.2.2), none, none], [], N, X)) (K := fun t => Ω 107 ([none, none, none, some (.inl t), none, none, none, none, none], [], N, X)) (fun s out hF hK0 hK1 => ?_) hl hK1
  exact t_X7_cheapest_b38 hsk hd hG (out := out) (fun s' e => hK0 s' e) (fun t' e => hK1 t' e) hF
theorem t_X7_cheapest {d : Nat} {X : MX} {N : NN} {a1 : Int} {out : Int} (hsk : m_Sk X) (hd : 2 ≤ d) (hF : f_X7_cheapest X N a1 = some out) : m_Call d yX7_cheapest cX7_cheapest 9 (some .int) [(.inr (.inr 48)), (.inl a1)] N X (some (.inl out)) N X := by
  refine m_mk (ls0 := [some (.inr (.inr 48)), some (.inl a1), none, none, none, none, none, none, none]) (by decide) rfl (Nat.le_of_ble_eq_true rfl) (Nat.le_refl _) (Nat.le_refl _) (fun Ω hE => ?_)
  have hG := hE.G
  unfold f_X7_cheapest at hF
  refine s_iconst hG dX7_cheapest_0 ⟨by decide, by decide⟩ ?_
  refine s_aload_n hG dX7_cheapest_1 rfl ?_
  refine s_geti hG dX7_cheapest_2 fl_RX7_24 (sk_k hsk 48 rfl) rfl ?_
  refine s_ishl hG dX7_cheapest_5 ?_
  refine s_iconst hG dX7_cheapest_6 ⟨by decide, by decide⟩ ?_
  refine s_isub hG dX7_cheapest_7 ?_
  refine s_istore_n hG dX7_cheapest_8 (by decide) rfl ?_
  refine s_aload_n hG dX7_cheapest_9 rfl ?_
  refine s_iload_n hG dX7_cheapest_10 rfl ?_
  refine s_iload_n hG dX7_cheapest_11 rfl ?_
  obtain ⟨o1, ho1, hF⟩ := bd_some hF
  refine s_callV (d' := d - 1) (ci := 7) (args := [.inl (m_w ((m_shl 1 (N 48 5)) - 1)), .inl a1]) hG (by omega) dX7_cheapest_12 cv_RX7_97 cw_X7_falls rfl rfl (sk_k hsk 48 rfl) (Nat.le_of_ble_eq_true rfl) rfl (t_X7_falls hsk (by omega) ho1) ?_
  refine s_if_ne hG 20 dX7_cheapest_15 (by decide) (fun c12 => ?_) (fun c12 => ?_)
  · replace hF := Eq.trans (if_pos c12).symm hF
    refine s_iconst hG dX7_cheapest_18 ⟨by decide, by decide⟩ ?_
    cases hF
    exact s_iret hE dX7_cheapest_19 rfl
  · replace hF := Eq.trans (if_neg c12).symm hF
    refine s_iload_n hG dX7_cheapest_20 rfl ?_
    refine s_istore_n hG dX7_cheapest_21 (by decide) rfl ?_
    refine s_aload_n hG dX7_cheapest_22 rfl ?_
    refine s_geti hG dX7_cheapest_23 fl_RX7_24 (sk_k hsk 48 rfl) rfl ?_
    refine s_istore hG dX7_cheapest_26 (by decide) rfl ?_
    refine s_aload_n hG dX7_cheapest_28 rfl ?_
    refine s_iload_n hG dX7_cheapest_29 rfl ?_
    obtain ⟨o2, ho2, hF⟩ := bd_some hF
    refine s_callV (d' := d - 1) (ci := 7) (args := [.inl (m_w ((m_shl 1 (N 48 5)) - 1))]) hG (by omega) dX7_cheapest_30 cv_RX7_75 cw_X7_worthOf rfl rfl (sk_k hsk 48 rfl) (Nat.le_of_ble_eq_true rfl) rfl (t_X7_worthOf hsk (by omega) ho2) ?_
    refine s_istore hG dX7_cheapest_33 (by decide) rfl ?_
    refine s_iconst hG dX7_cheapest_35 ⟨by decide, by decide⟩ ?_
    refine s_istore hG dX7_cheapest_36 (by decide) rfl ?_
    obtain ⟨o11, hlo11, hF⟩ := bd_some hF
    refine t_X7_cheapest_lp38 hsk hd hG ?_ hlo11
    refine s_iload_n hG dX7_cheapest_107 rfl ?_
    cases hF
    exact s_iret hE dX7_cheapest_108 rfl
-- X7_gather
theorem t_X7_gather_b30 {d n0 s0 nF sF : Nat} {X : MX} {r1 : Nat} {Ω : Nat → MS → Prop} {N : NN} {a2 : Int} {a3 : Int} {a4 : Int} {a5 : Int} {a6 : Int} (hsk : m_Sk X) (hd : 5 ≤ d) (h1 : m_isW X r1) (hG : m_G d yX7_gather.cls yX7_gather.name cX7_gather 9 n0 s0 nF sF Ω) {out : ((NN × Int × Int × Int × Int × Int) ⊕ (NN × Int × Int × Int × Int))} (hK0 : ∀ s' : (NN × Int × Int × Int × Int × Int), out = .inl s' → Ω 30 ([some (.inr (.inr 48)), some (.inr (.inr r1)), some (.inl (s'.2.1)), some (.inl (s'.2.2.1)), some (.inl (s'.2.2.2.1)), some (.inl (s'.2.2.2.2.1)), some (.inl (s'.2.2.2.2.2)), none, none], [], s'.1, X)) (hK1 : ∀ t : (NN × Int × Int × Int × Int), out = .inr t → Ω 66 ([some (.inr (.inr 48)), some (.inr (.inr r1)), some (.inl t.2.1), some (.inl t.2.2.1), some (.inl t.2.2.2.1), some (.inl t.2.2.2.2), none, none, none], [], t.1, X)) (hF : b_X7_gather_30 X r1 N a2 a3 a4 a5 a6 = some out) : Ω 30 ([some (.inr (.inr 48)), some (.inr (.inr r1)), some (.inl a2), some (.inl a3), some (.inl a4), some (.inl a5), some (.inl a6), none, none], [], N, X) := by
  unfold b_X7_gather_30 at hF
  refine s_iload hG dX7_gather_30 rfl ?_
  refine s_iload hG dX7_gather_32 rfl ?_
  refine s_icmp_ge hG 66 dX7_gather_34 (by decide) (fun c9 => ?_) (fun c9 => ?_)
  · replace hF := Eq.trans (if_pos c9).symm hF
    refine s_aload_n hG dX7_gather_37 rfl ?_
    refine s_getr (r := 52) hG dX7_gather_38 fl_RX7_21 (sk_k hsk 48 rfl) rfl (sk_R hsk 48 4 rfl) ?_
    refine s_iload hG dX7_gather_41 rfl ?_
    refine s_aload_n hG dX7_gather_43 rfl ?_
    refine s_getr (r := 25) hG dX7_gather_44 fl_RX7_34 (sk_k hsk 48 rfl) rfl (sk_R hsk 48 0 rfl) ?_
    refine s_aload_n hG dX7_gather_47 rfl ?_
    refine s_iload_n hG dX7_gather_48 rfl ?_
    refine s_iload hG dX7_gather_49 rfl ?_
    refine s_iconst hG dX7_gather_51 ⟨by decide, by decide⟩ ?_
    refine s_iadd hG dX7_gather_52 ?_
    refine s_iload hG dX7_gather_53 rfl ?_
    refine s_iadd hG dX7_gather_55 ?_
    obtain ⟨o6, ho6, hF⟩ := bd_some hF
    refine s_callV (d' := d - 1) (ci := 2) (args := [.inr (.inr r1), .inl a3, .inl (m_w ((m_w (a5 + 1)) + a6))]) hG (by omega) dX7_gather_56 cv_RX7_57 cw_X2_upkeep rfl rfl (sk_k hsk 25 rfl) (Nat.le_of_ble_eq_true rfl) rfl (t_X2_upkeep hsk (by omega) h1 ho6) ?_
    obtain ⟨g7, hF⟩ := gd_some hF
    refine s_iastj (j := a6.toNat) hG dX7_gather_59 (sk_K hsk 52 rfl) g7 rfl ?_
    refine s_iinc hG dX7_gather_60 (by decide) rfl rfl ?_
    refine s_goto hG 30 dX7_gather_63 (by decide) ?_
    cases hF
    exact hK0 _ rfl
  · replace hF := Eq.trans (if_neg c9).symm hF
    cases hF
    refine m_weak (ls1 := [some (.inr (.inr 48)), some (.inr (.inr r1)), some (.inl a2), some (.inl a3), some (.inl a4), some (.inl a5), none, none, none]) hG ⟨rfl, ⟨rfl, ⟨rfl, ⟨rfl, ⟨rfl, ⟨rfl, trivial⟩⟩⟩⟩⟩⟩ ?_
    exact hK1 _ rfl
theorem t_X7_gather_lp30 {d n0 s0 nF sF : Nat} {X : MX} {r1 : Nat} {Ω : Nat → MS → Prop} {N : NN} {a2 : Int} {a3 : Int} {a4 : Int} {a5 : Int} {a6 : Int} (hsk : m_Sk X) (hd : 5 ≤ d) (h1 : m_isW X r1) (hG : m_G d yX7_gather.cls yX7_gather.name cX7_gather 9 n0 s0 nF sF Ω) {t : (NN × Int × Int × Int × Int)} (hK1 : Ω 66 ([some (.inr (.inr 48)), some (.inr (.inr r1)), some (.inl t.2.1), some (.inl t.2.2.1), some (.inl t.2.2.2.1), some (.inl t.2.2.2.2), none, none, none], [], t.1, X)) (hl : lp (fun s => b_X7_gather_30 X r1 s.1 s.2.1 s.2.2.1 s.2.2.2.1 s.2.2.2.2.1 s.2.2.2.2.2) (N, a2, a3, a4, a5, a6) = some t) : Ω 30 ([some (.inr (.inr 48)), some (.inr (.inr r1)), some (.inl a2), some (.inl a3), some (.inl a4), some (.inl a5), some (.inl a6), none, none], [], N, X) := by
  refine lp_ok (P := fun s => Ω 30 ([some (.inr (.inr 48)), some (.inr (.inr r1)), some (.inl s.2.1), some (.inl s.2.2.1), some (.inl s.2.2.2.1), some (.inl s.2.2.2.2.1), some (.inl s.2.2.2.2.2), none, none], [], s.1, X)) (K := fun t => Ω 66 ([some (.inr (.inr 48)), some (.inr (.inr r1)), some (.inl t.2.1), some (.inl t.2.2.1), some (.inl t.2.2.2.1), some (.inl t.2.2.2.2), none, none, none], [], t.1, X)) (fun s out hF hK0 hK1 => ?_) hl hK1
  exact t_X7_gather_b30 hsk hd h1 hG (out := out) (fun s' e => hK0 s' e) (fun t' e => hK1 t' e) hF
theorem t_X7_gather_b157 {d n0 s0 nF sF : Nat} {X : MX} {r1 : Nat} {Ω : Nat → MS → Prop} {N : NN} {a2 : Int} {a3 : Int} {a4 : Int} {a5 : Int} {a6 : Int} {a7 : Int} {a8 : Int} (hsk : m_Sk X) (hd : 5 ≤ d) (h1 : m_isW X r1) (hG : m_G d yX7_gather.cls yX7_gather.name cX7_gather 9 n0 s0 nF sF Ω) {out : ((NN × Int × Int × Int × Int × Int × Int × Int) ⊕ (NN × Int × Int × Int × Int × Int × Int))} (hK0 : ∀ s' : (NN × Int × Int × Int × Int × Int × Int × Int), out = .inl s' → Ω 157 ([some (.inr (.inr 48)), some (.inr (.inr r1)), some (.inl (s'.2.1)), some (.inl (s'.2.2.1)), some (.inl (s'.2.2.2.1)), some (.inl (s'.2.2.2.2.1)), some (.inl (s'.2.2.2.2.2.1)), some (.inl (s'.2.2.2.2.2.2.1)), some (.inl (s'.2.2.2.2.2.2.2))], [], s'.1, X)) (hK1 : ∀ t : (NN × Int × Int × Int × Int × Int × Int), out = .inr t → Ω 203 ([some (.inr (.inr 48)), some (.inr (.inr r1)), some (.inl t.2.1), some (.inl t.2.2.1), some (.inl t.2.2.2.1), some (.inl t.2.2.2.2.1), some (.inl t.2.2.2.2.2.1), some (.inl t.2.2.2.2.2.2), none], [], t.1, X)) (hF : b_X7_gather_157 X r1 N a2 a3 a4 a5 a6 a7 a8 = some out) : Ω 157 ([some (.inr (.inr 48)), some (.inr (.inr r1)), some (.inl a2), some (.inl a3), some (.inl a4), some (.inl a5), some (.inl a6), some (.inl a7), some (.inl a8)], [], N, X) := by
  unfold b_X7_gather_157 at hF
  refine s_iload hG dX7_gather_157 rfl ?_
  refine s_iload hG dX7_gather_159 rfl ?_
  refine s_icmp_ge hG 203 dX7_gather_161 (by decide) (fun c23 => ?_) (fun c23 => ?_)
  · replace hF := Eq.trans (if_pos c23).symm hF
    refine s_aload_n hG dX7_gather_164 rfl ?_
    refine s_getr (r := 51) hG dX7_gather_165 fl_RX7_18 (sk_k hsk 48 rfl) rfl (sk_R hsk 48 3 rfl) ?_
    refine s_aload_n hG dX7_gather_168 rfl ?_
    refine s_geti hG dX7_gather_169 fl_RX7_24 (sk_k hsk 48 rfl) rfl ?_
    refine s_bipush hG dX7_gather_172 bp_9 ⟨by decide, by decide⟩ ?_
    refine s_imul hG dX7_gather_174 ?_
    refine s_iload hG dX7_gather_175 rfl ?_
    refine s_iadd hG dX7_gather_177 ?_
    refine s_aload_n hG dX7_gather_178 rfl ?_
    refine s_getr (r := 25) hG dX7_gather_179 fl_RX7_34 (sk_k hsk 48 rfl) rfl (sk_R hsk 48 0 rfl) ?_
    refine s_aload_n hG dX7_gather_182 rfl ?_
    refine s_iload hG dX7_gather_183 rfl ?_
    refine s_iload_n hG dX7_gather_185 rfl ?_
    refine s_iload hG dX7_gather_186 rfl ?_
    refine s_iconst hG dX7_gather_188 ⟨by decide, by decide⟩ ?_
    refine s_iadd hG dX7_gather_189 ?_
    refine s_iload hG dX7_gather_190 rfl ?_
    refine s_iadd hG dX7_gather_192 ?_
    obtain ⟨o20, ho20, hF⟩ := bd_some hF
    refine s_callV (d' := d - 1) (ci := 2) (args := [.inr (.inr r1), .inl a7, .inl a3, .inl (m_w ((m_w (a5 + 1)) + a8))]) hG (by omega) dX7_gather_193 cv_RX7_95 cw_X2_costs rfl rfl (sk_k hsk 25 rfl) (Nat.le_of_ble_eq_true rfl) rfl (t_X2_costs hsk (by omega) h1 ho20) ?_
    obtain ⟨g21, hF⟩ := gd_some hF
    refine s_iastj (j := (m_w ((m_w ((N 48 5) * 9)) + a8)).toNat) hG dX7_gather_196 (sk_K hsk 51 rfl) g21 rfl ?_
    refine s_iinc hG dX7_gather_197 (by decide) rfl rfl ?_
    refine s_goto hG 157 dX7_gather_200 (by decide) ?_
    cases hF
    exact hK0 _ rfl
  · replace hF := Eq.trans (if_neg c23).symm hF
    cases hF
    refine m_weak (ls1 := [some (.inr (.inr 48)), some (.inr (.inr r1)), some (.inl a2), some (.inl a3), some (.inl a4), some (.inl a5), some (.inl a6), some (.inl a7), none]) hG ⟨rfl, ⟨rfl, ⟨rfl, ⟨rfl, ⟨rfl, ⟨rfl, ⟨rfl, ⟨rfl, trivial⟩⟩⟩⟩⟩⟩⟩⟩ ?_
    exact hK1 _ rfl
theorem t_X7_gather_lp157 {d n0 s0 nF sF : Nat} {X : MX} {r1 : Nat} {Ω : Nat → MS → Prop} {N : NN} {a2 : Int} {a3 : Int} {a4 : Int} {a5 : Int} {a6 : Int} {a7 : Int} {a8 : Int} (hsk : m_Sk X) (hd : 5 ≤ d) (h1 : m_isW X r1) (hG : m_G d yX7_gather.cls yX7_gather.name cX7_gather 9 n0 s0 nF sF Ω) {t : (NN × Int × Int × Int × Int × Int × Int)} (hK1 : Ω 203 ([some (.inr (.inr 48)), some (.inr (.inr r1)), some (.inl t.2.1), some (.inl t.2.2.1), some (.inl t.2.2.2.1), some (.inl t.2.2.2.2.1), some (.inl t.2.2.2.2.2.1), some (.inl t.2.2.2.2.2.2), none], [], t.1, X)) (hl : lp (fun s => b_X7_gather_157 X r1 s.1 s.2.1 s.2.2.1 s.2.2.2.1 s.2.2.2.2.1 s.2.2.2.2.2.1 s.2.2.2.2.2.2.1 s.2.2.2.2.2.2.2) (N, a2, a3, a4, a5, a6, a7, a8) = some t) : Ω 157 ([some (.inr (.inr 48)), some (.inr (.inr r1)), some (.inl a2), some (.inl a3), some (.inl a4), some (.inl a5), some (.inl a6), some (.inl a7), some (.inl a8)], [], N, X) := by
  refine lp_ok (P := fun s => Ω 157 ([some (.inr (.inr 48)), some (.inr (.inr r1)), some (.inl s.2.1), some (.inl s.2.2.1), some (.inl s.2.2.2.1), some (.inl s.2.2.2.2.1), some (.inl s.2.2.2.2.2.1), some (.inl s.2.2.2.2.2.2.1), some (.inl s.2.2.2.2.2.2.2)], [], s.1, X)) (K := fun t => Ω 203 ([some (.inr (.inr 48)), some (.inr (.inr r1)), some (.inl t.2.1), some (.inl t.2.2.1), some (.inl t.2.2.2.1), some (.inl t.2.2.2.2.1), some (.inl t.2.2.2.2.2.1), some (.inl t.2.2.2.2.2.2), none], [], t.1, X)) (fun s out hF hK0 hK1 => ?_) hl hK1
  exact t_X7_gather_b157 hsk hd h1 hG (out := out) (fun s' e => hK0 s' e) (fun t' e => hK1 t' e) hF
theorem t_X7_gather_l77_j213 {d n0 s0 nF sF : Nat} {X : MX} {r1 : Nat} {Ω : Nat → MS → Prop} {N : NN} {a2 : Int} {a3 : Int} {a4 : Int} {a5 : Int} {a6 : Int} {a7 : Int} (hsk : m_Sk X) (hd : 5 ≤ d) (h1 : m_isW X r1) (hG : m_G d yX7_gather.cls yX7_gather.name cX7_gather 9 n0 s0 nF sF Ω) {out : ((NN × Int × Int × Int × Int × Int × Int) ⊕ NN)} (hK0 : ∀ s' : (NN × Int × Int × Int × Int × Int × Int), out = .inl s' → Ω 77 ([some (.inr (.inr 48)), some (.inr (.inr r1)), some (.inl (s'.2.1)), some (.inl (s'.2.2.1)), some (.inl (s'.2.2.2.1)), some (.inl (s'.2.2.2.2.1)), some (.inl (s'.2.2.2.2.2.1)), some (.inl (s'.2.2.2.2.2.2)), none], [], s'.1, X)) (hK1 : ∀ t : NN, out = .inr t → Ω 219 ([none, none, none, none, none, none, none, none, none], [], t, X)) (hF : f_X7_gather_l77_j213 X r1 N a2 a3 a4 a5 a6 a7 = some out) : Ω 213 ([some (.inr (.inr 48)), some (.inr (.inr r1)), some (.inl a2), some (.inl a3), some (.inl a4), some (.inl a5), some (.inl a6), some (.inl a7), none], [], N, X) := by
  unfold f_X7_gather_l77_j213 at hF
  refine s_iinc hG dX7_gather_213 (by decide) rfl rfl ?_
  refine s_goto hG 77 dX7_gather_216 (by decide) ?_
  cases hF
  exact hK0 _ rfl
theorem t_X7_gather_b77 {d n0 s0 nF sF : Nat} {X : MX} {r1 : Nat} {Ω : Nat → MS → Prop} {N : NN} {a2 : Int} {a3 : Int} {a4 : Int} {a5 : Int} {a6 : Int} {a7 : Int} (hsk : m_Sk X) (hd : 5 ≤ d) (h1 : m_isW X r1) (hG : m_G d yX7_gather.cls yX7_gather.name cX7_gather 9 n0 s0 nF sF Ω) {out : ((NN × Int × Int × Int × Int × Int × Int) ⊕ NN)} (hK0 : ∀ s' : (NN × Int × Int × Int × Int × Int × Int), out = .inl s' → Ω 77 ([some (.inr (.inr 48)), some (.inr (.inr r1)), some (.inl (s'.2.1)), some (.inl (s'.2.2.1)), some (.inl (s'.2.2.2.1)), some (.inl (s'.2.2.2.2.1)), some (.inl (s'.2.2.2.2.2.1)), some (.inl (s'.2.2.2.2.2.2)), none], [], s'.1, X)) (hK1 : ∀ t : NN, out = .inr t → Ω 219 ([none, none, none, none, none, none, none, none, none], [], t, X)) (hF : b_X7_gather_77 X r1 N a2 a3 a4 a5 a6 a7 = some out) : Ω 77 ([some (.inr (.inr 48)), some (.inr (.inr r1)), some (.inl a2), some (.inl a3), some (.inl a4), some (.inl a5), some (.inl a6), some (.inl a7), none], [], N, X) := by
  unfold b_X7_gather_77 at hF
  refine s_iload hG dX7_gather_77 rfl ?_
  refine s_aload_n hG dX7_gather_79 rfl ?_
  refine s_iconst hG dX7_gather_80 ⟨by decide, by decide⟩ ?_
  obtain ⟨o12, ho12, hF⟩ := bd_some hF
  refine s_callV (d' := d - 1) (ci := 10) (args := [.inl 1]) hG (by omega) dX7_gather_81 cv_RX7_81 cw_X10_many rfl rfl h1.1 (Nat.le_of_ble_eq_true rfl) rfl (t_X10_many hsk (by omega) h1 ho12) ?_
  refine s_icmp_ge hG 219 dX7_gather_84 (by decide) (fun c29 => ?_) (fun c29 => ?_)
  · replace hF := Eq.trans (if_pos c29).symm hF
    refine s_iload hG dX7_gather_87 rfl ?_
    refine s_bipush hG dX7_gather_89 bp_10 ⟨by decide, by decide⟩ ?_
    refine s_icmp_ge hG 219 dX7_gather_91 (by decide) (fun c28 => ?_) (fun c28 => ?_)
    · replace hF := Eq.trans (if_pos c28).symm hF
      refine s_aload_n hG dX7_gather_94 rfl ?_
      refine s_iload hG dX7_gather_95 rfl ?_
      refine s_iload_n hG dX7_gather_97 rfl ?_
      obtain ⟨o13, ho13, hF⟩ := bd_some hF
      refine s_callV (d' := d - 1) (ci := 10) (args := [.inl a7, .inl a2]) hG (by omega) dX7_gather_98 cv_RX7_83 cw_X10_isOwnedAndHeld rfl rfl h1.1 (Nat.le_of_ble_eq_true rfl) rfl (t_X10_isOwnedAndHeld hsk (by omega) h1 ho13) ?_
      refine s_if_eq hG 213 dX7_gather_101 (by decide) (fun c27 => ?_) (fun c27 => ?_)
      · replace hF := Eq.trans (if_pos c27).symm hF
        exact t_X7_gather_l77_j213 hsk hd h1 hG hK0 hK1 hF
      · replace hF := Eq.trans (if_neg c27).symm hF
        refine s_iinc hG dX7_gather_104 (by decide) rfl rfl ?_
        refine s_aload_n hG dX7_gather_107 rfl ?_
        refine s_getr (r := 25) hG dX7_gather_108 fl_RX7_34 (sk_k hsk 48 rfl) rfl (sk_R hsk 48 0 rfl) ?_
        refine s_aload_n hG dX7_gather_111 rfl ?_
        refine s_iload hG dX7_gather_112 rfl ?_
        refine s_iload_n hG dX7_gather_114 rfl ?_
        refine s_iload_n hG dX7_gather_115 rfl ?_
        obtain ⟨o14, ho14, hF⟩ := bd_some hF
        refine s_callV (d' := d - 1) (ci := 2) (args := [.inr (.inr r1), .inl a7, .inl a2, .inl a3]) hG (by omega) dX7_gather_116 cv_RX7_87 cw_X2_bars rfl rfl (sk_k hsk 25 rfl) (Nat.le_of_ble_eq_true rfl) rfl (t_X2_bars hsk (by omega) h1 ho14) ?_
        refine s_if_ne hG 213 dX7_gather_119 (by decide) (fun c26 => ?_) (fun c26 => ?_)
        · replace hF := Eq.trans (if_pos c26).symm hF
          refine s_aload_n hG dX7_gather_122 rfl ?_
          refine s_getr (r := 49) hG dX7_gather_123 fl_RX7_11 (sk_k hsk 48 rfl) rfl (sk_R hsk 48 1 rfl) ?_
          refine s_aload_n hG dX7_gather_126 rfl ?_
          refine s_geti hG dX7_gather_127 fl_RX7_24 (sk_k hsk 48 rfl) rfl ?_
          refine s_iload hG dX7_gather_130 rfl ?_
          obtain ⟨g15, hF⟩ := gd_some hF
          refine s_iastj (j := (o14.2 48 5).toNat) hG dX7_gather_132 (sk_K hsk 49 rfl) g15 rfl ?_
          let N16 : NN := m_up o14.2 49 ((o14.2 48 5).toNat) a7
          refine s_aload_n hG dX7_gather_133 rfl ?_
          refine s_getr (r := 50) hG dX7_gather_134 fl_RX7_15 (sk_k hsk 48 rfl) rfl (sk_R hsk 48 2 rfl) ?_
          refine s_aload_n hG dX7_gather_137 rfl ?_
          refine s_geti hG dX7_gather_138 fl_RX7_24 (sk_k hsk 48 rfl) rfl ?_
          refine s_aload_n hG dX7_gather_141 rfl ?_
          refine s_getr (r := 25) hG dX7_gather_142 fl_RX7_34 (sk_k hsk 48 rfl) rfl (sk_R hsk 48 0 rfl) ?_
          refine s_aload_n hG dX7_gather_145 rfl ?_
          refine s_iload hG dX7_gather_146 rfl ?_
          refine s_iload_n hG dX7_gather_148 rfl ?_
          refine s_iload_n hG dX7_gather_149 rfl ?_
          obtain ⟨o17, ho17, hF⟩ := bd_some hF
          refine s_callV (d' := d - 1) (ci := 2) (args := [.inr (.inr r1), .inl a7, .inl a2, .inl a3]) hG (by omega) dX7_gather_150 cv_RX7_91 cw_X2_worth rfl rfl (sk_k hsk 25 rfl) (Nat.le_of_ble_eq_true rfl) rfl (t_X2_worth hsk (by omega) h1 ho17) ?_
          obtain ⟨g18, hF⟩ := gd_some hF
          refine s_iastj (j := (N16 48 5).toNat) hG dX7_gather_153 (sk_K hsk 50 rfl) g18 rfl ?_
          refine s_iconst hG dX7_gather_154 ⟨by decide, by decide⟩ ?_
          refine s_istore hG dX7_gather_155 (by decide) rfl ?_
          obtain ⟨o24, hlo24, hF⟩ := bd_some hF
          refine t_X7_gather_lp157 hsk hd h1 hG ?_ hlo24
          refine s_aload_n hG dX7_gather_203 rfl ?_
          refine s_dup hG dX7_gather_204 rfl ?_
          refine s_geti hG dX7_gather_205 fl_RX7_24 (sk_k hsk 48 rfl) rfl ?_
          refine s_iconst hG dX7_gather_208 ⟨by decide, by decide⟩ ?_
          refine s_iadd hG dX7_gather_209 ?_
          refine s_puti hG dX7_gather_210 fl_RX7_24 (fun h => by cases h) (sk_k hsk 48 rfl) rfl ?_
          exact t_X7_gather_l77_j213 hsk hd h1 hG hK0 hK1 hF
        · replace hF := Eq.trans (if_neg c26).symm hF
          exact t_X7_gather_l77_j213 hsk hd h1 hG hK0 hK1 hF
    · replace hF := Eq.trans (if_neg c28).symm hF
      cases hF
      refine m_weak (ls1 := [none, none, none, none, none, none, none, none, none]) hG trivial ?_
      exact hK1 _ rfl
  · replace hF := Eq.trans (if_neg c29).symm hF
    cases hF
    refine m_weak (ls1 := [none, none, none, none, none, none, none, none, none]) hG trivial ?_
    exact hK1 _ rfl
theorem t_X7_gather_lp77 {d n0 s0 nF sF : Nat} {X : MX} {r1 : Nat} {Ω : Nat → MS → Prop} {N : NN} {a2 : Int} {a3 : Int} {a4 : Int} {a5 : Int} {a6 : Int} {a7 : Int} (hsk : m_Sk X) (hd : 5 ≤ d) (h1 : m_isW X r1) (hG : m_G d yX7_gather.cls yX7_gather.name cX7_gather 9 n0 s0 nF sF Ω) {t : NN} (hK1 : Ω 219 ([none, none, none, none, none, none, none, none, none], [], t, X)) (hl : lp (fun s => b_X7_gather_77 X r1 s.1 s.2.1 s.2.2.1 s.2.2.2.1 s.2.2.2.2.1 s.2.2.2.2.2.1 s.2.2.2.2.2.2) (N, a2, a3, a4, a5, a6, a7) = some t) : Ω 77 ([some (.inr (.inr 48)), some (.inr (.inr r1)), some (.inl a2), some (.inl a3), some (.inl a4), some (.inl a5), some (.inl a6), some (.inl a7), none], [], N, X) := by
  refine lp_ok (P := fun s => Ω 77 ([some (.inr (.inr 48)), some (.inr (.inr r1)), some (.inl s.2.1), some (.inl s.2.2.1), some (.inl s.2.2.2.1), some (.inl s.2.2.2.2.1), some (.inl s.2.2.2.2.2.1), some (.inl s.2.2.2.2.2.2), none], [], s.1, X)) (K := fun t => Ω 219 ([none, none, none, none, none, none, none, none, none], [], t, X)) (fun s out hF hK0 hK1 => ?_) hl hK1
  exact t_X7_gather_b77 hsk hd h1 hG (out := out) (fun s' e => hK0 s' e) (fun t' e => hK1 t' e) hF
theorem t_X7_gather {d : Nat} {X : MX} {r1 : Nat} {N : NN} {a2 : Int} {a3 : Int} {a4 : Int} {out : NN} (hsk : m_Sk X) (hd : 5 ≤ d) (h1 : m_isW X r1) (hF : f_X7_gather X r1 N a2 a3 a4 = some out) : m_Call d yX7_gather cX7_gather 9 none [(.inr (.inr 48)), (.inr (.inr r1)), (.inl a2), (.inl a3), (.inl a4)] N X none out X := by
  refine m_mk (ls0 := [some (.inr (.inr 48)), some (.inr (.inr r1)), some (.inl a2), some (.inl a3), some (.inl a4), none, none, none, none]) (by decide) rfl (Nat.le_of_ble_eq_true rfl) (Nat.le_refl _) (Nat.le_refl _) (fun Ω hE => ?_)
  have hG := hE.G
  unfold f_X7_gather at hF
  refine s_aload_n hG dX7_gather_0 rfl ?_
  refine s_iconst hG dX7_gather_1 ⟨by decide, by decide⟩ ?_
  obtain ⟨o1, ho1, hF⟩ := bd_some hF
  refine s_callV (d' := d - 1) (ci := 10) (args := [.inl 0]) hG (by omega) dX7_gather_2 cv_RX7_48 cw_X10_term rfl rfl h1.1 (Nat.le_of_ble_eq_true rfl) rfl (t_X10_term hsk (by omega) h1 ho1) ?_
  refine s_istore hG dX7_gather_5 (by decide) rfl ?_
  refine s_aload_n hG dX7_gather_7 rfl ?_
  refine s_aload_n hG dX7_gather_8 rfl ?_
  refine s_iload_n hG dX7_gather_9 rfl ?_
  refine s_iconst hG dX7_gather_10 ⟨by decide, by decide⟩ ?_
  obtain ⟨o2, ho2, hF⟩ := bd_some hF
  refine s_callV (d' := d - 1) (ci := 10) (args := [.inl a3, .inl 0]) hG (by omega) dX7_gather_11 cv_RX7_44 cw_X10_lordAt rfl rfl h1.1 (Nat.le_of_ble_eq_true rfl) rfl (t_X10_lordAt hsk (by omega) h1 ho2) ?_
  refine s_puti hG dX7_gather_14 fl_RX7_28 (fun h => by cases h) (sk_k hsk 48 rfl) rfl ?_
  refine s_aload_n hG dX7_gather_17 rfl ?_
  refine s_aload_n hG dX7_gather_18 rfl ?_
  refine s_iload_n hG dX7_gather_19 rfl ?_
  refine s_iconst hG dX7_gather_20 ⟨by decide, by decide⟩ ?_
  obtain ⟨o4, ho4, hF⟩ := bd_some hF
  refine s_callV (d' := d - 1) (ci := 10) (args := [.inl a3, .inl 1]) hG (by omega) dX7_gather_21 cv_RX7_44 cw_X10_lordAt rfl rfl h1.1 (Nat.le_of_ble_eq_true rfl) rfl (t_X10_lordAt hsk (by omega) h1 ho4) ?_
  refine s_puti hG dX7_gather_24 fl_RX7_31 (fun h => by cases h) (sk_k hsk 48 rfl) rfl ?_
  refine s_iconst hG dX7_gather_27 ⟨by decide, by decide⟩ ?_
  refine s_istore hG dX7_gather_28 (by decide) rfl ?_
  obtain ⟨o10, hlo10, hF⟩ := bd_some hF
  refine t_X7_gather_lp30 hsk hd h1 hG ?_ hlo10
  refine s_aload_n hG dX7_gather_66 rfl ?_
  refine s_iconst hG dX7_gather_67 ⟨by decide, by decide⟩ ?_
  refine s_puti hG dX7_gather_68 fl_RX7_24 (fun h => by cases h) (sk_k hsk 48 rfl) rfl ?_
  refine s_iconst hG dX7_gather_71 ⟨by decide, by decide⟩ ?_
  refine s_istore hG dX7_gather_72 (by decide) rfl ?_
  refine s_iconst hG dX7_gather_74 ⟨by decide, by decide⟩ ?_
  refine s_istore hG dX7_gather_75 (by decide) rfl ?_
  obtain ⟨o30, hlo30, hF⟩ := bd_some hF
  refine t_X7_gather_lp77 hsk hd h1 hG ?_ hlo30
  cases hF
  exact s_vret hE dX7_gather_219 rfl
-- X7_answer
theorem t_X7_answer_j27 {d n0 s0 nF sF : Nat} {X : MX} {r1 : Nat} {Ω : Nat → MS → Prop} {N : NN} (hsk : m_Sk X) (hd : 6 ≤ d) (h1 : m_isW X r1) (hG : m_G d yX7_answer.cls yX7_answer.name cX7_answer 7 n0 s0 nF sF Ω) {out : (Int × NN)} (hE : m_Gd d yX7_answer cX7_answer 7 (some .int) X (some (.inl out.1)) out.2 X Ω) (hF : f_X7_answer_j27 X r1 N = some out) : Ω 27 ([none, none, none, none, none, none, none], [], N, X) := by
  unfold f_X7_answer_j27 at hF
  refine s_iconst hG dX7_answer_27 ⟨by decide, by decide⟩ ?_
  cases hF
  exact s_iret hE dX7_answer_28 rfl
theorem t_X7_answer_j88 {d n0 s0 nF sF : Nat} {X : MX} {r1 : Nat} {Ω : Nat → MS → Prop} {N : NN} {z0 : Int} (hsk : m_Sk X) (hd : 6 ≤ d) (h1 : m_isW X r1) (hG : m_G d yX7_answer.cls yX7_answer.name cX7_answer 7 n0 s0 nF sF Ω) {out : (Int × NN)} (hE : m_Gd d yX7_answer cX7_answer 7 (some .int) X (some (.inl out.1)) out.2 X Ω) (hF : f_X7_answer_j88 X r1 N z0 = some out) : Ω 88 ([none, none, none, none, none, none, none], [(.inl z0)], N, X) := by
  unfold f_X7_answer_j88 at hF
  cases hF
  exact s_iret hE dX7_answer_88 rfl
theorem t_X7_answer {d : Nat} {X : MX} {r1 : Nat} {N : NN} {a2 : Int} {a3 : Int} {a4 : Int} {a5 : Int} {out : (Int × NN)} (hsk : m_Sk X) (hd : 6 ≤ d) (h1 : m_isW X r1) (hF : f_X7_answer X r1 N a2 a3 a4 a5 = some out) : m_Call d yX7_answer cX7_answer 7 (some .int) [(.inr (.inr 48)), (.inr (.inr r1)), (.inl a2), (.inl a3), (.inl a4), (.inl a5)] N X (some (.inl out.1)) out.2 X := by
  refine m_mk (ls0 := [some (.inr (.inr 48)), some (.inr (.inr r1)), some (.inl a2), some (.inl a3), some (.inl a4), some (.inl a5), none]) (by decide) rfl (Nat.le_of_ble_eq_true rfl) (Nat.le_refl _) (Nat.le_refl _) (fun Ω hE => ?_)
  have hG := hE.G
  unfold f_X7_answer at hF
  refine s_aload_n hG dX7_answer_0 rfl ?_
  refine s_iload_n hG dX7_answer_1 rfl ?_
  obtain ⟨o1, ho1, hF⟩ := bd_some hF
  refine s_callV (d' := d - 1) (ci := 10) (args := [.inl a2]) hG (by omega) dX7_answer_2 cv_RX7_38 cw_X10_isRuined rfl rfl h1.1 (Nat.le_of_ble_eq_true rfl) rfl (t_X10_isRuined hsk (by omega) h1 ho1) ?_
  refine s_if_ne hG 27 dX7_answer_5 (by decide) (fun c14 => ?_) (fun c14 => ?_)
  · replace hF := Eq.trans (if_pos c14).symm hF
    refine s_aload_n hG dX7_answer_8 rfl ?_
    refine s_iload_n hG dX7_answer_9 rfl ?_
    obtain ⟨o2, ho2, hF⟩ := bd_some hF
    refine s_callV (d' := d - 1) (ci := 10) (args := [.inl a3]) hG (by omega) dX7_answer_10 cv_RX7_38 cw_X10_isRuined rfl rfl h1.1 (Nat.le_of_ble_eq_true rfl) rfl (t_X10_isRuined hsk (by omega) h1 ho2) ?_
    refine s_if_ne hG 27 dX7_answer_13 (by decide) (fun c13 => ?_) (fun c13 => ?_)
    · replace hF := Eq.trans (if_pos c13).symm hF
      refine s_iload hG dX7_answer_16 rfl ?_
      refine s_if_lt hG 27 dX7_answer_18 (by decide) (fun c12 => ?_) (fun c12 => ?_)
      · replace hF := Eq.trans (if_pos c12).symm hF
        refine m_weak (ls1 := [none, none, none, none, none, none, none]) hG trivial ?_
        exact t_X7_answer_j27 hsk hd h1 hG hE hF
      · replace hF := Eq.trans (if_neg c12).symm hF
        refine s_iload hG dX7_answer_21 rfl ?_
        refine s_iconst hG dX7_answer_23 ⟨by decide, by decide⟩ ?_
        refine s_icmp_le hG 29 dX7_answer_24 (by decide) (fun c11 => ?_) (fun c11 => ?_)
        · replace hF := Eq.trans (if_pos c11).symm hF
          refine m_weak (ls1 := [none, none, none, none, none, none, none]) hG trivial ?_
          exact t_X7_answer_j27 hsk hd h1 hG hE hF
        · replace hF := Eq.trans (if_neg c11).symm hF
          refine s_aload_n hG dX7_answer_29 rfl ?_
          refine s_aload_n hG dX7_answer_30 rfl ?_
          refine s_iload_n hG dX7_answer_31 rfl ?_
          refine s_iload_n hG dX7_answer_32 rfl ?_
          refine s_iload hG dX7_answer_33 rfl ?_
          obtain ⟨o3, ho3, hF⟩ := bd_some hF
          refine s_callV (d' := d - 1) (ci := 7) (args := [.inr (.inr r1), .inl a2, .inl a3, .inl a4]) hG (by omega) dX7_answer_35 cv_RX7_63 cw_X7_gather rfl rfl (sk_k hsk 48 rfl) (Nat.le_of_ble_eq_true rfl) rfl (t_X7_gather hsk (by omega) h1 ho3) ?_
          refine s_aload_n hG dX7_answer_38 rfl ?_
          refine s_iload hG dX7_answer_39 rfl ?_
          obtain ⟨o4, ho4, hF⟩ := bd_some hF
          refine s_callV (d' := d - 1) (ci := 7) (args := [.inl a4]) hG (by omega) dX7_answer_41 cv_RX7_67 cw_X7_cheapest rfl rfl (sk_k hsk 48 rfl) (Nat.le_of_ble_eq_true rfl) rfl (t_X7_cheapest hsk (by omega) ho4) ?_
          refine s_istore hG dX7_answer_44 (by decide) rfl ?_
          refine s_iload hG dX7_answer_46 rfl ?_
          refine s_iconst hG dX7_answer_48 ⟨by decide, by decide⟩ ?_
          refine s_icmp_ne hG 54 dX7_answer_49 (by decide) (fun c10 => ?_) (fun c10 => ?_)
          · replace hF := Eq.trans (if_pos c10).symm hF
            refine s_iconst hG dX7_answer_52 ⟨by decide, by decide⟩ ?_
            cases hF
            exact s_iret hE dX7_answer_53 rfl
          · replace hF := Eq.trans (if_neg c10).symm hF
            refine s_iload hG dX7_answer_54 rfl ?_
            refine s_if_ne hG 67 dX7_answer_56 (by decide) (fun c9 => ?_) (fun c9 => ?_)
            · replace hF := Eq.trans (if_pos c9).symm hF
              refine s_iload hG dX7_answer_59 rfl ?_
              obtain ⟨o5, ho5, hF⟩ := bd_some hF
              refine s_callS (d' := d - 1) (args := [.inl o4]) hG (by omega) dX7_answer_61 cs_RX7_70 cw_J6_bitCount_0f7a4 rfl (Nat.le_of_ble_eq_true rfl) rfl (t_J6_bitCount_0f7a4 hsk (by omega) ho5) ?_
              refine s_goto hG 88 dX7_answer_64 (by decide) ?_
              refine m_weak (ls1 := [none, none, none, none, none, none, none]) hG trivial ?_
              exact t_X7_answer_j88 hsk hd h1 hG hE hF
            · replace hF := Eq.trans (if_neg c9).symm hF
              refine s_iload hG dX7_answer_67 rfl ?_
              refine s_iconst hG dX7_answer_69 ⟨by decide, by decide⟩ ?_
              refine s_icmp_ne hG 82 dX7_answer_70 (by decide) (fun c8 => ?_) (fun c8 => ?_)
              · replace hF := Eq.trans (if_pos c8).symm hF
                refine s_aload_n hG dX7_answer_73 rfl ?_
                refine s_iload hG dX7_answer_74 rfl ?_
                obtain ⟨o6, ho6, hF⟩ := bd_some hF
                refine s_callV (d' := d - 1) (ci := 7) (args := [.inl o4]) hG (by omega) dX7_answer_76 cv_RX7_75 cw_X7_worthOf rfl rfl (sk_k hsk 48 rfl) (Nat.le_of_ble_eq_true rfl) rfl (t_X7_worthOf hsk (by omega) ho6) ?_
                refine s_goto hG 88 dX7_answer_79 (by decide) ?_
                refine m_weak (ls1 := [none, none, none, none, none, none, none]) hG trivial ?_
                exact t_X7_answer_j88 hsk hd h1 hG hE hF
              · replace hF := Eq.trans (if_neg c8).symm hF
                refine s_aload_n hG dX7_answer_82 rfl ?_
                refine s_iload hG dX7_answer_83 rfl ?_
                obtain ⟨o7, ho7, hF⟩ := bd_some hF
                refine s_callV (d' := d - 1) (ci := 7) (args := [.inl o4]) hG (by omega) dX7_answer_85 cv_RX7_78 cw_X7_bitsOf rfl rfl (sk_k hsk 48 rfl) (Nat.le_of_ble_eq_true rfl) rfl (t_X7_bitsOf hsk (by omega) ho7) ?_
                refine m_weak (ls1 := [none, none, none, none, none, none, none]) hG trivial ?_
                exact t_X7_answer_j88 hsk hd h1 hG hE hF
    · replace hF := Eq.trans (if_neg c13).symm hF
      refine m_weak (ls1 := [none, none, none, none, none, none, none]) hG trivial ?_
      exact t_X7_answer_j27 hsk hd h1 hG hE hF
  · replace hF := Eq.trans (if_neg c14).symm hF
    refine m_weak (ls1 := [none, none, none, none, none, none, none]) hG trivial ?_
    exact t_X7_answer_j27 hsk hd h1 hG hE hF
-- X11_siege
theorem t_X11_siege_j37 {d n0 s0 nF sF : Nat} {X : MX} {Ω : Nat → MS → Prop} {N : NN} (hsk : m_Sk X) (hd : 7 ≤ d) (hG : m_G d yX11_siege.cls yX11_siege.name cX11_siege 5 n0 s0 nF sF Ω) {out : (Int × NN)} (hE : m_Gd d yX11_siege cX11_siege 5 (some .int) X (some (.inl out.1)) out.2 X Ω) (hF : f_X11_siege_j37 X N = some out) : Ω 37 ([none, none, none, none, none], [], N, X) := by
  unfold f_X11_siege_j37 at hF
  refine s_iconst hG dX11_siege_37 ⟨by decide, by decide⟩ ?_
  cases hF
  exact s_iret hE dX11_siege_38 rfl
theorem t_X11_siege {d : Nat} {X : MX} {N : NN} {a1 : Int} {a2 : Int} {a3 : Int} {a4 : Int} {out : (Int × NN)} (hsk : m_Sk X) (hd : 7 ≤ d) (hF : f_X11_siege X N a1 a2 a3 a4 = some out) : m_Call d yX11_siege cX11_siege 5 (some .int) [(.inr (.inr 3)), (.inl a1), (.inl a2), (.inl a3), (.inl a4)] N X (some (.inl out.1)) out.2 X := by
  refine m_mk (ls0 := [some (.inr (.inr 3)), some (.inl a1), some (.inl a2), some (.inl a3), some (.inl a4)]) (by decide) rfl (Nat.le_of_ble_eq_true rfl) (Nat.le_refl _) (Nat.le_refl _) (fun Ω hE => ?_)
  have hG := hE.G
  unfold f_X11_siege at hF
  refine s_aload_n hG dX11_siege_0 rfl ?_
  refine s_getr (r := 4) hG dX11_siege_1 fl_RX11_10 (sk_k hsk 3 rfl) rfl (sk_R hsk 3 0 rfl) ?_
  refine s_iload_n hG dX11_siege_4 rfl ?_
  obtain ⟨o1, ho1, hF⟩ := bd_some hF
  refine s_callV (d' := d - 1) (ci := 10) (args := [.inl a1]) hG (by omega) dX11_siege_5 cv_RX11_121 cw_X10_isLord rfl rfl (sk_k hsk 4 rfl) (Nat.le_of_ble_eq_true rfl) rfl (t_X10_isLord hsk (by omega) (sk_W4 hsk) ho1) ?_
  refine s_if_eq hG 37 dX11_siege_8 (by decide) (fun c8 => ?_) (fun c8 => ?_)
  · replace hF := Eq.trans (if_pos c8).symm hF
    refine m_weak (ls1 := [none, none, none, none, none]) hG trivial ?_
    exact t_X11_siege_j37 hsk hd hG hE hF
  · replace hF := Eq.trans (if_neg c8).symm hF
    refine s_aload_n hG dX11_siege_11 rfl ?_
    refine s_getr (r := 4) hG dX11_siege_12 fl_RX11_10 (sk_k hsk 3 rfl) rfl (sk_R hsk 3 0 rfl) ?_
    refine s_iload_n hG dX11_siege_15 rfl ?_
    obtain ⟨o2, ho2, hF⟩ := bd_some hF
    refine s_callV (d' := d - 1) (ci := 10) (args := [.inl a2]) hG (by omega) dX11_siege_16 cv_RX11_121 cw_X10_isLord rfl rfl (sk_k hsk 4 rfl) (Nat.le_of_ble_eq_true rfl) rfl (t_X10_isLord hsk (by omega) (sk_W4 hsk) ho2) ?_
    refine s_if_eq hG 37 dX11_siege_19 (by decide) (fun c7 => ?_) (fun c7 => ?_)
    · replace hF := Eq.trans (if_pos c7).symm hF
      refine m_weak (ls1 := [none, none, none, none, none]) hG trivial ?_
      exact t_X11_siege_j37 hsk hd hG hE hF
    · replace hF := Eq.trans (if_neg c7).symm hF
      refine s_iload_n hG dX11_siege_22 rfl ?_
      refine s_iload_n hG dX11_siege_23 rfl ?_
      refine s_icmp_eq hG 37 dX11_siege_24 (by decide) (fun c6 => ?_) (fun c6 => ?_)
      · replace hF := Eq.trans (if_pos c6).symm hF
        refine m_weak (ls1 := [none, none, none, none, none]) hG trivial ?_
        exact t_X11_siege_j37 hsk hd hG hE hF
      · replace hF := Eq.trans (if_neg c6).symm hF
        refine s_iload_n hG dX11_siege_27 rfl ?_
        refine s_iconst hG dX11_siege_28 ⟨by decide, by decide⟩ ?_
        refine s_bipush hG dX11_siege_29 bp_9 ⟨by decide, by decide⟩ ?_
        obtain ⟨o3, ho3, hF⟩ := bd_some hF
        refine s_callS (d' := d - 1) (args := [.inl a3, .inl 1, .inl 9]) hG (by omega) dX11_siege_31 cs_RX11_100 cw_X11_within rfl (Nat.le_of_ble_eq_true rfl) rfl (t_X11_within hsk (by omega) ho3) ?_
        refine s_if_ne hG 39 dX11_siege_34 (by decide) (fun c5 => ?_) (fun c5 => ?_)
        · replace hF := Eq.trans (if_pos c5).symm hF
          refine m_weak (ls1 := [none, none, none, none, none]) hG trivial ?_
          exact t_X11_siege_j37 hsk hd hG hE hF
        · replace hF := Eq.trans (if_neg c5).symm hF
          refine s_aload_n hG dX11_siege_39 rfl ?_
          refine s_getr (r := 48) hG dX11_siege_40 fl_RX11_71 (sk_k hsk 3 rfl) rfl (sk_R hsk 3 9 rfl) ?_
          refine s_aload_n hG dX11_siege_43 rfl ?_
          refine s_getr (r := 4) hG dX11_siege_44 fl_RX11_10 (sk_k hsk 3 rfl) rfl (sk_R hsk 3 0 rfl) ?_
          refine s_iload_n hG dX11_siege_47 rfl ?_
          refine s_iload_n hG dX11_siege_48 rfl ?_
          refine s_iload_n hG dX11_siege_49 rfl ?_
          refine s_iload hG dX11_siege_50 rfl ?_
          obtain ⟨o4, ho4, hF⟩ := bd_some hF
          refine s_callV (d' := d - 1) (ci := 7) (args := [.inr (.inr 4), .inl a1, .inl a2, .inl a3, .inl a4]) hG (by omega) dX11_siege_52 cv_RX11_260 cw_X7_answer rfl rfl (sk_k hsk 48 rfl) (Nat.le_of_ble_eq_true rfl) rfl (t_X7_answer hsk (by omega) (sk_W4 hsk) ho4) ?_
          cases hF
          exact s_iret hE dX11_siege_55 rfl
-- X11_status
theorem t_X11_status {d : Nat} {X : MX} {N : NN} {out : Int} (hsk : m_Sk X) (hd : 1 ≤ d) (hF : f_X11_status X N = some out) : m_Call d yX11_status cX11_status 1 (some .int) [(.inr (.inr 3))] N X (some (.inl out)) N X := by
  refine m_mk (ls0 := [some (.inr (.inr 3))]) (by decide) rfl (Nat.le_of_ble_eq_true rfl) (Nat.le_refl _) (Nat.le_refl _) (fun Ω hE => ?_)
  have hG := hE.G
  unfold f_X11_status at hF
  refine s_aload_n hG dX11_status_0 rfl ?_
  refine s_geti hG dX11_status_1 fl_RX11_93 (sk_k hsk 3 rfl) rfl ?_
  cases hF
  exact s_iret hE dX11_status_4 rfl
-- X3_stoppedAt
theorem t_X3_stoppedAt {d : Nat} {X : MX} {N : NN} {out : Int} (hsk : m_Sk X) (hd : 1 ≤ d) (hF : f_X3_stoppedAt X N = some out) : m_Call d yX3_stoppedAt cX3_stoppedAt 1 (some .int) [(.inr (.inr 33))] N X (some (.inl out)) N X := by
  refine m_mk (ls0 := [some (.inr (.inr 33))]) (by decide) rfl (Nat.le_of_ble_eq_true rfl) (Nat.le_refl _) (Nat.le_refl _) (fun Ω hE => ?_)
  have hG := hE.G
  unfold f_X3_stoppedAt at hF
  refine s_aload_n hG dX3_stoppedAt_0 rfl ?_
  refine s_geti hG dX3_stoppedAt_1 fl_RX3_34 (sk_k hsk 33 rfl) rfl ?_
  cases hF
  exact s_iret hE dX3_stoppedAt_4 rfl
-- X11_stopped
theorem t_X11_stopped {d : Nat} {X : MX} {N : NN} {out : Int} (hsk : m_Sk X) (hd : 2 ≤ d) (hF : f_X11_stopped X N = some out) : m_Call d yX11_stopped cX11_stopped 1 (some .int) [(.inr (.inr 3))] N X (some (.inl out)) N X := by
  refine m_mk (ls0 := [some (.inr (.inr 3))]) (by decide) rfl (Nat.le_of_ble_eq_true rfl) (Nat.le_refl _) (Nat.le_refl _) (fun Ω hE => ?_)
  have hG := hE.G
  unfold f_X11_stopped at hF
  refine s_aload_n hG dX11_stopped_0 rfl ?_
  refine s_getr (r := 33) hG dX11_stopped_1 fl_RX11_57 (sk_k hsk 3 rfl) rfl (sk_R hsk 3 7 rfl) ?_
  obtain ⟨o1, ho1, hF⟩ := bd_some hF
  refine s_callV (d' := d - 1) (ci := 3) (args := []) hG (by omega) dX11_stopped_4 cv_RX11_207 cw_X3_stoppedAt rfl rfl (sk_k hsk 33 rfl) (Nat.le_of_ble_eq_true rfl) rfl (t_X3_stoppedAt hsk (by omega) ho1) ?_
  cases hF
  exact s_iret hE dX11_stopped_7 rfl
-- X11_tells
theorem t_X11_tells_j35 {d n0 s0 nF sF : Nat} {X : MX} {Ω : Nat → MS → Prop} {N : NN} (hsk : m_Sk X) (hd : 7 ≤ d) (hG : m_G d yX11_tells.cls yX11_tells.name cX11_tells 4 n0 s0 nF sF Ω) {out : (Int × NN)} (hE : m_Gd d yX11_tells cX11_tells 4 (some .int) X (some (.inl out.1)) out.2 X Ω) (hF : f_X11_tells_j35 X N = some out) : Ω 35 ([none, none, none, none], [], N, X) := by
  unfold f_X11_tells_j35 at hF
  refine s_iconst hG dX11_tells_35 ⟨by decide, by decide⟩ ?_
  cases hF
  exact s_iret hE dX11_tells_36 rfl
theorem t_X11_tells_j70 {d n0 s0 nF sF : Nat} {X : MX} {Ω : Nat → MS → Prop} {N : NN} {z0 : Int} (hsk : m_Sk X) (hd : 7 ≤ d) (hG : m_G d yX11_tells.cls yX11_tells.name cX11_tells 4 n0 s0 nF sF Ω) {out : (Int × NN)} (hE : m_Gd d yX11_tells cX11_tells 4 (some .int) X (some (.inl out.1)) out.2 X Ω) (hF : f_X11_tells_j70 X N z0 = some out) : Ω 70 ([none, none, none, none], [(.inl z0)], N, X) := by
  unfold f_X11_tells_j70 at hF
  cases hF
  exact s_iret hE dX11_tells_70 rfl
theorem t_X11_tells {d : Nat} {X : MX} {N : NN} {a1 : Int} {a2 : Int} {out : (Int × NN)} (hsk : m_Sk X) (hd : 7 ≤ d) (hF : f_X11_tells X N a1 a2 = some out) : m_Call d yX11_tells cX11_tells 4 (some .int) [(.inr (.inr 3)), (.inl a1), (.inl a2)] N X (some (.inl out.1)) out.2 X := by
  refine m_mk (ls0 := [some (.inr (.inr 3)), some (.inl a1), some (.inl a2), none]) (by decide) rfl (Nat.le_of_ble_eq_true rfl) (Nat.le_refl _) (Nat.le_refl _) (fun Ω hE => ?_)
  have hG := hE.G
  unfold f_X11_tells at hF
  refine s_aload_n hG dX11_tells_0 rfl ?_
  refine s_getr (r := 4) hG dX11_tells_1 fl_RX11_10 (sk_k hsk 3 rfl) rfl (sk_R hsk 3 0 rfl) ?_
  refine s_iconst hG dX11_tells_4 ⟨by decide, by decide⟩ ?_
  obtain ⟨o1, ho1, hF⟩ := bd_some hF
  refine s_callV (d' := d - 1) (ci := 10) (args := [.inl 2]) hG (by omega) dX11_tells_5 cv_RX11_108 cw_X10_many rfl rfl (sk_k hsk 4 rfl) (Nat.le_of_ble_eq_true rfl) rfl (t_X10_many hsk (by omega) (sk_W4 hsk) ho1) ?_
  refine s_istore_n hG dX11_tells_8 (by decide) rfl ?_
  refine s_iload_n hG dX11_tells_9 rfl ?_
  refine s_if_eq hG 35 dX11_tells_10 (by decide) (fun c9 => ?_) (fun c9 => ?_)
  · replace hF := Eq.trans (if_pos c9).symm hF
    refine m_weak (ls1 := [none, none, none, none]) hG trivial ?_
    exact t_X11_tells_j35 hsk hd hG hE hF
  · replace hF := Eq.trans (if_neg c9).symm hF
    refine s_aload_n hG dX11_tells_13 rfl ?_
    refine s_getr (r := 4) hG dX11_tells_14 fl_RX11_10 (sk_k hsk 3 rfl) rfl (sk_R hsk 3 0 rfl) ?_
    refine s_iload_n hG dX11_tells_17 rfl ?_
    obtain ⟨o2, ho2, hF⟩ := bd_some hF
    refine s_callV (d' := d - 1) (ci := 10) (args := [.inl a2]) hG (by omega) dX11_tells_18 cv_RX11_146 cw_X10_isGood rfl rfl (sk_k hsk 4 rfl) (Nat.le_of_ble_eq_true rfl) rfl (t_X10_isGood hsk (by omega) (sk_W4 hsk) ho2) ?_
    refine s_if_eq hG 35 dX11_tells_21 (by decide) (fun c8 => ?_) (fun c8 => ?_)
    · replace hF := Eq.trans (if_pos c8).symm hF
      refine m_weak (ls1 := [none, none, none, none]) hG trivial ?_
      exact t_X11_tells_j35 hsk hd hG hE hF
    · replace hF := Eq.trans (if_neg c8).symm hF
      refine s_iload_n hG dX11_tells_24 rfl ?_
      refine s_iconst hG dX11_tells_25 ⟨by decide, by decide⟩ ?_
      refine s_iload_n hG dX11_tells_26 rfl ?_
      refine s_iconst hG dX11_tells_27 ⟨by decide, by decide⟩ ?_
      refine s_isub hG dX11_tells_28 ?_
      obtain ⟨o3, ho3, hF⟩ := bd_some hF
      refine s_callS (d' := d - 1) (args := [.inl a1, .inl (-1), .inl (m_w (o1 - 1))]) hG (by omega) dX11_tells_29 cs_RX11_100 cw_X11_within rfl (Nat.le_of_ble_eq_true rfl) rfl (t_X11_within hsk (by omega) ho3) ?_
      refine s_if_ne hG 37 dX11_tells_32 (by decide) (fun c7 => ?_) (fun c7 => ?_)
      · replace hF := Eq.trans (if_pos c7).symm hF
        refine m_weak (ls1 := [none, none, none, none]) hG trivial ?_
        exact t_X11_tells_j35 hsk hd hG hE hF
      · replace hF := Eq.trans (if_neg c7).symm hF
        refine s_iload_n hG dX11_tells_37 rfl ?_
        refine s_iconst hG dX11_tells_38 ⟨by decide, by decide⟩ ?_
        refine s_icmp_ne hG 57 dX11_tells_39 (by decide) (fun c6 => ?_) (fun c6 => ?_)
        · replace hF := Eq.trans (if_pos c6).symm hF
          refine s_aload_n hG dX11_tells_42 rfl ?_
          refine s_getr (r := 25) hG dX11_tells_43 fl_RX11_39 (sk_k hsk 3 rfl) rfl (sk_R hsk 3 5 rfl) ?_
          refine s_aload_n hG dX11_tells_46 rfl ?_
          refine s_getr (r := 4) hG dX11_tells_47 fl_RX11_10 (sk_k hsk 3 rfl) rfl (sk_R hsk 3 0 rfl) ?_
          refine s_iload_n hG dX11_tells_50 rfl ?_
          obtain ⟨o4, ho4, hF⟩ := bd_some hF
          refine s_callV (d' := d - 1) (ci := 2) (args := [.inr (.inr 4), .inl a2]) hG (by omega) dX11_tells_51 cv_RX11_266 cw_X2_middle rfl rfl (sk_k hsk 25 rfl) (Nat.le_of_ble_eq_true rfl) rfl (t_X2_middle hsk (by omega) (sk_W4 hsk) ho4) ?_
          refine s_goto hG 70 dX11_tells_54 (by decide) ?_
          refine m_weak (ls1 := [none, none, none, none]) hG trivial ?_
          exact t_X11_tells_j70 hsk hd hG hE hF
        · replace hF := Eq.trans (if_neg c6).symm hF
          refine s_aload_n hG dX11_tells_57 rfl ?_
          refine s_getr (r := 25) hG dX11_tells_58 fl_RX11_39 (sk_k hsk 3 rfl) rfl (sk_R hsk 3 5 rfl) ?_
          refine s_aload_n hG dX11_tells_61 rfl ?_
          refine s_getr (r := 4) hG dX11_tells_62 fl_RX11_10 (sk_k hsk 3 rfl) rfl (sk_R hsk 3 0 rfl) ?_
          refine s_iload_n hG dX11_tells_65 rfl ?_
          refine s_iload_n hG dX11_tells_66 rfl ?_
          obtain ⟨o5, ho5, hF⟩ := bd_some hF
          refine s_callV (d' := d - 1) (ci := 2) (args := [.inr (.inr 4), .inl a1, .inl a2]) hG (by omega) dX11_tells_67 cv_RX11_269 cw_X2_voice rfl rfl (sk_k hsk 25 rfl) (Nat.le_of_ble_eq_true rfl) rfl (t_X2_voice hsk (by omega) (sk_W4 hsk) ho5) ?_
          refine m_weak (ls1 := [none, none, none, none]) hG trivial ?_
          exact t_X11_tells_j70 hsk hd hG hE hF
-- X11_terms
theorem t_X11_terms_j49 {d n0 s0 nF sF : Nat} {X : MX} {Ω : Nat → MS → Prop} {N : NN} {a1 : Int} {a2 : Int} {z0 : Int} (hsk : m_Sk X) (hd : 2 ≤ d) (hG : m_G d yX11_terms.cls yX11_terms.name cX11_terms 5 n0 s0 nF sF Ω) {out : (Int × NN)} (hE : m_Gd d yX11_terms cX11_terms 5 (some .int) X (some (.inl out.1)) out.2 X Ω) (hF : f_X11_terms_j49 X N a1 a2 z0 = some out) : Ω 49 ([some (.inr (.inr 3)), some (.inl a1), some (.inl a2), none, none], [(.inl z0)], N, X) := by
  unfold f_X11_terms_j49 at hF
  refine s_istore_n hG dX11_terms_49 (by decide) rfl ?_
  refine s_iload_n hG dX11_terms_50 rfl ?_
  refine s_if_ne hG 60 dX11_terms_51 (by decide) (fun c15 => ?_) (fun c15 => ?_)
  · replace hF := Eq.trans (if_pos c15).symm hF
    refine s_aload_n hG dX11_terms_54 rfl ?_
    refine s_iconst hG dX11_terms_55 ⟨by decide, by decide⟩ ?_
    obtain ⟨o10, ho10, hF⟩ := bd_some hF
    refine s_callV (d' := d - 1) (ci := 11) (args := [.inl (-1)]) hG (by omega) dX11_terms_56 cv_RX11_104 cw_X11_refuse rfl rfl (sk_k hsk 3 rfl) (Nat.le_of_ble_eq_true rfl) rfl (t_X11_refuse hsk (by omega) ho10) ?_
    cases hF
    exact s_iret hE dX11_terms_59 rfl
  · replace hF := Eq.trans (if_neg c15).symm hF
    refine s_aload_n hG dX11_terms_60 rfl ?_
    refine s_getr (r := 4) hG dX11_terms_61 fl_RX11_10 (sk_k hsk 3 rfl) rfl (sk_R hsk 3 0 rfl) ?_
    refine s_iload_n hG dX11_terms_64 rfl ?_
    obtain ⟨o11, ho11, hF⟩ := bd_some hF
    refine s_callV (d' := d - 1) (ci := 10) (args := [.inl a1]) hG (by omega) dX11_terms_65 cv_RX11_125 cw_X10_term rfl rfl (sk_k hsk 4 rfl) (Nat.le_of_ble_eq_true rfl) rfl (t_X10_term hsk (by omega) (sk_W4 hsk) ho11) ?_
    refine s_istore hG dX11_terms_68 (by decide) rfl ?_
    refine s_aload_n hG dX11_terms_70 rfl ?_
    refine s_getr (r := 4) hG dX11_terms_71 fl_RX11_10 (sk_k hsk 3 rfl) rfl (sk_R hsk 3 0 rfl) ?_
    refine s_iload_n hG dX11_terms_74 rfl ?_
    refine s_iload_n hG dX11_terms_75 rfl ?_
    obtain ⟨o12, ho12, hF⟩ := bd_some hF
    refine s_callV (d' := d - 1) (ci := 10) (args := [.inl a1, .inl a2]) hG (by omega) dX11_terms_76 cv_RX11_156 cw_X10_setTerm rfl rfl (sk_k hsk 4 rfl) (Nat.le_of_ble_eq_true rfl) rfl (t_X10_setTerm hsk (by omega) (sk_W4 hsk) ho12) ?_
    refine s_aload_n hG dX11_terms_79 rfl ?_
    refine s_getr (r := 13) hG dX11_terms_80 fl_RX11_25 (sk_k hsk 3 rfl) rfl (sk_R hsk 3 3 rfl) ?_
    obtain ⟨o13, ho13, hF⟩ := bd_some hF
    refine s_callV (d' := d - 1) (ci := 4) (args := []) hG (by omega) dX11_terms_83 cv_RX11_111 cw_X4_clear rfl rfl (sk_k hsk 13 rfl) (Nat.le_of_ble_eq_true rfl) rfl (t_X4_clear hsk (by omega) (sk_P13 hsk) ho13) ?_
    refine s_aload_n hG dX11_terms_86 rfl ?_
    refine s_iload hG dX11_terms_87 rfl ?_
    obtain ⟨o14, ho14, hF⟩ := bd_some hF
    refine s_callV (d' := d - 1) (ci := 11) (args := [.inl o11]) hG (by omega) dX11_terms_89 cv_RX11_118 cw_X11_accept rfl rfl (sk_k hsk 3 rfl) (Nat.le_of_ble_eq_true rfl) rfl (t_X11_accept hsk (by omega) ho14) ?_
    cases hF
    exact s_iret hE dX11_terms_92 rfl
theorem t_X11_terms_j48 {d n0 s0 nF sF : Nat} {X : MX} {Ω : Nat → MS → Prop} {N : NN} {a1 : Int} {a2 : Int} (hsk : m_Sk X) (hd : 2 ≤ d) (hG : m_G d yX11_terms.cls yX11_terms.name cX11_terms 5 n0 s0 nF sF Ω) {out : (Int × NN)} (hE : m_Gd d yX11_terms cX11_terms 5 (some .int) X (some (.inl out.1)) out.2 X Ω) (hF : f_X11_terms_j48 X N a1 a2 = some out) : Ω 48 ([some (.inr (.inr 3)), some (.inl a1), some (.inl a2), none, none], [], N, X) := by
  unfold f_X11_terms_j48 at hF
  refine s_iconst hG dX11_terms_48 ⟨by decide, by decide⟩ ?_
  exact t_X11_terms_j49 hsk hd hG hE hF
theorem t_X11_terms_j44 {d n0 s0 nF sF : Nat} {X : MX} {Ω : Nat → MS → Prop} {N : NN} {a1 : Int} {a2 : Int} (hsk : m_Sk X) (hd : 2 ≤ d) (hG : m_G d yX11_terms.cls yX11_terms.name cX11_terms 5 n0 s0 nF sF Ω) {out : (Int × NN)} (hE : m_Gd d yX11_terms cX11_terms 5 (some .int) X (some (.inl out.1)) out.2 X Ω) (hF : f_X11_terms_j44 X N a1 a2 = some out) : Ω 44 ([some (.inr (.inr 3)), some (.inl a1), some (.inl a2), none, none], [], N, X) := by
  unfold f_X11_terms_j44 at hF
  refine s_iconst hG dX11_terms_44 ⟨by decide, by decide⟩ ?_
  refine s_goto hG 49 dX11_terms_45 (by decide) ?_
  exact t_X11_terms_j49 hsk hd hG hE hF
theorem t_X11_terms_j29 {d n0 s0 nF sF : Nat} {X : MX} {Ω : Nat → MS → Prop} {N : NN} {a1 : Int} {a2 : Int} (hsk : m_Sk X) (hd : 2 ≤ d) (hG : m_G d yX11_terms.cls yX11_terms.name cX11_terms 5 n0 s0 nF sF Ω) {out : (Int × NN)} (hE : m_Gd d yX11_terms cX11_terms 5 (some .int) X (some (.inl out.1)) out.2 X Ω) (hF : f_X11_terms_j29 X N a1 a2 = some out) : Ω 29 ([some (.inr (.inr 3)), some (.inl a1), some (.inl a2), none, none], [], N, X) := by
  unfold f_X11_terms_j29 at hF
  refine s_iload_n hG dX11_terms_29 rfl ?_
  refine s_iconst hG dX11_terms_30 ⟨by decide, by decide⟩ ?_
  refine s_icmp_ne hG 48 dX11_terms_31 (by decide) (fun c9 => ?_) (fun c9 => ?_)
  · replace hF := Eq.trans (if_pos c9).symm hF
    refine s_iload_n hG dX11_terms_34 rfl ?_
    refine s_iconst hG dX11_terms_35 ⟨by decide, by decide⟩ ?_
    refine s_bipush hG dX11_terms_36 bp_9 ⟨by decide, by decide⟩ ?_
    obtain ⟨o7, ho7, hF⟩ := bd_some hF
    refine s_callS (d' := d - 1) (args := [.inl a2, .inl 0, .inl 9]) hG (by omega) dX11_terms_38 cs_RX11_100 cw_X11_within rfl (Nat.le_of_ble_eq_true rfl) rfl (t_X11_within hsk (by omega) ho7) ?_
    refine s_if_eq hG 48 dX11_terms_41 (by decide) (fun c8 => ?_) (fun c8 => ?_)
    · replace hF := Eq.trans (if_pos c8).symm hF
      exact t_X11_terms_j48 hsk hd hG hE hF
    · replace hF := Eq.trans (if_neg c8).symm hF
      exact t_X11_terms_j44 hsk hd hG hE hF
  · replace hF := Eq.trans (if_neg c9).symm hF
    exact t_X11_terms_j48 hsk hd hG hE hF
theorem t_X11_terms_j15 {d n0 s0 nF sF : Nat} {X : MX} {Ω : Nat → MS → Prop} {N : NN} {a1 : Int} {a2 : Int} (hsk : m_Sk X) (hd : 2 ≤ d) (hG : m_G d yX11_terms.cls yX11_terms.name cX11_terms 5 n0 s0 nF sF Ω) {out : (Int × NN)} (hE : m_Gd d yX11_terms cX11_terms 5 (some .int) X (some (.inl out.1)) out.2 X Ω) (hF : f_X11_terms_j15 X N a1 a2 = some out) : Ω 15 ([some (.inr (.inr 3)), some (.inl a1), some (.inl a2), none, none], [], N, X) := by
  unfold f_X11_terms_j15 at hF
  refine s_iload_n hG dX11_terms_15 rfl ?_
  refine s_iconst hG dX11_terms_16 ⟨by decide, by decide⟩ ?_
  refine s_icmp_ne hG 29 dX11_terms_17 (by decide) (fun c6 => ?_) (fun c6 => ?_)
  · replace hF := Eq.trans (if_pos c6).symm hF
    refine s_iload_n hG dX11_terms_20 rfl ?_
    refine s_iconst hG dX11_terms_21 ⟨by decide, by decide⟩ ?_
    refine s_iconst hG dX11_terms_22 ⟨by decide, by decide⟩ ?_
    obtain ⟨o4, ho4, hF⟩ := bd_some hF
    refine s_callS (d' := d - 1) (args := [.inl a2, .inl 1, .inl 3]) hG (by omega) dX11_terms_23 cs_RX11_100 cw_X11_within rfl (Nat.le_of_ble_eq_true rfl) rfl (t_X11_within hsk (by omega) ho4) ?_
    refine s_if_ne hG 44 dX11_terms_26 (by decide) (fun c5 => ?_) (fun c5 => ?_)
    · replace hF := Eq.trans (if_pos c5).symm hF
      exact t_X11_terms_j29 hsk hd hG hE hF
    · replace hF := Eq.trans (if_neg c5).symm hF
      exact t_X11_terms_j44 hsk hd hG hE hF
  · replace hF := Eq.trans (if_neg c6).symm hF
    exact t_X11_terms_j29 hsk hd hG hE hF
theorem t_X11_terms {d : Nat} {X : MX} {N : NN} {a1 : Int} {a2 : Int} {out : (Int × NN)} (hsk : m_Sk X) (hd : 2 ≤ d) (hF : f_X11_terms X N a1 a2 = some out) : m_Call d yX11_terms cX11_terms 5 (some .int) [(.inr (.inr 3)), (.inl a1), (.inl a2)] N X (some (.inl out.1)) out.2 X := by
  refine m_mk (ls0 := [some (.inr (.inr 3)), some (.inl a1), some (.inl a2), none, none]) (by decide) rfl (Nat.le_of_ble_eq_true rfl) (Nat.le_refl _) (Nat.le_refl _) (fun Ω hE => ?_)
  have hG := hE.G
  unfold f_X11_terms at hF
  refine s_iload_n hG dX11_terms_0 rfl ?_
  refine s_if_ne hG 15 dX11_terms_1 (by decide) (fun c3 => ?_) (fun c3 => ?_)
  · replace hF := Eq.trans (if_pos c3).symm hF
    refine s_iload_n hG dX11_terms_4 rfl ?_
    refine s_iconst hG dX11_terms_5 ⟨by decide, by decide⟩ ?_
    refine s_sipush hG dX11_terms_6 sp_999 ⟨by decide, by decide⟩ ?_
    obtain ⟨o1, ho1, hF⟩ := bd_some hF
    refine s_callS (d' := d - 1) (args := [.inl a2, .inl 0, .inl 999]) hG (by omega) dX11_terms_9 cs_RX11_100 cw_X11_within rfl (Nat.le_of_ble_eq_true rfl) rfl (t_X11_within hsk (by omega) ho1) ?_
    refine s_if_ne hG 44 dX11_terms_12 (by decide) (fun c2 => ?_) (fun c2 => ?_)
    · replace hF := Eq.trans (if_pos c2).symm hF
      exact t_X11_terms_j15 hsk hd hG hE hF
    · replace hF := Eq.trans (if_neg c2).symm hF
      exact t_X11_terms_j44 hsk hd hG hE hF
  · replace hF := Eq.trans (if_neg c3).symm hF
    exact t_X11_terms_j15 hsk hd hG hE hF
-- X4_takeBack
theorem t_X4_takeBack {d : Nat} {X : MX} {r0 : Nat} {r1 : Nat} {N : NN} {out : (Int × NN)} (hsk : m_Sk X) (hd : 2 ≤ d) (h0 : m_isP X r0) (h1 : m_isW X r1) (hF : f_X4_takeBack X r0 r1 N = some out) : m_Call d yX4_takeBack cX4_takeBack 2 (some .int) [(.inr (.inr r0)), (.inr (.inr r1))] N X (some (.inl out.1)) out.2 X := by
  refine m_mk (ls0 := [some (.inr (.inr r0)), some (.inr (.inr r1))]) (by decide) rfl (Nat.le_of_ble_eq_true rfl) (Nat.le_refl _) (Nat.le_refl _) (fun Ω hE => ?_)
  have hG := hE.G
  unfold f_X4_takeBack at hF
  refine s_aload_n hG dX4_takeBack_0 rfl ?_
  refine s_geti hG dX4_takeBack_1 fl_RX4_24 h0.1 rfl ?_
  refine s_if_gt hG 9 dX4_takeBack_4 (by decide) (fun c5 => ?_) (fun c5 => ?_)
  · replace hF := Eq.trans (if_pos c5).symm hF
    refine s_aload_n hG dX4_takeBack_9 rfl ?_
    refine s_dup hG dX4_takeBack_10 rfl ?_
    refine s_geti hG dX4_takeBack_11 fl_RX4_24 h0.1 rfl ?_
    refine s_iconst hG dX4_takeBack_14 ⟨by decide, by decide⟩ ?_
    refine s_isub hG dX4_takeBack_15 ?_
    refine s_puti hG dX4_takeBack_16 fl_RX4_24 (fun h => by cases h) h0.1 rfl ?_
    let N1 : NN := m_up N r0 3 (m_w ((N r0 3) - 1))
    refine s_aload_n hG dX4_takeBack_19 rfl ?_
    refine s_aload_n hG dX4_takeBack_20 rfl ?_
    refine s_geti hG dX4_takeBack_21 fl_RX4_20 h0.1 rfl ?_
    refine s_bipush hG dX4_takeBack_24 bp_16 ⟨by decide, by decide⟩ ?_
    refine s_iadd hG dX4_takeBack_26 ?_
    refine s_iconst hG dX4_takeBack_27 ⟨by decide, by decide⟩ ?_
    refine s_isub hG dX4_takeBack_28 ?_
    refine s_bipush hG dX4_takeBack_29 bp_16 ⟨by decide, by decide⟩ ?_
    refine s_irem hG dX4_takeBack_31 (by decide) ?_
    refine s_puti hG dX4_takeBack_32 fl_RX4_20 (fun h => by cases h) h0.1 rfl ?_
    let N2 : NN := m_up N1 r0 2 (m_rem (m_w ((m_w ((N1 r0 2) + 16)) - 1)) 16)
    refine s_aload_n hG dX4_takeBack_35 rfl ?_
    refine s_aload_n hG dX4_takeBack_36 rfl ?_
    refine s_getr (r := (r0 + 1)) hG dX4_takeBack_37 fl_RX4_13 h0.1 rfl h0.2.1 ?_
    refine s_aload_n hG dX4_takeBack_40 rfl ?_
    refine s_geti hG dX4_takeBack_41 fl_RX4_20 h0.1 rfl ?_
    refine s_sipush hG dX4_takeBack_44 sp_191 ⟨by decide, by decide⟩ ?_
    refine s_imul hG dX4_takeBack_47 ?_
    obtain ⟨o3, ho3, hF⟩ := bd_some hF
    refine s_callV (d' := d - 1) (ci := 10) (args := [.inr (.inr (r0 + 1)), .inl (m_w ((N2 r0 2) * 191))]) hG (by omega) dX4_takeBack_48 cv_RX4_43 cw_X10_restoreFrom rfl rfl h1.1 (Nat.le_of_ble_eq_true rfl) rfl (t_X10_restoreFrom hsk (by omega) h1 (m_k1f h0.2.2.2.1) ho3) ?_
    refine s_aload_n hG dX4_takeBack_51 rfl ?_
    refine s_getr (r := (r0 + 2)) hG dX4_takeBack_52 fl_RX4_17 h0.1 rfl h0.2.2.1 ?_
    refine s_aload_n hG dX4_takeBack_55 rfl ?_
    refine s_geti hG dX4_takeBack_56 fl_RX4_20 h0.1 rfl ?_
    obtain ⟨g4, hF⟩ := gd_some hF
    refine s_ialdj (j := (o3 r0 2).toNat) hG dX4_takeBack_59 h0.2.2.2.2 g4 rfl ?_
    cases hF
    exact s_iret hE dX4_takeBack_60 rfl
  · replace hF := Eq.trans (if_neg c5).symm hF
    refine s_iconst hG dX4_takeBack_7 ⟨by decide, by decide⟩ ?_
    cases hF
    exact s_iret hE dX4_takeBack_8 rfl
-- X11_undo
theorem t_X11_undo_j31 {d n0 s0 nF sF : Nat} {X : MX} {Ω : Nat → MS → Prop} {N : NN} {z0 : Int} (hsk : m_Sk X) (hd : 3 ≤ d) (hG : m_G d yX11_undo.cls yX11_undo.name cX11_undo 2 n0 s0 nF sF Ω) {out : (Int × NN)} (hE : m_Gd d yX11_undo cX11_undo 2 (some .int) X (some (.inl out.1)) out.2 X Ω) (hF : f_X11_undo_j31 X N z0 = some out) : Ω 31 ([none, none], [(.inl z0)], N, X) := by
  unfold f_X11_undo_j31 at hF
  cases hF
  exact s_iret hE dX11_undo_31 rfl
theorem t_X11_undo {d : Nat} {X : MX} {N : NN} {out : (Int × NN)} (hsk : m_Sk X) (hd : 3 ≤ d) (hF : f_X11_undo X N = some out) : m_Call d yX11_undo cX11_undo 2 (some .int) [(.inr (.inr 3))] N X (some (.inl out.1)) out.2 X := by
  refine m_mk (ls0 := [some (.inr (.inr 3)), none]) (by decide) rfl (Nat.le_of_ble_eq_true rfl) (Nat.le_refl _) (Nat.le_refl _) (fun Ω hE => ?_)
  have hG := hE.G
  unfold f_X11_undo at hF
  refine s_aload_n hG dX11_undo_0 rfl ?_
  refine s_getr (r := 13) hG dX11_undo_1 fl_RX11_25 (sk_k hsk 3 rfl) rfl (sk_R hsk 3 3 rfl) ?_
  refine s_aload_n hG dX11_undo_4 rfl ?_
  refine s_getr (r := 4) hG dX11_undo_5 fl_RX11_10 (sk_k hsk 3 rfl) rfl (sk_R hsk 3 0 rfl) ?_
  obtain ⟨o1, ho1, hF⟩ := bd_some hF
  refine s_callV (d' := d - 1) (ci := 4) (args := [.inr (.inr 4)]) hG (by omega) dX11_undo_8 cv_RX11_238 cw_X4_takeBack rfl rfl (sk_k hsk 13 rfl) (Nat.le_of_ble_eq_true rfl) rfl (t_X4_takeBack hsk (by omega) (sk_P13 hsk) (sk_W4 hsk) ho1) ?_
  refine s_istore_n hG dX11_undo_11 (by decide) rfl ?_
  refine s_iload_n hG dX11_undo_12 rfl ?_
  refine s_iconst hG dX11_undo_13 ⟨by decide, by decide⟩ ?_
  refine s_icmp_ne hG 26 dX11_undo_14 (by decide) (fun c4 => ?_) (fun c4 => ?_)
  · replace hF := Eq.trans (if_pos c4).symm hF
    refine s_aload_n hG dX11_undo_17 rfl ?_
    refine s_bipush hG dX11_undo_18 bp_m3 ⟨by decide, by decide⟩ ?_
    obtain ⟨o2, ho2, hF⟩ := bd_some hF
    refine s_callV (d' := d - 1) (ci := 11) (args := [.inl (-3)]) hG (by omega) dX11_undo_20 cv_RX11_104 cw_X11_refuse rfl rfl (sk_k hsk 3 rfl) (Nat.le_of_ble_eq_true rfl) rfl (t_X11_refuse hsk (by omega) ho2) ?_
    refine s_goto hG 31 dX11_undo_23 (by decide) ?_
    refine m_weak (ls1 := [none, none]) hG trivial ?_
    exact t_X11_undo_j31 hsk hd hG hE hF
  · replace hF := Eq.trans (if_neg c4).symm hF
    refine s_aload_n hG dX11_undo_26 rfl ?_
    refine s_iload_n hG dX11_undo_27 rfl ?_
    obtain ⟨o3, ho3, hF⟩ := bd_some hF
    refine s_callV (d' := d - 1) (ci := 11) (args := [.inl o1.1]) hG (by omega) dX11_undo_28 cv_RX11_118 cw_X11_accept rfl rfl (sk_k hsk 3 rfl) (Nat.le_of_ble_eq_true rfl) rfl (t_X11_accept hsk (by omega) ho3) ?_
    refine m_weak (ls1 := [none, none]) hG trivial ?_
    exact t_X11_undo_j31 hsk hd hG hE hF
-- X9_draw
theorem t_X9_draw_l33_j163 {d n0 s0 nF sF : Nat} {X : MX} {r1 : Nat} {Ω : Nat → MS → Prop} {N : NN} {a2 : Int} (hsk : m_Sk X) (hd : 2 ≤ d) (h1 : m_isW X r1) (hG : m_G d yX9_draw.cls yX9_draw.name cX9_draw 9 n0 s0 nF sF Ω) {out : ((NN × Int) ⊕ NN)} (hK0 : ∀ s' : (NN × Int), out = .inl s' → Ω 33 ([some (.inr (.inr 53)), some (.inr (.inr r1)), some (.inl (s'.2)), none, none, none, none, none, none], [], s'.1, X)) (hK1 : ∀ t : NN, out = .inr t → Ω 169 ([none, none, none, none, none, none, none, none, none], [], t, X)) (hF : f_X9_draw_l33_j163 X r1 N a2 = some out) : Ω 163 ([some (.inr (.inr 53)), some (.inr (.inr r1)), some (.inl a2), none, none, none, none, none, none], [], N, X) := by
  unfold f_X9_draw_l33_j163 at hF
  refine s_iinc hG dX9_draw_163 (by decide) rfl rfl ?_
  refine s_goto hG 33 dX9_draw_166 (by decide) ?_
  cases hF
  exact hK0 _ rfl
theorem t_X9_draw_l33_j118 {d n0 s0 nF sF : Nat} {X : MX} {r1 : Nat} {Ω : Nat → MS → Prop} {N : NN} {a2 : Int} {a3 : Int} {a4 : Int} {a5 : Int} {a6 : Int} {a7 : Int} (hsk : m_Sk X) (hd : 2 ≤ d) (h1 : m_isW X r1) (hG : m_G d yX9_draw.cls yX9_draw.name cX9_draw 9 n0 s0 nF sF Ω) {out : ((NN × Int) ⊕ NN)} (hK0 : ∀ s' : (NN × Int), out = .inl s' → Ω 33 ([some (.inr (.inr 53)), some (.inr (.inr r1)), some (.inl (s'.2)), none, none, none, none, none, none], [], s'.1, X)) (hK1 : ∀ t : NN, out = .inr t → Ω 169 ([none, none, none, none, none, none, none, none, none], [], t, X)) (hF : f_X9_draw_l33_j118 X r1 N a2 a3 a4 a5 a6 a7 = some out) : Ω 118 ([some (.inr (.inr 53)), some (.inr (.inr r1)), some (.inl a2), some (.inl a3), some (.inl a4), some (.inl a5), some (.inl a6), some (.inl a7), none], [], N, X) := by
  unfold f_X9_draw_l33_j118 at hF
  refine s_iload hG dX9_draw_118 rfl ?_
  refine s_bipush hG dX9_draw_120 bp_6 ⟨by decide, by decide⟩ ?_
  refine s_imul hG dX9_draw_122 ?_
  refine s_iload_n hG dX9_draw_123 rfl ?_
  refine s_iadd hG dX9_draw_124 ?_
  refine s_istore hG dX9_draw_125 (by decide) rfl ?_
  refine s_aload_n hG dX9_draw_127 rfl ?_
  refine s_getr (r := 54) hG dX9_draw_128 fl_RX9_9 (sk_k hsk 53 rfl) rfl (sk_R hsk 53 0 rfl) ?_
  refine s_iload hG dX9_draw_131 rfl ?_
  refine s_iload hG dX9_draw_133 rfl ?_
  obtain ⟨g17, hF⟩ := gd_some hF
  refine s_iastj (j := a7.toNat) hG dX9_draw_135 (sk_K hsk 54 rfl) g17 rfl ?_
  refine s_aload_n hG dX9_draw_136 rfl ?_
  refine s_getr (r := 54) hG dX9_draw_137 fl_RX9_9 (sk_k hsk 53 rfl) rfl (sk_R hsk 53 0 rfl) ?_
  refine s_iload hG dX9_draw_140 rfl ?_
  refine s_iload hG dX9_draw_142 rfl ?_
  obtain ⟨g19, hF⟩ := gd_some hF
  refine s_iastj (j := (m_w ((m_w (a4 * 6)) + a3)).toNat) hG dX9_draw_144 (sk_K hsk 54 rfl) g19 rfl ?_
  refine s_aload_n hG dX9_draw_145 rfl ?_
  refine s_getr (r := 55) hG dX9_draw_146 fl_RX9_15 (sk_k hsk 53 rfl) rfl (sk_R hsk 53 1 rfl) ?_
  refine s_iload hG dX9_draw_149 rfl ?_
  refine s_iload hG dX9_draw_151 rfl ?_
  obtain ⟨g21, hF⟩ := gd_some hF
  refine s_iastj (j := a7.toNat) hG dX9_draw_153 (sk_K hsk 55 rfl) g21 rfl ?_
  refine s_aload_n hG dX9_draw_154 rfl ?_
  refine s_getr (r := 55) hG dX9_draw_155 fl_RX9_15 (sk_k hsk 53 rfl) rfl (sk_R hsk 53 1 rfl) ?_
  refine s_iload hG dX9_draw_158 rfl ?_
  refine s_iload hG dX9_draw_160 rfl ?_
  obtain ⟨g23, hF⟩ := gd_some hF
  refine s_iastj (j := (m_w ((m_w (a4 * 6)) + a3)).toNat) hG dX9_draw_162 (sk_K hsk 55 rfl) g23 rfl ?_
  refine m_weak (ls1 := [some (.inr (.inr 53)), some (.inr (.inr r1)), some (.inl a2), none, none, none, none, none, none]) hG ⟨rfl, ⟨rfl, ⟨rfl, trivial⟩⟩⟩ ?_
  exact t_X9_draw_l33_j163 hsk hd h1 hG hK0 hK1 hF
theorem t_X9_draw_b33 {d n0 s0 nF sF : Nat} {X : MX} {r1 : Nat} {Ω : Nat → MS → Prop} {N : NN} {a2 : Int} (hsk : m_Sk X) (hd : 2 ≤ d) (h1 : m_isW X r1) (hG : m_G d yX9_draw.cls yX9_draw.name cX9_draw 9 n0 s0 nF sF Ω) {out : ((NN × Int) ⊕ NN)} (hK0 : ∀ s' : (NN × Int), out = .inl s' → Ω 33 ([some (.inr (.inr 53)), some (.inr (.inr r1)), some (.inl (s'.2)), none, none, none, none, none, none], [], s'.1, X)) (hK1 : ∀ t : NN, out = .inr t → Ω 169 ([none, none, none, none, none, none, none, none, none], [], t, X)) (hF : b_X9_draw_33 X r1 N a2 = some out) : Ω 33 ([some (.inr (.inr 53)), some (.inr (.inr r1)), some (.inl a2), none, none, none, none, none, none], [], N, X) := by
  unfold b_X9_draw_33 at hF
  refine s_iload_n hG dX9_draw_33 rfl ?_
  refine s_aload_n hG dX9_draw_34 rfl ?_
  refine s_iconst hG dX9_draw_35 ⟨by decide, by decide⟩ ?_
  obtain ⟨o5, ho5, hF⟩ := bd_some hF
  refine s_callV (d' := d - 1) (ci := 10) (args := [.inl 3]) hG (by omega) dX9_draw_36 cv_RX9_51 cw_X10_many rfl rfl h1.1 (Nat.le_of_ble_eq_true rfl) rfl (t_X10_many hsk (by omega) h1 ho5) ?_
  refine s_icmp_ge hG 169 dX9_draw_39 (by decide) (fun c16 => ?_) (fun c16 => ?_)
  · replace hF := Eq.trans (if_pos c16).symm hF
    refine s_aload_n hG dX9_draw_42 rfl ?_
    refine s_iload_n hG dX9_draw_43 rfl ?_
    refine s_iconst hG dX9_draw_44 ⟨by decide, by decide⟩ ?_
    obtain ⟨o6, ho6, hF⟩ := bd_some hF
    refine s_callV (d' := d - 1) (ci := 10) (args := [.inl a2, .inl 0]) hG (by omega) dX9_draw_45 cv_RX9_67 cw_X10_roadAt rfl rfl h1.1 (Nat.le_of_ble_eq_true rfl) rfl (t_X10_roadAt hsk (by omega) h1 ho6) ?_
    refine s_istore_n hG dX9_draw_48 (by decide) rfl ?_
    refine s_aload_n hG dX9_draw_49 rfl ?_
    refine s_iload_n hG dX9_draw_50 rfl ?_
    refine s_iconst hG dX9_draw_51 ⟨by decide, by decide⟩ ?_
    obtain ⟨o7, ho7, hF⟩ := bd_some hF
    refine s_callV (d' := d - 1) (ci := 10) (args := [.inl a2, .inl 1]) hG (by omega) dX9_draw_52 cv_RX9_67 cw_X10_roadAt rfl rfl h1.1 (Nat.le_of_ble_eq_true rfl) rfl (t_X10_roadAt hsk (by omega) h1 ho7) ?_
    refine s_istore hG dX9_draw_55 (by decide) rfl ?_
    refine s_aload_n hG dX9_draw_57 rfl ?_
    refine s_iload_n hG dX9_draw_58 rfl ?_
    refine s_iconst hG dX9_draw_59 ⟨by decide, by decide⟩ ?_
    obtain ⟨o8, ho8, hF⟩ := bd_some hF
    refine s_callV (d' := d - 1) (ci := 10) (args := [.inl a2, .inl 3]) hG (by omega) dX9_draw_60 cv_RX9_67 cw_X10_roadAt rfl rfl h1.1 (Nat.le_of_ble_eq_true rfl) rfl (t_X10_roadAt hsk (by omega) h1 ho8) ?_
    refine s_istore hG dX9_draw_63 (by decide) rfl ?_
    refine s_aload_n hG dX9_draw_65 rfl ?_
    refine s_iload_n hG dX9_draw_66 rfl ?_
    refine s_iconst hG dX9_draw_67 ⟨by decide, by decide⟩ ?_
    obtain ⟨o9, ho9, hF⟩ := bd_some hF
    refine s_callV (d' := d - 1) (ci := 10) (args := [.inl a2, .inl 2]) hG (by omega) dX9_draw_68 cv_RX9_67 cw_X10_roadAt rfl rfl h1.1 (Nat.le_of_ble_eq_true rfl) rfl (t_X10_roadAt hsk (by omega) h1 ho9) ?_
    refine s_istore hG dX9_draw_71 (by decide) rfl ?_
    refine s_iload_n hG dX9_draw_73 rfl ?_
    refine s_bipush hG dX9_draw_74 bp_6 ⟨by decide, by decide⟩ ?_
    refine s_imul hG dX9_draw_76 ?_
    refine s_iload hG dX9_draw_77 rfl ?_
    refine s_iadd hG dX9_draw_79 ?_
    refine s_istore hG dX9_draw_80 (by decide) rfl ?_
    refine s_iload hG dX9_draw_82 rfl ?_
    refine s_aload_n hG dX9_draw_84 rfl ?_
    refine s_getr (r := 54) hG dX9_draw_85 fl_RX9_9 (sk_k hsk 53 rfl) rfl (sk_R hsk 53 0 rfl) ?_
    refine s_iload hG dX9_draw_88 rfl ?_
    obtain ⟨g10, hF⟩ := gd_some hF
    refine s_ialdj (j := (m_w ((m_w (o6 * 6)) + o7)).toNat) hG dX9_draw_90 (sk_K hsk 54 rfl) g10 rfl ?_
    refine s_icmp_lt hG 118 dX9_draw_91 (by decide) (fun c15 => ?_) (fun c15 => ?_)
    · replace hF := Eq.trans (if_pos c15).symm hF
      exact t_X9_draw_l33_j118 hsk hd h1 hG hK0 hK1 hF
    · replace hF := Eq.trans (if_neg c15).symm hF
      refine s_iload hG dX9_draw_94 rfl ?_
      refine s_aload_n hG dX9_draw_96 rfl ?_
      refine s_getr (r := 54) hG dX9_draw_97 fl_RX9_9 (sk_k hsk 53 rfl) rfl (sk_R hsk 53 0 rfl) ?_
      refine s_iload hG dX9_draw_100 rfl ?_
      obtain ⟨g11, hF⟩ := gd_some hF
      refine s_ialdj (j := (m_w ((m_w (o6 * 6)) + o7)).toNat) hG dX9_draw_102 (sk_K hsk 54 rfl) g11 rfl ?_
      refine s_icmp_ne hG 163 dX9_draw_103 (by decide) (fun c14 => ?_) (fun c14 => ?_)
      · replace hF := Eq.trans (if_pos c14).symm hF
        refine s_iload hG dX9_draw_106 rfl ?_
        refine s_aload_n hG dX9_draw_108 rfl ?_
        refine s_getr (r := 55) hG dX9_draw_109 fl_RX9_15 (sk_k hsk 53 rfl) rfl (sk_R hsk 53 1 rfl) ?_
        refine s_iload hG dX9_draw_112 rfl ?_
        obtain ⟨g12, hF⟩ := gd_some hF
        refine s_ialdj (j := (m_w ((m_w (o6 * 6)) + o7)).toNat) hG dX9_draw_114 (sk_K hsk 55 rfl) g12 rfl ?_
        refine s_icmp_ge hG 163 dX9_draw_115 (by decide) (fun c13 => ?_) (fun c13 => ?_)
        · replace hF := Eq.trans (if_pos c13).symm hF
          exact t_X9_draw_l33_j118 hsk hd h1 hG hK0 hK1 hF
        · replace hF := Eq.trans (if_neg c13).symm hF
          refine m_weak (ls1 := [some (.inr (.inr 53)), some (.inr (.inr r1)), some (.inl a2), none, none, none, none, none, none]) hG ⟨rfl, ⟨rfl, ⟨rfl, trivial⟩⟩⟩ ?_
          exact t_X9_draw_l33_j163 hsk hd h1 hG hK0 hK1 hF
      · replace hF := Eq.trans (if_neg c14).symm hF
        refine m_weak (ls1 := [some (.inr (.inr 53)), some (.inr (.inr r1)), some (.inl a2), none, none, none, none, none, none]) hG ⟨rfl, ⟨rfl, ⟨rfl, trivial⟩⟩⟩ ?_
        exact t_X9_draw_l33_j163 hsk hd h1 hG hK0 hK1 hF
  · replace hF := Eq.trans (if_neg c16).symm hF
    cases hF
    refine m_weak (ls1 := [none, none, none, none, none, none, none, none, none]) hG trivial ?_
    exact hK1 _ rfl
theorem t_X9_draw_lp33 {d n0 s0 nF sF : Nat} {X : MX} {r1 : Nat} {Ω : Nat → MS → Prop} {N : NN} {a2 : Int} (hsk : m_Sk X) (hd : 2 ≤ d) (h1 : m_isW X r1) (hG : m_G d yX9_draw.cls yX9_draw.name cX9_draw 9 n0 s0 nF sF Ω) {t : NN} (hK1 : Ω 169 ([none, none, none, none, none, none, none, none, none], [], t, X)) (hl : lp (fun s => b_X9_draw_33 X r1 s.1 s.2) (N, a2) = some t) : Ω 33 ([some (.inr (.inr 53)), some (.inr (.inr r1)), some (.inl a2), none, none, none, none, none, none], [], N, X) := by
  refine lp_ok (P := fun s => Ω 33 ([some (.inr (.inr 53)), some (.inr (.inr r1)), some (.inl s.2), none, none, none, none, none, none], [], s.1, X)) (K := fun t => Ω 169 ([none, none, none, none, none, none, none, none, none], [], t, X)) (fun s out hF hK0 hK1 => ?_) hl hK1
  exact t_X9_draw_b33 hsk hd h1 hG (out := out) (fun s' e => hK0 s' e) (fun t' e => hK1 t' e) hF
theorem t_X9_draw {d : Nat} {X : MX} {r1 : Nat} {N : NN} {out : NN} (hsk : m_Sk X) (hd : 2 ≤ d) (h1 : m_isW X r1) (hF : f_X9_draw X r1 N = some out) : m_Call d yX9_draw cX9_draw 9 none [(.inr (.inr 53)), (.inr (.inr r1))] N X none out X := by
  refine m_mk (ls0 := [some (.inr (.inr 53)), some (.inr (.inr r1)), none, none, none, none, none, none, none]) (by decide) rfl (Nat.le_of_ble_eq_true rfl) (Nat.le_refl _) (Nat.le_refl _) (fun Ω hE => ?_)
  have hG := hE.G
  unfold f_X9_draw at hF
  refine s_aload_n hG dX9_draw_0 rfl ?_
  refine s_aload_n hG dX9_draw_1 rfl ?_
  refine s_iconst hG dX9_draw_2 ⟨by decide, by decide⟩ ?_
  obtain ⟨o1, ho1, hF⟩ := bd_some hF
  refine s_callV (d' := d - 1) (ci := 10) (args := [.inl 0]) hG (by omega) dX9_draw_3 cv_RX9_51 cw_X10_many rfl rfl h1.1 (Nat.le_of_ble_eq_true rfl) rfl (t_X10_many hsk (by omega) h1 ho1) ?_
  refine s_bipush hG dX9_draw_6 bp_6 ⟨by decide, by decide⟩ ?_
  refine s_min hG (by omega) dX9_draw_8 ml_RX9_55 lk_min_s lk_math lk_min_c (Nat.le_of_ble_eq_true rfl) ?_
  refine s_puti hG dX9_draw_11 fl_RX9_24 (fun h => by cases h) (sk_k hsk 53 rfl) rfl ?_
  refine s_aload_n hG dX9_draw_14 rfl ?_
  refine s_getr (r := 54) hG dX9_draw_15 fl_RX9_9 (sk_k hsk 53 rfl) rfl (sk_R hsk 53 0 rfl) ?_
  refine s_bipush hG dX9_draw_18 bp_10 ⟨by decide, by decide⟩ ?_
  obtain ⟨o3, ho3, hF⟩ := bd_some hF
  refine s_callS (d' := d - 1) (args := [.inr (.inr 54), .inl 10]) hG (by omega) dX9_draw_20 cs_RX9_61 cw_J7_fill_53178 rfl (Nat.le_of_ble_eq_true rfl) rfl (t_J7_fill_53178 hsk (by omega) (m_k1f (sk_K hsk 54 rfl)) ho3) ?_
  refine s_aload_n hG dX9_draw_23 rfl ?_
  refine s_getr (r := 55) hG dX9_draw_24 fl_RX9_15 (sk_k hsk 53 rfl) rfl (sk_R hsk 53 1 rfl) ?_
  refine s_iconst hG dX9_draw_27 ⟨by decide, by decide⟩ ?_
  obtain ⟨o4, ho4, hF⟩ := bd_some hF
  refine s_callS (d' := d - 1) (args := [.inr (.inr 55), .inl 0]) hG (by omega) dX9_draw_28 cs_RX9_61 cw_J7_fill_53178 rfl (Nat.le_of_ble_eq_true rfl) rfl (t_J7_fill_53178 hsk (by omega) (m_k1f (sk_K hsk 55 rfl)) ho4) ?_
  refine s_iconst hG dX9_draw_31 ⟨by decide, by decide⟩ ?_
  refine s_istore_n hG dX9_draw_32 (by decide) rfl ?_
  obtain ⟨o25, hlo25, hF⟩ := bd_some hF
  refine t_X9_draw_lp33 hsk hd h1 hG ?_ hlo25
  cases hF
  exact s_vret hE dX9_draw_169 rfl
-- X9_walk
theorem t_X9_walk_l78_j171 {drec d n0 s0 nF sF : Nat} {fr : NN → Int → Int → Int → Int → Option NN} {X : MX} {Ω : Nat → MS → Prop} {N : NN} {a1 : Int} {a2 : Int} {a3 : Int} {a4 : Int} {a5 : Int} {a6 : Int} (hsk : m_Sk X) (hd : drec + 1 ≤ d) (hrec : ∀ (dr : Nat) (N : NN) (x1 : Int) (x2 : Int) (x3 : Int) (x4 : Int) (out : NN), drec ≤ dr → fr N x1 x2 x3 x4 = some out → m_Call dr yX9_walk cX9_walk 8 none [.inr (.inr 53), .inl x1, .inl x2, .inl x3, .inl x4] N X none out X) (hG : m_G d yX9_walk.cls yX9_walk.name cX9_walk 8 n0 s0 nF sF Ω) {out : ((NN × Int × Int × Int × Int × Int × Int) ⊕ NN)} (hK0 : ∀ s' : (NN × Int × Int × Int × Int × Int × Int), out = .inl s' → Ω 78 ([some (.inr (.inr 53)), some (.inl (s'.2.1)), some (.inl (s'.2.2.1)), some (.inl (s'.2.2.2.1)), some (.inl (s'.2.2.2.2.1)), some (.inl (s'.2.2.2.2.2.1)), some (.inl (s'.2.2.2.2.2.2)), none], [], s'.1, X)) (hK1 : ∀ t : NN, out = .inr t → Ω 177 ([none, none, none, none, none, none, none, none], [], t, X)) (hF : f_X9_walk_l78_j171 fr X N a1 a2 a3 a4 a5 a6 = some out) : Ω 171 ([some (.inr (.inr 53)), some (.inl a1), some (.inl a2), some (.inl a3), some (.inl a4), some (.inl a5), some (.inl a6), none], [], N, X) := by
  unfold f_X9_walk_l78_j171 at hF
  refine s_iinc hG dX9_walk_171 (by decide) rfl rfl ?_
  refine s_goto hG 78 dX9_walk_174 (by decide) ?_
  cases hF
  exact hK0 _ rfl
theorem t_X9_walk_b78 {drec d n0 s0 nF sF : Nat} {fr : NN → Int → Int → Int → Int → Option NN} {X : MX} {Ω : Nat → MS → Prop} {N : NN} {a1 : Int} {a2 : Int} {a3 : Int} {a4 : Int} {a5 : Int} {a6 : Int} (hsk : m_Sk X) (hd : drec + 1 ≤ d) (hrec : ∀ (dr : Nat) (N : NN) (x1 : Int) (x2 : Int) (x3 : Int) (x4 : Int) (out : NN), drec ≤ dr → fr N x1 x2 x3 x4 = some out → m_Call dr yX9_walk cX9_walk 8 none [.inr (.inr 53), .inl x1, .inl x2, .inl x3, .inl x4] N X none out X) (hG : m_G d yX9_walk.cls yX9_walk.name cX9_walk 8 n0 s0 nF sF Ω) {out : ((NN × Int × Int × Int × Int × Int × Int) ⊕ NN)} (hK0 : ∀ s' : (NN × Int × Int × Int × Int × Int × Int), out = .inl s' → Ω 78 ([some (.inr (.inr 53)), some (.inl (s'.2.1)), some (.inl (s'.2.2.1)), some (.inl (s'.2.2.2.1)), some (.inl (s'.2.2.2.2.1)), some (.inl (s'.2.2.2.2.2.1)), some (.inl (s'.2.2.2.2.2.2)), none], [], s'.1, X)) (hK1 : ∀ t : NN, out = .inr t → Ω 177 ([none, none, none, none, none, none, none, none], [], t, X)) (hF : b_X9_walk_78 fr X N a1 a2 a3 a4 a5 a6 = some out) : Ω 78 ([some (.inr (.inr 53)), some (.inl a1), some (.inl a2), some (.inl a3), some (.inl a4), some (.inl a5), some (.inl a6), none], [], N, X) := by
  unfold b_X9_walk_78 at hF
  refine s_iload hG dX9_walk_78 rfl ?_
  refine s_aload_n hG dX9_walk_80 rfl ?_
  refine s_geti hG dX9_walk_81 fl_RX9_24 (sk_k hsk 53 rfl) rfl ?_
  refine s_icmp_ge hG 177 dX9_walk_84 (by decide) (fun c14 => ?_) (fun c14 => ?_)
  · replace hF := Eq.trans (if_pos c14).symm hF
    refine s_iload_n hG dX9_walk_87 rfl ?_
    refine s_iconst hG dX9_walk_88 ⟨by decide, by decide⟩ ?_
    refine s_icmp_ge hG 177 dX9_walk_89 (by decide) (fun c13 => ?_) (fun c13 => ?_)
    · replace hF := Eq.trans (if_pos c13).symm hF
      refine s_iload hG dX9_walk_92 rfl ?_
      refine s_bipush hG dX9_walk_94 bp_6 ⟨by decide, by decide⟩ ?_
      refine s_imul hG dX9_walk_96 ?_
      refine s_iload hG dX9_walk_97 rfl ?_
      refine s_iadd hG dX9_walk_99 ?_
      refine s_istore hG dX9_walk_100 (by decide) rfl ?_
      refine s_iload_n hG dX9_walk_102 rfl ?_
      refine s_iload hG dX9_walk_103 rfl ?_
      refine s_ishr hG dX9_walk_105 ?_
      refine s_iconst hG dX9_walk_106 ⟨by decide, by decide⟩ ?_
      refine s_iand hG dX9_walk_107 ?_
      refine s_if_ne hG 171 dX9_walk_108 (by decide) (fun c12 => ?_) (fun c12 => ?_)
      · replace hF := Eq.trans (if_pos c12).symm hF
        refine s_aload_n hG dX9_walk_111 rfl ?_
        refine s_getr (r := 54) hG dX9_walk_112 fl_RX9_9 (sk_k hsk 53 rfl) rfl (sk_R hsk 53 0 rfl) ?_
        refine s_iload hG dX9_walk_115 rfl ?_
        obtain ⟨g5, hF⟩ := gd_some hF
        refine s_ialdj (j := (m_w ((m_w (a5 * 6)) + a6)).toNat) hG dX9_walk_117 (sk_K hsk 54 rfl) g5 rfl ?_
        refine s_bipush hG dX9_walk_118 bp_10 ⟨by decide, by decide⟩ ?_
        refine s_icmp_ge hG 171 dX9_walk_120 (by decide) (fun c11 => ?_) (fun c11 => ?_)
        · replace hF := Eq.trans (if_pos c11).symm hF
          refine s_aload_n hG dX9_walk_123 rfl ?_
          refine s_getr (r := 56) hG dX9_walk_124 fl_RX9_18 (sk_k hsk 53 rfl) rfl (sk_R hsk 53 2 rfl) ?_
          refine s_iload_n hG dX9_walk_127 rfl ?_
          refine s_iconst hG dX9_walk_128 ⟨by decide, by decide⟩ ?_
          refine s_iadd hG dX9_walk_129 ?_
          refine s_iload hG dX9_walk_130 rfl ?_
          obtain ⟨g6, hF⟩ := gd_some hF
          refine s_iastj (j := (m_w (a1 + 1)).toNat) hG dX9_walk_132 (sk_K hsk 56 rfl) g6 rfl ?_
          let N7 : NN := m_up N 56 ((m_w (a1 + 1)).toNat) a6
          refine s_aload_n hG dX9_walk_133 rfl ?_
          refine s_iload_n hG dX9_walk_134 rfl ?_
          refine s_iconst hG dX9_walk_135 ⟨by decide, by decide⟩ ?_
          refine s_iadd hG dX9_walk_136 ?_
          refine s_iload_n hG dX9_walk_137 rfl ?_
          refine s_iconst hG dX9_walk_138 ⟨by decide, by decide⟩ ?_
          refine s_iload hG dX9_walk_139 rfl ?_
          refine s_ishl hG dX9_walk_141 ?_
          refine s_ior hG dX9_walk_142 ?_
          refine s_iload_n hG dX9_walk_143 rfl ?_
          refine s_bipush hG dX9_walk_144 bp_10 ⟨by decide, by decide⟩ ?_
          refine s_idiv hG dX9_walk_146 (by decide) ?_
          refine s_bipush hG dX9_walk_147 bp_10 ⟨by decide, by decide⟩ ?_
          refine s_aload_n hG dX9_walk_149 rfl ?_
          refine s_getr (r := 54) hG dX9_walk_150 fl_RX9_9 (sk_k hsk 53 rfl) rfl (sk_R hsk 53 0 rfl) ?_
          refine s_iload hG dX9_walk_153 rfl ?_
          obtain ⟨g8, hF⟩ := gd_some hF
          refine s_ialdj (j := (m_w ((m_w (a5 * 6)) + a6)).toNat) hG dX9_walk_155 (sk_K hsk 54 rfl) g8 rfl ?_
          refine s_isub hG dX9_walk_156 ?_
          refine s_imul hG dX9_walk_157 ?_
          refine s_iload hG dX9_walk_158 rfl ?_
          refine s_aload_n hG dX9_walk_160 rfl ?_
          refine s_getr (r := 55) hG dX9_walk_161 fl_RX9_15 (sk_k hsk 53 rfl) rfl (sk_R hsk 53 1 rfl) ?_
          refine s_iload hG dX9_walk_164 rfl ?_
          obtain ⟨g9, hF⟩ := gd_some hF
          refine s_ialdj (j := (m_w ((m_w (a5 * 6)) + a6)).toNat) hG dX9_walk_166 (sk_K hsk 55 rfl) g9 rfl ?_
          refine s_iadd hG dX9_walk_167 ?_
          obtain ⟨o10, ho10, hF⟩ := bd_some hF
          refine s_callV (d' := d - 1) (ci := 9) (args := [.inl (m_w (a1 + 1)), .inl (m_or a2 (m_shl 1 a6)), .inl (m_w ((m_div a3 10) * (m_w (10 - (N7 54 ((m_w ((m_w (a5 * 6)) + a6)).toNat)))))), .inl (m_w (a4 + (N7 55 ((m_w ((m_w (a5 * 6)) + a6)).toNat))))]) hG (by omega) dX9_walk_168 cv_RX9_45 cw_X9_walk rfl rfl (sk_k hsk 53 rfl) (Nat.le_of_ble_eq_true rfl) rfl (hrec (d - 1) _ _ _ _ _ _ (by omega) ho10) ?_
          refine m_weak (ls1 := [some (.inr (.inr 53)), some (.inl a1), some (.inl a2), some (.inl a3), some (.inl a4), some (.inl a5), some (.inl a6), none]) hG ⟨rfl, ⟨rfl, ⟨rfl, ⟨rfl, ⟨rfl, ⟨rfl, ⟨rfl, trivial⟩⟩⟩⟩⟩⟩⟩ ?_
          exact t_X9_walk_l78_j171 hsk hd hrec hG hK0 hK1 hF
        · replace hF := Eq.trans (if_neg c11).symm hF
          refine m_weak (ls1 := [some (.inr (.inr 53)), some (.inl a1), some (.inl a2), some (.inl a3), some (.inl a4), some (.inl a5), some (.inl a6), none]) hG ⟨rfl, ⟨rfl, ⟨rfl, ⟨rfl, ⟨rfl, ⟨rfl, ⟨rfl, trivial⟩⟩⟩⟩⟩⟩⟩ ?_
          exact t_X9_walk_l78_j171 hsk hd hrec hG hK0 hK1 hF
      · replace hF := Eq.trans (if_neg c12).symm hF
        refine m_weak (ls1 := [some (.inr (.inr 53)), some (.inl a1), some (.inl a2), some (.inl a3), some (.inl a4), some (.inl a5), some (.inl a6), none]) hG ⟨rfl, ⟨rfl, ⟨rfl, ⟨rfl, ⟨rfl, ⟨rfl, ⟨rfl, trivial⟩⟩⟩⟩⟩⟩⟩ ?_
        exact t_X9_walk_l78_j171 hsk hd hrec hG hK0 hK1 hF
    · replace hF := Eq.trans (if_neg c13).symm hF
      cases hF
      refine m_weak (ls1 := [none, none, none, none, none, none, none, none]) hG trivial ?_
      exact hK1 _ rfl
  · replace hF := Eq.trans (if_neg c14).symm hF
    cases hF
    refine m_weak (ls1 := [none, none, none, none, none, none, none, none]) hG trivial ?_
    exact hK1 _ rfl
theorem t_X9_walk_lp78 {drec d n0 s0 nF sF : Nat} {fr : NN → Int → Int → Int → Int → Option NN} {X : MX} {Ω : Nat → MS → Prop} {N : NN} {a1 : Int} {a2 : Int} {a3 : Int} {a4 : Int} {a5 : Int} {a6 : Int} (hsk : m_Sk X) (hd : drec + 1 ≤ d) (hrec : ∀ (dr : Nat) (N : NN) (x1 : Int) (x2 : Int) (x3 : Int) (x4 : Int) (out : NN), drec ≤ dr → fr N x1 x2 x3 x4 = some out → m_Call dr yX9_walk cX9_walk 8 none [.inr (.inr 53), .inl x1, .inl x2, .inl x3, .inl x4] N X none out X) (hG : m_G d yX9_walk.cls yX9_walk.name cX9_walk 8 n0 s0 nF sF Ω) {t : NN} (hK1 : Ω 177 ([none, none, none, none, none, none, none, none], [], t, X)) (hl : lp (fun s => b_X9_walk_78 fr X s.1 s.2.1 s.2.2.1 s.2.2.2.1 s.2.2.2.2.1 s.2.2.2.2.2.1 s.2.2.2.2.2.2) (N, a1, a2, a3, a4, a5, a6) = some t) : Ω 78 ([some (.inr (.inr 53)), some (.inl a1), some (.inl a2), some (.inl a3), some (.inl a4), some (.inl a5), some (.inl a6), none], [], N, X) := by
  refine lp_ok (P := fun s => Ω 78 ([some (.inr (.inr 53)), some (.inl s.2.1), some (.inl s.2.2.1), some (.inl s.2.2.2.1), some (.inl s.2.2.2.2.1), some (.inl s.2.2.2.2.2.1), some (.inl s.2.2.2.2.2.2), none], [], s.1, X)) (K := fun t => Ω 177 ([none, none, none, none, none, none, none, none], [], t, X)) (fun s out hF hK0 hK1 => ?_) hl hK1
  exact t_X9_walk_b78 hsk hd hrec hG (out := out) (fun s' e => hK0 s' e) (fun t' e => hK1 t' e) hF
theorem t_X9_walk_j42 {drec d n0 s0 nF sF : Nat} {fr : NN → Int → Int → Int → Int → Option NN} {X : MX} {Ω : Nat → MS → Prop} {N : NN} {a1 : Int} {a3 : Int} {a4 : Int} (hsk : m_Sk X) (hd : drec + 1 ≤ d) (hrec : ∀ (dr : Nat) (N : NN) (x1 : Int) (x2 : Int) (x3 : Int) (x4 : Int) (out : NN), drec ≤ dr → fr N x1 x2 x3 x4 = some out → m_Call dr yX9_walk cX9_walk 8 none [.inr (.inr 53), .inl x1, .inl x2, .inl x3, .inl x4] N X none out X) (hG : m_G d yX9_walk.cls yX9_walk.name cX9_walk 8 n0 s0 nF sF Ω) {out : NN} (hE : m_Gd d yX9_walk cX9_walk 8 none X none out X Ω) (hF : f_X9_walk_j42 fr X N a1 a3 a4 = some out) : Ω 42 ([some (.inr (.inr 53)), some (.inl a1), none, some (.inl a3), some (.inl a4), none, none, none], [], N, X) := by
  unfold f_X9_walk_j42 at hF
  refine s_aload_n hG dX9_walk_42 rfl ?_
  refine s_iload_n hG dX9_walk_43 rfl ?_
  refine s_puti hG dX9_walk_44 fl_RX9_31 (fun h => by cases h) (sk_k hsk 53 rfl) rfl ?_
  refine s_aload_n hG dX9_walk_47 rfl ?_
  refine s_iload hG dX9_walk_48 rfl ?_
  refine s_puti hG dX9_walk_50 fl_RX9_34 (fun h => by cases h) (sk_k hsk 53 rfl) rfl ?_
  refine s_aload_n hG dX9_walk_53 rfl ?_
  refine s_iload_n hG dX9_walk_54 rfl ?_
  refine s_puti hG dX9_walk_55 fl_RX9_37 (fun h => by cases h) (sk_k hsk 53 rfl) rfl ?_
  refine s_aload_n hG dX9_walk_58 rfl ?_
  refine s_getr (r := 56) hG dX9_walk_59 fl_RX9_18 (sk_k hsk 53 rfl) rfl (sk_R hsk 53 2 rfl) ?_
  refine s_iconst hG dX9_walk_62 ⟨by decide, by decide⟩ ?_
  refine s_aload_n hG dX9_walk_63 rfl ?_
  refine s_getr (r := 57) hG dX9_walk_64 fl_RX9_21 (sk_k hsk 53 rfl) rfl (sk_R hsk 53 3 rfl) ?_
  refine s_iconst hG dX9_walk_67 ⟨by decide, by decide⟩ ?_
  refine s_iload_n hG dX9_walk_68 rfl ?_
  refine s_iconst hG dX9_walk_69 ⟨by decide, by decide⟩ ?_
  refine s_iadd hG dX9_walk_70 ?_
  obtain ⟨g20, hF⟩ := gd_some hF
  refine s_copy hG (by omega) dX9_walk_71 ml_RX9_70 lk_cpy_n lk_cpy_s lk_sys (Nat.le_of_ble_eq_true rfl) (sk_K hsk 56 rfl) (sk_K hsk 57 rfl) g20 ?_
  cases hF
  exact s_vret hE dX9_walk_74 rfl
theorem t_X9_walk_step {drec d : Nat} {fr : NN → Int → Int → Int → Int → Option NN} {X : MX} {N : NN} {a1 : Int} {a2 : Int} {a3 : Int} {a4 : Int} {out : NN} (hsk : m_Sk X) (hd : drec + 1 ≤ d) (hrec : ∀ (dr : Nat) (N : NN) (x1 : Int) (x2 : Int) (x3 : Int) (x4 : Int) (out : NN), drec ≤ dr → fr N x1 x2 x3 x4 = some out → m_Call dr yX9_walk cX9_walk 8 none [.inr (.inr 53), .inl x1, .inl x2, .inl x3, .inl x4] N X none out X) (hF : f_X9_walk_step fr X N a1 a2 a3 a4 = some out) : m_Call d yX9_walk cX9_walk 8 none [(.inr (.inr 53)), (.inl a1), (.inl a2), (.inl a3), (.inl a4)] N X none out X := by
  refine m_mk (ls0 := [some (.inr (.inr 53)), some (.inl a1), some (.inl a2), some (.inl a3), some (.inl a4), none, none, none]) (by decide) rfl (Nat.le_of_ble_eq_true rfl) (Nat.le_refl _) (Nat.le_refl _) (fun Ω hE => ?_)
  have hG := hE.G
  unfold f_X9_walk_step at hF
  refine s_aload_n hG dX9_walk_0 rfl ?_
  refine s_getr (r := 56) hG dX9_walk_1 fl_RX9_18 (sk_k hsk 53 rfl) rfl (sk_R hsk 53 2 rfl) ?_
  refine s_iload_n hG dX9_walk_4 rfl ?_
  obtain ⟨g1, hF⟩ := gd_some hF
  refine s_ialdj (j := a1.toNat) hG dX9_walk_5 (sk_K hsk 56 rfl) g1 rfl ?_
  refine s_istore hG dX9_walk_6 (by decide) rfl ?_
  refine s_iload hG dX9_walk_8 rfl ?_
  refine s_aload_n hG dX9_walk_10 rfl ?_
  refine s_geti hG dX9_walk_11 fl_RX9_28 (sk_k hsk 53 rfl) rfl ?_
  refine s_icmp_ne hG 75 dX9_walk_14 (by decide) (fun c16 => ?_) (fun c16 => ?_)
  · replace hF := Eq.trans (if_pos c16).symm hF
    refine s_iload_n hG dX9_walk_17 rfl ?_
    refine s_aload_n hG dX9_walk_18 rfl ?_
    refine s_geti hG dX9_walk_19 fl_RX9_31 (sk_k hsk 53 rfl) rfl ?_
    refine s_icmp_gt hG 42 dX9_walk_22 (by decide) (fun c4 => ?_) (fun c4 => ?_)
    · replace hF := Eq.trans (if_pos c4).symm hF
      refine m_weak (ls1 := [some (.inr (.inr 53)), some (.inl a1), none, some (.inl a3), some (.inl a4), none, none, none]) hG ⟨rfl, ⟨rfl, ⟨rfl, ⟨rfl, trivial⟩⟩⟩⟩ ?_
      exact t_X9_walk_j42 hsk hd hrec hG hE hF
    · replace hF := Eq.trans (if_neg c4).symm hF
      refine s_iload_n hG dX9_walk_25 rfl ?_
      refine s_aload_n hG dX9_walk_26 rfl ?_
      refine s_geti hG dX9_walk_27 fl_RX9_31 (sk_k hsk 53 rfl) rfl ?_
      refine s_icmp_ne hG 74 dX9_walk_30 (by decide) (fun c3 => ?_) (fun c3 => ?_)
      · replace hF := Eq.trans (if_pos c3).symm hF
        refine s_iload hG dX9_walk_33 rfl ?_
        refine s_aload_n hG dX9_walk_35 rfl ?_
        refine s_geti hG dX9_walk_36 fl_RX9_34 (sk_k hsk 53 rfl) rfl ?_
        refine s_icmp_ge hG 74 dX9_walk_39 (by decide) (fun c2 => ?_) (fun c2 => ?_)
        · replace hF := Eq.trans (if_pos c2).symm hF
          refine m_weak (ls1 := [some (.inr (.inr 53)), some (.inl a1), none, some (.inl a3), some (.inl a4), none, none, none]) hG ⟨rfl, ⟨rfl, ⟨rfl, ⟨rfl, trivial⟩⟩⟩⟩ ?_
          exact t_X9_walk_j42 hsk hd hrec hG hE hF
        · replace hF := Eq.trans (if_neg c2).symm hF
          cases hF
          exact s_vret hE dX9_walk_74 rfl
      · replace hF := Eq.trans (if_neg c3).symm hF
        cases hF
        exact s_vret hE dX9_walk_74 rfl
  · replace hF := Eq.trans (if_neg c16).symm hF
    refine s_iconst hG dX9_walk_75 ⟨by decide, by decide⟩ ?_
    refine s_istore hG dX9_walk_76 (by decide) rfl ?_
    obtain ⟨o15, hlo15, hF⟩ := bd_some hF
    refine t_X9_walk_lp78 hsk hd hrec hG ?_ hlo15
    cases hF
    exact s_vret hE dX9_walk_177 rfl
theorem t_X9_walk_all {X : MX} (hsk : m_Sk X) : ∀ (n : Nat) (d : Nat) (N : NN) (x1 : Int) (x2 : Int) (x3 : Int) (x4 : Int) (out : NN), 1 * n ≤ d → f_X9_walk X n N x1 x2 x3 x4 = some out → m_Call d yX9_walk cX9_walk 8 none [(.inr (.inr 53)), (.inl x1), (.inl x2), (.inl x3), (.inl x4)] N X none out X := by
  intro n
  induction n with
  | zero => intro d N x1 x2 x3 x4 out hd hF; cases hF
  | succ n ih =>
    intro d N x1 x2 x3 x4 out hd hF
    exact t_X9_walk_step (drec := 1 * n) hsk (by omega) (fun dr N x1 x2 x3 x4 out ha hb => ih dr N x1 x2 x3 x4 out ha hb) hF
theorem t_X9_walk {d : Nat} {X : MX} {N : NN} {x1 : Int} {x2 : Int} {x3 : Int} {x4 : Int} {out : NN} (hsk : m_Sk X) (hd : 8 ≤ d) (hF : f_X9_walk X 8 N x1 x2 x3 x4 = some out) : m_Call d yX9_walk cX9_walk 8 none [(.inr (.inr 53)), (.inl x1), (.inl x2), (.inl x3), (.inl x4)] N X none out X := t_X9_walk_all hsk 8 d N x1 x2 x3 x4 out (by omega) hF
-- X9_answer
theorem t_X9_answer_j125 {d n0 s0 nF sF : Nat} {X : MX} {r1 : Nat} {Ω : Nat → MS → Prop} {N : NN} {z0 : Int} (hsk : m_Sk X) (hd : 9 ≤ d) (h1 : m_isW X r1) (hG : m_G d yX9_answer.cls yX9_answer.name cX9_answer 5 n0 s0 nF sF Ω) {out : (Int × NN)} (hE : m_Gd d yX9_answer cX9_answer 5 (some .int) X (some (.inl out.1)) out.2 X Ω) (hF : f_X9_answer_j125 X r1 N z0 = some out) : Ω 125 ([none, none, none, none, none], [(.inl z0)], N, X) := by
  unfold f_X9_answer_j125 at hF
  cases hF
  exact s_iret hE dX9_answer_125 rfl
theorem t_X9_answer_j124 {d n0 s0 nF sF : Nat} {X : MX} {r1 : Nat} {Ω : Nat → MS → Prop} {N : NN} (hsk : m_Sk X) (hd : 9 ≤ d) (h1 : m_isW X r1) (hG : m_G d yX9_answer.cls yX9_answer.name cX9_answer 5 n0 s0 nF sF Ω) {out : (Int × NN)} (hE : m_Gd d yX9_answer cX9_answer 5 (some .int) X (some (.inl out.1)) out.2 X Ω) (hF : f_X9_answer_j124 X r1 N = some out) : Ω 124 ([none, none, none, none, none], [], N, X) := by
  unfold f_X9_answer_j124 at hF
  refine s_iconst hG dX9_answer_124 ⟨by decide, by decide⟩ ?_
  exact t_X9_answer_j125 hsk hd h1 hG hE hF
theorem t_X9_answer {d : Nat} {X : MX} {r1 : Nat} {N : NN} {a2 : Int} {a3 : Int} {a4 : Int} {out : (Int × NN)} (hsk : m_Sk X) (hd : 9 ≤ d) (h1 : m_isW X r1) (hF : f_X9_answer X r1 N a2 a3 a4 = some out) : m_Call d yX9_answer cX9_answer 5 (some .int) [(.inr (.inr 53)), (.inr (.inr r1)), (.inl a2), (.inl a3), (.inl a4)] N X (some (.inl out.1)) out.2 X := by
  refine m_mk (ls0 := [some (.inr (.inr 53)), some (.inr (.inr r1)), some (.inl a2), some (.inl a3), some (.inl a4)]) (by decide) rfl (Nat.le_of_ble_eq_true rfl) (Nat.le_refl _) (Nat.le_refl _) (fun Ω hE => ?_)
  have hG := hE.G
  unfold f_X9_answer at hF
  refine s_aload_n hG dX9_answer_0 rfl ?_
  refine s_aload_n hG dX9_answer_1 rfl ?_
  obtain ⟨o1, ho1, hF⟩ := bd_some hF
  refine s_callV (d' := d - 1) (ci := 9) (args := [.inr (.inr r1)]) hG (by omega) dX9_answer_2 cv_RX9_40 cw_X9_draw rfl rfl (sk_k hsk 53 rfl) (Nat.le_of_ble_eq_true rfl) rfl (t_X9_draw hsk (by omega) h1 ho1) ?_
  refine s_aload_n hG dX9_answer_5 rfl ?_
  refine s_iload_n hG dX9_answer_6 rfl ?_
  refine s_puti hG dX9_answer_7 fl_RX9_28 (fun h => by cases h) (sk_k hsk 53 rfl) rfl ?_
  refine s_aload_n hG dX9_answer_10 rfl ?_
  refine s_iconst hG dX9_answer_11 ⟨by decide, by decide⟩ ?_
  refine s_puti hG dX9_answer_12 fl_RX9_31 (fun h => by cases h) (sk_k hsk 53 rfl) rfl ?_
  refine s_aload_n hG dX9_answer_15 rfl ?_
  refine s_iconst hG dX9_answer_16 ⟨by decide, by decide⟩ ?_
  refine s_puti hG dX9_answer_17 fl_RX9_34 (fun h => by cases h) (sk_k hsk 53 rfl) rfl ?_
  refine s_aload_n hG dX9_answer_20 rfl ?_
  refine s_iconst hG dX9_answer_21 ⟨by decide, by decide⟩ ?_
  refine s_puti hG dX9_answer_22 fl_RX9_37 (fun h => by cases h) (sk_k hsk 53 rfl) rfl ?_
  refine s_aload_n hG dX9_answer_25 rfl ?_
  refine s_getr (r := 56) hG dX9_answer_26 fl_RX9_18 (sk_k hsk 53 rfl) rfl (sk_R hsk 53 2 rfl) ?_
  refine s_iconst hG dX9_answer_29 ⟨by decide, by decide⟩ ?_
  refine s_iload_n hG dX9_answer_30 rfl ?_
  refine s_iastj (j := 0) hG dX9_answer_31 (sk_K hsk 56 rfl) ⟨by decide, by decide⟩ rfl ?_
  refine s_aload_n hG dX9_answer_32 rfl ?_
  refine s_iconst hG dX9_answer_33 ⟨by decide, by decide⟩ ?_
  refine s_iconst hG dX9_answer_34 ⟨by decide, by decide⟩ ?_
  refine s_iload_n hG dX9_answer_35 rfl ?_
  refine s_ishl hG dX9_answer_36 ?_
  refine s_ldc hG dX9_answer_37 kc_RX9_44 ⟨by decide, by decide⟩ ?_
  refine s_iconst hG dX9_answer_39 ⟨by decide, by decide⟩ ?_
  obtain ⟨o7, ho7, hF⟩ := bd_some hF
  refine s_callV (d' := d - 1) (ci := 9) (args := [.inl 0, .inl (m_shl 1 a2), .inl 100000, .inl 0]) hG (by omega) dX9_answer_40 cv_RX9_45 cw_X9_walk rfl rfl (sk_k hsk 53 rfl) (Nat.le_of_ble_eq_true rfl) rfl (t_X9_walk hsk (by omega) ho7) ?_
  refine s_aload_n hG dX9_answer_43 rfl ?_
  refine s_geti hG dX9_answer_44 fl_RX9_37 (sk_k hsk 53 rfl) rfl ?_
  refine s_iconst hG dX9_answer_47 ⟨by decide, by decide⟩ ?_
  refine s_icmp_ne hG 53 dX9_answer_48 (by decide) (fun c15 => ?_) (fun c15 => ?_)
  · replace hF := Eq.trans (if_pos c15).symm hF
    refine s_iconst hG dX9_answer_51 ⟨by decide, by decide⟩ ?_
    cases hF
    exact s_iret hE dX9_answer_52 rfl
  · replace hF := Eq.trans (if_neg c15).symm hF
    refine s_iload hG dX9_answer_53 rfl ?_
    by_cases c14 : a4 = 0
    · replace hF := Eq.trans (if_pos c14).symm hF
      refine s_tableIn hG (off := 25) 80 dX9_answer_55 (by omega) (by omega) (by rw [c14]; rfl) (by decide) ?_
      refine s_aload_n hG dX9_answer_80 rfl ?_
      refine s_geti hG dX9_answer_81 fl_RX9_31 (sk_k hsk 53 rfl) rfl ?_
      cases hF
      exact s_iret hE dX9_answer_84 rfl
    · replace hF := Eq.trans (if_neg c14).symm hF
      by_cases c13 : a4 = 1
      · replace hF := Eq.trans (if_pos c13).symm hF
        refine s_tableIn hG (off := 30) 85 dX9_answer_55 (by omega) (by omega) (by rw [c13]; rfl) (by decide) ?_
        refine s_aload_n hG dX9_answer_85 rfl ?_
        refine s_geti hG dX9_answer_86 fl_RX9_34 (sk_k hsk 53 rfl) rfl ?_
        cases hF
        exact s_iret hE dX9_answer_89 rfl
      · replace hF := Eq.trans (if_neg c13).symm hF
        by_cases c12 : a4 = 2
        · replace hF := Eq.trans (if_pos c12).symm hF
          refine s_tableIn hG (off := 35) 90 dX9_answer_55 (by omega) (by omega) (by rw [c12]; rfl) (by decide) ?_
          refine s_aload_n hG dX9_answer_90 rfl ?_
          refine s_geti hG dX9_answer_91 fl_RX9_37 (sk_k hsk 53 rfl) rfl ?_
          cases hF
          exact s_iret hE dX9_answer_94 rfl
        · replace hF := Eq.trans (if_neg c12).symm hF
          refine s_tableOut hG 95 dX9_answer_55 (by omega) (by decide) ?_
          refine s_iload hG dX9_answer_95 rfl ?_
          refine s_iconst hG dX9_answer_97 ⟨by decide, by decide⟩ ?_
          refine s_icmp_lt hG 124 dX9_answer_98 (by decide) (fun c10 => ?_) (fun c10 => ?_)
          · replace hF := Eq.trans (if_pos c10).symm hF
            refine m_weak (ls1 := [none, none, none, none, none]) hG trivial ?_
            exact t_X9_answer_j124 hsk hd h1 hG hE hF
          · replace hF := Eq.trans (if_neg c10).symm hF
            refine s_iload hG dX9_answer_101 rfl ?_
            refine s_iconst hG dX9_answer_103 ⟨by decide, by decide⟩ ?_
            refine s_isub hG dX9_answer_104 ?_
            refine s_aload_n hG dX9_answer_105 rfl ?_
            refine s_geti hG dX9_answer_106 fl_RX9_37 (sk_k hsk 53 rfl) rfl ?_
            refine s_icmp_gt hG 124 dX9_answer_109 (by decide) (fun c9 => ?_) (fun c9 => ?_)
            · replace hF := Eq.trans (if_pos c9).symm hF
              refine m_weak (ls1 := [none, none, none, none, none]) hG trivial ?_
              exact t_X9_answer_j124 hsk hd h1 hG hE hF
            · replace hF := Eq.trans (if_neg c9).symm hF
              refine s_aload_n hG dX9_answer_112 rfl ?_
              refine s_getr (r := 57) hG dX9_answer_113 fl_RX9_21 (sk_k hsk 53 rfl) rfl (sk_R hsk 53 3 rfl) ?_
              refine s_iload hG dX9_answer_116 rfl ?_
              refine s_iconst hG dX9_answer_118 ⟨by decide, by decide⟩ ?_
              refine s_isub hG dX9_answer_119 ?_
              obtain ⟨g8, hF⟩ := gd_some hF
              refine s_ialdj (j := (m_w (a4 - 3)).toNat) hG dX9_answer_120 (sk_K hsk 57 rfl) g8 rfl ?_
              refine s_goto hG 125 dX9_answer_121 (by decide) ?_
              refine m_weak (ls1 := [none, none, none, none, none]) hG trivial ?_
              exact t_X9_answer_j125 hsk hd h1 hG hE hF
-- X11_way
theorem t_X11_way_j22 {d n0 s0 nF sF : Nat} {X : MX} {Ω : Nat → MS → Prop} {N : NN} (hsk : m_Sk X) (hd : 10 ≤ d) (hG : m_G d yX11_way.cls yX11_way.name cX11_way 4 n0 s0 nF sF Ω) {out : (Int × NN)} (hE : m_Gd d yX11_way cX11_way 4 (some .int) X (some (.inl out.1)) out.2 X Ω) (hF : f_X11_way_j22 X N = some out) : Ω 22 ([none, none, none, none], [], N, X) := by
  unfold f_X11_way_j22 at hF
  refine s_iconst hG dX11_way_22 ⟨by decide, by decide⟩ ?_
  cases hF
  exact s_iret hE dX11_way_23 rfl
theorem t_X11_way {d : Nat} {X : MX} {N : NN} {a1 : Int} {a2 : Int} {a3 : Int} {out : (Int × NN)} (hsk : m_Sk X) (hd : 10 ≤ d) (hF : f_X11_way X N a1 a2 a3 = some out) : m_Call d yX11_way cX11_way 4 (some .int) [(.inr (.inr 3)), (.inl a1), (.inl a2), (.inl a3)] N X (some (.inl out.1)) out.2 X := by
  refine m_mk (ls0 := [some (.inr (.inr 3)), some (.inl a1), some (.inl a2), some (.inl a3)]) (by decide) rfl (Nat.le_of_ble_eq_true rfl) (Nat.le_refl _) (Nat.le_refl _) (fun Ω hE => ?_)
  have hG := hE.G
  unfold f_X11_way at hF
  refine s_aload_n hG dX11_way_0 rfl ?_
  refine s_getr (r := 4) hG dX11_way_1 fl_RX11_10 (sk_k hsk 3 rfl) rfl (sk_R hsk 3 0 rfl) ?_
  refine s_iload_n hG dX11_way_4 rfl ?_
  obtain ⟨o1, ho1, hF⟩ := bd_some hF
  refine s_callV (d' := d - 1) (ci := 10) (args := [.inl a1]) hG (by omega) dX11_way_5 cv_RX11_121 cw_X10_isLord rfl rfl (sk_k hsk 4 rfl) (Nat.le_of_ble_eq_true rfl) rfl (t_X10_isLord hsk (by omega) (sk_W4 hsk) ho1) ?_
  refine s_if_eq hG 22 dX11_way_8 (by decide) (fun c5 => ?_) (fun c5 => ?_)
  · replace hF := Eq.trans (if_pos c5).symm hF
    refine m_weak (ls1 := [none, none, none, none]) hG trivial ?_
    exact t_X11_way_j22 hsk hd hG hE hF
  · replace hF := Eq.trans (if_neg c5).symm hF
    refine s_aload_n hG dX11_way_11 rfl ?_
    refine s_getr (r := 4) hG dX11_way_12 fl_RX11_10 (sk_k hsk 3 rfl) rfl (sk_R hsk 3 0 rfl) ?_
    refine s_iload_n hG dX11_way_15 rfl ?_
    obtain ⟨o2, ho2, hF⟩ := bd_some hF
    refine s_callV (d' := d - 1) (ci := 10) (args := [.inl a2]) hG (by omega) dX11_way_16 cv_RX11_121 cw_X10_isLord rfl rfl (sk_k hsk 4 rfl) (Nat.le_of_ble_eq_true rfl) rfl (t_X10_isLord hsk (by omega) (sk_W4 hsk) ho2) ?_
    refine s_if_ne hG 24 dX11_way_19 (by decide) (fun c4 => ?_) (fun c4 => ?_)
    · replace hF := Eq.trans (if_pos c4).symm hF
      refine m_weak (ls1 := [none, none, none, none]) hG trivial ?_
      exact t_X11_way_j22 hsk hd hG hE hF
    · replace hF := Eq.trans (if_neg c4).symm hF
      refine s_aload_n hG dX11_way_24 rfl ?_
      refine s_getr (r := 53) hG dX11_way_25 fl_RX11_78 (sk_k hsk 3 rfl) rfl (sk_R hsk 3 10 rfl) ?_
      refine s_aload_n hG dX11_way_28 rfl ?_
      refine s_getr (r := 4) hG dX11_way_29 fl_RX11_10 (sk_k hsk 3 rfl) rfl (sk_R hsk 3 0 rfl) ?_
      refine s_iload_n hG dX11_way_32 rfl ?_
      refine s_iload_n hG dX11_way_33 rfl ?_
      refine s_iload_n hG dX11_way_34 rfl ?_
      obtain ⟨o3, ho3, hF⟩ := bd_some hF
      refine s_callV (d' := d - 1) (ci := 9) (args := [.inr (.inr 4), .inl a1, .inl a2, .inl a3]) hG (by omega) dX11_way_35 cv_RX11_279 cw_X9_answer rfl rfl (sk_k hsk 53 rfl) (Nat.le_of_ble_eq_true rfl) rfl (t_X9_answer hsk (by omega) (sk_W4 hsk) ho3) ?_
      cases hF
      exact s_iret hE dX11_way_38 rfl
-- X12_debtAt
theorem t_X12_debtAt {d : Nat} {X : MX} {N : NN} {a0 : Int} {a1 : Int} {out : Int} (hsk : m_Sk X) (hd : 1 ≤ d) (hF : f_X12_debtAt X N a0 a1 = some out) : m_Call d yX12_debtAt cX12_debtAt 2 (some .int) [(.inl a0), (.inl a1)] N X (some (.inl out)) N X := by
  refine m_mk (ls0 := [some (.inl a0), some (.inl a1)]) (by decide) rfl (Nat.le_of_ble_eq_true rfl) (Nat.le_refl _) (Nat.le_refl _) (fun Ω hE => ?_)
  have hG := hE.G
  unfold f_X12_debtAt at hF
  refine s_sipush hG dX12_debtAt_0 sp_141 ⟨by decide, by decide⟩ ?_
  refine s_iconst hG dX12_debtAt_3 ⟨by decide, by decide⟩ ?_
  refine s_bipush hG dX12_debtAt_4 bp_6 ⟨by decide, by decide⟩ ?_
  refine s_iload_n hG dX12_debtAt_6 rfl ?_
  refine s_imul hG dX12_debtAt_7 ?_
  refine s_iload_n hG dX12_debtAt_8 rfl ?_
  refine s_iadd hG dX12_debtAt_9 ?_
  refine s_imul hG dX12_debtAt_10 ?_
  refine s_iadd hG dX12_debtAt_11 ?_
  cases hF
  exact s_iret hE dX12_debtAt_12 rfl
-- X12_debtsOf
theorem t_X12_debtsOf_l4_j30 {d n0 s0 nF sF : Nat} {X : MX} {N : NN} {Ω : Nat → MS → Prop} {a1 : Int} {a3 : Int} {z0 : Int} {z1 : Int} (hsk : m_Sk X) (hd : 2 ≤ d) (hG : m_G d yX12_debtsOf.cls yX12_debtsOf.name cX12_debtsOf 4 n0 s0 nF sF Ω) {out : ((Int × Int × Int) ⊕ Int)} (hK0 : ∀ s' : (Int × Int × Int), out = .inl s' → Ω 4 ([some (.inr (.inr 64)), some (.inl (s'.1)), some (.inl (s'.2.1)), some (.inl (s'.2.2))], [], N, X)) (hK1 : ∀ t : Int, out = .inr t → Ω 38 ([none, none, some (.inl t), none], [], N, X)) (hF : f_X12_debtsOf_l4_j30 X N a1 a3 z0 z1 = some out) : Ω 30 ([some (.inr (.inr 64)), some (.inl a1), none, some (.inl a3)], [(.inl z1), (.inl z0)], N, X) := by
  unfold f_X12_debtsOf_l4_j30 at hF
  refine s_iadd hG dX12_debtsOf_30 ?_
  refine s_istore_n hG dX12_debtsOf_31 (by decide) rfl ?_
  refine s_iinc hG dX12_debtsOf_32 (by decide) rfl rfl ?_
  refine s_goto hG 4 dX12_debtsOf_35 (by decide) ?_
  cases hF
  exact hK0 _ rfl
theorem t_X12_debtsOf_b4 {d n0 s0 nF sF : Nat} {X : MX} {N : NN} {Ω : Nat → MS → Prop} {a1 : Int} {a2 : Int} {a3 : Int} (hsk : m_Sk X) (hd : 2 ≤ d) (hG : m_G d yX12_debtsOf.cls yX12_debtsOf.name cX12_debtsOf 4 n0 s0 nF sF Ω) {out : ((Int × Int × Int) ⊕ Int)} (hK0 : ∀ s' : (Int × Int × Int), out = .inl s' → Ω 4 ([some (.inr (.inr 64)), some (.inl (s'.1)), some (.inl (s'.2.1)), some (.inl (s'.2.2))], [], N, X)) (hK1 : ∀ t : Int, out = .inr t → Ω 38 ([none, none, some (.inl t), none], [], N, X)) (hF : b_X12_debtsOf_4 X N a1 a2 a3 = some out) : Ω 4 ([some (.inr (.inr 64)), some (.inl a1), some (.inl a2), some (.inl a3)], [], N, X) := by
  unfold b_X12_debtsOf_4 at hF
  refine s_iload_n hG dX12_debtsOf_4 rfl ?_
  refine s_bipush hG dX12_debtsOf_5 bp_6 ⟨by decide, by decide⟩ ?_
  refine s_icmp_ge hG 38 dX12_debtsOf_7 (by decide) (fun c4 => ?_) (fun c4 => ?_)
  · replace hF := Eq.trans (if_pos c4).symm hF
    refine s_iload_n hG dX12_debtsOf_10 rfl ?_
    refine s_aload_n hG dX12_debtsOf_11 rfl ?_
    refine s_getr (r := 66) hG dX12_debtsOf_12 fl_RX12_13 (sk_k hsk 64 rfl) rfl (sk_R hsk 64 3 rfl) ?_
    refine s_iload_n hG dX12_debtsOf_15 rfl ?_
    refine s_iload_n hG dX12_debtsOf_16 rfl ?_
    obtain ⟨o1, ho1, hF⟩ := bd_some hF
    refine s_callS (d' := d - 1) (args := [.inl a1, .inl a3]) hG (by omega) dX12_debtsOf_17 cs_RX12_452 cw_X12_debtAt rfl (Nat.le_of_ble_eq_true rfl) rfl (t_X12_debtAt hsk (by omega) ho1) ?_
    obtain ⟨g2, hF⟩ := gd_some hF
    refine s_ialdj (j := o1.toNat) hG dX12_debtsOf_20 (sk_K hsk 66 rfl) g2 rfl ?_
    refine s_iconst hG dX12_debtsOf_21 ⟨by decide, by decide⟩ ?_
    refine s_icmp_ne hG 29 dX12_debtsOf_22 (by decide) (fun c3 => ?_) (fun c3 => ?_)
    · replace hF := Eq.trans (if_pos c3).symm hF
      refine s_iconst hG dX12_debtsOf_25 ⟨by decide, by decide⟩ ?_
      refine s_goto hG 30 dX12_debtsOf_26 (by decide) ?_
      refine m_weak (ls1 := [some (.inr (.inr 64)), some (.inl a1), none, some (.inl a3)]) hG ⟨rfl, ⟨rfl, ⟨rfl, trivial⟩⟩⟩ ?_
      exact t_X12_debtsOf_l4_j30 hsk hd hG hK0 hK1 hF
    · replace hF := Eq.trans (if_neg c3).symm hF
      refine s_iconst hG dX12_debtsOf_29 ⟨by decide, by decide⟩ ?_
      refine m_weak (ls1 := [some (.inr (.inr 64)), some (.inl a1), none, some (.inl a3)]) hG ⟨rfl, ⟨rfl, ⟨rfl, trivial⟩⟩⟩ ?_
      exact t_X12_debtsOf_l4_j30 hsk hd hG hK0 hK1 hF
  · replace hF := Eq.trans (if_neg c4).symm hF
    cases hF
    refine m_weak (ls1 := [none, none, some (.inl a2), none]) hG ⟨rfl, trivial⟩ ?_
    exact hK1 _ rfl
theorem t_X12_debtsOf_lp4 {d n0 s0 nF sF : Nat} {X : MX} {N : NN} {Ω : Nat → MS → Prop} {a1 : Int} {a2 : Int} {a3 : Int} (hsk : m_Sk X) (hd : 2 ≤ d) (hG : m_G d yX12_debtsOf.cls yX12_debtsOf.name cX12_debtsOf 4 n0 s0 nF sF Ω) {t : Int} (hK1 : Ω 38 ([none, none, some (.inl t), none], [], N, X)) (hl : lp (fun s => b_X12_debtsOf_4 X N s.1 s.2.1 s.2.2) (a1, a2, a3) = some t) : Ω 4 ([some (.inr (.inr 64)), some (.inl a1), some (.inl a2), some (.inl a3)], [], N, X) := by
  refine lp_ok (P := fun s => Ω 4 ([some (.inr (.inr 64)), some (.inl s.1), some (.inl s.2.1), some (.inl s.2.2)], [], N, X)) (K := fun t => Ω 38 ([none, none, some (.inl t), none], [], N, X)) (fun s out hF hK0 hK1 => ?_) hl hK1
  exact t_X12_debtsOf_b4 hsk hd hG (out := out) (fun s' e => hK0 s' e) (fun t' e => hK1 t' e) hF
theorem t_X12_debtsOf {d : Nat} {X : MX} {N : NN} {a1 : Int} {out : Int} (hsk : m_Sk X) (hd : 2 ≤ d) (hF : f_X12_debtsOf X N a1 = some out) : m_Call d yX12_debtsOf cX12_debtsOf 4 (some .int) [(.inr (.inr 64)), (.inl a1)] N X (some (.inl out)) N X := by
  refine m_mk (ls0 := [some (.inr (.inr 64)), some (.inl a1), none, none]) (by decide) rfl (Nat.le_of_ble_eq_true rfl) (Nat.le_refl _) (Nat.le_refl _) (fun Ω hE => ?_)
  have hG := hE.G
  unfold f_X12_debtsOf at hF
  refine s_iconst hG dX12_debtsOf_0 ⟨by decide, by decide⟩ ?_
  refine s_istore_n hG dX12_debtsOf_1 (by decide) rfl ?_
  refine s_iconst hG dX12_debtsOf_2 ⟨by decide, by decide⟩ ?_
  refine s_istore_n hG dX12_debtsOf_3 (by decide) rfl ?_
  obtain ⟨o5, hlo5, hF⟩ := bd_some hF
  refine t_X12_debtsOf_lp4 hsk hd hG ?_ hlo5
  refine s_iload_n hG dX12_debtsOf_38 rfl ?_
  cases hF
  exact s_iret hE dX12_debtsOf_39 rfl
-- X12_allDebts
theorem t_X12_allDebts_b4 {d n0 s0 nF sF : Nat} {X : MX} {N : NN} {Ω : Nat → MS → Prop} {a1 : Int} {a2 : Int} (hsk : m_Sk X) (hd : 3 ≤ d) (hG : m_G d yX12_allDebts.cls yX12_allDebts.name cX12_allDebts 3 n0 s0 nF sF Ω) {out : ((Int × Int) ⊕ Int)} (hK0 : ∀ s' : (Int × Int), out = .inl s' → Ω 4 ([some (.inr (.inr 64)), some (.inl (s'.1)), some (.inl (s'.2))], [], N, X)) (hK1 : ∀ t : Int, out = .inr t → Ω 24 ([none, some (.inl t), none], [], N, X)) (hF : b_X12_allDebts_4 X N a1 a2 = some out) : Ω 4 ([some (.inr (.inr 64)), some (.inl a1), some (.inl a2)], [], N, X) := by
  unfold b_X12_allDebts_4 at hF
  refine s_iload_n hG dX12_allDebts_4 rfl ?_
  refine s_bipush hG dX12_allDebts_5 bp_6 ⟨by decide, by decide⟩ ?_
  refine s_icmp_ge hG 24 dX12_allDebts_7 (by decide) (fun c2 => ?_) (fun c2 => ?_)
  · replace hF := Eq.trans (if_pos c2).symm hF
    refine s_iload_n hG dX12_allDebts_10 rfl ?_
    refine s_aload_n hG dX12_allDebts_11 rfl ?_
    refine s_iload_n hG dX12_allDebts_12 rfl ?_
    obtain ⟨o1, ho1, hF⟩ := bd_some hF
    refine s_callV (d' := d - 1) (ci := 12) (args := [.inl a2]) hG (by omega) dX12_allDebts_13 cv_RX12_423 cw_X12_debtsOf rfl rfl (sk_k hsk 64 rfl) (Nat.le_of_ble_eq_true rfl) rfl (t_X12_debtsOf hsk (by omega) ho1) ?_
    refine s_iadd hG dX12_allDebts_16 ?_
    refine s_istore_n hG dX12_allDebts_17 (by decide) rfl ?_
    refine s_iinc hG dX12_allDebts_18 (by decide) rfl rfl ?_
    refine s_goto hG 4 dX12_allDebts_21 (by decide) ?_
    cases hF
    exact hK0 _ rfl
  · replace hF := Eq.trans (if_neg c2).symm hF
    cases hF
    refine m_weak (ls1 := [none, some (.inl a1), none]) hG ⟨rfl, trivial⟩ ?_
    exact hK1 _ rfl
theorem t_X12_allDebts_lp4 {d n0 s0 nF sF : Nat} {X : MX} {N : NN} {Ω : Nat → MS → Prop} {a1 : Int} {a2 : Int} (hsk : m_Sk X) (hd : 3 ≤ d) (hG : m_G d yX12_allDebts.cls yX12_allDebts.name cX12_allDebts 3 n0 s0 nF sF Ω) {t : Int} (hK1 : Ω 24 ([none, some (.inl t), none], [], N, X)) (hl : lp (fun s => b_X12_allDebts_4 X N s.1 s.2) (a1, a2) = some t) : Ω 4 ([some (.inr (.inr 64)), some (.inl a1), some (.inl a2)], [], N, X) := by
  refine lp_ok (P := fun s => Ω 4 ([some (.inr (.inr 64)), some (.inl s.1), some (.inl s.2)], [], N, X)) (K := fun t => Ω 24 ([none, some (.inl t), none], [], N, X)) (fun s out hF hK0 hK1 => ?_) hl hK1
  exact t_X12_allDebts_b4 hsk hd hG (out := out) (fun s' e => hK0 s' e) (fun t' e => hK1 t' e) hF
theorem t_X12_allDebts {d : Nat} {X : MX} {N : NN} {out : Int} (hsk : m_Sk X) (hd : 3 ≤ d) (hF : f_X12_allDebts X N = some out) : m_Call d yX12_allDebts cX12_allDebts 3 (some .int) [(.inr (.inr 64))] N X (some (.inl out)) N X := by
  refine m_mk (ls0 := [some (.inr (.inr 64)), none, none]) (by decide) rfl (Nat.le_of_ble_eq_true rfl) (Nat.le_refl _) (Nat.le_refl _) (fun Ω hE => ?_)
  have hG := hE.G
  unfold f_X12_allDebts at hF
  refine s_iconst hG dX12_allDebts_0 ⟨by decide, by decide⟩ ?_
  refine s_istore_n hG dX12_allDebts_1 (by decide) rfl ?_
  refine s_iconst hG dX12_allDebts_2 ⟨by decide, by decide⟩ ?_
  refine s_istore_n hG dX12_allDebts_3 (by decide) rfl ?_
  obtain ⟨o3, hlo3, hF⟩ := bd_some hF
  refine t_X12_allDebts_lp4 hsk hd hG ?_ hlo3
  refine s_iload_n hG dX12_allDebts_24 rfl ?_
  cases hF
  exact s_iret hE dX12_allDebts_25 rfl
-- X12_in
theorem t_X12_in_j18 {d n0 s0 nF sF : Nat} {X : MX} {N : NN} {Ω : Nat → MS → Prop} {z0 : Int} (hsk : m_Sk X) (hd : 1 ≤ d) (hG : m_G d yX12_in.cls yX12_in.name cX12_in 6 n0 s0 nF sF Ω) {out : Int} (hE : m_Gd d yX12_in cX12_in 6 (some .boolean) X (some (.inl out)) N X Ω) (hF : f_X12_in_j18 X N z0 = some out) : Ω 18 ([none, none, none, none, none, none], [(.inl z0)], N, X) := by
  unfold f_X12_in_j18 at hF
  obtain ⟨g3, hF⟩ := gd_some hF
  cases hF
  exact s_zret hE dX12_in_18 rfl g3
theorem t_X12_in_j17 {d n0 s0 nF sF : Nat} {X : MX} {N : NN} {Ω : Nat → MS → Prop} (hsk : m_Sk X) (hd : 1 ≤ d) (hG : m_G d yX12_in.cls yX12_in.name cX12_in 6 n0 s0 nF sF Ω) {out : Int} (hE : m_Gd d yX12_in cX12_in 6 (some .boolean) X (some (.inl out)) N X Ω) (hF : f_X12_in_j17 X N = some out) : Ω 17 ([none, none, none, none, none, none], [], N, X) := by
  unfold f_X12_in_j17 at hF
  refine s_iconst hG dX12_in_17 ⟨by decide, by decide⟩ ?_
  exact t_X12_in_j18 hsk hd hG hE hF
theorem t_X12_in {d : Nat} {X : MX} {N : NN} {a0 : Int} {a2 : Int} {a4 : Int} {out : Int} (hsk : m_Sk X) (hd : 1 ≤ d) (hF : f_X12_in X N a0 a2 a4 = some out) : m_Call d yX12_in cX12_in 6 (some .boolean) [(.inr (.inl a0)), (.inr (.inl a2)), (.inr (.inl a4))] N X (some (.inl out)) N X := by
  refine m_mk (ls0 := [some (.inr (.inl a0)), none, some (.inr (.inl a2)), none, some (.inr (.inl a4)), none]) (by decide) rfl (Nat.le_of_ble_eq_true rfl) (Nat.le_refl _) (Nat.le_refl _) (fun Ω hE => ?_)
  have hG := hE.G
  unfold f_X12_in at hF
  refine s_lload_n hG dX12_in_0 rfl ?_
  refine s_lload_n hG dX12_in_1 rfl ?_
  refine s_lcmp hG dX12_in_2 ?_
  refine s_if_lt hG 17 dX12_in_3 (by decide) (fun c2 => ?_) (fun c2 => ?_)
  · replace hF := Eq.trans (if_pos c2).symm hF
    refine m_weak (ls1 := [none, none, none, none, none, none]) hG trivial ?_
    exact t_X12_in_j17 hsk hd hG hE hF
  · replace hF := Eq.trans (if_neg c2).symm hF
    refine s_lload_n hG dX12_in_6 rfl ?_
    refine s_lload hG dX12_in_7 rfl ?_
    refine s_lcmp hG dX12_in_9 ?_
    refine s_if_gt hG 17 dX12_in_10 (by decide) (fun c1 => ?_) (fun c1 => ?_)
    · replace hF := Eq.trans (if_pos c1).symm hF
      refine m_weak (ls1 := [none, none, none, none, none, none]) hG trivial ?_
      exact t_X12_in_j17 hsk hd hG hE hF
    · replace hF := Eq.trans (if_neg c1).symm hF
      refine s_iconst hG dX12_in_13 ⟨by decide, by decide⟩ ?_
      refine s_goto hG 18 dX12_in_14 (by decide) ?_
      refine m_weak (ls1 := [none, none, none, none, none, none]) hG trivial ?_
      exact t_X12_in_j18 hsk hd hG hE hF
-- X12_isGood
theorem t_X12_isGood {d : Nat} {X : MX} {N : NN} {a1 : Int} {out : Int} (hsk : m_Sk X) (hd : 2 ≤ d) (hF : f_X12_isGood X N a1 = some out) : m_Call d yX12_isGood cX12_isGood 2 (some .boolean) [(.inr (.inr 64)), (.inl a1)] N X (some (.inl out)) N X := by
  refine m_mk (ls0 := [some (.inr (.inr 64)), some (.inl a1)]) (by decide) rfl (Nat.le_of_ble_eq_true rfl) (Nat.le_refl _) (Nat.le_refl _) (fun Ω hE => ?_)
  have hG := hE.G
  unfold f_X12_isGood at hF
  refine s_iload_n hG dX12_isGood_0 rfl ?_
  refine s_i2l hG dX12_isGood_1 ?_
  refine s_lconst (v := 0) hG dX12_isGood_2 rfl ⟨by decide, by decide⟩ ?_
  refine s_aload_n hG dX12_isGood_3 rfl ?_
  refine s_getr (r := 66) hG dX12_isGood_4 fl_RX12_13 (sk_k hsk 64 rfl) rfl (sk_R hsk 64 3 rfl) ?_
  refine s_iconst hG dX12_isGood_7 ⟨by decide, by decide⟩ ?_
  refine s_ialdj (j := 1) hG dX12_isGood_8 (sk_K hsk 66 rfl) ⟨by decide, by decide⟩ rfl ?_
  refine s_i2l hG dX12_isGood_9 ?_
  refine s_lconst (v := 1) hG dX12_isGood_10 rfl ⟨by decide, by decide⟩ ?_
  refine s_lsub hG dX12_isGood_11 ?_
  obtain ⟨o1, ho1, hF⟩ := bd_some hF
  refine s_callS (d' := d - 1) (args := [.inr (.inl a1), .inr (.inl 0), .inr (.inl (m_wl ((N 66 1) - 1)))]) hG (by omega) dX12_isGood_12 cs_RX12_179 cw_X12_in rfl (Nat.le_of_ble_eq_true rfl) rfl (t_X12_in hsk (by omega) ho1) ?_
  obtain ⟨g2, hF⟩ := gd_some hF
  cases hF
  exact s_zret hE dX12_isGood_15 rfl g2
-- X12_isLord
theorem t_X12_isLord {d : Nat} {X : MX} {N : NN} {a1 : Int} {out : Int} (hsk : m_Sk X) (hd : 2 ≤ d) (hF : f_X12_isLord X N a1 = some out) : m_Call d yX12_isLord cX12_isLord 2 (some .boolean) [(.inr (.inr 64)), (.inl a1)] N X (some (.inl out)) N X := by
  refine m_mk (ls0 := [some (.inr (.inr 64)), some (.inl a1)]) (by decide) rfl (Nat.le_of_ble_eq_true rfl) (Nat.le_refl _) (Nat.le_refl _) (fun Ω hE => ?_)
  have hG := hE.G
  unfold f_X12_isLord at hF
  refine s_iload_n hG dX12_isLord_0 rfl ?_
  refine s_i2l hG dX12_isLord_1 ?_
  refine s_lconst (v := 0) hG dX12_isLord_2 rfl ⟨by decide, by decide⟩ ?_
  refine s_aload_n hG dX12_isLord_3 rfl ?_
  refine s_getr (r := 66) hG dX12_isLord_4 fl_RX12_13 (sk_k hsk 64 rfl) rfl (sk_R hsk 64 3 rfl) ?_
  refine s_iconst hG dX12_isLord_7 ⟨by decide, by decide⟩ ?_
  refine s_ialdj (j := 0) hG dX12_isLord_8 (sk_K hsk 66 rfl) ⟨by decide, by decide⟩ rfl ?_
  refine s_i2l hG dX12_isLord_9 ?_
  refine s_lconst (v := 1) hG dX12_isLord_10 rfl ⟨by decide, by decide⟩ ?_
  refine s_lsub hG dX12_isLord_11 ?_
  obtain ⟨o1, ho1, hF⟩ := bd_some hF
  refine s_callS (d' := d - 1) (args := [.inr (.inl a1), .inr (.inl 0), .inr (.inl (m_wl ((N 66 0) - 1)))]) hG (by omega) dX12_isLord_12 cs_RX12_179 cw_X12_in rfl (Nat.le_of_ble_eq_true rfl) rfl (t_X12_in hsk (by omega) ho1) ?_
  obtain ⟨g2, hF⟩ := gd_some hF
  cases hF
  exact s_zret hE dX12_isLord_15 rfl g2
-- X12_ofGood
theorem t_X12_ofGood {d : Nat} {X : MX} {N : NN} {a1 : Int} {a2 : Int} {out : Int} (hsk : m_Sk X) (hd : 1 ≤ d) (hF : f_X12_ofGood X N a1 a2 = some out) : m_Call d yX12_ofGood cX12_ofGood 3 (some .int) [(.inr (.inr 64)), (.inl a1), (.inl a2)] N X (some (.inl out)) N X := by
  refine m_mk (ls0 := [some (.inr (.inr 64)), some (.inl a1), some (.inl a2)]) (by decide) rfl (Nat.le_of_ble_eq_true rfl) (Nat.le_refl _) (Nat.le_refl _) (fun Ω hE => ?_)
  have hG := hE.G
  unfold f_X12_ofGood at hF
  refine s_aload_n hG dX12_ofGood_0 rfl ?_
  refine s_getr (r := 66) hG dX12_ofGood_1 fl_RX12_13 (sk_k hsk 64 rfl) rfl (sk_R hsk 64 3 rfl) ?_
  refine s_bipush hG dX12_ofGood_4 bp_45 ⟨by decide, by decide⟩ ?_
  refine s_bipush hG dX12_ofGood_6 bp_6 ⟨by decide, by decide⟩ ?_
  refine s_iload_n hG dX12_ofGood_8 rfl ?_
  refine s_imul hG dX12_ofGood_9 ?_
  refine s_iadd hG dX12_ofGood_10 ?_
  refine s_iload_n hG dX12_ofGood_11 rfl ?_
  refine s_iadd hG dX12_ofGood_12 ?_
  obtain ⟨g1, hF⟩ := gd_some hF
  refine s_ialdj (j := (m_w ((m_w (45 + (m_w (6 * a1)))) + a2)).toNat) hG dX12_ofGood_13 (sk_K hsk 66 rfl) g1 rfl ?_
  cases hF
  exact s_iret hE dX12_ofGood_14 rfl
-- X12_ofLord
theorem t_X12_ofLord {d : Nat} {X : MX} {N : NN} {a1 : Int} {a2 : Int} {out : Int} (hsk : m_Sk X) (hd : 1 ≤ d) (hF : f_X12_ofLord X N a1 a2 = some out) : m_Call d yX12_ofLord cX12_ofLord 3 (some .int) [(.inr (.inr 64)), (.inl a1), (.inl a2)] N X (some (.inl out)) N X := by
  refine m_mk (ls0 := [some (.inr (.inr 64)), some (.inl a1), some (.inl a2)]) (by decide) rfl (Nat.le_of_ble_eq_true rfl) (Nat.le_refl _) (Nat.le_refl _) (fun Ω hE => ?_)
  have hG := hE.G
  unfold f_X12_ofLord at hF
  refine s_aload_n hG dX12_ofLord_0 rfl ?_
  refine s_getr (r := 66) hG dX12_ofLord_1 fl_RX12_13 (sk_k hsk 64 rfl) rfl (sk_R hsk 64 3 rfl) ?_
  refine s_bipush hG dX12_ofLord_4 bp_9 ⟨by decide, by decide⟩ ?_
  refine s_bipush hG dX12_ofLord_6 bp_6 ⟨by decide, by decide⟩ ?_
  refine s_iload_n hG dX12_ofLord_8 rfl ?_
  refine s_imul hG dX12_ofLord_9 ?_
  refine s_iadd hG dX12_ofLord_10 ?_
  refine s_iload_n hG dX12_ofLord_11 rfl ?_
  refine s_iadd hG dX12_ofLord_12 ?_
  obtain ⟨g1, hF⟩ := gd_some hF
  refine s_ialdj (j := (m_w ((m_w (9 + (m_w (6 * a1)))) + a2)).toNat) hG dX12_ofLord_13 (sk_K hsk 66 rfl) g1 rfl ?_
  cases hF
  exact s_iret hE dX12_ofLord_14 rfl
-- X12_askedOf
theorem t_X12_askedOf_j63 {d n0 s0 nF sF : Nat} {X : MX} {N : NN} {Ω : Nat → MS → Prop} {z0 : Int} (hsk : m_Sk X) (hd : 3 ≤ d) (hG : m_G d yX12_askedOf.cls yX12_askedOf.name cX12_askedOf 3 n0 s0 nF sF Ω) {out : Int} (hE : m_Gd d yX12_askedOf cX12_askedOf 3 (some .long) X (some (.inr (.inl out))) N X Ω) (hF : f_X12_askedOf_j63 X N z0 = some out) : Ω 63 ([none, none, none], [(.inr (.inl z0))], N, X) := by
  unfold f_X12_askedOf_j63 at hF
  cases hF
  exact s_lret hE dX12_askedOf_63 rfl
theorem t_X12_askedOf_j24 {d n0 s0 nF sF : Nat} {X : MX} {N : NN} {Ω : Nat → MS → Prop} {z0 : Int} (hsk : m_Sk X) (hd : 3 ≤ d) (hG : m_G d yX12_askedOf.cls yX12_askedOf.name cX12_askedOf 3 n0 s0 nF sF Ω) {out : Int} (hE : m_Gd d yX12_askedOf cX12_askedOf 3 (some .long) X (some (.inr (.inl out))) N X Ω) (hF : f_X12_askedOf_j24 X N z0 = some out) : Ω 24 ([none, none, none], [(.inl z0)], N, X) := by
  unfold f_X12_askedOf_j24 at hF
  refine s_i2l hG dX12_askedOf_24 ?_
  refine s_goto hG 63 dX12_askedOf_25 (by decide) ?_
  exact t_X12_askedOf_j63 hsk hd hG hE hF
theorem t_X12_askedOf {d : Nat} {X : MX} {N : NN} {a1 : Int} {a2 : Int} {out : Int} (hsk : m_Sk X) (hd : 3 ≤ d) (hF : f_X12_askedOf X N a1 a2 = some out) : m_Call d yX12_askedOf cX12_askedOf 3 (some .long) [(.inr (.inr 64)), (.inl a1), (.inl a2)] N X (some (.inr (.inl out))) N X := by
  refine m_mk (ls0 := [some (.inr (.inr 64)), some (.inl a1), some (.inl a2)]) (by decide) rfl (Nat.le_of_ble_eq_true rfl) (Nat.le_refl _) (Nat.le_refl _) (fun Ω hE => ?_)
  have hG := hE.G
  unfold f_X12_askedOf at hF
  refine s_iload_n hG dX12_askedOf_0 rfl ?_
  refine s_bipush hG dX12_askedOf_1 bp_6 ⟨by decide, by decide⟩ ?_
  refine s_icmp_ne hG 28 dX12_askedOf_3 (by decide) (fun c9 => ?_) (fun c9 => ?_)
  · replace hF := Eq.trans (if_pos c9).symm hF
    refine s_aload_n hG dX12_askedOf_6 rfl ?_
    refine s_iload_n hG dX12_askedOf_7 rfl ?_
    obtain ⟨o1, ho1, hF⟩ := bd_some hF
    refine s_callV (d' := d - 1) (ci := 12) (args := [.inl a2]) hG (by omega) dX12_askedOf_8 cv_RX12_225 cw_X12_isGood rfl rfl (sk_k hsk 64 rfl) (Nat.le_of_ble_eq_true rfl) rfl (t_X12_isGood hsk (by omega) ho1) ?_
    refine s_if_eq hG 23 dX12_askedOf_11 (by decide) (fun c3 => ?_) (fun c3 => ?_)
    · replace hF := Eq.trans (if_pos c3).symm hF
      refine s_iconst hG dX12_askedOf_23 ⟨by decide, by decide⟩ ?_
      refine m_weak (ls1 := [none, none, none]) hG trivial ?_
      exact t_X12_askedOf_j24 hsk hd hG hE hF
    · replace hF := Eq.trans (if_neg c3).symm hF
      refine s_aload_n hG dX12_askedOf_14 rfl ?_
      refine s_iload_n hG dX12_askedOf_15 rfl ?_
      refine s_iconst hG dX12_askedOf_16 ⟨by decide, by decide⟩ ?_
      obtain ⟨o2, ho2, hF⟩ := bd_some hF
      refine s_callV (d' := d - 1) (ci := 12) (args := [.inl a2, .inl 0]) hG (by omega) dX12_askedOf_17 cv_RX12_190 cw_X12_ofGood rfl rfl (sk_k hsk 64 rfl) (Nat.le_of_ble_eq_true rfl) rfl (t_X12_ofGood hsk (by omega) ho2) ?_
      refine s_goto hG 24 dX12_askedOf_20 (by decide) ?_
      refine m_weak (ls1 := [none, none, none]) hG trivial ?_
      exact t_X12_askedOf_j24 hsk hd hG hE hF
  · replace hF := Eq.trans (if_neg c9).symm hF
    refine s_aload_n hG dX12_askedOf_28 rfl ?_
    refine s_iload_n hG dX12_askedOf_29 rfl ?_
    obtain ⟨o4, ho4, hF⟩ := bd_some hF
    refine s_callV (d' := d - 1) (ci := 12) (args := [.inl a2]) hG (by omega) dX12_askedOf_30 cv_RX12_198 cw_X12_isLord rfl rfl (sk_k hsk 64 rfl) (Nat.le_of_ble_eq_true rfl) rfl (t_X12_isLord hsk (by omega) ho4) ?_
    refine s_if_ne hG 42 dX12_askedOf_33 (by decide) (fun c8 => ?_) (fun c8 => ?_)
    · replace hF := Eq.trans (if_pos c8).symm hF
      refine s_ldc2 hG dX12_askedOf_36 kc_RX12_276 ⟨by decide, by decide⟩ ?_
      refine s_goto hG 63 dX12_askedOf_39 (by decide) ?_
      refine m_weak (ls1 := [none, none, none]) hG trivial ?_
      exact t_X12_askedOf_j63 hsk hd hG hE hF
    · replace hF := Eq.trans (if_neg c8).symm hF
      refine s_iload_n hG dX12_askedOf_42 rfl ?_
      refine s_iconst hG dX12_askedOf_43 ⟨by decide, by decide⟩ ?_
      refine s_icmp_ne hG 57 dX12_askedOf_44 (by decide) (fun c7 => ?_) (fun c7 => ?_)
      · replace hF := Eq.trans (if_pos c7).symm hF
        refine s_aload_n hG dX12_askedOf_47 rfl ?_
        refine s_iload_n hG dX12_askedOf_48 rfl ?_
        refine s_iconst hG dX12_askedOf_49 ⟨by decide, by decide⟩ ?_
        obtain ⟨o5, ho5, hF⟩ := bd_some hF
        refine s_callV (d' := d - 1) (ci := 12) (args := [.inl a2, .inl 0]) hG (by omega) dX12_askedOf_50 cv_RX12_204 cw_X12_ofLord rfl rfl (sk_k hsk 64 rfl) (Nat.le_of_ble_eq_true rfl) rfl (t_X12_ofLord hsk (by omega) ho5) ?_
        refine s_i2l hG dX12_askedOf_53 ?_
        refine s_goto hG 63 dX12_askedOf_54 (by decide) ?_
        refine m_weak (ls1 := [none, none, none]) hG trivial ?_
        exact t_X12_askedOf_j63 hsk hd hG hE hF
      · replace hF := Eq.trans (if_neg c7).symm hF
        refine s_aload_n hG dX12_askedOf_57 rfl ?_
        refine s_iload_n hG dX12_askedOf_58 rfl ?_
        obtain ⟨o6, ho6, hF⟩ := bd_some hF
        refine s_callV (d' := d - 1) (ci := 12) (args := [.inl a2]) hG (by omega) dX12_askedOf_59 cv_RX12_423 cw_X12_debtsOf rfl rfl (sk_k hsk 64 rfl) (Nat.le_of_ble_eq_true rfl) rfl (t_X12_debtsOf hsk (by omega) ho6) ?_
        refine s_i2l hG dX12_askedOf_62 ?_
        refine m_weak (ls1 := [none, none, none]) hG trivial ?_
        exact t_X12_askedOf_j63 hsk hd hG hE hF
-- X12_reckon
theorem t_X12_reckon_j90 {d n0 s0 nF sF : Nat} {X : MX} {Ω : Nat → MS → Prop} {N : NN} {z0 : Int} (hsk : m_Sk X) (hd : 1 ≤ d) (hG : m_G d yX12_reckon.cls yX12_reckon.name cX12_reckon 6 n0 s0 nF sF Ω) {out : (Int × NN)} (hE : m_Gd d yX12_reckon cX12_reckon 6 (some .long) X (some (.inr (.inl out.1))) out.2 X Ω) (hF : f_X12_reckon_j90 X N z0 = some out) : Ω 90 ([none, none, none, none, none, none], [(.inr (.inl z0))], N, X) := by
  unfold f_X12_reckon_j90 at hF
  cases hF
  exact s_lret hE dX12_reckon_90 rfl
theorem t_X12_reckon_j72 {d n0 s0 nF sF : Nat} {X : MX} {Ω : Nat → MS → Prop} {N : NN} {a2 : Int} {a4 : Int} {z1 : Int} (hsk : m_Sk X) (hd : 1 ≤ d) (hG : m_G d yX12_reckon.cls yX12_reckon.name cX12_reckon 6 n0 s0 nF sF Ω) {out : (Int × NN)} (hE : m_Gd d yX12_reckon cX12_reckon 6 (some .long) X (some (.inr (.inl out.1))) out.2 X Ω) (hF : f_X12_reckon_j72 X N a2 a4 z1 = some out) : Ω 72 ([some (.inr (.inr 64)), none, some (.inr (.inl a2)), none, some (.inr (.inl a4)), none], [(.inl z1), (.inr (.inr 64))], N, X) := by
  unfold f_X12_reckon_j72 at hF
  obtain ⟨g14, hF⟩ := gd_some hF
  refine s_putz hG dX12_reckon_72 fl_RX12_402 (fun h => by cases h) (sk_k hsk 64 rfl) rfl g14 ?_
  refine s_aload_n hG dX12_reckon_75 rfl ?_
  refine s_getz hG dX12_reckon_76 fl_RX12_402 (sk_k hsk 64 rfl) rfl ?_
  refine s_if_eq hG 86 dX12_reckon_79 (by decide) (fun c17 => ?_) (fun c17 => ?_)
  · replace hF := Eq.trans (if_pos c17).symm hF
    refine s_lload_n hG dX12_reckon_86 rfl ?_
    refine s_lload hG dX12_reckon_87 rfl ?_
    obtain ⟨g16, hF⟩ := gd_some hF
    refine s_ldiv hG dX12_reckon_89 g16 ?_
    refine m_weak (ls1 := [none, none, none, none, none, none]) hG trivial ?_
    exact t_X12_reckon_j90 hsk hd hG hE hF
  · replace hF := Eq.trans (if_neg c17).symm hF
    refine s_lconst (v := 0) hG dX12_reckon_82 rfl ⟨by decide, by decide⟩ ?_
    refine s_goto hG 90 dX12_reckon_83 (by decide) ?_
    refine m_weak (ls1 := [none, none, none, none, none, none]) hG trivial ?_
    exact t_X12_reckon_j90 hsk hd hG hE hF
theorem t_X12_reckon_j122 {d n0 s0 nF sF : Nat} {X : MX} {Ω : Nat → MS → Prop} {N : NN} {z0 : Int} (hsk : m_Sk X) (hd : 1 ≤ d) (hG : m_G d yX12_reckon.cls yX12_reckon.name cX12_reckon 6 n0 s0 nF sF Ω) {out : (Int × NN)} (hE : m_Gd d yX12_reckon cX12_reckon 6 (some .long) X (some (.inr (.inl out.1))) out.2 X Ω) (hF : f_X12_reckon_j122 X N z0 = some out) : Ω 122 ([none, none, none, none, none, none], [(.inr (.inl z0))], N, X) := by
  unfold f_X12_reckon_j122 at hF
  cases hF
  exact s_lret hE dX12_reckon_122 rfl
theorem t_X12_reckon_j104 {d n0 s0 nF sF : Nat} {X : MX} {Ω : Nat → MS → Prop} {N : NN} {a2 : Int} {a4 : Int} {z1 : Int} (hsk : m_Sk X) (hd : 1 ≤ d) (hG : m_G d yX12_reckon.cls yX12_reckon.name cX12_reckon 6 n0 s0 nF sF Ω) {out : (Int × NN)} (hE : m_Gd d yX12_reckon cX12_reckon 6 (some .long) X (some (.inr (.inl out.1))) out.2 X Ω) (hF : f_X12_reckon_j104 X N a2 a4 z1 = some out) : Ω 104 ([some (.inr (.inr 64)), none, some (.inr (.inl a2)), none, some (.inr (.inl a4)), none], [(.inl z1), (.inr (.inr 64))], N, X) := by
  unfold f_X12_reckon_j104 at hF
  obtain ⟨g18, hF⟩ := gd_some hF
  refine s_putz hG dX12_reckon_104 fl_RX12_402 (fun h => by cases h) (sk_k hsk 64 rfl) rfl g18 ?_
  refine s_aload_n hG dX12_reckon_107 rfl ?_
  refine s_getz hG dX12_reckon_108 fl_RX12_402 (sk_k hsk 64 rfl) rfl ?_
  refine s_if_eq hG 118 dX12_reckon_111 (by decide) (fun c21 => ?_) (fun c21 => ?_)
  · replace hF := Eq.trans (if_pos c21).symm hF
    refine s_lload_n hG dX12_reckon_118 rfl ?_
    refine s_lload hG dX12_reckon_119 rfl ?_
    obtain ⟨g20, hF⟩ := gd_some hF
    refine s_lrem hG dX12_reckon_121 g20 ?_
    refine m_weak (ls1 := [none, none, none, none, none, none]) hG trivial ?_
    exact t_X12_reckon_j122 hsk hd hG hE hF
  · replace hF := Eq.trans (if_neg c21).symm hF
    refine s_lconst (v := 0) hG dX12_reckon_114 rfl ⟨by decide, by decide⟩ ?_
    refine s_goto hG 122 dX12_reckon_115 (by decide) ?_
    refine m_weak (ls1 := [none, none, none, none, none, none]) hG trivial ?_
    exact t_X12_reckon_j122 hsk hd hG hE hF
theorem t_X12_reckon_j135 {d n0 s0 nF sF : Nat} {X : MX} {Ω : Nat → MS → Prop} {N : NN} {z0 : Int} (hsk : m_Sk X) (hd : 1 ≤ d) (hG : m_G d yX12_reckon.cls yX12_reckon.name cX12_reckon 6 n0 s0 nF sF Ω) {out : (Int × NN)} (hE : m_Gd d yX12_reckon cX12_reckon 6 (some .long) X (some (.inr (.inl out.1))) out.2 X Ω) (hF : f_X12_reckon_j135 X N z0 = some out) : Ω 135 ([none, none, none, none, none, none], [(.inr (.inl z0))], N, X) := by
  unfold f_X12_reckon_j135 at hF
  cases hF
  exact s_lret hE dX12_reckon_135 rfl
theorem t_X12_reckon_j148 {d n0 s0 nF sF : Nat} {X : MX} {Ω : Nat → MS → Prop} {N : NN} {z0 : Int} (hsk : m_Sk X) (hd : 1 ≤ d) (hG : m_G d yX12_reckon.cls yX12_reckon.name cX12_reckon 6 n0 s0 nF sF Ω) {out : (Int × NN)} (hE : m_Gd d yX12_reckon cX12_reckon 6 (some .long) X (some (.inr (.inl out.1))) out.2 X Ω) (hF : f_X12_reckon_j148 X N z0 = some out) : Ω 148 ([none, none, none, none, none, none], [(.inr (.inl z0))], N, X) := by
  unfold f_X12_reckon_j148 at hF
  cases hF
  exact s_lret hE dX12_reckon_148 rfl
theorem t_X12_reckon_j161 {d n0 s0 nF sF : Nat} {X : MX} {Ω : Nat → MS → Prop} {N : NN} {z0 : Int} (hsk : m_Sk X) (hd : 1 ≤ d) (hG : m_G d yX12_reckon.cls yX12_reckon.name cX12_reckon 6 n0 s0 nF sF Ω) {out : (Int × NN)} (hE : m_Gd d yX12_reckon cX12_reckon 6 (some .long) X (some (.inr (.inl out.1))) out.2 X Ω) (hF : f_X12_reckon_j161 X N z0 = some out) : Ω 161 ([none, none, none, none, none, none], [(.inr (.inl z0))], N, X) := by
  unfold f_X12_reckon_j161 at hF
  cases hF
  exact s_lret hE dX12_reckon_161 rfl
theorem t_X12_reckon {d : Nat} {X : MX} {N : NN} {a1 : Int} {a2 : Int} {a4 : Int} {out : (Int × NN)} (hsk : m_Sk X) (hd : 1 ≤ d) (hF : f_X12_reckon X N a1 a2 a4 = some out) : m_Call d yX12_reckon cX12_reckon 6 (some .long) [(.inr (.inr 64)), (.inl a1), (.inr (.inl a2)), (.inr (.inl a4))] N X (some (.inr (.inl out.1))) out.2 X := by
  refine m_mk (ls0 := [some (.inr (.inr 64)), some (.inl a1), some (.inr (.inl a2)), none, some (.inr (.inl a4)), none]) (by decide) rfl (Nat.le_of_ble_eq_true rfl) (Nat.le_refl _) (Nat.le_refl _) (fun Ω hE => ?_)
  have hG := hE.G
  unfold f_X12_reckon at hF
  refine s_iload_n hG dX12_reckon_0 rfl ?_
  by_cases c13 : a1 = 20
  · replace hF := Eq.trans (if_pos c13).symm hF
    refine s_tableIn hG (off := 43) 44 dX12_reckon_1 (by omega) (by omega) (by rw [c13]; rfl) (by decide) ?_
    refine s_lload_n hG dX12_reckon_44 rfl ?_
    refine s_lload hG dX12_reckon_45 rfl ?_
    refine s_ladd hG dX12_reckon_47 ?_
    cases hF
    exact s_lret hE dX12_reckon_48 rfl
  · replace hF := Eq.trans (if_neg c13).symm hF
    by_cases c12 : a1 = 21
    · replace hF := Eq.trans (if_pos c12).symm hF
      refine s_tableIn hG (off := 48) 49 dX12_reckon_1 (by omega) (by omega) (by rw [c12]; rfl) (by decide) ?_
      refine s_lload_n hG dX12_reckon_49 rfl ?_
      refine s_lload hG dX12_reckon_50 rfl ?_
      refine s_lsub hG dX12_reckon_52 ?_
      cases hF
      exact s_lret hE dX12_reckon_53 rfl
    · replace hF := Eq.trans (if_neg c12).symm hF
      by_cases c11 : a1 = 22
      · replace hF := Eq.trans (if_pos c11).symm hF
        refine s_tableIn hG (off := 53) 54 dX12_reckon_1 (by omega) (by omega) (by rw [c11]; rfl) (by decide) ?_
        refine s_lload_n hG dX12_reckon_54 rfl ?_
        refine s_lload hG dX12_reckon_55 rfl ?_
        refine s_lmul hG dX12_reckon_57 ?_
        cases hF
        exact s_lret hE dX12_reckon_58 rfl
      · replace hF := Eq.trans (if_neg c11).symm hF
        by_cases c10 : a1 = 23
        · replace hF := Eq.trans (if_pos c10).symm hF
          refine s_tableIn hG (off := 58) 59 dX12_reckon_1 (by omega) (by omega) (by rw [c10]; rfl) (by decide) ?_
          refine s_aload_n hG dX12_reckon_59 rfl ?_
          refine s_lload hG dX12_reckon_60 rfl ?_
          refine s_lconst (v := 0) hG dX12_reckon_62 rfl ⟨by decide, by decide⟩ ?_
          refine s_lcmp hG dX12_reckon_63 ?_
          refine s_if_ne hG 71 dX12_reckon_64 (by decide) (fun c1 => ?_) (fun c1 => ?_)
          · replace hF := Eq.trans (if_pos c1).symm hF
            refine s_iconst hG dX12_reckon_67 ⟨by decide, by decide⟩ ?_
            refine s_goto hG 72 dX12_reckon_68 (by decide) ?_
            refine m_weak (ls1 := [some (.inr (.inr 64)), none, some (.inr (.inl a2)), none, some (.inr (.inl a4)), none]) hG ⟨rfl, ⟨rfl, ⟨rfl, trivial⟩⟩⟩ ?_
            exact t_X12_reckon_j72 hsk hd hG hE hF
          · replace hF := Eq.trans (if_neg c1).symm hF
            refine s_iconst hG dX12_reckon_71 ⟨by decide, by decide⟩ ?_
            refine m_weak (ls1 := [some (.inr (.inr 64)), none, some (.inr (.inl a2)), none, some (.inr (.inl a4)), none]) hG ⟨rfl, ⟨rfl, ⟨rfl, trivial⟩⟩⟩ ?_
            exact t_X12_reckon_j72 hsk hd hG hE hF
        · replace hF := Eq.trans (if_neg c10).symm hF
          by_cases c9 : a1 = 24
          · replace hF := Eq.trans (if_pos c9).symm hF
            refine s_tableIn hG (off := 90) 91 dX12_reckon_1 (by omega) (by omega) (by rw [c9]; rfl) (by decide) ?_
            refine s_aload_n hG dX12_reckon_91 rfl ?_
            refine s_lload hG dX12_reckon_92 rfl ?_
            refine s_lconst (v := 0) hG dX12_reckon_94 rfl ⟨by decide, by decide⟩ ?_
            refine s_lcmp hG dX12_reckon_95 ?_
            refine s_if_ne hG 103 dX12_reckon_96 (by decide) (fun c2 => ?_) (fun c2 => ?_)
            · replace hF := Eq.trans (if_pos c2).symm hF
              refine s_iconst hG dX12_reckon_99 ⟨by decide, by decide⟩ ?_
              refine s_goto hG 104 dX12_reckon_100 (by decide) ?_
              refine m_weak (ls1 := [some (.inr (.inr 64)), none, some (.inr (.inl a2)), none, some (.inr (.inl a4)), none]) hG ⟨rfl, ⟨rfl, ⟨rfl, trivial⟩⟩⟩ ?_
              exact t_X12_reckon_j104 hsk hd hG hE hF
            · replace hF := Eq.trans (if_neg c2).symm hF
              refine s_iconst hG dX12_reckon_103 ⟨by decide, by decide⟩ ?_
              refine m_weak (ls1 := [some (.inr (.inr 64)), none, some (.inr (.inl a2)), none, some (.inr (.inl a4)), none]) hG ⟨rfl, ⟨rfl, ⟨rfl, trivial⟩⟩⟩ ?_
              exact t_X12_reckon_j104 hsk hd hG hE hF
          · replace hF := Eq.trans (if_neg c9).symm hF
            by_cases c8 : a1 = 25
            · replace hF := Eq.trans (if_pos c8).symm hF
              refine s_tableIn hG (off := 122) 123 dX12_reckon_1 (by omega) (by omega) (by rw [c8]; rfl) (by decide) ?_
              refine s_lload_n hG dX12_reckon_123 rfl ?_
              refine s_lload hG dX12_reckon_124 rfl ?_
              refine s_lcmp hG dX12_reckon_126 ?_
              refine s_if_ge hG 134 dX12_reckon_127 (by decide) (fun c3 => ?_) (fun c3 => ?_)
              · replace hF := Eq.trans (if_pos c3).symm hF
                refine s_lconst (v := 1) hG dX12_reckon_130 rfl ⟨by decide, by decide⟩ ?_
                refine s_goto hG 135 dX12_reckon_131 (by decide) ?_
                refine m_weak (ls1 := [none, none, none, none, none, none]) hG trivial ?_
                exact t_X12_reckon_j135 hsk hd hG hE hF
              · replace hF := Eq.trans (if_neg c3).symm hF
                refine s_lconst (v := 0) hG dX12_reckon_134 rfl ⟨by decide, by decide⟩ ?_
                refine m_weak (ls1 := [none, none, none, none, none, none]) hG trivial ?_
                exact t_X12_reckon_j135 hsk hd hG hE hF
            · replace hF := Eq.trans (if_neg c8).symm hF
              by_cases c7 : a1 = 26
              · replace hF := Eq.trans (if_pos c7).symm hF
                refine s_tableIn hG (off := 135) 136 dX12_reckon_1 (by omega) (by omega) (by rw [c7]; rfl) (by decide) ?_
                refine s_lload_n hG dX12_reckon_136 rfl ?_
                refine s_lload hG dX12_reckon_137 rfl ?_
                refine s_lcmp hG dX12_reckon_139 ?_
                refine s_if_le hG 147 dX12_reckon_140 (by decide) (fun c4 => ?_) (fun c4 => ?_)
                · replace hF := Eq.trans (if_pos c4).symm hF
                  refine s_lconst (v := 1) hG dX12_reckon_143 rfl ⟨by decide, by decide⟩ ?_
                  refine s_goto hG 148 dX12_reckon_144 (by decide) ?_
                  refine m_weak (ls1 := [none, none, none, none, none, none]) hG trivial ?_
                  exact t_X12_reckon_j148 hsk hd hG hE hF
                · replace hF := Eq.trans (if_neg c4).symm hF
                  refine s_lconst (v := 0) hG dX12_reckon_147 rfl ⟨by decide, by decide⟩ ?_
                  refine m_weak (ls1 := [none, none, none, none, none, none]) hG trivial ?_
                  exact t_X12_reckon_j148 hsk hd hG hE hF
              · replace hF := Eq.trans (if_neg c7).symm hF
                refine s_tableOut hG 149 dX12_reckon_1 (by omega) (by decide) ?_
                refine s_lload_n hG dX12_reckon_149 rfl ?_
                refine s_lload hG dX12_reckon_150 rfl ?_
                refine s_lcmp hG dX12_reckon_152 ?_
                refine s_if_ne hG 160 dX12_reckon_153 (by decide) (fun c5 => ?_) (fun c5 => ?_)
                · replace hF := Eq.trans (if_pos c5).symm hF
                  refine s_lconst (v := 1) hG dX12_reckon_156 rfl ⟨by decide, by decide⟩ ?_
                  refine s_goto hG 161 dX12_reckon_157 (by decide) ?_
                  refine m_weak (ls1 := [none, none, none, none, none, none]) hG trivial ?_
                  exact t_X12_reckon_j161 hsk hd hG hE hF
                · replace hF := Eq.trans (if_neg c5).symm hF
                  refine s_lconst (v := 0) hG dX12_reckon_160 rfl ⟨by decide, by decide⟩ ?_
                  refine m_weak (ls1 := [none, none, none, none, none, none]) hG trivial ?_
                  exact t_X12_reckon_j161 hsk hd hG hE hF
-- X12_reckonAll
theorem t_X12_reckonAll_l10_j296 {d n0 s0 nF sF : Nat} {X : MX} {Ω : Nat → MS → Prop} {N : NN} {a2 : Int} {a3 : Int} {a4 : Int} {a6 : Int} {z0 : Int} {z1 : Int} (hsk : m_Sk X) (hd : 4 ≤ d) (hG : m_G d yX12_reckonAll.cls yX12_reckonAll.name cX12_reckonAll 7 n0 s0 nF sF Ω) {out : ((NN × Int × Int × Int) ⊕ (NN × Int))} (hK0 : ∀ s' : (NN × Int × Int × Int), out = .inl s' → Ω 10 ([some (.inr (.inr 64)), none, some (.inl (s'.2.1)), some (.inl (s'.2.2.1)), some (.inl (s'.2.2.2)), none, none], [], s'.1, X)) (hK1 : ∀ t : (NN × Int), out = .inr t → Ω 313 ([some (.inr (.inr 64)), none, none, some (.inl t.2), none, none, none], [], t.1, X)) (hF : f_X12_reckonAll_l10_j296 X N a2 a3 a4 a6 z0 z1 = some out) : Ω 296 ([some (.inr (.inr 64)), none, some (.inl a2), some (.inl a3), some (.inl a4), none, some (.inl a6)], [(.inr (.inl z1)), (.inr (.inl z0))], N, X) := by
  unfold f_X12_reckonAll_l10_j296 at hF
  refine s_lcmp hG dX12_reckonAll_296 ?_
  refine s_if_ne hG 307 dX12_reckonAll_297 (by decide) (fun c37 => ?_) (fun c37 => ?_)
  · replace hF := Eq.trans (if_pos c37).symm hF
    refine s_iload hG dX12_reckonAll_300 rfl ?_
    refine s_istore hG dX12_reckonAll_302 (by decide) rfl ?_
    refine s_goto hG 310 dX12_reckonAll_304 (by decide) ?_
    refine s_goto hG 10 dX12_reckonAll_310 (by decide) ?_
    cases hF
    refine m_weak (ls1 := [some (.inr (.inr 64)), none, some (.inl a2), some (.inl a3), some (.inl a6), none, none]) hG ⟨rfl, ⟨rfl, ⟨rfl, ⟨rfl, trivial⟩⟩⟩⟩ ?_
    exact hK0 _ rfl
  · replace hF := Eq.trans (if_neg c37).symm hF
    refine s_iinc hG dX12_reckonAll_307 (by decide) rfl rfl ?_
    refine s_goto hG 10 dX12_reckonAll_310 (by decide) ?_
    cases hF
    refine m_weak (ls1 := [some (.inr (.inr 64)), none, some (.inl a2), some (.inl (m_w (a3 + (-1)))), some (.inl a4), none, none]) hG ⟨rfl, ⟨rfl, ⟨rfl, ⟨rfl, trivial⟩⟩⟩⟩ ?_
    exact hK0 _ rfl
theorem t_X12_reckonAll_l10_j242 {d n0 s0 nF sF : Nat} {X : MX} {Ω : Nat → MS → Prop} {N : NN} {a2 : Int} {a3 : Int} {a4 : Int} {z1 : Int} (hsk : m_Sk X) (hd : 4 ≤ d) (hG : m_G d yX12_reckonAll.cls yX12_reckonAll.name cX12_reckonAll 7 n0 s0 nF sF Ω) {out : ((NN × Int × Int × Int) ⊕ (NN × Int))} (hK0 : ∀ s' : (NN × Int × Int × Int), out = .inl s' → Ω 10 ([some (.inr (.inr 64)), none, some (.inl (s'.2.1)), some (.inl (s'.2.2.1)), some (.inl (s'.2.2.2)), none, none], [], s'.1, X)) (hK1 : ∀ t : (NN × Int), out = .inr t → Ω 313 ([some (.inr (.inr 64)), none, none, some (.inl t.2), none, none, none], [], t.1, X)) (hF : f_X12_reckonAll_l10_j242 X N a2 a3 a4 z1 = some out) : Ω 242 ([some (.inr (.inr 64)), none, some (.inl a2), some (.inl a3), some (.inl a4), none, none], [(.inl z1), (.inr (.inr 64))], N, X) := by
  unfold f_X12_reckonAll_l10_j242 at hF
  obtain ⟨g35, hF⟩ := gd_some hF
  refine s_putz hG dX12_reckonAll_242 fl_RX12_402 (fun h => by cases h) (sk_k hsk 64 rfl) rfl g35 ?_
  refine s_goto hG 310 dX12_reckonAll_245 (by decide) ?_
  refine s_goto hG 10 dX12_reckonAll_310 (by decide) ?_
  cases hF
  exact hK0 _ rfl
theorem t_X12_reckonAll_l10_j237 {d n0 s0 nF sF : Nat} {X : MX} {Ω : Nat → MS → Prop} {N : NN} {a2 : Int} {a3 : Int} {a4 : Int} (hsk : m_Sk X) (hd : 4 ≤ d) (hG : m_G d yX12_reckonAll.cls yX12_reckonAll.name cX12_reckonAll 7 n0 s0 nF sF Ω) {out : ((NN × Int × Int × Int) ⊕ (NN × Int))} (hK0 : ∀ s' : (NN × Int × Int × Int), out = .inl s' → Ω 10 ([some (.inr (.inr 64)), none, some (.inl (s'.2.1)), some (.inl (s'.2.2.1)), some (.inl (s'.2.2.2)), none, none], [], s'.1, X)) (hK1 : ∀ t : (NN × Int), out = .inr t → Ω 313 ([some (.inr (.inr 64)), none, none, some (.inl t.2), none, none, none], [], t.1, X)) (hF : f_X12_reckonAll_l10_j237 X N a2 a3 a4 = some out) : Ω 237 ([some (.inr (.inr 64)), none, some (.inl a2), some (.inl a3), some (.inl a4), none, none], [(.inr (.inr 64))], N, X) := by
  unfold f_X12_reckonAll_l10_j237 at hF
  refine s_iconst hG dX12_reckonAll_237 ⟨by decide, by decide⟩ ?_
  refine s_goto hG 242 dX12_reckonAll_238 (by decide) ?_
  exact t_X12_reckonAll_l10_j242 hsk hd hG hK0 hK1 hF
theorem t_X12_reckonAll_l10_j164 {d n0 s0 nF sF : Nat} {X : MX} {Ω : Nat → MS → Prop} {N : NN} {a2 : Int} {a3 : Int} {a4 : Int} {z1 : Int} {z2 : Int} (hsk : m_Sk X) (hd : 4 ≤ d) (hG : m_G d yX12_reckonAll.cls yX12_reckonAll.name cX12_reckonAll 7 n0 s0 nF sF Ω) {out : ((NN × Int × Int × Int) ⊕ (NN × Int))} (hK0 : ∀ s' : (NN × Int × Int × Int), out = .inl s' → Ω 10 ([some (.inr (.inr 64)), none, some (.inl (s'.2.1)), some (.inl (s'.2.2.1)), some (.inl (s'.2.2.2)), none, none], [], s'.1, X)) (hK1 : ∀ t : (NN × Int), out = .inr t → Ω 313 ([some (.inr (.inr 64)), none, none, some (.inl t.2), none, none, none], [], t.1, X)) (hF : f_X12_reckonAll_l10_j164 X N a2 a3 a4 z1 z2 = some out) : Ω 164 ([some (.inr (.inr 64)), none, some (.inl a2), some (.inl a3), some (.inl a4), none, none], [(.inr (.inl z2)), (.inl z1), (.inr (.inr 83))], N, X) := by
  unfold f_X12_reckonAll_l10_j164 at hF
  obtain ⟨g33, hF⟩ := gd_some hF
  refine s_lastj (j := z1.toNat) hG dX12_reckonAll_164 (sk_K hsk 83 rfl) g33 rfl ?_
  refine s_iinc hG dX12_reckonAll_165 (by decide) rfl rfl ?_
  refine s_goto hG 310 dX12_reckonAll_168 (by decide) ?_
  refine s_goto hG 10 dX12_reckonAll_310 (by decide) ?_
  cases hF
  exact hK0 _ rfl
theorem t_X12_reckonAll_l10_j95 {d n0 s0 nF sF : Nat} {X : MX} {Ω : Nat → MS → Prop} {N : NN} {a2 : Int} {a3 : Int} {a4 : Int} {a5 : Int} {z0 : Int} (hsk : m_Sk X) (hd : 4 ≤ d) (hG : m_G d yX12_reckonAll.cls yX12_reckonAll.name cX12_reckonAll 7 n0 s0 nF sF Ω) {out : ((NN × Int × Int × Int) ⊕ (NN × Int))} (hK0 : ∀ s' : (NN × Int × Int × Int), out = .inl s' → Ω 10 ([some (.inr (.inr 64)), none, some (.inl (s'.2.1)), some (.inl (s'.2.2.1)), some (.inl (s'.2.2.2)), none, none], [], s'.1, X)) (hK1 : ∀ t : (NN × Int), out = .inr t → Ω 313 ([some (.inr (.inr 64)), none, none, some (.inl t.2), none, none, none], [], t.1, X)) (hF : f_X12_reckonAll_l10_j95 X N a2 a3 a4 a5 z0 = some out) : Ω 95 ([some (.inr (.inr 64)), none, some (.inl a2), some (.inl a3), some (.inl a4), some (.inl a5), none], [(.inl z0)], N, X) := by
  unfold f_X12_reckonAll_l10_j95 at hF
  refine s_istore hG dX12_reckonAll_95 (by decide) rfl ?_
  refine s_iinc hG dX12_reckonAll_97 (by decide) rfl rfl ?_
  refine s_iload hG dX12_reckonAll_100 rfl ?_
  refine s_bipush hG dX12_reckonAll_102 bp_20 ⟨by decide, by decide⟩ ?_
  refine s_icmp_ge hG 171 dX12_reckonAll_104 (by decide) (fun c32 => ?_) (fun c32 => ?_)
  · replace hF := Eq.trans (if_pos c32).symm hF
    refine s_aload_n hG dX12_reckonAll_107 rfl ?_
    refine s_getr (r := 83) hG dX12_reckonAll_108 fl_RX12_100 (sk_k hsk 64 rfl) rfl (sk_R hsk 64 36 rfl) ?_
    refine s_iload_n hG dX12_reckonAll_111 rfl ?_
    refine s_iload hG dX12_reckonAll_112 rfl ?_
    refine s_if_ne hG 123 dX12_reckonAll_114 (by decide) (fun c15 => ?_) (fun c15 => ?_)
    · replace hF := Eq.trans (if_pos c15).symm hF
      refine s_iload hG dX12_reckonAll_117 rfl ?_
      refine s_i2l hG dX12_reckonAll_119 ?_
      refine s_goto hG 164 dX12_reckonAll_120 (by decide) ?_
      refine m_weak (ls1 := [some (.inr (.inr 64)), none, some (.inl a2), some (.inl a3), some (.inl (m_w (a4 + 1))), none, none]) hG ⟨rfl, ⟨rfl, ⟨rfl, ⟨rfl, trivial⟩⟩⟩⟩ ?_
      exact t_X12_reckonAll_l10_j164 hsk hd hG hK0 hK1 hF
    · replace hF := Eq.trans (if_neg c15).symm hF
      refine s_aload_n hG dX12_reckonAll_123 rfl ?_
      refine s_getz hG dX12_reckonAll_124 fl_RX12_326 (sk_k hsk 64 rfl) rfl ?_
      refine s_if_ne hG 140 dX12_reckonAll_127 (by decide) (fun c14 => ?_) (fun c14 => ?_)
      · replace hF := Eq.trans (if_pos c14).symm hF
        refine s_aload_n hG dX12_reckonAll_130 rfl ?_
        refine s_getr (r := 81) hG dX12_reckonAll_131 fl_RX12_94 (sk_k hsk 64 rfl) rfl (sk_R hsk 64 34 rfl) ?_
        refine s_iload hG dX12_reckonAll_134 rfl ?_
        obtain ⟨g10, hF⟩ := gd_some hF
        refine s_laldj (j := a5.toNat) hG dX12_reckonAll_136 (sk_K hsk 81 rfl) g10 rfl ?_
        refine s_goto hG 164 dX12_reckonAll_137 (by decide) ?_
        refine m_weak (ls1 := [some (.inr (.inr 64)), none, some (.inl a2), some (.inl a3), some (.inl (m_w (a4 + 1))), none, none]) hG ⟨rfl, ⟨rfl, ⟨rfl, ⟨rfl, trivial⟩⟩⟩⟩ ?_
        exact t_X12_reckonAll_l10_j164 hsk hd hG hK0 hK1 hF
      · replace hF := Eq.trans (if_neg c14).symm hF
        refine s_iload hG dX12_reckonAll_140 rfl ?_
        refine s_iconst hG dX12_reckonAll_142 ⟨by decide, by decide⟩ ?_
        refine s_icmp_ge hG 156 dX12_reckonAll_143 (by decide) (fun c13 => ?_) (fun c13 => ?_)
        · replace hF := Eq.trans (if_pos c13).symm hF
          refine s_aload_n hG dX12_reckonAll_146 rfl ?_
          refine s_getr (r := 82) hG dX12_reckonAll_147 fl_RX12_97 (sk_k hsk 64 rfl) rfl (sk_R hsk 64 35 rfl) ?_
          refine s_iload hG dX12_reckonAll_150 rfl ?_
          obtain ⟨g11, hF⟩ := gd_some hF
          refine s_laldj (j := a5.toNat) hG dX12_reckonAll_152 (sk_K hsk 82 rfl) g11 rfl ?_
          refine s_goto hG 164 dX12_reckonAll_153 (by decide) ?_
          refine m_weak (ls1 := [some (.inr (.inr 64)), none, some (.inl a2), some (.inl a3), some (.inl (m_w (a4 + 1))), none, none]) hG ⟨rfl, ⟨rfl, ⟨rfl, ⟨rfl, trivial⟩⟩⟩⟩ ?_
          exact t_X12_reckonAll_l10_j164 hsk hd hG hK0 hK1 hF
        · replace hF := Eq.trans (if_neg c13).symm hF
          refine s_aload_n hG dX12_reckonAll_156 rfl ?_
          refine s_iload hG dX12_reckonAll_157 rfl ?_
          refine s_iload hG dX12_reckonAll_159 rfl ?_
          obtain ⟨o12, ho12, hF⟩ := bd_some hF
          refine s_callV (d' := d - 1) (ci := 12) (args := [.inl a5, .inl z0]) hG (by omega) dX12_reckonAll_161 cv_RX12_408 cw_X12_askedOf rfl rfl (sk_k hsk 64 rfl) (Nat.le_of_ble_eq_true rfl) rfl (t_X12_askedOf hsk (by omega) ho12) ?_
          refine m_weak (ls1 := [some (.inr (.inr 64)), none, some (.inl a2), some (.inl a3), some (.inl (m_w (a4 + 1))), none, none]) hG ⟨rfl, ⟨rfl, ⟨rfl, ⟨rfl, trivial⟩⟩⟩⟩ ?_
          exact t_X12_reckonAll_l10_j164 hsk hd hG hK0 hK1 hF
  · replace hF := Eq.trans (if_neg c32).symm hF
    refine s_iload hG dX12_reckonAll_171 rfl ?_
    refine s_bipush hG dX12_reckonAll_173 bp_28 ⟨by decide, by decide⟩ ?_
    refine s_icmp_ge hG 248 dX12_reckonAll_175 (by decide) (fun c31 => ?_) (fun c31 => ?_)
    · replace hF := Eq.trans (if_pos c31).symm hF
      refine s_iinc hG dX12_reckonAll_178 (by decide) rfl rfl ?_
      refine s_aload_n hG dX12_reckonAll_181 rfl ?_
      refine s_getr (r := 83) hG dX12_reckonAll_182 fl_RX12_100 (sk_k hsk 64 rfl) rfl (sk_R hsk 64 36 rfl) ?_
      refine s_iload_n hG dX12_reckonAll_185 rfl ?_
      refine s_iconst hG dX12_reckonAll_186 ⟨by decide, by decide⟩ ?_
      refine s_isub hG dX12_reckonAll_187 ?_
      refine s_aload_n hG dX12_reckonAll_188 rfl ?_
      refine s_iload hG dX12_reckonAll_189 rfl ?_
      refine s_aload_n hG dX12_reckonAll_191 rfl ?_
      refine s_getr (r := 83) hG dX12_reckonAll_192 fl_RX12_100 (sk_k hsk 64 rfl) rfl (sk_R hsk 64 36 rfl) ?_
      refine s_iload_n hG dX12_reckonAll_195 rfl ?_
      refine s_iconst hG dX12_reckonAll_196 ⟨by decide, by decide⟩ ?_
      refine s_isub hG dX12_reckonAll_197 ?_
      obtain ⟨g16, hF⟩ := gd_some hF
      refine s_laldj (j := (m_w ((m_w (a3 + (-1))) - 1)).toNat) hG dX12_reckonAll_198 (sk_K hsk 83 rfl) g16 rfl ?_
      refine s_aload_n hG dX12_reckonAll_199 rfl ?_
      refine s_getr (r := 83) hG dX12_reckonAll_200 fl_RX12_100 (sk_k hsk 64 rfl) rfl (sk_R hsk 64 36 rfl) ?_
      refine s_iload_n hG dX12_reckonAll_203 rfl ?_
      obtain ⟨g17, hF⟩ := gd_some hF
      refine s_laldj (j := (m_w (a3 + (-1))).toNat) hG dX12_reckonAll_204 (sk_K hsk 83 rfl) g17 rfl ?_
      obtain ⟨o18, ho18, hF⟩ := bd_some hF
      refine s_callV (d' := d - 1) (ci := 12) (args := [.inl a5, .inr (.inl (N 83 ((m_w ((m_w (a3 + (-1))) - 1)).toNat))), .inr (.inl (N 83 ((m_w (a3 + (-1))).toNat)))]) hG (by omega) dX12_reckonAll_205 cv_RX12_412 cw_X12_reckon rfl rfl (sk_k hsk 64 rfl) (Nat.le_of_ble_eq_true rfl) rfl (t_X12_reckon hsk (by omega) ho18) ?_
      obtain ⟨g19, hF⟩ := gd_some hF
      refine s_lastj (j := (m_w ((m_w (a3 + (-1))) - 1)).toNat) hG dX12_reckonAll_208 (sk_K hsk 83 rfl) g19 rfl ?_
      let N20 : NN := m_up o18.2 83 ((m_w ((m_w (a3 + (-1))) - 1)).toNat) o18.1
      refine s_aload_n hG dX12_reckonAll_209 rfl ?_
      refine s_aload_n hG dX12_reckonAll_210 rfl ?_
      refine s_getz hG dX12_reckonAll_211 fl_RX12_402 (sk_k hsk 64 rfl) rfl ?_
      refine s_if_ne hG 237 dX12_reckonAll_214 (by decide) (fun c24 => ?_) (fun c24 => ?_)
      · replace hF := Eq.trans (if_pos c24).symm hF
        refine s_aload_n hG dX12_reckonAll_217 rfl ?_
        refine s_getr (r := 83) hG dX12_reckonAll_218 fl_RX12_100 (sk_k hsk 64 rfl) rfl (sk_R hsk 64 36 rfl) ?_
        refine s_iload_n hG dX12_reckonAll_221 rfl ?_
        refine s_iconst hG dX12_reckonAll_222 ⟨by decide, by decide⟩ ?_
        refine s_isub hG dX12_reckonAll_223 ?_
        obtain ⟨g21, hF⟩ := gd_some hF
        refine s_laldj (j := (m_w ((m_w (a3 + (-1))) - 1)).toNat) hG dX12_reckonAll_224 (sk_K hsk 83 rfl) g21 rfl ?_
        refine s_ldc2 hG dX12_reckonAll_225 kc_RX12_416 ⟨by decide, by decide⟩ ?_
        refine s_ldc2 hG dX12_reckonAll_228 kc_RX12_418 ⟨by decide, by decide⟩ ?_
        obtain ⟨o22, ho22, hF⟩ := bd_some hF
        refine s_callS (d' := d - 1) (args := [.inr (.inl (N20 83 ((m_w ((m_w (a3 + (-1))) - 1)).toNat))), .inr (.inl (-1000000000)), .inr (.inl 1000000000)]) hG (by omega) dX12_reckonAll_231 cs_RX12_179 cw_X12_in rfl (Nat.le_of_ble_eq_true rfl) rfl (t_X12_in hsk (by omega) ho22) ?_
        refine s_if_ne hG 241 dX12_reckonAll_234 (by decide) (fun c23 => ?_) (fun c23 => ?_)
        · replace hF := Eq.trans (if_pos c23).symm hF
          refine m_weak (ls1 := [some (.inr (.inr 64)), none, some (.inl a2), some (.inl (m_w (a3 + (-1)))), some (.inl (m_w (a4 + 1))), none, none]) hG ⟨rfl, ⟨rfl, ⟨rfl, ⟨rfl, trivial⟩⟩⟩⟩ ?_
          exact t_X12_reckonAll_l10_j237 hsk hd hG hK0 hK1 hF
        · replace hF := Eq.trans (if_neg c23).symm hF
          refine s_iconst hG dX12_reckonAll_241 ⟨by decide, by decide⟩ ?_
          refine m_weak (ls1 := [some (.inr (.inr 64)), none, some (.inl a2), some (.inl (m_w (a3 + (-1)))), some (.inl (m_w (a4 + 1))), none, none]) hG ⟨rfl, ⟨rfl, ⟨rfl, ⟨rfl, trivial⟩⟩⟩⟩ ?_
          exact t_X12_reckonAll_l10_j242 hsk hd hG hK0 hK1 hF
      · replace hF := Eq.trans (if_neg c24).symm hF
        refine m_weak (ls1 := [some (.inr (.inr 64)), none, some (.inl a2), some (.inl (m_w (a3 + (-1)))), some (.inl (m_w (a4 + 1))), none, none]) hG ⟨rfl, ⟨rfl, ⟨rfl, ⟨rfl, trivial⟩⟩⟩⟩ ?_
        exact t_X12_reckonAll_l10_j237 hsk hd hG hK0 hK1 hF
    · replace hF := Eq.trans (if_neg c31).symm hF
      refine s_iload hG dX12_reckonAll_248 rfl ?_
      refine s_bipush hG dX12_reckonAll_250 bp_28 ⟨by decide, by decide⟩ ?_
      refine s_icmp_ne hG 276 dX12_reckonAll_252 (by decide) (fun c30 => ?_) (fun c30 => ?_)
      · replace hF := Eq.trans (if_pos c30).symm hF
        refine s_aload_n hG dX12_reckonAll_255 rfl ?_
        refine s_getr (r := 83) hG dX12_reckonAll_256 fl_RX12_100 (sk_k hsk 64 rfl) rfl (sk_R hsk 64 36 rfl) ?_
        refine s_iload_n hG dX12_reckonAll_259 rfl ?_
        refine s_iconst hG dX12_reckonAll_260 ⟨by decide, by decide⟩ ?_
        refine s_isub hG dX12_reckonAll_261 ?_
        refine s_lconst (v := 1) hG dX12_reckonAll_262 rfl ⟨by decide, by decide⟩ ?_
        refine s_aload_n hG dX12_reckonAll_263 rfl ?_
        refine s_getr (r := 83) hG dX12_reckonAll_264 fl_RX12_100 (sk_k hsk 64 rfl) rfl (sk_R hsk 64 36 rfl) ?_
        refine s_iload_n hG dX12_reckonAll_267 rfl ?_
        refine s_iconst hG dX12_reckonAll_268 ⟨by decide, by decide⟩ ?_
        refine s_isub hG dX12_reckonAll_269 ?_
        obtain ⟨g25, hF⟩ := gd_some hF
        refine s_laldj (j := (m_w (a3 - 1)).toNat) hG dX12_reckonAll_270 (sk_K hsk 83 rfl) g25 rfl ?_
        refine s_lsub hG dX12_reckonAll_271 ?_
        obtain ⟨g26, hF⟩ := gd_some hF
        refine s_lastj (j := (m_w (a3 - 1)).toNat) hG dX12_reckonAll_272 (sk_K hsk 83 rfl) g26 rfl ?_
        refine s_goto hG 310 dX12_reckonAll_273 (by decide) ?_
        refine s_goto hG 10 dX12_reckonAll_310 (by decide) ?_
        cases hF
        refine m_weak (ls1 := [some (.inr (.inr 64)), none, some (.inl a2), some (.inl a3), some (.inl (m_w (a4 + 1))), none, none]) hG ⟨rfl, ⟨rfl, ⟨rfl, ⟨rfl, trivial⟩⟩⟩⟩ ?_
        exact hK0 _ rfl
      · replace hF := Eq.trans (if_neg c30).symm hF
        refine s_aload_n hG dX12_reckonAll_276 rfl ?_
        refine s_getr (r := 83) hG dX12_reckonAll_277 fl_RX12_100 (sk_k hsk 64 rfl) rfl (sk_R hsk 64 36 rfl) ?_
        refine s_iload_n hG dX12_reckonAll_280 rfl ?_
        refine s_iconst hG dX12_reckonAll_281 ⟨by decide, by decide⟩ ?_
        refine s_isub hG dX12_reckonAll_282 ?_
        obtain ⟨g28, hF⟩ := gd_some hF
        refine s_laldj (j := (m_w (a3 - 1)).toNat) hG dX12_reckonAll_283 (sk_K hsk 83 rfl) g28 rfl ?_
        refine s_iload hG dX12_reckonAll_284 rfl ?_
        refine s_bipush hG dX12_reckonAll_286 bp_29 ⟨by decide, by decide⟩ ?_
        refine s_icmp_ne hG 295 dX12_reckonAll_288 (by decide) (fun c29 => ?_) (fun c29 => ?_)
        · replace hF := Eq.trans (if_pos c29).symm hF
          refine s_lconst (v := 0) hG dX12_reckonAll_291 rfl ⟨by decide, by decide⟩ ?_
          refine s_goto hG 296 dX12_reckonAll_292 (by decide) ?_
          refine m_weak (ls1 := [some (.inr (.inr 64)), none, some (.inl a2), some (.inl a3), some (.inl (m_w (a4 + 1))), none, some (.inl z0)]) hG ⟨rfl, ⟨rfl, ⟨rfl, ⟨rfl, ⟨rfl, trivial⟩⟩⟩⟩⟩ ?_
          exact t_X12_reckonAll_l10_j296 hsk hd hG hK0 hK1 hF
        · replace hF := Eq.trans (if_neg c29).symm hF
          refine s_lconst (v := 1) hG dX12_reckonAll_295 rfl ⟨by decide, by decide⟩ ?_
          refine m_weak (ls1 := [some (.inr (.inr 64)), none, some (.inl a2), some (.inl a3), some (.inl (m_w (a4 + 1))), none, some (.inl z0)]) hG ⟨rfl, ⟨rfl, ⟨rfl, ⟨rfl, ⟨rfl, trivial⟩⟩⟩⟩⟩ ?_
          exact t_X12_reckonAll_l10_j296 hsk hd hG hK0 hK1 hF
theorem t_X12_reckonAll_l10_j57 {d n0 s0 nF sF : Nat} {X : MX} {Ω : Nat → MS → Prop} {N : NN} {a2 : Int} {a3 : Int} {a4 : Int} {z0 : Int} (hsk : m_Sk X) (hd : 4 ≤ d) (hG : m_G d yX12_reckonAll.cls yX12_reckonAll.name cX12_reckonAll 7 n0 s0 nF sF Ω) {out : ((NN × Int × Int × Int) ⊕ (NN × Int))} (hK0 : ∀ s' : (NN × Int × Int × Int), out = .inl s' → Ω 10 ([some (.inr (.inr 64)), none, some (.inl (s'.2.1)), some (.inl (s'.2.2.1)), some (.inl (s'.2.2.2)), none, none], [], s'.1, X)) (hK1 : ∀ t : (NN × Int), out = .inr t → Ω 313 ([some (.inr (.inr 64)), none, none, some (.inl t.2), none, none, none], [], t.1, X)) (hF : f_X12_reckonAll_l10_j57 X N a2 a3 a4 z0 = some out) : Ω 57 ([some (.inr (.inr 64)), none, some (.inl a2), some (.inl a3), some (.inl a4), none, none], [(.inl z0)], N, X) := by
  unfold f_X12_reckonAll_l10_j57 at hF
  refine s_istore hG dX12_reckonAll_57 (by decide) rfl ?_
  refine s_aload_n hG dX12_reckonAll_59 rfl ?_
  refine s_getz hG dX12_reckonAll_60 fl_RX12_326 (sk_k hsk 64 rfl) rfl ?_
  refine s_if_eq hG 76 dX12_reckonAll_63 (by decide) (fun c9 => ?_) (fun c9 => ?_)
  · replace hF := Eq.trans (if_pos c9).symm hF
    refine s_aload_n hG dX12_reckonAll_76 rfl ?_
    refine s_getr (r := 66) hG dX12_reckonAll_77 fl_RX12_13 (sk_k hsk 64 rfl) rfl (sk_R hsk 64 3 rfl) ?_
    refine s_aload_n hG dX12_reckonAll_80 rfl ?_
    refine s_geti hG dX12_reckonAll_81 fl_RX12_405 (sk_k hsk 64 rfl) rfl ?_
    refine s_bipush hG dX12_reckonAll_84 bp_98 ⟨by decide, by decide⟩ ?_
    refine s_iadd hG dX12_reckonAll_86 ?_
    refine s_iconst hG dX12_reckonAll_87 ⟨by decide, by decide⟩ ?_
    refine s_iload hG dX12_reckonAll_88 rfl ?_
    refine s_imul hG dX12_reckonAll_90 ?_
    refine s_iadd hG dX12_reckonAll_91 ?_
    refine s_iconst hG dX12_reckonAll_92 ⟨by decide, by decide⟩ ?_
    refine s_iadd hG dX12_reckonAll_93 ?_
    obtain ⟨g7, hF⟩ := gd_some hF
    refine s_ialdj (j := (m_w ((m_w ((m_w ((N 64 33) + 98)) + (m_w (2 * a4)))) + 1)).toNat) hG dX12_reckonAll_94 (sk_K hsk 66 rfl) g7 rfl ?_
    exact t_X12_reckonAll_l10_j95 hsk hd hG hK0 hK1 hF
  · replace hF := Eq.trans (if_neg c9).symm hF
    refine s_aload_n hG dX12_reckonAll_66 rfl ?_
    refine s_getr (r := 76) hG dX12_reckonAll_67 fl_RX12_48 (sk_k hsk 64 rfl) rfl (sk_R hsk 64 25 rfl) ?_
    refine s_iload hG dX12_reckonAll_70 rfl ?_
    obtain ⟨g8, hF⟩ := gd_some hF
    refine s_ialdj (j := a4.toNat) hG dX12_reckonAll_72 (sk_K hsk 76 rfl) g8 rfl ?_
    refine s_goto hG 95 dX12_reckonAll_73 (by decide) ?_
    exact t_X12_reckonAll_l10_j95 hsk hd hG hK0 hK1 hF
theorem t_X12_reckonAll_b10 {d n0 s0 nF sF : Nat} {X : MX} {Ω : Nat → MS → Prop} {N : NN} {a2 : Int} {a3 : Int} {a4 : Int} (hsk : m_Sk X) (hd : 4 ≤ d) (hG : m_G d yX12_reckonAll.cls yX12_reckonAll.name cX12_reckonAll 7 n0 s0 nF sF Ω) {out : ((NN × Int × Int × Int) ⊕ (NN × Int))} (hK0 : ∀ s' : (NN × Int × Int × Int), out = .inl s' → Ω 10 ([some (.inr (.inr 64)), none, some (.inl (s'.2.1)), some (.inl (s'.2.2.1)), some (.inl (s'.2.2.2)), none, none], [], s'.1, X)) (hK1 : ∀ t : (NN × Int), out = .inr t → Ω 313 ([some (.inr (.inr 64)), none, none, some (.inl t.2), none, none, none], [], t.1, X)) (hF : b_X12_reckonAll_10 X N a2 a3 a4 = some out) : Ω 10 ([some (.inr (.inr 64)), none, some (.inl a2), some (.inl a3), some (.inl a4), none, none], [], N, X) := by
  unfold b_X12_reckonAll_10 at hF
  refine s_iload hG dX12_reckonAll_10 rfl ?_
  refine s_iload_n hG dX12_reckonAll_12 rfl ?_
  refine s_icmp_ge hG 313 dX12_reckonAll_13 (by decide) (fun c6 => ?_) (fun c6 => ?_)
  · replace hF := Eq.trans (if_pos c6).symm hF
    refine s_aload_n hG dX12_reckonAll_16 rfl ?_
    refine s_getz hG dX12_reckonAll_17 fl_RX12_402 (sk_k hsk 64 rfl) rfl ?_
    refine s_if_ne hG 313 dX12_reckonAll_20 (by decide) (fun c5 => ?_) (fun c5 => ?_)
    · replace hF := Eq.trans (if_pos c5).symm hF
      refine s_aload_n hG dX12_reckonAll_23 rfl ?_
      refine s_getz hG dX12_reckonAll_24 fl_RX12_326 (sk_k hsk 64 rfl) rfl ?_
      refine s_if_eq hG 40 dX12_reckonAll_27 (by decide) (fun c4 => ?_) (fun c4 => ?_)
      · replace hF := Eq.trans (if_pos c4).symm hF
        refine s_aload_n hG dX12_reckonAll_40 rfl ?_
        refine s_getr (r := 66) hG dX12_reckonAll_41 fl_RX12_13 (sk_k hsk 64 rfl) rfl (sk_R hsk 64 3 rfl) ?_
        refine s_aload_n hG dX12_reckonAll_44 rfl ?_
        refine s_geti hG dX12_reckonAll_45 fl_RX12_405 (sk_k hsk 64 rfl) rfl ?_
        refine s_bipush hG dX12_reckonAll_48 bp_98 ⟨by decide, by decide⟩ ?_
        refine s_iadd hG dX12_reckonAll_50 ?_
        refine s_iconst hG dX12_reckonAll_51 ⟨by decide, by decide⟩ ?_
        refine s_iload hG dX12_reckonAll_52 rfl ?_
        refine s_imul hG dX12_reckonAll_54 ?_
        refine s_iadd hG dX12_reckonAll_55 ?_
        obtain ⟨g2, hF⟩ := gd_some hF
        refine s_ialdj (j := (m_w ((m_w ((N 64 33) + 98)) + (m_w (2 * a4)))).toNat) hG dX12_reckonAll_56 (sk_K hsk 66 rfl) g2 rfl ?_
        exact t_X12_reckonAll_l10_j57 hsk hd hG hK0 hK1 hF
      · replace hF := Eq.trans (if_neg c4).symm hF
        refine s_aload_n hG dX12_reckonAll_30 rfl ?_
        refine s_getr (r := 75) hG dX12_reckonAll_31 fl_RX12_45 (sk_k hsk 64 rfl) rfl (sk_R hsk 64 24 rfl) ?_
        refine s_iload hG dX12_reckonAll_34 rfl ?_
        obtain ⟨g3, hF⟩ := gd_some hF
        refine s_ialdj (j := a4.toNat) hG dX12_reckonAll_36 (sk_K hsk 75 rfl) g3 rfl ?_
        refine s_goto hG 57 dX12_reckonAll_37 (by decide) ?_
        exact t_X12_reckonAll_l10_j57 hsk hd hG hK0 hK1 hF
    · replace hF := Eq.trans (if_neg c5).symm hF
      cases hF
      refine m_weak (ls1 := [some (.inr (.inr 64)), none, none, some (.inl a3), none, none, none]) hG ⟨rfl, ⟨rfl, trivial⟩⟩ ?_
      exact hK1 _ rfl
  · replace hF := Eq.trans (if_neg c6).symm hF
    cases hF
    refine m_weak (ls1 := [some (.inr (.inr 64)), none, none, some (.inl a3), none, none, none]) hG ⟨rfl, ⟨rfl, trivial⟩⟩ ?_
    exact hK1 _ rfl
theorem t_X12_reckonAll_lp10 {d n0 s0 nF sF : Nat} {X : MX} {Ω : Nat → MS → Prop} {N : NN} {a2 : Int} {a3 : Int} {a4 : Int} (hsk : m_Sk X) (hd : 4 ≤ d) (hG : m_G d yX12_reckonAll.cls yX12_reckonAll.name cX12_reckonAll 7 n0 s0 nF sF Ω) {t : (NN × Int)} (hK1 : Ω 313 ([some (.inr (.inr 64)), none, none, some (.inl t.2), none, none, none], [], t.1, X)) (hl : lp (fun s => b_X12_reckonAll_10 X s.1 s.2.1 s.2.2.1 s.2.2.2) (N, a2, a3, a4) = some t) : Ω 10 ([some (.inr (.inr 64)), none, some (.inl a2), some (.inl a3), some (.inl a4), none, none], [], N, X) := by
  refine lp_ok (P := fun s => Ω 10 ([some (.inr (.inr 64)), none, some (.inl s.2.1), some (.inl s.2.2.1), some (.inl s.2.2.2), none, none], [], s.1, X)) (K := fun t => Ω 313 ([some (.inr (.inr 64)), none, none, some (.inl t.2), none, none, none], [], t.1, X)) (fun s out hF hK0 hK1 => ?_) hl hK1
  exact t_X12_reckonAll_b10 hsk hd hG (out := out) (fun s' e => hK0 s' e) (fun t' e => hK1 t' e) hF
theorem t_X12_reckonAll_j328 {d n0 s0 nF sF : Nat} {X : MX} {Ω : Nat → MS → Prop} {N : NN} {z1 : Int} (hsk : m_Sk X) (hd : 4 ≤ d) (hG : m_G d yX12_reckonAll.cls yX12_reckonAll.name cX12_reckonAll 7 n0 s0 nF sF Ω) {out : NN} (hE : m_Gd d yX12_reckonAll cX12_reckonAll 7 none X none out X Ω) (hF : f_X12_reckonAll_j328 X N z1 = some out) : Ω 328 ([none, none, none, none, none, none, none], [(.inr (.inl z1)), (.inr (.inr 64))], N, X) := by
  unfold f_X12_reckonAll_j328 at hF
  refine s_putl hG dX12_reckonAll_328 fl_RX12_420 (fun h => by cases h) (sk_k hsk 64 rfl) rfl ?_
  cases hF
  exact s_vret hE dX12_reckonAll_331 rfl
theorem t_X12_reckonAll {d : Nat} {X : MX} {N : NN} {a1 : Int} {a2 : Int} {out : NN} (hsk : m_Sk X) (hd : 4 ≤ d) (hF : f_X12_reckonAll X N a1 a2 = some out) : m_Call d yX12_reckonAll cX12_reckonAll 7 none [(.inr (.inr 64)), (.inl a1), (.inl a2)] N X none out X := by
  refine m_mk (ls0 := [some (.inr (.inr 64)), some (.inl a1), some (.inl a2), none, none, none, none]) (by decide) rfl (Nat.le_of_ble_eq_true rfl) (Nat.le_refl _) (Nat.le_refl _) (fun Ω hE => ?_)
  have hG := hE.G
  unfold f_X12_reckonAll at hF
  refine s_aload_n hG dX12_reckonAll_0 rfl ?_
  refine s_iconst hG dX12_reckonAll_1 ⟨by decide, by decide⟩ ?_
  refine s_putz hG dX12_reckonAll_2 fl_RX12_402 (fun h => by cases h) (sk_k hsk 64 rfl) rfl ⟨by decide, by decide⟩ ?_
  refine s_iconst hG dX12_reckonAll_5 ⟨by decide, by decide⟩ ?_
  refine s_istore_n hG dX12_reckonAll_6 (by decide) rfl ?_
  refine s_iload_n hG dX12_reckonAll_7 rfl ?_
  refine s_istore hG dX12_reckonAll_8 (by decide) rfl ?_
  obtain ⟨o38, hlo38, hF⟩ := bd_some hF
  refine m_weak (ls1 := [some (.inr (.inr 64)), none, some (.inl a2), some (.inl 0), some (.inl a1), none, none]) hG ⟨rfl, ⟨rfl, ⟨rfl, ⟨rfl, trivial⟩⟩⟩⟩ ?_
  refine t_X12_reckonAll_lp10 hsk hd hG ?_ hlo38
  refine s_aload_n hG dX12_reckonAll_313 rfl ?_
  refine s_iload_n hG dX12_reckonAll_314 rfl ?_
  refine s_if_le hG 327 dX12_reckonAll_315 (by decide) (fun c39 => ?_) (fun c39 => ?_)
  · replace hF := Eq.trans (if_pos c39).symm hF
    refine s_aload_n hG dX12_reckonAll_318 rfl ?_
    refine s_getr (r := 83) hG dX12_reckonAll_319 fl_RX12_100 (sk_k hsk 64 rfl) rfl (sk_R hsk 64 36 rfl) ?_
    refine s_iconst hG dX12_reckonAll_322 ⟨by decide, by decide⟩ ?_
    refine s_laldj (j := 0) hG dX12_reckonAll_323 (sk_K hsk 83 rfl) ⟨by decide, by decide⟩ rfl ?_
    refine s_goto hG 328 dX12_reckonAll_324 (by decide) ?_
    refine m_weak (ls1 := [none, none, none, none, none, none, none]) hG trivial ?_
    exact t_X12_reckonAll_j328 hsk hd hG hE hF
  · replace hF := Eq.trans (if_neg c39).symm hF
    refine s_lconst (v := 0) hG dX12_reckonAll_327 rfl ⟨by decide, by decide⟩ ?_
    refine m_weak (ls1 := [none, none, none, none, none, none, none]) hG trivial ?_
    exact t_X12_reckonAll_j328 hsk hd hG hE hF
-- X12_isSo
theorem t_X12_isSo_j109 {d n0 s0 nF sF : Nat} {X : MX} {Ω : Nat → MS → Prop} {N : NN} {z0 : Int} (hsk : m_Sk X) (hd : 5 ≤ d) (hG : m_G d yX12_isSo.cls yX12_isSo.name cX12_isSo 2 n0 s0 nF sF Ω) {out : (Int × NN)} (hE : m_Gd d yX12_isSo cX12_isSo 2 (some .boolean) X (some (.inl out.1)) out.2 X Ω) (hF : f_X12_isSo_j109 X N z0 = some out) : Ω 109 ([none, none], [(.inl z0)], N, X) := by
  unfold f_X12_isSo_j109 at hF
  obtain ⟨g16, hF⟩ := gd_some hF
  cases hF
  exact s_zret hE dX12_isSo_109 rfl g16
theorem t_X12_isSo_j59 {d n0 s0 nF sF : Nat} {X : MX} {Ω : Nat → MS → Prop} {N : NN} {a1 : Int} (hsk : m_Sk X) (hd : 5 ≤ d) (hG : m_G d yX12_isSo.cls yX12_isSo.name cX12_isSo 2 n0 s0 nF sF Ω) {out : (Int × NN)} (hE : m_Gd d yX12_isSo cX12_isSo 2 (some .boolean) X (some (.inl out.1)) out.2 X Ω) (hF : f_X12_isSo_j59 X N a1 = some out) : Ω 59 ([some (.inr (.inr 64)), some (.inl a1)], [], N, X) := by
  unfold f_X12_isSo_j59 at hF
  refine s_aload_n hG dX12_isSo_59 rfl ?_
  refine s_getr (r := 66) hG dX12_isSo_60 fl_RX12_13 (sk_k hsk 64 rfl) rfl (sk_R hsk 64 3 rfl) ?_
  refine s_iload_n hG dX12_isSo_63 rfl ?_
  obtain ⟨g9, hF⟩ := gd_some hF
  refine s_ialdj (j := a1.toNat) hG dX12_isSo_64 (sk_K hsk 66 rfl) g9 rfl ?_
  refine s_iconst hG dX12_isSo_65 ⟨by decide, by decide⟩ ?_
  refine s_icmp_eq hG 110 dX12_isSo_66 (by decide) (fun c15 => ?_) (fun c15 => ?_)
  · replace hF := Eq.trans (if_pos c15).symm hF
    refine s_iconst hG dX12_isSo_110 ⟨by decide, by decide⟩ ?_
    cases hF
    exact s_zret hE dX12_isSo_111 rfl ⟨by decide, by decide⟩
  · replace hF := Eq.trans (if_neg c15).symm hF
    refine s_aload_n hG dX12_isSo_69 rfl ?_
    refine s_aload_n hG dX12_isSo_70 rfl ?_
    refine s_getr (r := 66) hG dX12_isSo_71 fl_RX12_13 (sk_k hsk 64 rfl) rfl (sk_R hsk 64 3 rfl) ?_
    refine s_iload_n hG dX12_isSo_74 rfl ?_
    refine s_iconst hG dX12_isSo_75 ⟨by decide, by decide⟩ ?_
    refine s_iadd hG dX12_isSo_76 ?_
    obtain ⟨g10, hF⟩ := gd_some hF
    refine s_ialdj (j := (m_w (a1 + 3)).toNat) hG dX12_isSo_77 (sk_K hsk 66 rfl) g10 rfl ?_
    refine s_aload_n hG dX12_isSo_78 rfl ?_
    refine s_getr (r := 66) hG dX12_isSo_79 fl_RX12_13 (sk_k hsk 64 rfl) rfl (sk_R hsk 64 3 rfl) ?_
    refine s_iload_n hG dX12_isSo_82 rfl ?_
    refine s_iconst hG dX12_isSo_83 ⟨by decide, by decide⟩ ?_
    refine s_iadd hG dX12_isSo_84 ?_
    obtain ⟨g11, hF⟩ := gd_some hF
    refine s_ialdj (j := (m_w (a1 + 4)).toNat) hG dX12_isSo_85 (sk_K hsk 66 rfl) g11 rfl ?_
    obtain ⟨o12, ho12, hF⟩ := bd_some hF
    refine s_callV (d' := d - 1) (ci := 12) (args := [.inl (N 66 ((m_w (a1 + 3)).toNat)), .inl (N 66 ((m_w (a1 + 4)).toNat))]) hG (by omega) dX12_isSo_86 cv_RX12_426 cw_X12_reckonAll rfl rfl (sk_k hsk 64 rfl) (Nat.le_of_ble_eq_true rfl) rfl (t_X12_reckonAll hsk (by omega) ho12) ?_
    refine s_aload_n hG dX12_isSo_89 rfl ?_
    refine s_aload_n hG dX12_isSo_90 rfl ?_
    refine s_getl hG dX12_isSo_91 fl_RX12_420 (sk_k hsk 64 rfl) rfl ?_
    refine s_putl hG dX12_isSo_94 fl_RX12_429 (fun h => by cases h) (sk_k hsk 64 rfl) rfl ?_
    refine s_aload_n hG dX12_isSo_97 rfl ?_
    refine s_getz hG dX12_isSo_98 fl_RX12_402 (sk_k hsk 64 rfl) rfl ?_
    refine s_if_ne hG 108 dX12_isSo_101 (by decide) (fun c14 => ?_) (fun c14 => ?_)
    · replace hF := Eq.trans (if_pos c14).symm hF
      refine s_iconst hG dX12_isSo_104 ⟨by decide, by decide⟩ ?_
      refine s_goto hG 109 dX12_isSo_105 (by decide) ?_
      refine m_weak (ls1 := [none, none]) hG trivial ?_
      exact t_X12_isSo_j109 hsk hd hG hE hF
    · replace hF := Eq.trans (if_neg c14).symm hF
      refine s_iconst hG dX12_isSo_108 ⟨by decide, by decide⟩ ?_
      refine m_weak (ls1 := [none, none]) hG trivial ?_
      exact t_X12_isSo_j109 hsk hd hG hE hF
theorem t_X12_isSo_j57 {d n0 s0 nF sF : Nat} {X : MX} {Ω : Nat → MS → Prop} {N : NN} (hsk : m_Sk X) (hd : 5 ≤ d) (hG : m_G d yX12_isSo.cls yX12_isSo.name cX12_isSo 2 n0 s0 nF sF Ω) {out : (Int × NN)} (hE : m_Gd d yX12_isSo cX12_isSo 2 (some .boolean) X (some (.inl out.1)) out.2 X Ω) (hF : f_X12_isSo_j57 X N = some out) : Ω 57 ([none, none], [], N, X) := by
  unfold f_X12_isSo_j57 at hF
  refine s_iconst hG dX12_isSo_57 ⟨by decide, by decide⟩ ?_
  cases hF
  exact s_zret hE dX12_isSo_58 rfl ⟨by decide, by decide⟩
theorem t_X12_isSo {d : Nat} {X : MX} {N : NN} {a1 : Int} {out : (Int × NN)} (hsk : m_Sk X) (hd : 5 ≤ d) (hF : f_X12_isSo X N a1 = some out) : m_Call d yX12_isSo cX12_isSo 2 (some .boolean) [(.inr (.inr 64)), (.inl a1)] N X (some (.inl out.1)) out.2 X := by
  refine m_mk (ls0 := [some (.inr (.inr 64)), some (.inl a1)]) (by decide) rfl (Nat.le_of_ble_eq_true rfl) (Nat.le_refl _) (Nat.le_refl _) (fun Ω hE => ?_)
  have hG := hE.G
  unfold f_X12_isSo at hF
  refine s_aload_n hG dX12_isSo_0 rfl ?_
  refine s_getr (r := 66) hG dX12_isSo_1 fl_RX12_13 (sk_k hsk 64 rfl) rfl (sk_R hsk 64 3 rfl) ?_
  refine s_iload_n hG dX12_isSo_4 rfl ?_
  refine s_iconst hG dX12_isSo_5 ⟨by decide, by decide⟩ ?_
  refine s_iadd hG dX12_isSo_6 ?_
  obtain ⟨g1, hF⟩ := gd_some hF
  refine s_ialdj (j := (m_w (a1 + 5)).toNat) hG dX12_isSo_7 (sk_K hsk 66 rfl) g1 rfl ?_
  refine s_aload_n hG dX12_isSo_8 rfl ?_
  refine s_getr (r := 66) hG dX12_isSo_9 fl_RX12_13 (sk_k hsk 64 rfl) rfl (sk_R hsk 64 3 rfl) ?_
  refine s_iload_n hG dX12_isSo_12 rfl ?_
  refine s_bipush hG dX12_isSo_13 bp_6 ⟨by decide, by decide⟩ ?_
  refine s_iadd hG dX12_isSo_15 ?_
  obtain ⟨g2, hF⟩ := gd_some hF
  refine s_ialdj (j := (m_w (a1 + 6)).toNat) hG dX12_isSo_16 (sk_K hsk 66 rfl) g2 rfl ?_
  refine s_icmp_ge hG 59 dX12_isSo_17 (by decide) (fun c8 => ?_) (fun c8 => ?_)
  · replace hF := Eq.trans (if_pos c8).symm hF
    refine s_aload_n hG dX12_isSo_20 rfl ?_
    refine s_aload_n hG dX12_isSo_21 rfl ?_
    refine s_getr (r := 66) hG dX12_isSo_22 fl_RX12_13 (sk_k hsk 64 rfl) rfl (sk_R hsk 64 3 rfl) ?_
    refine s_iload_n hG dX12_isSo_25 rfl ?_
    refine s_iconst hG dX12_isSo_26 ⟨by decide, by decide⟩ ?_
    refine s_iadd hG dX12_isSo_27 ?_
    obtain ⟨g3, hF⟩ := gd_some hF
    refine s_ialdj (j := (m_w (a1 + 5)).toNat) hG dX12_isSo_28 (sk_K hsk 66 rfl) g3 rfl ?_
    refine s_aload_n hG dX12_isSo_29 rfl ?_
    refine s_getr (r := 66) hG dX12_isSo_30 fl_RX12_13 (sk_k hsk 64 rfl) rfl (sk_R hsk 64 3 rfl) ?_
    refine s_iload_n hG dX12_isSo_33 rfl ?_
    refine s_bipush hG dX12_isSo_34 bp_6 ⟨by decide, by decide⟩ ?_
    refine s_iadd hG dX12_isSo_36 ?_
    obtain ⟨g4, hF⟩ := gd_some hF
    refine s_ialdj (j := (m_w (a1 + 6)).toNat) hG dX12_isSo_37 (sk_K hsk 66 rfl) g4 rfl ?_
    obtain ⟨o5, ho5, hF⟩ := bd_some hF
    refine s_callV (d' := d - 1) (ci := 12) (args := [.inl (N 66 ((m_w (a1 + 5)).toNat)), .inl (N 66 ((m_w (a1 + 6)).toNat))]) hG (by omega) dX12_isSo_38 cv_RX12_426 cw_X12_reckonAll rfl rfl (sk_k hsk 64 rfl) (Nat.le_of_ble_eq_true rfl) rfl (t_X12_reckonAll hsk (by omega) ho5) ?_
    refine s_aload_n hG dX12_isSo_41 rfl ?_
    refine s_getz hG dX12_isSo_42 fl_RX12_402 (sk_k hsk 64 rfl) rfl ?_
    refine s_if_ne hG 57 dX12_isSo_45 (by decide) (fun c7 => ?_) (fun c7 => ?_)
    · replace hF := Eq.trans (if_pos c7).symm hF
      refine s_aload_n hG dX12_isSo_48 rfl ?_
      refine s_getl hG dX12_isSo_49 fl_RX12_420 (sk_k hsk 64 rfl) rfl ?_
      refine s_lconst (v := 0) hG dX12_isSo_52 rfl ⟨by decide, by decide⟩ ?_
      refine s_lcmp hG dX12_isSo_53 ?_
      refine s_if_ne hG 59 dX12_isSo_54 (by decide) (fun c6 => ?_) (fun c6 => ?_)
      · replace hF := Eq.trans (if_pos c6).symm hF
        refine m_weak (ls1 := [none, none]) hG trivial ?_
        exact t_X12_isSo_j57 hsk hd hG hE hF
      · replace hF := Eq.trans (if_neg c6).symm hF
        exact t_X12_isSo_j59 hsk hd hG hE hF
    · replace hF := Eq.trans (if_neg c7).symm hF
      refine m_weak (ls1 := [none, none]) hG trivial ?_
      exact t_X12_isSo_j57 hsk hd hG hE hF
  · replace hF := Eq.trans (if_neg c8).symm hF
    exact t_X12_isSo_j59 hsk hd hG hE hF
-- X12_tells1
theorem t_X12_tells1_l138_j203 {d n0 s0 nF sF : Nat} {X : MX} {Ω : Nat → MS → Prop} {N : NN} {a1 : Int} {a9 : Int} {a11 : Int} (hsk : m_Sk X) (hd : 6 ≤ d) (hG : m_G d yX12_tells1.cls yX12_tells1.name cX12_tells1 13 n0 s0 nF sF Ω) {out : ((NN × Int × Int × Int) ⊕ (NN × Int))} (hK0 : ∀ s' : (NN × Int × Int × Int), out = .inl s' → Ω 138 ([some (.inr (.inr 64)), some (.inl (s'.2.1)), none, none, none, none, none, none, none, some (.inr (.inl (s'.2.2.1))), none, some (.inl (s'.2.2.2)), none], [], s'.1, X)) (hK1 : ∀ t : (NN × Int), out = .inr t → Ω 209 ([none, none, none, none, none, none, none, none, none, some (.inr (.inl t.2)), none, none, none], [], t.1, X)) (hF : f_X12_tells1_l138_j203 X N a1 a9 a11 = some out) : Ω 203 ([some (.inr (.inr 64)), some (.inl a1), none, none, none, none, none, none, none, some (.inr (.inl a9)), none, some (.inl a11), none], [], N, X) := by
  unfold f_X12_tells1_l138_j203 at hF
  refine s_iinc hG dX12_tells1_203 (by decide) rfl rfl ?_
  refine s_goto hG 138 dX12_tells1_206 (by decide) ?_
  cases hF
  exact hK0 _ rfl
theorem t_X12_tells1_l138_j201 {d n0 s0 nF sF : Nat} {X : MX} {Ω : Nat → MS → Prop} {N : NN} {a1 : Int} {a11 : Int} {z0 : Int} (hsk : m_Sk X) (hd : 6 ≤ d) (hG : m_G d yX12_tells1.cls yX12_tells1.name cX12_tells1 13 n0 s0 nF sF Ω) {out : ((NN × Int × Int × Int) ⊕ (NN × Int))} (hK0 : ∀ s' : (NN × Int × Int × Int), out = .inl s' → Ω 138 ([some (.inr (.inr 64)), some (.inl (s'.2.1)), none, none, none, none, none, none, none, some (.inr (.inl (s'.2.2.1))), none, some (.inl (s'.2.2.2)), none], [], s'.1, X)) (hK1 : ∀ t : (NN × Int), out = .inr t → Ω 209 ([none, none, none, none, none, none, none, none, none, some (.inr (.inl t.2)), none, none, none], [], t.1, X)) (hF : f_X12_tells1_l138_j201 X N a1 a11 z0 = some out) : Ω 201 ([some (.inr (.inr 64)), some (.inl a1), none, none, none, none, none, none, none, none, none, some (.inl a11), none], [(.inr (.inl z0))], N, X) := by
  unfold f_X12_tells1_l138_j201 at hF
  refine s_lstore hG dX12_tells1_201 (by decide) rfl ?_
  exact t_X12_tells1_l138_j203 hsk hd hG hK0 hK1 hF
theorem t_X12_tells1_b138 {d n0 s0 nF sF : Nat} {X : MX} {Ω : Nat → MS → Prop} {N : NN} {a1 : Int} {a9 : Int} {a11 : Int} (hsk : m_Sk X) (hd : 6 ≤ d) (hG : m_G d yX12_tells1.cls yX12_tells1.name cX12_tells1 13 n0 s0 nF sF Ω) {out : ((NN × Int × Int × Int) ⊕ (NN × Int))} (hK0 : ∀ s' : (NN × Int × Int × Int), out = .inl s' → Ω 138 ([some (.inr (.inr 64)), some (.inl (s'.2.1)), none, none, none, none, none, none, none, some (.inr (.inl (s'.2.2.1))), none, some (.inl (s'.2.2.2)), none], [], s'.1, X)) (hK1 : ∀ t : (NN × Int), out = .inr t → Ω 209 ([none, none, none, none, none, none, none, none, none, some (.inr (.inl t.2)), none, none, none], [], t.1, X)) (hF : b_X12_tells1_138 X N a1 a9 a11 = some out) : Ω 138 ([some (.inr (.inr 64)), some (.inl a1), none, none, none, none, none, none, none, some (.inr (.inl a9)), none, some (.inl a11), none], [], N, X) := by
  unfold b_X12_tells1_138 at hF
  refine s_iload hG dX12_tells1_138 rfl ?_
  refine s_aload_n hG dX12_tells1_140 rfl ?_
  refine s_getr (r := 66) hG dX12_tells1_141 fl_RX12_13 (sk_k hsk 64 rfl) rfl (sk_R hsk 64 3 rfl) ?_
  refine s_aload_n hG dX12_tells1_144 rfl ?_
  refine s_geti hG dX12_tells1_145 fl_RX12_405 (sk_k hsk 64 rfl) rfl ?_
  refine s_iconst hG dX12_tells1_148 ⟨by decide, by decide⟩ ?_
  refine s_iadd hG dX12_tells1_149 ?_
  obtain ⟨g14, hF⟩ := gd_some hF
  refine s_ialdj (j := (m_w ((N 64 33) + 1)).toNat) hG dX12_tells1_150 (sk_K hsk 66 rfl) g14 rfl ?_
  refine s_icmp_ge hG 209 dX12_tells1_151 (by decide) (fun c20 => ?_) (fun c20 => ?_)
  · replace hF := Eq.trans (if_pos c20).symm hF
    refine s_aload_n hG dX12_tells1_154 rfl ?_
    refine s_geti hG dX12_tells1_155 fl_RX12_405 (sk_k hsk 64 rfl) rfl ?_
    refine s_iconst hG dX12_tells1_158 ⟨by decide, by decide⟩ ?_
    refine s_iadd hG dX12_tells1_159 ?_
    refine s_bipush hG dX12_tells1_160 bp_8 ⟨by decide, by decide⟩ ?_
    refine s_iload hG dX12_tells1_162 rfl ?_
    refine s_imul hG dX12_tells1_164 ?_
    refine s_iadd hG dX12_tells1_165 ?_
    refine s_istore hG dX12_tells1_166 (by decide) rfl ?_
    refine s_aload_n hG dX12_tells1_168 rfl ?_
    refine s_getr (r := 66) hG dX12_tells1_169 fl_RX12_13 (sk_k hsk 64 rfl) rfl (sk_R hsk 64 3 rfl) ?_
    refine s_iload hG dX12_tells1_172 rfl ?_
    obtain ⟨g15, hF⟩ := gd_some hF
    refine s_ialdj (j := (m_w ((m_w ((N 64 33) + 2)) + (m_w (8 * a11)))).toNat) hG dX12_tells1_174 (sk_K hsk 66 rfl) g15 rfl ?_
    refine s_iload_n hG dX12_tells1_175 rfl ?_
    refine s_icmp_ne hG 203 dX12_tells1_176 (by decide) (fun c19 => ?_) (fun c19 => ?_)
    · replace hF := Eq.trans (if_pos c19).symm hF
      refine s_aload_n hG dX12_tells1_179 rfl ?_
      refine s_iload hG dX12_tells1_180 rfl ?_
      obtain ⟨o16, ho16, hF⟩ := bd_some hF
      refine s_callV (d' := d - 1) (ci := 12) (args := [.inl (m_w ((m_w ((N 64 33) + 2)) + (m_w (8 * a11))))]) hG (by omega) dX12_tells1_182 cv_RX12_432 cw_X12_isSo rfl rfl (sk_k hsk 64 rfl) (Nat.le_of_ble_eq_true rfl) rfl (t_X12_isSo hsk (by omega) ho16) ?_
      refine s_if_eq hG 203 dX12_tells1_185 (by decide) (fun c18 => ?_) (fun c18 => ?_)
      · replace hF := Eq.trans (if_pos c18).symm hF
        refine m_weak (ls1 := [some (.inr (.inr 64)), some (.inl a1), none, none, none, none, none, none, none, some (.inr (.inl a9)), none, some (.inl a11), none]) hG ⟨rfl, ⟨rfl, ⟨rfl, ⟨rfl, trivial⟩⟩⟩⟩ ?_
        exact t_X12_tells1_l138_j203 hsk hd hG hK0 hK1 hF
      · replace hF := Eq.trans (if_neg c18).symm hF
        refine s_iload_n hG dX12_tells1_188 rfl ?_
        refine s_iconst hG dX12_tells1_189 ⟨by decide, by decide⟩ ?_
        refine s_icmp_ne hG 197 dX12_tells1_190 (by decide) (fun c17 => ?_) (fun c17 => ?_)
        · replace hF := Eq.trans (if_pos c17).symm hF
          refine s_lconst (v := 1) hG dX12_tells1_193 rfl ⟨by decide, by decide⟩ ?_
          refine s_goto hG 201 dX12_tells1_194 (by decide) ?_
          refine m_weak (ls1 := [some (.inr (.inr 64)), some (.inl a1), none, none, none, none, none, none, none, none, none, some (.inl a11), none]) hG ⟨rfl, ⟨rfl, ⟨rfl, trivial⟩⟩⟩ ?_
          exact t_X12_tells1_l138_j201 hsk hd hG hK0 hK1 hF
        · replace hF := Eq.trans (if_neg c17).symm hF
          refine s_aload_n hG dX12_tells1_197 rfl ?_
          refine s_getl hG dX12_tells1_198 fl_RX12_429 (sk_k hsk 64 rfl) rfl ?_
          refine m_weak (ls1 := [some (.inr (.inr 64)), some (.inl a1), none, none, none, none, none, none, none, none, none, some (.inl a11), none]) hG ⟨rfl, ⟨rfl, ⟨rfl, trivial⟩⟩⟩ ?_
          exact t_X12_tells1_l138_j201 hsk hd hG hK0 hK1 hF
    · replace hF := Eq.trans (if_neg c19).symm hF
      refine m_weak (ls1 := [some (.inr (.inr 64)), some (.inl a1), none, none, none, none, none, none, none, some (.inr (.inl a9)), none, some (.inl a11), none]) hG ⟨rfl, ⟨rfl, ⟨rfl, ⟨rfl, trivial⟩⟩⟩⟩ ?_
      exact t_X12_tells1_l138_j203 hsk hd hG hK0 hK1 hF
  · replace hF := Eq.trans (if_neg c20).symm hF
    cases hF
    refine m_weak (ls1 := [none, none, none, none, none, none, none, none, none, some (.inr (.inl a9)), none, none, none]) hG ⟨rfl, trivial⟩ ?_
    exact hK1 _ rfl
theorem t_X12_tells1_lp138 {d n0 s0 nF sF : Nat} {X : MX} {Ω : Nat → MS → Prop} {N : NN} {a1 : Int} {a9 : Int} {a11 : Int} (hsk : m_Sk X) (hd : 6 ≤ d) (hG : m_G d yX12_tells1.cls yX12_tells1.name cX12_tells1 13 n0 s0 nF sF Ω) {t : (NN × Int)} (hK1 : Ω 209 ([none, none, none, none, none, none, none, none, none, some (.inr (.inl t.2)), none, none, none], [], t.1, X)) (hl : lp (fun s => b_X12_tells1_138 X s.1 s.2.1 s.2.2.1 s.2.2.2) (N, a1, a9, a11) = some t) : Ω 138 ([some (.inr (.inr 64)), some (.inl a1), none, none, none, none, none, none, none, some (.inr (.inl a9)), none, some (.inl a11), none], [], N, X) := by
  refine lp_ok (P := fun s => Ω 138 ([some (.inr (.inr 64)), some (.inl s.2.1), none, none, none, none, none, none, none, some (.inr (.inl s.2.2.1)), none, some (.inl s.2.2.2), none], [], s.1, X)) (K := fun t => Ω 209 ([none, none, none, none, none, none, none, none, none, some (.inr (.inl t.2)), none, none, none], [], t.1, X)) (fun s out hF hK0 hK1 => ?_) hl hK1
  exact t_X12_tells1_b138 hsk hd hG (out := out) (fun s' e => hK0 s' e) (fun t' e => hK1 t' e) hF
theorem t_X12_tells1 {d : Nat} {X : MX} {N : NN} {a1 : Int} {a2 : Int} {a3 : Int} {a4 : Int} {a5 : Int} {a6 : Int} {a7 : Int} {out : (Int × NN)} (hsk : m_Sk X) (hd : 6 ≤ d) (hF : f_X12_tells1 X N a1 a2 a3 a4 a5 a6 a7 = some out) : m_Call d yX12_tells1 cX12_tells1 13 (some .long) [(.inr (.inr 64)), (.inl a1), (.inl a2), (.inl a3), (.inl a4), (.inl a5), (.inl a6), (.inr (.inl a7))] N X (some (.inr (.inl out.1))) out.2 X := by
  refine m_mk (ls0 := [some (.inr (.inr 64)), some (.inl a1), some (.inl a2), some (.inl a3), some (.inl a4), some (.inl a5), some (.inl a6), some (.inr (.inl a7)), none, none, none, none, none]) (by decide) rfl (Nat.le_of_ble_eq_true rfl) (Nat.le_refl _) (Nat.le_refl _) (fun Ω hE => ?_)
  have hG := hE.G
  unfold f_X12_tells1 at hF
  refine s_aload_n hG dX12_tells1_0 rfl ?_
  refine s_getr (r := 66) hG dX12_tells1_1 fl_RX12_13 (sk_k hsk 64 rfl) rfl (sk_R hsk 64 3 rfl) ?_
  refine s_iconst hG dX12_tells1_4 ⟨by decide, by decide⟩ ?_
  refine s_ialdj (j := 5) hG dX12_tells1_5 (sk_K hsk 66 rfl) ⟨by decide, by decide⟩ rfl ?_
  refine s_iconst hG dX12_tells1_6 ⟨by decide, by decide⟩ ?_
  refine s_icmp_ne hG 13 dX12_tells1_7 (by decide) (fun c22 => ?_) (fun c22 => ?_)
  · replace hF := Eq.trans (if_pos c22).symm hF
    refine s_lload hG dX12_tells1_10 rfl ?_
    cases hF
    exact s_lret hE dX12_tells1_12 rfl
  · replace hF := Eq.trans (if_neg c22).symm hF
    refine s_aload_n hG dX12_tells1_13 rfl ?_
    refine s_sipush hG dX12_tells1_14 sp_270 ⟨by decide, by decide⟩ ?_
    refine s_sipush hG dX12_tells1_17 sp_900 ⟨by decide, by decide⟩ ?_
    refine s_aload_n hG dX12_tells1_20 rfl ?_
    refine s_getr (r := 66) hG dX12_tells1_21 fl_RX12_13 (sk_k hsk 64 rfl) rfl (sk_R hsk 64 3 rfl) ?_
    refine s_iconst hG dX12_tells1_24 ⟨by decide, by decide⟩ ?_
    refine s_ialdj (j := 5) hG dX12_tells1_25 (sk_K hsk 66 rfl) ⟨by decide, by decide⟩ rfl ?_
    refine s_imul hG dX12_tells1_26 ?_
    refine s_iadd hG dX12_tells1_27 ?_
    refine s_puti hG dX12_tells1_28 fl_RX12_405 (fun h => by cases h) (sk_k hsk 64 rfl) rfl ?_
    refine s_aload_n hG dX12_tells1_31 rfl ?_
    refine s_getr (r := 81) hG dX12_tells1_32 fl_RX12_94 (sk_k hsk 64 rfl) rfl (sk_R hsk 64 34 rfl) ?_
    refine s_iconst hG dX12_tells1_35 ⟨by decide, by decide⟩ ?_
    refine s_iload_n hG dX12_tells1_36 rfl ?_
    refine s_i2l hG dX12_tells1_37 ?_
    refine s_lastj (j := 1) hG dX12_tells1_38 (sk_K hsk 81 rfl) ⟨by decide, by decide⟩ rfl ?_
    refine s_aload_n hG dX12_tells1_39 rfl ?_
    refine s_getr (r := 81) hG dX12_tells1_40 fl_RX12_94 (sk_k hsk 64 rfl) rfl (sk_R hsk 64 34 rfl) ?_
    refine s_iconst hG dX12_tells1_43 ⟨by decide, by decide⟩ ?_
    refine s_aload_n hG dX12_tells1_44 rfl ?_
    refine s_iload_n hG dX12_tells1_45 rfl ?_
    refine s_iconst hG dX12_tells1_46 ⟨by decide, by decide⟩ ?_
    obtain ⟨o3, ho3, hF⟩ := bd_some hF
    refine s_callV (d' := d - 1) (ci := 12) (args := [.inl a2, .inl 2]) hG (by omega) dX12_tells1_47 cv_RX12_190 cw_X12_ofGood rfl rfl (sk_k hsk 64 rfl) (Nat.le_of_ble_eq_true rfl) rfl (t_X12_ofGood hsk (by omega) ho3) ?_
    refine s_i2l hG dX12_tells1_50 ?_
    refine s_lastj (j := 2) hG dX12_tells1_51 (sk_K hsk 81 rfl) ⟨by decide, by decide⟩ rfl ?_
    refine s_aload_n hG dX12_tells1_52 rfl ?_
    refine s_getr (r := 81) hG dX12_tells1_53 fl_RX12_94 (sk_k hsk 64 rfl) rfl (sk_R hsk 64 34 rfl) ?_
    refine s_iconst hG dX12_tells1_56 ⟨by decide, by decide⟩ ?_
    refine s_aload_n hG dX12_tells1_57 rfl ?_
    refine s_iload_n hG dX12_tells1_58 rfl ?_
    refine s_iconst hG dX12_tells1_59 ⟨by decide, by decide⟩ ?_
    obtain ⟨o5, ho5, hF⟩ := bd_some hF
    refine s_callV (d' := d - 1) (ci := 12) (args := [.inl a2, .inl 3]) hG (by omega) dX12_tells1_60 cv_RX12_190 cw_X12_ofGood rfl rfl (sk_k hsk 64 rfl) (Nat.le_of_ble_eq_true rfl) rfl (t_X12_ofGood hsk (by omega) ho5) ?_
    refine s_i2l hG dX12_tells1_63 ?_
    refine s_lastj (j := 3) hG dX12_tells1_64 (sk_K hsk 81 rfl) ⟨by decide, by decide⟩ rfl ?_
    refine s_aload_n hG dX12_tells1_65 rfl ?_
    refine s_getr (r := 81) hG dX12_tells1_66 fl_RX12_94 (sk_k hsk 64 rfl) rfl (sk_R hsk 64 34 rfl) ?_
    refine s_iconst hG dX12_tells1_69 ⟨by decide, by decide⟩ ?_
    refine s_aload_n hG dX12_tells1_70 rfl ?_
    refine s_iload_n hG dX12_tells1_71 rfl ?_
    refine s_iconst hG dX12_tells1_72 ⟨by decide, by decide⟩ ?_
    obtain ⟨o7, ho7, hF⟩ := bd_some hF
    refine s_callV (d' := d - 1) (ci := 12) (args := [.inl a2, .inl 4]) hG (by omega) dX12_tells1_73 cv_RX12_190 cw_X12_ofGood rfl rfl (sk_k hsk 64 rfl) (Nat.le_of_ble_eq_true rfl) rfl (t_X12_ofGood hsk (by omega) ho7) ?_
    refine s_i2l hG dX12_tells1_76 ?_
    refine s_lastj (j := 4) hG dX12_tells1_77 (sk_K hsk 81 rfl) ⟨by decide, by decide⟩ rfl ?_
    refine s_aload_n hG dX12_tells1_78 rfl ?_
    refine s_getr (r := 81) hG dX12_tells1_79 fl_RX12_94 (sk_k hsk 64 rfl) rfl (sk_R hsk 64 34 rfl) ?_
    refine s_iconst hG dX12_tells1_82 ⟨by decide, by decide⟩ ?_
    refine s_iload_n hG dX12_tells1_83 rfl ?_
    refine s_i2l hG dX12_tells1_84 ?_
    refine s_lastj (j := 5) hG dX12_tells1_85 (sk_K hsk 81 rfl) ⟨by decide, by decide⟩ rfl ?_
    refine s_aload_n hG dX12_tells1_86 rfl ?_
    refine s_getr (r := 81) hG dX12_tells1_87 fl_RX12_94 (sk_k hsk 64 rfl) rfl (sk_R hsk 64 34 rfl) ?_
    refine s_bipush hG dX12_tells1_90 bp_6 ⟨by decide, by decide⟩ ?_
    refine s_iload hG dX12_tells1_92 rfl ?_
    refine s_i2l hG dX12_tells1_94 ?_
    refine s_lastj (j := 6) hG dX12_tells1_95 (sk_K hsk 81 rfl) ⟨by decide, by decide⟩ rfl ?_
    refine s_aload_n hG dX12_tells1_96 rfl ?_
    refine s_getr (r := 81) hG dX12_tells1_97 fl_RX12_94 (sk_k hsk 64 rfl) rfl (sk_R hsk 64 34 rfl) ?_
    refine s_bipush hG dX12_tells1_100 bp_7 ⟨by decide, by decide⟩ ?_
    refine s_iload hG dX12_tells1_102 rfl ?_
    refine s_i2l hG dX12_tells1_104 ?_
    refine s_lastj (j := 7) hG dX12_tells1_105 (sk_K hsk 81 rfl) ⟨by decide, by decide⟩ rfl ?_
    refine s_aload_n hG dX12_tells1_106 rfl ?_
    refine s_getr (r := 81) hG dX12_tells1_107 fl_RX12_94 (sk_k hsk 64 rfl) rfl (sk_R hsk 64 34 rfl) ?_
    refine s_bipush hG dX12_tells1_110 bp_8 ⟨by decide, by decide⟩ ?_
    refine s_iload hG dX12_tells1_112 rfl ?_
    refine s_i2l hG dX12_tells1_114 ?_
    refine s_lastj (j := 8) hG dX12_tells1_115 (sk_K hsk 81 rfl) ⟨by decide, by decide⟩ rfl ?_
    refine s_aload_n hG dX12_tells1_116 rfl ?_
    refine s_getr (r := 81) hG dX12_tells1_117 fl_RX12_94 (sk_k hsk 64 rfl) rfl (sk_R hsk 64 34 rfl) ?_
    refine s_bipush hG dX12_tells1_120 bp_9 ⟨by decide, by decide⟩ ?_
    refine s_aload_n hG dX12_tells1_122 rfl ?_
    refine s_getr (r := 66) hG dX12_tells1_123 fl_RX12_13 (sk_k hsk 64 rfl) rfl (sk_R hsk 64 3 rfl) ?_
    refine s_bipush hG dX12_tells1_126 bp_8 ⟨by decide, by decide⟩ ?_
    refine s_ialdj (j := 8) hG dX12_tells1_128 (sk_K hsk 66 rfl) ⟨by decide, by decide⟩ rfl ?_
    refine s_i2l hG dX12_tells1_129 ?_
    refine s_lastj (j := 9) hG dX12_tells1_130 (sk_K hsk 81 rfl) ⟨by decide, by decide⟩ rfl ?_
    refine s_lload hG dX12_tells1_131 rfl ?_
    refine s_lstore hG dX12_tells1_133 (by decide) rfl ?_
    refine s_iconst hG dX12_tells1_135 ⟨by decide, by decide⟩ ?_
    refine s_istore hG dX12_tells1_136 (by decide) rfl ?_
    obtain ⟨o21, hlo21, hF⟩ := bd_some hF
    refine m_weak (ls1 := [some (.inr (.inr 64)), some (.inl a1), none, none, none, none, none, none, none, some (.inr (.inl a7)), none, some (.inl 0), none]) hG ⟨rfl, ⟨rfl, ⟨rfl, ⟨rfl, trivial⟩⟩⟩⟩ ?_
    refine t_X12_tells1_lp138 hsk hd hG ?_ hlo21
    refine s_lload hG dX12_tells1_209 rfl ?_
    cases hF
    exact s_lret hE dX12_tells1_211 rfl
-- X12_year
theorem t_X12_year {d : Nat} {X : MX} {N : NN} {out : Int} (hsk : m_Sk X) (hd : 1 ≤ d) (hF : f_X12_year X N = some out) : m_Call d yX12_year cX12_year 1 (some .int) [(.inr (.inr 64))] N X (some (.inl out)) N X := by
  refine m_mk (ls0 := [some (.inr (.inr 64))]) (by decide) rfl (Nat.le_of_ble_eq_true rfl) (Nat.le_refl _) (Nat.le_refl _) (fun Ω hE => ?_)
  have hG := hE.G
  unfold f_X12_year at hF
  refine s_aload_n hG dX12_year_0 rfl ?_
  refine s_getr (r := 66) hG dX12_year_1 fl_RX12_13 (sk_k hsk 64 rfl) rfl (sk_R hsk 64 3 rfl) ?_
  refine s_bipush hG dX12_year_4 bp_6 ⟨by decide, by decide⟩ ?_
  refine s_ialdj (j := 6) hG dX12_year_6 (sk_K hsk 66 rfl) ⟨by decide, by decide⟩ rfl ?_
  cases hF
  exact s_iret hE dX12_year_7 rfl
-- X12_isBarred
theorem t_X12_isBarred_j24 {d n0 s0 nF sF : Nat} {X : MX} {Ω : Nat → MS → Prop} {N : NN} {z0 : Int} (hsk : m_Sk X) (hd : 7 ≤ d) (hG : m_G d yX12_isBarred.cls yX12_isBarred.name cX12_isBarred 4 n0 s0 nF sF Ω) {out : (Int × NN)} (hE : m_Gd d yX12_isBarred cX12_isBarred 4 (some .boolean) X (some (.inl out.1)) out.2 X Ω) (hF : f_X12_isBarred_j24 X N z0 = some out) : Ω 24 ([none, none, none, none], [(.inl z0)], N, X) := by
  unfold f_X12_isBarred_j24 at hF
  obtain ⟨g4, hF⟩ := gd_some hF
  cases hF
  exact s_zret hE dX12_isBarred_24 rfl g4
theorem t_X12_isBarred {d : Nat} {X : MX} {N : NN} {a1 : Int} {a2 : Int} {a3 : Int} {out : (Int × NN)} (hsk : m_Sk X) (hd : 7 ≤ d) (hF : f_X12_isBarred X N a1 a2 a3 = some out) : m_Call d yX12_isBarred cX12_isBarred 4 (some .boolean) [(.inr (.inr 64)), (.inl a1), (.inl a2), (.inl a3)] N X (some (.inl out.1)) out.2 X := by
  refine m_mk (ls0 := [some (.inr (.inr 64)), some (.inl a1), some (.inl a2), some (.inl a3)]) (by decide) rfl (Nat.le_of_ble_eq_true rfl) (Nat.le_refl _) (Nat.le_refl _) (fun Ω hE => ?_)
  have hG := hE.G
  unfold f_X12_isBarred at hF
  refine s_aload_n hG dX12_isBarred_0 rfl ?_
  refine s_iconst hG dX12_isBarred_1 ⟨by decide, by decide⟩ ?_
  refine s_iload_n hG dX12_isBarred_2 rfl ?_
  refine s_iload_n hG dX12_isBarred_3 rfl ?_
  refine s_iload_n hG dX12_isBarred_4 rfl ?_
  refine s_iconst hG dX12_isBarred_5 ⟨by decide, by decide⟩ ?_
  refine s_aload_n hG dX12_isBarred_6 rfl ?_
  obtain ⟨o1, ho1, hF⟩ := bd_some hF
  refine s_callV (d' := d - 1) (ci := 12) (args := []) hG (by omega) dX12_isBarred_7 cv_RX12_210 cw_X12_year rfl rfl (sk_k hsk 64 rfl) (Nat.le_of_ble_eq_true rfl) rfl (t_X12_year hsk (by omega) ho1) ?_
  refine s_lconst (v := 0) hG dX12_isBarred_10 rfl ⟨by decide, by decide⟩ ?_
  obtain ⟨o2, ho2, hF⟩ := bd_some hF
  refine s_callV (d' := d - 1) (ci := 12) (args := [.inl 2, .inl a1, .inl a2, .inl a3, .inl (-1), .inl o1, .inr (.inl 0)]) hG (by omega) dX12_isBarred_11 cv_RX12_435 cw_X12_tells1 rfl rfl (sk_k hsk 64 rfl) (Nat.le_of_ble_eq_true rfl) rfl (t_X12_tells1 hsk (by omega) ho2) ?_
  refine s_lconst (v := 1) hG dX12_isBarred_14 rfl ⟨by decide, by decide⟩ ?_
  refine s_lcmp hG dX12_isBarred_15 ?_
  refine s_if_ne hG 23 dX12_isBarred_16 (by decide) (fun c3 => ?_) (fun c3 => ?_)
  · replace hF := Eq.trans (if_pos c3).symm hF
    refine s_iconst hG dX12_isBarred_19 ⟨by decide, by decide⟩ ?_
    refine s_goto hG 24 dX12_isBarred_20 (by decide) ?_
    refine m_weak (ls1 := [none, none, none, none]) hG trivial ?_
    exact t_X12_isBarred_j24 hsk hd hG hE hF
  · replace hF := Eq.trans (if_neg c3).symm hF
    refine s_iconst hG dX12_isBarred_23 ⟨by decide, by decide⟩ ?_
    refine m_weak (ls1 := [none, none, none, none]) hG trivial ?_
    exact t_X12_isBarred_j24 hsk hd hG hE hF
-- X12_within
theorem t_X12_within_j24 {d n0 s0 nF sF : Nat} {X : MX} {N : NN} {Ω : Nat → MS → Prop} {z0 : Int} (hsk : m_Sk X) (hd : 1 ≤ d) (hG : m_G d yX12_within.cls yX12_within.name cX12_within 4 n0 s0 nF sF Ω) {out : Int} (hE : m_Gd d yX12_within cX12_within 4 (some .int) X (some (.inl out)) N X Ω) (hF : f_X12_within_j24 X N z0 = some out) : Ω 24 ([none, none, none, none], [(.inl z0)], N, X) := by
  unfold f_X12_within_j24 at hF
  cases hF
  exact s_iret hE dX12_within_24 rfl
theorem t_X12_within {d : Nat} {X : MX} {N : NN} {a0 : Int} {a2 : Int} {a3 : Int} {out : Int} (hsk : m_Sk X) (hd : 1 ≤ d) (hF : f_X12_within X N a0 a2 a3 = some out) : m_Call d yX12_within cX12_within 4 (some .int) [(.inr (.inl a0)), (.inl a2), (.inl a3)] N X (some (.inl out)) N X := by
  refine m_mk (ls0 := [some (.inr (.inl a0)), none, some (.inl a2), some (.inl a3)]) (by decide) rfl (Nat.le_of_ble_eq_true rfl) (Nat.le_refl _) (Nat.le_refl _) (fun Ω hE => ?_)
  have hG := hE.G
  unfold f_X12_within at hF
  refine s_lload_n hG dX12_within_0 rfl ?_
  refine s_iload_n hG dX12_within_1 rfl ?_
  refine s_i2l hG dX12_within_2 ?_
  refine s_lcmp hG dX12_within_3 ?_
  refine s_if_ge hG 11 dX12_within_4 (by decide) (fun c2 => ?_) (fun c2 => ?_)
  · replace hF := Eq.trans (if_pos c2).symm hF
    refine s_iload_n hG dX12_within_7 rfl ?_
    refine s_goto hG 24 dX12_within_8 (by decide) ?_
    refine m_weak (ls1 := [none, none, none, none]) hG trivial ?_
    exact t_X12_within_j24 hsk hd hG hE hF
  · replace hF := Eq.trans (if_neg c2).symm hF
    refine s_lload_n hG dX12_within_11 rfl ?_
    refine s_iload_n hG dX12_within_12 rfl ?_
    refine s_i2l hG dX12_within_13 ?_
    refine s_lcmp hG dX12_within_14 ?_
    refine s_if_le hG 22 dX12_within_15 (by decide) (fun c1 => ?_) (fun c1 => ?_)
    · replace hF := Eq.trans (if_pos c1).symm hF
      refine s_iload_n hG dX12_within_18 rfl ?_
      refine s_goto hG 24 dX12_within_19 (by decide) ?_
      refine m_weak (ls1 := [none, none, none, none]) hG trivial ?_
      exact t_X12_within_j24 hsk hd hG hE hF
    · replace hF := Eq.trans (if_neg c1).symm hF
      refine s_lload_n hG dX12_within_22 rfl ?_
      refine s_l2i hG dX12_within_23 ?_
      refine m_weak (ls1 := [none, none, none, none]) hG trivial ?_
      exact t_X12_within_j24 hsk hd hG hE hF
-- X12_worthOf
theorem t_X12_worthOf {d : Nat} {X : MX} {N : NN} {a1 : Int} {a2 : Int} {a3 : Int} {out : (Int × NN)} (hsk : m_Sk X) (hd : 7 ≤ d) (hF : f_X12_worthOf X N a1 a2 a3 = some out) : m_Call d yX12_worthOf cX12_worthOf 4 (some .int) [(.inr (.inr 64)), (.inl a1), (.inl a2), (.inl a3)] N X (some (.inl out.1)) out.2 X := by
  refine m_mk (ls0 := [some (.inr (.inr 64)), some (.inl a1), some (.inl a2), some (.inl a3)]) (by decide) rfl (Nat.le_of_ble_eq_true rfl) (Nat.le_refl _) (Nat.le_refl _) (fun Ω hE => ?_)
  have hG := hE.G
  unfold f_X12_worthOf at hF
  refine s_aload_n hG dX12_worthOf_0 rfl ?_
  refine s_iconst hG dX12_worthOf_1 ⟨by decide, by decide⟩ ?_
  refine s_iload_n hG dX12_worthOf_2 rfl ?_
  refine s_iload_n hG dX12_worthOf_3 rfl ?_
  refine s_iload_n hG dX12_worthOf_4 rfl ?_
  refine s_iconst hG dX12_worthOf_5 ⟨by decide, by decide⟩ ?_
  refine s_aload_n hG dX12_worthOf_6 rfl ?_
  obtain ⟨o1, ho1, hF⟩ := bd_some hF
  refine s_callV (d' := d - 1) (ci := 12) (args := []) hG (by omega) dX12_worthOf_7 cv_RX12_210 cw_X12_year rfl rfl (sk_k hsk 64 rfl) (Nat.le_of_ble_eq_true rfl) rfl (t_X12_year hsk (by omega) ho1) ?_
  refine s_aload_n hG dX12_worthOf_10 rfl ?_
  refine s_iload_n hG dX12_worthOf_11 rfl ?_
  refine s_iconst hG dX12_worthOf_12 ⟨by decide, by decide⟩ ?_
  obtain ⟨o2, ho2, hF⟩ := bd_some hF
  refine s_callV (d' := d - 1) (ci := 12) (args := [.inl a1, .inl 2]) hG (by omega) dX12_worthOf_13 cv_RX12_190 cw_X12_ofGood rfl rfl (sk_k hsk 64 rfl) (Nat.le_of_ble_eq_true rfl) rfl (t_X12_ofGood hsk (by omega) ho2) ?_
  refine s_i2l hG dX12_worthOf_16 ?_
  obtain ⟨o3, ho3, hF⟩ := bd_some hF
  refine s_callV (d' := d - 1) (ci := 12) (args := [.inl 0, .inl a1, .inl a2, .inl a3, .inl (-1), .inl o1, .inr (.inl o2)]) hG (by omega) dX12_worthOf_17 cv_RX12_435 cw_X12_tells1 rfl rfl (sk_k hsk 64 rfl) (Nat.le_of_ble_eq_true rfl) rfl (t_X12_tells1 hsk (by omega) ho3) ?_
  refine s_iconst hG dX12_worthOf_20 ⟨by decide, by decide⟩ ?_
  refine s_sipush hG dX12_worthOf_21 sp_999 ⟨by decide, by decide⟩ ?_
  obtain ⟨o4, ho4, hF⟩ := bd_some hF
  refine s_callS (d' := d - 1) (args := [.inr (.inl o3.1), .inl 0, .inl 999]) hG (by omega) dX12_worthOf_24 cs_RX12_439 cw_X12_within rfl (Nat.le_of_ble_eq_true rfl) rfl (t_X12_within hsk (by omega) ho4) ?_
  cases hF
  exact s_iret hE dX12_worthOf_27 rfl
-- X12_asks
theorem t_X12_asks_j43 {d n0 s0 nF sF : Nat} {X : MX} {Ω : Nat → MS → Prop} {N : NN} (hsk : m_Sk X) (hd : 8 ≤ d) (hG : m_G d yX12_asks.cls yX12_asks.name cX12_asks 5 n0 s0 nF sF Ω) {out : (Int × NN)} (hE : m_Gd d yX12_asks cX12_asks 5 (some .int) X (some (.inl out.1)) out.2 X Ω) (hF : f_X12_asks_j43 X N = some out) : Ω 43 ([none, none, none, none, none], [], N, X) := by
  unfold f_X12_asks_j43 at hF
  refine s_iconst hG dX12_asks_43 ⟨by decide, by decide⟩ ?_
  cases hF
  exact s_iret hE dX12_asks_44 rfl
theorem t_X12_asks_j108 {d n0 s0 nF sF : Nat} {X : MX} {Ω : Nat → MS → Prop} {N : NN} {z0 : Int} (hsk : m_Sk X) (hd : 8 ≤ d) (hG : m_G d yX12_asks.cls yX12_asks.name cX12_asks 5 n0 s0 nF sF Ω) {out : (Int × NN)} (hE : m_Gd d yX12_asks cX12_asks 5 (some .int) X (some (.inl out.1)) out.2 X Ω) (hF : f_X12_asks_j108 X N z0 = some out) : Ω 108 ([none, none, none, none, none], [(.inl z0)], N, X) := by
  unfold f_X12_asks_j108 at hF
  cases hF
  exact s_iret hE dX12_asks_108 rfl
theorem t_X12_asks {d : Nat} {X : MX} {N : NN} {a1 : Int} {a2 : Int} {a3 : Int} {out : (Int × NN)} (hsk : m_Sk X) (hd : 8 ≤ d) (hF : f_X12_asks X N a1 a2 a3 = some out) : m_Call d yX12_asks cX12_asks 5 (some .int) [(.inr (.inr 64)), (.inl a1), (.inl a2), (.inl a3)] N X (some (.inl out.1)) out.2 X := by
  refine m_mk (ls0 := [some (.inr (.inr 64)), some (.inl a1), some (.inl a2), some (.inl a3), none]) (by decide) rfl (Nat.le_of_ble_eq_true rfl) (Nat.le_refl _) (Nat.le_refl _) (fun Ω hE => ?_)
  have hG := hE.G
  unfold f_X12_asks at hF
  refine s_aload_n hG dX12_asks_0 rfl ?_
  refine s_iconst hG dX12_asks_1 ⟨by decide, by decide⟩ ?_
  refine s_puti hG dX12_asks_2 fl_RX12_166 (fun h => by cases h) (sk_k hsk 64 rfl) rfl ?_
  refine s_aload_n hG dX12_asks_5 rfl ?_
  refine s_iload_n hG dX12_asks_6 rfl ?_
  obtain ⟨o2, ho2, hF⟩ := bd_some hF
  refine s_callV (d' := d - 1) (ci := 12) (args := [.inl a1]) hG (by omega) dX12_asks_7 cv_RX12_225 cw_X12_isGood rfl rfl (sk_k hsk 64 rfl) (Nat.le_of_ble_eq_true rfl) rfl (t_X12_isGood hsk (by omega) ho2) ?_
  refine s_if_eq hG 43 dX12_asks_10 (by decide) (fun c17 => ?_) (fun c17 => ?_)
  · replace hF := Eq.trans (if_pos c17).symm hF
    refine m_weak (ls1 := [none, none, none, none, none]) hG trivial ?_
    exact t_X12_asks_j43 hsk hd hG hE hF
  · replace hF := Eq.trans (if_neg c17).symm hF
    refine s_aload_n hG dX12_asks_13 rfl ?_
    refine s_iload_n hG dX12_asks_14 rfl ?_
    obtain ⟨o3, ho3, hF⟩ := bd_some hF
    refine s_callV (d' := d - 1) (ci := 12) (args := [.inl a2]) hG (by omega) dX12_asks_15 cv_RX12_198 cw_X12_isLord rfl rfl (sk_k hsk 64 rfl) (Nat.le_of_ble_eq_true rfl) rfl (t_X12_isLord hsk (by omega) ho3) ?_
    refine s_if_eq hG 43 dX12_asks_18 (by decide) (fun c16 => ?_) (fun c16 => ?_)
    · replace hF := Eq.trans (if_pos c16).symm hF
      refine m_weak (ls1 := [none, none, none, none, none]) hG trivial ?_
      exact t_X12_asks_j43 hsk hd hG hE hF
    · replace hF := Eq.trans (if_neg c16).symm hF
      refine s_aload_n hG dX12_asks_21 rfl ?_
      refine s_iload_n hG dX12_asks_22 rfl ?_
      refine s_iconst hG dX12_asks_23 ⟨by decide, by decide⟩ ?_
      obtain ⟨o4, ho4, hF⟩ := bd_some hF
      refine s_callV (d' := d - 1) (ci := 12) (args := [.inl a1, .inl 0]) hG (by omega) dX12_asks_24 cv_RX12_190 cw_X12_ofGood rfl rfl (sk_k hsk 64 rfl) (Nat.le_of_ble_eq_true rfl) rfl (t_X12_ofGood hsk (by omega) ho4) ?_
      refine s_iload_n hG dX12_asks_27 rfl ?_
      refine s_icmp_eq hG 43 dX12_asks_28 (by decide) (fun c15 => ?_) (fun c15 => ?_)
      · replace hF := Eq.trans (if_pos c15).symm hF
        refine m_weak (ls1 := [none, none, none, none, none]) hG trivial ?_
        exact t_X12_asks_j43 hsk hd hG hE hF
      · replace hF := Eq.trans (if_neg c15).symm hF
        refine s_iload_n hG dX12_asks_31 rfl ?_
        refine s_i2l hG dX12_asks_32 ?_
        refine s_lconst (v := 0) hG dX12_asks_33 rfl ⟨by decide, by decide⟩ ?_
        refine s_ldc2 hG dX12_asks_34 kc_RX12_443 ⟨by decide, by decide⟩ ?_
        obtain ⟨o5, ho5, hF⟩ := bd_some hF
        refine s_callS (d' := d - 1) (args := [.inr (.inl a3), .inr (.inl 0), .inr (.inl 2)]) hG (by omega) dX12_asks_37 cs_RX12_179 cw_X12_in rfl (Nat.le_of_ble_eq_true rfl) rfl (t_X12_in hsk (by omega) ho5) ?_
        refine s_if_ne hG 45 dX12_asks_40 (by decide) (fun c14 => ?_) (fun c14 => ?_)
        · replace hF := Eq.trans (if_pos c14).symm hF
          refine m_weak (ls1 := [none, none, none, none, none]) hG trivial ?_
          exact t_X12_asks_j43 hsk hd hG hE hF
        · replace hF := Eq.trans (if_neg c14).symm hF
          refine s_aload_n hG dX12_asks_45 rfl ?_
          refine s_iload_n hG dX12_asks_46 rfl ?_
          refine s_iconst hG dX12_asks_47 ⟨by decide, by decide⟩ ?_
          obtain ⟨o6, ho6, hF⟩ := bd_some hF
          refine s_callV (d' := d - 1) (ci := 12) (args := [.inl a1, .inl 0]) hG (by omega) dX12_asks_48 cv_RX12_190 cw_X12_ofGood rfl rfl (sk_k hsk 64 rfl) (Nat.le_of_ble_eq_true rfl) rfl (t_X12_ofGood hsk (by omega) ho6) ?_
          refine s_istore hG dX12_asks_51 (by decide) rfl ?_
          refine s_iload_n hG dX12_asks_53 rfl ?_
          refine s_if_ne hG 68 dX12_asks_54 (by decide) (fun c13 => ?_) (fun c13 => ?_)
          · replace hF := Eq.trans (if_pos c13).symm hF
            refine s_aload_n hG dX12_asks_57 rfl ?_
            refine s_iload_n hG dX12_asks_58 rfl ?_
            refine s_iload hG dX12_asks_59 rfl ?_
            refine s_iload_n hG dX12_asks_61 rfl ?_
            obtain ⟨o7, ho7, hF⟩ := bd_some hF
            refine s_callV (d' := d - 1) (ci := 12) (args := [.inl a1, .inl o6, .inl a2]) hG (by omega) dX12_asks_62 cv_RX12_445 cw_X12_worthOf rfl rfl (sk_k hsk 64 rfl) (Nat.le_of_ble_eq_true rfl) rfl (t_X12_worthOf hsk (by omega) ho7) ?_
            refine s_goto hG 108 dX12_asks_65 (by decide) ?_
            refine m_weak (ls1 := [none, none, none, none, none]) hG trivial ?_
            exact t_X12_asks_j108 hsk hd hG hE hF
          · replace hF := Eq.trans (if_neg c13).symm hF
            refine s_iload_n hG dX12_asks_68 rfl ?_
            refine s_iconst hG dX12_asks_69 ⟨by decide, by decide⟩ ?_
            refine s_icmp_ne hG 92 dX12_asks_70 (by decide) (fun c12 => ?_) (fun c12 => ?_)
            · replace hF := Eq.trans (if_pos c12).symm hF
              refine s_aload_n hG dX12_asks_73 rfl ?_
              refine s_iload_n hG dX12_asks_74 rfl ?_
              refine s_iload hG dX12_asks_75 rfl ?_
              refine s_iload_n hG dX12_asks_77 rfl ?_
              obtain ⟨o8, ho8, hF⟩ := bd_some hF
              refine s_callV (d' := d - 1) (ci := 12) (args := [.inl a1, .inl o6, .inl a2]) hG (by omega) dX12_asks_78 cv_RX12_448 cw_X12_isBarred rfl rfl (sk_k hsk 64 rfl) (Nat.le_of_ble_eq_true rfl) rfl (t_X12_isBarred hsk (by omega) ho8) ?_
              refine s_if_eq hG 88 dX12_asks_81 (by decide) (fun c9 => ?_) (fun c9 => ?_)
              · replace hF := Eq.trans (if_pos c9).symm hF
                refine s_iconst hG dX12_asks_88 ⟨by decide, by decide⟩ ?_
                refine s_goto hG 108 dX12_asks_89 (by decide) ?_
                refine m_weak (ls1 := [none, none, none, none, none]) hG trivial ?_
                exact t_X12_asks_j108 hsk hd hG hE hF
              · replace hF := Eq.trans (if_neg c9).symm hF
                refine s_iconst hG dX12_asks_84 ⟨by decide, by decide⟩ ?_
                refine s_goto hG 108 dX12_asks_85 (by decide) ?_
                refine m_weak (ls1 := [none, none, none, none, none]) hG trivial ?_
                exact t_X12_asks_j108 hsk hd hG hE hF
            · replace hF := Eq.trans (if_neg c12).symm hF
              refine s_iload hG dX12_asks_92 rfl ?_
              refine s_aload_n hG dX12_asks_94 rfl ?_
              refine s_iload_n hG dX12_asks_95 rfl ?_
              refine s_iconst hG dX12_asks_96 ⟨by decide, by decide⟩ ?_
              obtain ⟨o10, ho10, hF⟩ := bd_some hF
              refine s_callV (d' := d - 1) (ci := 12) (args := [.inl a1, .inl 1]) hG (by omega) dX12_asks_97 cv_RX12_190 cw_X12_ofGood rfl rfl (sk_k hsk 64 rfl) (Nat.le_of_ble_eq_true rfl) rfl (t_X12_ofGood hsk (by omega) ho10) ?_
              refine s_icmp_ne hG 107 dX12_asks_100 (by decide) (fun c11 => ?_) (fun c11 => ?_)
              · replace hF := Eq.trans (if_pos c11).symm hF
                refine s_iconst hG dX12_asks_103 ⟨by decide, by decide⟩ ?_
                refine s_goto hG 108 dX12_asks_104 (by decide) ?_
                refine m_weak (ls1 := [none, none, none, none, none]) hG trivial ?_
                exact t_X12_asks_j108 hsk hd hG hE hF
              · replace hF := Eq.trans (if_neg c11).symm hF
                refine s_iconst hG dX12_asks_107 ⟨by decide, by decide⟩ ?_
                refine m_weak (ls1 := [none, none, none, none, none]) hG trivial ?_
                exact t_X12_asks_j108 hsk hd hG hE hF
-- X12_costOf
theorem t_X12_costOf {d : Nat} {X : MX} {N : NN} {a1 : Int} {a2 : Int} {a3 : Int} {out : (Int × NN)} (hsk : m_Sk X) (hd : 7 ≤ d) (hF : f_X12_costOf X N a1 a2 a3 = some out) : m_Call d yX12_costOf cX12_costOf 4 (some .int) [(.inr (.inr 64)), (.inl a1), (.inl a2), (.inl a3)] N X (some (.inl out.1)) out.2 X := by
  refine m_mk (ls0 := [some (.inr (.inr 64)), some (.inl a1), some (.inl a2), some (.inl a3)]) (by decide) rfl (Nat.le_of_ble_eq_true rfl) (Nat.le_refl _) (Nat.le_refl _) (fun Ω hE => ?_)
  have hG := hE.G
  unfold f_X12_costOf at hF
  refine s_aload_n hG dX12_costOf_0 rfl ?_
  refine s_iconst hG dX12_costOf_1 ⟨by decide, by decide⟩ ?_
  refine s_iload_n hG dX12_costOf_2 rfl ?_
  refine s_iconst hG dX12_costOf_3 ⟨by decide, by decide⟩ ?_
  refine s_iload_n hG dX12_costOf_4 rfl ?_
  refine s_iconst hG dX12_costOf_5 ⟨by decide, by decide⟩ ?_
  refine s_iload_n hG dX12_costOf_6 rfl ?_
  refine s_aload_n hG dX12_costOf_7 rfl ?_
  refine s_iload_n hG dX12_costOf_8 rfl ?_
  refine s_iconst hG dX12_costOf_9 ⟨by decide, by decide⟩ ?_
  obtain ⟨o1, ho1, hF⟩ := bd_some hF
  refine s_callV (d' := d - 1) (ci := 12) (args := [.inl a1, .inl 3]) hG (by omega) dX12_costOf_10 cv_RX12_190 cw_X12_ofGood rfl rfl (sk_k hsk 64 rfl) (Nat.le_of_ble_eq_true rfl) rfl (t_X12_ofGood hsk (by omega) ho1) ?_
  refine s_i2l hG dX12_costOf_13 ?_
  obtain ⟨o2, ho2, hF⟩ := bd_some hF
  refine s_callV (d' := d - 1) (ci := 12) (args := [.inl 1, .inl a1, .inl (-1), .inl a2, .inl (-1), .inl a3, .inr (.inl o1)]) hG (by omega) dX12_costOf_14 cv_RX12_435 cw_X12_tells1 rfl rfl (sk_k hsk 64 rfl) (Nat.le_of_ble_eq_true rfl) rfl (t_X12_tells1 hsk (by omega) ho2) ?_
  refine s_iconst hG dX12_costOf_17 ⟨by decide, by decide⟩ ?_
  refine s_bipush hG dX12_costOf_18 bp_99 ⟨by decide, by decide⟩ ?_
  obtain ⟨o3, ho3, hF⟩ := bd_some hF
  refine s_callS (d' := d - 1) (args := [.inr (.inl o2.1), .inl 0, .inl 99]) hG (by omega) dX12_costOf_20 cs_RX12_439 cw_X12_within rfl (Nat.le_of_ble_eq_true rfl) rfl (t_X12_within hsk (by omega) ho3) ?_
  cases hF
  exact s_iret hE dX12_costOf_23 rfl
