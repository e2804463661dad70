-- X3_run
theorem t_X3_run_b55 {d n0 s0 nF sF : Nat} {X : MX} {r1 : Nat} {r2 : Nat} {r3 : Nat} {Ω : Nat → MS → Prop} {N : NN} {a4 : Int} {a5 : Int} {a6 : Int} (hsk : m_Sk X) (hd : 7 ≤ d) (h2 : m_isW X r2) (h3 : m_isP X r3) (hG : m_G d yX3_run.cls yX3_run.name cX3_run 7 n0 s0 nF sF Ω) {out : ((NN × Int × Int × Int) ⊕ ((NN × Int) ⊕ (NN × Int)))} (hK0 : ∀ s' : (NN × Int × Int × Int), out = .inl s' → Ω 55 ([some (.inr (.inr 33)), some (.inr (.inr r1)), some (.inr (.inr r2)), some (.inr (.inr r3)), some (.inl (s'.2.1)), some (.inl (s'.2.2.1)), some (.inl (s'.2.2.2))], [], s'.1, X)) (hK1 : ∀ t : ((NN × Int) ⊕ (NN × Int)), out = .inr t → match t with | .inl e => Ω 104 ([some (.inr (.inr 33)), some (.inr (.inr r1)), some (.inr (.inr r2)), some (.inr (.inr r3)), some (.inl e.2), none, none], [], e.1, X) | .inr e => Ω 74 ([some (.inr (.inr 33)), none, some (.inr (.inr r2)), some (.inr (.inr r3)), some (.inl e.2), none, none], [], e.1, X)) (hF : b_X3_run_55 X r1 r2 r3 N a4 a5 a6 = some out) : Ω 55 ([some (.inr (.inr 33)), some (.inr (.inr r1)), some (.inr (.inr r2)), some (.inr (.inr r3)), some (.inl a4), some (.inl a5), some (.inl a6)], [], N, X) := by
  unfold b_X3_run_55 at hF
  refine s_iload hG dX3_run_55 rfl ?_
  refine s_iload hG dX3_run_57 rfl ?_
  refine s_icmp_ge hG 104 dX3_run_59 (by decide) (fun c12 => ?_) (fun c12 => ?_)
  · replace hF := Eq.trans (if_pos c12).symm hF
    refine s_aload_n hG dX3_run_62 rfl ?_
    refine s_aload_n hG dX3_run_63 rfl ?_
    refine s_iload hG dX3_run_64 rfl ?_
    refine s_aload_n hG dX3_run_66 rfl ?_
    refine s_aload_n hG dX3_run_67 rfl ?_
    obtain ⟨o10, ho10, hF⟩ := bd_some hF
    refine s_callV (d' := d - 1) (ci := 3) (args := [.inr (.inr r1), .inl a4, .inr (.inr r2), .inr (.inr r3)]) hG (by omega) dX3_run_68 cv_RX3_63 cw_X3_step rfl rfl (sk_k hsk 33 rfl) (Nat.le_of_ble_eq_true rfl) rfl (t_X3_step hsk (by omega) h2 h3 ho10) ?_
    refine s_if_ne hG 98 dX3_run_71 (by decide) (fun c11 => ?_) (fun c11 => ?_)
    · replace hF := Eq.trans (if_pos c11).symm hF
      cases hF
      refine m_weak (ls1 := [some (.inr (.inr 33)), none, some (.inr (.inr r2)), some (.inr (.inr r3)), some (.inl a4), none, none]) hG ⟨rfl, ⟨rfl, ⟨rfl, ⟨rfl, trivial⟩⟩⟩⟩ ?_
      exact hK1 _ rfl
    · replace hF := Eq.trans (if_neg c11).symm hF
      refine s_iinc hG dX3_run_98 (by decide) rfl rfl ?_
      refine s_goto hG 55 dX3_run_101 (by decide) ?_
      cases hF
      exact hK0 _ rfl
  · replace hF := Eq.trans (if_neg c12).symm hF
    cases hF
    refine m_weak (ls1 := [some (.inr (.inr 33)), some (.inr (.inr r1)), some (.inr (.inr r2)), some (.inr (.inr r3)), some (.inl a4), none, none]) hG ⟨rfl, ⟨rfl, ⟨rfl, ⟨rfl, ⟨rfl, trivial⟩⟩⟩⟩⟩ ?_
    exact hK1 _ rfl
theorem t_X3_run_lp55 {d n0 s0 nF sF : Nat} {X : MX} {r1 : Nat} {r2 : Nat} {r3 : Nat} {Ω : Nat → MS → Prop} {N : NN} {a4 : Int} {a5 : Int} {a6 : Int} (hsk : m_Sk X) (hd : 7 ≤ d) (h2 : m_isW X r2) (h3 : m_isP X r3) (hG : m_G d yX3_run.cls yX3_run.name cX3_run 7 n0 s0 nF sF Ω) {t : ((NN × Int) ⊕ (NN × Int))} (hK1 : match t with | .inl e => Ω 104 ([some (.inr (.inr 33)), some (.inr (.inr r1)), some (.inr (.inr r2)), some (.inr (.inr r3)), some (.inl e.2), none, none], [], e.1, X) | .inr e => Ω 74 ([some (.inr (.inr 33)), none, some (.inr (.inr r2)), some (.inr (.inr r3)), some (.inl e.2), none, none], [], e.1, X)) (hl : lp (fun s => b_X3_run_55 X r1 r2 r3 s.1 s.2.1 s.2.2.1 s.2.2.2) (N, a4, a5, a6) = some t) : Ω 55 ([some (.inr (.inr 33)), some (.inr (.inr r1)), some (.inr (.inr r2)), some (.inr (.inr r3)), some (.inl a4), some (.inl a5), some (.inl a6)], [], N, X) := by
  refine lp_ok (P := fun s => Ω 55 ([some (.inr (.inr 33)), some (.inr (.inr r1)), some (.inr (.inr r2)), some (.inr (.inr r3)), some (.inl s.2.1), some (.inl s.2.2.1), some (.inl s.2.2.2)], [], s.1, X)) (K := fun t => match t with | .inl e => Ω 104 ([some (.inr (.inr 33)), some (.inr (.inr r1)), some (.inr (.inr r2)), some (.inr (.inr r3)), some (.inl e.2), none, none], [], e.1, X) | .inr e => Ω 74 ([some (.inr (.inr 33)), none, some (.inr (.inr r2)), some (.inr (.inr r3)), some (.inl e.2), none, none], [], e.1, X)) (fun s out hF hK0 hK1 => ?_) hl hK1
  exact t_X3_run_b55 hsk hd h2 h3 hG (out := out) (fun s' e => hK0 s' e) (fun t' e => hK1 t' e) hF
theorem t_X3_run_b34 {d n0 s0 nF sF : Nat} {X : MX} {r1 : Nat} {r2 : Nat} {r3 : Nat} {Ω : Nat → MS → Prop} {N : NN} {a4 : Int} (hsk : m_Sk X) (hd : 7 ≤ d) (h2 : m_isW X r2) (h3 : m_isP X r3) (hG : m_G d yX3_run.cls yX3_run.name cX3_run 7 n0 s0 nF sF Ω) {out : ((NN × Int) ⊕ (NN ⊕ (NN × Int)))} (hK0 : ∀ s' : (NN × Int), out = .inl s' → Ω 34 ([some (.inr (.inr 33)), some (.inr (.inr r1)), some (.inr (.inr r2)), some (.inr (.inr r3)), some (.inl (s'.2)), none, none], [], s'.1, X)) (hK1 : ∀ t : (NN ⊕ (NN × Int)), out = .inr t → match t with | .inl e => Ω 110 ([some (.inr (.inr 33)), none, none, none, none, none, none], [], e, X) | .inr e => Ω 74 ([some (.inr (.inr 33)), none, some (.inr (.inr r2)), some (.inr (.inr r3)), some (.inl e.2), none, none], [], e.1, X)) (hF : b_X3_run_34 X r1 r2 r3 N a4 = some out) : Ω 34 ([some (.inr (.inr 33)), some (.inr (.inr r1)), some (.inr (.inr r2)), some (.inr (.inr r3)), some (.inl a4), none, none], [], N, X) := by
  unfold b_X3_run_34 at hF
  refine s_iload hG dX3_run_34 rfl ?_
  refine s_aload_n hG dX3_run_36 rfl ?_
  obtain ⟨g6, hF⟩ := gd_some hF
  obtain ⟨o7, ho7, hF⟩ := bd_some hF
  refine s_callV (d' := d - 1) (ci := 8) (args := []) hG (by omega) dX3_run_37 cv_RX3_55 cw_X8_clauses rfl rfl g6.1 (Nat.le_of_ble_eq_true rfl) rfl (t_X8_clauses hsk (by omega) g6 ho7) ?_
  refine s_icmp_ge hG 110 dX3_run_40 (by decide) (fun c14 => ?_) (fun c14 => ?_)
  · replace hF := Eq.trans (if_pos c14).symm hF
    refine s_aload_n hG dX3_run_43 rfl ?_
    refine s_iload hG dX3_run_44 rfl ?_
    refine s_iconst hG dX3_run_46 ⟨by decide, by decide⟩ ?_
    obtain ⟨g8, hF⟩ := gd_some hF
    obtain ⟨o9, ho9, hF⟩ := bd_some hF
    refine s_callV (d' := d - 1) (ci := 8) (args := [.inl a4, .inl 1]) hG (by omega) dX3_run_47 cv_RX3_59 cw_X8_part rfl rfl g8.1 (Nat.le_of_ble_eq_true rfl) rfl (t_X8_part hsk (by omega) g8 ho9) ?_
    refine s_istore hG dX3_run_50 (by decide) rfl ?_
    refine s_iconst hG dX3_run_52 ⟨by decide, by decide⟩ ?_
    refine s_istore hG dX3_run_53 (by decide) rfl ?_
    obtain ⟨o13, hlo13, hF⟩ := bd_some hF
    refine t_X3_run_lp55 hsk hd h2 h3 hG ?_ hlo13
    match o13, hF with
    | .inl e13, hF =>
          try dsimp only at hF
          refine s_iinc hG dX3_run_104 (by decide) rfl rfl ?_
          refine s_goto hG 34 dX3_run_107 (by decide) ?_
          cases hF
          exact hK0 _ rfl
    | .inr e13, hF =>
          try dsimp only at hF
          cases hF
          exact hK1 _ rfl
  · replace hF := Eq.trans (if_neg c14).symm hF
    cases hF
    refine m_weak (ls1 := [some (.inr (.inr 33)), none, none, none, none, none, none]) hG ⟨rfl, trivial⟩ ?_
    exact hK1 _ rfl
theorem t_X3_run_lp34 {d n0 s0 nF sF : Nat} {X : MX} {r1 : Nat} {r2 : Nat} {r3 : Nat} {Ω : Nat → MS → Prop} {N : NN} {a4 : Int} (hsk : m_Sk X) (hd : 7 ≤ d) (h2 : m_isW X r2) (h3 : m_isP X r3) (hG : m_G d yX3_run.cls yX3_run.name cX3_run 7 n0 s0 nF sF Ω) {t : (NN ⊕ (NN × Int))} (hK1 : match t with | .inl e => Ω 110 ([some (.inr (.inr 33)), none, none, none, none, none, none], [], e, X) | .inr e => Ω 74 ([some (.inr (.inr 33)), none, some (.inr (.inr r2)), some (.inr (.inr r3)), some (.inl e.2), none, none], [], e.1, X)) (hl : lp (fun s => b_X3_run_34 X r1 r2 r3 s.1 s.2) (N, a4) = some t) : Ω 34 ([some (.inr (.inr 33)), some (.inr (.inr r1)), some (.inr (.inr r2)), some (.inr (.inr r3)), some (.inl a4), none, none], [], N, X) := by
  refine lp_ok (P := fun s => Ω 34 ([some (.inr (.inr 33)), some (.inr (.inr r1)), some (.inr (.inr r2)), some (.inr (.inr r3)), some (.inl s.2), none, none], [], s.1, X)) (K := fun t => match t with | .inl e => Ω 110 ([some (.inr (.inr 33)), none, none, none, none, none, none], [], e, X) | .inr e => Ω 74 ([some (.inr (.inr 33)), none, some (.inr (.inr r2)), some (.inr (.inr r3)), some (.inl e.2), none, none], [], e.1, X)) (fun s out hF hK0 hK1 => ?_) hl hK1
  exact t_X3_run_b34 hsk hd h2 h3 hG (out := out) (fun s' e => hK0 s' e) (fun t' e => hK1 t' e) hF
theorem t_X3_run {d : Nat} {X : MX} {r1 : Nat} {r2 : Nat} {r3 : Nat} {N : NN} {out : (Int × NN)} (hsk : m_Sk X) (hd : 7 ≤ d) (h2 : m_isW X r2) (h3 : m_isP X r3) (hF : f_X3_run X r1 r2 r3 N = some out) : m_Call d yX3_run cX3_run 7 (some .int) [(.inr (.inr 33)), (.inr (.inr r1)), (.inr (.inr r2)), (.inr (.inr r3))] N X (some (.inl out.1)) out.2 X := by
  refine m_mk (ls0 := [some (.inr (.inr 33)), some (.inr (.inr r1)), some (.inr (.inr r2)), some (.inr (.inr r3)), none, none, none]) (by decide) rfl (Nat.le_of_ble_eq_true rfl) (Nat.le_refl _) (Nat.le_refl _) (fun Ω hE => ?_)
  have hG := hE.G
  unfold f_X3_run at hF
  refine s_aload_n hG dX3_run_0 rfl ?_
  refine s_getr (r := 34) hG dX3_run_1 fl_RX3_14 (sk_k hsk 33 rfl) rfl (sk_R hsk 33 1 rfl) ?_
  refine s_aload_n hG dX3_run_4 rfl ?_
  obtain ⟨o1, ho1, hF⟩ := bd_some hF
  refine s_callV (d' := d - 1) (ci := 10) (args := [.inr (.inr r2)]) hG (by omega) dX3_run_5 cv_RX3_48 cw_X10_copyFrom rfl rfl (sk_k hsk 34 rfl) (Nat.le_of_ble_eq_true rfl) rfl (t_X10_copyFrom hsk (by omega) (sk_W34 hsk) h2 ho1) ?_
  refine s_aload_n hG dX3_run_8 rfl ?_
  refine s_getr (r := 37) hG dX3_run_9 fl_RX3_21 (sk_k hsk 33 rfl) rfl (sk_R hsk 33 2 rfl) ?_
  refine s_aload_n hG dX3_run_12 rfl ?_
  obtain ⟨o2, ho2, hF⟩ := bd_some hF
  refine s_callV (d' := d - 1) (ci := 4) (args := [.inr (.inr r3)]) hG (by omega) dX3_run_13 cv_RX3_52 cw_X4_copyFrom rfl rfl (sk_k hsk 37 rfl) (Nat.le_of_ble_eq_true rfl) rfl (t_X4_copyFrom hsk (by omega) (sk_P37 hsk) h3 ho2) ?_
  refine s_aload_n hG dX3_run_16 rfl ?_
  refine s_iconst hG dX3_run_17 ⟨by decide, by decide⟩ ?_
  refine s_puti hG dX3_run_18 fl_RX3_34 (fun h => by cases h) (sk_k hsk 33 rfl) rfl ?_
  refine s_aload_n hG dX3_run_21 rfl ?_
  refine s_iconst hG dX3_run_22 ⟨by decide, by decide⟩ ?_
  refine s_puti hG dX3_run_23 fl_RX3_38 (fun h => by cases h) (sk_k hsk 33 rfl) rfl ?_
  refine s_aload_n hG dX3_run_26 rfl ?_
  refine s_iconst hG dX3_run_27 ⟨by decide, by decide⟩ ?_
  refine s_puti hG dX3_run_28 fl_RX3_41 (fun h => by cases h) (sk_k hsk 33 rfl) rfl ?_
  refine s_iconst hG dX3_run_31 ⟨by decide, by decide⟩ ?_
  refine s_istore hG dX3_run_32 (by decide) rfl ?_
  obtain ⟨o15, hlo15, hF⟩ := bd_some hF
  refine t_X3_run_lp34 hsk hd h2 h3 hG ?_ hlo15
  match o15, hF with
  | .inl e15, hF =>
        try dsimp only at hF
        refine s_aload_n hG dX3_run_110 rfl ?_
        refine s_geti hG dX3_run_111 fl_RX3_38 (sk_k hsk 33 rfl) rfl ?_
        cases hF
        exact s_iret hE dX3_run_114 rfl
  | .inr e15, hF =>
        try dsimp only at hF
        refine s_aload_n hG dX3_run_74 rfl ?_
        refine s_aload_n hG dX3_run_75 rfl ?_
        refine s_getr (r := 34) hG dX3_run_76 fl_RX3_14 (sk_k hsk 33 rfl) rfl (sk_R hsk 33 1 rfl) ?_
        obtain ⟨o16, ho16, hF⟩ := bd_some hF
        refine s_callV (d' := d - 1) (ci := 10) (args := [.inr (.inr 34)]) hG (by omega) dX3_run_79 cv_RX3_48 cw_X10_copyFrom rfl rfl h2.1 (Nat.le_of_ble_eq_true rfl) rfl (t_X10_copyFrom hsk (by omega) h2 (sk_W34 hsk) ho16) ?_
        refine s_aload_n hG dX3_run_82 rfl ?_
        refine s_aload_n hG dX3_run_83 rfl ?_
        refine s_getr (r := 37) hG dX3_run_84 fl_RX3_21 (sk_k hsk 33 rfl) rfl (sk_R hsk 33 2 rfl) ?_
        obtain ⟨o17, ho17, hF⟩ := bd_some hF
        refine s_callV (d' := d - 1) (ci := 4) (args := [.inr (.inr 37)]) hG (by omega) dX3_run_87 cv_RX3_52 cw_X4_copyFrom rfl rfl h3.1 (Nat.le_of_ble_eq_true rfl) rfl (t_X4_copyFrom hsk (by omega) h3 (sk_P37 hsk) ho17) ?_
        refine s_aload_n hG dX3_run_90 rfl ?_
        refine s_iload hG dX3_run_91 rfl ?_
        refine s_puti hG dX3_run_93 fl_RX3_34 (fun h => by cases h) (sk_k hsk 33 rfl) rfl ?_
        refine s_iconst hG dX3_run_96 ⟨by decide, by decide⟩ ?_
        cases hF
        exact s_iret hE dX3_run_97 rfl
-- X5_advance
theorem t_X5_advance {d : Nat} {X : MX} {N : NN} {out : NN} (hsk : m_Sk X) (hd : 1 ≤ d) (hF : f_X5_advance X N = some out) : m_Call d yX5_advance cX5_advance 1 none [(.inr (.inr 16))] N X none out X := by
  refine m_mk (ls0 := [some (.inr (.inr 16))]) (by decide) rfl (Nat.le_of_ble_eq_true rfl) (Nat.le_refl _) (Nat.le_refl _) (fun Ω hE => ?_)
  have hG := hE.G
  unfold f_X5_advance at hF
  refine s_aload_n hG dX5_advance_0 rfl ?_
  refine s_geti hG dX5_advance_1 fl_RX5_50 (sk_k hsk 16 rfl) rfl ?_
  refine s_iconst hG dX5_advance_4 ⟨by decide, by decide⟩ ?_
  refine s_icmp_eq hG 41 dX5_advance_5 (by decide) (fun c5 => ?_) (fun c5 => ?_)
  · replace hF := Eq.trans (if_pos c5).symm hF
    cases hF
    exact s_vret hE dX5_advance_41 rfl
  · replace hF := Eq.trans (if_neg c5).symm hF
    refine s_aload_n hG dX5_advance_8 rfl ?_
    refine s_geti hG dX5_advance_9 fl_RX5_47 (sk_k hsk 16 rfl) rfl ?_
    refine s_sipush hG dX5_advance_12 sp_400 ⟨by decide, by decide⟩ ?_
    refine s_icmp_ge hG 41 dX5_advance_15 (by decide) (fun c4 => ?_) (fun c4 => ?_)
    · replace hF := Eq.trans (if_pos c4).symm hF
      refine s_aload_n hG dX5_advance_18 rfl ?_
      refine s_dup hG dX5_advance_19 rfl ?_
      refine s_geti hG dX5_advance_20 fl_RX5_47 (sk_k hsk 16 rfl) rfl ?_
      refine s_iconst hG dX5_advance_23 ⟨by decide, by decide⟩ ?_
      refine s_iadd hG dX5_advance_24 ?_
      refine s_puti hG dX5_advance_25 fl_RX5_47 (fun h => by cases h) (sk_k hsk 16 rfl) rfl ?_
      let N1 : NN := m_up N 16 9 (m_w ((N 16 9) + 1))
      refine s_aload_n hG dX5_advance_28 rfl ?_
      refine s_aload_n hG dX5_advance_29 rfl ?_
      refine s_getr (r := 18) hG dX5_advance_30 fl_RX5_15 (sk_k hsk 16 rfl) rfl (sk_R hsk 16 1 rfl) ?_
      refine s_aload_n hG dX5_advance_33 rfl ?_
      refine s_geti hG dX5_advance_34 fl_RX5_47 (sk_k hsk 16 rfl) rfl ?_
      obtain ⟨g2, hF⟩ := gd_some hF
      refine s_ialdj (j := (N1 16 9).toNat) hG dX5_advance_37 (sk_K hsk 18 rfl) g2 rfl ?_
      refine s_puti hG dX5_advance_38 fl_RX5_50 (fun h => by cases h) (sk_k hsk 16 rfl) rfl ?_
      cases hF
      exact s_vret hE dX5_advance_41 rfl
    · replace hF := Eq.trans (if_neg c4).symm hF
      cases hF
      exact s_vret hE dX5_advance_41 rfl
-- X5_lawWord
theorem t_X5_lawWord_j78 {d n0 s0 nF sF : Nat} {X : MX} {N : NN} {Ω : Nat → MS → Prop} {z0 : Int} (hsk : m_Sk X) (hd : 1 ≤ d) (hG : m_G d yX5_lawWord.cls yX5_lawWord.name cX5_lawWord 1 n0 s0 nF sF Ω) {out : Int} (hE : m_Gd d yX5_lawWord cX5_lawWord 1 (some .int) X (some (.inl out)) N X Ω) (hF : f_X5_lawWord_j78 X N z0 = some out) : Ω 78 ([none], [(.inl z0)], N, X) := by
  unfold f_X5_lawWord_j78 at hF
  cases hF
  exact s_iret hE dX5_lawWord_78 rfl
theorem t_X5_lawWord_j63 {d n0 s0 nF sF : Nat} {X : MX} {N : NN} {Ω : Nat → MS → Prop} (hsk : m_Sk X) (hd : 1 ≤ d) (hG : m_G d yX5_lawWord.cls yX5_lawWord.name cX5_lawWord 1 n0 s0 nF sF Ω) {out : Int} (hE : m_Gd d yX5_lawWord cX5_lawWord 1 (some .int) X (some (.inl out)) N X Ω) (hF : f_X5_lawWord_j63 X N = some out) : Ω 63 ([some (.inr (.inr 16))], [], N, X) := by
  unfold f_X5_lawWord_j63 at hF
  refine s_aload_n hG dX5_lawWord_63 rfl ?_
  refine s_geti hG dX5_lawWord_64 fl_RX5_50 (sk_k hsk 16 rfl) rfl ?_
  refine s_sipush hG dX5_lawWord_67 sp_264 ⟨by decide, by decide⟩ ?_
  refine s_icmp_ne hG 77 dX5_lawWord_70 (by decide) (fun c5 => ?_) (fun c5 => ?_)
  · replace hF := Eq.trans (if_pos c5).symm hF
    refine s_iconst hG dX5_lawWord_73 ⟨by decide, by decide⟩ ?_
    refine s_goto hG 78 dX5_lawWord_74 (by decide) ?_
    refine m_weak (ls1 := [none]) hG trivial ?_
    exact t_X5_lawWord_j78 hsk hd hG hE hF
  · replace hF := Eq.trans (if_neg c5).symm hF
    refine s_iconst hG dX5_lawWord_77 ⟨by decide, by decide⟩ ?_
    refine m_weak (ls1 := [none]) hG trivial ?_
    exact t_X5_lawWord_j78 hsk hd hG hE hF
theorem t_X5_lawWord_j31 {d n0 s0 nF sF : Nat} {X : MX} {N : NN} {Ω : Nat → MS → Prop} (hsk : m_Sk X) (hd : 1 ≤ d) (hG : m_G d yX5_lawWord.cls yX5_lawWord.name cX5_lawWord 1 n0 s0 nF sF Ω) {out : Int} (hE : m_Gd d yX5_lawWord cX5_lawWord 1 (some .int) X (some (.inl out)) N X Ω) (hF : f_X5_lawWord_j31 X N = some out) : Ω 31 ([some (.inr (.inr 16))], [], N, X) := by
  unfold f_X5_lawWord_j31 at hF
  refine s_aload_n hG dX5_lawWord_31 rfl ?_
  refine s_geti hG dX5_lawWord_32 fl_RX5_50 (sk_k hsk 16 rfl) rfl ?_
  refine s_sipush hG dX5_lawWord_35 sp_272 ⟨by decide, by decide⟩ ?_
  refine s_icmp_lt hG 63 dX5_lawWord_38 (by decide) (fun c4 => ?_) (fun c4 => ?_)
  · replace hF := Eq.trans (if_pos c4).symm hF
    exact t_X5_lawWord_j63 hsk hd hG hE hF
  · replace hF := Eq.trans (if_neg c4).symm hF
    refine s_aload_n hG dX5_lawWord_41 rfl ?_
    refine s_geti hG dX5_lawWord_42 fl_RX5_50 (sk_k hsk 16 rfl) rfl ?_
    refine s_sipush hG dX5_lawWord_45 sp_274 ⟨by decide, by decide⟩ ?_
    refine s_icmp_gt hG 63 dX5_lawWord_48 (by decide) (fun c3 => ?_) (fun c3 => ?_)
    · replace hF := Eq.trans (if_pos c3).symm hF
      exact t_X5_lawWord_j63 hsk hd hG hE hF
    · replace hF := Eq.trans (if_neg c3).symm hF
      refine s_aload_n hG dX5_lawWord_51 rfl ?_
      refine s_geti hG dX5_lawWord_52 fl_RX5_50 (sk_k hsk 16 rfl) rfl ?_
      refine s_sipush hG dX5_lawWord_55 sp_272 ⟨by decide, by decide⟩ ?_
      refine s_isub hG dX5_lawWord_58 ?_
      refine s_bipush hG dX5_lawWord_59 bp_6 ⟨by decide, by decide⟩ ?_
      refine s_iadd hG dX5_lawWord_61 ?_
      cases hF
      exact s_iret hE dX5_lawWord_62 rfl
theorem t_X5_lawWord {d : Nat} {X : MX} {N : NN} {out : Int} (hsk : m_Sk X) (hd : 1 ≤ d) (hF : f_X5_lawWord X N = some out) : m_Call d yX5_lawWord cX5_lawWord 1 (some .int) [(.inr (.inr 16))] N X (some (.inl out)) N X := by
  refine m_mk (ls0 := [some (.inr (.inr 16))]) (by decide) rfl (Nat.le_of_ble_eq_true rfl) (Nat.le_refl _) (Nat.le_refl _) (fun Ω hE => ?_)
  have hG := hE.G
  unfold f_X5_lawWord at hF
  refine s_aload_n hG dX5_lawWord_0 rfl ?_
  refine s_geti hG dX5_lawWord_1 fl_RX5_50 (sk_k hsk 16 rfl) rfl ?_
  refine s_sipush hG dX5_lawWord_4 sp_267 ⟨by decide, by decide⟩ ?_
  refine s_icmp_lt hG 31 dX5_lawWord_7 (by decide) (fun c2 => ?_) (fun c2 => ?_)
  · replace hF := Eq.trans (if_pos c2).symm hF
    exact t_X5_lawWord_j31 hsk hd hG hE hF
  · replace hF := Eq.trans (if_neg c2).symm hF
    refine s_aload_n hG dX5_lawWord_10 rfl ?_
    refine s_geti hG dX5_lawWord_11 fl_RX5_50 (sk_k hsk 16 rfl) rfl ?_
    refine s_sipush hG dX5_lawWord_14 sp_271 ⟨by decide, by decide⟩ ?_
    refine s_icmp_gt hG 31 dX5_lawWord_17 (by decide) (fun c1 => ?_) (fun c1 => ?_)
    · replace hF := Eq.trans (if_pos c1).symm hF
      exact t_X5_lawWord_j31 hsk hd hG hE hF
    · replace hF := Eq.trans (if_neg c1).symm hF
      refine s_aload_n hG dX5_lawWord_20 rfl ?_
      refine s_geti hG dX5_lawWord_21 fl_RX5_50 (sk_k hsk 16 rfl) rfl ?_
      refine s_sipush hG dX5_lawWord_24 sp_267 ⟨by decide, by decide⟩ ?_
      refine s_isub hG dX5_lawWord_27 ?_
      refine s_iconst hG dX5_lawWord_28 ⟨by decide, by decide⟩ ?_
      refine s_iadd hG dX5_lawWord_29 ?_
      cases hF
      exact s_iret hE dX5_lawWord_30 rfl
-- X5_orderWord
theorem t_X5_orderWord_j31 {d n0 s0 nF sF : Nat} {X : MX} {N : NN} {Ω : Nat → MS → Prop} (hsk : m_Sk X) (hd : 1 ≤ d) (hG : m_G d yX5_orderWord.cls yX5_orderWord.name cX5_orderWord 1 n0 s0 nF sF Ω) {out : Int} (hE : m_Gd d yX5_orderWord cX5_orderWord 1 (some .int) X (some (.inl out)) N X Ω) (hF : f_X5_orderWord_j31 X N = some out) : Ω 31 ([some (.inr (.inr 16))], [], N, X) := by
  unfold f_X5_orderWord_j31 at hF
  refine s_aload_n hG dX5_orderWord_31 rfl ?_
  refine s_geti hG dX5_orderWord_32 fl_RX5_50 (sk_k hsk 16 rfl) rfl ?_
  by_cases c12 : N 16 10 = 272
  · replace hF := Eq.trans (if_pos c12).symm hF
    refine s_tableIn hG (off := 49) 84 dX5_orderWord_35 (by omega) (by omega) (by rw [c12]; rfl) (by decide) ?_
    refine s_iconst hG dX5_orderWord_84 ⟨by decide, by decide⟩ ?_
    cases hF
    exact s_iret hE dX5_orderWord_85 rfl
  · replace hF := Eq.trans (if_neg c12).symm hF
    by_cases c11 : N 16 10 = 273
    · replace hF := Eq.trans (if_pos c11).symm hF
      refine s_tableIn hG (off := 59) 94 dX5_orderWord_35 (by omega) (by omega) (by rw [c11]; rfl) (by decide) ?_
      refine s_iconst hG dX5_orderWord_94 ⟨by decide, by decide⟩ ?_
      cases hF
      exact s_iret hE dX5_orderWord_95 rfl
    · replace hF := Eq.trans (if_neg c11).symm hF
      by_cases c10 : N 16 10 = 274
      · replace hF := Eq.trans (if_pos c10).symm hF
        refine s_tableIn hG (off := 59) 94 dX5_orderWord_35 (by omega) (by omega) (by rw [c10]; rfl) (by decide) ?_
        refine s_iconst hG dX5_orderWord_94 ⟨by decide, by decide⟩ ?_
        cases hF
        exact s_iret hE dX5_orderWord_95 rfl
      · replace hF := Eq.trans (if_neg c10).symm hF
        by_cases c9 : N 16 10 = 275
        · replace hF := Eq.trans (if_pos c9).symm hF
          refine s_tableIn hG (off := 59) 94 dX5_orderWord_35 (by omega) (by omega) (by rw [c9]; rfl) (by decide) ?_
          refine s_iconst hG dX5_orderWord_94 ⟨by decide, by decide⟩ ?_
          cases hF
          exact s_iret hE dX5_orderWord_95 rfl
        · replace hF := Eq.trans (if_neg c9).symm hF
          by_cases c8 : N 16 10 = 276
          · replace hF := Eq.trans (if_pos c8).symm hF
            refine s_tableIn hG (off := 59) 94 dX5_orderWord_35 (by omega) (by omega) (by rw [c8]; rfl) (by decide) ?_
            refine s_iconst hG dX5_orderWord_94 ⟨by decide, by decide⟩ ?_
            cases hF
            exact s_iret hE dX5_orderWord_95 rfl
          · replace hF := Eq.trans (if_neg c8).symm hF
            by_cases c7 : N 16 10 = 277
            · replace hF := Eq.trans (if_pos c7).symm hF
              refine s_tableIn hG (off := 59) 94 dX5_orderWord_35 (by omega) (by omega) (by rw [c7]; rfl) (by decide) ?_
              refine s_iconst hG dX5_orderWord_94 ⟨by decide, by decide⟩ ?_
              cases hF
              exact s_iret hE dX5_orderWord_95 rfl
            · replace hF := Eq.trans (if_neg c7).symm hF
              by_cases c6 : N 16 10 = 278
              · replace hF := Eq.trans (if_pos c6).symm hF
                refine s_tableIn hG (off := 51) 86 dX5_orderWord_35 (by omega) (by omega) (by rw [c6]; rfl) (by decide) ?_
                refine s_iconst hG dX5_orderWord_86 ⟨by decide, by decide⟩ ?_
                cases hF
                exact s_iret hE dX5_orderWord_87 rfl
              · replace hF := Eq.trans (if_neg c6).symm hF
                by_cases c5 : N 16 10 = 279
                · replace hF := Eq.trans (if_pos c5).symm hF
                  refine s_tableIn hG (off := 53) 88 dX5_orderWord_35 (by omega) (by omega) (by rw [c5]; rfl) (by decide) ?_
                  refine s_bipush hG dX5_orderWord_88 bp_10 ⟨by decide, by decide⟩ ?_
                  cases hF
                  exact s_iret hE dX5_orderWord_90 rfl
                · replace hF := Eq.trans (if_neg c5).symm hF
                  by_cases c4 : N 16 10 = 280
                  · replace hF := Eq.trans (if_pos c4).symm hF
                    refine s_tableIn hG (off := 56) 91 dX5_orderWord_35 (by omega) (by omega) (by rw [c4]; rfl) (by decide) ?_
                    refine s_bipush hG dX5_orderWord_91 bp_26 ⟨by decide, by decide⟩ ?_
                    cases hF
                    exact s_iret hE dX5_orderWord_93 rfl
                  · replace hF := Eq.trans (if_neg c4).symm hF
                    refine s_tableOut hG 94 dX5_orderWord_35 (by omega) (by decide) ?_
                    refine s_iconst hG dX5_orderWord_94 ⟨by decide, by decide⟩ ?_
                    cases hF
                    exact s_iret hE dX5_orderWord_95 rfl
theorem t_X5_orderWord {d : Nat} {X : MX} {N : NN} {out : Int} (hsk : m_Sk X) (hd : 1 ≤ d) (hF : f_X5_orderWord X N = some out) : m_Call d yX5_orderWord cX5_orderWord 1 (some .int) [(.inr (.inr 16))] N X (some (.inl out)) N X := by
  refine m_mk (ls0 := [some (.inr (.inr 16))]) (by decide) rfl (Nat.le_of_ble_eq_true rfl) (Nat.le_refl _) (Nat.le_refl _) (fun Ω hE => ?_)
  have hG := hE.G
  unfold f_X5_orderWord at hF
  refine s_aload_n hG dX5_orderWord_0 rfl ?_
  refine s_geti hG dX5_orderWord_1 fl_RX5_50 (sk_k hsk 16 rfl) rfl ?_
  refine s_sipush hG dX5_orderWord_4 sp_275 ⟨by decide, by decide⟩ ?_
  refine s_icmp_lt hG 31 dX5_orderWord_7 (by decide) (fun c2 => ?_) (fun c2 => ?_)
  · replace hF := Eq.trans (if_pos c2).symm hF
    exact t_X5_orderWord_j31 hsk hd hG hE hF
  · replace hF := Eq.trans (if_neg c2).symm hF
    refine s_aload_n hG dX5_orderWord_10 rfl ?_
    refine s_geti hG dX5_orderWord_11 fl_RX5_50 (sk_k hsk 16 rfl) rfl ?_
    refine s_sipush hG dX5_orderWord_14 sp_277 ⟨by decide, by decide⟩ ?_
    refine s_icmp_gt hG 31 dX5_orderWord_17 (by decide) (fun c1 => ?_) (fun c1 => ?_)
    · replace hF := Eq.trans (if_pos c1).symm hF
      exact t_X5_orderWord_j31 hsk hd hG hE hF
    · replace hF := Eq.trans (if_neg c1).symm hF
      refine s_aload_n hG dX5_orderWord_20 rfl ?_
      refine s_geti hG dX5_orderWord_21 fl_RX5_50 (sk_k hsk 16 rfl) rfl ?_
      refine s_sipush hG dX5_orderWord_24 sp_275 ⟨by decide, by decide⟩ ?_
      refine s_isub hG dX5_orderWord_27 ?_
      refine s_iconst hG dX5_orderWord_28 ⟨by decide, by decide⟩ ?_
      refine s_iadd hG dX5_orderWord_29 ?_
      cases hF
      exact s_iret hE dX5_orderWord_30 rfl
-- X5_wrong
theorem t_X5_wrong {d : Nat} {X : MX} {N : NN} {out : (Int × NN)} (hsk : m_Sk X) (hd : 1 ≤ d) (hF : f_X5_wrong X N = some out) : m_Call d yX5_wrong cX5_wrong 1 (some .boolean) [(.inr (.inr 16))] N X (some (.inl out.1)) out.2 X := by
  refine m_mk (ls0 := [some (.inr (.inr 16))]) (by decide) rfl (Nat.le_of_ble_eq_true rfl) (Nat.le_refl _) (Nat.le_refl _) (fun Ω hE => ?_)
  have hG := hE.G
  unfold f_X5_wrong at hF
  refine s_aload_n hG dX5_wrong_0 rfl ?_
  refine s_aload_n hG dX5_wrong_1 rfl ?_
  refine s_getr (r := 20) hG dX5_wrong_2 fl_RX5_21 (sk_k hsk 16 rfl) rfl (sk_R hsk 16 3 rfl) ?_
  refine s_aload_n hG dX5_wrong_5 rfl ?_
  refine s_geti hG dX5_wrong_6 fl_RX5_47 (sk_k hsk 16 rfl) rfl ?_
  obtain ⟨g1, hF⟩ := gd_some hF
  refine s_ialdj (j := (N 16 9).toNat) hG dX5_wrong_9 (sk_K hsk 20 rfl) g1 rfl ?_
  refine s_puti hG dX5_wrong_10 fl_RX5_37 (fun h => by cases h) (sk_k hsk 16 rfl) rfl ?_
  refine s_iconst hG dX5_wrong_13 ⟨by decide, by decide⟩ ?_
  cases hF
  exact s_zret hE dX5_wrong_14 rfl ⟨by decide, by decide⟩
-- X8_add
theorem t_X8_add_j42 {d n0 s0 nF sF : Nat} {X : MX} {r0 : Nat} {Ω : Nat → MS → Prop} {N : NN} (hsk : m_Sk X) (hd : 1 ≤ d) (h0 : m_isT X r0) (hG : m_G d yX8_add.cls yX8_add.name cX8_add 3 n0 s0 nF sF Ω) {out : (Int × NN)} (hE : m_Gd d yX8_add cX8_add 3 (some .int) X (some (.inl out.1)) out.2 X Ω) (hF : f_X8_add_j42 X r0 N = some out) : Ω 42 ([some (.inr (.inr r0)), none, none], [], N, X) := by
  unfold f_X8_add_j42 at hF
  refine s_aload_n hG dX8_add_42 rfl ?_
  refine s_geti hG dX8_add_43 fl_RX8_25 h0.1 rfl ?_
  refine s_iconst hG dX8_add_46 ⟨by decide, by decide⟩ ?_
  refine s_isub hG dX8_add_47 ?_
  cases hF
  exact s_iret hE dX8_add_48 rfl
theorem t_X8_add {d : Nat} {X : MX} {r0 : Nat} {N : NN} {a1 : Int} {a2 : Int} {out : (Int × NN)} (hsk : m_Sk X) (hd : 1 ≤ d) (h0 : m_isT X r0) (hF : f_X8_add X r0 N a1 a2 = some out) : m_Call d yX8_add cX8_add 3 (some .int) [(.inr (.inr r0)), (.inl a1), (.inl a2)] N X (some (.inl out.1)) out.2 X := by
  refine m_mk (ls0 := [some (.inr (.inr r0)), some (.inl a1), some (.inl a2)]) (by decide) rfl (Nat.le_of_ble_eq_true rfl) (Nat.le_refl _) (Nat.le_refl _) (fun Ω hE => ?_)
  have hG := hE.G
  unfold f_X8_add at hF
  refine s_aload_n hG dX8_add_0 rfl ?_
  refine s_geti hG dX8_add_1 fl_RX8_25 h0.1 rfl ?_
  refine s_aload_n hG dX8_add_4 rfl ?_
  refine s_getr (r := (r0 + 1)) hG dX8_add_5 fl_RX8_13 h0.1 rfl h0.2.1 ?_
  obtain ⟨g1, hF⟩ := gd_some hF
  refine s_alen1j (v := ((xK X (r0 + 1)).2 : Int)) hG dX8_add_8 (m_k1 h0.2.2.2.2.1) g1 rfl ?_
  refine s_icmp_ge hG 42 dX8_add_9 (by decide) (fun c7 => ?_) (fun c7 => ?_)
  · replace hF := Eq.trans (if_pos c7).symm hF
    refine s_aload_n hG dX8_add_12 rfl ?_
    refine s_getr (r := (r0 + 1)) hG dX8_add_13 fl_RX8_13 h0.1 rfl h0.2.1 ?_
    refine s_aload_n hG dX8_add_16 rfl ?_
    refine s_geti hG dX8_add_17 fl_RX8_25 h0.1 rfl ?_
    refine s_iload_n hG dX8_add_20 rfl ?_
    obtain ⟨g2, hF⟩ := gd_some hF
    refine s_iastj (j := (N r0 3).toNat) hG dX8_add_21 (m_k1 h0.2.2.2.2.1) g2 rfl ?_
    let N3 : NN := m_up N (r0 + 1) ((N r0 3).toNat) a1
    refine s_aload_n hG dX8_add_22 rfl ?_
    refine s_getr (r := (r0 + 2)) hG dX8_add_23 fl_RX8_19 h0.1 rfl h0.2.2.1 ?_
    refine s_aload_n hG dX8_add_26 rfl ?_
    refine s_geti hG dX8_add_27 fl_RX8_25 h0.1 rfl ?_
    refine s_iload_n hG dX8_add_30 rfl ?_
    obtain ⟨g4, hF⟩ := gd_some hF
    refine s_iastj (j := (N3 r0 3).toNat) hG dX8_add_31 (m_k1 h0.2.2.2.2.2.1) g4 rfl ?_
    refine s_aload_n hG dX8_add_32 rfl ?_
    refine s_dup hG dX8_add_33 rfl ?_
    refine s_geti hG dX8_add_34 fl_RX8_25 h0.1 rfl ?_
    refine s_iconst hG dX8_add_37 ⟨by decide, by decide⟩ ?_
    refine s_iadd hG dX8_add_38 ?_
    refine s_puti hG dX8_add_39 fl_RX8_25 (fun h => by cases h) h0.1 rfl ?_
    refine m_weak (ls1 := [some (.inr (.inr r0)), none, none]) hG ⟨rfl, trivial⟩ ?_
    exact t_X8_add_j42 hsk hd h0 hG hE hF
  · replace hF := Eq.trans (if_neg c7).symm hF
    refine m_weak (ls1 := [some (.inr (.inr r0)), none, none]) hG ⟨rfl, trivial⟩ ?_
    exact t_X8_add_j42 hsk hd h0 hG hE hF
-- X5_part
theorem t_X5_part_j86 {drec d n0 s0 nF sF : Nat} {fr : NN → Int → Int → Int → Option (Int × NN)} {X : MX} {Ω : Nat → MS → Prop} {N : NN} (hsk : m_Sk X) (hd : drec + 2 ≤ d) (hrec : ∀ (dr : Nat) (N : NN) (x1 : Int) (x2 : Int) (x3 : Int) (out : (Int × NN)), drec ≤ dr → fr N x1 x2 x3 = some out → m_Call dr yX5_bracketed cX5_bracketed 5 (some .boolean) [.inr (.inr 16), .inl x1, .inl x2, .inl x3] N X (some (.inl out.1)) out.2 X) (hG : m_G d yX5_part.cls yX5_part.name cX5_part 7 n0 s0 nF sF Ω) {out : (Int × NN)} (hE : m_Gd d yX5_part cX5_part 7 (some .boolean) X (some (.inl out.1)) out.2 X Ω) (hF : f_X5_part_j86 fr X N = some out) : Ω 86 ([some (.inr (.inr 16)), none, none, none, none, none, none], [], N, X) := by
  unfold f_X5_part_j86 at hF
  refine s_aload_n hG dX5_part_86 rfl ?_
  obtain ⟨o13, ho13, hF⟩ := bd_some hF
  refine s_callV (d' := d - 1) (ci := 5) (args := []) hG (by omega) dX5_part_87 cv_RX5_69 cw_X5_wrong rfl rfl (sk_k hsk 16 rfl) (Nat.le_of_ble_eq_true rfl) rfl (t_X5_wrong hsk (by omega) ho13) ?_
  obtain ⟨g14, hF⟩ := gd_some hF
  cases hF
  exact s_zret hE dX5_part_90 rfl g14
theorem t_X5_part_j224 {drec d n0 s0 nF sF : Nat} {fr : NN → Int → Int → Int → Option (Int × NN)} {X : MX} {Ω : Nat → MS → Prop} {N : NN} {a5 : Int} {q0 : Nat} {z1 : Int} (hsk : m_Sk X) (hd : drec + 2 ≤ d) (hrec : ∀ (dr : Nat) (N : NN) (x1 : Int) (x2 : Int) (x3 : Int) (out : (Int × NN)), drec ≤ dr → fr N x1 x2 x3 = some out → m_Call dr yX5_bracketed cX5_bracketed 5 (some .boolean) [.inr (.inr 16), .inl x1, .inl x2, .inl x3] N X (some (.inl out.1)) out.2 X) (hG : m_G d yX5_part.cls yX5_part.name cX5_part 7 n0 s0 nF sF Ω) {out : (Int × NN)} (hE : m_Gd d yX5_part cX5_part 7 (some .boolean) X (some (.inl out.1)) out.2 X Ω) (hF : f_X5_part_j224 fr X N a5 q0 z1 = some out) : Ω 224 ([none, none, none, none, none, some (.inl a5), none], [(.inl z1), (.inr (.inr q0))], N, X) := by
  unfold f_X5_part_j224 at hF
  refine s_iload hG dX5_part_224 rfl ?_
  obtain ⟨g29, hF⟩ := gd_some hF
  obtain ⟨o30, ho30, hF⟩ := bd_some hF
  refine s_callV (d' := d - 1) (ci := 8) (args := [.inl z1, .inl a5]) hG (by omega) dX5_part_226 cv_RX5_132 cw_X8_add rfl rfl g29.1 (Nat.le_of_ble_eq_true rfl) rfl (t_X8_add hsk (by omega) g29 ho30) ?_
  refine s_pop hG dX5_part_229 rfl ?_
  refine s_iconst hG dX5_part_230 ⟨by decide, by decide⟩ ?_
  cases hF
  exact s_zret hE dX5_part_231 rfl ⟨by decide, by decide⟩
theorem t_X5_part_j211 {drec d n0 s0 nF sF : Nat} {fr : NN → Int → Int → Int → Option (Int × NN)} {X : MX} {Ω : Nat → MS → Prop} {N : NN} {a2 : Int} {a5 : Int} (hsk : m_Sk X) (hd : drec + 2 ≤ d) (hrec : ∀ (dr : Nat) (N : NN) (x1 : Int) (x2 : Int) (x3 : Int) (out : (Int × NN)), drec ≤ dr → fr N x1 x2 x3 = some out → m_Call dr yX5_bracketed cX5_bracketed 5 (some .boolean) [.inr (.inr 16), .inl x1, .inl x2, .inl x3] N X (some (.inl out.1)) out.2 X) (hG : m_G d yX5_part.cls yX5_part.name cX5_part 7 n0 s0 nF sF Ω) {out : (Int × NN)} (hE : m_Gd d yX5_part cX5_part 7 (some .boolean) X (some (.inl out.1)) out.2 X Ω) (hF : f_X5_part_j211 fr X N a2 a5 = some out) : Ω 211 ([some (.inr (.inr 16)), none, some (.inl a2), none, none, some (.inl a5), none], [], N, X) := by
  unfold f_X5_part_j211 at hF
  refine s_aload_n hG dX5_part_211 rfl ?_
  refine s_getr (r := 21) hG dX5_part_212 fl_RX5_29 (sk_k hsk 16 rfl) rfl (sk_R hsk 16 4 rfl) ?_
  refine s_iload_n hG dX5_part_215 rfl ?_
  refine s_if_eq hG 223 dX5_part_216 (by decide) (fun c23 => ?_) (fun c23 => ?_)
  · replace hF := Eq.trans (if_pos c23).symm hF
    refine s_iconst hG dX5_part_223 ⟨by decide, by decide⟩ ?_
    refine m_weak (ls1 := [none, none, none, none, none, some (.inl a5), none]) hG ⟨rfl, trivial⟩ ?_
    exact t_X5_part_j224 hsk hd hrec hG hE hF
  · replace hF := Eq.trans (if_neg c23).symm hF
    refine s_iconst hG dX5_part_219 ⟨by decide, by decide⟩ ?_
    refine s_goto hG 224 dX5_part_220 (by decide) ?_
    refine m_weak (ls1 := [none, none, none, none, none, some (.inl a5), none]) hG ⟨rfl, trivial⟩ ?_
    exact t_X5_part_j224 hsk hd hrec hG hE hF
theorem t_X5_part_j188 {drec d n0 s0 nF sF : Nat} {fr : NN → Int → Int → Int → Option (Int × NN)} {X : MX} {Ω : Nat → MS → Prop} {N : NN} (hsk : m_Sk X) (hd : drec + 2 ≤ d) (hrec : ∀ (dr : Nat) (N : NN) (x1 : Int) (x2 : Int) (x3 : Int) (out : (Int × NN)), drec ≤ dr → fr N x1 x2 x3 = some out → m_Call dr yX5_bracketed cX5_bracketed 5 (some .boolean) [.inr (.inr 16), .inl x1, .inl x2, .inl x3] N X (some (.inl out.1)) out.2 X) (hG : m_G d yX5_part.cls yX5_part.name cX5_part 7 n0 s0 nF sF Ω) {out : (Int × NN)} (hE : m_Gd d yX5_part cX5_part 7 (some .boolean) X (some (.inl out.1)) out.2 X Ω) (hF : f_X5_part_j188 fr X N = some out) : Ω 188 ([some (.inr (.inr 16)), none, none, none, none, none, none], [], N, X) := by
  unfold f_X5_part_j188 at hF
  refine s_aload_n hG dX5_part_188 rfl ?_
  obtain ⟨o31, ho31, hF⟩ := bd_some hF
  refine s_callV (d' := d - 1) (ci := 5) (args := []) hG (by omega) dX5_part_189 cv_RX5_69 cw_X5_wrong rfl rfl (sk_k hsk 16 rfl) (Nat.le_of_ble_eq_true rfl) rfl (t_X5_wrong hsk (by omega) ho31) ?_
  obtain ⟨g32, hF⟩ := gd_some hF
  cases hF
  exact s_zret hE dX5_part_192 rfl g32
theorem t_X5_part_j163 {drec d n0 s0 nF sF : Nat} {fr : NN → Int → Int → Int → Option (Int × NN)} {X : MX} {Ω : Nat → MS → Prop} {N : NN} {a2 : Int} {a5 : Int} {z0 : Int} (hsk : m_Sk X) (hd : drec + 2 ≤ d) (hrec : ∀ (dr : Nat) (N : NN) (x1 : Int) (x2 : Int) (x3 : Int) (out : (Int × NN)), drec ≤ dr → fr N x1 x2 x3 = some out → m_Call dr yX5_bracketed cX5_bracketed 5 (some .boolean) [.inr (.inr 16), .inl x1, .inl x2, .inl x3] N X (some (.inl out.1)) out.2 X) (hG : m_G d yX5_part.cls yX5_part.name cX5_part 7 n0 s0 nF sF Ω) {out : (Int × NN)} (hE : m_Gd d yX5_part cX5_part 7 (some .boolean) X (some (.inl out.1)) out.2 X Ω) (hF : f_X5_part_j163 fr X N a2 a5 z0 = some out) : Ω 163 ([some (.inr (.inr 16)), none, some (.inl a2), none, none, some (.inl a5), none], [(.inl z0)], N, X) := by
  unfold f_X5_part_j163 at hF
  refine s_istore hG dX5_part_163 (by decide) rfl ?_
  refine s_aload_n hG dX5_part_165 rfl ?_
  refine s_geti hG dX5_part_166 fl_RX5_50 (sk_k hsk 16 rfl) rfl ?_
  refine s_bipush hG dX5_part_169 bp_m2 ⟨by decide, by decide⟩ ?_
  refine s_icmp_ne hG 188 dX5_part_171 (by decide) (fun c28 => ?_) (fun c28 => ?_)
  · replace hF := Eq.trans (if_pos c28).symm hF
    refine s_aload_n hG dX5_part_174 rfl ?_
    refine s_getr (r := 19) hG dX5_part_175 fl_RX5_18 (sk_k hsk 16 rfl) rfl (sk_R hsk 16 2 rfl) ?_
    refine s_aload_n hG dX5_part_178 rfl ?_
    refine s_geti hG dX5_part_179 fl_RX5_47 (sk_k hsk 16 rfl) rfl ?_
    obtain ⟨g24, hF⟩ := gd_some hF
    refine s_ialdj (j := (N 16 9).toNat) hG dX5_part_182 (sk_K hsk 19 rfl) g24 rfl ?_
    refine s_iload hG dX5_part_183 rfl ?_
    refine s_icmp_le hG 193 dX5_part_185 (by decide) (fun c27 => ?_) (fun c27 => ?_)
    · replace hF := Eq.trans (if_pos c27).symm hF
      refine m_weak (ls1 := [some (.inr (.inr 16)), none, none, none, none, none, none]) hG ⟨rfl, trivial⟩ ?_
      exact t_X5_part_j188 hsk hd hrec hG hE hF
    · replace hF := Eq.trans (if_neg c27).symm hF
      refine s_iload hG dX5_part_193 rfl ?_
      refine s_aload_n hG dX5_part_195 rfl ?_
      refine s_getr (r := 19) hG dX5_part_196 fl_RX5_18 (sk_k hsk 16 rfl) rfl (sk_R hsk 16 2 rfl) ?_
      refine s_aload_n hG dX5_part_199 rfl ?_
      refine s_geti hG dX5_part_200 fl_RX5_47 (sk_k hsk 16 rfl) rfl ?_
      obtain ⟨g25, hF⟩ := gd_some hF
      refine s_ialdj (j := (N 16 9).toNat) hG dX5_part_203 (sk_K hsk 19 rfl) g25 rfl ?_
      refine s_iadd hG dX5_part_204 ?_
      refine s_istore hG dX5_part_205 (by decide) rfl ?_
      refine s_aload_n hG dX5_part_207 rfl ?_
      obtain ⟨o26, ho26, hF⟩ := bd_some hF
      refine s_callV (d' := d - 1) (ci := 5) (args := []) hG (by omega) dX5_part_208 cv_RX5_66 cw_X5_advance rfl rfl (sk_k hsk 16 rfl) (Nat.le_of_ble_eq_true rfl) rfl (t_X5_advance hsk (by omega) ho26) ?_
      refine m_weak (ls1 := [some (.inr (.inr 16)), none, some (.inl a2), none, none, some (.inl (m_w (a5 + (N 19 ((N 16 9).toNat))))), none]) hG ⟨rfl, ⟨rfl, ⟨rfl, trivial⟩⟩⟩ ?_
      exact t_X5_part_j211 hsk hd hrec hG hE hF
  · replace hF := Eq.trans (if_neg c28).symm hF
    refine m_weak (ls1 := [some (.inr (.inr 16)), none, none, none, none, none, none]) hG ⟨rfl, trivial⟩ ?_
    exact t_X5_part_j188 hsk hd hrec hG hE hF
theorem t_X5_part_j124 {drec d n0 s0 nF sF : Nat} {fr : NN → Int → Int → Int → Option (Int × NN)} {X : MX} {Ω : Nat → MS → Prop} {N : NN} {a2 : Int} {a4 : Int} {z0 : Int} (hsk : m_Sk X) (hd : drec + 2 ≤ d) (hrec : ∀ (dr : Nat) (N : NN) (x1 : Int) (x2 : Int) (x3 : Int) (out : (Int × NN)), drec ≤ dr → fr N x1 x2 x3 = some out → m_Call dr yX5_bracketed cX5_bracketed 5 (some .boolean) [.inr (.inr 16), .inl x1, .inl x2, .inl x3] N X (some (.inl out.1)) out.2 X) (hG : m_G d yX5_part.cls yX5_part.name cX5_part 7 n0 s0 nF sF Ω) {out : (Int × NN)} (hE : m_Gd d yX5_part cX5_part 7 (some .boolean) X (some (.inl out.1)) out.2 X Ω) (hF : f_X5_part_j124 fr X N a2 a4 z0 = some out) : Ω 124 ([some (.inr (.inr 16)), none, some (.inl a2), none, some (.inl a4), none, none], [(.inl z0)], N, X) := by
  unfold f_X5_part_j124 at hF
  refine s_istore hG dX5_part_124 (by decide) rfl ?_
  refine s_aload_n hG dX5_part_126 rfl ?_
  obtain ⟨o18, ho18, hF⟩ := bd_some hF
  refine s_callV (d' := d - 1) (ci := 5) (args := []) hG (by omega) dX5_part_127 cv_RX5_66 cw_X5_advance rfl rfl (sk_k hsk 16 rfl) (Nat.le_of_ble_eq_true rfl) rfl (t_X5_advance hsk (by omega) ho18) ?_
  refine s_aload_n hG dX5_part_130 rfl ?_
  refine s_getz hG dX5_part_131 fl_RX5_40 (sk_k hsk 16 rfl) rfl ?_
  refine s_if_ne hG 211 dX5_part_134 (by decide) (fun c22 => ?_) (fun c22 => ?_)
  · replace hF := Eq.trans (if_pos c22).symm hF
    refine s_iload_n hG dX5_part_137 rfl ?_
    refine s_if_ne hG 211 dX5_part_138 (by decide) (fun c21 => ?_) (fun c21 => ?_)
    · replace hF := Eq.trans (if_pos c21).symm hF
      refine s_iload hG dX5_part_141 rfl ?_
      refine s_sipush hG dX5_part_143 sp_278 ⟨by decide, by decide⟩ ?_
      refine s_icmp_lt hG 211 dX5_part_146 (by decide) (fun c20 => ?_) (fun c20 => ?_)
      · replace hF := Eq.trans (if_pos c20).symm hF
        refine m_weak (ls1 := [some (.inr (.inr 16)), none, some (.inl a2), none, none, some (.inl z0), none]) hG ⟨rfl, ⟨rfl, ⟨rfl, trivial⟩⟩⟩ ?_
        exact t_X5_part_j211 hsk hd hrec hG hE hF
      · replace hF := Eq.trans (if_neg c20).symm hF
        refine s_iload hG dX5_part_149 rfl ?_
        refine s_sipush hG dX5_part_151 sp_279 ⟨by decide, by decide⟩ ?_
        refine s_icmp_ne hG 162 dX5_part_154 (by decide) (fun c19 => ?_) (fun c19 => ?_)
        · replace hF := Eq.trans (if_pos c19).symm hF
          refine s_bipush hG dX5_part_157 bp_15 ⟨by decide, by decide⟩ ?_
          refine s_goto hG 163 dX5_part_159 (by decide) ?_
          refine m_weak (ls1 := [some (.inr (.inr 16)), none, some (.inl a2), none, none, some (.inl z0), none]) hG ⟨rfl, ⟨rfl, ⟨rfl, trivial⟩⟩⟩ ?_
          exact t_X5_part_j163 hsk hd hrec hG hE hF
        · replace hF := Eq.trans (if_neg c19).symm hF
          refine s_iconst hG dX5_part_162 ⟨by decide, by decide⟩ ?_
          refine m_weak (ls1 := [some (.inr (.inr 16)), none, some (.inl a2), none, none, some (.inl z0), none]) hG ⟨rfl, ⟨rfl, ⟨rfl, trivial⟩⟩⟩ ?_
          exact t_X5_part_j163 hsk hd hrec hG hE hF
    · replace hF := Eq.trans (if_neg c21).symm hF
      refine m_weak (ls1 := [some (.inr (.inr 16)), none, some (.inl a2), none, none, some (.inl z0), none]) hG ⟨rfl, ⟨rfl, ⟨rfl, trivial⟩⟩⟩ ?_
      exact t_X5_part_j211 hsk hd hrec hG hE hF
  · replace hF := Eq.trans (if_neg c22).symm hF
    refine m_weak (ls1 := [some (.inr (.inr 16)), none, some (.inl a2), none, none, some (.inl z0), none]) hG ⟨rfl, ⟨rfl, ⟨rfl, trivial⟩⟩⟩ ?_
    exact t_X5_part_j211 hsk hd hrec hG hE hF
theorem t_X5_part_j91 {drec d n0 s0 nF sF : Nat} {fr : NN → Int → Int → Int → Option (Int × NN)} {X : MX} {Ω : Nat → MS → Prop} {N : NN} {a2 : Int} {a3 : Int} (hsk : m_Sk X) (hd : drec + 2 ≤ d) (hrec : ∀ (dr : Nat) (N : NN) (x1 : Int) (x2 : Int) (x3 : Int) (out : (Int × NN)), drec ≤ dr → fr N x1 x2 x3 = some out → m_Call dr yX5_bracketed cX5_bracketed 5 (some .boolean) [.inr (.inr 16), .inl x1, .inl x2, .inl x3] N X (some (.inl out.1)) out.2 X) (hG : m_G d yX5_part.cls yX5_part.name cX5_part 7 n0 s0 nF sF Ω) {out : (Int × NN)} (hE : m_Gd d yX5_part cX5_part 7 (some .boolean) X (some (.inl out.1)) out.2 X Ω) (hF : f_X5_part_j91 fr X N a2 a3 = some out) : Ω 91 ([some (.inr (.inr 16)), none, some (.inl a2), some (.inl a3), none, none, none], [], N, X) := by
  unfold f_X5_part_j91 at hF
  refine s_aload_n hG dX5_part_91 rfl ?_
  refine s_dup hG dX5_part_92 rfl ?_
  refine s_geti hG dX5_part_93 fl_RX5_44 (sk_k hsk 16 rfl) rfl ?_
  refine s_iconst hG dX5_part_96 ⟨by decide, by decide⟩ ?_
  refine s_iadd hG dX5_part_97 ?_
  refine s_puti hG dX5_part_98 fl_RX5_44 (fun h => by cases h) (sk_k hsk 16 rfl) rfl ?_
  let N15 : NN := m_up N 16 8 (m_w ((N 16 8) + 1))
  refine s_aload_n hG dX5_part_101 rfl ?_
  refine s_geti hG dX5_part_102 fl_RX5_50 (sk_k hsk 16 rfl) rfl ?_
  refine s_istore hG dX5_part_105 (by decide) rfl ?_
  refine s_iload_n hG dX5_part_107 rfl ?_
  refine s_if_eq hG 123 dX5_part_108 (by decide) (fun c17 => ?_) (fun c17 => ?_)
  · replace hF := Eq.trans (if_pos c17).symm hF
    refine s_iload_n hG dX5_part_123 rfl ?_
    refine m_weak (ls1 := [some (.inr (.inr 16)), none, some (.inl a2), none, some (.inl (N15 16 10)), none, none]) hG ⟨rfl, ⟨rfl, ⟨rfl, trivial⟩⟩⟩ ?_
    exact t_X5_part_j124 hsk hd hrec hG hE hF
  · replace hF := Eq.trans (if_neg c17).symm hF
    refine s_aload_n hG dX5_part_111 rfl ?_
    refine s_getr (r := 19) hG dX5_part_112 fl_RX5_18 (sk_k hsk 16 rfl) rfl (sk_R hsk 16 2 rfl) ?_
    refine s_aload_n hG dX5_part_115 rfl ?_
    refine s_geti hG dX5_part_116 fl_RX5_47 (sk_k hsk 16 rfl) rfl ?_
    obtain ⟨g16, hF⟩ := gd_some hF
    refine s_ialdj (j := (N15 16 9).toNat) hG dX5_part_119 (sk_K hsk 19 rfl) g16 rfl ?_
    refine s_goto hG 124 dX5_part_120 (by decide) ?_
    refine m_weak (ls1 := [some (.inr (.inr 16)), none, some (.inl a2), none, some (.inl (N15 16 10)), none, none]) hG ⟨rfl, ⟨rfl, ⟨rfl, trivial⟩⟩⟩ ?_
    exact t_X5_part_j124 hsk hd hrec hG hE hF
theorem t_X5_part_j67 {drec d n0 s0 nF sF : Nat} {fr : NN → Int → Int → Int → Option (Int × NN)} {X : MX} {Ω : Nat → MS → Prop} {N : NN} {a2 : Int} {z0 : Int} (hsk : m_Sk X) (hd : drec + 2 ≤ d) (hrec : ∀ (dr : Nat) (N : NN) (x1 : Int) (x2 : Int) (x3 : Int) (out : (Int × NN)), drec ≤ dr → fr N x1 x2 x3 = some out → m_Call dr yX5_bracketed cX5_bracketed 5 (some .boolean) [.inr (.inr 16), .inl x1, .inl x2, .inl x3] N X (some (.inl out.1)) out.2 X) (hG : m_G d yX5_part.cls yX5_part.name cX5_part 7 n0 s0 nF sF Ω) {out : (Int × NN)} (hE : m_Gd d yX5_part cX5_part 7 (some .boolean) X (some (.inl out.1)) out.2 X Ω) (hF : f_X5_part_j67 fr X N a2 z0 = some out) : Ω 67 ([some (.inr (.inr 16)), none, some (.inl a2), none, none, none, none], [(.inl z0)], N, X) := by
  unfold f_X5_part_j67 at hF
  refine s_istore_n hG dX5_part_67 (by decide) rfl ?_
  refine s_aload_n hG dX5_part_68 rfl ?_
  refine s_geti hG dX5_part_69 fl_RX5_44 (sk_k hsk 16 rfl) rfl ?_
  refine s_bipush hG dX5_part_72 bp_50 ⟨by decide, by decide⟩ ?_
  refine s_icmp_ge hG 86 dX5_part_74 (by decide) (fun c12 => ?_) (fun c12 => ?_)
  · replace hF := Eq.trans (if_pos c12).symm hF
    refine s_iload_n hG dX5_part_77 rfl ?_
    refine s_if_ne hG 91 dX5_part_78 (by decide) (fun c11 => ?_) (fun c11 => ?_)
    · replace hF := Eq.trans (if_pos c11).symm hF
      refine s_iload_n hG dX5_part_81 rfl ?_
      refine s_iconst hG dX5_part_82 ⟨by decide, by decide⟩ ?_
      refine s_icmp_ne hG 91 dX5_part_83 (by decide) (fun c10 => ?_) (fun c10 => ?_)
      · replace hF := Eq.trans (if_pos c10).symm hF
        refine m_weak (ls1 := [some (.inr (.inr 16)), none, none, none, none, none, none]) hG ⟨rfl, trivial⟩ ?_
        exact t_X5_part_j86 hsk hd hrec hG hE hF
      · replace hF := Eq.trans (if_neg c10).symm hF
        exact t_X5_part_j91 hsk hd hrec hG hE hF
    · replace hF := Eq.trans (if_neg c11).symm hF
      exact t_X5_part_j91 hsk hd hrec hG hE hF
  · replace hF := Eq.trans (if_neg c12).symm hF
    refine m_weak (ls1 := [some (.inr (.inr 16)), none, none, none, none, none, none]) hG ⟨rfl, trivial⟩ ?_
    exact t_X5_part_j86 hsk hd hrec hG hE hF
theorem t_X5_part_j48 {drec d n0 s0 nF sF : Nat} {fr : NN → Int → Int → Int → Option (Int × NN)} {X : MX} {Ω : Nat → MS → Prop} {N : NN} {z0 : Int} (hsk : m_Sk X) (hd : drec + 2 ≤ d) (hrec : ∀ (dr : Nat) (N : NN) (x1 : Int) (x2 : Int) (x3 : Int) (out : (Int × NN)), drec ≤ dr → fr N x1 x2 x3 = some out → m_Call dr yX5_bracketed cX5_bracketed 5 (some .boolean) [.inr (.inr 16), .inl x1, .inl x2, .inl x3] N X (some (.inl out.1)) out.2 X) (hG : m_G d yX5_part.cls yX5_part.name cX5_part 7 n0 s0 nF sF Ω) {out : (Int × NN)} (hE : m_Gd d yX5_part cX5_part 7 (some .boolean) X (some (.inl out.1)) out.2 X Ω) (hF : f_X5_part_j48 fr X N z0 = some out) : Ω 48 ([some (.inr (.inr 16)), none, none, none, none, none, none], [(.inl z0)], N, X) := by
  unfold f_X5_part_j48 at hF
  refine s_istore_n hG dX5_part_48 (by decide) rfl ?_
  refine s_aload_n hG dX5_part_49 rfl ?_
  refine s_getz hG dX5_part_50 fl_RX5_40 (sk_k hsk 16 rfl) rfl ?_
  refine s_if_eq hG 63 dX5_part_53 (by decide) (fun c9 => ?_) (fun c9 => ?_)
  · replace hF := Eq.trans (if_pos c9).symm hF
    refine s_aload_n hG dX5_part_63 rfl ?_
    obtain ⟨o7, ho7, hF⟩ := bd_some hF
    refine s_callV (d' := d - 1) (ci := 5) (args := []) hG (by omega) dX5_part_64 cv_RX5_158 cw_X5_orderWord rfl rfl (sk_k hsk 16 rfl) (Nat.le_of_ble_eq_true rfl) rfl (t_X5_orderWord hsk (by omega) ho7) ?_
    exact t_X5_part_j67 hsk hd hrec hG hE hF
  · replace hF := Eq.trans (if_neg c9).symm hF
    refine s_aload_n hG dX5_part_56 rfl ?_
    obtain ⟨o8, ho8, hF⟩ := bd_some hF
    refine s_callV (d' := d - 1) (ci := 5) (args := []) hG (by omega) dX5_part_57 cv_RX5_155 cw_X5_lawWord rfl rfl (sk_k hsk 16 rfl) (Nat.le_of_ble_eq_true rfl) rfl (t_X5_lawWord hsk (by omega) ho8) ?_
    refine s_goto hG 67 dX5_part_60 (by decide) ?_
    exact t_X5_part_j67 hsk hd hrec hG hE hF
theorem t_X5_part_j47 {drec d n0 s0 nF sF : Nat} {fr : NN → Int → Int → Int → Option (Int × NN)} {X : MX} {Ω : Nat → MS → Prop} {N : NN} (hsk : m_Sk X) (hd : drec + 2 ≤ d) (hrec : ∀ (dr : Nat) (N : NN) (x1 : Int) (x2 : Int) (x3 : Int) (out : (Int × NN)), drec ≤ dr → fr N x1 x2 x3 = some out → m_Call dr yX5_bracketed cX5_bracketed 5 (some .boolean) [.inr (.inr 16), .inl x1, .inl x2, .inl x3] N X (some (.inl out.1)) out.2 X) (hG : m_G d yX5_part.cls yX5_part.name cX5_part 7 n0 s0 nF sF Ω) {out : (Int × NN)} (hE : m_Gd d yX5_part cX5_part 7 (some .boolean) X (some (.inl out.1)) out.2 X Ω) (hF : f_X5_part_j47 fr X N = some out) : Ω 47 ([some (.inr (.inr 16)), none, none, none, none, none, none], [], N, X) := by
  unfold f_X5_part_j47 at hF
  refine s_iconst hG dX5_part_47 ⟨by decide, by decide⟩ ?_
  exact t_X5_part_j48 hsk hd hrec hG hE hF
theorem t_X5_part {drec d : Nat} {fr : NN → Int → Int → Int → Option (Int × NN)} {X : MX} {N : NN} {a1 : Int} {out : (Int × NN)} (hsk : m_Sk X) (hd : drec + 2 ≤ d) (hrec : ∀ (dr : Nat) (N : NN) (x1 : Int) (x2 : Int) (x3 : Int) (out : (Int × NN)), drec ≤ dr → fr N x1 x2 x3 = some out → m_Call dr yX5_bracketed cX5_bracketed 5 (some .boolean) [.inr (.inr 16), .inl x1, .inl x2, .inl x3] N X (some (.inl out.1)) out.2 X) (hF : f_X5_part fr X N a1 = some out) : m_Call d yX5_part cX5_part 7 (some .boolean) [(.inr (.inr 16)), (.inl a1)] N X (some (.inl out.1)) out.2 X := by
  refine m_mk (ls0 := [some (.inr (.inr 16)), some (.inl a1), none, none, none, none, none]) (by decide) rfl (Nat.le_of_ble_eq_true rfl) (Nat.le_refl _) (Nat.le_refl _) (fun Ω hE => ?_)
  have hG := hE.G
  unfold f_X5_part at hF
  refine s_aload_n hG dX5_part_0 rfl ?_
  refine s_geti hG dX5_part_1 fl_RX5_50 (sk_k hsk 16 rfl) rfl ?_
  refine s_bipush hG dX5_part_4 bp_91 ⟨by decide, by decide⟩ ?_
  refine s_icmp_ne hG 19 dX5_part_6 (by decide) (fun c6 => ?_) (fun c6 => ?_)
  · replace hF := Eq.trans (if_pos c6).symm hF
    refine s_aload_n hG dX5_part_9 rfl ?_
    refine s_iload_n hG dX5_part_10 rfl ?_
    refine s_bipush hG dX5_part_11 bp_91 ⟨by decide, by decide⟩ ?_
    refine s_bipush hG dX5_part_13 bp_93 ⟨by decide, by decide⟩ ?_
    obtain ⟨o1, ho1, hF⟩ := bd_some hF
    refine s_callV (d' := d - 1) (ci := 5) (args := [.inl a1, .inl 91, .inl 93]) hG (by omega) dX5_part_15 cv_RX5_142 cw_X5_bracketed rfl rfl (sk_k hsk 16 rfl) (Nat.le_of_ble_eq_true rfl) rfl (hrec (d - 1) _ _ _ _ _ (by omega) ho1) ?_
    obtain ⟨g2, hF⟩ := gd_some hF
    cases hF
    exact s_zret hE dX5_part_18 rfl g2
  · replace hF := Eq.trans (if_neg c6).symm hF
    refine s_aload_n hG dX5_part_19 rfl ?_
    refine s_geti hG dX5_part_20 fl_RX5_50 (sk_k hsk 16 rfl) rfl ?_
    refine s_bipush hG dX5_part_23 bp_m2 ⟨by decide, by decide⟩ ?_
    refine s_icmp_ne hG 47 dX5_part_25 (by decide) (fun c5 => ?_) (fun c5 => ?_)
    · replace hF := Eq.trans (if_pos c5).symm hF
      refine s_aload_n hG dX5_part_28 rfl ?_
      refine s_getr (r := 19) hG dX5_part_29 fl_RX5_18 (sk_k hsk 16 rfl) rfl (sk_R hsk 16 2 rfl) ?_
      refine s_aload_n hG dX5_part_32 rfl ?_
      refine s_geti hG dX5_part_33 fl_RX5_47 (sk_k hsk 16 rfl) rfl ?_
      obtain ⟨g3, hF⟩ := gd_some hF
      refine s_ialdj (j := (N 16 9).toNat) hG dX5_part_36 (sk_K hsk 19 rfl) g3 rfl ?_
      refine s_sipush hG dX5_part_37 sp_1000 ⟨by decide, by decide⟩ ?_
      refine s_icmp_gt hG 47 dX5_part_40 (by decide) (fun c4 => ?_) (fun c4 => ?_)
      · replace hF := Eq.trans (if_pos c4).symm hF
        refine m_weak (ls1 := [some (.inr (.inr 16)), none, none, none, none, none, none]) hG ⟨rfl, trivial⟩ ?_
        exact t_X5_part_j47 hsk hd hrec hG hE hF
      · replace hF := Eq.trans (if_neg c4).symm hF
        refine s_iconst hG dX5_part_43 ⟨by decide, by decide⟩ ?_
        refine s_goto hG 48 dX5_part_44 (by decide) ?_
        refine m_weak (ls1 := [some (.inr (.inr 16)), none, none, none, none, none, none]) hG ⟨rfl, trivial⟩ ?_
        exact t_X5_part_j48 hsk hd hrec hG hE hF
    · replace hF := Eq.trans (if_neg c5).symm hF
      refine m_weak (ls1 := [some (.inr (.inr 16)), none, none, none, none, none, none]) hG ⟨rfl, trivial⟩ ?_
      exact t_X5_part_j47 hsk hd hrec hG hE hF
-- X5_term
theorem t_X5_term_l8_j74 {drec d n0 s0 nF sF : Nat} {fr : NN → Int → Int → Int → Option (Int × NN)} {X : MX} {Ω : Nat → MS → Prop} {N : NN} {a1 : Int} {a3 : Int} {z0 : Int} (hsk : m_Sk X) (hd : drec + 3 ≤ d) (hrec : ∀ (dr : Nat) (N : NN) (x1 : Int) (x2 : Int) (x3 : Int) (out : (Int × NN)), drec ≤ dr → fr N x1 x2 x3 = some out → m_Call dr yX5_bracketed cX5_bracketed 5 (some .boolean) [.inr (.inr 16), .inl x1, .inl x2, .inl x3] N X (some (.inl out.1)) out.2 X) (hG : m_G d yX5_term.cls yX5_term.name cX5_term 5 n0 s0 nF sF Ω) {out : ((NN × Int × Int × Int) ⊕ (NN × Int))} (hK0 : ∀ s' : (NN × Int × Int × Int), out = .inl s' → Ω 8 ([some (.inr (.inr 16)), some (.inl (s'.2.1)), some (.inl (s'.2.2.1)), some (.inl (s'.2.2.2)), none], [], s'.1, X)) (hK1 : ∀ t : (NN × Int), out = .inr t → Ω 103 ([none, none, some (.inl t.2), none, none], [], t.1, X)) (hF : f_X5_term_l8_j74 fr X N a1 a3 z0 = some out) : Ω 74 ([some (.inr (.inr 16)), some (.inl a1), none, some (.inl a3), none], [(.inl z0)], N, X) := by
  unfold f_X5_term_l8_j74 at hF
  refine s_istore hG dX5_term_74 (by decide) rfl ?_
  refine s_aload_n hG dX5_term_76 rfl ?_
  obtain ⟨o9, ho9, hF⟩ := bd_some hF
  refine s_callV (d' := d - 1) (ci := 5) (args := []) hG (by omega) dX5_term_77 cv_RX5_66 cw_X5_advance rfl rfl (sk_k hsk 16 rfl) (Nat.le_of_ble_eq_true rfl) rfl (t_X5_advance hsk (by omega) ho9) ?_
  refine s_aload_n hG dX5_term_80 rfl ?_
  refine s_iload_n hG dX5_term_81 rfl ?_
  obtain ⟨o10, ho10, hF⟩ := bd_some hF
  refine s_callV (d' := d - 1) (ci := 5) (args := [.inl a1]) hG (by omega) dX5_term_82 cv_RX5_152 cw_X5_part rfl rfl (sk_k hsk 16 rfl) (Nat.le_of_ble_eq_true rfl) rfl (t_X5_part hsk (by omega) hrec ho10) ?_
  refine s_istore_n hG dX5_term_85 (by decide) rfl ?_
  refine s_aload_n hG dX5_term_86 rfl ?_
  refine s_getr (r := 21) hG dX5_term_87 fl_RX5_29 (sk_k hsk 16 rfl) rfl (sk_R hsk 16 4 rfl) ?_
  refine s_iload hG dX5_term_90 rfl ?_
  refine s_iconst hG dX5_term_92 ⟨by decide, by decide⟩ ?_
  obtain ⟨o11, ho11, hF⟩ := bd_some hF
  refine s_callV (d' := d - 1) (ci := 8) (args := [.inl z0, .inl 0]) hG (by omega) dX5_term_93 cv_RX5_132 cw_X8_add rfl rfl (sk_k hsk 21 rfl) (Nat.le_of_ble_eq_true rfl) rfl (t_X8_add hsk (by omega) (sk_T21 hsk) ho11) ?_
  refine s_pop hG dX5_term_96 rfl ?_
  refine s_iinc hG dX5_term_97 (by decide) rfl rfl ?_
  refine s_goto hG 8 dX5_term_100 (by decide) ?_
  cases hF
  refine m_weak (ls1 := [some (.inr (.inr 16)), some (.inl a1), some (.inl o10.1), some (.inl (m_w (a3 + 1))), none]) hG ⟨rfl, ⟨rfl, ⟨rfl, ⟨rfl, trivial⟩⟩⟩⟩ ?_
  exact hK0 _ rfl
theorem t_X5_term_l8_j46 {drec d n0 s0 nF sF : Nat} {fr : NN → Int → Int → Int → Option (Int × NN)} {X : MX} {Ω : Nat → MS → Prop} {N : NN} {a1 : Int} {a3 : Int} (hsk : m_Sk X) (hd : drec + 3 ≤ d) (hrec : ∀ (dr : Nat) (N : NN) (x1 : Int) (x2 : Int) (x3 : Int) (out : (Int × NN)), drec ≤ dr → fr N x1 x2 x3 = some out → m_Call dr yX5_bracketed cX5_bracketed 5 (some .boolean) [.inr (.inr 16), .inl x1, .inl x2, .inl x3] N X (some (.inl out.1)) out.2 X) (hG : m_G d yX5_term.cls yX5_term.name cX5_term 5 n0 s0 nF sF Ω) {out : ((NN × Int × Int × Int) ⊕ (NN × Int))} (hK0 : ∀ s' : (NN × Int × Int × Int), out = .inl s' → Ω 8 ([some (.inr (.inr 16)), some (.inl (s'.2.1)), some (.inl (s'.2.2.1)), some (.inl (s'.2.2.2)), none], [], s'.1, X)) (hK1 : ∀ t : (NN × Int), out = .inr t → Ω 103 ([none, none, some (.inl t.2), none, none], [], t.1, X)) (hF : f_X5_term_l8_j46 fr X N a1 a3 = some out) : Ω 46 ([some (.inr (.inr 16)), some (.inl a1), none, some (.inl a3), none], [], N, X) := by
  unfold f_X5_term_l8_j46 at hF
  refine s_aload_n hG dX5_term_46 rfl ?_
  refine s_geti hG dX5_term_47 fl_RX5_50 (sk_k hsk 16 rfl) rfl ?_
  refine s_bipush hG dX5_term_50 bp_42 ⟨by decide, by decide⟩ ?_
  refine s_icmp_ne hG 59 dX5_term_52 (by decide) (fun c8 => ?_) (fun c8 => ?_)
  · replace hF := Eq.trans (if_pos c8).symm hF
    refine s_iconst hG dX5_term_55 ⟨by decide, by decide⟩ ?_
    refine s_goto hG 74 dX5_term_56 (by decide) ?_
    exact t_X5_term_l8_j74 hsk hd hrec hG hK0 hK1 hF
  · replace hF := Eq.trans (if_neg c8).symm hF
    refine s_aload_n hG dX5_term_59 rfl ?_
    refine s_geti hG dX5_term_60 fl_RX5_50 (sk_k hsk 16 rfl) rfl ?_
    refine s_bipush hG dX5_term_63 bp_47 ⟨by decide, by decide⟩ ?_
    refine s_icmp_ne hG 72 dX5_term_65 (by decide) (fun c7 => ?_) (fun c7 => ?_)
    · replace hF := Eq.trans (if_pos c7).symm hF
      refine s_iconst hG dX5_term_68 ⟨by decide, by decide⟩ ?_
      refine s_goto hG 74 dX5_term_69 (by decide) ?_
      exact t_X5_term_l8_j74 hsk hd hrec hG hK0 hK1 hF
    · replace hF := Eq.trans (if_neg c7).symm hF
      refine s_bipush hG dX5_term_72 bp_6 ⟨by decide, by decide⟩ ?_
      exact t_X5_term_l8_j74 hsk hd hrec hG hK0 hK1 hF
theorem t_X5_term_b8 {drec d n0 s0 nF sF : Nat} {fr : NN → Int → Int → Int → Option (Int × NN)} {X : MX} {Ω : Nat → MS → Prop} {N : NN} {a1 : Int} {a2 : Int} {a3 : Int} (hsk : m_Sk X) (hd : drec + 3 ≤ d) (hrec : ∀ (dr : Nat) (N : NN) (x1 : Int) (x2 : Int) (x3 : Int) (out : (Int × NN)), drec ≤ dr → fr N x1 x2 x3 = some out → m_Call dr yX5_bracketed cX5_bracketed 5 (some .boolean) [.inr (.inr 16), .inl x1, .inl x2, .inl x3] N X (some (.inl out.1)) out.2 X) (hG : m_G d yX5_term.cls yX5_term.name cX5_term 5 n0 s0 nF sF Ω) {out : ((NN × Int × Int × Int) ⊕ (NN × Int))} (hK0 : ∀ s' : (NN × Int × Int × Int), out = .inl s' → Ω 8 ([some (.inr (.inr 16)), some (.inl (s'.2.1)), some (.inl (s'.2.2.1)), some (.inl (s'.2.2.2)), none], [], s'.1, X)) (hK1 : ∀ t : (NN × Int), out = .inr t → Ω 103 ([none, none, some (.inl t.2), none, none], [], t.1, X)) (hF : b_X5_term_8 fr X N a1 a2 a3 = some out) : Ω 8 ([some (.inr (.inr 16)), some (.inl a1), some (.inl a2), some (.inl a3), none], [], N, X) := by
  unfold b_X5_term_8 at hF
  refine s_iload_n hG dX5_term_8 rfl ?_
  refine s_sipush hG dX5_term_9 sp_400 ⟨by decide, by decide⟩ ?_
  refine s_icmp_ge hG 103 dX5_term_12 (by decide) (fun c6 => ?_) (fun c6 => ?_)
  · replace hF := Eq.trans (if_pos c6).symm hF
    refine s_iload_n hG dX5_term_15 rfl ?_
    refine s_if_eq hG 103 dX5_term_16 (by decide) (fun c5 => ?_) (fun c5 => ?_)
    · replace hF := Eq.trans (if_pos c5).symm hF
      cases hF
      refine m_weak (ls1 := [none, none, some (.inl a2), none, none]) hG ⟨rfl, trivial⟩ ?_
      exact hK1 _ rfl
    · replace hF := Eq.trans (if_neg c5).symm hF
      refine s_aload_n hG dX5_term_19 rfl ?_
      refine s_geti hG dX5_term_20 fl_RX5_50 (sk_k hsk 16 rfl) rfl ?_
      refine s_bipush hG dX5_term_23 bp_42 ⟨by decide, by decide⟩ ?_
      refine s_icmp_eq hG 46 dX5_term_25 (by decide) (fun c4 => ?_) (fun c4 => ?_)
      · replace hF := Eq.trans (if_pos c4).symm hF
        refine m_weak (ls1 := [some (.inr (.inr 16)), some (.inl a1), none, some (.inl a3), none]) hG ⟨rfl, ⟨rfl, ⟨rfl, trivial⟩⟩⟩ ?_
        exact t_X5_term_l8_j46 hsk hd hrec hG hK0 hK1 hF
      · replace hF := Eq.trans (if_neg c4).symm hF
        refine s_aload_n hG dX5_term_28 rfl ?_
        refine s_geti hG dX5_term_29 fl_RX5_50 (sk_k hsk 16 rfl) rfl ?_
        refine s_bipush hG dX5_term_32 bp_47 ⟨by decide, by decide⟩ ?_
        refine s_icmp_eq hG 46 dX5_term_34 (by decide) (fun c3 => ?_) (fun c3 => ?_)
        · replace hF := Eq.trans (if_pos c3).symm hF
          refine m_weak (ls1 := [some (.inr (.inr 16)), some (.inl a1), none, some (.inl a3), none]) hG ⟨rfl, ⟨rfl, ⟨rfl, trivial⟩⟩⟩ ?_
          exact t_X5_term_l8_j46 hsk hd hrec hG hK0 hK1 hF
        · replace hF := Eq.trans (if_neg c3).symm hF
          refine s_aload_n hG dX5_term_37 rfl ?_
          refine s_geti hG dX5_term_38 fl_RX5_50 (sk_k hsk 16 rfl) rfl ?_
          refine s_bipush hG dX5_term_41 bp_37 ⟨by decide, by decide⟩ ?_
          refine s_icmp_ne hG 103 dX5_term_43 (by decide) (fun c2 => ?_) (fun c2 => ?_)
          · replace hF := Eq.trans (if_pos c2).symm hF
            refine m_weak (ls1 := [some (.inr (.inr 16)), some (.inl a1), none, some (.inl a3), none]) hG ⟨rfl, ⟨rfl, ⟨rfl, trivial⟩⟩⟩ ?_
            exact t_X5_term_l8_j46 hsk hd hrec hG hK0 hK1 hF
          · replace hF := Eq.trans (if_neg c2).symm hF
            cases hF
            refine m_weak (ls1 := [none, none, some (.inl a2), none, none]) hG ⟨rfl, trivial⟩ ?_
            exact hK1 _ rfl
  · replace hF := Eq.trans (if_neg c6).symm hF
    cases hF
    refine m_weak (ls1 := [none, none, some (.inl a2), none, none]) hG ⟨rfl, trivial⟩ ?_
    exact hK1 _ rfl
theorem t_X5_term_lp8 {drec d n0 s0 nF sF : Nat} {fr : NN → Int → Int → Int → Option (Int × NN)} {X : MX} {Ω : Nat → MS → Prop} {N : NN} {a1 : Int} {a2 : Int} {a3 : Int} (hsk : m_Sk X) (hd : drec + 3 ≤ d) (hrec : ∀ (dr : Nat) (N : NN) (x1 : Int) (x2 : Int) (x3 : Int) (out : (Int × NN)), drec ≤ dr → fr N x1 x2 x3 = some out → m_Call dr yX5_bracketed cX5_bracketed 5 (some .boolean) [.inr (.inr 16), .inl x1, .inl x2, .inl x3] N X (some (.inl out.1)) out.2 X) (hG : m_G d yX5_term.cls yX5_term.name cX5_term 5 n0 s0 nF sF Ω) {t : (NN × Int)} (hK1 : Ω 103 ([none, none, some (.inl t.2), none, none], [], t.1, X)) (hl : lp (fun s => b_X5_term_8 fr X s.1 s.2.1 s.2.2.1 s.2.2.2) (N, a1, a2, a3) = some t) : Ω 8 ([some (.inr (.inr 16)), some (.inl a1), some (.inl a2), some (.inl a3), none], [], N, X) := by
  refine lp_ok (P := fun s => Ω 8 ([some (.inr (.inr 16)), some (.inl s.2.1), some (.inl s.2.2.1), some (.inl s.2.2.2), none], [], s.1, X)) (K := fun t => Ω 103 ([none, none, some (.inl t.2), none, none], [], t.1, X)) (fun s out hF hK0 hK1 => ?_) hl hK1
  exact t_X5_term_b8 hsk hd hrec hG (out := out) (fun s' e => hK0 s' e) (fun t' e => hK1 t' e) hF
theorem t_X5_term {drec d : Nat} {fr : NN → Int → Int → Int → Option (Int × NN)} {X : MX} {N : NN} {a1 : Int} {out : (Int × NN)} (hsk : m_Sk X) (hd : drec + 3 ≤ d) (hrec : ∀ (dr : Nat) (N : NN) (x1 : Int) (x2 : Int) (x3 : Int) (out : (Int × NN)), drec ≤ dr → fr N x1 x2 x3 = some out → m_Call dr yX5_bracketed cX5_bracketed 5 (some .boolean) [.inr (.inr 16), .inl x1, .inl x2, .inl x3] N X (some (.inl out.1)) out.2 X) (hF : f_X5_term fr X N a1 = some out) : m_Call d yX5_term cX5_term 5 (some .boolean) [(.inr (.inr 16)), (.inl a1)] N X (some (.inl out.1)) out.2 X := by
  refine m_mk (ls0 := [some (.inr (.inr 16)), some (.inl a1), none, none, none]) (by decide) rfl (Nat.le_of_ble_eq_true rfl) (Nat.le_refl _) (Nat.le_refl _) (fun Ω hE => ?_)
  have hG := hE.G
  unfold f_X5_term at hF
  refine s_aload_n hG dX5_term_0 rfl ?_
  refine s_iload_n hG dX5_term_1 rfl ?_
  obtain ⟨o1, ho1, hF⟩ := bd_some hF
  refine s_callV (d' := d - 1) (ci := 5) (args := [.inl a1]) hG (by omega) dX5_term_2 cv_RX5_152 cw_X5_part rfl rfl (sk_k hsk 16 rfl) (Nat.le_of_ble_eq_true rfl) rfl (t_X5_part hsk (by omega) hrec ho1) ?_
  refine s_istore_n hG dX5_term_5 (by decide) rfl ?_
  refine s_iconst hG dX5_term_6 ⟨by decide, by decide⟩ ?_
  refine s_istore_n hG dX5_term_7 (by decide) rfl ?_
  obtain ⟨o12, hlo12, hF⟩ := bd_some hF
  refine t_X5_term_lp8 hsk hd hrec hG ?_ hlo12
  refine s_iload_n hG dX5_term_103 rfl ?_
  obtain ⟨g13, hF⟩ := gd_some hF
  cases hF
  exact s_zret hE dX5_term_104 rfl g13
-- X5_sum
theorem t_X5_sum_l8_j51 {drec d n0 s0 nF sF : Nat} {fr : NN → Int → Int → Int → Option (Int × NN)} {X : MX} {Ω : Nat → MS → Prop} {N : NN} {a1 : Int} {a3 : Int} {z0 : Int} (hsk : m_Sk X) (hd : drec + 4 ≤ d) (hrec : ∀ (dr : Nat) (N : NN) (x1 : Int) (x2 : Int) (x3 : Int) (out : (Int × NN)), drec ≤ dr → fr N x1 x2 x3 = some out → m_Call dr yX5_bracketed cX5_bracketed 5 (some .boolean) [.inr (.inr 16), .inl x1, .inl x2, .inl x3] N X (some (.inl out.1)) out.2 X) (hG : m_G d yX5_sum.cls yX5_sum.name cX5_sum 5 n0 s0 nF sF Ω) {out : ((NN × Int × Int × Int) ⊕ (NN × Int))} (hK0 : ∀ s' : (NN × Int × Int × Int), out = .inl s' → Ω 8 ([some (.inr (.inr 16)), some (.inl (s'.2.1)), some (.inl (s'.2.2.1)), some (.inl (s'.2.2.2)), none], [], s'.1, X)) (hK1 : ∀ t : (NN × Int), out = .inr t → Ω 80 ([none, none, some (.inl t.2), none, none], [], t.1, X)) (hF : f_X5_sum_l8_j51 fr X N a1 a3 z0 = some out) : Ω 51 ([some (.inr (.inr 16)), some (.inl a1), none, some (.inl a3), none], [(.inl z0)], N, X) := by
  unfold f_X5_sum_l8_j51 at hF
  refine s_istore hG dX5_sum_51 (by decide) rfl ?_
  refine s_aload_n hG dX5_sum_53 rfl ?_
  obtain ⟨o7, ho7, hF⟩ := bd_some hF
  refine s_callV (d' := d - 1) (ci := 5) (args := []) hG (by omega) dX5_sum_54 cv_RX5_66 cw_X5_advance rfl rfl (sk_k hsk 16 rfl) (Nat.le_of_ble_eq_true rfl) rfl (t_X5_advance hsk (by omega) ho7) ?_
  refine s_aload_n hG dX5_sum_57 rfl ?_
  refine s_iload_n hG dX5_sum_58 rfl ?_
  obtain ⟨o8, ho8, hF⟩ := bd_some hF
  refine s_callV (d' := d - 1) (ci := 5) (args := [.inl a1]) hG (by omega) dX5_sum_59 cv_RX5_149 cw_X5_term rfl rfl (sk_k hsk 16 rfl) (Nat.le_of_ble_eq_true rfl) rfl (t_X5_term hsk (by omega) hrec ho8) ?_
  refine s_istore_n hG dX5_sum_62 (by decide) rfl ?_
  refine s_aload_n hG dX5_sum_63 rfl ?_
  refine s_getr (r := 21) hG dX5_sum_64 fl_RX5_29 (sk_k hsk 16 rfl) rfl (sk_R hsk 16 4 rfl) ?_
  refine s_iload hG dX5_sum_67 rfl ?_
  refine s_iconst hG dX5_sum_69 ⟨by decide, by decide⟩ ?_
  obtain ⟨o9, ho9, hF⟩ := bd_some hF
  refine s_callV (d' := d - 1) (ci := 8) (args := [.inl z0, .inl 0]) hG (by omega) dX5_sum_70 cv_RX5_132 cw_X8_add rfl rfl (sk_k hsk 21 rfl) (Nat.le_of_ble_eq_true rfl) rfl (t_X8_add hsk (by omega) (sk_T21 hsk) ho9) ?_
  refine s_pop hG dX5_sum_73 rfl ?_
  refine s_iinc hG dX5_sum_74 (by decide) rfl rfl ?_
  refine s_goto hG 8 dX5_sum_77 (by decide) ?_
  cases hF
  refine m_weak (ls1 := [some (.inr (.inr 16)), some (.inl a1), some (.inl o8.1), some (.inl (m_w (a3 + 1))), none]) hG ⟨rfl, ⟨rfl, ⟨rfl, ⟨rfl, trivial⟩⟩⟩⟩ ?_
  exact hK0 _ rfl
theorem t_X5_sum_l8_j37 {drec d n0 s0 nF sF : Nat} {fr : NN → Int → Int → Int → Option (Int × NN)} {X : MX} {Ω : Nat → MS → Prop} {N : NN} {a1 : Int} {a3 : Int} (hsk : m_Sk X) (hd : drec + 4 ≤ d) (hrec : ∀ (dr : Nat) (N : NN) (x1 : Int) (x2 : Int) (x3 : Int) (out : (Int × NN)), drec ≤ dr → fr N x1 x2 x3 = some out → m_Call dr yX5_bracketed cX5_bracketed 5 (some .boolean) [.inr (.inr 16), .inl x1, .inl x2, .inl x3] N X (some (.inl out.1)) out.2 X) (hG : m_G d yX5_sum.cls yX5_sum.name cX5_sum 5 n0 s0 nF sF Ω) {out : ((NN × Int × Int × Int) ⊕ (NN × Int))} (hK0 : ∀ s' : (NN × Int × Int × Int), out = .inl s' → Ω 8 ([some (.inr (.inr 16)), some (.inl (s'.2.1)), some (.inl (s'.2.2.1)), some (.inl (s'.2.2.2)), none], [], s'.1, X)) (hK1 : ∀ t : (NN × Int), out = .inr t → Ω 80 ([none, none, some (.inl t.2), none, none], [], t.1, X)) (hF : f_X5_sum_l8_j37 fr X N a1 a3 = some out) : Ω 37 ([some (.inr (.inr 16)), some (.inl a1), none, some (.inl a3), none], [], N, X) := by
  unfold f_X5_sum_l8_j37 at hF
  refine s_aload_n hG dX5_sum_37 rfl ?_
  refine s_geti hG dX5_sum_38 fl_RX5_50 (sk_k hsk 16 rfl) rfl ?_
  refine s_bipush hG dX5_sum_41 bp_43 ⟨by decide, by decide⟩ ?_
  refine s_icmp_ne hG 50 dX5_sum_43 (by decide) (fun c6 => ?_) (fun c6 => ?_)
  · replace hF := Eq.trans (if_pos c6).symm hF
    refine s_iconst hG dX5_sum_46 ⟨by decide, by decide⟩ ?_
    refine s_goto hG 51 dX5_sum_47 (by decide) ?_
    exact t_X5_sum_l8_j51 hsk hd hrec hG hK0 hK1 hF
  · replace hF := Eq.trans (if_neg c6).symm hF
    refine s_iconst hG dX5_sum_50 ⟨by decide, by decide⟩ ?_
    exact t_X5_sum_l8_j51 hsk hd hrec hG hK0 hK1 hF
theorem t_X5_sum_b8 {drec d n0 s0 nF sF : Nat} {fr : NN → Int → Int → Int → Option (Int × NN)} {X : MX} {Ω : Nat → MS → Prop} {N : NN} {a1 : Int} {a2 : Int} {a3 : Int} (hsk : m_Sk X) (hd : drec + 4 ≤ d) (hrec : ∀ (dr : Nat) (N : NN) (x1 : Int) (x2 : Int) (x3 : Int) (out : (Int × NN)), drec ≤ dr → fr N x1 x2 x3 = some out → m_Call dr yX5_bracketed cX5_bracketed 5 (some .boolean) [.inr (.inr 16), .inl x1, .inl x2, .inl x3] N X (some (.inl out.1)) out.2 X) (hG : m_G d yX5_sum.cls yX5_sum.name cX5_sum 5 n0 s0 nF sF Ω) {out : ((NN × Int × Int × Int) ⊕ (NN × Int))} (hK0 : ∀ s' : (NN × Int × Int × Int), out = .inl s' → Ω 8 ([some (.inr (.inr 16)), some (.inl (s'.2.1)), some (.inl (s'.2.2.1)), some (.inl (s'.2.2.2)), none], [], s'.1, X)) (hK1 : ∀ t : (NN × Int), out = .inr t → Ω 80 ([none, none, some (.inl t.2), none, none], [], t.1, X)) (hF : b_X5_sum_8 fr X N a1 a2 a3 = some out) : Ω 8 ([some (.inr (.inr 16)), some (.inl a1), some (.inl a2), some (.inl a3), none], [], N, X) := by
  unfold b_X5_sum_8 at hF
  refine s_iload_n hG dX5_sum_8 rfl ?_
  refine s_sipush hG dX5_sum_9 sp_400 ⟨by decide, by decide⟩ ?_
  refine s_icmp_ge hG 80 dX5_sum_12 (by decide) (fun c5 => ?_) (fun c5 => ?_)
  · replace hF := Eq.trans (if_pos c5).symm hF
    refine s_iload_n hG dX5_sum_15 rfl ?_
    refine s_if_eq hG 80 dX5_sum_16 (by decide) (fun c4 => ?_) (fun c4 => ?_)
    · replace hF := Eq.trans (if_pos c4).symm hF
      cases hF
      refine m_weak (ls1 := [none, none, some (.inl a2), none, none]) hG ⟨rfl, trivial⟩ ?_
      exact hK1 _ rfl
    · replace hF := Eq.trans (if_neg c4).symm hF
      refine s_aload_n hG dX5_sum_19 rfl ?_
      refine s_geti hG dX5_sum_20 fl_RX5_50 (sk_k hsk 16 rfl) rfl ?_
      refine s_bipush hG dX5_sum_23 bp_43 ⟨by decide, by decide⟩ ?_
      refine s_icmp_eq hG 37 dX5_sum_25 (by decide) (fun c3 => ?_) (fun c3 => ?_)
      · replace hF := Eq.trans (if_pos c3).symm hF
        refine m_weak (ls1 := [some (.inr (.inr 16)), some (.inl a1), none, some (.inl a3), none]) hG ⟨rfl, ⟨rfl, ⟨rfl, trivial⟩⟩⟩ ?_
        exact t_X5_sum_l8_j37 hsk hd hrec hG hK0 hK1 hF
      · replace hF := Eq.trans (if_neg c3).symm hF
        refine s_aload_n hG dX5_sum_28 rfl ?_
        refine s_geti hG dX5_sum_29 fl_RX5_50 (sk_k hsk 16 rfl) rfl ?_
        refine s_bipush hG dX5_sum_32 bp_45 ⟨by decide, by decide⟩ ?_
        refine s_icmp_ne hG 80 dX5_sum_34 (by decide) (fun c2 => ?_) (fun c2 => ?_)
        · replace hF := Eq.trans (if_pos c2).symm hF
          refine m_weak (ls1 := [some (.inr (.inr 16)), some (.inl a1), none, some (.inl a3), none]) hG ⟨rfl, ⟨rfl, ⟨rfl, trivial⟩⟩⟩ ?_
          exact t_X5_sum_l8_j37 hsk hd hrec hG hK0 hK1 hF
        · replace hF := Eq.trans (if_neg c2).symm hF
          cases hF
          refine m_weak (ls1 := [none, none, some (.inl a2), none, none]) hG ⟨rfl, trivial⟩ ?_
          exact hK1 _ rfl
  · replace hF := Eq.trans (if_neg c5).symm hF
    cases hF
    refine m_weak (ls1 := [none, none, some (.inl a2), none, none]) hG ⟨rfl, trivial⟩ ?_
    exact hK1 _ rfl
theorem t_X5_sum_lp8 {drec d n0 s0 nF sF : Nat} {fr : NN → Int → Int → Int → Option (Int × NN)} {X : MX} {Ω : Nat → MS → Prop} {N : NN} {a1 : Int} {a2 : Int} {a3 : Int} (hsk : m_Sk X) (hd : drec + 4 ≤ d) (hrec : ∀ (dr : Nat) (N : NN) (x1 : Int) (x2 : Int) (x3 : Int) (out : (Int × NN)), drec ≤ dr → fr N x1 x2 x3 = some out → m_Call dr yX5_bracketed cX5_bracketed 5 (some .boolean) [.inr (.inr 16), .inl x1, .inl x2, .inl x3] N X (some (.inl out.1)) out.2 X) (hG : m_G d yX5_sum.cls yX5_sum.name cX5_sum 5 n0 s0 nF sF Ω) {t : (NN × Int)} (hK1 : Ω 80 ([none, none, some (.inl t.2), none, none], [], t.1, X)) (hl : lp (fun s => b_X5_sum_8 fr X s.1 s.2.1 s.2.2.1 s.2.2.2) (N, a1, a2, a3) = some t) : Ω 8 ([some (.inr (.inr 16)), some (.inl a1), some (.inl a2), some (.inl a3), none], [], N, X) := by
  refine lp_ok (P := fun s => Ω 8 ([some (.inr (.inr 16)), some (.inl s.2.1), some (.inl s.2.2.1), some (.inl s.2.2.2), none], [], s.1, X)) (K := fun t => Ω 80 ([none, none, some (.inl t.2), none, none], [], t.1, X)) (fun s out hF hK0 hK1 => ?_) hl hK1
  exact t_X5_sum_b8 hsk hd hrec hG (out := out) (fun s' e => hK0 s' e) (fun t' e => hK1 t' e) hF
theorem t_X5_sum {drec d : Nat} {fr : NN → Int → Int → Int → Option (Int × NN)} {X : MX} {N : NN} {a1 : Int} {out : (Int × NN)} (hsk : m_Sk X) (hd : drec + 4 ≤ d) (hrec : ∀ (dr : Nat) (N : NN) (x1 : Int) (x2 : Int) (x3 : Int) (out : (Int × NN)), drec ≤ dr → fr N x1 x2 x3 = some out → m_Call dr yX5_bracketed cX5_bracketed 5 (some .boolean) [.inr (.inr 16), .inl x1, .inl x2, .inl x3] N X (some (.inl out.1)) out.2 X) (hF : f_X5_sum fr X N a1 = some out) : m_Call d yX5_sum cX5_sum 5 (some .boolean) [(.inr (.inr 16)), (.inl a1)] N X (some (.inl out.1)) out.2 X := by
  refine m_mk (ls0 := [some (.inr (.inr 16)), some (.inl a1), none, none, none]) (by decide) rfl (Nat.le_of_ble_eq_true rfl) (Nat.le_refl _) (Nat.le_refl _) (fun Ω hE => ?_)
  have hG := hE.G
  unfold f_X5_sum at hF
  refine s_aload_n hG dX5_sum_0 rfl ?_
  refine s_iload_n hG dX5_sum_1 rfl ?_
  obtain ⟨o1, ho1, hF⟩ := bd_some hF
  refine s_callV (d' := d - 1) (ci := 5) (args := [.inl a1]) hG (by omega) dX5_sum_2 cv_RX5_149 cw_X5_term rfl rfl (sk_k hsk 16 rfl) (Nat.le_of_ble_eq_true rfl) rfl (t_X5_term hsk (by omega) hrec ho1) ?_
  refine s_istore_n hG dX5_sum_5 (by decide) rfl ?_
  refine s_iconst hG dX5_sum_6 ⟨by decide, by decide⟩ ?_
  refine s_istore_n hG dX5_sum_7 (by decide) rfl ?_
  obtain ⟨o10, hlo10, hF⟩ := bd_some hF
  refine t_X5_sum_lp8 hsk hd hrec hG ?_ hlo10
  refine s_iload_n hG dX5_sum_80 rfl ?_
  obtain ⟨g11, hF⟩ := gd_some hF
  cases hF
  exact s_zret hE dX5_sum_81 rfl g11
-- X5_comparison
theorem t_X5_comparison_j61 {drec d n0 s0 nF sF : Nat} {fr : NN → Int → Int → Int → Option (Int × NN)} {X : MX} {Ω : Nat → MS → Prop} {N : NN} {a1 : Int} {a2 : Int} (hsk : m_Sk X) (hd : drec + 5 ≤ d) (hrec : ∀ (dr : Nat) (N : NN) (x1 : Int) (x2 : Int) (x3 : Int) (out : (Int × NN)), drec ≤ dr → fr N x1 x2 x3 = some out → m_Call dr yX5_bracketed cX5_bracketed 5 (some .boolean) [.inr (.inr 16), .inl x1, .inl x2, .inl x3] N X (some (.inl out.1)) out.2 X) (hG : m_G d yX5_comparison.cls yX5_comparison.name cX5_comparison 4 n0 s0 nF sF Ω) {out : (Int × NN)} (hE : m_Gd d yX5_comparison cX5_comparison 4 (some .boolean) X (some (.inl out.1)) out.2 X Ω) (hF : f_X5_comparison_j61 fr X N a1 a2 = some out) : Ω 61 ([some (.inr (.inr 16)), some (.inl a1), some (.inl a2), none], [], N, X) := by
  unfold f_X5_comparison_j61 at hF
  refine s_aload_n hG dX5_comparison_61 rfl ?_
  obtain ⟨o9, ho9, hF⟩ := bd_some hF
  refine s_callV (d' := d - 1) (ci := 5) (args := []) hG (by omega) dX5_comparison_62 cv_RX5_66 cw_X5_advance rfl rfl (sk_k hsk 16 rfl) (Nat.le_of_ble_eq_true rfl) rfl (t_X5_advance hsk (by omega) ho9) ?_
  refine s_aload_n hG dX5_comparison_65 rfl ?_
  refine s_iload_n hG dX5_comparison_66 rfl ?_
  obtain ⟨o10, ho10, hF⟩ := bd_some hF
  refine s_callV (d' := d - 1) (ci := 5) (args := [.inl a1]) hG (by omega) dX5_comparison_67 cv_RX5_126 cw_X5_sum rfl rfl (sk_k hsk 16 rfl) (Nat.le_of_ble_eq_true rfl) rfl (t_X5_sum hsk (by omega) hrec ho10) ?_
  refine s_istore_n hG dX5_comparison_70 (by decide) rfl ?_
  refine s_aload_n hG dX5_comparison_71 rfl ?_
  refine s_getr (r := 21) hG dX5_comparison_72 fl_RX5_29 (sk_k hsk 16 rfl) rfl (sk_R hsk 16 4 rfl) ?_
  refine s_iload_n hG dX5_comparison_75 rfl ?_
  refine s_iconst hG dX5_comparison_76 ⟨by decide, by decide⟩ ?_
  obtain ⟨o11, ho11, hF⟩ := bd_some hF
  refine s_callV (d' := d - 1) (ci := 8) (args := [.inl a2, .inl 0]) hG (by omega) dX5_comparison_77 cv_RX5_132 cw_X8_add rfl rfl (sk_k hsk 21 rfl) (Nat.le_of_ble_eq_true rfl) rfl (t_X8_add hsk (by omega) (sk_T21 hsk) ho11) ?_
  refine s_pop hG dX5_comparison_80 rfl ?_
  refine s_iload_n hG dX5_comparison_81 rfl ?_
  obtain ⟨g12, hF⟩ := gd_some hF
  cases hF
  exact s_zret hE dX5_comparison_82 rfl g12
theorem t_X5_comparison_j40 {drec d n0 s0 nF sF : Nat} {fr : NN → Int → Int → Int → Option (Int × NN)} {X : MX} {Ω : Nat → MS → Prop} {N : NN} {a1 : Int} {z0 : Int} (hsk : m_Sk X) (hd : drec + 5 ≤ d) (hrec : ∀ (dr : Nat) (N : NN) (x1 : Int) (x2 : Int) (x3 : Int) (out : (Int × NN)), drec ≤ dr → fr N x1 x2 x3 = some out → m_Call dr yX5_bracketed cX5_bracketed 5 (some .boolean) [.inr (.inr 16), .inl x1, .inl x2, .inl x3] N X (some (.inl out.1)) out.2 X) (hG : m_G d yX5_comparison.cls yX5_comparison.name cX5_comparison 4 n0 s0 nF sF Ω) {out : (Int × NN)} (hE : m_Gd d yX5_comparison cX5_comparison 4 (some .boolean) X (some (.inl out.1)) out.2 X Ω) (hF : f_X5_comparison_j40 fr X N a1 z0 = some out) : Ω 40 ([some (.inr (.inr 16)), some (.inl a1), none, none], [(.inl z0)], N, X) := by
  unfold f_X5_comparison_j40 at hF
  refine s_istore_n hG dX5_comparison_40 (by decide) rfl ?_
  refine s_iload_n hG dX5_comparison_41 rfl ?_
  refine s_bipush hG dX5_comparison_42 bp_9 ⟨by decide, by decide⟩ ?_
  refine s_icmp_ne hG 61 dX5_comparison_44 (by decide) (fun c8 => ?_) (fun c8 => ?_)
  · replace hF := Eq.trans (if_pos c8).symm hF
    refine s_aload_n hG dX5_comparison_47 rfl ?_
    refine s_geti hG dX5_comparison_48 fl_RX5_50 (sk_k hsk 16 rfl) rfl ?_
    refine s_bipush hG dX5_comparison_51 bp_61 ⟨by decide, by decide⟩ ?_
    refine s_icmp_eq hG 61 dX5_comparison_53 (by decide) (fun c7 => ?_) (fun c7 => ?_)
    · replace hF := Eq.trans (if_pos c7).symm hF
      exact t_X5_comparison_j61 hsk hd hrec hG hE hF
    · replace hF := Eq.trans (if_neg c7).symm hF
      refine s_aload_n hG dX5_comparison_56 rfl ?_
      obtain ⟨o5, ho5, hF⟩ := bd_some hF
      refine s_callV (d' := d - 1) (ci := 5) (args := []) hG (by omega) dX5_comparison_57 cv_RX5_69 cw_X5_wrong rfl rfl (sk_k hsk 16 rfl) (Nat.le_of_ble_eq_true rfl) rfl (t_X5_wrong hsk (by omega) ho5) ?_
      obtain ⟨g6, hF⟩ := gd_some hF
      cases hF
      exact s_zret hE dX5_comparison_60 rfl g6
  · replace hF := Eq.trans (if_neg c8).symm hF
    exact t_X5_comparison_j61 hsk hd hrec hG hE hF
theorem t_X5_comparison {drec d : Nat} {fr : NN → Int → Int → Int → Option (Int × NN)} {X : MX} {N : NN} {a1 : Int} {out : (Int × NN)} (hsk : m_Sk X) (hd : drec + 5 ≤ d) (hrec : ∀ (dr : Nat) (N : NN) (x1 : Int) (x2 : Int) (x3 : Int) (out : (Int × NN)), drec ≤ dr → fr N x1 x2 x3 = some out → m_Call dr yX5_bracketed cX5_bracketed 5 (some .boolean) [.inr (.inr 16), .inl x1, .inl x2, .inl x3] N X (some (.inl out.1)) out.2 X) (hF : f_X5_comparison fr X N a1 = some out) : m_Call d yX5_comparison cX5_comparison 4 (some .boolean) [(.inr (.inr 16)), (.inl a1)] N X (some (.inl out.1)) out.2 X := by
  refine m_mk (ls0 := [some (.inr (.inr 16)), some (.inl a1), none, none]) (by decide) rfl (Nat.le_of_ble_eq_true rfl) (Nat.le_refl _) (Nat.le_refl _) (fun Ω hE => ?_)
  have hG := hE.G
  unfold f_X5_comparison at hF
  refine s_aload_n hG dX5_comparison_0 rfl ?_
  refine s_iload_n hG dX5_comparison_1 rfl ?_
  obtain ⟨o1, ho1, hF⟩ := bd_some hF
  refine s_callV (d' := d - 1) (ci := 5) (args := [.inl a1]) hG (by omega) dX5_comparison_2 cv_RX5_126 cw_X5_sum rfl rfl (sk_k hsk 16 rfl) (Nat.le_of_ble_eq_true rfl) rfl (t_X5_sum hsk (by omega) hrec ho1) ?_
  refine s_if_ne hG 10 dX5_comparison_5 (by decide) (fun c4 => ?_) (fun c4 => ?_)
  · replace hF := Eq.trans (if_pos c4).symm hF
    refine s_iconst hG dX5_comparison_8 ⟨by decide, by decide⟩ ?_
    cases hF
    exact s_zret hE dX5_comparison_9 rfl ⟨by decide, by decide⟩
  · replace hF := Eq.trans (if_neg c4).symm hF
    refine s_aload_n hG dX5_comparison_10 rfl ?_
    refine s_geti hG dX5_comparison_11 fl_RX5_50 (sk_k hsk 16 rfl) rfl ?_
    refine s_bipush hG dX5_comparison_14 bp_60 ⟨by decide, by decide⟩ ?_
    refine s_icmp_ne hG 24 dX5_comparison_16 (by decide) (fun c3 => ?_) (fun c3 => ?_)
    · replace hF := Eq.trans (if_pos c3).symm hF
      refine s_bipush hG dX5_comparison_19 bp_7 ⟨by decide, by decide⟩ ?_
      refine s_goto hG 40 dX5_comparison_21 (by decide) ?_
      exact t_X5_comparison_j40 hsk hd hrec hG hE hF
    · replace hF := Eq.trans (if_neg c3).symm hF
      refine s_aload_n hG dX5_comparison_24 rfl ?_
      refine s_geti hG dX5_comparison_25 fl_RX5_50 (sk_k hsk 16 rfl) rfl ?_
      refine s_bipush hG dX5_comparison_28 bp_62 ⟨by decide, by decide⟩ ?_
      refine s_icmp_ne hG 38 dX5_comparison_30 (by decide) (fun c2 => ?_) (fun c2 => ?_)
      · replace hF := Eq.trans (if_pos c2).symm hF
        refine s_bipush hG dX5_comparison_33 bp_8 ⟨by decide, by decide⟩ ?_
        refine s_goto hG 40 dX5_comparison_35 (by decide) ?_
        exact t_X5_comparison_j40 hsk hd hrec hG hE hF
      · replace hF := Eq.trans (if_neg c2).symm hF
        refine s_bipush hG dX5_comparison_38 bp_9 ⟨by decide, by decide⟩ ?_
        exact t_X5_comparison_j40 hsk hd hrec hG hE hF
-- X5_plain
theorem t_X5_plain_l4_j30 {drec d n0 s0 nF sF : Nat} {fr : NN → Int → Int → Int → Option (Int × NN)} {X : MX} {Ω : Nat → MS → Prop} {N : NN} {a1 : Int} {a3 : Int} {z0 : Int} (hsk : m_Sk X) (hd : drec + 6 ≤ d) (hrec : ∀ (dr : Nat) (N : NN) (x1 : Int) (x2 : Int) (x3 : Int) (out : (Int × NN)), drec ≤ dr → fr N x1 x2 x3 = some out → m_Call dr yX5_bracketed cX5_bracketed 5 (some .boolean) [.inr (.inr 16), .inl x1, .inl x2, .inl x3] N X (some (.inl out.1)) out.2 X) (hG : m_G d yX5_plain.cls yX5_plain.name cX5_plain 4 n0 s0 nF sF Ω) {out : ((NN × Int × Int × Int) ⊕ (NN × Int × Int))} (hK0 : ∀ s' : (NN × Int × Int × Int), out = .inl s' → Ω 4 ([some (.inr (.inr 16)), some (.inl (s'.2.1)), some (.inl (s'.2.2.1)), some (.inl (s'.2.2.2))], [], s'.1, X)) (hK1 : ∀ t : (NN × Int × Int), out = .inr t → Ω 41 ([some (.inr (.inr 16)), some (.inl t.2.1), some (.inl t.2.2), none], [], t.1, X)) (hF : f_X5_plain_l4_j30 fr X N a1 a3 z0 = some out) : Ω 30 ([some (.inr (.inr 16)), some (.inl a1), none, some (.inl a3)], [(.inl z0)], N, X) := by
  unfold f_X5_plain_l4_j30 at hF
  refine s_istore_n hG dX5_plain_30 (by decide) rfl ?_
  refine s_aload_n hG dX5_plain_31 rfl ?_
  obtain ⟨o4, ho4, hF⟩ := bd_some hF
  refine s_callV (d' := d - 1) (ci := 5) (args := []) hG (by omega) dX5_plain_32 cv_RX5_66 cw_X5_advance rfl rfl (sk_k hsk 16 rfl) (Nat.le_of_ble_eq_true rfl) rfl (t_X5_advance hsk (by omega) ho4) ?_
  refine s_iinc hG dX5_plain_35 (by decide) rfl rfl ?_
  refine s_goto hG 4 dX5_plain_38 (by decide) ?_
  cases hF
  exact hK0 _ rfl
theorem t_X5_plain_b4 {drec d n0 s0 nF sF : Nat} {fr : NN → Int → Int → Int → Option (Int × NN)} {X : MX} {Ω : Nat → MS → Prop} {N : NN} {a1 : Int} {a2 : Int} {a3 : Int} (hsk : m_Sk X) (hd : drec + 6 ≤ d) (hrec : ∀ (dr : Nat) (N : NN) (x1 : Int) (x2 : Int) (x3 : Int) (out : (Int × NN)), drec ≤ dr → fr N x1 x2 x3 = some out → m_Call dr yX5_bracketed cX5_bracketed 5 (some .boolean) [.inr (.inr 16), .inl x1, .inl x2, .inl x3] N X (some (.inl out.1)) out.2 X) (hG : m_G d yX5_plain.cls yX5_plain.name cX5_plain 4 n0 s0 nF sF Ω) {out : ((NN × Int × Int × Int) ⊕ (NN × Int × Int))} (hK0 : ∀ s' : (NN × Int × Int × Int), out = .inl s' → Ω 4 ([some (.inr (.inr 16)), some (.inl (s'.2.1)), some (.inl (s'.2.2.1)), some (.inl (s'.2.2.2))], [], s'.1, X)) (hK1 : ∀ t : (NN × Int × Int), out = .inr t → Ω 41 ([some (.inr (.inr 16)), some (.inl t.2.1), some (.inl t.2.2), none], [], t.1, X)) (hF : b_X5_plain_4 fr X N a1 a2 a3 = some out) : Ω 4 ([some (.inr (.inr 16)), some (.inl a1), some (.inl a2), some (.inl a3)], [], N, X) := by
  unfold b_X5_plain_4 at hF
  refine s_iload_n hG dX5_plain_4 rfl ?_
  refine s_sipush hG dX5_plain_5 sp_400 ⟨by decide, by decide⟩ ?_
  refine s_icmp_ge hG 41 dX5_plain_8 (by decide) (fun c3 => ?_) (fun c3 => ?_)
  · replace hF := Eq.trans (if_pos c3).symm hF
    refine s_aload_n hG dX5_plain_11 rfl ?_
    refine s_geti hG dX5_plain_12 fl_RX5_50 (sk_k hsk 16 rfl) rfl ?_
    refine s_sipush hG dX5_plain_15 sp_262 ⟨by decide, by decide⟩ ?_
    refine s_icmp_ne hG 41 dX5_plain_18 (by decide) (fun c2 => ?_) (fun c2 => ?_)
    · replace hF := Eq.trans (if_pos c2).symm hF
      refine s_iload_n hG dX5_plain_21 rfl ?_
      refine s_if_ne hG 29 dX5_plain_22 (by decide) (fun c1 => ?_) (fun c1 => ?_)
      · replace hF := Eq.trans (if_pos c1).symm hF
        refine s_iconst hG dX5_plain_25 ⟨by decide, by decide⟩ ?_
        refine s_goto hG 30 dX5_plain_26 (by decide) ?_
        refine m_weak (ls1 := [some (.inr (.inr 16)), some (.inl a1), none, some (.inl a3)]) hG ⟨rfl, ⟨rfl, ⟨rfl, trivial⟩⟩⟩ ?_
        exact t_X5_plain_l4_j30 hsk hd hrec hG hK0 hK1 hF
      · replace hF := Eq.trans (if_neg c1).symm hF
        refine s_iconst hG dX5_plain_29 ⟨by decide, by decide⟩ ?_
        refine m_weak (ls1 := [some (.inr (.inr 16)), some (.inl a1), none, some (.inl a3)]) hG ⟨rfl, ⟨rfl, ⟨rfl, trivial⟩⟩⟩ ?_
        exact t_X5_plain_l4_j30 hsk hd hrec hG hK0 hK1 hF
    · replace hF := Eq.trans (if_neg c2).symm hF
      cases hF
      refine m_weak (ls1 := [some (.inr (.inr 16)), some (.inl a1), some (.inl a2), none]) hG ⟨rfl, ⟨rfl, ⟨rfl, trivial⟩⟩⟩ ?_
      exact hK1 _ rfl
  · replace hF := Eq.trans (if_neg c3).symm hF
    cases hF
    refine m_weak (ls1 := [some (.inr (.inr 16)), some (.inl a1), some (.inl a2), none]) hG ⟨rfl, ⟨rfl, ⟨rfl, trivial⟩⟩⟩ ?_
    exact hK1 _ rfl
theorem t_X5_plain_lp4 {drec d n0 s0 nF sF : Nat} {fr : NN → Int → Int → Int → Option (Int × NN)} {X : MX} {Ω : Nat → MS → Prop} {N : NN} {a1 : Int} {a2 : Int} {a3 : Int} (hsk : m_Sk X) (hd : drec + 6 ≤ d) (hrec : ∀ (dr : Nat) (N : NN) (x1 : Int) (x2 : Int) (x3 : Int) (out : (Int × NN)), drec ≤ dr → fr N x1 x2 x3 = some out → m_Call dr yX5_bracketed cX5_bracketed 5 (some .boolean) [.inr (.inr 16), .inl x1, .inl x2, .inl x3] N X (some (.inl out.1)) out.2 X) (hG : m_G d yX5_plain.cls yX5_plain.name cX5_plain 4 n0 s0 nF sF Ω) {t : (NN × Int × Int)} (hK1 : Ω 41 ([some (.inr (.inr 16)), some (.inl t.2.1), some (.inl t.2.2), none], [], t.1, X)) (hl : lp (fun s => b_X5_plain_4 fr X s.1 s.2.1 s.2.2.1 s.2.2.2) (N, a1, a2, a3) = some t) : Ω 4 ([some (.inr (.inr 16)), some (.inl a1), some (.inl a2), some (.inl a3)], [], N, X) := by
  refine lp_ok (P := fun s => Ω 4 ([some (.inr (.inr 16)), some (.inl s.2.1), some (.inl s.2.2.1), some (.inl s.2.2.2)], [], s.1, X)) (K := fun t => Ω 41 ([some (.inr (.inr 16)), some (.inl t.2.1), some (.inl t.2.2), none], [], t.1, X)) (fun s out hF hK0 hK1 => ?_) hl hK1
  exact t_X5_plain_b4 hsk hd hrec hG (out := out) (fun s' e => hK0 s' e) (fun t' e => hK1 t' e) hF
theorem t_X5_plain_j87 {drec d n0 s0 nF sF : Nat} {fr : NN → Int → Int → Int → Option (Int × NN)} {X : MX} {Ω : Nat → MS → Prop} {N : NN} {a3 : Int} (hsk : m_Sk X) (hd : drec + 6 ≤ d) (hrec : ∀ (dr : Nat) (N : NN) (x1 : Int) (x2 : Int) (x3 : Int) (out : (Int × NN)), drec ≤ dr → fr N x1 x2 x3 = some out → m_Call dr yX5_bracketed cX5_bracketed 5 (some .boolean) [.inr (.inr 16), .inl x1, .inl x2, .inl x3] N X (some (.inl out.1)) out.2 X) (hG : m_G d yX5_plain.cls yX5_plain.name cX5_plain 4 n0 s0 nF sF Ω) {out : (Int × NN)} (hE : m_Gd d yX5_plain cX5_plain 4 (some .boolean) X (some (.inl out.1)) out.2 X Ω) (hF : f_X5_plain_j87 fr X N a3 = some out) : Ω 87 ([none, none, none, some (.inl a3)], [], N, X) := by
  unfold f_X5_plain_j87 at hF
  refine s_iload_n hG dX5_plain_87 rfl ?_
  obtain ⟨g12, hF⟩ := gd_some hF
  cases hF
  exact s_zret hE dX5_plain_88 rfl g12
theorem t_X5_plain_j67 {drec d n0 s0 nF sF : Nat} {fr : NN → Int → Int → Int → Option (Int × NN)} {X : MX} {Ω : Nat → MS → Prop} {N : NN} {a2 : Int} {z0 : Int} (hsk : m_Sk X) (hd : drec + 6 ≤ d) (hrec : ∀ (dr : Nat) (N : NN) (x1 : Int) (x2 : Int) (x3 : Int) (out : (Int × NN)), drec ≤ dr → fr N x1 x2 x3 = some out → m_Call dr yX5_bracketed cX5_bracketed 5 (some .boolean) [.inr (.inr 16), .inl x1, .inl x2, .inl x3] N X (some (.inl out.1)) out.2 X) (hG : m_G d yX5_plain.cls yX5_plain.name cX5_plain 4 n0 s0 nF sF Ω) {out : (Int × NN)} (hE : m_Gd d yX5_plain cX5_plain 4 (some .boolean) X (some (.inl out.1)) out.2 X Ω) (hF : f_X5_plain_j67 fr X N a2 z0 = some out) : Ω 67 ([some (.inr (.inr 16)), none, some (.inl a2), none], [(.inl z0)], N, X) := by
  unfold f_X5_plain_j67 at hF
  refine s_istore_n hG dX5_plain_67 (by decide) rfl ?_
  refine s_iload_n hG dX5_plain_68 rfl ?_
  refine s_if_eq hG 87 dX5_plain_69 (by decide) (fun c11 => ?_) (fun c11 => ?_)
  · replace hF := Eq.trans (if_pos c11).symm hF
    refine m_weak (ls1 := [none, none, none, some (.inl z0)]) hG ⟨rfl, trivial⟩ ?_
    exact t_X5_plain_j87 hsk hd hrec hG hE hF
  · replace hF := Eq.trans (if_neg c11).symm hF
    refine s_iload_n hG dX5_plain_72 rfl ?_
    refine s_if_eq hG 87 dX5_plain_73 (by decide) (fun c10 => ?_) (fun c10 => ?_)
    · replace hF := Eq.trans (if_pos c10).symm hF
      refine m_weak (ls1 := [none, none, none, some (.inl z0)]) hG ⟨rfl, trivial⟩ ?_
      exact t_X5_plain_j87 hsk hd hrec hG hE hF
    · replace hF := Eq.trans (if_neg c10).symm hF
      refine s_aload_n hG dX5_plain_76 rfl ?_
      refine s_getr (r := 21) hG dX5_plain_77 fl_RX5_29 (sk_k hsk 16 rfl) rfl (sk_R hsk 16 4 rfl) ?_
      refine s_bipush hG dX5_plain_80 bp_10 ⟨by decide, by decide⟩ ?_
      refine s_iconst hG dX5_plain_82 ⟨by decide, by decide⟩ ?_
      obtain ⟨o9, ho9, hF⟩ := bd_some hF
      refine s_callV (d' := d - 1) (ci := 8) (args := [.inl 10, .inl 0]) hG (by omega) dX5_plain_83 cv_RX5_132 cw_X8_add rfl rfl (sk_k hsk 21 rfl) (Nat.le_of_ble_eq_true rfl) rfl (t_X8_add hsk (by omega) (sk_T21 hsk) ho9) ?_
      refine s_pop hG dX5_plain_86 rfl ?_
      refine m_weak (ls1 := [none, none, none, some (.inl z0)]) hG ⟨rfl, trivial⟩ ?_
      exact t_X5_plain_j87 hsk hd hrec hG hE hF
theorem t_X5_plain {drec d : Nat} {fr : NN → Int → Int → Int → Option (Int × NN)} {X : MX} {N : NN} {a1 : Int} {out : (Int × NN)} (hsk : m_Sk X) (hd : drec + 6 ≤ d) (hrec : ∀ (dr : Nat) (N : NN) (x1 : Int) (x2 : Int) (x3 : Int) (out : (Int × NN)), drec ≤ dr → fr N x1 x2 x3 = some out → m_Call dr yX5_bracketed cX5_bracketed 5 (some .boolean) [.inr (.inr 16), .inl x1, .inl x2, .inl x3] N X (some (.inl out.1)) out.2 X) (hF : f_X5_plain fr X N a1 = some out) : m_Call d yX5_plain cX5_plain 4 (some .boolean) [(.inr (.inr 16)), (.inl a1)] N X (some (.inl out.1)) out.2 X := by
  refine m_mk (ls0 := [some (.inr (.inr 16)), some (.inl a1), none, none]) (by decide) rfl (Nat.le_of_ble_eq_true rfl) (Nat.le_refl _) (Nat.le_refl _) (fun Ω hE => ?_)
  have hG := hE.G
  unfold f_X5_plain at hF
  refine s_iconst hG dX5_plain_0 ⟨by decide, by decide⟩ ?_
  refine s_istore_n hG dX5_plain_1 (by decide) rfl ?_
  refine s_iconst hG dX5_plain_2 ⟨by decide, by decide⟩ ?_
  refine s_istore_n hG dX5_plain_3 (by decide) rfl ?_
  obtain ⟨o5, hlo5, hF⟩ := bd_some hF
  refine t_X5_plain_lp4 hsk hd hrec hG ?_ hlo5
  refine s_aload_n hG dX5_plain_41 rfl ?_
  refine s_geti hG dX5_plain_42 fl_RX5_50 (sk_k hsk 16 rfl) rfl ?_
  refine s_bipush hG dX5_plain_45 bp_40 ⟨by decide, by decide⟩ ?_
  refine s_icmp_ne hG 62 dX5_plain_47 (by decide) (fun c8 => ?_) (fun c8 => ?_)
  · replace hF := Eq.trans (if_pos c8).symm hF
    refine s_aload_n hG dX5_plain_50 rfl ?_
    refine s_iload_n hG dX5_plain_51 rfl ?_
    refine s_bipush hG dX5_plain_52 bp_40 ⟨by decide, by decide⟩ ?_
    refine s_bipush hG dX5_plain_54 bp_41 ⟨by decide, by decide⟩ ?_
    obtain ⟨o6, ho6, hF⟩ := bd_some hF
    refine s_callV (d' := d - 1) (ci := 5) (args := [.inl o5.2.1, .inl 40, .inl 41]) hG (by omega) dX5_plain_56 cv_RX5_142 cw_X5_bracketed rfl rfl (sk_k hsk 16 rfl) (Nat.le_of_ble_eq_true rfl) rfl (hrec (d - 1) _ _ _ _ _ (by omega) ho6) ?_
    refine s_goto hG 67 dX5_plain_59 (by decide) ?_
    refine m_weak (ls1 := [some (.inr (.inr 16)), none, some (.inl o5.2.2), none]) hG ⟨rfl, ⟨rfl, trivial⟩⟩ ?_
    exact t_X5_plain_j67 hsk hd hrec hG hE hF
  · replace hF := Eq.trans (if_neg c8).symm hF
    refine s_aload_n hG dX5_plain_62 rfl ?_
    refine s_iload_n hG dX5_plain_63 rfl ?_
    obtain ⟨o7, ho7, hF⟩ := bd_some hF
    refine s_callV (d' := d - 1) (ci := 5) (args := [.inl o5.2.1]) hG (by omega) dX5_plain_64 cv_RX5_146 cw_X5_comparison rfl rfl (sk_k hsk 16 rfl) (Nat.le_of_ble_eq_true rfl) rfl (t_X5_comparison hsk (by omega) hrec ho7) ?_
    refine m_weak (ls1 := [some (.inr (.inr 16)), none, some (.inl o5.2.2), none]) hG ⟨rfl, ⟨rfl, trivial⟩⟩ ?_
    exact t_X5_plain_j67 hsk hd hrec hG hE hF
-- X8_landHere
theorem t_X8_landHere {d : Nat} {X : MX} {r0 : Nat} {N : NN} {a1 : Int} {out : NN} (hsk : m_Sk X) (hd : 1 ≤ d) (h0 : m_isT X r0) (hF : f_X8_landHere X r0 N a1 = some out) : m_Call d yX8_landHere cX8_landHere 2 none [(.inr (.inr r0)), (.inl a1)] N X none out X := by
  refine m_mk (ls0 := [some (.inr (.inr r0)), some (.inl a1)]) (by decide) rfl (Nat.le_of_ble_eq_true rfl) (Nat.le_refl _) (Nat.le_refl _) (fun Ω hE => ?_)
  have hG := hE.G
  unfold f_X8_landHere at hF
  refine s_iload_n hG dX8_landHere_0 rfl ?_
  refine s_if_lt hG 22 dX8_landHere_1 (by decide) (fun c4 => ?_) (fun c4 => ?_)
  · replace hF := Eq.trans (if_pos c4).symm hF
    cases hF
    exact s_vret hE dX8_landHere_22 rfl
  · replace hF := Eq.trans (if_neg c4).symm hF
    refine s_iload_n hG dX8_landHere_4 rfl ?_
    refine s_aload_n hG dX8_landHere_5 rfl ?_
    refine s_geti hG dX8_landHere_6 fl_RX8_25 h0.1 rfl ?_
    refine s_icmp_ge hG 22 dX8_landHere_9 (by decide) (fun c3 => ?_) (fun c3 => ?_)
    · replace hF := Eq.trans (if_pos c3).symm hF
      refine s_aload_n hG dX8_landHere_12 rfl ?_
      refine s_getr (r := (r0 + 2)) hG dX8_landHere_13 fl_RX8_19 h0.1 rfl h0.2.2.1 ?_
      refine s_iload_n hG dX8_landHere_16 rfl ?_
      refine s_aload_n hG dX8_landHere_17 rfl ?_
      refine s_geti hG dX8_landHere_18 fl_RX8_25 h0.1 rfl ?_
      obtain ⟨g1, hF⟩ := gd_some hF
      refine s_iastj (j := a1.toNat) hG dX8_landHere_21 (m_k1 h0.2.2.2.2.2.1) g1 rfl ?_
      cases hF
      exact s_vret hE dX8_landHere_22 rfl
    · replace hF := Eq.trans (if_neg c3).symm hF
      cases hF
      exact s_vret hE dX8_landHere_22 rfl
-- X5_both
theorem t_X5_both_b8 {drec d n0 s0 nF sF : Nat} {fr : NN → Int → Int → Int → Option (Int × NN)} {X : MX} {Ω : Nat → MS → Prop} {N : NN} {a1 : Int} {a2 : Int} {a3 : Int} (hsk : m_Sk X) (hd : drec + 7 ≤ d) (hrec : ∀ (dr : Nat) (N : NN) (x1 : Int) (x2 : Int) (x3 : Int) (out : (Int × NN)), drec ≤ dr → fr N x1 x2 x3 = some out → m_Call dr yX5_bracketed cX5_bracketed 5 (some .boolean) [.inr (.inr 16), .inl x1, .inl x2, .inl x3] N X (some (.inl out.1)) out.2 X) (hG : m_G d yX5_both.cls yX5_both.name cX5_both 5 n0 s0 nF sF Ω) {out : ((NN × Int × Int × Int) ⊕ (NN × Int))} (hK0 : ∀ s' : (NN × Int × Int × Int), out = .inl s' → Ω 8 ([some (.inr (.inr 16)), some (.inl (s'.2.1)), some (.inl (s'.2.2.1)), some (.inl (s'.2.2.2)), none], [], s'.1, X)) (hK1 : ∀ t : (NN × Int), out = .inr t → Ω 66 ([none, none, some (.inl t.2), none, none], [], t.1, X)) (hF : b_X5_both_8 fr X N a1 a2 a3 = some out) : Ω 8 ([some (.inr (.inr 16)), some (.inl a1), some (.inl a2), some (.inl a3), none], [], N, X) := by
  unfold b_X5_both_8 at hF
  refine s_iload_n hG dX5_both_8 rfl ?_
  refine s_sipush hG dX5_both_9 sp_400 ⟨by decide, by decide⟩ ?_
  refine s_icmp_ge hG 66 dX5_both_12 (by decide) (fun c8 => ?_) (fun c8 => ?_)
  · replace hF := Eq.trans (if_pos c8).symm hF
    refine s_iload_n hG dX5_both_15 rfl ?_
    refine s_if_eq hG 66 dX5_both_16 (by decide) (fun c7 => ?_) (fun c7 => ?_)
    · replace hF := Eq.trans (if_pos c7).symm hF
      cases hF
      refine m_weak (ls1 := [none, none, some (.inl a2), none, none]) hG ⟨rfl, trivial⟩ ?_
      exact hK1 _ rfl
    · replace hF := Eq.trans (if_neg c7).symm hF
      refine s_aload_n hG dX5_both_19 rfl ?_
      refine s_geti hG dX5_both_20 fl_RX5_50 (sk_k hsk 16 rfl) rfl ?_
      refine s_sipush hG dX5_both_23 sp_261 ⟨by decide, by decide⟩ ?_
      refine s_icmp_ne hG 66 dX5_both_26 (by decide) (fun c6 => ?_) (fun c6 => ?_)
      · replace hF := Eq.trans (if_pos c6).symm hF
        refine s_aload_n hG dX5_both_29 rfl ?_
        refine s_getr (r := 21) hG dX5_both_30 fl_RX5_29 (sk_k hsk 16 rfl) rfl (sk_R hsk 16 4 rfl) ?_
        refine s_bipush hG dX5_both_33 bp_11 ⟨by decide, by decide⟩ ?_
        refine s_iconst hG dX5_both_35 ⟨by decide, by decide⟩ ?_
        obtain ⟨o2, ho2, hF⟩ := bd_some hF
        refine s_callV (d' := d - 1) (ci := 8) (args := [.inl 11, .inl 0]) hG (by omega) dX5_both_36 cv_RX5_132 cw_X8_add rfl rfl (sk_k hsk 21 rfl) (Nat.le_of_ble_eq_true rfl) rfl (t_X8_add hsk (by omega) (sk_T21 hsk) ho2) ?_
        refine s_istore hG dX5_both_39 (by decide) rfl ?_
        refine s_aload_n hG dX5_both_41 rfl ?_
        obtain ⟨o3, ho3, hF⟩ := bd_some hF
        refine s_callV (d' := d - 1) (ci := 5) (args := []) hG (by omega) dX5_both_42 cv_RX5_66 cw_X5_advance rfl rfl (sk_k hsk 16 rfl) (Nat.le_of_ble_eq_true rfl) rfl (t_X5_advance hsk (by omega) ho3) ?_
        refine s_aload_n hG dX5_both_45 rfl ?_
        refine s_iload_n hG dX5_both_46 rfl ?_
        obtain ⟨o4, ho4, hF⟩ := bd_some hF
        refine s_callV (d' := d - 1) (ci := 5) (args := [.inl a1]) hG (by omega) dX5_both_47 cv_RX5_139 cw_X5_plain rfl rfl (sk_k hsk 16 rfl) (Nat.le_of_ble_eq_true rfl) rfl (t_X5_plain hsk (by omega) hrec ho4) ?_
        refine s_istore_n hG dX5_both_50 (by decide) rfl ?_
        refine s_aload_n hG dX5_both_51 rfl ?_
        refine s_getr (r := 21) hG dX5_both_52 fl_RX5_29 (sk_k hsk 16 rfl) rfl (sk_R hsk 16 4 rfl) ?_
        refine s_iload hG dX5_both_55 rfl ?_
        obtain ⟨o5, ho5, hF⟩ := bd_some hF
        refine s_callV (d' := d - 1) (ci := 8) (args := [.inl o2.1]) hG (by omega) dX5_both_57 cv_RX5_135 cw_X8_landHere rfl rfl (sk_k hsk 21 rfl) (Nat.le_of_ble_eq_true rfl) rfl (t_X8_landHere hsk (by omega) (sk_T21 hsk) ho5) ?_
        refine s_iinc hG dX5_both_60 (by decide) rfl rfl ?_
        refine s_goto hG 8 dX5_both_63 (by decide) ?_
        cases hF
        refine m_weak (ls1 := [some (.inr (.inr 16)), some (.inl a1), some (.inl o4.1), some (.inl (m_w (a3 + 1))), none]) hG ⟨rfl, ⟨rfl, ⟨rfl, ⟨rfl, trivial⟩⟩⟩⟩ ?_
        exact hK0 _ rfl
      · replace hF := Eq.trans (if_neg c6).symm hF
        cases hF
        refine m_weak (ls1 := [none, none, some (.inl a2), none, none]) hG ⟨rfl, trivial⟩ ?_
        exact hK1 _ rfl
  · replace hF := Eq.trans (if_neg c8).symm hF
    cases hF
    refine m_weak (ls1 := [none, none, some (.inl a2), none, none]) hG ⟨rfl, trivial⟩ ?_
    exact hK1 _ rfl
theorem t_X5_both_lp8 {drec d n0 s0 nF sF : Nat} {fr : NN → Int → Int → Int → Option (Int × NN)} {X : MX} {Ω : Nat → MS → Prop} {N : NN} {a1 : Int} {a2 : Int} {a3 : Int} (hsk : m_Sk X) (hd : drec + 7 ≤ d) (hrec : ∀ (dr : Nat) (N : NN) (x1 : Int) (x2 : Int) (x3 : Int) (out : (Int × NN)), drec ≤ dr → fr N x1 x2 x3 = some out → m_Call dr yX5_bracketed cX5_bracketed 5 (some .boolean) [.inr (.inr 16), .inl x1, .inl x2, .inl x3] N X (some (.inl out.1)) out.2 X) (hG : m_G d yX5_both.cls yX5_both.name cX5_both 5 n0 s0 nF sF Ω) {t : (NN × Int)} (hK1 : Ω 66 ([none, none, some (.inl t.2), none, none], [], t.1, X)) (hl : lp (fun s => b_X5_both_8 fr X s.1 s.2.1 s.2.2.1 s.2.2.2) (N, a1, a2, a3) = some t) : Ω 8 ([some (.inr (.inr 16)), some (.inl a1), some (.inl a2), some (.inl a3), none], [], N, X) := by
  refine lp_ok (P := fun s => Ω 8 ([some (.inr (.inr 16)), some (.inl s.2.1), some (.inl s.2.2.1), some (.inl s.2.2.2), none], [], s.1, X)) (K := fun t => Ω 66 ([none, none, some (.inl t.2), none, none], [], t.1, X)) (fun s out hF hK0 hK1 => ?_) hl hK1
  exact t_X5_both_b8 hsk hd hrec hG (out := out) (fun s' e => hK0 s' e) (fun t' e => hK1 t' e) hF
theorem t_X5_both {drec d : Nat} {fr : NN → Int → Int → Int → Option (Int × NN)} {X : MX} {N : NN} {a1 : Int} {out : (Int × NN)} (hsk : m_Sk X) (hd : drec + 7 ≤ d) (hrec : ∀ (dr : Nat) (N : NN) (x1 : Int) (x2 : Int) (x3 : Int) (out : (Int × NN)), drec ≤ dr → fr N x1 x2 x3 = some out → m_Call dr yX5_bracketed cX5_bracketed 5 (some .boolean) [.inr (.inr 16), .inl x1, .inl x2, .inl x3] N X (some (.inl out.1)) out.2 X) (hF : f_X5_both fr X N a1 = some out) : m_Call d yX5_both cX5_both 5 (some .boolean) [(.inr (.inr 16)), (.inl a1)] N X (some (.inl out.1)) out.2 X := by
  refine m_mk (ls0 := [some (.inr (.inr 16)), some (.inl a1), none, none, none]) (by decide) rfl (Nat.le_of_ble_eq_true rfl) (Nat.le_refl _) (Nat.le_refl _) (fun Ω hE => ?_)
  have hG := hE.G
  unfold f_X5_both at hF
  refine s_aload_n hG dX5_both_0 rfl ?_
  refine s_iload_n hG dX5_both_1 rfl ?_
  obtain ⟨o1, ho1, hF⟩ := bd_some hF
  refine s_callV (d' := d - 1) (ci := 5) (args := [.inl a1]) hG (by omega) dX5_both_2 cv_RX5_139 cw_X5_plain rfl rfl (sk_k hsk 16 rfl) (Nat.le_of_ble_eq_true rfl) rfl (t_X5_plain hsk (by omega) hrec ho1) ?_
  refine s_istore_n hG dX5_both_5 (by decide) rfl ?_
  refine s_iconst hG dX5_both_6 ⟨by decide, by decide⟩ ?_
  refine s_istore_n hG dX5_both_7 (by decide) rfl ?_
  obtain ⟨o9, hlo9, hF⟩ := bd_some hF
  refine t_X5_both_lp8 hsk hd hrec hG ?_ hlo9
  refine s_iload_n hG dX5_both_66 rfl ?_
  obtain ⟨g10, hF⟩ := gd_some hF
  cases hF
  exact s_zret hE dX5_both_67 rfl g10
-- X5_test
theorem t_X5_test_b8 {drec d n0 s0 nF sF : Nat} {fr : NN → Int → Int → Int → Option (Int × NN)} {X : MX} {Ω : Nat → MS → Prop} {N : NN} {a1 : Int} {a2 : Int} {a3 : Int} (hsk : m_Sk X) (hd : drec + 8 ≤ d) (hrec : ∀ (dr : Nat) (N : NN) (x1 : Int) (x2 : Int) (x3 : Int) (out : (Int × NN)), drec ≤ dr → fr N x1 x2 x3 = some out → m_Call dr yX5_bracketed cX5_bracketed 5 (some .boolean) [.inr (.inr 16), .inl x1, .inl x2, .inl x3] N X (some (.inl out.1)) out.2 X) (hG : m_G d yX5_test.cls yX5_test.name cX5_test 5 n0 s0 nF sF Ω) {out : ((NN × Int × Int × Int) ⊕ (NN × Int))} (hK0 : ∀ s' : (NN × Int × Int × Int), out = .inl s' → Ω 8 ([some (.inr (.inr 16)), some (.inl (s'.2.1)), some (.inl (s'.2.2.1)), some (.inl (s'.2.2.2)), none], [], s'.1, X)) (hK1 : ∀ t : (NN × Int), out = .inr t → Ω 66 ([none, none, some (.inl t.2), none, none], [], t.1, X)) (hF : b_X5_test_8 fr X N a1 a2 a3 = some out) : Ω 8 ([some (.inr (.inr 16)), some (.inl a1), some (.inl a2), some (.inl a3), none], [], N, X) := by
  unfold b_X5_test_8 at hF
  refine s_iload_n hG dX5_test_8 rfl ?_
  refine s_sipush hG dX5_test_9 sp_400 ⟨by decide, by decide⟩ ?_
  refine s_icmp_ge hG 66 dX5_test_12 (by decide) (fun c8 => ?_) (fun c8 => ?_)
  · replace hF := Eq.trans (if_pos c8).symm hF
    refine s_iload_n hG dX5_test_15 rfl ?_
    refine s_if_eq hG 66 dX5_test_16 (by decide) (fun c7 => ?_) (fun c7 => ?_)
    · replace hF := Eq.trans (if_pos c7).symm hF
      cases hF
      refine m_weak (ls1 := [none, none, some (.inl a2), none, none]) hG ⟨rfl, trivial⟩ ?_
      exact hK1 _ rfl
    · replace hF := Eq.trans (if_neg c7).symm hF
      refine s_aload_n hG dX5_test_19 rfl ?_
      refine s_geti hG dX5_test_20 fl_RX5_50 (sk_k hsk 16 rfl) rfl ?_
      refine s_sipush hG dX5_test_23 sp_260 ⟨by decide, by decide⟩ ?_
      refine s_icmp_ne hG 66 dX5_test_26 (by decide) (fun c6 => ?_) (fun c6 => ?_)
      · replace hF := Eq.trans (if_pos c6).symm hF
        refine s_aload_n hG dX5_test_29 rfl ?_
        refine s_getr (r := 21) hG dX5_test_30 fl_RX5_29 (sk_k hsk 16 rfl) rfl (sk_R hsk 16 4 rfl) ?_
        refine s_bipush hG dX5_test_33 bp_12 ⟨by decide, by decide⟩ ?_
        refine s_iconst hG dX5_test_35 ⟨by decide, by decide⟩ ?_
        obtain ⟨o2, ho2, hF⟩ := bd_some hF
        refine s_callV (d' := d - 1) (ci := 8) (args := [.inl 12, .inl 0]) hG (by omega) dX5_test_36 cv_RX5_132 cw_X8_add rfl rfl (sk_k hsk 21 rfl) (Nat.le_of_ble_eq_true rfl) rfl (t_X8_add hsk (by omega) (sk_T21 hsk) ho2) ?_
        refine s_istore hG dX5_test_39 (by decide) rfl ?_
        refine s_aload_n hG dX5_test_41 rfl ?_
        obtain ⟨o3, ho3, hF⟩ := bd_some hF
        refine s_callV (d' := d - 1) (ci := 5) (args := []) hG (by omega) dX5_test_42 cv_RX5_66 cw_X5_advance rfl rfl (sk_k hsk 16 rfl) (Nat.le_of_ble_eq_true rfl) rfl (t_X5_advance hsk (by omega) ho3) ?_
        refine s_aload_n hG dX5_test_45 rfl ?_
        refine s_iload_n hG dX5_test_46 rfl ?_
        obtain ⟨o4, ho4, hF⟩ := bd_some hF
        refine s_callV (d' := d - 1) (ci := 5) (args := [.inl a1]) hG (by omega) dX5_test_47 cv_RX5_129 cw_X5_both rfl rfl (sk_k hsk 16 rfl) (Nat.le_of_ble_eq_true rfl) rfl (t_X5_both hsk (by omega) hrec ho4) ?_
        refine s_istore_n hG dX5_test_50 (by decide) rfl ?_
        refine s_aload_n hG dX5_test_51 rfl ?_
        refine s_getr (r := 21) hG dX5_test_52 fl_RX5_29 (sk_k hsk 16 rfl) rfl (sk_R hsk 16 4 rfl) ?_
        refine s_iload hG dX5_test_55 rfl ?_
        obtain ⟨o5, ho5, hF⟩ := bd_some hF
        refine s_callV (d' := d - 1) (ci := 8) (args := [.inl o2.1]) hG (by omega) dX5_test_57 cv_RX5_135 cw_X8_landHere rfl rfl (sk_k hsk 21 rfl) (Nat.le_of_ble_eq_true rfl) rfl (t_X8_landHere hsk (by omega) (sk_T21 hsk) ho5) ?_
        refine s_iinc hG dX5_test_60 (by decide) rfl rfl ?_
        refine s_goto hG 8 dX5_test_63 (by decide) ?_
        cases hF
        refine m_weak (ls1 := [some (.inr (.inr 16)), some (.inl a1), some (.inl o4.1), some (.inl (m_w (a3 + 1))), none]) hG ⟨rfl, ⟨rfl, ⟨rfl, ⟨rfl, trivial⟩⟩⟩⟩ ?_
        exact hK0 _ rfl
      · replace hF := Eq.trans (if_neg c6).symm hF
        cases hF
        refine m_weak (ls1 := [none, none, some (.inl a2), none, none]) hG ⟨rfl, trivial⟩ ?_
        exact hK1 _ rfl
  · replace hF := Eq.trans (if_neg c8).symm hF
    cases hF
    refine m_weak (ls1 := [none, none, some (.inl a2), none, none]) hG ⟨rfl, trivial⟩ ?_
    exact hK1 _ rfl
theorem t_X5_test_lp8 {drec d n0 s0 nF sF : Nat} {fr : NN → Int → Int → Int → Option (Int × NN)} {X : MX} {Ω : Nat → MS → Prop} {N : NN} {a1 : Int} {a2 : Int} {a3 : Int} (hsk : m_Sk X) (hd : drec + 8 ≤ d) (hrec : ∀ (dr : Nat) (N : NN) (x1 : Int) (x2 : Int) (x3 : Int) (out : (Int × NN)), drec ≤ dr → fr N x1 x2 x3 = some out → m_Call dr yX5_bracketed cX5_bracketed 5 (some .boolean) [.inr (.inr 16), .inl x1, .inl x2, .inl x3] N X (some (.inl out.1)) out.2 X) (hG : m_G d yX5_test.cls yX5_test.name cX5_test 5 n0 s0 nF sF Ω) {t : (NN × Int)} (hK1 : Ω 66 ([none, none, some (.inl t.2), none, none], [], t.1, X)) (hl : lp (fun s => b_X5_test_8 fr X s.1 s.2.1 s.2.2.1 s.2.2.2) (N, a1, a2, a3) = some t) : Ω 8 ([some (.inr (.inr 16)), some (.inl a1), some (.inl a2), some (.inl a3), none], [], N, X) := by
  refine lp_ok (P := fun s => Ω 8 ([some (.inr (.inr 16)), some (.inl s.2.1), some (.inl s.2.2.1), some (.inl s.2.2.2), none], [], s.1, X)) (K := fun t => Ω 66 ([none, none, some (.inl t.2), none, none], [], t.1, X)) (fun s out hF hK0 hK1 => ?_) hl hK1
  exact t_X5_test_b8 hsk hd hrec hG (out := out) (fun s' e => hK0 s' e) (fun t' e => hK1 t' e) hF
theorem t_X5_test {drec d : Nat} {fr : NN → Int → Int → Int → Option (Int × NN)} {X : MX} {N : NN} {a1 : Int} {out : (Int × NN)} (hsk : m_Sk X) (hd : drec + 8 ≤ d) (hrec : ∀ (dr : Nat) (N : NN) (x1 : Int) (x2 : Int) (x3 : Int) (out : (Int × NN)), drec ≤ dr → fr N x1 x2 x3 = some out → m_Call dr yX5_bracketed cX5_bracketed 5 (some .boolean) [.inr (.inr 16), .inl x1, .inl x2, .inl x3] N X (some (.inl out.1)) out.2 X) (hF : f_X5_test fr X N a1 = some out) : m_Call d yX5_test cX5_test 5 (some .boolean) [(.inr (.inr 16)), (.inl a1)] N X (some (.inl out.1)) out.2 X := by
  refine m_mk (ls0 := [some (.inr (.inr 16)), some (.inl a1), none, none, none]) (by decide) rfl (Nat.le_of_ble_eq_true rfl) (Nat.le_refl _) (Nat.le_refl _) (fun Ω hE => ?_)
  have hG := hE.G
  unfold f_X5_test at hF
  refine s_aload_n hG dX5_test_0 rfl ?_
  refine s_iload_n hG dX5_test_1 rfl ?_
  obtain ⟨o1, ho1, hF⟩ := bd_some hF
  refine s_callV (d' := d - 1) (ci := 5) (args := [.inl a1]) hG (by omega) dX5_test_2 cv_RX5_129 cw_X5_both rfl rfl (sk_k hsk 16 rfl) (Nat.le_of_ble_eq_true rfl) rfl (t_X5_both hsk (by omega) hrec ho1) ?_
  refine s_istore_n hG dX5_test_5 (by decide) rfl ?_
  refine s_iconst hG dX5_test_6 ⟨by decide, by decide⟩ ?_
  refine s_istore_n hG dX5_test_7 (by decide) rfl ?_
  obtain ⟨o9, hlo9, hF⟩ := bd_some hF
  refine t_X5_test_lp8 hsk hd hrec hG ?_ hlo9
  refine s_iload_n hG dX5_test_66 rfl ?_
  obtain ⟨g10, hF⟩ := gd_some hF
  cases hF
  exact s_zret hE dX5_test_67 rfl g10
-- X5_bracketed
theorem t_X5_bracketed_j14 {drec d n0 s0 nF sF : Nat} {fr : NN → Int → Int → Int → Option (Int × NN)} {X : MX} {Ω : Nat → MS → Prop} {N : NN} (hsk : m_Sk X) (hd : drec + 9 ≤ d) (hrec : ∀ (dr : Nat) (N : NN) (x1 : Int) (x2 : Int) (x3 : Int) (out : (Int × NN)), drec ≤ dr → fr N x1 x2 x3 = some out → m_Call dr yX5_bracketed cX5_bracketed 5 (some .boolean) [.inr (.inr 16), .inl x1, .inl x2, .inl x3] N X (some (.inl out.1)) out.2 X) (hG : m_G d yX5_bracketed.cls yX5_bracketed.name cX5_bracketed 5 n0 s0 nF sF Ω) {out : (Int × NN)} (hE : m_Gd d yX5_bracketed cX5_bracketed 5 (some .boolean) X (some (.inl out.1)) out.2 X Ω) (hF : f_X5_bracketed_j14 fr X N = some out) : Ω 14 ([some (.inr (.inr 16)), none, none, none, none], [], N, X) := by
  unfold f_X5_bracketed_j14 at hF
  refine s_aload_n hG dX5_bracketed_14 rfl ?_
  obtain ⟨o12, ho12, hF⟩ := bd_some hF
  refine s_callV (d' := d - 1) (ci := 5) (args := []) hG (by omega) dX5_bracketed_15 cv_RX5_69 cw_X5_wrong rfl rfl (sk_k hsk 16 rfl) (Nat.le_of_ble_eq_true rfl) rfl (t_X5_wrong hsk (by omega) ho12) ?_
  obtain ⟨g13, hF⟩ := gd_some hF
  cases hF
  exact s_zret hE dX5_bracketed_18 rfl g13
theorem t_X5_bracketed_j46 {drec d n0 s0 nF sF : Nat} {fr : NN → Int → Int → Int → Option (Int × NN)} {X : MX} {Ω : Nat → MS → Prop} {N : NN} {a3 : Int} {z0 : Int} (hsk : m_Sk X) (hd : drec + 9 ≤ d) (hrec : ∀ (dr : Nat) (N : NN) (x1 : Int) (x2 : Int) (x3 : Int) (out : (Int × NN)), drec ≤ dr → fr N x1 x2 x3 = some out → m_Call dr yX5_bracketed cX5_bracketed 5 (some .boolean) [.inr (.inr 16), .inl x1, .inl x2, .inl x3] N X (some (.inl out.1)) out.2 X) (hG : m_G d yX5_bracketed.cls yX5_bracketed.name cX5_bracketed 5 n0 s0 nF sF Ω) {out : (Int × NN)} (hE : m_Gd d yX5_bracketed cX5_bracketed 5 (some .boolean) X (some (.inl out.1)) out.2 X Ω) (hF : f_X5_bracketed_j46 fr X N a3 z0 = some out) : Ω 46 ([some (.inr (.inr 16)), none, none, some (.inl a3), none], [(.inl z0)], N, X) := by
  unfold f_X5_bracketed_j46 at hF
  refine s_istore hG dX5_bracketed_46 (by decide) rfl ?_
  refine s_iload hG dX5_bracketed_48 rfl ?_
  refine s_if_ne hG 55 dX5_bracketed_50 (by decide) (fun c11 => ?_) (fun c11 => ?_)
  · replace hF := Eq.trans (if_pos c11).symm hF
    refine s_iconst hG dX5_bracketed_53 ⟨by decide, by decide⟩ ?_
    cases hF
    exact s_zret hE dX5_bracketed_54 rfl ⟨by decide, by decide⟩
  · replace hF := Eq.trans (if_neg c11).symm hF
    refine s_aload_n hG dX5_bracketed_55 rfl ?_
    refine s_geti hG dX5_bracketed_56 fl_RX5_50 (sk_k hsk 16 rfl) rfl ?_
    refine s_iload_n hG dX5_bracketed_59 rfl ?_
    refine s_icmp_eq hG 68 dX5_bracketed_60 (by decide) (fun c10 => ?_) (fun c10 => ?_)
    · replace hF := Eq.trans (if_pos c10).symm hF
      refine s_aload_n hG dX5_bracketed_68 rfl ?_
      obtain ⟨o7, ho7, hF⟩ := bd_some hF
      refine s_callV (d' := d - 1) (ci := 5) (args := []) hG (by omega) dX5_bracketed_69 cv_RX5_66 cw_X5_advance rfl rfl (sk_k hsk 16 rfl) (Nat.le_of_ble_eq_true rfl) rfl (t_X5_advance hsk (by omega) ho7) ?_
      refine s_iconst hG dX5_bracketed_72 ⟨by decide, by decide⟩ ?_
      cases hF
      exact s_zret hE dX5_bracketed_73 rfl ⟨by decide, by decide⟩
    · replace hF := Eq.trans (if_neg c10).symm hF
      refine s_aload_n hG dX5_bracketed_63 rfl ?_
      obtain ⟨o8, ho8, hF⟩ := bd_some hF
      refine s_callV (d' := d - 1) (ci := 5) (args := []) hG (by omega) dX5_bracketed_64 cv_RX5_69 cw_X5_wrong rfl rfl (sk_k hsk 16 rfl) (Nat.le_of_ble_eq_true rfl) rfl (t_X5_wrong hsk (by omega) ho8) ?_
      obtain ⟨g9, hF⟩ := gd_some hF
      cases hF
      exact s_zret hE dX5_bracketed_67 rfl g9
theorem t_X5_bracketed_step {drec d : Nat} {fr : NN → Int → Int → Int → Option (Int × NN)} {X : MX} {N : NN} {a1 : Int} {a2 : Int} {a3 : Int} {out : (Int × NN)} (hsk : m_Sk X) (hd : drec + 9 ≤ d) (hrec : ∀ (dr : Nat) (N : NN) (x1 : Int) (x2 : Int) (x3 : Int) (out : (Int × NN)), drec ≤ dr → fr N x1 x2 x3 = some out → m_Call dr yX5_bracketed cX5_bracketed 5 (some .boolean) [.inr (.inr 16), .inl x1, .inl x2, .inl x3] N X (some (.inl out.1)) out.2 X) (hF : f_X5_bracketed_step fr X N a1 a2 a3 = some out) : m_Call d yX5_bracketed cX5_bracketed 5 (some .boolean) [(.inr (.inr 16)), (.inl a1), (.inl a2), (.inl a3)] N X (some (.inl out.1)) out.2 X := by
  refine m_mk (ls0 := [some (.inr (.inr 16)), some (.inl a1), some (.inl a2), some (.inl a3), none]) (by decide) rfl (Nat.le_of_ble_eq_true rfl) (Nat.le_refl _) (Nat.le_refl _) (fun Ω hE => ?_)
  have hG := hE.G
  unfold f_X5_bracketed_step at hF
  refine s_aload_n hG dX5_bracketed_0 rfl ?_
  refine s_geti hG dX5_bracketed_1 fl_RX5_50 (sk_k hsk 16 rfl) rfl ?_
  refine s_iload_n hG dX5_bracketed_4 rfl ?_
  refine s_icmp_ne hG 14 dX5_bracketed_5 (by decide) (fun c6 => ?_) (fun c6 => ?_)
  · replace hF := Eq.trans (if_pos c6).symm hF
    refine s_iload_n hG dX5_bracketed_8 rfl ?_
    refine s_bipush hG dX5_bracketed_9 bp_8 ⟨by decide, by decide⟩ ?_
    refine s_icmp_lt hG 19 dX5_bracketed_11 (by decide) (fun c5 => ?_) (fun c5 => ?_)
    · replace hF := Eq.trans (if_pos c5).symm hF
      refine s_aload_n hG dX5_bracketed_19 rfl ?_
      obtain ⟨o1, ho1, hF⟩ := bd_some hF
      refine s_callV (d' := d - 1) (ci := 5) (args := []) hG (by omega) dX5_bracketed_20 cv_RX5_66 cw_X5_advance rfl rfl (sk_k hsk 16 rfl) (Nat.le_of_ble_eq_true rfl) rfl (t_X5_advance hsk (by omega) ho1) ?_
      refine s_iload_n hG dX5_bracketed_23 rfl ?_
      refine s_bipush hG dX5_bracketed_24 bp_40 ⟨by decide, by decide⟩ ?_
      refine s_icmp_ne hG 39 dX5_bracketed_26 (by decide) (fun c4 => ?_) (fun c4 => ?_)
      · replace hF := Eq.trans (if_pos c4).symm hF
        refine s_aload_n hG dX5_bracketed_29 rfl ?_
        refine s_iload_n hG dX5_bracketed_30 rfl ?_
        refine s_iconst hG dX5_bracketed_31 ⟨by decide, by decide⟩ ?_
        refine s_iadd hG dX5_bracketed_32 ?_
        obtain ⟨o2, ho2, hF⟩ := bd_some hF
        refine s_callV (d' := d - 1) (ci := 5) (args := [.inl (m_w (a1 + 1))]) hG (by omega) dX5_bracketed_33 cv_RX5_123 cw_X5_test rfl rfl (sk_k hsk 16 rfl) (Nat.le_of_ble_eq_true rfl) rfl (t_X5_test hsk (by omega) hrec ho2) ?_
        refine s_goto hG 46 dX5_bracketed_36 (by decide) ?_
        refine m_weak (ls1 := [some (.inr (.inr 16)), none, none, some (.inl a3), none]) hG ⟨rfl, ⟨rfl, trivial⟩⟩ ?_
        exact t_X5_bracketed_j46 hsk hd hrec hG hE hF
      · replace hF := Eq.trans (if_neg c4).symm hF
        refine s_aload_n hG dX5_bracketed_39 rfl ?_
        refine s_iload_n hG dX5_bracketed_40 rfl ?_
        refine s_iconst hG dX5_bracketed_41 ⟨by decide, by decide⟩ ?_
        refine s_iadd hG dX5_bracketed_42 ?_
        obtain ⟨o3, ho3, hF⟩ := bd_some hF
        refine s_callV (d' := d - 1) (ci := 5) (args := [.inl (m_w (a1 + 1))]) hG (by omega) dX5_bracketed_43 cv_RX5_126 cw_X5_sum rfl rfl (sk_k hsk 16 rfl) (Nat.le_of_ble_eq_true rfl) rfl (t_X5_sum hsk (by omega) hrec ho3) ?_
        refine m_weak (ls1 := [some (.inr (.inr 16)), none, none, some (.inl a3), none]) hG ⟨rfl, ⟨rfl, trivial⟩⟩ ?_
        exact t_X5_bracketed_j46 hsk hd hrec hG hE hF
    · replace hF := Eq.trans (if_neg c5).symm hF
      refine m_weak (ls1 := [some (.inr (.inr 16)), none, none, none, none]) hG ⟨rfl, trivial⟩ ?_
      exact t_X5_bracketed_j14 hsk hd hrec hG hE hF
  · replace hF := Eq.trans (if_neg c6).symm hF
    refine m_weak (ls1 := [some (.inr (.inr 16)), none, none, none, none]) hG ⟨rfl, trivial⟩ ?_
    exact t_X5_bracketed_j14 hsk hd hrec hG hE hF
theorem t_X5_bracketed_all {X : MX} (hsk : m_Sk X) : ∀ (n : Nat) (d : Nat) (N : NN) (x1 : Int) (x2 : Int) (x3 : Int) (out : (Int × NN)), 9 * n ≤ d → f_X5_bracketed X n N x1 x2 x3 = some out → m_Call d yX5_bracketed cX5_bracketed 5 (some .boolean) [(.inr (.inr 16)), (.inl x1), (.inl x2), (.inl x3)] N X (some (.inl out.1)) out.2 X := by
  intro n
  induction n with
  | zero => intro d N x1 x2 x3 out hd hF; cases hF
  | succ n ih =>
    intro d N x1 x2 x3 out hd hF
    exact t_X5_bracketed_step (drec := 9 * n) hsk (by omega) (fun dr N x1 x2 x3 out ha hb => ih dr N x1 x2 x3 out ha hb) hF
theorem t_X5_bracketed {d : Nat} {X : MX} {N : NN} {x1 : Int} {x2 : Int} {x3 : Int} {out : (Int × NN)} (hsk : m_Sk X) (hd : 108 ≤ d) (hF : f_X5_bracketed X 12 N x1 x2 x3 = some out) : m_Call d yX5_bracketed cX5_bracketed 5 (some .boolean) [(.inr (.inr 16)), (.inl x1), (.inl x2), (.inl x3)] N X (some (.inl out.1)) out.2 X := t_X5_bracketed_all hsk 12 d N x1 x2 x3 out (by omega) hF
theorem t_X5_part_n {d : Nat} {X : MX} {N : NN} {a1 : Int} {out : (Int × NN)} (hsk : m_Sk X) (hd : 110 ≤ d) (hF : f_X5_part (f_X5_bracketed X 12) X N a1 = some out) : m_Call d yX5_part cX5_part 7 (some .boolean) [(.inr (.inr 16)), (.inl a1)] N X (some (.inl out.1)) out.2 X := t_X5_part (drec := 108) hsk (by omega) (fun dr N x1 x2 x3 out ha hb => t_X5_bracketed_all hsk 12 dr N x1 x2 x3 out (by omega) hb) hF
theorem t_X5_term_n {d : Nat} {X : MX} {N : NN} {a1 : Int} {out : (Int × NN)} (hsk : m_Sk X) (hd : 111 ≤ d) (hF : f_X5_term (f_X5_bracketed X 12) X N a1 = some out) : m_Call d yX5_term cX5_term 5 (some .boolean) [(.inr (.inr 16)), (.inl a1)] N X (some (.inl out.1)) out.2 X := t_X5_term (drec := 108) hsk (by omega) (fun dr N x1 x2 x3 out ha hb => t_X5_bracketed_all hsk 12 dr N x1 x2 x3 out (by omega) hb) hF
theorem t_X5_sum_n {d : Nat} {X : MX} {N : NN} {a1 : Int} {out : (Int × NN)} (hsk : m_Sk X) (hd : 112 ≤ d) (hF : f_X5_sum (f_X5_bracketed X 12) X N a1 = some out) : m_Call d yX5_sum cX5_sum 5 (some .boolean) [(.inr (.inr 16)), (.inl a1)] N X (some (.inl out.1)) out.2 X := t_X5_sum (drec := 108) hsk (by omega) (fun dr N x1 x2 x3 out ha hb => t_X5_bracketed_all hsk 12 dr N x1 x2 x3 out (by omega) hb) hF
theorem t_X5_comparison_n {d : Nat} {X : MX} {N : NN} {a1 : Int} {out : (Int × NN)} (hsk : m_Sk X) (hd : 113 ≤ d) (hF : f_X5_comparison (f_X5_bracketed X 12) X N a1 = some out) : m_Call d yX5_comparison cX5_comparison 4 (some .boolean) [(.inr (.inr 16)), (.inl a1)] N X (some (.inl out.1)) out.2 X := t_X5_comparison (drec := 108) hsk (by omega) (fun dr N x1 x2 x3 out ha hb => t_X5_bracketed_all hsk 12 dr N x1 x2 x3 out (by omega) hb) hF
theorem t_X5_plain_n {d : Nat} {X : MX} {N : NN} {a1 : Int} {out : (Int × NN)} (hsk : m_Sk X) (hd : 114 ≤ d) (hF : f_X5_plain (f_X5_bracketed X 12) X N a1 = some out) : m_Call d yX5_plain cX5_plain 4 (some .boolean) [(.inr (.inr 16)), (.inl a1)] N X (some (.inl out.1)) out.2 X := t_X5_plain (drec := 108) hsk (by omega) (fun dr N x1 x2 x3 out ha hb => t_X5_bracketed_all hsk 12 dr N x1 x2 x3 out (by omega) hb) hF
theorem t_X5_both_n {d : Nat} {X : MX} {N : NN} {a1 : Int} {out : (Int × NN)} (hsk : m_Sk X) (hd : 115 ≤ d) (hF : f_X5_both (f_X5_bracketed X 12) X N a1 = some out) : m_Call d yX5_both cX5_both 5 (some .boolean) [(.inr (.inr 16)), (.inl a1)] N X (some (.inl out.1)) out.2 X := t_X5_both (drec := 108) hsk (by omega) (fun dr N x1 x2 x3 out ha hb => t_X5_bracketed_all hsk 12 dr N x1 x2 x3 out (by omega) hb) hF
theorem t_X5_test_n {d : Nat} {X : MX} {N : NN} {a1 : Int} {out : (Int × NN)} (hsk : m_Sk X) (hd : 116 ≤ d) (hF : f_X5_test (f_X5_bracketed X 12) X N a1 = some out) : m_Call d yX5_test cX5_test 5 (some .boolean) [(.inr (.inr 16)), (.inl a1)] N X (some (.inl out.1)) out.2 X := t_X5_test (drec := 108) hsk (by omega) (fun dr N x1 x2 x3 out ha hb => t_X5_bracketed_all hsk 12 dr N x1 x2 x3 out (by omega) hb) hF
-- X8_setPart
theorem t_X8_setPart {d : Nat} {X : MX} {r0 : Nat} {N : NN} {a1 : Int} {a2 : Int} {a3 : Int} {out : NN} (hsk : m_Sk X) (hd : 1 ≤ d) (h0 : m_isT X r0) (hF : f_X8_setPart X r0 N a1 a2 a3 = some out) : m_Call d yX8_setPart cX8_setPart 4 none [(.inr (.inr r0)), (.inl a1), (.inl a2), (.inl a3)] N X none out X := by
  refine m_mk (ls0 := [some (.inr (.inr r0)), some (.inl a1), some (.inl a2), some (.inl a3)]) (by decide) rfl (Nat.le_of_ble_eq_true rfl) (Nat.le_refl _) (Nat.le_refl _) (fun Ω hE => ?_)
  have hG := hE.G
  unfold f_X8_setPart at hF
  refine s_aload_n hG dX8_setPart_0 rfl ?_
  refine s_getr (r := (r0 + 3)) hG dX8_setPart_1 fl_RX8_22 h0.1 rfl h0.2.2.2.1 ?_
  refine s_iload_n hG dX8_setPart_4 rfl ?_
  refine s_bipush hG dX8_setPart_5 bp_8 ⟨by decide, by decide⟩ ?_
  refine s_imul hG dX8_setPart_7 ?_
  refine s_iload_n hG dX8_setPart_8 rfl ?_
  refine s_iadd hG dX8_setPart_9 ?_
  refine s_iload_n hG dX8_setPart_10 rfl ?_
  obtain ⟨g1, hF⟩ := gd_some hF
  refine s_iastj (j := (m_w ((m_w (a1 * 8)) + a2)).toNat) hG dX8_setPart_11 (m_k1 h0.2.2.2.2.2.2) g1 rfl ?_
  cases hF
  exact s_vret hE dX8_setPart_12 rfl
-- X8_size
theorem t_X8_size {d : Nat} {X : MX} {N : NN} {r0 : Nat} {out : Int} (hsk : m_Sk X) (hd : 1 ≤ d) (h0 : m_isT X r0) (hF : f_X8_size X N r0 = some out) : m_Call d yX8_size cX8_size 1 (some .int) [(.inr (.inr r0))] N X (some (.inl out)) N X := by
  refine m_mk (ls0 := [some (.inr (.inr r0))]) (by decide) rfl (Nat.le_of_ble_eq_true rfl) (Nat.le_refl _) (Nat.le_refl _) (fun Ω hE => ?_)
  have hG := hE.G
  unfold f_X8_size at hF
  refine s_aload_n hG dX8_size_0 rfl ?_
  refine s_geti hG dX8_size_1 fl_RX8_25 h0.1 rfl ?_
  cases hF
  exact s_iret hE dX8_size_4 rfl
-- X5_condition
theorem t_X5_condition {d : Nat} {X : MX} {N : NN} {a1 : Int} {out : (Int × NN)} (hsk : m_Sk X) (hd : 117 ≤ d) (hF : f_X5_condition X N a1 = some out) : m_Call d yX5_condition cX5_condition 3 (some .boolean) [(.inr (.inr 16)), (.inl a1)] N X (some (.inl out.1)) out.2 X := by
  refine m_mk (ls0 := [some (.inr (.inr 16)), some (.inl a1), none]) (by decide) rfl (Nat.le_of_ble_eq_true rfl) (Nat.le_refl _) (Nat.le_refl _) (fun Ω hE => ?_)
  have hG := hE.G
  unfold f_X5_condition at hF
  refine s_aload_n hG dX5_condition_0 rfl ?_
  refine s_geti hG dX5_condition_1 fl_RX5_50 (sk_k hsk 16 rfl) rfl ?_
  refine s_sipush hG dX5_condition_4 sp_259 ⟨by decide, by decide⟩ ?_
  refine s_icmp_eq hG 12 dX5_condition_7 (by decide) (fun c8 => ?_) (fun c8 => ?_)
  · replace hF := Eq.trans (if_pos c8).symm hF
    refine s_aload_n hG dX5_condition_12 rfl ?_
    obtain ⟨o1, ho1, hF⟩ := bd_some hF
    refine s_callV (d' := d - 1) (ci := 5) (args := []) hG (by omega) dX5_condition_13 cv_RX5_66 cw_X5_advance rfl rfl (sk_k hsk 16 rfl) (Nat.le_of_ble_eq_true rfl) rfl (t_X5_advance hsk (by omega) ho1) ?_
    refine s_aload_n hG dX5_condition_16 rfl ?_
    refine s_getr (r := 21) hG dX5_condition_17 fl_RX5_29 (sk_k hsk 16 rfl) rfl (sk_R hsk 16 4 rfl) ?_
    refine s_iload_n hG dX5_condition_20 rfl ?_
    refine s_iconst hG dX5_condition_21 ⟨by decide, by decide⟩ ?_
    refine s_aload_n hG dX5_condition_22 rfl ?_
    refine s_getr (r := 21) hG dX5_condition_23 fl_RX5_29 (sk_k hsk 16 rfl) rfl (sk_R hsk 16 4 rfl) ?_
    obtain ⟨o2, ho2, hF⟩ := bd_some hF
    refine s_callV (d' := d - 1) (ci := 8) (args := []) hG (by omega) dX5_condition_26 cv_RX5_120 cw_X8_size rfl rfl (sk_k hsk 21 rfl) (Nat.le_of_ble_eq_true rfl) rfl (t_X8_size hsk (by omega) (sk_T21 hsk) ho2) ?_
    obtain ⟨o3, ho3, hF⟩ := bd_some hF
    refine s_callV (d' := d - 1) (ci := 8) (args := [.inl a1, .inl 2, .inl o2]) hG (by omega) dX5_condition_29 cv_RX5_116 cw_X8_setPart rfl rfl (sk_k hsk 21 rfl) (Nat.le_of_ble_eq_true rfl) rfl (t_X8_setPart hsk (by omega) (sk_T21 hsk) ho3) ?_
    refine s_aload_n hG dX5_condition_32 rfl ?_
    refine s_iconst hG dX5_condition_33 ⟨by decide, by decide⟩ ?_
    obtain ⟨o4, ho4, hF⟩ := bd_some hF
    refine s_callV (d' := d - 1) (ci := 5) (args := [.inl 0]) hG (by omega) dX5_condition_34 cv_RX5_123 cw_X5_test rfl rfl (sk_k hsk 16 rfl) (Nat.le_of_ble_eq_true rfl) rfl (t_X5_test_n hsk (by omega) ho4) ?_
    refine s_istore_n hG dX5_condition_37 (by decide) rfl ?_
    refine s_aload_n hG dX5_condition_38 rfl ?_
    refine s_getr (r := 21) hG dX5_condition_39 fl_RX5_29 (sk_k hsk 16 rfl) rfl (sk_R hsk 16 4 rfl) ?_
    refine s_iload_n hG dX5_condition_42 rfl ?_
    refine s_iconst hG dX5_condition_43 ⟨by decide, by decide⟩ ?_
    refine s_aload_n hG dX5_condition_44 rfl ?_
    refine s_getr (r := 21) hG dX5_condition_45 fl_RX5_29 (sk_k hsk 16 rfl) rfl (sk_R hsk 16 4 rfl) ?_
    obtain ⟨o5, ho5, hF⟩ := bd_some hF
    refine s_callV (d' := d - 1) (ci := 8) (args := []) hG (by omega) dX5_condition_48 cv_RX5_120 cw_X8_size rfl rfl (sk_k hsk 21 rfl) (Nat.le_of_ble_eq_true rfl) rfl (t_X8_size hsk (by omega) (sk_T21 hsk) ho5) ?_
    obtain ⟨o6, ho6, hF⟩ := bd_some hF
    refine s_callV (d' := d - 1) (ci := 8) (args := [.inl a1, .inl 3, .inl o5]) hG (by omega) dX5_condition_51 cv_RX5_116 cw_X8_setPart rfl rfl (sk_k hsk 21 rfl) (Nat.le_of_ble_eq_true rfl) rfl (t_X8_setPart hsk (by omega) (sk_T21 hsk) ho6) ?_
    refine s_iload_n hG dX5_condition_54 rfl ?_
    obtain ⟨g7, hF⟩ := gd_some hF
    cases hF
    exact s_zret hE dX5_condition_55 rfl g7
  · replace hF := Eq.trans (if_neg c8).symm hF
    refine s_iconst hG dX5_condition_10 ⟨by decide, by decide⟩ ?_
    cases hF
    exact s_zret hE dX5_condition_11 rfl ⟨by decide, by decide⟩
-- X5_sumOf
theorem t_X5_sumOf {d : Nat} {X : MX} {N : NN} {a1 : Int} {a2 : Int} {out : (Int × NN)} (hsk : m_Sk X) (hd : 113 ≤ d) (hF : f_X5_sumOf X N a1 a2 = some out) : m_Call d yX5_sumOf cX5_sumOf 4 (some .boolean) [(.inr (.inr 16)), (.inl a1), (.inl a2)] N X (some (.inl out.1)) out.2 X := by
  refine m_mk (ls0 := [some (.inr (.inr 16)), some (.inl a1), some (.inl a2), none]) (by decide) rfl (Nat.le_of_ble_eq_true rfl) (Nat.le_refl _) (Nat.le_refl _) (fun Ω hE => ?_)
  have hG := hE.G
  unfold f_X5_sumOf at hF
  refine s_aload_n hG dX5_sumOf_0 rfl ?_
  refine s_getr (r := 21) hG dX5_sumOf_1 fl_RX5_29 (sk_k hsk 16 rfl) rfl (sk_R hsk 16 4 rfl) ?_
  refine s_iload_n hG dX5_sumOf_4 rfl ?_
  refine s_iload_n hG dX5_sumOf_5 rfl ?_
  refine s_aload_n hG dX5_sumOf_6 rfl ?_
  refine s_getr (r := 21) hG dX5_sumOf_7 fl_RX5_29 (sk_k hsk 16 rfl) rfl (sk_R hsk 16 4 rfl) ?_
  obtain ⟨o1, ho1, hF⟩ := bd_some hF
  refine s_callV (d' := d - 1) (ci := 8) (args := []) hG (by omega) dX5_sumOf_10 cv_RX5_120 cw_X8_size rfl rfl (sk_k hsk 21 rfl) (Nat.le_of_ble_eq_true rfl) rfl (t_X8_size hsk (by omega) (sk_T21 hsk) ho1) ?_
  obtain ⟨o2, ho2, hF⟩ := bd_some hF
  refine s_callV (d' := d - 1) (ci := 8) (args := [.inl a1, .inl a2, .inl o1]) hG (by omega) dX5_sumOf_13 cv_RX5_116 cw_X8_setPart rfl rfl (sk_k hsk 21 rfl) (Nat.le_of_ble_eq_true rfl) rfl (t_X8_setPart hsk (by omega) (sk_T21 hsk) ho2) ?_
  refine s_aload_n hG dX5_sumOf_16 rfl ?_
  refine s_iconst hG dX5_sumOf_17 ⟨by decide, by decide⟩ ?_
  obtain ⟨o3, ho3, hF⟩ := bd_some hF
  refine s_callV (d' := d - 1) (ci := 5) (args := [.inl 0]) hG (by omega) dX5_sumOf_18 cv_RX5_126 cw_X5_sum rfl rfl (sk_k hsk 16 rfl) (Nat.le_of_ble_eq_true rfl) rfl (t_X5_sum_n hsk (by omega) ho3) ?_
  refine s_istore_n hG dX5_sumOf_21 (by decide) rfl ?_
  refine s_aload_n hG dX5_sumOf_22 rfl ?_
  refine s_getr (r := 21) hG dX5_sumOf_23 fl_RX5_29 (sk_k hsk 16 rfl) rfl (sk_R hsk 16 4 rfl) ?_
  refine s_iload_n hG dX5_sumOf_26 rfl ?_
  refine s_iload_n hG dX5_sumOf_27 rfl ?_
  refine s_iconst hG dX5_sumOf_28 ⟨by decide, by decide⟩ ?_
  refine s_iadd hG dX5_sumOf_29 ?_
  refine s_aload_n hG dX5_sumOf_30 rfl ?_
  refine s_getr (r := 21) hG dX5_sumOf_31 fl_RX5_29 (sk_k hsk 16 rfl) rfl (sk_R hsk 16 4 rfl) ?_
  obtain ⟨o4, ho4, hF⟩ := bd_some hF
  refine s_callV (d' := d - 1) (ci := 8) (args := []) hG (by omega) dX5_sumOf_34 cv_RX5_120 cw_X8_size rfl rfl (sk_k hsk 21 rfl) (Nat.le_of_ble_eq_true rfl) rfl (t_X8_size hsk (by omega) (sk_T21 hsk) ho4) ?_
  obtain ⟨o5, ho5, hF⟩ := bd_some hF
  refine s_callV (d' := d - 1) (ci := 8) (args := [.inl a1, .inl (m_w (a2 + 1)), .inl o4]) hG (by omega) dX5_sumOf_37 cv_RX5_116 cw_X8_setPart rfl rfl (sk_k hsk 21 rfl) (Nat.le_of_ble_eq_true rfl) rfl (t_X8_setPart hsk (by omega) (sk_T21 hsk) ho5) ?_
  refine s_iload_n hG dX5_sumOf_40 rfl ?_
  obtain ⟨g6, hF⟩ := gd_some hF
  cases hF
  exact s_zret hE dX5_sumOf_41 rfl g6
-- X8_open
theorem t_X8_open_j81 {d n0 s0 nF sF : Nat} {X : MX} {r0 : Nat} {Ω : Nat → MS → Prop} {N : NN} (hsk : m_Sk X) (hd : 3 ≤ d) (h0 : m_isT X r0) (hG : m_G d yX8_open.cls yX8_open.name cX8_open 2 n0 s0 nF sF Ω) {out : (Int × NN)} (hE : m_Gd d yX8_open cX8_open 2 (some .int) X (some (.inl out.1)) out.2 X Ω) (hF : f_X8_open_j81 X r0 N = some out) : Ω 81 ([some (.inr (.inr r0)), none], [], N, X) := by
  unfold f_X8_open_j81 at hF
  refine s_aload_n hG dX8_open_81 rfl ?_
  refine s_geti hG dX8_open_82 fl_RX8_29 h0.1 rfl ?_
  refine s_iconst hG dX8_open_85 ⟨by decide, by decide⟩ ?_
  refine s_isub hG dX8_open_86 ?_
  cases hF
  exact s_iret hE dX8_open_87 rfl
theorem t_X8_open {d : Nat} {X : MX} {r0 : Nat} {N : NN} {a1 : Int} {out : (Int × NN)} (hsk : m_Sk X) (hd : 3 ≤ d) (h0 : m_isT X r0) (hF : f_X8_open X r0 N a1 = some out) : m_Call d yX8_open cX8_open 2 (some .int) [(.inr (.inr r0)), (.inl a1)] N X (some (.inl out.1)) out.2 X := by
  refine m_mk (ls0 := [some (.inr (.inr r0)), some (.inl a1)]) (by decide) rfl (Nat.le_of_ble_eq_true rfl) (Nat.le_refl _) (Nat.le_refl _) (fun Ω hE => ?_)
  have hG := hE.G
  unfold f_X8_open at hF
  refine s_aload_n hG dX8_open_0 rfl ?_
  refine s_geti hG dX8_open_1 fl_RX8_29 h0.1 rfl ?_
  refine s_iconst hG dX8_open_4 ⟨by decide, by decide⟩ ?_
  refine s_iadd hG dX8_open_5 ?_
  refine s_bipush hG dX8_open_6 bp_8 ⟨by decide, by decide⟩ ?_
  refine s_imul hG dX8_open_8 ?_
  refine s_aload_n hG dX8_open_9 rfl ?_
  refine s_getr (r := (r0 + 3)) hG dX8_open_10 fl_RX8_22 h0.1 rfl h0.2.2.2.1 ?_
  obtain ⟨g1, hF⟩ := gd_some hF
  refine s_alen1j (v := ((xK X (r0 + 3)).2 : Int)) hG dX8_open_13 (m_k1 h0.2.2.2.2.2.2) g1 rfl ?_
  refine s_icmp_gt hG 81 dX8_open_14 (by decide) (fun c8 => ?_) (fun c8 => ?_)
  · replace hF := Eq.trans (if_pos c8).symm hF
    refine m_weak (ls1 := [some (.inr (.inr r0)), none]) hG ⟨rfl, trivial⟩ ?_
    exact t_X8_open_j81 hsk hd h0 hG hE hF
  · replace hF := Eq.trans (if_neg c8).symm hF
    refine s_aload_n hG dX8_open_17 rfl ?_
    refine s_getr (r := (r0 + 3)) hG dX8_open_18 fl_RX8_22 h0.1 rfl h0.2.2.2.1 ?_
    refine s_aload_n hG dX8_open_21 rfl ?_
    refine s_geti hG dX8_open_22 fl_RX8_29 h0.1 rfl ?_
    refine s_bipush hG dX8_open_25 bp_8 ⟨by decide, by decide⟩ ?_
    refine s_imul hG dX8_open_27 ?_
    refine s_aload_n hG dX8_open_28 rfl ?_
    refine s_geti hG dX8_open_29 fl_RX8_29 h0.1 rfl ?_
    refine s_iconst hG dX8_open_32 ⟨by decide, by decide⟩ ?_
    refine s_iadd hG dX8_open_33 ?_
    refine s_bipush hG dX8_open_34 bp_8 ⟨by decide, by decide⟩ ?_
    refine s_imul hG dX8_open_36 ?_
    refine s_iconst hG dX8_open_37 ⟨by decide, by decide⟩ ?_
    obtain ⟨o2, ho2, hF⟩ := bd_some hF
    refine s_callS (d' := d - 1) (args := [.inr (.inr (r0 + 3)), .inl (m_w ((N r0 4) * 8)), .inl (m_w ((m_w ((N r0 4) + 1)) * 8)), .inl 0]) hG (by omega) dX8_open_38 cs_RX8_32 cw_J7_fill_fda19 rfl (Nat.le_of_ble_eq_true rfl) rfl (t_J7_fill_fda19 hsk (by omega) (m_k1f (m_k1 h0.2.2.2.2.2.2)) ho2) ?_
    refine s_aload_n hG dX8_open_41 rfl ?_
    refine s_getr (r := (r0 + 3)) hG dX8_open_42 fl_RX8_22 h0.1 rfl h0.2.2.2.1 ?_
    refine s_aload_n hG dX8_open_45 rfl ?_
    refine s_geti hG dX8_open_46 fl_RX8_29 h0.1 rfl ?_
    refine s_bipush hG dX8_open_49 bp_8 ⟨by decide, by decide⟩ ?_
    refine s_imul hG dX8_open_51 ?_
    refine s_iconst hG dX8_open_52 ⟨by decide, by decide⟩ ?_
    refine s_iadd hG dX8_open_53 ?_
    refine s_iload_n hG dX8_open_54 rfl ?_
    obtain ⟨g3, hF⟩ := gd_some hF
    refine s_iastj (j := (m_w ((m_w ((o2 r0 4) * 8)) + 0)).toNat) hG dX8_open_55 (m_k1 h0.2.2.2.2.2.2) g3 rfl ?_
    let N4 : NN := m_up o2 (r0 + 3) ((m_w ((m_w ((o2 r0 4) * 8)) + 0)).toNat) a1
    refine s_aload_n hG dX8_open_56 rfl ?_
    refine s_getr (r := (r0 + 3)) hG dX8_open_57 fl_RX8_22 h0.1 rfl h0.2.2.2.1 ?_
    refine s_aload_n hG dX8_open_60 rfl ?_
    refine s_geti hG dX8_open_61 fl_RX8_29 h0.1 rfl ?_
    refine s_bipush hG dX8_open_64 bp_8 ⟨by decide, by decide⟩ ?_
    refine s_imul hG dX8_open_66 ?_
    refine s_iconst hG dX8_open_67 ⟨by decide, by decide⟩ ?_
    refine s_iadd hG dX8_open_68 ?_
    refine s_iconst hG dX8_open_69 ⟨by decide, by decide⟩ ?_
    obtain ⟨g5, hF⟩ := gd_some hF
    refine s_iastj (j := (m_w ((m_w ((N4 r0 4) * 8)) + 1)).toNat) hG dX8_open_70 (m_k1 h0.2.2.2.2.2.2) g5 rfl ?_
    refine s_aload_n hG dX8_open_71 rfl ?_
    refine s_dup hG dX8_open_72 rfl ?_
    refine s_geti hG dX8_open_73 fl_RX8_29 h0.1 rfl ?_
    refine s_iconst hG dX8_open_76 ⟨by decide, by decide⟩ ?_
    refine s_iadd hG dX8_open_77 ?_
    refine s_puti hG dX8_open_78 fl_RX8_29 (fun h => by cases h) h0.1 rfl ?_
    refine m_weak (ls1 := [some (.inr (.inr r0)), none]) hG ⟨rfl, trivial⟩ ?_
    exact t_X8_open_j81 hsk hd h0 hG hE hF
-- X5_lawClause
theorem t_X5_lawClause_j20 {d n0 s0 nF sF : Nat} {X : MX} {Ω : Nat → MS → Prop} {N : NN} (hsk : m_Sk X) (hd : 118 ≤ d) (hG : m_G d yX5_lawClause.cls yX5_lawClause.name cX5_lawClause 3 n0 s0 nF sF Ω) {out : (Int × NN)} (hE : m_Gd d yX5_lawClause cX5_lawClause 3 (some .boolean) X (some (.inl out.1)) out.2 X Ω) (hF : f_X5_lawClause_j20 X N = some out) : Ω 20 ([some (.inr (.inr 16)), none, none], [], N, X) := by
  unfold f_X5_lawClause_j20 at hF
  refine s_aload_n hG dX5_lawClause_20 rfl ?_
  obtain ⟨o8, ho8, hF⟩ := bd_some hF
  refine s_callV (d' := d - 1) (ci := 5) (args := []) hG (by omega) dX5_lawClause_21 cv_RX5_69 cw_X5_wrong rfl rfl (sk_k hsk 16 rfl) (Nat.le_of_ble_eq_true rfl) rfl (t_X5_wrong hsk (by omega) ho8) ?_
  obtain ⟨g9, hF⟩ := gd_some hF
  cases hF
  exact s_zret hE dX5_lawClause_24 rfl g9
theorem t_X5_lawClause_j72 {d n0 s0 nF sF : Nat} {X : MX} {Ω : Nat → MS → Prop} {N : NN} {z0 : Int} (hsk : m_Sk X) (hd : 118 ≤ d) (hG : m_G d yX5_lawClause.cls yX5_lawClause.name cX5_lawClause 3 n0 s0 nF sF Ω) {out : (Int × NN)} (hE : m_Gd d yX5_lawClause cX5_lawClause 3 (some .boolean) X (some (.inl out.1)) out.2 X Ω) (hF : f_X5_lawClause_j72 X N z0 = some out) : Ω 72 ([none, none, none], [(.inl z0)], N, X) := by
  unfold f_X5_lawClause_j72 at hF
  obtain ⟨g12, hF⟩ := gd_some hF
  cases hF
  exact s_zret hE dX5_lawClause_72 rfl g12
theorem t_X5_lawClause_j71 {d n0 s0 nF sF : Nat} {X : MX} {Ω : Nat → MS → Prop} {N : NN} (hsk : m_Sk X) (hd : 118 ≤ d) (hG : m_G d yX5_lawClause.cls yX5_lawClause.name cX5_lawClause 3 n0 s0 nF sF Ω) {out : (Int × NN)} (hE : m_Gd d yX5_lawClause cX5_lawClause 3 (some .boolean) X (some (.inl out.1)) out.2 X Ω) (hF : f_X5_lawClause_j71 X N = some out) : Ω 71 ([none, none, none], [], N, X) := by
  unfold f_X5_lawClause_j71 at hF
  refine s_iconst hG dX5_lawClause_71 ⟨by decide, by decide⟩ ?_
  exact t_X5_lawClause_j72 hsk hd hG hE hF
theorem t_X5_lawClause_j59 {d n0 s0 nF sF : Nat} {X : MX} {Ω : Nat → MS → Prop} {N : NN} {a2 : Int} (hsk : m_Sk X) (hd : 118 ≤ d) (hG : m_G d yX5_lawClause.cls yX5_lawClause.name cX5_lawClause 3 n0 s0 nF sF Ω) {out : (Int × NN)} (hE : m_Gd d yX5_lawClause cX5_lawClause 3 (some .boolean) X (some (.inl out.1)) out.2 X Ω) (hF : f_X5_lawClause_j59 X N a2 = some out) : Ω 59 ([some (.inr (.inr 16)), none, some (.inl a2)], [], N, X) := by
  unfold f_X5_lawClause_j59 at hF
  refine s_aload_n hG dX5_lawClause_59 rfl ?_
  refine s_iload_n hG dX5_lawClause_60 rfl ?_
  obtain ⟨o10, ho10, hF⟩ := bd_some hF
  refine s_callV (d' := d - 1) (ci := 5) (args := [.inl a2]) hG (by omega) dX5_lawClause_61 cv_RX5_110 cw_X5_condition rfl rfl (sk_k hsk 16 rfl) (Nat.le_of_ble_eq_true rfl) rfl (t_X5_condition hsk (by omega) ho10) ?_
  refine s_if_eq hG 71 dX5_lawClause_64 (by decide) (fun c11 => ?_) (fun c11 => ?_)
  · replace hF := Eq.trans (if_pos c11).symm hF
    refine m_weak (ls1 := [none, none, none]) hG trivial ?_
    exact t_X5_lawClause_j71 hsk hd hG hE hF
  · replace hF := Eq.trans (if_neg c11).symm hF
    refine s_iconst hG dX5_lawClause_67 ⟨by decide, by decide⟩ ?_
    refine s_goto hG 72 dX5_lawClause_68 (by decide) ?_
    refine m_weak (ls1 := [none, none, none]) hG trivial ?_
    exact t_X5_lawClause_j72 hsk hd hG hE hF
theorem t_X5_lawClause {d : Nat} {X : MX} {N : NN} {out : (Int × NN)} (hsk : m_Sk X) (hd : 118 ≤ d) (hF : f_X5_lawClause X N = some out) : m_Call d yX5_lawClause cX5_lawClause 3 (some .boolean) [(.inr (.inr 16))] N X (some (.inl out.1)) out.2 X := by
  refine m_mk (ls0 := [some (.inr (.inr 16)), none, none]) (by decide) rfl (Nat.le_of_ble_eq_true rfl) (Nat.le_refl _) (Nat.le_refl _) (fun Ω hE => ?_)
  have hG := hE.G
  unfold f_X5_lawClause at hF
  refine s_aload_n hG dX5_lawClause_0 rfl ?_
  refine s_geti hG dX5_lawClause_1 fl_RX5_50 (sk_k hsk 16 rfl) rfl ?_
  refine s_sipush hG dX5_lawClause_4 sp_256 ⟨by decide, by decide⟩ ?_
  refine s_icmp_lt hG 20 dX5_lawClause_7 (by decide) (fun c7 => ?_) (fun c7 => ?_)
  · replace hF := Eq.trans (if_pos c7).symm hF
    exact t_X5_lawClause_j20 hsk hd hG hE hF
  · replace hF := Eq.trans (if_neg c7).symm hF
    refine s_aload_n hG dX5_lawClause_10 rfl ?_
    refine s_geti hG dX5_lawClause_11 fl_RX5_50 (sk_k hsk 16 rfl) rfl ?_
    refine s_sipush hG dX5_lawClause_14 sp_258 ⟨by decide, by decide⟩ ?_
    refine s_icmp_le hG 25 dX5_lawClause_17 (by decide) (fun c6 => ?_) (fun c6 => ?_)
    · replace hF := Eq.trans (if_pos c6).symm hF
      exact t_X5_lawClause_j20 hsk hd hG hE hF
    · replace hF := Eq.trans (if_neg c6).symm hF
      refine s_aload_n hG dX5_lawClause_25 rfl ?_
      refine s_geti hG dX5_lawClause_26 fl_RX5_50 (sk_k hsk 16 rfl) rfl ?_
      refine s_istore_n hG dX5_lawClause_29 (by decide) rfl ?_
      refine s_aload_n hG dX5_lawClause_30 rfl ?_
      refine s_getr (r := 21) hG dX5_lawClause_31 fl_RX5_29 (sk_k hsk 16 rfl) rfl (sk_R hsk 16 4 rfl) ?_
      refine s_iload_n hG dX5_lawClause_34 rfl ?_
      obtain ⟨o1, ho1, hF⟩ := bd_some hF
      refine s_callV (d' := d - 1) (ci := 8) (args := [.inl (N 16 10)]) hG (by omega) dX5_lawClause_35 cv_RX5_102 cw_X8_open rfl rfl (sk_k hsk 21 rfl) (Nat.le_of_ble_eq_true rfl) rfl (t_X8_open hsk (by omega) (sk_T21 hsk) ho1) ?_
      refine s_istore_n hG dX5_lawClause_38 (by decide) rfl ?_
      refine s_aload_n hG dX5_lawClause_39 rfl ?_
      obtain ⟨o2, ho2, hF⟩ := bd_some hF
      refine s_callV (d' := d - 1) (ci := 5) (args := []) hG (by omega) dX5_lawClause_40 cv_RX5_66 cw_X5_advance rfl rfl (sk_k hsk 16 rfl) (Nat.le_of_ble_eq_true rfl) rfl (t_X5_advance hsk (by omega) ho2) ?_
      refine s_iload_n hG dX5_lawClause_43 rfl ?_
      refine s_sipush hG dX5_lawClause_44 sp_258 ⟨by decide, by decide⟩ ?_
      refine s_icmp_eq hG 59 dX5_lawClause_47 (by decide) (fun c5 => ?_) (fun c5 => ?_)
      · replace hF := Eq.trans (if_pos c5).symm hF
        refine m_weak (ls1 := [some (.inr (.inr 16)), none, some (.inl o1.1)]) hG ⟨rfl, ⟨rfl, trivial⟩⟩ ?_
        exact t_X5_lawClause_j59 hsk hd hG hE hF
      · replace hF := Eq.trans (if_neg c5).symm hF
        refine s_aload_n hG dX5_lawClause_50 rfl ?_
        refine s_iload_n hG dX5_lawClause_51 rfl ?_
        refine s_iconst hG dX5_lawClause_52 ⟨by decide, by decide⟩ ?_
        obtain ⟨o3, ho3, hF⟩ := bd_some hF
        refine s_callV (d' := d - 1) (ci := 5) (args := [.inl o1.1, .inl 4]) hG (by omega) dX5_lawClause_53 cv_RX5_106 cw_X5_sumOf rfl rfl (sk_k hsk 16 rfl) (Nat.le_of_ble_eq_true rfl) rfl (t_X5_sumOf hsk (by omega) ho3) ?_
        refine s_if_eq hG 71 dX5_lawClause_56 (by decide) (fun c4 => ?_) (fun c4 => ?_)
        · replace hF := Eq.trans (if_pos c4).symm hF
          refine m_weak (ls1 := [none, none, none]) hG trivial ?_
          exact t_X5_lawClause_j71 hsk hd hG hE hF
        · replace hF := Eq.trans (if_neg c4).symm hF
          refine m_weak (ls1 := [some (.inr (.inr 16)), none, some (.inl o1.1)]) hG ⟨rfl, ⟨rfl, trivial⟩⟩ ?_
          exact t_X5_lawClause_j59 hsk hd hG hE hF
-- X5_times
theorem t_X5_times_j52 {d n0 s0 nF sF : Nat} {X : MX} {Ω : Nat → MS → Prop} {N : NN} (hsk : m_Sk X) (hd : 2 ≤ d) (hG : m_G d yX5_times.cls yX5_times.name cX5_times 2 n0 s0 nF sF Ω) {out : (Int × NN)} (hE : m_Gd d yX5_times cX5_times 2 (some .boolean) X (some (.inl out.1)) out.2 X Ω) (hF : f_X5_times_j52 X N = some out) : Ω 52 ([some (.inr (.inr 16)), none], [], N, X) := by
  unfold f_X5_times_j52 at hF
  refine s_aload_n hG dX5_times_52 rfl ?_
  obtain ⟨o11, ho11, hF⟩ := bd_some hF
  refine s_callV (d' := d - 1) (ci := 5) (args := []) hG (by omega) dX5_times_53 cv_RX5_69 cw_X5_wrong rfl rfl (sk_k hsk 16 rfl) (Nat.le_of_ble_eq_true rfl) rfl (t_X5_wrong hsk (by omega) ho11) ?_
  obtain ⟨g12, hF⟩ := gd_some hF
  cases hF
  exact s_zret hE dX5_times_56 rfl g12
theorem t_X5_times {d : Nat} {X : MX} {N : NN} {a1 : Int} {out : (Int × NN)} (hsk : m_Sk X) (hd : 2 ≤ d) (hF : f_X5_times X N a1 = some out) : m_Call d yX5_times cX5_times 2 (some .boolean) [(.inr (.inr 16)), (.inl a1)] N X (some (.inl out.1)) out.2 X := by
  refine m_mk (ls0 := [some (.inr (.inr 16)), some (.inl a1)]) (by decide) rfl (Nat.le_of_ble_eq_true rfl) (Nat.le_refl _) (Nat.le_refl _) (fun Ω hE => ?_)
  have hG := hE.G
  unfold f_X5_times at hF
  refine s_aload_n hG dX5_times_0 rfl ?_
  refine s_geti hG dX5_times_1 fl_RX5_50 (sk_k hsk 16 rfl) rfl ?_
  refine s_sipush hG dX5_times_4 sp_266 ⟨by decide, by decide⟩ ?_
  refine s_icmp_eq hG 12 dX5_times_7 (by decide) (fun c10 => ?_) (fun c10 => ?_)
  · replace hF := Eq.trans (if_pos c10).symm hF
    refine s_aload_n hG dX5_times_12 rfl ?_
    obtain ⟨o1, ho1, hF⟩ := bd_some hF
    refine s_callV (d' := d - 1) (ci := 5) (args := []) hG (by omega) dX5_times_13 cv_RX5_66 cw_X5_advance rfl rfl (sk_k hsk 16 rfl) (Nat.le_of_ble_eq_true rfl) rfl (t_X5_advance hsk (by omega) ho1) ?_
    refine s_aload_n hG dX5_times_16 rfl ?_
    refine s_geti hG dX5_times_17 fl_RX5_50 (sk_k hsk 16 rfl) rfl ?_
    refine s_bipush hG dX5_times_20 bp_m2 ⟨by decide, by decide⟩ ?_
    refine s_icmp_ne hG 52 dX5_times_22 (by decide) (fun c9 => ?_) (fun c9 => ?_)
    · replace hF := Eq.trans (if_pos c9).symm hF
      refine s_aload_n hG dX5_times_25 rfl ?_
      refine s_getr (r := 19) hG dX5_times_26 fl_RX5_18 (sk_k hsk 16 rfl) rfl (sk_R hsk 16 2 rfl) ?_
      refine s_aload_n hG dX5_times_29 rfl ?_
      refine s_geti hG dX5_times_30 fl_RX5_47 (sk_k hsk 16 rfl) rfl ?_
      obtain ⟨g2, hF⟩ := gd_some hF
      refine s_ialdj (j := (o1 16 9).toNat) hG dX5_times_33 (sk_K hsk 19 rfl) g2 rfl ?_
      refine s_iconst hG dX5_times_34 ⟨by decide, by decide⟩ ?_
      refine s_icmp_lt hG 52 dX5_times_35 (by decide) (fun c8 => ?_) (fun c8 => ?_)
      · replace hF := Eq.trans (if_pos c8).symm hF
        refine m_weak (ls1 := [some (.inr (.inr 16)), none]) hG ⟨rfl, trivial⟩ ?_
        exact t_X5_times_j52 hsk hd hG hE hF
      · replace hF := Eq.trans (if_neg c8).symm hF
        refine s_aload_n hG dX5_times_38 rfl ?_
        refine s_getr (r := 19) hG dX5_times_39 fl_RX5_18 (sk_k hsk 16 rfl) rfl (sk_R hsk 16 2 rfl) ?_
        refine s_aload_n hG dX5_times_42 rfl ?_
        refine s_geti hG dX5_times_43 fl_RX5_47 (sk_k hsk 16 rfl) rfl ?_
        obtain ⟨g3, hF⟩ := gd_some hF
        refine s_ialdj (j := (o1 16 9).toNat) hG dX5_times_46 (sk_K hsk 19 rfl) g3 rfl ?_
        refine s_bipush hG dX5_times_47 bp_20 ⟨by decide, by decide⟩ ?_
        refine s_icmp_le hG 57 dX5_times_49 (by decide) (fun c7 => ?_) (fun c7 => ?_)
        · replace hF := Eq.trans (if_pos c7).symm hF
          refine m_weak (ls1 := [some (.inr (.inr 16)), none]) hG ⟨rfl, trivial⟩ ?_
          exact t_X5_times_j52 hsk hd hG hE hF
        · replace hF := Eq.trans (if_neg c7).symm hF
          refine s_aload_n hG dX5_times_57 rfl ?_
          refine s_getr (r := 21) hG dX5_times_58 fl_RX5_29 (sk_k hsk 16 rfl) rfl (sk_R hsk 16 4 rfl) ?_
          refine s_iload_n hG dX5_times_61 rfl ?_
          refine s_iconst hG dX5_times_62 ⟨by decide, by decide⟩ ?_
          refine s_aload_n hG dX5_times_63 rfl ?_
          refine s_getr (r := 19) hG dX5_times_64 fl_RX5_18 (sk_k hsk 16 rfl) rfl (sk_R hsk 16 2 rfl) ?_
          refine s_aload_n hG dX5_times_67 rfl ?_
          refine s_geti hG dX5_times_68 fl_RX5_47 (sk_k hsk 16 rfl) rfl ?_
          obtain ⟨g4, hF⟩ := gd_some hF
          refine s_ialdj (j := (o1 16 9).toNat) hG dX5_times_71 (sk_K hsk 19 rfl) g4 rfl ?_
          obtain ⟨o5, ho5, hF⟩ := bd_some hF
          refine s_callV (d' := d - 1) (ci := 8) (args := [.inl a1, .inl 1, .inl (o1 19 ((o1 16 9).toNat))]) hG (by omega) dX5_times_72 cv_RX5_116 cw_X8_setPart rfl rfl (sk_k hsk 21 rfl) (Nat.le_of_ble_eq_true rfl) rfl (t_X8_setPart hsk (by omega) (sk_T21 hsk) ho5) ?_
          refine s_aload_n hG dX5_times_75 rfl ?_
          obtain ⟨o6, ho6, hF⟩ := bd_some hF
          refine s_callV (d' := d - 1) (ci := 5) (args := []) hG (by omega) dX5_times_76 cv_RX5_66 cw_X5_advance rfl rfl (sk_k hsk 16 rfl) (Nat.le_of_ble_eq_true rfl) rfl (t_X5_advance hsk (by omega) ho6) ?_
          refine s_iconst hG dX5_times_79 ⟨by decide, by decide⟩ ?_
          cases hF
          exact s_zret hE dX5_times_80 rfl ⟨by decide, by decide⟩
    · replace hF := Eq.trans (if_neg c9).symm hF
      refine m_weak (ls1 := [some (.inr (.inr 16)), none]) hG ⟨rfl, trivial⟩ ?_
      exact t_X5_times_j52 hsk hd hG hE hF
  · replace hF := Eq.trans (if_neg c10).symm hF
    refine s_iconst hG dX5_times_10 ⟨by decide, by decide⟩ ?_
    cases hF
    exact s_zret hE dX5_times_11 rfl ⟨by decide, by decide⟩
-- X5_orderClause
theorem t_X5_orderClause_j113 {d n0 s0 nF sF : Nat} {X : MX} {Ω : Nat → MS → Prop} {N : NN} {z0 : Int} (hsk : m_Sk X) (hd : 118 ≤ d) (hG : m_G d yX5_orderClause.cls yX5_orderClause.name cX5_orderClause 3 n0 s0 nF sF Ω) {out : (Int × NN)} (hE : m_Gd d yX5_orderClause cX5_orderClause 3 (some .boolean) X (some (.inl out.1)) out.2 X Ω) (hF : f_X5_orderClause_j113 X N z0 = some out) : Ω 113 ([none, none, none], [(.inl z0)], N, X) := by
  unfold f_X5_orderClause_j113 at hF
  obtain ⟨g20, hF⟩ := gd_some hF
  cases hF
  exact s_zret hE dX5_orderClause_113 rfl g20
theorem t_X5_orderClause_j112 {d n0 s0 nF sF : Nat} {X : MX} {Ω : Nat → MS → Prop} {N : NN} (hsk : m_Sk X) (hd : 118 ≤ d) (hG : m_G d yX5_orderClause.cls yX5_orderClause.name cX5_orderClause 3 n0 s0 nF sF Ω) {out : (Int × NN)} (hE : m_Gd d yX5_orderClause cX5_orderClause 3 (some .boolean) X (some (.inl out.1)) out.2 X Ω) (hF : f_X5_orderClause_j112 X N = some out) : Ω 112 ([none, none, none], [], N, X) := by
  unfold f_X5_orderClause_j112 at hF
  refine s_iconst hG dX5_orderClause_112 ⟨by decide, by decide⟩ ?_
  exact t_X5_orderClause_j113 hsk hd hG hE hF
theorem t_X5_orderClause_j92 {d n0 s0 nF sF : Nat} {X : MX} {Ω : Nat → MS → Prop} {N : NN} {a2 : Int} (hsk : m_Sk X) (hd : 118 ≤ d) (hG : m_G d yX5_orderClause.cls yX5_orderClause.name cX5_orderClause 3 n0 s0 nF sF Ω) {out : (Int × NN)} (hE : m_Gd d yX5_orderClause cX5_orderClause 3 (some .boolean) X (some (.inl out.1)) out.2 X Ω) (hF : f_X5_orderClause_j92 X N a2 = some out) : Ω 92 ([some (.inr (.inr 16)), none, some (.inl a2)], [], N, X) := by
  unfold f_X5_orderClause_j92 at hF
  refine s_aload_n hG dX5_orderClause_92 rfl ?_
  refine s_iload_n hG dX5_orderClause_93 rfl ?_
  obtain ⟨o16, ho16, hF⟩ := bd_some hF
  refine s_callV (d' := d - 1) (ci := 5) (args := [.inl a2]) hG (by omega) dX5_orderClause_94 cv_RX5_113 cw_X5_times rfl rfl (sk_k hsk 16 rfl) (Nat.le_of_ble_eq_true rfl) rfl (t_X5_times hsk (by omega) ho16) ?_
  refine s_if_eq hG 112 dX5_orderClause_97 (by decide) (fun c19 => ?_) (fun c19 => ?_)
  · replace hF := Eq.trans (if_pos c19).symm hF
    refine m_weak (ls1 := [none, none, none]) hG trivial ?_
    exact t_X5_orderClause_j112 hsk hd hG hE hF
  · replace hF := Eq.trans (if_neg c19).symm hF
    refine s_aload_n hG dX5_orderClause_100 rfl ?_
    refine s_iload_n hG dX5_orderClause_101 rfl ?_
    obtain ⟨o17, ho17, hF⟩ := bd_some hF
    refine s_callV (d' := d - 1) (ci := 5) (args := [.inl a2]) hG (by omega) dX5_orderClause_102 cv_RX5_110 cw_X5_condition rfl rfl (sk_k hsk 16 rfl) (Nat.le_of_ble_eq_true rfl) rfl (t_X5_condition hsk (by omega) ho17) ?_
    refine s_if_eq hG 112 dX5_orderClause_105 (by decide) (fun c18 => ?_) (fun c18 => ?_)
    · replace hF := Eq.trans (if_pos c18).symm hF
      refine m_weak (ls1 := [none, none, none]) hG trivial ?_
      exact t_X5_orderClause_j112 hsk hd hG hE hF
    · replace hF := Eq.trans (if_neg c18).symm hF
      refine s_iconst hG dX5_orderClause_108 ⟨by decide, by decide⟩ ?_
      refine s_goto hG 113 dX5_orderClause_109 (by decide) ?_
      refine m_weak (ls1 := [none, none, none]) hG trivial ?_
      exact t_X5_orderClause_j113 hsk hd hG hE hF
theorem t_X5_orderClause_j25 {d n0 s0 nF sF : Nat} {X : MX} {Ω : Nat → MS → Prop} {N : NN} (hsk : m_Sk X) (hd : 118 ≤ d) (hG : m_G d yX5_orderClause.cls yX5_orderClause.name cX5_orderClause 3 n0 s0 nF sF Ω) {out : (Int × NN)} (hE : m_Gd d yX5_orderClause cX5_orderClause 3 (some .boolean) X (some (.inl out.1)) out.2 X Ω) (hF : f_X5_orderClause_j25 X N = some out) : Ω 25 ([some (.inr (.inr 16)), none, none], [], N, X) := by
  unfold f_X5_orderClause_j25 at hF
  refine s_aload_n hG dX5_orderClause_25 rfl ?_
  refine s_geti hG dX5_orderClause_26 fl_RX5_50 (sk_k hsk 16 rfl) rfl ?_
  refine s_istore_n hG dX5_orderClause_29 (by decide) rfl ?_
  refine s_aload_n hG dX5_orderClause_30 rfl ?_
  refine s_getr (r := 21) hG dX5_orderClause_31 fl_RX5_29 (sk_k hsk 16 rfl) rfl (sk_R hsk 16 4 rfl) ?_
  refine s_iload_n hG dX5_orderClause_34 rfl ?_
  obtain ⟨o5, ho5, hF⟩ := bd_some hF
  refine s_callV (d' := d - 1) (ci := 8) (args := [.inl (N 16 10)]) hG (by omega) dX5_orderClause_35 cv_RX5_102 cw_X8_open rfl rfl (sk_k hsk 21 rfl) (Nat.le_of_ble_eq_true rfl) rfl (t_X8_open hsk (by omega) (sk_T21 hsk) ho5) ?_
  refine s_istore_n hG dX5_orderClause_38 (by decide) rfl ?_
  refine s_aload_n hG dX5_orderClause_39 rfl ?_
  obtain ⟨o6, ho6, hF⟩ := bd_some hF
  refine s_callV (d' := d - 1) (ci := 5) (args := []) hG (by omega) dX5_orderClause_40 cv_RX5_66 cw_X5_advance rfl rfl (sk_k hsk 16 rfl) (Nat.le_of_ble_eq_true rfl) rfl (t_X5_advance hsk (by omega) ho6) ?_
  refine s_iload_n hG dX5_orderClause_43 rfl ?_
  refine s_sipush hG dX5_orderClause_44 sp_263 ⟨by decide, by decide⟩ ?_
  refine s_icmp_ne hG 92 dX5_orderClause_47 (by decide) (fun c15 => ?_) (fun c15 => ?_)
  · replace hF := Eq.trans (if_pos c15).symm hF
    refine s_aload_n hG dX5_orderClause_50 rfl ?_
    refine s_iload_n hG dX5_orderClause_51 rfl ?_
    refine s_iconst hG dX5_orderClause_52 ⟨by decide, by decide⟩ ?_
    obtain ⟨o7, ho7, hF⟩ := bd_some hF
    refine s_callV (d' := d - 1) (ci := 5) (args := [.inl o5.1, .inl 4]) hG (by omega) dX5_orderClause_53 cv_RX5_106 cw_X5_sumOf rfl rfl (sk_k hsk 16 rfl) (Nat.le_of_ble_eq_true rfl) rfl (t_X5_sumOf hsk (by omega) ho7) ?_
    refine s_if_ne hG 61 dX5_orderClause_56 (by decide) (fun c14 => ?_) (fun c14 => ?_)
    · replace hF := Eq.trans (if_pos c14).symm hF
      refine s_iconst hG dX5_orderClause_59 ⟨by decide, by decide⟩ ?_
      cases hF
      exact s_zret hE dX5_orderClause_60 rfl ⟨by decide, by decide⟩
    · replace hF := Eq.trans (if_neg c14).symm hF
      refine s_aload_n hG dX5_orderClause_61 rfl ?_
      refine s_geti hG dX5_orderClause_62 fl_RX5_50 (sk_k hsk 16 rfl) rfl ?_
      refine s_sipush hG dX5_orderClause_65 sp_264 ⟨by decide, by decide⟩ ?_
      refine s_icmp_eq hG 76 dX5_orderClause_68 (by decide) (fun c13 => ?_) (fun c13 => ?_)
      · replace hF := Eq.trans (if_pos c13).symm hF
        refine s_aload_n hG dX5_orderClause_76 rfl ?_
        obtain ⟨o8, ho8, hF⟩ := bd_some hF
        refine s_callV (d' := d - 1) (ci := 5) (args := []) hG (by omega) dX5_orderClause_77 cv_RX5_66 cw_X5_advance rfl rfl (sk_k hsk 16 rfl) (Nat.le_of_ble_eq_true rfl) rfl (t_X5_advance hsk (by omega) ho8) ?_
        refine s_aload_n hG dX5_orderClause_80 rfl ?_
        refine s_iload_n hG dX5_orderClause_81 rfl ?_
        refine s_bipush hG dX5_orderClause_82 bp_6 ⟨by decide, by decide⟩ ?_
        obtain ⟨o9, ho9, hF⟩ := bd_some hF
        refine s_callV (d' := d - 1) (ci := 5) (args := [.inl o5.1, .inl 6]) hG (by omega) dX5_orderClause_84 cv_RX5_106 cw_X5_sumOf rfl rfl (sk_k hsk 16 rfl) (Nat.le_of_ble_eq_true rfl) rfl (t_X5_sumOf hsk (by omega) ho9) ?_
        refine s_if_ne hG 92 dX5_orderClause_87 (by decide) (fun c10 => ?_) (fun c10 => ?_)
        · replace hF := Eq.trans (if_pos c10).symm hF
          refine s_iconst hG dX5_orderClause_90 ⟨by decide, by decide⟩ ?_
          cases hF
          exact s_zret hE dX5_orderClause_91 rfl ⟨by decide, by decide⟩
        · replace hF := Eq.trans (if_neg c10).symm hF
          refine m_weak (ls1 := [some (.inr (.inr 16)), none, some (.inl o5.1)]) hG ⟨rfl, ⟨rfl, trivial⟩⟩ ?_
          exact t_X5_orderClause_j92 hsk hd hG hE hF
      · replace hF := Eq.trans (if_neg c13).symm hF
        refine s_aload_n hG dX5_orderClause_71 rfl ?_
        obtain ⟨o11, ho11, hF⟩ := bd_some hF
        refine s_callV (d' := d - 1) (ci := 5) (args := []) hG (by omega) dX5_orderClause_72 cv_RX5_69 cw_X5_wrong rfl rfl (sk_k hsk 16 rfl) (Nat.le_of_ble_eq_true rfl) rfl (t_X5_wrong hsk (by omega) ho11) ?_
        obtain ⟨g12, hF⟩ := gd_some hF
        cases hF
        exact s_zret hE dX5_orderClause_75 rfl g12
  · replace hF := Eq.trans (if_neg c15).symm hF
    refine m_weak (ls1 := [some (.inr (.inr 16)), none, some (.inl o5.1)]) hG ⟨rfl, ⟨rfl, trivial⟩⟩ ?_
    exact t_X5_orderClause_j92 hsk hd hG hE hF
theorem t_X5_orderClause {d : Nat} {X : MX} {N : NN} {out : (Int × NN)} (hsk : m_Sk X) (hd : 118 ≤ d) (hF : f_X5_orderClause X N = some out) : m_Call d yX5_orderClause cX5_orderClause 3 (some .boolean) [(.inr (.inr 16))] N X (some (.inl out.1)) out.2 X := by
  refine m_mk (ls0 := [some (.inr (.inr 16)), none, none]) (by decide) rfl (Nat.le_of_ble_eq_true rfl) (Nat.le_refl _) (Nat.le_refl _) (fun Ω hE => ?_)
  have hG := hE.G
  unfold f_X5_orderClause at hF
  refine s_aload_n hG dX5_orderClause_0 rfl ?_
  refine s_geti hG dX5_orderClause_1 fl_RX5_50 (sk_k hsk 16 rfl) rfl ?_
  refine s_sipush hG dX5_orderClause_4 sp_263 ⟨by decide, by decide⟩ ?_
  refine s_icmp_eq hG 25 dX5_orderClause_7 (by decide) (fun c4 => ?_) (fun c4 => ?_)
  · replace hF := Eq.trans (if_pos c4).symm hF
    exact t_X5_orderClause_j25 hsk hd hG hE hF
  · replace hF := Eq.trans (if_neg c4).symm hF
    refine s_aload_n hG dX5_orderClause_10 rfl ?_
    refine s_geti hG dX5_orderClause_11 fl_RX5_50 (sk_k hsk 16 rfl) rfl ?_
    refine s_sipush hG dX5_orderClause_14 sp_265 ⟨by decide, by decide⟩ ?_
    refine s_icmp_eq hG 25 dX5_orderClause_17 (by decide) (fun c3 => ?_) (fun c3 => ?_)
    · replace hF := Eq.trans (if_pos c3).symm hF
      exact t_X5_orderClause_j25 hsk hd hG hE hF
    · replace hF := Eq.trans (if_neg c3).symm hF
      refine s_aload_n hG dX5_orderClause_20 rfl ?_
      obtain ⟨o1, ho1, hF⟩ := bd_some hF
      refine s_callV (d' := d - 1) (ci := 5) (args := []) hG (by omega) dX5_orderClause_21 cv_RX5_69 cw_X5_wrong rfl rfl (sk_k hsk 16 rfl) (Nat.le_of_ble_eq_true rfl) rfl (t_X5_wrong hsk (by omega) ho1) ?_
      obtain ⟨g2, hF⟩ := gd_some hF
      cases hF
      exact s_zret hE dX5_orderClause_24 rfl g2
-- X5_isDigit
theorem t_X5_isDigit_j17 {d n0 s0 nF sF : Nat} {X : MX} {N : NN} {Ω : Nat → MS → Prop} {z0 : Int} (hsk : m_Sk X) (hd : 1 ≤ d) (hG : m_G d yX5_isDigit.cls yX5_isDigit.name cX5_isDigit 1 n0 s0 nF sF Ω) {out : Int} (hE : m_Gd d yX5_isDigit cX5_isDigit 1 (some .boolean) X (some (.inl out)) N X Ω) (hF : f_X5_isDigit_j17 X N z0 = some out) : Ω 17 ([none], [(.inl z0)], N, X) := by
  unfold f_X5_isDigit_j17 at hF
  obtain ⟨g3, hF⟩ := gd_some hF
  cases hF
  exact s_zret hE dX5_isDigit_17 rfl g3
theorem t_X5_isDigit_j16 {d n0 s0 nF sF : Nat} {X : MX} {N : NN} {Ω : Nat → MS → Prop} (hsk : m_Sk X) (hd : 1 ≤ d) (hG : m_G d yX5_isDigit.cls yX5_isDigit.name cX5_isDigit 1 n0 s0 nF sF Ω) {out : Int} (hE : m_Gd d yX5_isDigit cX5_isDigit 1 (some .boolean) X (some (.inl out)) N X Ω) (hF : f_X5_isDigit_j16 X N = some out) : Ω 16 ([none], [], N, X) := by
  unfold f_X5_isDigit_j16 at hF
  refine s_iconst hG dX5_isDigit_16 ⟨by decide, by decide⟩ ?_
  exact t_X5_isDigit_j17 hsk hd hG hE hF
theorem t_X5_isDigit {d : Nat} {X : MX} {N : NN} {a0 : Int} {out : Int} (hsk : m_Sk X) (hd : 1 ≤ d) (hF : f_X5_isDigit X N a0 = some out) : m_Call d yX5_isDigit cX5_isDigit 1 (some .boolean) [(.inl a0)] N X (some (.inl out)) N X := by
  refine m_mk (ls0 := [some (.inl a0)]) (by decide) rfl (Nat.le_of_ble_eq_true rfl) (Nat.le_refl _) (Nat.le_refl _) (fun Ω hE => ?_)
  have hG := hE.G
  unfold f_X5_isDigit at hF
  refine s_iload_n hG dX5_isDigit_0 rfl ?_
  refine s_bipush hG dX5_isDigit_1 bp_48 ⟨by decide, by decide⟩ ?_
  refine s_icmp_lt hG 16 dX5_isDigit_3 (by decide) (fun c2 => ?_) (fun c2 => ?_)
  · replace hF := Eq.trans (if_pos c2).symm hF
    refine m_weak (ls1 := [none]) hG trivial ?_
    exact t_X5_isDigit_j16 hsk hd hG hE hF
  · replace hF := Eq.trans (if_neg c2).symm hF
    refine s_iload_n hG dX5_isDigit_6 rfl ?_
    refine s_bipush hG dX5_isDigit_7 bp_57 ⟨by decide, by decide⟩ ?_
    refine s_icmp_gt hG 16 dX5_isDigit_9 (by decide) (fun c1 => ?_) (fun c1 => ?_)
    · replace hF := Eq.trans (if_pos c1).symm hF
      refine m_weak (ls1 := [none]) hG trivial ?_
      exact t_X5_isDigit_j16 hsk hd hG hE hF
    · replace hF := Eq.trans (if_neg c1).symm hF
      refine s_iconst hG dX5_isDigit_12 ⟨by decide, by decide⟩ ?_
      refine s_goto hG 17 dX5_isDigit_13 (by decide) ?_
      refine m_weak (ls1 := [none]) hG trivial ?_
      exact t_X5_isDigit_j17 hsk hd hG hE hF
-- X5_isLetter
theorem t_X5_isLetter_j17 {d n0 s0 nF sF : Nat} {X : MX} {N : NN} {Ω : Nat → MS → Prop} {z0 : Int} (hsk : m_Sk X) (hd : 1 ≤ d) (hG : m_G d yX5_isLetter.cls yX5_isLetter.name cX5_isLetter 1 n0 s0 nF sF Ω) {out : Int} (hE : m_Gd d yX5_isLetter cX5_isLetter 1 (some .boolean) X (some (.inl out)) N X Ω) (hF : f_X5_isLetter_j17 X N z0 = some out) : Ω 17 ([none], [(.inl z0)], N, X) := by
  unfold f_X5_isLetter_j17 at hF
  obtain ⟨g3, hF⟩ := gd_some hF
  cases hF
  exact s_zret hE dX5_isLetter_17 rfl g3
theorem t_X5_isLetter_j16 {d n0 s0 nF sF : Nat} {X : MX} {N : NN} {Ω : Nat → MS → Prop} (hsk : m_Sk X) (hd : 1 ≤ d) (hG : m_G d yX5_isLetter.cls yX5_isLetter.name cX5_isLetter 1 n0 s0 nF sF Ω) {out : Int} (hE : m_Gd d yX5_isLetter cX5_isLetter 1 (some .boolean) X (some (.inl out)) N X Ω) (hF : f_X5_isLetter_j16 X N = some out) : Ω 16 ([none], [], N, X) := by
  unfold f_X5_isLetter_j16 at hF
  refine s_iconst hG dX5_isLetter_16 ⟨by decide, by decide⟩ ?_
  exact t_X5_isLetter_j17 hsk hd hG hE hF
theorem t_X5_isLetter {d : Nat} {X : MX} {N : NN} {a0 : Int} {out : Int} (hsk : m_Sk X) (hd : 1 ≤ d) (hF : f_X5_isLetter X N a0 = some out) : m_Call d yX5_isLetter cX5_isLetter 1 (some .boolean) [(.inl a0)] N X (some (.inl out)) N X := by
  refine m_mk (ls0 := [some (.inl a0)]) (by decide) rfl (Nat.le_of_ble_eq_true rfl) (Nat.le_refl _) (Nat.le_refl _) (fun Ω hE => ?_)
  have hG := hE.G
  unfold f_X5_isLetter at hF
  refine s_iload_n hG dX5_isLetter_0 rfl ?_
  refine s_bipush hG dX5_isLetter_1 bp_97 ⟨by decide, by decide⟩ ?_
  refine s_icmp_lt hG 16 dX5_isLetter_3 (by decide) (fun c2 => ?_) (fun c2 => ?_)
  · replace hF := Eq.trans (if_pos c2).symm hF
    refine m_weak (ls1 := [none]) hG trivial ?_
    exact t_X5_isLetter_j16 hsk hd hG hE hF
  · replace hF := Eq.trans (if_neg c2).symm hF
    refine s_iload_n hG dX5_isLetter_6 rfl ?_
    refine s_bipush hG dX5_isLetter_7 bp_122 ⟨by decide, by decide⟩ ?_
    refine s_icmp_gt hG 16 dX5_isLetter_9 (by decide) (fun c1 => ?_) (fun c1 => ?_)
    · replace hF := Eq.trans (if_pos c1).symm hF
      refine m_weak (ls1 := [none]) hG trivial ?_
      exact t_X5_isLetter_j16 hsk hd hG hE hF
    · replace hF := Eq.trans (if_neg c1).symm hF
      refine s_iconst hG dX5_isLetter_12 ⟨by decide, by decide⟩ ?_
      refine s_goto hG 17 dX5_isLetter_13 (by decide) ?_
      refine m_weak (ls1 := [none]) hG trivial ?_
      exact t_X5_isLetter_j17 hsk hd hG hE hF
-- X5_numberOf
theorem t_X5_numberOf_b5 {d n0 s0 nF sF : Nat} {X : MX} {N : NN} {Ω : Nat → MS → Prop} {a2 : Int} {a3 : Int} {a4 : Int} (hsk : m_Sk X) (hd : 1 ≤ d) (hG : m_G d yX5_numberOf.cls yX5_numberOf.name cX5_numberOf 5 n0 s0 nF sF Ω) {out : ((Int × Int × Int) ⊕ Int)} (hK0 : ∀ s' : (Int × Int × Int), out = .inl s' → Ω 5 ([some (.inr (.inr 16)), none, some (.inl (s'.1)), some (.inl (s'.2.1)), some (.inl (s'.2.2))], [], N, X)) (hK1 : ∀ t : Int, out = .inr t → Ω 39 ([none, none, none, some (.inl t), none], [], N, X)) (hF : b_X5_numberOf_5 X N a2 a3 a4 = some out) : Ω 5 ([some (.inr (.inr 16)), none, some (.inl a2), some (.inl a3), some (.inl a4)], [], N, X) := by
  unfold b_X5_numberOf_5 at hF
  refine s_iload hG dX5_numberOf_5 rfl ?_
  refine s_iload_n hG dX5_numberOf_7 rfl ?_
  refine s_icmp_ge hG 39 dX5_numberOf_8 (by decide) (fun c2 => ?_) (fun c2 => ?_)
  · replace hF := Eq.trans (if_pos c2).symm hF
    refine s_iload_n hG dX5_numberOf_11 rfl ?_
    refine s_bipush hG dX5_numberOf_12 bp_10 ⟨by decide, by decide⟩ ?_
    refine s_imul hG dX5_numberOf_14 ?_
    refine s_aload_n hG dX5_numberOf_15 rfl ?_
    refine s_getr (r := 17) hG dX5_numberOf_16 fl_RX5_11 (sk_k hsk 16 rfl) rfl (sk_R hsk 16 0 rfl) ?_
    refine s_iload hG dX5_numberOf_19 rfl ?_
    obtain ⟨g1, hF⟩ := gd_some hF
    refine s_ialdj (j := a4.toNat) hG dX5_numberOf_21 (sk_K hsk 17 rfl) g1 rfl ?_
    refine s_iadd hG dX5_numberOf_22 ?_
    refine s_bipush hG dX5_numberOf_23 bp_48 ⟨by decide, by decide⟩ ?_
    refine s_isub hG dX5_numberOf_25 ?_
    refine s_sipush hG dX5_numberOf_26 sp_1001 ⟨by decide, by decide⟩ ?_
    refine s_min hG (by omega) dX5_numberOf_29 ml_RX5_86 lk_min_s lk_math lk_min_c (Nat.le_of_ble_eq_true rfl) ?_
    refine s_istore_n hG dX5_numberOf_32 (by decide) rfl ?_
    refine s_iinc hG dX5_numberOf_33 (by decide) rfl rfl ?_
    refine s_goto hG 5 dX5_numberOf_36 (by decide) ?_
    cases hF
    exact hK0 _ rfl
  · replace hF := Eq.trans (if_neg c2).symm hF
    cases hF
    refine m_weak (ls1 := [none, none, none, some (.inl a3), none]) hG ⟨rfl, trivial⟩ ?_
    exact hK1 _ rfl
theorem t_X5_numberOf_lp5 {d n0 s0 nF sF : Nat} {X : MX} {N : NN} {Ω : Nat → MS → Prop} {a2 : Int} {a3 : Int} {a4 : Int} (hsk : m_Sk X) (hd : 1 ≤ d) (hG : m_G d yX5_numberOf.cls yX5_numberOf.name cX5_numberOf 5 n0 s0 nF sF Ω) {t : Int} (hK1 : Ω 39 ([none, none, none, some (.inl t), none], [], N, X)) (hl : lp (fun s => b_X5_numberOf_5 X N s.1 s.2.1 s.2.2) (a2, a3, a4) = some t) : Ω 5 ([some (.inr (.inr 16)), none, some (.inl a2), some (.inl a3), some (.inl a4)], [], N, X) := by
  refine lp_ok (P := fun s => Ω 5 ([some (.inr (.inr 16)), none, some (.inl s.1), some (.inl s.2.1), some (.inl s.2.2)], [], N, X)) (K := fun t => Ω 39 ([none, none, none, some (.inl t), none], [], N, X)) (fun s out hF hK0 hK1 => ?_) hl hK1
  exact t_X5_numberOf_b5 hsk hd hG (out := out) (fun s' e => hK0 s' e) (fun t' e => hK1 t' e) hF
theorem t_X5_numberOf {d : Nat} {X : MX} {N : NN} {a1 : Int} {a2 : Int} {out : Int} (hsk : m_Sk X) (hd : 1 ≤ d) (hF : f_X5_numberOf X N a1 a2 = some out) : m_Call d yX5_numberOf cX5_numberOf 5 (some .int) [(.inr (.inr 16)), (.inl a1), (.inl a2)] N X (some (.inl out)) N X := by
  refine m_mk (ls0 := [some (.inr (.inr 16)), some (.inl a1), some (.inl a2), none, none]) (by decide) rfl (Nat.le_of_ble_eq_true rfl) (Nat.le_refl _) (Nat.le_refl _) (fun Ω hE => ?_)
  have hG := hE.G
  unfold f_X5_numberOf at hF
  refine s_iconst hG dX5_numberOf_0 ⟨by decide, by decide⟩ ?_
  refine s_istore_n hG dX5_numberOf_1 (by decide) rfl ?_
  refine s_iload_n hG dX5_numberOf_2 rfl ?_
  refine s_istore hG dX5_numberOf_3 (by decide) rfl ?_
  obtain ⟨o3, hlo3, hF⟩ := bd_some hF
  refine m_weak (ls1 := [some (.inr (.inr 16)), none, some (.inl a2), some (.inl 0), some (.inl a1)]) hG ⟨rfl, ⟨rfl, ⟨rfl, ⟨rfl, trivial⟩⟩⟩⟩ ?_
  refine t_X5_numberOf_lp5 hsk hd hG ?_ hlo3
  refine s_iload_n hG dX5_numberOf_39 rfl ?_
  cases hF
  exact s_iret hE dX5_numberOf_40 rfl
-- X5_wordOf
theorem t_X5_wordOf_l10_j119 {d n0 s0 nF sF : Nat} {X : MX} {N : NN} {Ω : Nat → MS → Prop} {a1 : Int} {a2 : Int} {a3 : Int} {a4 : Int} {a5 : Int} (hsk : m_Sk X) (hd : 6 ≤ d) (hG : m_G d yX5_wordOf.cls yX5_wordOf.name cX5_wordOf 8 n0 s0 nF sF Ω) {out : ((Int × Int × Int × Int × Int) ⊕ (Unit ⊕ Int))} (hK0 : ∀ s' : (Int × Int × Int × Int × Int), out = .inl s' → Ω 10 ([some (.inr (.inr 16)), some (.inl (s'.1)), some (.inl (s'.2.1)), some (.inl (s'.2.2.1)), some (.inl (s'.2.2.2.1)), some (.inl (s'.2.2.2.2)), none, none], [], N, X)) (hK1 : ∀ t : (Unit ⊕ Int), out = .inr t → match t with | .inl e => Ω 125 ([none, none, none, none, none, none, none, none], [], N, X) | .inr e => Ω 111 ([none, none, none, some (.inl e), none, none, none, none], [], N, X)) (hF : f_X5_wordOf_l10_j119 X N a1 a2 a3 a4 a5 = some out) : Ω 119 ([some (.inr (.inr 16)), some (.inl a1), some (.inl a2), some (.inl a3), some (.inl a4), some (.inl a5), none, none], [], N, X) := by
  unfold f_X5_wordOf_l10_j119 at hF
  refine s_iinc hG dX5_wordOf_119 (by decide) rfl rfl ?_
  refine s_goto hG 10 dX5_wordOf_122 (by decide) ?_
  cases hF
  exact hK0 _ rfl
theorem t_X5_wordOf_l10_j98 {d n0 s0 nF sF : Nat} {X : MX} {N : NN} {Ω : Nat → MS → Prop} {a1 : Int} {a2 : Int} {a3 : Int} {a5 : Int} {z0 : Int} (hsk : m_Sk X) (hd : 6 ≤ d) (hG : m_G d yX5_wordOf.cls yX5_wordOf.name cX5_wordOf 8 n0 s0 nF sF Ω) {out : ((Int × Int × Int × Int × Int) ⊕ (Unit ⊕ Int))} (hK0 : ∀ s' : (Int × Int × Int × Int × Int), out = .inl s' → Ω 10 ([some (.inr (.inr 16)), some (.inl (s'.1)), some (.inl (s'.2.1)), some (.inl (s'.2.2.1)), some (.inl (s'.2.2.2.1)), some (.inl (s'.2.2.2.2)), none, none], [], N, X)) (hK1 : ∀ t : (Unit ⊕ Int), out = .inr t → match t with | .inl e => Ω 125 ([none, none, none, none, none, none, none, none], [], N, X) | .inr e => Ω 111 ([none, none, none, some (.inl e), none, none, none, none], [], N, X)) (hF : f_X5_wordOf_l10_j98 X N a1 a2 a3 a5 z0 = some out) : Ω 98 ([some (.inr (.inr 16)), some (.inl a1), some (.inl a2), some (.inl a3), none, some (.inl a5), none, none], [(.inl z0)], N, X) := by
  unfold f_X5_wordOf_l10_j98 at hF
  refine s_istore hG dX5_wordOf_98 (by decide) rfl ?_
  refine s_goto hG 119 dX5_wordOf_100 (by decide) ?_
  exact t_X5_wordOf_l10_j119 hsk hd hG hK0 hK1 hF
theorem t_X5_wordOf_l10_j83 {d n0 s0 nF sF : Nat} {X : MX} {N : NN} {Ω : Nat → MS → Prop} {a1 : Int} {a2 : Int} {a3 : Int} {a4 : Int} {a5 : Int} {z0 : Int} (hsk : m_Sk X) (hd : 6 ≤ d) (hG : m_G d yX5_wordOf.cls yX5_wordOf.name cX5_wordOf 8 n0 s0 nF sF Ω) {out : ((Int × Int × Int × Int × Int) ⊕ (Unit ⊕ Int))} (hK0 : ∀ s' : (Int × Int × Int × Int × Int), out = .inl s' → Ω 10 ([some (.inr (.inr 16)), some (.inl (s'.1)), some (.inl (s'.2.1)), some (.inl (s'.2.2.1)), some (.inl (s'.2.2.2.1)), some (.inl (s'.2.2.2.2)), none, none], [], N, X)) (hK1 : ∀ t : (Unit ⊕ Int), out = .inr t → match t with | .inl e => Ω 125 ([none, none, none, none, none, none, none, none], [], N, X) | .inr e => Ω 111 ([none, none, none, some (.inl e), none, none, none, none], [], N, X)) (hF : f_X5_wordOf_l10_j83 X N a1 a2 a3 a4 a5 z0 = some out) : Ω 83 ([some (.inr (.inr 16)), some (.inl a1), some (.inl a2), some (.inl a3), some (.inl a4), some (.inl a5), none, none], [(.inl z0)], N, X) := by
  unfold f_X5_wordOf_l10_j83 at hF
  refine s_istore hG dX5_wordOf_83 (by decide) rfl ?_
  refine s_iload hG dX5_wordOf_85 rfl ?_
  refine s_if_eq hG 97 dX5_wordOf_87 (by decide) (fun c10 => ?_) (fun c10 => ?_)
  · replace hF := Eq.trans (if_pos c10).symm hF
    refine s_iconst hG dX5_wordOf_97 ⟨by decide, by decide⟩ ?_
    refine m_weak (ls1 := [some (.inr (.inr 16)), some (.inl a1), some (.inl a2), some (.inl a3), none, some (.inl a5), none, none]) hG ⟨rfl, ⟨rfl, ⟨rfl, ⟨rfl, ⟨rfl, trivial⟩⟩⟩⟩⟩ ?_
    exact t_X5_wordOf_l10_j98 hsk hd hG hK0 hK1 hF
  · replace hF := Eq.trans (if_neg c10).symm hF
    refine s_iload hG dX5_wordOf_90 rfl ?_
    refine s_iconst hG dX5_wordOf_92 ⟨by decide, by decide⟩ ?_
    refine s_iadd hG dX5_wordOf_93 ?_
    refine s_goto hG 98 dX5_wordOf_94 (by decide) ?_
    refine m_weak (ls1 := [some (.inr (.inr 16)), some (.inl a1), some (.inl a2), some (.inl a3), none, some (.inl a5), none, none]) hG ⟨rfl, ⟨rfl, ⟨rfl, ⟨rfl, ⟨rfl, trivial⟩⟩⟩⟩⟩ ?_
    exact t_X5_wordOf_l10_j98 hsk hd hG hK0 hK1 hF
theorem t_X5_wordOf_l10_j82 {d n0 s0 nF sF : Nat} {X : MX} {N : NN} {Ω : Nat → MS → Prop} {a1 : Int} {a2 : Int} {a3 : Int} {a4 : Int} {a5 : Int} (hsk : m_Sk X) (hd : 6 ≤ d) (hG : m_G d yX5_wordOf.cls yX5_wordOf.name cX5_wordOf 8 n0 s0 nF sF Ω) {out : ((Int × Int × Int × Int × Int) ⊕ (Unit ⊕ Int))} (hK0 : ∀ s' : (Int × Int × Int × Int × Int), out = .inl s' → Ω 10 ([some (.inr (.inr 16)), some (.inl (s'.1)), some (.inl (s'.2.1)), some (.inl (s'.2.2.1)), some (.inl (s'.2.2.2.1)), some (.inl (s'.2.2.2.2)), none, none], [], N, X)) (hK1 : ∀ t : (Unit ⊕ Int), out = .inr t → match t with | .inl e => Ω 125 ([none, none, none, none, none, none, none, none], [], N, X) | .inr e => Ω 111 ([none, none, none, some (.inl e), none, none, none, none], [], N, X)) (hF : f_X5_wordOf_l10_j82 X N a1 a2 a3 a4 a5 = some out) : Ω 82 ([some (.inr (.inr 16)), some (.inl a1), some (.inl a2), some (.inl a3), some (.inl a4), some (.inl a5), none, none], [], N, X) := by
  unfold f_X5_wordOf_l10_j82 at hF
  refine s_iconst hG dX5_wordOf_82 ⟨by decide, by decide⟩ ?_
  exact t_X5_wordOf_l10_j83 hsk hd hG hK0 hK1 hF
theorem t_X5_wordOf_l10_j42 {d n0 s0 nF sF : Nat} {X : MX} {N : NN} {Ω : Nat → MS → Prop} {a1 : Int} {a2 : Int} {a3 : Int} {a4 : Int} {a5 : Int} {z0 : Int} (hsk : m_Sk X) (hd : 6 ≤ d) (hG : m_G d yX5_wordOf.cls yX5_wordOf.name cX5_wordOf 8 n0 s0 nF sF Ω) {out : ((Int × Int × Int × Int × Int) ⊕ (Unit ⊕ Int))} (hK0 : ∀ s' : (Int × Int × Int × Int × Int), out = .inl s' → Ω 10 ([some (.inr (.inr 16)), some (.inl (s'.1)), some (.inl (s'.2.1)), some (.inl (s'.2.2.1)), some (.inl (s'.2.2.2.1)), some (.inl (s'.2.2.2.2)), none, none], [], N, X)) (hK1 : ∀ t : (Unit ⊕ Int), out = .inr t → match t with | .inl e => Ω 125 ([none, none, none, none, none, none, none, none], [], N, X) | .inr e => Ω 111 ([none, none, none, some (.inl e), none, none, none, none], [], N, X)) (hF : f_X5_wordOf_l10_j42 X N a1 a2 a3 a4 a5 z0 = some out) : Ω 42 ([some (.inr (.inr 16)), some (.inl a1), some (.inl a2), some (.inl a3), some (.inl a4), some (.inl a5), none, none], [(.inl z0)], N, X) := by
  unfold f_X5_wordOf_l10_j42 at hF
  refine s_istore hG dX5_wordOf_42 (by decide) rfl ?_
  refine s_iload hG dX5_wordOf_44 rfl ?_
  refine s_bipush hG dX5_wordOf_46 bp_32 ⟨by decide, by decide⟩ ?_
  refine s_icmp_eq hG 103 dX5_wordOf_48 (by decide) (fun c9 => ?_) (fun c9 => ?_)
  · replace hF := Eq.trans (if_pos c9).symm hF
    refine s_iload hG dX5_wordOf_103 rfl ?_
    refine s_iload_n hG dX5_wordOf_105 rfl ?_
    refine s_iload_n hG dX5_wordOf_106 rfl ?_
    refine s_isub hG dX5_wordOf_107 ?_
    refine s_icmp_ne hG 113 dX5_wordOf_108 (by decide) (fun c4 => ?_) (fun c4 => ?_)
    · replace hF := Eq.trans (if_pos c4).symm hF
      cases hF
      refine m_weak (ls1 := [none, none, none, some (.inl a3), none, none, none, none]) hG ⟨rfl, trivial⟩ ?_
      exact hK1 _ rfl
    · replace hF := Eq.trans (if_neg c4).symm hF
      refine s_iinc hG dX5_wordOf_113 (by decide) rfl rfl ?_
      refine s_iconst hG dX5_wordOf_116 ⟨by decide, by decide⟩ ?_
      refine s_istore hG dX5_wordOf_117 (by decide) rfl ?_
      refine m_weak (ls1 := [some (.inr (.inr 16)), some (.inl a1), some (.inl a2), some (.inl (m_w (a3 + 1))), some (.inl 0), some (.inl a5), none, none]) hG ⟨rfl, ⟨rfl, ⟨rfl, ⟨rfl, ⟨rfl, ⟨rfl, trivial⟩⟩⟩⟩⟩⟩ ?_
      exact t_X5_wordOf_l10_j119 hsk hd hG hK0 hK1 hF
  · replace hF := Eq.trans (if_neg c9).symm hF
    refine s_iload hG dX5_wordOf_51 rfl ?_
    refine s_if_lt hG 82 dX5_wordOf_53 (by decide) (fun c8 => ?_) (fun c8 => ?_)
    · replace hF := Eq.trans (if_pos c8).symm hF
      refine m_weak (ls1 := [some (.inr (.inr 16)), some (.inl a1), some (.inl a2), some (.inl a3), some (.inl a4), some (.inl a5), none, none]) hG ⟨rfl, ⟨rfl, ⟨rfl, ⟨rfl, ⟨rfl, ⟨rfl, trivial⟩⟩⟩⟩⟩⟩ ?_
      exact t_X5_wordOf_l10_j82 hsk hd hG hK0 hK1 hF
    · replace hF := Eq.trans (if_neg c8).symm hF
      refine s_iload_n hG dX5_wordOf_56 rfl ?_
      refine s_iload hG dX5_wordOf_57 rfl ?_
      refine s_iadd hG dX5_wordOf_59 ?_
      refine s_iload_n hG dX5_wordOf_60 rfl ?_
      refine s_icmp_ge hG 82 dX5_wordOf_61 (by decide) (fun c7 => ?_) (fun c7 => ?_)
      · replace hF := Eq.trans (if_pos c7).symm hF
        refine s_aload_n hG dX5_wordOf_64 rfl ?_
        refine s_getr (r := 17) hG dX5_wordOf_65 fl_RX5_11 (sk_k hsk 16 rfl) rfl (sk_R hsk 16 0 rfl) ?_
        refine s_iload_n hG dX5_wordOf_68 rfl ?_
        refine s_iload hG dX5_wordOf_69 rfl ?_
        refine s_iadd hG dX5_wordOf_71 ?_
        obtain ⟨g5, hF⟩ := gd_some hF
        refine s_ialdj (j := (m_w (a1 + a4)).toNat) hG dX5_wordOf_72 (sk_K hsk 17 rfl) g5 rfl ?_
        refine s_iload hG dX5_wordOf_73 rfl ?_
        refine s_icmp_ne hG 82 dX5_wordOf_75 (by decide) (fun c6 => ?_) (fun c6 => ?_)
        · replace hF := Eq.trans (if_pos c6).symm hF
          refine s_iconst hG dX5_wordOf_78 ⟨by decide, by decide⟩ ?_
          refine s_goto hG 83 dX5_wordOf_79 (by decide) ?_
          refine m_weak (ls1 := [some (.inr (.inr 16)), some (.inl a1), some (.inl a2), some (.inl a3), some (.inl a4), some (.inl a5), none, none]) hG ⟨rfl, ⟨rfl, ⟨rfl, ⟨rfl, ⟨rfl, ⟨rfl, trivial⟩⟩⟩⟩⟩⟩ ?_
          exact t_X5_wordOf_l10_j83 hsk hd hG hK0 hK1 hF
        · replace hF := Eq.trans (if_neg c6).symm hF
          refine m_weak (ls1 := [some (.inr (.inr 16)), some (.inl a1), some (.inl a2), some (.inl a3), some (.inl a4), some (.inl a5), none, none]) hG ⟨rfl, ⟨rfl, ⟨rfl, ⟨rfl, ⟨rfl, ⟨rfl, trivial⟩⟩⟩⟩⟩⟩ ?_
          exact t_X5_wordOf_l10_j82 hsk hd hG hK0 hK1 hF
      · replace hF := Eq.trans (if_neg c7).symm hF
        refine m_weak (ls1 := [some (.inr (.inr 16)), some (.inl a1), some (.inl a2), some (.inl a3), some (.inl a4), some (.inl a5), none, none]) hG ⟨rfl, ⟨rfl, ⟨rfl, ⟨rfl, ⟨rfl, ⟨rfl, trivial⟩⟩⟩⟩⟩⟩ ?_
        exact t_X5_wordOf_l10_j82 hsk hd hG hK0 hK1 hF
theorem t_X5_wordOf_b10 {d n0 s0 nF sF : Nat} {X : MX} {N : NN} {Ω : Nat → MS → Prop} {a1 : Int} {a2 : Int} {a3 : Int} {a4 : Int} {a5 : Int} (hsk : m_Sk X) (hd : 6 ≤ d) (hG : m_G d yX5_wordOf.cls yX5_wordOf.name cX5_wordOf 8 n0 s0 nF sF Ω) {out : ((Int × Int × Int × Int × Int) ⊕ (Unit ⊕ Int))} (hK0 : ∀ s' : (Int × Int × Int × Int × Int), out = .inl s' → Ω 10 ([some (.inr (.inr 16)), some (.inl (s'.1)), some (.inl (s'.2.1)), some (.inl (s'.2.2.1)), some (.inl (s'.2.2.2.1)), some (.inl (s'.2.2.2.2)), none, none], [], N, X)) (hK1 : ∀ t : (Unit ⊕ Int), out = .inr t → match t with | .inl e => Ω 125 ([none, none, none, none, none, none, none, none], [], N, X) | .inr e => Ω 111 ([none, none, none, some (.inl e), none, none, none, none], [], N, X)) (hF : b_X5_wordOf_10 X N a1 a2 a3 a4 a5 = some out) : Ω 10 ([some (.inr (.inr 16)), some (.inl a1), some (.inl a2), some (.inl a3), some (.inl a4), some (.inl a5), none, none], [], N, X) := by
  unfold b_X5_wordOf_10 at hF
  refine s_iload hG dX5_wordOf_10 rfl ?_
  refine s_ldcs hG (by have := hsk.1; omega) dX5_wordOf_12 ?_
  refine s_slen hG (by omega) dX5_wordOf_14 ml_RX5_93 (Nat.le_of_ble_eq_true rfl) ?_
  refine s_icmp_gt hG 125 dX5_wordOf_17 (by decide) (fun c3 => ?_) (fun c3 => ?_)
  · replace hF := Eq.trans (if_pos c3).symm hF
    cases hF
    refine m_weak (ls1 := [none, none, none, none, none, none, none, none]) hG trivial ?_
    exact hK1 _ rfl
  · replace hF := Eq.trans (if_neg c3).symm hF
    refine s_iload hG dX5_wordOf_20 rfl ?_
    refine s_ldcs hG (by have := hsk.1; omega) dX5_wordOf_22 ?_
    refine s_slen hG (by omega) dX5_wordOf_24 ml_RX5_93 (Nat.le_of_ble_eq_true rfl) ?_
    refine s_icmp_ge hG 40 dX5_wordOf_27 (by decide) (fun c2 => ?_) (fun c2 => ?_)
    · replace hF := Eq.trans (if_pos c2).symm hF
      refine s_ldcs hG (by have := hsk.1; omega) dX5_wordOf_30 ?_
      refine s_iload hG dX5_wordOf_32 rfl ?_
      obtain ⟨g1, hF⟩ := gd_some hF
      refine s_schr hG (by omega) dX5_wordOf_34 ml_RX5_98 (Nat.le_of_ble_eq_true rfl) g1 ?_
      refine s_goto hG 42 dX5_wordOf_37 (by decide) ?_
      exact t_X5_wordOf_l10_j42 hsk hd hG hK0 hK1 hF
    · replace hF := Eq.trans (if_neg c2).symm hF
      refine s_bipush hG dX5_wordOf_40 bp_32 ⟨by decide, by decide⟩ ?_
      exact t_X5_wordOf_l10_j42 hsk hd hG hK0 hK1 hF
theorem t_X5_wordOf_lp10 {d n0 s0 nF sF : Nat} {X : MX} {N : NN} {Ω : Nat → MS → Prop} {a1 : Int} {a2 : Int} {a3 : Int} {a4 : Int} {a5 : Int} (hsk : m_Sk X) (hd : 6 ≤ d) (hG : m_G d yX5_wordOf.cls yX5_wordOf.name cX5_wordOf 8 n0 s0 nF sF Ω) {t : (Unit ⊕ Int)} (hK1 : match t with | .inl e => Ω 125 ([none, none, none, none, none, none, none, none], [], N, X) | .inr e => Ω 111 ([none, none, none, some (.inl e), none, none, none, none], [], N, X)) (hl : lp (fun s => b_X5_wordOf_10 X N s.1 s.2.1 s.2.2.1 s.2.2.2.1 s.2.2.2.2) (a1, a2, a3, a4, a5) = some t) : Ω 10 ([some (.inr (.inr 16)), some (.inl a1), some (.inl a2), some (.inl a3), some (.inl a4), some (.inl a5), none, none], [], N, X) := by
  refine lp_ok (P := fun s => Ω 10 ([some (.inr (.inr 16)), some (.inl s.1), some (.inl s.2.1), some (.inl s.2.2.1), some (.inl s.2.2.2.1), some (.inl s.2.2.2.2), none, none], [], N, X)) (K := fun t => match t with | .inl e => Ω 125 ([none, none, none, none, none, none, none, none], [], N, X) | .inr e => Ω 111 ([none, none, none, some (.inl e), none, none, none, none], [], N, X)) (fun s out hF hK0 hK1 => ?_) hl hK1
  exact t_X5_wordOf_b10 hsk hd hG (out := out) (fun s' e => hK0 s' e) (fun t' e => hK1 t' e) hF
theorem t_X5_wordOf {d : Nat} {X : MX} {N : NN} {a1 : Int} {a2 : Int} {out : Int} (hsk : m_Sk X) (hd : 6 ≤ d) (hF : f_X5_wordOf X N a1 a2 = some out) : m_Call d yX5_wordOf cX5_wordOf 8 (some .int) [(.inr (.inr 16)), (.inl a1), (.inl a2)] N X (some (.inl out)) N X := by
  refine m_mk (ls0 := [some (.inr (.inr 16)), some (.inl a1), some (.inl a2), none, none, none, none, none]) (by decide) rfl (Nat.le_of_ble_eq_true rfl) (Nat.le_refl _) (Nat.le_refl _) (fun Ω hE => ?_)
  have hG := hE.G
  unfold f_X5_wordOf at hF
  refine s_sipush hG dX5_wordOf_0 sp_256 ⟨by decide, by decide⟩ ?_
  refine s_istore_n hG dX5_wordOf_3 (by decide) rfl ?_
  refine s_iconst hG dX5_wordOf_4 ⟨by decide, by decide⟩ ?_
  refine s_istore hG dX5_wordOf_5 (by decide) rfl ?_
  refine s_iconst hG dX5_wordOf_7 ⟨by decide, by decide⟩ ?_
  refine s_istore hG dX5_wordOf_8 (by decide) rfl ?_
  obtain ⟨o11, hlo11, hF⟩ := bd_some hF
  refine t_X5_wordOf_lp10 hsk hd hG ?_ hlo11
  match o11, hF with
  | .inl e11, hF =>
        try dsimp only at hF
        refine s_bipush hG dX5_wordOf_125 bp_m3 ⟨by decide, by decide⟩ ?_
        cases hF
        exact s_iret hE dX5_wordOf_127 rfl
  | .inr e11, hF =>
        try dsimp only at hF
        refine s_iload_n hG dX5_wordOf_111 rfl ?_
        cases hF
        exact s_iret hE dX5_wordOf_112 rfl
-- X5_scan
theorem t_X5_scan_b82 {d n0 s0 nF sF : Nat} {X : MX} {Ω : Nat → MS → Prop} {N : NN} {a1 : Int} {a2 : Int} {a3 : Int} {a4 : Int} (hsk : m_Sk X) (hd : 7 ≤ d) (hG : m_G d yX5_scan.cls yX5_scan.name cX5_scan 5 n0 s0 nF sF Ω) {out : ((NN × Int × Int × Int × Int) ⊕ (NN × Int × Int × Int × Int))} (hK0 : ∀ s' : (NN × Int × Int × Int × Int), out = .inl s' → Ω 82 ([some (.inr (.inr 16)), some (.inl (s'.2.1)), some (.inl (s'.2.2.1)), some (.inl (s'.2.2.2.1)), some (.inl (s'.2.2.2.2))], [], s'.1, X)) (hK1 : ∀ t : (NN × Int × Int × Int × Int), out = .inr t → Ω 110 ([some (.inr (.inr 16)), some (.inl t.2.1), some (.inl t.2.2.1), some (.inl t.2.2.2.1), some (.inl t.2.2.2.2)], [], t.1, X)) (hF : b_X5_scan_82 X N a1 a2 a3 a4 = some out) : Ω 82 ([some (.inr (.inr 16)), some (.inl a1), some (.inl a2), some (.inl a3), some (.inl a4)], [], N, X) := by
  unfold b_X5_scan_82 at hF
  refine s_iload hG dX5_scan_82 rfl ?_
  refine s_aload_n hG dX5_scan_84 rfl ?_
  refine s_geti hG dX5_scan_85 fl_RX5_33 (sk_k hsk 16 rfl) rfl ?_
  refine s_icmp_ge hG 110 dX5_scan_88 (by decide) (fun c9 => ?_) (fun c9 => ?_)
  · replace hF := Eq.trans (if_pos c9).symm hF
    refine s_aload_n hG dX5_scan_91 rfl ?_
    refine s_getr (r := 17) hG dX5_scan_92 fl_RX5_11 (sk_k hsk 16 rfl) rfl (sk_R hsk 16 0 rfl) ?_
    refine s_iload hG dX5_scan_95 rfl ?_
    obtain ⟨g6, hF⟩ := gd_some hF
    refine s_ialdj (j := a4.toNat) hG dX5_scan_97 (sk_K hsk 17 rfl) g6 rfl ?_
    obtain ⟨o7, ho7, hF⟩ := bd_some hF
    refine s_callS (d' := d - 1) (args := [.inl (N 17 a4.toNat)]) hG (by omega) dX5_scan_98 cs_RX5_80 cw_X5_isDigit rfl (Nat.le_of_ble_eq_true rfl) rfl (t_X5_isDigit hsk (by omega) ho7) ?_
    refine s_if_eq hG 110 dX5_scan_101 (by decide) (fun c8 => ?_) (fun c8 => ?_)
    · replace hF := Eq.trans (if_pos c8).symm hF
      cases hF
      exact hK1 _ rfl
    · replace hF := Eq.trans (if_neg c8).symm hF
      refine s_iinc hG dX5_scan_104 (by decide) rfl rfl ?_
      refine s_goto hG 82 dX5_scan_107 (by decide) ?_
      cases hF
      exact hK0 _ rfl
  · replace hF := Eq.trans (if_neg c9).symm hF
    cases hF
    exact hK1 _ rfl
theorem t_X5_scan_lp82 {d n0 s0 nF sF : Nat} {X : MX} {Ω : Nat → MS → Prop} {N : NN} {a1 : Int} {a2 : Int} {a3 : Int} {a4 : Int} (hsk : m_Sk X) (hd : 7 ≤ d) (hG : m_G d yX5_scan.cls yX5_scan.name cX5_scan 5 n0 s0 nF sF Ω) {t : (NN × Int × Int × Int × Int)} (hK1 : Ω 110 ([some (.inr (.inr 16)), some (.inl t.2.1), some (.inl t.2.2.1), some (.inl t.2.2.2.1), some (.inl t.2.2.2.2)], [], t.1, X)) (hl : lp (fun s => b_X5_scan_82 X s.1 s.2.1 s.2.2.1 s.2.2.2.1 s.2.2.2.2) (N, a1, a2, a3, a4) = some t) : Ω 82 ([some (.inr (.inr 16)), some (.inl a1), some (.inl a2), some (.inl a3), some (.inl a4)], [], N, X) := by
  refine lp_ok (P := fun s => Ω 82 ([some (.inr (.inr 16)), some (.inl s.2.1), some (.inl s.2.2.1), some (.inl s.2.2.2.1), some (.inl s.2.2.2.2)], [], s.1, X)) (K := fun t => Ω 110 ([some (.inr (.inr 16)), some (.inl t.2.1), some (.inl t.2.2.1), some (.inl t.2.2.2.1), some (.inl t.2.2.2.2)], [], t.1, X)) (fun s out hF hK0 hK1 => ?_) hl hK1
  exact t_X5_scan_b82 hsk hd hG (out := out) (fun s' e => hK0 s' e) (fun t' e => hK1 t' e) hF
theorem t_X5_scan_b31 {d n0 s0 nF sF : Nat} {X : MX} {Ω : Nat → MS → Prop} {N : NN} {a1 : Int} {a2 : Int} {a3 : Int} {a4 : Int} (hsk : m_Sk X) (hd : 7 ≤ d) (hG : m_G d yX5_scan.cls yX5_scan.name cX5_scan 5 n0 s0 nF sF Ω) {out : ((NN × Int × Int × Int × Int) ⊕ (NN × Int × Int × Int × Int))} (hK0 : ∀ s' : (NN × Int × Int × Int × Int), out = .inl s' → Ω 31 ([some (.inr (.inr 16)), some (.inl (s'.2.1)), some (.inl (s'.2.2.1)), some (.inl (s'.2.2.2.1)), some (.inl (s'.2.2.2.2))], [], s'.1, X)) (hK1 : ∀ t : (NN × Int × Int × Int × Int), out = .inr t → Ω 59 ([some (.inr (.inr 16)), some (.inl t.2.1), some (.inl t.2.2.1), some (.inl t.2.2.2.1), some (.inl t.2.2.2.2)], [], t.1, X)) (hF : b_X5_scan_31 X N a1 a2 a3 a4 = some out) : Ω 31 ([some (.inr (.inr 16)), some (.inl a1), some (.inl a2), some (.inl a3), some (.inl a4)], [], N, X) := by
  unfold b_X5_scan_31 at hF
  refine s_iload hG dX5_scan_31 rfl ?_
  refine s_aload_n hG dX5_scan_33 rfl ?_
  refine s_geti hG dX5_scan_34 fl_RX5_33 (sk_k hsk 16 rfl) rfl ?_
  refine s_icmp_ge hG 59 dX5_scan_37 (by decide) (fun c20 => ?_) (fun c20 => ?_)
  · replace hF := Eq.trans (if_pos c20).symm hF
    refine s_aload_n hG dX5_scan_40 rfl ?_
    refine s_getr (r := 17) hG dX5_scan_41 fl_RX5_11 (sk_k hsk 16 rfl) rfl (sk_R hsk 16 0 rfl) ?_
    refine s_iload hG dX5_scan_44 rfl ?_
    obtain ⟨g17, hF⟩ := gd_some hF
    refine s_ialdj (j := a4.toNat) hG dX5_scan_46 (sk_K hsk 17 rfl) g17 rfl ?_
    obtain ⟨o18, ho18, hF⟩ := bd_some hF
    refine s_callS (d' := d - 1) (args := [.inl (N 17 a4.toNat)]) hG (by omega) dX5_scan_47 cs_RX5_72 cw_X5_isLetter rfl (Nat.le_of_ble_eq_true rfl) rfl (t_X5_isLetter hsk (by omega) ho18) ?_
    refine s_if_eq hG 59 dX5_scan_50 (by decide) (fun c19 => ?_) (fun c19 => ?_)
    · replace hF := Eq.trans (if_pos c19).symm hF
      cases hF
      exact hK1 _ rfl
    · replace hF := Eq.trans (if_neg c19).symm hF
      refine s_iinc hG dX5_scan_53 (by decide) rfl rfl ?_
      refine s_goto hG 31 dX5_scan_56 (by decide) ?_
      cases hF
      exact hK0 _ rfl
  · replace hF := Eq.trans (if_neg c20).symm hF
    cases hF
    exact hK1 _ rfl
theorem t_X5_scan_lp31 {d n0 s0 nF sF : Nat} {X : MX} {Ω : Nat → MS → Prop} {N : NN} {a1 : Int} {a2 : Int} {a3 : Int} {a4 : Int} (hsk : m_Sk X) (hd : 7 ≤ d) (hG : m_G d yX5_scan.cls yX5_scan.name cX5_scan 5 n0 s0 nF sF Ω) {t : (NN × Int × Int × Int × Int)} (hK1 : Ω 59 ([some (.inr (.inr 16)), some (.inl t.2.1), some (.inl t.2.2.1), some (.inl t.2.2.2.1), some (.inl t.2.2.2.2)], [], t.1, X)) (hl : lp (fun s => b_X5_scan_31 X s.1 s.2.1 s.2.2.1 s.2.2.2.1 s.2.2.2.2) (N, a1, a2, a3, a4) = some t) : Ω 31 ([some (.inr (.inr 16)), some (.inl a1), some (.inl a2), some (.inl a3), some (.inl a4)], [], N, X) := by
  refine lp_ok (P := fun s => Ω 31 ([some (.inr (.inr 16)), some (.inl s.2.1), some (.inl s.2.2.1), some (.inl s.2.2.2.1), some (.inl s.2.2.2.2)], [], s.1, X)) (K := fun t => Ω 59 ([some (.inr (.inr 16)), some (.inl t.2.1), some (.inl t.2.2.1), some (.inl t.2.2.2.1), some (.inl t.2.2.2.2)], [], t.1, X)) (fun s out hF hK0 hK1 => ?_) hl hK1
  exact t_X5_scan_b31 hsk hd hG (out := out) (fun s' e => hK0 s' e) (fun t' e => hK1 t' e) hF
theorem t_X5_scan_l4_j157 {d n0 s0 nF sF : Nat} {X : MX} {Ω : Nat → MS → Prop} {N : NN} {a1 : Int} {a4 : Int} (hsk : m_Sk X) (hd : 7 ≤ d) (hG : m_G d yX5_scan.cls yX5_scan.name cX5_scan 5 n0 s0 nF sF Ω) {out : ((NN × Int × Int) ⊕ (NN × Int))} (hK0 : ∀ s' : (NN × Int × Int), out = .inl s' → Ω 4 ([some (.inr (.inr 16)), some (.inl (s'.2.1)), some (.inl (s'.2.2)), none, none], [], s'.1, X)) (hK1 : ∀ t : (NN × Int), out = .inr t → Ω 163 ([some (.inr (.inr 16)), some (.inl t.2), none, none, none], [], t.1, X)) (hF : f_X5_scan_l4_j157 X N a1 a4 = some out) : Ω 157 ([some (.inr (.inr 16)), some (.inl a1), none, none, some (.inl a4)], [], N, X) := by
  unfold f_X5_scan_l4_j157 at hF
  refine s_iload hG dX5_scan_157 rfl ?_
  refine s_istore_n hG dX5_scan_159 (by decide) rfl ?_
  refine s_goto hG 4 dX5_scan_160 (by decide) ?_
  cases hF
  refine m_weak (ls1 := [some (.inr (.inr 16)), some (.inl a1), some (.inl a4), none, none]) hG ⟨rfl, ⟨rfl, ⟨rfl, trivial⟩⟩⟩ ?_
  exact hK0 _ rfl
theorem t_X5_scan_l4_j141 {d n0 s0 nF sF : Nat} {X : MX} {Ω : Nat → MS → Prop} {N : NN} {a1 : Int} {a2 : Int} {a3 : Int} {a4 : Int} (hsk : m_Sk X) (hd : 7 ≤ d) (hG : m_G d yX5_scan.cls yX5_scan.name cX5_scan 5 n0 s0 nF sF Ω) {out : ((NN × Int × Int) ⊕ (NN × Int))} (hK0 : ∀ s' : (NN × Int × Int), out = .inl s' → Ω 4 ([some (.inr (.inr 16)), some (.inl (s'.2.1)), some (.inl (s'.2.2)), none, none], [], s'.1, X)) (hK1 : ∀ t : (NN × Int), out = .inr t → Ω 163 ([some (.inr (.inr 16)), some (.inl t.2), none, none, none], [], t.1, X)) (hF : f_X5_scan_l4_j141 X N a1 a2 a3 a4 = some out) : Ω 141 ([some (.inr (.inr 16)), some (.inl a1), some (.inl a2), some (.inl a3), some (.inl a4)], [], N, X) := by
  unfold f_X5_scan_l4_j141 at hF
  refine s_aload_n hG dX5_scan_141 rfl ?_
  refine s_getr (r := 20) hG dX5_scan_142 fl_RX5_21 (sk_k hsk 16 rfl) rfl (sk_R hsk 16 3 rfl) ?_
  refine s_iload_n hG dX5_scan_145 rfl ?_
  refine s_iload_n hG dX5_scan_146 rfl ?_
  obtain ⟨g27, hF⟩ := gd_some hF
  refine s_iastj (j := a1.toNat) hG dX5_scan_147 (sk_K hsk 20 rfl) g27 rfl ?_
  refine s_iload_n hG dX5_scan_148 rfl ?_
  refine s_bipush hG dX5_scan_149 bp_32 ⟨by decide, by decide⟩ ?_
  refine s_icmp_eq hG 157 dX5_scan_151 (by decide) (fun c29 => ?_) (fun c29 => ?_)
  · replace hF := Eq.trans (if_pos c29).symm hF
    refine m_weak (ls1 := [some (.inr (.inr 16)), some (.inl a1), none, none, some (.inl a4)]) hG ⟨rfl, ⟨rfl, ⟨rfl, trivial⟩⟩⟩ ?_
    exact t_X5_scan_l4_j157 hsk hd hG hK0 hK1 hF
  · replace hF := Eq.trans (if_neg c29).symm hF
    refine s_iinc hG dX5_scan_154 (by decide) rfl rfl ?_
    refine m_weak (ls1 := [some (.inr (.inr 16)), some (.inl (m_w (a1 + 1))), none, none, some (.inl a4)]) hG ⟨rfl, ⟨rfl, ⟨rfl, trivial⟩⟩⟩ ?_
    exact t_X5_scan_l4_j157 hsk hd hG hK0 hK1 hF
theorem t_X5_scan_b4 {d n0 s0 nF sF : Nat} {X : MX} {Ω : Nat → MS → Prop} {N : NN} {a1 : Int} {a2 : Int} (hsk : m_Sk X) (hd : 7 ≤ d) (hG : m_G d yX5_scan.cls yX5_scan.name cX5_scan 5 n0 s0 nF sF Ω) {out : ((NN × Int × Int) ⊕ (NN × Int))} (hK0 : ∀ s' : (NN × Int × Int), out = .inl s' → Ω 4 ([some (.inr (.inr 16)), some (.inl (s'.2.1)), some (.inl (s'.2.2)), none, none], [], s'.1, X)) (hK1 : ∀ t : (NN × Int), out = .inr t → Ω 163 ([some (.inr (.inr 16)), some (.inl t.2), none, none, none], [], t.1, X)) (hF : b_X5_scan_4 X N a1 a2 = some out) : Ω 4 ([some (.inr (.inr 16)), some (.inl a1), some (.inl a2), none, none], [], N, X) := by
  unfold b_X5_scan_4 at hF
  refine s_iload_n hG dX5_scan_4 rfl ?_
  refine s_aload_n hG dX5_scan_5 rfl ?_
  refine s_geti hG dX5_scan_6 fl_RX5_33 (sk_k hsk 16 rfl) rfl ?_
  refine s_icmp_ge hG 163 dX5_scan_9 (by decide) (fun c26 => ?_) (fun c26 => ?_)
  · replace hF := Eq.trans (if_pos c26).symm hF
    refine s_aload_n hG dX5_scan_12 rfl ?_
    refine s_getr (r := 17) hG dX5_scan_13 fl_RX5_11 (sk_k hsk 16 rfl) rfl (sk_R hsk 16 0 rfl) ?_
    refine s_iload_n hG dX5_scan_16 rfl ?_
    obtain ⟨g1, hF⟩ := gd_some hF
    refine s_ialdj (j := a2.toNat) hG dX5_scan_17 (sk_K hsk 17 rfl) g1 rfl ?_
    refine s_istore_n hG dX5_scan_18 (by decide) rfl ?_
    refine s_iload_n hG dX5_scan_19 rfl ?_
    refine s_iconst hG dX5_scan_20 ⟨by decide, by decide⟩ ?_
    refine s_iadd hG dX5_scan_21 ?_
    refine s_istore hG dX5_scan_22 (by decide) rfl ?_
    refine s_iload_n hG dX5_scan_24 rfl ?_
    obtain ⟨o2, ho2, hF⟩ := bd_some hF
    refine s_callS (d' := d - 1) (args := [.inl (N 17 a2.toNat)]) hG (by omega) dX5_scan_25 cs_RX5_72 cw_X5_isLetter rfl (Nat.le_of_ble_eq_true rfl) rfl (t_X5_isLetter hsk (by omega) ho2) ?_
    refine s_if_eq hG 75 dX5_scan_28 (by decide) (fun c25 => ?_) (fun c25 => ?_)
    · replace hF := Eq.trans (if_pos c25).symm hF
      refine s_iload_n hG dX5_scan_75 rfl ?_
      obtain ⟨o3, ho3, hF⟩ := bd_some hF
      refine s_callS (d' := d - 1) (args := [.inl (N 17 a2.toNat)]) hG (by omega) dX5_scan_76 cs_RX5_80 cw_X5_isDigit rfl (Nat.le_of_ble_eq_true rfl) rfl (t_X5_isDigit hsk (by omega) ho3) ?_
      refine s_if_eq hG 134 dX5_scan_79 (by decide) (fun c16 => ?_) (fun c16 => ?_)
      · replace hF := Eq.trans (if_pos c16).symm hF
        refine s_aload_n hG dX5_scan_134 rfl ?_
        refine s_getr (r := 18) hG dX5_scan_135 fl_RX5_15 (sk_k hsk 16 rfl) rfl (sk_R hsk 16 1 rfl) ?_
        refine s_iload_n hG dX5_scan_138 rfl ?_
        refine s_iload_n hG dX5_scan_139 rfl ?_
        obtain ⟨g4, hF⟩ := gd_some hF
        refine s_iastj (j := a1.toNat) hG dX5_scan_140 (sk_K hsk 18 rfl) g4 rfl ?_
        exact t_X5_scan_l4_j141 hsk hd hG hK0 hK1 hF
      · replace hF := Eq.trans (if_neg c16).symm hF
        obtain ⟨o10, hlo10, hF⟩ := bd_some hF
        refine t_X5_scan_lp82 hsk hd hG ?_ hlo10
        refine s_aload_n hG dX5_scan_110 rfl ?_
        refine s_getr (r := 18) hG dX5_scan_111 fl_RX5_15 (sk_k hsk 16 rfl) rfl (sk_R hsk 16 1 rfl) ?_
        refine s_iload_n hG dX5_scan_114 rfl ?_
        refine s_bipush hG dX5_scan_115 bp_m2 ⟨by decide, by decide⟩ ?_
        obtain ⟨g11, hF⟩ := gd_some hF
        refine s_iastj (j := o10.2.1.toNat) hG dX5_scan_117 (sk_K hsk 18 rfl) g11 rfl ?_
        refine s_aload_n hG dX5_scan_118 rfl ?_
        refine s_getr (r := 19) hG dX5_scan_119 fl_RX5_18 (sk_k hsk 16 rfl) rfl (sk_R hsk 16 2 rfl) ?_
        refine s_iload_n hG dX5_scan_122 rfl ?_
        refine s_aload_n hG dX5_scan_123 rfl ?_
        refine s_iload_n hG dX5_scan_124 rfl ?_
        refine s_iload hG dX5_scan_125 rfl ?_
        obtain ⟨o13, ho13, hF⟩ := bd_some hF
        refine s_callV (d' := d - 1) (ci := 5) (args := [.inl o10.2.2.1, .inl o10.2.2.2.2]) hG (by omega) dX5_scan_127 cv_RX5_83 cw_X5_numberOf rfl rfl (sk_k hsk 16 rfl) (Nat.le_of_ble_eq_true rfl) rfl (t_X5_numberOf hsk (by omega) ho13) ?_
        obtain ⟨g14, hF⟩ := gd_some hF
        refine s_iastj (j := o10.2.1.toNat) hG dX5_scan_130 (sk_K hsk 19 rfl) g14 rfl ?_
        refine s_goto hG 141 dX5_scan_131 (by decide) ?_
        exact t_X5_scan_l4_j141 hsk hd hG hK0 hK1 hF
    · replace hF := Eq.trans (if_neg c25).symm hF
      obtain ⟨o21, hlo21, hF⟩ := bd_some hF
      refine t_X5_scan_lp31 hsk hd hG ?_ hlo21
      refine s_aload_n hG dX5_scan_59 rfl ?_
      refine s_getr (r := 18) hG dX5_scan_60 fl_RX5_15 (sk_k hsk 16 rfl) rfl (sk_R hsk 16 1 rfl) ?_
      refine s_iload_n hG dX5_scan_63 rfl ?_
      refine s_aload_n hG dX5_scan_64 rfl ?_
      refine s_iload_n hG dX5_scan_65 rfl ?_
      refine s_iload hG dX5_scan_66 rfl ?_
      obtain ⟨o22, ho22, hF⟩ := bd_some hF
      refine s_callV (d' := d - 1) (ci := 5) (args := [.inl o21.2.2.1, .inl o21.2.2.2.2]) hG (by omega) dX5_scan_68 cv_RX5_76 cw_X5_wordOf rfl rfl (sk_k hsk 16 rfl) (Nat.le_of_ble_eq_true rfl) rfl (t_X5_wordOf hsk (by omega) ho22) ?_
      obtain ⟨g23, hF⟩ := gd_some hF
      refine s_iastj (j := o21.2.1.toNat) hG dX5_scan_71 (sk_K hsk 18 rfl) g23 rfl ?_
      refine s_goto hG 141 dX5_scan_72 (by decide) ?_
      exact t_X5_scan_l4_j141 hsk hd hG hK0 hK1 hF
  · replace hF := Eq.trans (if_neg c26).symm hF
    cases hF
    refine m_weak (ls1 := [some (.inr (.inr 16)), some (.inl a1), none, none, none]) hG ⟨rfl, ⟨rfl, trivial⟩⟩ ?_
    exact hK1 _ rfl
theorem t_X5_scan_lp4 {d n0 s0 nF sF : Nat} {X : MX} {Ω : Nat → MS → Prop} {N : NN} {a1 : Int} {a2 : Int} (hsk : m_Sk X) (hd : 7 ≤ d) (hG : m_G d yX5_scan.cls yX5_scan.name cX5_scan 5 n0 s0 nF sF Ω) {t : (NN × Int)} (hK1 : Ω 163 ([some (.inr (.inr 16)), some (.inl t.2), none, none, none], [], t.1, X)) (hl : lp (fun s => b_X5_scan_4 X s.1 s.2.1 s.2.2) (N, a1, a2) = some t) : Ω 4 ([some (.inr (.inr 16)), some (.inl a1), some (.inl a2), none, none], [], N, X) := by
  refine lp_ok (P := fun s => Ω 4 ([some (.inr (.inr 16)), some (.inl s.2.1), some (.inl s.2.2), none, none], [], s.1, X)) (K := fun t => Ω 163 ([some (.inr (.inr 16)), some (.inl t.2), none, none, none], [], t.1, X)) (fun s out hF hK0 hK1 => ?_) hl hK1
  exact t_X5_scan_b4 hsk hd hG (out := out) (fun s' e => hK0 s' e) (fun t' e => hK1 t' e) hF
theorem t_X5_scan {d : Nat} {X : MX} {N : NN} {out : NN} (hsk : m_Sk X) (hd : 7 ≤ d) (hF : f_X5_scan X N = some out) : m_Call d yX5_scan cX5_scan 5 none [(.inr (.inr 16))] N X none out X := by
  refine m_mk (ls0 := [some (.inr (.inr 16)), none, none, none, none]) (by decide) rfl (Nat.le_of_ble_eq_true rfl) (Nat.le_refl _) (Nat.le_refl _) (fun Ω hE => ?_)
  have hG := hE.G
  unfold f_X5_scan at hF
  refine s_iconst hG dX5_scan_0 ⟨by decide, by decide⟩ ?_
  refine s_istore_n hG dX5_scan_1 (by decide) rfl ?_
  refine s_iconst hG dX5_scan_2 ⟨by decide, by decide⟩ ?_
  refine s_istore_n hG dX5_scan_3 (by decide) rfl ?_
  obtain ⟨o30, hlo30, hF⟩ := bd_some hF
  refine t_X5_scan_lp4 hsk hd hG ?_ hlo30
  refine s_aload_n hG dX5_scan_163 rfl ?_
  refine s_getr (r := 18) hG dX5_scan_164 fl_RX5_15 (sk_k hsk 16 rfl) rfl (sk_R hsk 16 1 rfl) ?_
  refine s_iload_n hG dX5_scan_167 rfl ?_
  refine s_iconst hG dX5_scan_168 ⟨by decide, by decide⟩ ?_
  obtain ⟨g31, hF⟩ := gd_some hF
  refine s_iastj (j := o30.2.toNat) hG dX5_scan_169 (sk_K hsk 18 rfl) g31 rfl ?_
  refine s_aload_n hG dX5_scan_170 rfl ?_
  refine s_getr (r := 20) hG dX5_scan_171 fl_RX5_21 (sk_k hsk 16 rfl) rfl (sk_R hsk 16 3 rfl) ?_
  refine s_iload_n hG dX5_scan_174 rfl ?_
  refine s_aload_n hG dX5_scan_175 rfl ?_
  refine s_geti hG dX5_scan_176 fl_RX5_33 (sk_k hsk 16 rfl) rfl ?_
  obtain ⟨g33, hF⟩ := gd_some hF
  refine s_iastj (j := o30.2.toNat) hG dX5_scan_179 (sk_K hsk 20 rfl) g33 rfl ?_
  cases hF
  exact s_vret hE dX5_scan_180 rfl
-- X8_empty
theorem t_X8_empty {d : Nat} {X : MX} {r0 : Nat} {N : NN} {out : NN} (hsk : m_Sk X) (hd : 1 ≤ d) (h0 : m_isT X r0) (hF : f_X8_empty X r0 N = some out) : m_Call d yX8_empty cX8_empty 1 none [(.inr (.inr r0))] N X none out X := by
  refine m_mk (ls0 := [some (.inr (.inr r0))]) (by decide) rfl (Nat.le_of_ble_eq_true rfl) (Nat.le_refl _) (Nat.le_refl _) (fun Ω hE => ?_)
  have hG := hE.G
  unfold f_X8_empty at hF
  refine s_aload_n hG dX8_empty_0 rfl ?_
  refine s_iconst hG dX8_empty_1 ⟨by decide, by decide⟩ ?_
  refine s_puti hG dX8_empty_2 fl_RX8_25 (fun h => by cases h) h0.1 rfl ?_
  refine s_aload_n hG dX8_empty_5 rfl ?_
  refine s_iconst hG dX8_empty_6 ⟨by decide, by decide⟩ ?_
  refine s_puti hG dX8_empty_7 fl_RX8_29 (fun h => by cases h) h0.1 rfl ?_
  cases hF
  exact s_vret hE dX8_empty_10 rfl
-- X5_reads
theorem t_X5_reads_l62_j118 {d n0 s0 nF sF : Nat} {X : MX} {Ω : Nat → MS → Prop} {N : NN} {a2 : Int} {a3 : Int} (hsk : m_Sk X) (hd : 119 ≤ d) (hG : m_G d yX5_reads.cls yX5_reads.name cX5_reads 4 n0 s0 nF sF Ω) {out : ((NN × Int × Int) ⊕ (NN × Int))} (hK0 : ∀ s' : (NN × Int × Int), out = .inl s' → Ω 62 ([some (.inr (.inr 16)), none, some (.inl (s'.2.1)), some (.inl (s'.2.2))], [], s'.1, X)) (hK1 : ∀ t : (NN × Int), out = .inr t → Ω 124 ([some (.inr (.inr 16)), none, some (.inl t.2), none], [], t.1, X)) (hF : f_X5_reads_l62_j118 X N a2 a3 = some out) : Ω 118 ([some (.inr (.inr 16)), none, some (.inl a2), some (.inl a3)], [], N, X) := by
  unfold f_X5_reads_l62_j118 at hF
  refine s_iinc hG dX5_reads_118 (by decide) rfl rfl ?_
  refine s_goto hG 62 dX5_reads_121 (by decide) ?_
  cases hF
  exact hK0 _ rfl
theorem t_X5_reads_l62_j117 {d n0 s0 nF sF : Nat} {X : MX} {Ω : Nat → MS → Prop} {N : NN} {a3 : Int} {z0 : Int} (hsk : m_Sk X) (hd : 119 ≤ d) (hG : m_G d yX5_reads.cls yX5_reads.name cX5_reads 4 n0 s0 nF sF Ω) {out : ((NN × Int × Int) ⊕ (NN × Int))} (hK0 : ∀ s' : (NN × Int × Int), out = .inl s' → Ω 62 ([some (.inr (.inr 16)), none, some (.inl (s'.2.1)), some (.inl (s'.2.2))], [], s'.1, X)) (hK1 : ∀ t : (NN × Int), out = .inr t → Ω 124 ([some (.inr (.inr 16)), none, some (.inl t.2), none], [], t.1, X)) (hF : f_X5_reads_l62_j117 X N a3 z0 = some out) : Ω 117 ([some (.inr (.inr 16)), none, none, some (.inl a3)], [(.inl z0)], N, X) := by
  unfold f_X5_reads_l62_j117 at hF
  refine s_istore_n hG dX5_reads_117 (by decide) rfl ?_
  exact t_X5_reads_l62_j118 hsk hd hG hK0 hK1 hF
theorem t_X5_reads_b62 {d n0 s0 nF sF : Nat} {X : MX} {Ω : Nat → MS → Prop} {N : NN} {a2 : Int} {a3 : Int} (hsk : m_Sk X) (hd : 119 ≤ d) (hG : m_G d yX5_reads.cls yX5_reads.name cX5_reads 4 n0 s0 nF sF Ω) {out : ((NN × Int × Int) ⊕ (NN × Int))} (hK0 : ∀ s' : (NN × Int × Int), out = .inl s' → Ω 62 ([some (.inr (.inr 16)), none, some (.inl (s'.2.1)), some (.inl (s'.2.2))], [], s'.1, X)) (hK1 : ∀ t : (NN × Int), out = .inr t → Ω 124 ([some (.inr (.inr 16)), none, some (.inl t.2), none], [], t.1, X)) (hF : b_X5_reads_62 X N a2 a3 = some out) : Ω 62 ([some (.inr (.inr 16)), none, some (.inl a2), some (.inl a3)], [], N, X) := by
  unfold b_X5_reads_62 at hF
  refine s_iload_n hG dX5_reads_62 rfl ?_
  refine s_bipush hG dX5_reads_63 bp_12 ⟨by decide, by decide⟩ ?_
  refine s_icmp_gt hG 124 dX5_reads_65 (by decide) (fun c20 => ?_) (fun c20 => ?_)
  · replace hF := Eq.trans (if_pos c20).symm hF
    cases hF
    refine m_weak (ls1 := [some (.inr (.inr 16)), none, some (.inl a2), none]) hG ⟨rfl, ⟨rfl, trivial⟩⟩ ?_
    exact hK1 _ rfl
  · replace hF := Eq.trans (if_neg c20).symm hF
    refine s_iload_n hG dX5_reads_68 rfl ?_
    refine s_if_eq hG 124 dX5_reads_69 (by decide) (fun c19 => ?_) (fun c19 => ?_)
    · replace hF := Eq.trans (if_pos c19).symm hF
      cases hF
      refine m_weak (ls1 := [some (.inr (.inr 16)), none, some (.inl a2), none]) hG ⟨rfl, ⟨rfl, trivial⟩⟩ ?_
      exact hK1 _ rfl
    · replace hF := Eq.trans (if_neg c19).symm hF
      refine s_aload_n hG dX5_reads_72 rfl ?_
      refine s_geti hG dX5_reads_73 fl_RX5_50 (sk_k hsk 16 rfl) rfl ?_
      refine s_bipush hG dX5_reads_76 bp_59 ⟨by decide, by decide⟩ ?_
      refine s_icmp_ne hG 124 dX5_reads_78 (by decide) (fun c18 => ?_) (fun c18 => ?_)
      · replace hF := Eq.trans (if_pos c18).symm hF
        refine s_aload_n hG dX5_reads_81 rfl ?_
        obtain ⟨o12, ho12, hF⟩ := bd_some hF
        refine s_callV (d' := d - 1) (ci := 5) (args := []) hG (by omega) dX5_reads_82 cv_RX5_66 cw_X5_advance rfl rfl (sk_k hsk 16 rfl) (Nat.le_of_ble_eq_true rfl) rfl (t_X5_advance hsk (by omega) ho12) ?_
        refine s_iload_n hG dX5_reads_85 rfl ?_
        refine s_bipush hG dX5_reads_86 bp_12 ⟨by decide, by decide⟩ ?_
        refine s_icmp_ne hG 99 dX5_reads_88 (by decide) (fun c17 => ?_) (fun c17 => ?_)
        · replace hF := Eq.trans (if_pos c17).symm hF
          refine s_aload_n hG dX5_reads_91 rfl ?_
          obtain ⟨o13, ho13, hF⟩ := bd_some hF
          refine s_callV (d' := d - 1) (ci := 5) (args := []) hG (by omega) dX5_reads_92 cv_RX5_69 cw_X5_wrong rfl rfl (sk_k hsk 16 rfl) (Nat.le_of_ble_eq_true rfl) rfl (t_X5_wrong hsk (by omega) ho13) ?_
          refine s_istore_n hG dX5_reads_95 (by decide) rfl ?_
          refine s_goto hG 118 dX5_reads_96 (by decide) ?_
          exact t_X5_reads_l62_j118 hsk hd hG hK0 hK1 hF
        · replace hF := Eq.trans (if_neg c17).symm hF
          refine s_aload_n hG dX5_reads_99 rfl ?_
          refine s_getz hG dX5_reads_100 fl_RX5_40 (sk_k hsk 16 rfl) rfl ?_
          refine s_if_eq hG 113 dX5_reads_103 (by decide) (fun c16 => ?_) (fun c16 => ?_)
          · replace hF := Eq.trans (if_pos c16).symm hF
            refine s_aload_n hG dX5_reads_113 rfl ?_
            obtain ⟨o14, ho14, hF⟩ := bd_some hF
            refine s_callV (d' := d - 1) (ci := 5) (args := []) hG (by omega) dX5_reads_114 cv_RX5_63 cw_X5_orderClause rfl rfl (sk_k hsk 16 rfl) (Nat.le_of_ble_eq_true rfl) rfl (t_X5_orderClause hsk (by omega) ho14) ?_
            refine m_weak (ls1 := [some (.inr (.inr 16)), none, none, some (.inl a3)]) hG ⟨rfl, ⟨rfl, trivial⟩⟩ ?_
            exact t_X5_reads_l62_j117 hsk hd hG hK0 hK1 hF
          · replace hF := Eq.trans (if_neg c16).symm hF
            refine s_aload_n hG dX5_reads_106 rfl ?_
            obtain ⟨o15, ho15, hF⟩ := bd_some hF
            refine s_callV (d' := d - 1) (ci := 5) (args := []) hG (by omega) dX5_reads_107 cv_RX5_59 cw_X5_lawClause rfl rfl (sk_k hsk 16 rfl) (Nat.le_of_ble_eq_true rfl) rfl (t_X5_lawClause hsk (by omega) ho15) ?_
            refine s_goto hG 117 dX5_reads_110 (by decide) ?_
            refine m_weak (ls1 := [some (.inr (.inr 16)), none, none, some (.inl a3)]) hG ⟨rfl, ⟨rfl, trivial⟩⟩ ?_
            exact t_X5_reads_l62_j117 hsk hd hG hK0 hK1 hF
      · replace hF := Eq.trans (if_neg c18).symm hF
        cases hF
        refine m_weak (ls1 := [some (.inr (.inr 16)), none, some (.inl a2), none]) hG ⟨rfl, ⟨rfl, trivial⟩⟩ ?_
        exact hK1 _ rfl
theorem t_X5_reads_lp62 {d n0 s0 nF sF : Nat} {X : MX} {Ω : Nat → MS → Prop} {N : NN} {a2 : Int} {a3 : Int} (hsk : m_Sk X) (hd : 119 ≤ d) (hG : m_G d yX5_reads.cls yX5_reads.name cX5_reads 4 n0 s0 nF sF Ω) {t : (NN × Int)} (hK1 : Ω 124 ([some (.inr (.inr 16)), none, some (.inl t.2), none], [], t.1, X)) (hl : lp (fun s => b_X5_reads_62 X s.1 s.2.1 s.2.2) (N, a2, a3) = some t) : Ω 62 ([some (.inr (.inr 16)), none, some (.inl a2), some (.inl a3)], [], N, X) := by
  refine lp_ok (P := fun s => Ω 62 ([some (.inr (.inr 16)), none, some (.inl s.2.1), some (.inl s.2.2)], [], s.1, X)) (K := fun t => Ω 124 ([some (.inr (.inr 16)), none, some (.inl t.2), none], [], t.1, X)) (fun s out hF hK0 hK1 => ?_) hl hK1
  exact t_X5_reads_b62 hsk hd hG (out := out) (fun s' e => hK0 s' e) (fun t' e => hK1 t' e) hF
theorem t_X5_reads_j148 {d n0 s0 nF sF : Nat} {X : MX} {Ω : Nat → MS → Prop} {N : NN} {z0 : Int} (hsk : m_Sk X) (hd : 119 ≤ d) (hG : m_G d yX5_reads.cls yX5_reads.name cX5_reads 4 n0 s0 nF sF Ω) {out : (Int × NN)} (hE : m_Gd d yX5_reads cX5_reads 4 (some .boolean) X (some (.inl out.1)) out.2 X Ω) (hF : f_X5_reads_j148 X N z0 = some out) : Ω 148 ([none, none, none, none], [(.inl z0)], N, X) := by
  unfold f_X5_reads_j148 at hF
  obtain ⟨g26, hF⟩ := gd_some hF
  cases hF
  exact s_zret hE dX5_reads_148 rfl g26
theorem t_X5_reads_j147 {d n0 s0 nF sF : Nat} {X : MX} {Ω : Nat → MS → Prop} {N : NN} (hsk : m_Sk X) (hd : 119 ≤ d) (hG : m_G d yX5_reads.cls yX5_reads.name cX5_reads 4 n0 s0 nF sF Ω) {out : (Int × NN)} (hE : m_Gd d yX5_reads cX5_reads 4 (some .boolean) X (some (.inl out.1)) out.2 X Ω) (hF : f_X5_reads_j147 X N = some out) : Ω 147 ([none, none, none, none], [], N, X) := by
  unfold f_X5_reads_j147 at hF
  refine s_iconst hG dX5_reads_147 ⟨by decide, by decide⟩ ?_
  exact t_X5_reads_j148 hsk hd hG hE hF
theorem t_X5_reads_j143 {d n0 s0 nF sF : Nat} {X : MX} {Ω : Nat → MS → Prop} {N : NN} (hsk : m_Sk X) (hd : 119 ≤ d) (hG : m_G d yX5_reads.cls yX5_reads.name cX5_reads 4 n0 s0 nF sF Ω) {out : (Int × NN)} (hE : m_Gd d yX5_reads cX5_reads 4 (some .boolean) X (some (.inl out.1)) out.2 X Ω) (hF : f_X5_reads_j143 X N = some out) : Ω 143 ([none, none, none, none], [], N, X) := by
  unfold f_X5_reads_j143 at hF
  refine s_iconst hG dX5_reads_143 ⟨by decide, by decide⟩ ?_
  refine s_goto hG 148 dX5_reads_144 (by decide) ?_
  exact t_X5_reads_j148 hsk hd hG hE hF
theorem t_X5_reads_j59 {d n0 s0 nF sF : Nat} {X : MX} {Ω : Nat → MS → Prop} {N : NN} {z0 : Int} (hsk : m_Sk X) (hd : 119 ≤ d) (hG : m_G d yX5_reads.cls yX5_reads.name cX5_reads 4 n0 s0 nF sF Ω) {out : (Int × NN)} (hE : m_Gd d yX5_reads cX5_reads 4 (some .boolean) X (some (.inl out.1)) out.2 X Ω) (hF : f_X5_reads_j59 X N z0 = some out) : Ω 59 ([some (.inr (.inr 16)), none, none, none], [(.inl z0)], N, X) := by
  unfold f_X5_reads_j59 at hF
  refine s_istore_n hG dX5_reads_59 (by decide) rfl ?_
  refine s_iconst hG dX5_reads_60 ⟨by decide, by decide⟩ ?_
  refine s_istore_n hG dX5_reads_61 (by decide) rfl ?_
  obtain ⟨o21, hlo21, hF⟩ := bd_some hF
  refine t_X5_reads_lp62 hsk hd hG ?_ hlo21
  refine s_iload_n hG dX5_reads_124 rfl ?_
  refine s_if_eq hG 147 dX5_reads_125 (by decide) (fun c25 => ?_) (fun c25 => ?_)
  · replace hF := Eq.trans (if_pos c25).symm hF
    refine m_weak (ls1 := [none, none, none, none]) hG trivial ?_
    exact t_X5_reads_j147 hsk hd hG hE hF
  · replace hF := Eq.trans (if_neg c25).symm hF
    refine s_aload_n hG dX5_reads_128 rfl ?_
    refine s_geti hG dX5_reads_129 fl_RX5_50 (sk_k hsk 16 rfl) rfl ?_
    refine s_iconst hG dX5_reads_132 ⟨by decide, by decide⟩ ?_
    refine s_icmp_eq hG 143 dX5_reads_133 (by decide) (fun c24 => ?_) (fun c24 => ?_)
    · replace hF := Eq.trans (if_pos c24).symm hF
      refine m_weak (ls1 := [none, none, none, none]) hG trivial ?_
      exact t_X5_reads_j143 hsk hd hG hE hF
    · replace hF := Eq.trans (if_neg c24).symm hF
      refine s_aload_n hG dX5_reads_136 rfl ?_
      obtain ⟨o22, ho22, hF⟩ := bd_some hF
      refine s_callV (d' := d - 1) (ci := 5) (args := []) hG (by omega) dX5_reads_137 cv_RX5_69 cw_X5_wrong rfl rfl (sk_k hsk 16 rfl) (Nat.le_of_ble_eq_true rfl) rfl (t_X5_wrong hsk (by omega) ho22) ?_
      refine s_if_eq hG 147 dX5_reads_140 (by decide) (fun c23 => ?_) (fun c23 => ?_)
      · replace hF := Eq.trans (if_pos c23).symm hF
        refine m_weak (ls1 := [none, none, none, none]) hG trivial ?_
        exact t_X5_reads_j147 hsk hd hG hE hF
      · replace hF := Eq.trans (if_neg c23).symm hF
        refine m_weak (ls1 := [none, none, none, none]) hG trivial ?_
        exact t_X5_reads_j143 hsk hd hG hE hF
theorem t_X5_reads {d : Nat} {X : MX} {N : NN} {a1 : Int} {out : (Int × NN)} (hsk : m_Sk X) (hd : 119 ≤ d) (hF : f_X5_reads X N a1 = some out) : m_Call d yX5_reads cX5_reads 4 (some .boolean) [(.inr (.inr 16)), (.inl a1)] N X (some (.inl out.1)) out.2 X := by
  refine m_mk (ls0 := [some (.inr (.inr 16)), some (.inl a1), none, none]) (by decide) rfl (Nat.le_of_ble_eq_true rfl) (Nat.le_refl _) (Nat.le_refl _) (fun Ω hE => ?_)
  have hG := hE.G
  unfold f_X5_reads at hF
  refine s_aload_n hG dX5_reads_0 rfl ?_
  refine s_iload_n hG dX5_reads_1 rfl ?_
  obtain ⟨g1, hF⟩ := gd_some hF
  refine s_putz hG dX5_reads_2 fl_RX5_40 (fun h => by cases h) (sk_k hsk 16 rfl) rfl g1 ?_
  refine s_aload_n hG dX5_reads_5 rfl ?_
  refine s_iconst hG dX5_reads_6 ⟨by decide, by decide⟩ ?_
  refine s_puti hG dX5_reads_7 fl_RX5_44 (fun h => by cases h) (sk_k hsk 16 rfl) rfl ?_
  refine s_aload_n hG dX5_reads_10 rfl ?_
  refine s_iconst hG dX5_reads_11 ⟨by decide, by decide⟩ ?_
  refine s_puti hG dX5_reads_12 fl_RX5_37 (fun h => by cases h) (sk_k hsk 16 rfl) rfl ?_
  refine s_aload_n hG dX5_reads_15 rfl ?_
  refine s_getr (r := 21) hG dX5_reads_16 fl_RX5_29 (sk_k hsk 16 rfl) rfl (sk_R hsk 16 4 rfl) ?_
  obtain ⟨o5, ho5, hF⟩ := bd_some hF
  refine s_callV (d' := d - 1) (ci := 8) (args := []) hG (by omega) dX5_reads_19 cv_RX5_53 cw_X8_empty rfl rfl (sk_k hsk 21 rfl) (Nat.le_of_ble_eq_true rfl) rfl (t_X8_empty hsk (by omega) (sk_T21 hsk) ho5) ?_
  refine s_aload_n hG dX5_reads_22 rfl ?_
  obtain ⟨o6, ho6, hF⟩ := bd_some hF
  refine s_callV (d' := d - 1) (ci := 5) (args := []) hG (by omega) dX5_reads_23 cv_RX5_56 cw_X5_scan rfl rfl (sk_k hsk 16 rfl) (Nat.le_of_ble_eq_true rfl) rfl (t_X5_scan hsk (by omega) ho6) ?_
  refine s_aload_n hG dX5_reads_26 rfl ?_
  refine s_iconst hG dX5_reads_27 ⟨by decide, by decide⟩ ?_
  refine s_puti hG dX5_reads_28 fl_RX5_47 (fun h => by cases h) (sk_k hsk 16 rfl) rfl ?_
  refine s_aload_n hG dX5_reads_31 rfl ?_
  refine s_aload_n hG dX5_reads_32 rfl ?_
  refine s_getr (r := 18) hG dX5_reads_33 fl_RX5_15 (sk_k hsk 16 rfl) rfl (sk_R hsk 16 1 rfl) ?_
  refine s_iconst hG dX5_reads_36 ⟨by decide, by decide⟩ ?_
  refine s_ialdj (j := 0) hG dX5_reads_37 (sk_K hsk 18 rfl) ⟨by decide, by decide⟩ rfl ?_
  refine s_puti hG dX5_reads_38 fl_RX5_50 (fun h => by cases h) (sk_k hsk 16 rfl) rfl ?_
  refine s_aload_n hG dX5_reads_41 rfl ?_
  refine s_getz hG dX5_reads_42 fl_RX5_40 (sk_k hsk 16 rfl) rfl ?_
  refine s_if_eq hG 55 dX5_reads_45 (by decide) (fun c11 => ?_) (fun c11 => ?_)
  · replace hF := Eq.trans (if_pos c11).symm hF
    refine s_aload_n hG dX5_reads_55 rfl ?_
    obtain ⟨o9, ho9, hF⟩ := bd_some hF
    refine s_callV (d' := d - 1) (ci := 5) (args := []) hG (by omega) dX5_reads_56 cv_RX5_63 cw_X5_orderClause rfl rfl (sk_k hsk 16 rfl) (Nat.le_of_ble_eq_true rfl) rfl (t_X5_orderClause hsk (by omega) ho9) ?_
    refine m_weak (ls1 := [some (.inr (.inr 16)), none, none, none]) hG ⟨rfl, trivial⟩ ?_
    exact t_X5_reads_j59 hsk hd hG hE hF
  · replace hF := Eq.trans (if_neg c11).symm hF
    refine s_aload_n hG dX5_reads_48 rfl ?_
    obtain ⟨o10, ho10, hF⟩ := bd_some hF
    refine s_callV (d' := d - 1) (ci := 5) (args := []) hG (by omega) dX5_reads_49 cv_RX5_59 cw_X5_lawClause rfl rfl (sk_k hsk 16 rfl) (Nat.le_of_ble_eq_true rfl) rfl (t_X5_lawClause hsk (by omega) ho10) ?_
    refine s_goto hG 59 dX5_reads_52 (by decide) ?_
    refine m_weak (ls1 := [some (.inr (.inr 16)), none, none, none]) hG ⟨rfl, trivial⟩ ?_
    exact t_X5_reads_j59 hsk hd hG hE hF
-- X5_text
theorem t_X5_text {d : Nat} {X : MX} {N : NN} {out : Nat} (hsk : m_Sk X) (hd : 1 ≤ d) (hF : f_X5_text X N = some out) : m_Call d yX5_text cX5_text 1 (some (.object "GiftDuel$Text")) [(.inr (.inr 16))] N X (some (.inr (.inr out))) N X := by
  refine m_mk (ls0 := [some (.inr (.inr 16))]) (by decide) rfl (Nat.le_of_ble_eq_true rfl) (Nat.le_refl _) (Nat.le_refl _) (fun Ω hE => ?_)
  have hG := hE.G
  unfold f_X5_text at hF
  refine s_aload_n hG dX5_text_0 rfl ?_
  refine s_getr (r := 21) hG dX5_text_1 fl_RX5_29 (sk_k hsk 16 rfl) rfl (sk_R hsk 16 4 rfl) ?_
  cases hF
  exact s_aret hE dX5_text_4 rfl
-- X11_orders
theorem t_X11_orders_j76 {d n0 s0 nF sF : Nat} {X : MX} {Ω : Nat → MS → Prop} {N : NN} {z0 : Int} (hsk : m_Sk X) (hd : 120 ≤ d) (hG : m_G d yX11_orders.cls yX11_orders.name cX11_orders 3 n0 s0 nF sF Ω) {out : (Int × NN)} (hE : m_Gd d yX11_orders cX11_orders 3 (some .int) X (some (.inl out.1)) out.2 X Ω) (hF : f_X11_orders_j76 X N z0 = some out) : Ω 76 ([none, none, none], [(.inl z0)], N, X) := by
  unfold f_X11_orders_j76 at hF
  cases hF
  exact s_iret hE dX11_orders_76 rfl
theorem t_X11_orders {d : Nat} {X : MX} {N : NN} {out : (Int × NN)} (hsk : m_Sk X) (hd : 120 ≤ d) (hF : f_X11_orders X N = some out) : m_Call d yX11_orders cX11_orders 3 (some .int) [(.inr (.inr 3))] N X (some (.inl out.1)) out.2 X := by
  refine m_mk (ls0 := [some (.inr (.inr 3)), none, none]) (by decide) rfl (Nat.le_of_ble_eq_true rfl) (Nat.le_refl _) (Nat.le_refl _) (fun Ω hE => ?_)
  have hG := hE.G
  unfold f_X11_orders at hF
  refine s_aload_n hG dX11_orders_0 rfl ?_
  refine s_getr (r := 16) hG dX11_orders_1 fl_RX11_32 (sk_k hsk 3 rfl) rfl (sk_R hsk 3 4 rfl) ?_
  refine s_iconst hG dX11_orders_4 ⟨by decide, by decide⟩ ?_
  obtain ⟨o1, ho1, hF⟩ := bd_some hF
  refine s_callV (d' := d - 1) (ci := 5) (args := [.inl 0]) hG (by omega) dX11_orders_5 cv_RX11_180 cw_X5_reads rfl rfl (sk_k hsk 16 rfl) (Nat.le_of_ble_eq_true rfl) rfl (t_X5_reads hsk (by omega) ho1) ?_
  refine s_istore_n hG dX11_orders_8 (by decide) rfl ?_
  refine s_aload_n hG dX11_orders_9 rfl ?_
  refine s_getr (r := 16) hG dX11_orders_10 fl_RX11_32 (sk_k hsk 3 rfl) rfl (sk_R hsk 3 4 rfl) ?_
  refine s_iconst hG dX11_orders_13 ⟨by decide, by decide⟩ ?_
  obtain ⟨o2, ho2, hF⟩ := bd_some hF
  refine s_callV (d' := d - 1) (ci := 5) (args := [.inl 0]) hG (by omega) dX11_orders_14 cv_RX11_171 cw_X5_cut rfl rfl (sk_k hsk 16 rfl) (Nat.le_of_ble_eq_true rfl) rfl (t_X5_cut hsk (by omega) ho2) ?_
  refine s_iload_n hG dX11_orders_17 rfl ?_
  refine s_if_ne hG 35 dX11_orders_18 (by decide) (fun c10 => ?_) (fun c10 => ?_)
  · replace hF := Eq.trans (if_pos c10).symm hF
    refine s_aload_n hG dX11_orders_21 rfl ?_
    refine s_getr (r := 33) hG dX11_orders_22 fl_RX11_57 (sk_k hsk 3 rfl) rfl (sk_R hsk 3 7 rfl) ?_
    obtain ⟨o3, ho3, hF⟩ := bd_some hF
    refine s_callV (d' := d - 1) (ci := 3) (args := []) hG (by omega) dX11_orders_25 cv_RX11_197 cw_X3_forget rfl rfl (sk_k hsk 33 rfl) (Nat.le_of_ble_eq_true rfl) rfl (t_X3_forget hsk (by omega) ho3) ?_
    refine s_aload_n hG dX11_orders_28 rfl ?_
    refine s_bipush hG dX11_orders_29 bp_m6 ⟨by decide, by decide⟩ ?_
    obtain ⟨o4, ho4, hF⟩ := bd_some hF
    refine s_callV (d' := d - 1) (ci := 11) (args := [.inl (-6)]) hG (by omega) dX11_orders_31 cv_RX11_104 cw_X11_refuse rfl rfl (sk_k hsk 3 rfl) (Nat.le_of_ble_eq_true rfl) rfl (t_X11_refuse hsk (by omega) ho4) ?_
    cases hF
    exact s_iret hE dX11_orders_34 rfl
  · replace hF := Eq.trans (if_neg c10).symm hF
    refine s_aload_n hG dX11_orders_35 rfl ?_
    refine s_getr (r := 33) hG dX11_orders_36 fl_RX11_57 (sk_k hsk 3 rfl) rfl (sk_R hsk 3 7 rfl) ?_
    refine s_aload_n hG dX11_orders_39 rfl ?_
    refine s_getr (r := 16) hG dX11_orders_40 fl_RX11_32 (sk_k hsk 3 rfl) rfl (sk_R hsk 3 4 rfl) ?_
    obtain ⟨o5, ho5, hF⟩ := bd_some hF
    obtain rfl : 21 = o5 := Option.some.inj ho5
    refine s_callV (d' := d - 1) (ci := 5) (args := []) hG (by omega) dX11_orders_43 cv_RX11_184 cw_X5_text rfl rfl (sk_k hsk 16 rfl) (Nat.le_of_ble_eq_true rfl) rfl (t_X5_text hsk (by omega) ho5) ?_
    refine s_aload_n hG dX11_orders_46 rfl ?_
    refine s_getr (r := 4) hG dX11_orders_47 fl_RX11_10 (sk_k hsk 3 rfl) rfl (sk_R hsk 3 0 rfl) ?_
    refine s_aload_n hG dX11_orders_50 rfl ?_
    refine s_getr (r := 13) hG dX11_orders_51 fl_RX11_25 (sk_k hsk 3 rfl) rfl (sk_R hsk 3 3 rfl) ?_
    obtain ⟨o6, ho6, hF⟩ := bd_some hF
    refine s_callV (d' := d - 1) (ci := 3) (args := [.inr (.inr 21), .inr (.inr 4), .inr (.inr 13)]) hG (by omega) dX11_orders_54 cv_RX11_200 cw_X3_run rfl rfl (sk_k hsk 33 rfl) (Nat.le_of_ble_eq_true rfl) rfl (t_X3_run hsk (by omega) (sk_W4 hsk) (sk_P13 hsk) ho6) ?_
    refine s_istore_n hG dX11_orders_57 (by decide) rfl ?_
    refine s_iload_n hG dX11_orders_58 rfl ?_
    refine s_if_ge hG 71 dX11_orders_59 (by decide) (fun c9 => ?_) (fun c9 => ?_)
    · replace hF := Eq.trans (if_pos c9).symm hF
      refine s_aload_n hG dX11_orders_62 rfl ?_
      refine s_bipush hG dX11_orders_63 bp_m3 ⟨by decide, by decide⟩ ?_
      obtain ⟨o7, ho7, hF⟩ := bd_some hF
      refine s_callV (d' := d - 1) (ci := 11) (args := [.inl (-3)]) hG (by omega) dX11_orders_65 cv_RX11_104 cw_X11_refuse rfl rfl (sk_k hsk 3 rfl) (Nat.le_of_ble_eq_true rfl) rfl (t_X11_refuse hsk (by omega) ho7) ?_
      refine s_goto hG 76 dX11_orders_68 (by decide) ?_
      refine m_weak (ls1 := [none, none, none]) hG trivial ?_
      exact t_X11_orders_j76 hsk hd hG hE hF
    · replace hF := Eq.trans (if_neg c9).symm hF
      refine s_aload_n hG dX11_orders_71 rfl ?_
      refine s_iload_n hG dX11_orders_72 rfl ?_
      obtain ⟨o8, ho8, hF⟩ := bd_some hF
      refine s_callV (d' := d - 1) (ci := 11) (args := [.inl o6.1]) hG (by omega) dX11_orders_73 cv_RX11_118 cw_X11_accept rfl rfl (sk_k hsk 3 rfl) (Nat.le_of_ble_eq_true rfl) rfl (t_X11_accept hsk (by omega) ho8) ?_
      refine m_weak (ls1 := [none, none, none]) hG trivial ?_
      exact t_X11_orders_j76 hsk hd hG hE hF
-- X11_owed
theorem t_X11_owed {d : Nat} {X : MX} {N : NN} {a1 : Int} {a2 : Int} {out : Int} (hsk : m_Sk X) (hd : 3 ≤ d) (hF : f_X11_owed X N a1 a2 = some out) : m_Call d yX11_owed cX11_owed 3 (some .int) [(.inr (.inr 3)), (.inl a1), (.inl a2)] N X (some (.inl out)) N X := by
  refine m_mk (ls0 := [some (.inr (.inr 3)), some (.inl a1), some (.inl a2)]) (by decide) rfl (Nat.le_of_ble_eq_true rfl) (Nat.le_refl _) (Nat.le_refl _) (fun Ω hE => ?_)
  have hG := hE.G
  unfold f_X11_owed at hF
  refine s_aload_n hG dX11_owed_0 rfl ?_
  refine s_getr (r := 4) hG dX11_owed_1 fl_RX11_10 (sk_k hsk 3 rfl) rfl (sk_R hsk 3 0 rfl) ?_
  refine s_iload_n hG dX11_owed_4 rfl ?_
  obtain ⟨o1, ho1, hF⟩ := bd_some hF
  refine s_callV (d' := d - 1) (ci := 10) (args := [.inl a1]) hG (by omega) dX11_owed_5 cv_RX11_121 cw_X10_isLord rfl rfl (sk_k hsk 4 rfl) (Nat.le_of_ble_eq_true rfl) rfl (t_X10_isLord hsk (by omega) (sk_W4 hsk) ho1) ?_
  refine s_if_ne hG 13 dX11_owed_8 (by decide) (fun c6 => ?_) (fun c6 => ?_)
  · replace hF := Eq.trans (if_pos c6).symm hF
    refine s_iconst hG dX11_owed_11 ⟨by decide, by decide⟩ ?_
    cases hF
    exact s_iret hE dX11_owed_12 rfl
  · replace hF := Eq.trans (if_neg c6).symm hF
    refine s_iload_n hG dX11_owed_13 rfl ?_
    by_cases c3 : a2 = 0
    · replace hF := Eq.trans (if_pos c3).symm hF
      refine s_lookup hG (off := 26) 40 dX11_owed_14 (by decide) (by rw [c3]; rfl) (by decide) ?_
      refine s_aload_n hG dX11_owed_40 rfl ?_
      refine s_getr (r := 4) hG dX11_owed_41 fl_RX11_10 (sk_k hsk 3 rfl) rfl (sk_R hsk 3 0 rfl) ?_
      refine s_iload_n hG dX11_owed_44 rfl ?_
      obtain ⟨o2, ho2, hF⟩ := bd_some hF
      refine s_callV (d' := d - 1) (ci := 10) (args := [.inl a1]) hG (by omega) dX11_owed_45 cv_RX11_248 cw_X10_standingAgainst rfl rfl (sk_k hsk 4 rfl) (Nat.le_of_ble_eq_true rfl) rfl (t_X10_standingAgainst hsk (by omega) (sk_W4 hsk) ho2) ?_
      cases hF
      exact s_iret hE dX11_owed_48 rfl
    · replace hF := Eq.trans (if_neg c3).symm hF
      by_cases c5 : a2 = 1
      · replace hF := Eq.trans (if_pos c5).symm hF
        refine s_lookup hG (off := 35) 49 dX11_owed_14 (by decide) (by rw [c5]; rfl) (by decide) ?_
        refine s_aload_n hG dX11_owed_49 rfl ?_
        refine s_getr (r := 4) hG dX11_owed_50 fl_RX11_10 (sk_k hsk 3 rfl) rfl (sk_R hsk 3 0 rfl) ?_
        refine s_iload_n hG dX11_owed_53 rfl ?_
        obtain ⟨o4, ho4, hF⟩ := bd_some hF
        refine s_callV (d' := d - 1) (ci := 10) (args := [.inl a1]) hG (by omega) dX11_owed_54 cv_RX11_251 cw_X10_greatestCreditor rfl rfl (sk_k hsk 4 rfl) (Nat.le_of_ble_eq_true rfl) rfl (t_X10_greatestCreditor hsk (by omega) (sk_W4 hsk) ho4) ?_
        cases hF
        exact s_iret hE dX11_owed_57 rfl
      · replace hF := Eq.trans (if_neg c5).symm hF
        refine s_lookup hG (off := 44) 58 dX11_owed_14 (by decide) (by simp [Op.lookupswitch.offset, Ne.symm c3, Ne.symm c5]) (by decide) ?_
        refine s_iconst hG dX11_owed_58 ⟨by decide, by decide⟩ ?_
        cases hF
        exact s_iret hE dX11_owed_59 rfl
-- X11_put
theorem t_X11_put_j29 {d n0 s0 nF sF : Nat} {X : MX} {Ω : Nat → MS → Prop} {N : NN} (hsk : m_Sk X) (hd : 2 ≤ d) (hG : m_G d yX11_put.cls yX11_put.name cX11_put 5 n0 s0 nF sF Ω) {out : (Int × NN)} (hE : m_Gd d yX11_put cX11_put 5 (some .int) X (some (.inl out.1)) out.2 X Ω) (hF : f_X11_put_j29 X N = some out) : Ω 29 ([some (.inr (.inr 3)), none, none, none, none], [], N, X) := by
  unfold f_X11_put_j29 at hF
  refine s_aload_n hG dX11_put_29 rfl ?_
  refine s_iconst hG dX11_put_30 ⟨by decide, by decide⟩ ?_
  obtain ⟨o4, ho4, hF⟩ := bd_some hF
  refine s_callV (d' := d - 1) (ci := 11) (args := [.inl (-1)]) hG (by omega) dX11_put_31 cv_RX11_104 cw_X11_refuse rfl rfl (sk_k hsk 3 rfl) (Nat.le_of_ble_eq_true rfl) rfl (t_X11_refuse hsk (by omega) ho4) ?_
  cases hF
  exact s_iret hE dX11_put_34 rfl
theorem t_X11_put_j23 {d n0 s0 nF sF : Nat} {X : MX} {Ω : Nat → MS → Prop} {N : NN} {a1 : Int} {a2 : Int} {a3 : Int} {z0 : Int} {z1 : Int} {z2 : Int} (hsk : m_Sk X) (hd : 2 ≤ d) (hG : m_G d yX11_put.cls yX11_put.name cX11_put 5 n0 s0 nF sF Ω) {out : (Int × NN)} (hE : m_Gd d yX11_put cX11_put 5 (some .int) X (some (.inl out.1)) out.2 X Ω) (hF : f_X11_put_j23 X N a1 a2 a3 z0 z1 z2 = some out) : Ω 23 ([some (.inr (.inr 3)), some (.inl a1), some (.inl a2), some (.inl a3), none], [(.inl z2), (.inl z1), (.inl z0)], N, X) := by
  unfold f_X11_put_j23 at hF
  obtain ⟨o5, ho5, hF⟩ := bd_some hF
  refine s_callS (d' := d - 1) (args := [.inl z0, .inl z1, .inl z2]) hG (by omega) dX11_put_23 cs_RX11_100 cw_X11_within rfl (Nat.le_of_ble_eq_true rfl) rfl (t_X11_within hsk (by omega) ho5) ?_
  refine s_if_ne hG 35 dX11_put_26 (by decide) (fun c13 => ?_) (fun c13 => ?_)
  · replace hF := Eq.trans (if_pos c13).symm hF
    refine m_weak (ls1 := [some (.inr (.inr 3)), none, none, none, none]) hG ⟨rfl, trivial⟩ ?_
    exact t_X11_put_j29 hsk hd hG hE hF
  · replace hF := Eq.trans (if_neg c13).symm hF
    refine s_aload_n hG dX11_put_35 rfl ?_
    refine s_getr (r := 4) hG dX11_put_36 fl_RX11_10 (sk_k hsk 3 rfl) rfl (sk_R hsk 3 0 rfl) ?_
    refine s_iload_n hG dX11_put_39 rfl ?_
    obtain ⟨o6, ho6, hF⟩ := bd_some hF
    refine s_callV (d' := d - 1) (ci := 10) (args := [.inl a1]) hG (by omega) dX11_put_40 cv_RX11_121 cw_X10_isLord rfl rfl (sk_k hsk 4 rfl) (Nat.le_of_ble_eq_true rfl) rfl (t_X10_isLord hsk (by omega) (sk_W4 hsk) ho6) ?_
    refine s_if_ne hG 53 dX11_put_43 (by decide) (fun c12 => ?_) (fun c12 => ?_)
    · replace hF := Eq.trans (if_pos c12).symm hF
      refine s_aload_n hG dX11_put_46 rfl ?_
      refine s_bipush hG dX11_put_47 bp_m2 ⟨by decide, by decide⟩ ?_
      obtain ⟨o7, ho7, hF⟩ := bd_some hF
      refine s_callV (d' := d - 1) (ci := 11) (args := [.inl (-2)]) hG (by omega) dX11_put_49 cv_RX11_104 cw_X11_refuse rfl rfl (sk_k hsk 3 rfl) (Nat.le_of_ble_eq_true rfl) rfl (t_X11_refuse hsk (by omega) ho7) ?_
      cases hF
      exact s_iret hE dX11_put_52 rfl
    · replace hF := Eq.trans (if_neg c12).symm hF
      refine s_aload_n hG dX11_put_53 rfl ?_
      refine s_getr (r := 4) hG dX11_put_54 fl_RX11_10 (sk_k hsk 3 rfl) rfl (sk_R hsk 3 0 rfl) ?_
      refine s_iload_n hG dX11_put_57 rfl ?_
      refine s_iload_n hG dX11_put_58 rfl ?_
      obtain ⟨o8, ho8, hF⟩ := bd_some hF
      refine s_callV (d' := d - 1) (ci := 10) (args := [.inl a1, .inl a2]) hG (by omega) dX11_put_59 cv_RX11_135 cw_X10_lordAt rfl rfl (sk_k hsk 4 rfl) (Nat.le_of_ble_eq_true rfl) rfl (t_X10_lordAt hsk (by omega) (sk_W4 hsk) ho8) ?_
      refine s_istore hG dX11_put_62 (by decide) rfl ?_
      refine s_aload_n hG dX11_put_64 rfl ?_
      refine s_getr (r := 4) hG dX11_put_65 fl_RX11_10 (sk_k hsk 3 rfl) rfl (sk_R hsk 3 0 rfl) ?_
      refine s_iload_n hG dX11_put_68 rfl ?_
      refine s_iload_n hG dX11_put_69 rfl ?_
      refine s_iload_n hG dX11_put_70 rfl ?_
      obtain ⟨o9, ho9, hF⟩ := bd_some hF
      refine s_callV (d' := d - 1) (ci := 10) (args := [.inl a1, .inl a2, .inl a3]) hG (by omega) dX11_put_71 cv_RX11_138 cw_X10_setLord rfl rfl (sk_k hsk 4 rfl) (Nat.le_of_ble_eq_true rfl) rfl (t_X10_setLord hsk (by omega) (sk_W4 hsk) ho9) ?_
      refine s_aload_n hG dX11_put_74 rfl ?_
      refine s_getr (r := 13) hG dX11_put_75 fl_RX11_25 (sk_k hsk 3 rfl) rfl (sk_R hsk 3 3 rfl) ?_
      obtain ⟨o10, ho10, hF⟩ := bd_some hF
      refine s_callV (d' := d - 1) (ci := 4) (args := []) hG (by omega) dX11_put_78 cv_RX11_111 cw_X4_clear rfl rfl (sk_k hsk 13 rfl) (Nat.le_of_ble_eq_true rfl) rfl (t_X4_clear hsk (by omega) (sk_P13 hsk) ho10) ?_
      refine s_aload_n hG dX11_put_81 rfl ?_
      refine s_iload hG dX11_put_82 rfl ?_
      obtain ⟨o11, ho11, hF⟩ := bd_some hF
      refine s_callV (d' := d - 1) (ci := 11) (args := [.inl o8]) hG (by omega) dX11_put_84 cv_RX11_118 cw_X11_accept rfl rfl (sk_k hsk 3 rfl) (Nat.le_of_ble_eq_true rfl) rfl (t_X11_accept hsk (by omega) ho11) ?_
      cases hF
      exact s_iret hE dX11_put_87 rfl
theorem t_X11_put {d : Nat} {X : MX} {N : NN} {a1 : Int} {a2 : Int} {a3 : Int} {out : (Int × NN)} (hsk : m_Sk X) (hd : 2 ≤ d) (hF : f_X11_put X N a1 a2 a3 = some out) : m_Call d yX11_put cX11_put 5 (some .int) [(.inr (.inr 3)), (.inl a1), (.inl a2), (.inl a3)] N X (some (.inl out.1)) out.2 X := by
  refine m_mk (ls0 := [some (.inr (.inr 3)), some (.inl a1), some (.inl a2), some (.inl a3), none]) (by decide) rfl (Nat.le_of_ble_eq_true rfl) (Nat.le_refl _) (Nat.le_refl _) (fun Ω hE => ?_)
  have hG := hE.G
  unfold f_X11_put at hF
  refine s_iload_n hG dX11_put_0 rfl ?_
  refine s_iconst hG dX11_put_1 ⟨by decide, by decide⟩ ?_
  refine s_iconst hG dX11_put_2 ⟨by decide, by decide⟩ ?_
  obtain ⟨o1, ho1, hF⟩ := bd_some hF
  refine s_callS (d' := d - 1) (args := [.inl a2, .inl 0, .inl 1]) hG (by omega) dX11_put_3 cs_RX11_100 cw_X11_within rfl (Nat.le_of_ble_eq_true rfl) rfl (t_X11_within hsk (by omega) ho1) ?_
  refine s_if_eq hG 29 dX11_put_6 (by decide) (fun c3 => ?_) (fun c3 => ?_)
  · replace hF := Eq.trans (if_pos c3).symm hF
    refine m_weak (ls1 := [some (.inr (.inr 3)), none, none, none, none]) hG ⟨rfl, trivial⟩ ?_
    exact t_X11_put_j29 hsk hd hG hE hF
  · replace hF := Eq.trans (if_neg c3).symm hF
    refine s_iload_n hG dX11_put_9 rfl ?_
    refine s_iconst hG dX11_put_10 ⟨by decide, by decide⟩ ?_
    refine s_iload_n hG dX11_put_11 rfl ?_
    refine s_if_ne hG 21 dX11_put_12 (by decide) (fun c2 => ?_) (fun c2 => ?_)
    · replace hF := Eq.trans (if_pos c2).symm hF
      refine s_sipush hG dX11_put_15 sp_9999 ⟨by decide, by decide⟩ ?_
      refine s_goto hG 23 dX11_put_18 (by decide) ?_
      exact t_X11_put_j23 hsk hd hG hE hF
    · replace hF := Eq.trans (if_neg c2).symm hF
      refine s_bipush hG dX11_put_21 bp_99 ⟨by decide, by decide⟩ ?_
      exact t_X11_put_j23 hsk hd hG hE hF
-- X9_closes
theorem t_X9_closes_l37_j109 {drec d n0 s0 nF sF : Nat} {fr : NN → Nat → Int → Int → Int → Option (Int × NN)} {X : MX} {r1 : Nat} {Ω : Nat → MS → Prop} {N : NN} {a2 : Int} {a3 : Int} {a4 : Int} {a5 : Int} {a6 : Int} (hsk : m_Sk X) (hd : drec + 2 ≤ d) (hrec : ∀ (dr : Nat) (N : NN) (x1 : Nat) (x2 : Int) (x3 : Int) (x4 : Int) (out : (Int × NN)), drec ≤ dr → m_isW X x1 → fr N x1 x2 x3 x4 = some out → m_Call dr yX9_closes cX9_closes 7 (some .boolean) [.inr (.inr 53), .inr (.inr x1), .inl x2, .inl x3, .inl x4] N X (some (.inl out.1)) out.2 X) (h1 : m_isW X r1) (hG : m_G d yX9_closes.cls yX9_closes.name cX9_closes 7 n0 s0 nF sF Ω) {out : ((NN × Int × Int × Int × Int × Int) ⊕ (NN ⊕ NN))} (hK0 : ∀ s' : (NN × Int × Int × Int × Int × Int), out = .inl s' → Ω 37 ([some (.inr (.inr 53)), some (.inr (.inr r1)), some (.inl (s'.2.1)), some (.inl (s'.2.2.1)), some (.inl (s'.2.2.2.1)), some (.inl (s'.2.2.2.2.1)), some (.inl (s'.2.2.2.2.2))], [], s'.1, X)) (hK1 : ∀ t : (NN ⊕ NN), out = .inr t → match t with | .inl e => Ω 115 ([none, none, none, none, none, none, none], [], e, X) | .inr e => Ω 107 ([none, none, none, none, none, none, none], [], e, X)) (hF : f_X9_closes_l37_j109 fr X r1 N a2 a3 a4 a5 a6 = some out) : Ω 109 ([some (.inr (.inr 53)), some (.inr (.inr r1)), some (.inl a2), some (.inl a3), some (.inl a4), some (.inl a5), some (.inl a6)], [], N, X) := by
  unfold f_X9_closes_l37_j109 at hF
  refine s_iinc hG dX9_closes_109 (by decide) rfl rfl ?_
  refine s_goto hG 37 dX9_closes_112 (by decide) ?_
  cases hF
  exact hK0 _ rfl
theorem t_X9_closes_b37 {drec d n0 s0 nF sF : Nat} {fr : NN → Nat → Int → Int → Int → Option (Int × NN)} {X : MX} {r1 : Nat} {Ω : Nat → MS → Prop} {N : NN} {a2 : Int} {a3 : Int} {a4 : Int} {a5 : Int} {a6 : Int} (hsk : m_Sk X) (hd : drec + 2 ≤ d) (hrec : ∀ (dr : Nat) (N : NN) (x1 : Nat) (x2 : Int) (x3 : Int) (x4 : Int) (out : (Int × NN)), drec ≤ dr → m_isW X x1 → fr N x1 x2 x3 x4 = some out → m_Call dr yX9_closes cX9_closes 7 (some .boolean) [.inr (.inr 53), .inr (.inr x1), .inl x2, .inl x3, .inl x4] N X (some (.inl out.1)) out.2 X) (h1 : m_isW X r1) (hG : m_G d yX9_closes.cls yX9_closes.name cX9_closes 7 n0 s0 nF sF Ω) {out : ((NN × Int × Int × Int × Int × Int) ⊕ (NN ⊕ NN))} (hK0 : ∀ s' : (NN × Int × Int × Int × Int × Int), out = .inl s' → Ω 37 ([some (.inr (.inr 53)), some (.inr (.inr r1)), some (.inl (s'.2.1)), some (.inl (s'.2.2.1)), some (.inl (s'.2.2.2.1)), some (.inl (s'.2.2.2.2.1)), some (.inl (s'.2.2.2.2.2))], [], s'.1, X)) (hK1 : ∀ t : (NN ⊕ NN), out = .inr t → match t with | .inl e => Ω 115 ([none, none, none, none, none, none, none], [], e, X) | .inr e => Ω 107 ([none, none, none, none, none, none, none], [], e, X)) (hF : b_X9_closes_37 fr X r1 N a2 a3 a4 a5 a6 = some out) : Ω 37 ([some (.inr (.inr 53)), some (.inr (.inr r1)), some (.inl a2), some (.inl a3), some (.inl a4), some (.inl a5), some (.inl a6)], [], N, X) := by
  unfold b_X9_closes_37 at hF
  refine s_iload hG dX9_closes_37 rfl ?_
  refine s_aload_n hG dX9_closes_39 rfl ?_
  refine s_geti hG dX9_closes_40 fl_RX9_24 (sk_k hsk 53 rfl) rfl ?_
  refine s_icmp_ge hG 115 dX9_closes_43 (by decide) (fun c12 => ?_) (fun c12 => ?_)
  · replace hF := Eq.trans (if_pos c12).symm hF
    refine s_iload_n hG dX9_closes_46 rfl ?_
    refine s_iconst hG dX9_closes_47 ⟨by decide, by decide⟩ ?_
    refine s_iadd hG dX9_closes_48 ?_
    refine s_iload hG dX9_closes_49 rfl ?_
    refine s_icmp_ge hG 115 dX9_closes_51 (by decide) (fun c11 => ?_) (fun c11 => ?_)
    · replace hF := Eq.trans (if_pos c11).symm hF
      refine s_iload_n hG dX9_closes_54 rfl ?_
      refine s_iload hG dX9_closes_55 rfl ?_
      refine s_ishr hG dX9_closes_57 ?_
      refine s_iconst hG dX9_closes_58 ⟨by decide, by decide⟩ ?_
      refine s_iand hG dX9_closes_59 ?_
      refine s_iconst hG dX9_closes_60 ⟨by decide, by decide⟩ ?_
      refine s_icmp_ne hG 109 dX9_closes_61 (by decide) (fun c10 => ?_) (fun c10 => ?_)
      · replace hF := Eq.trans (if_pos c10).symm hF
        refine s_aload_n hG dX9_closes_64 rfl ?_
        refine s_iload hG dX9_closes_65 rfl ?_
        refine s_iload hG dX9_closes_67 rfl ?_
        obtain ⟨o4, ho4, hF⟩ := bd_some hF
        refine s_callV (d' := d - 1) (ci := 10) (args := [.inl a5, .inl a6]) hG (by omega) dX9_closes_69 cv_RX9_88 cw_X10_worthOwed rfl rfl h1.1 (Nat.le_of_ble_eq_true rfl) rfl (t_X10_worthOwed hsk (by omega) h1 ho4) ?_
        refine s_iconst hG dX9_closes_72 ⟨by decide, by decide⟩ ?_
        refine s_icmp_eq hG 109 dX9_closes_73 (by decide) (fun c9 => ?_) (fun c9 => ?_)
        · replace hF := Eq.trans (if_pos c9).symm hF
          exact t_X9_closes_l37_j109 hsk hd hrec h1 hG hK0 hK1 hF
        · replace hF := Eq.trans (if_neg c9).symm hF
          refine s_aload_n hG dX9_closes_76 rfl ?_
          refine s_getr (r := 56) hG dX9_closes_77 fl_RX9_18 (sk_k hsk 53 rfl) rfl (sk_R hsk 53 2 rfl) ?_
          refine s_iload_n hG dX9_closes_80 rfl ?_
          refine s_iconst hG dX9_closes_81 ⟨by decide, by decide⟩ ?_
          refine s_iadd hG dX9_closes_82 ?_
          refine s_iload hG dX9_closes_83 rfl ?_
          obtain ⟨g5, hF⟩ := gd_some hF
          refine s_iastj (j := (m_w (a2 + 1)).toNat) hG dX9_closes_85 (sk_K hsk 56 rfl) g5 rfl ?_
          refine s_aload_n hG dX9_closes_86 rfl ?_
          refine s_aload_n hG dX9_closes_87 rfl ?_
          refine s_iload_n hG dX9_closes_88 rfl ?_
          refine s_iconst hG dX9_closes_89 ⟨by decide, by decide⟩ ?_
          refine s_iadd hG dX9_closes_90 ?_
          refine s_iload_n hG dX9_closes_91 rfl ?_
          refine s_iconst hG dX9_closes_92 ⟨by decide, by decide⟩ ?_
          refine s_iload hG dX9_closes_93 rfl ?_
          refine s_ishl hG dX9_closes_95 ?_
          refine s_iconst hG dX9_closes_96 ⟨by decide, by decide⟩ ?_
          refine s_ixor hG dX9_closes_97 ?_
          refine s_iand hG dX9_closes_98 ?_
          refine s_iload hG dX9_closes_99 rfl ?_
          obtain ⟨o7, ho7, hF⟩ := bd_some hF
          refine s_callV (d' := d - 1) (ci := 9) (args := [.inr (.inr r1), .inl (m_w (a2 + 1)), .inl (m_and a3 (m_xor (m_shl 1 a6) (-1))), .inl a4]) hG (by omega) dX9_closes_101 cv_RX9_84 cw_X9_closes rfl rfl (sk_k hsk 53 rfl) (Nat.le_of_ble_eq_true rfl) rfl (hrec (d - 1) _ _ _ _ _ _ (by omega) h1 ho7) ?_
          refine s_if_eq hG 109 dX9_closes_104 (by decide) (fun c8 => ?_) (fun c8 => ?_)
          · replace hF := Eq.trans (if_pos c8).symm hF
            exact t_X9_closes_l37_j109 hsk hd hrec h1 hG hK0 hK1 hF
          · replace hF := Eq.trans (if_neg c8).symm hF
            cases hF
            refine m_weak (ls1 := [none, none, none, none, none, none, none]) hG trivial ?_
            exact hK1 _ rfl
      · replace hF := Eq.trans (if_neg c10).symm hF
        exact t_X9_closes_l37_j109 hsk hd hrec h1 hG hK0 hK1 hF
    · replace hF := Eq.trans (if_neg c11).symm hF
      cases hF
      refine m_weak (ls1 := [none, none, none, none, none, none, none]) hG trivial ?_
      exact hK1 _ rfl
  · replace hF := Eq.trans (if_neg c12).symm hF
    cases hF
    refine m_weak (ls1 := [none, none, none, none, none, none, none]) hG trivial ?_
    exact hK1 _ rfl
theorem t_X9_closes_lp37 {drec d n0 s0 nF sF : Nat} {fr : NN → Nat → Int → Int → Int → Option (Int × NN)} {X : MX} {r1 : Nat} {Ω : Nat → MS → Prop} {N : NN} {a2 : Int} {a3 : Int} {a4 : Int} {a5 : Int} {a6 : Int} (hsk : m_Sk X) (hd : drec + 2 ≤ d) (hrec : ∀ (dr : Nat) (N : NN) (x1 : Nat) (x2 : Int) (x3 : Int) (x4 : Int) (out : (Int × NN)), drec ≤ dr → m_isW X x1 → fr N x1 x2 x3 x4 = some out → m_Call dr yX9_closes cX9_closes 7 (some .boolean) [.inr (.inr 53), .inr (.inr x1), .inl x2, .inl x3, .inl x4] N X (some (.inl out.1)) out.2 X) (h1 : m_isW X r1) (hG : m_G d yX9_closes.cls yX9_closes.name cX9_closes 7 n0 s0 nF sF Ω) {t : (NN ⊕ NN)} (hK1 : match t with | .inl e => Ω 115 ([none, none, none, none, none, none, none], [], e, X) | .inr e => Ω 107 ([none, none, none, none, none, none, none], [], e, X)) (hl : lp (fun s => b_X9_closes_37 fr X r1 s.1 s.2.1 s.2.2.1 s.2.2.2.1 s.2.2.2.2.1 s.2.2.2.2.2) (N, a2, a3, a4, a5, a6) = some t) : Ω 37 ([some (.inr (.inr 53)), some (.inr (.inr r1)), some (.inl a2), some (.inl a3), some (.inl a4), some (.inl a5), some (.inl a6)], [], N, X) := by
  refine lp_ok (P := fun s => Ω 37 ([some (.inr (.inr 53)), some (.inr (.inr r1)), some (.inl s.2.1), some (.inl s.2.2.1), some (.inl s.2.2.2.1), some (.inl s.2.2.2.2.1), some (.inl s.2.2.2.2.2)], [], s.1, X)) (K := fun t => match t with | .inl e => Ω 115 ([none, none, none, none, none, none, none], [], e, X) | .inr e => Ω 107 ([none, none, none, none, none, none, none], [], e, X)) (fun s out hF hK0 hK1 => ?_) hl hK1
  exact t_X9_closes_b37 hsk hd hrec h1 hG (out := out) (fun s' e => hK0 s' e) (fun t' e => hK1 t' e) hF
theorem t_X9_closes_j33 {drec d n0 s0 nF sF : Nat} {fr : NN → Nat → Int → Int → Int → Option (Int × NN)} {X : MX} {r1 : Nat} {Ω : Nat → MS → Prop} {N : NN} {z0 : Int} (hsk : m_Sk X) (hd : drec + 2 ≤ d) (hrec : ∀ (dr : Nat) (N : NN) (x1 : Nat) (x2 : Int) (x3 : Int) (x4 : Int) (out : (Int × NN)), drec ≤ dr → m_isW X x1 → fr N x1 x2 x3 x4 = some out → m_Call dr yX9_closes cX9_closes 7 (some .boolean) [.inr (.inr 53), .inr (.inr x1), .inl x2, .inl x3, .inl x4] N X (some (.inl out.1)) out.2 X) (h1 : m_isW X r1) (hG : m_G d yX9_closes.cls yX9_closes.name cX9_closes 7 n0 s0 nF sF Ω) {out : (Int × NN)} (hE : m_Gd d yX9_closes cX9_closes 7 (some .boolean) X (some (.inl out.1)) out.2 X Ω) (hF : f_X9_closes_j33 fr X r1 N z0 = some out) : Ω 33 ([none, none, none, none, none, none, none], [(.inl z0)], N, X) := by
  unfold f_X9_closes_j33 at hF
  obtain ⟨g15, hF⟩ := gd_some hF
  cases hF
  exact s_zret hE dX9_closes_33 rfl g15
theorem t_X9_closes_step {drec d : Nat} {fr : NN → Nat → Int → Int → Int → Option (Int × NN)} {X : MX} {r1 : Nat} {N : NN} {a2 : Int} {a3 : Int} {a4 : Int} {out : (Int × NN)} (hsk : m_Sk X) (hd : drec + 2 ≤ d) (hrec : ∀ (dr : Nat) (N : NN) (x1 : Nat) (x2 : Int) (x3 : Int) (x4 : Int) (out : (Int × NN)), drec ≤ dr → m_isW X x1 → fr N x1 x2 x3 x4 = some out → m_Call dr yX9_closes cX9_closes 7 (some .boolean) [.inr (.inr 53), .inr (.inr x1), .inl x2, .inl x3, .inl x4] N X (some (.inl out.1)) out.2 X) (h1 : m_isW X r1) (hF : f_X9_closes_step fr X r1 N a2 a3 a4 = some out) : m_Call d yX9_closes cX9_closes 7 (some .boolean) [(.inr (.inr 53)), (.inr (.inr r1)), (.inl a2), (.inl a3), (.inl a4)] N X (some (.inl out.1)) out.2 X := by
  refine m_mk (ls0 := [some (.inr (.inr 53)), some (.inr (.inr r1)), some (.inl a2), some (.inl a3), some (.inl a4), none, none]) (by decide) rfl (Nat.le_of_ble_eq_true rfl) (Nat.le_refl _) (Nat.le_refl _) (fun Ω hE => ?_)
  have hG := hE.G
  unfold f_X9_closes_step at hF
  refine s_aload_n hG dX9_closes_0 rfl ?_
  refine s_getr (r := 56) hG dX9_closes_1 fl_RX9_18 (sk_k hsk 53 rfl) rfl (sk_R hsk 53 2 rfl) ?_
  refine s_iload_n hG dX9_closes_4 rfl ?_
  obtain ⟨g1, hF⟩ := gd_some hF
  refine s_ialdj (j := a2.toNat) hG dX9_closes_5 (sk_K hsk 56 rfl) g1 rfl ?_
  refine s_istore hG dX9_closes_6 (by decide) rfl ?_
  refine s_iload_n hG dX9_closes_8 rfl ?_
  refine s_if_ne hG 34 dX9_closes_9 (by decide) (fun c14 => ?_) (fun c14 => ?_)
  · replace hF := Eq.trans (if_pos c14).symm hF
    refine s_aload_n hG dX9_closes_12 rfl ?_
    refine s_iload hG dX9_closes_13 rfl ?_
    refine s_aload_n hG dX9_closes_15 rfl ?_
    refine s_getr (r := 56) hG dX9_closes_16 fl_RX9_18 (sk_k hsk 53 rfl) rfl (sk_R hsk 53 2 rfl) ?_
    refine s_iconst hG dX9_closes_19 ⟨by decide, by decide⟩ ?_
    refine s_ialdj (j := 0) hG dX9_closes_20 (sk_K hsk 56 rfl) ⟨by decide, by decide⟩ rfl ?_
    obtain ⟨o2, ho2, hF⟩ := bd_some hF
    refine s_callV (d' := d - 1) (ci := 10) (args := [.inl (N 56 a2.toNat), .inl (N 56 0)]) hG (by omega) dX9_closes_21 cv_RX9_88 cw_X10_worthOwed rfl rfl h1.1 (Nat.le_of_ble_eq_true rfl) rfl (t_X10_worthOwed hsk (by omega) h1 ho2) ?_
    refine s_iconst hG dX9_closes_24 ⟨by decide, by decide⟩ ?_
    refine s_icmp_eq hG 32 dX9_closes_25 (by decide) (fun c3 => ?_) (fun c3 => ?_)
    · replace hF := Eq.trans (if_pos c3).symm hF
      refine s_iconst hG dX9_closes_32 ⟨by decide, by decide⟩ ?_
      refine m_weak (ls1 := [none, none, none, none, none, none, none]) hG trivial ?_
      exact t_X9_closes_j33 hsk hd hrec h1 hG hE hF
    · replace hF := Eq.trans (if_neg c3).symm hF
      refine s_iconst hG dX9_closes_28 ⟨by decide, by decide⟩ ?_
      refine s_goto hG 33 dX9_closes_29 (by decide) ?_
      refine m_weak (ls1 := [none, none, none, none, none, none, none]) hG trivial ?_
      exact t_X9_closes_j33 hsk hd hrec h1 hG hE hF
  · replace hF := Eq.trans (if_neg c14).symm hF
    refine s_iconst hG dX9_closes_34 ⟨by decide, by decide⟩ ?_
    refine s_istore hG dX9_closes_35 (by decide) rfl ?_
    obtain ⟨o13, hlo13, hF⟩ := bd_some hF
    refine t_X9_closes_lp37 hsk hd hrec h1 hG ?_ hlo13
    match o13, hF with
    | .inl e13, hF =>
          try dsimp only at hF
          refine s_iconst hG dX9_closes_115 ⟨by decide, by decide⟩ ?_
          cases hF
          exact s_zret hE dX9_closes_116 rfl ⟨by decide, by decide⟩
    | .inr e13, hF =>
          try dsimp only at hF
          refine s_iconst hG dX9_closes_107 ⟨by decide, by decide⟩ ?_
          cases hF
          exact s_zret hE dX9_closes_108 rfl ⟨by decide, by decide⟩
theorem t_X9_closes_all {X : MX} (hsk : m_Sk X) : ∀ (n : Nat) (d : Nat) (N : NN) (x1 : Nat) (x2 : Int) (x3 : Int) (x4 : Int) (out : (Int × NN)), 2 * n ≤ d → m_isW X x1 → f_X9_closes X n N x1 x2 x3 x4 = some out → m_Call d yX9_closes cX9_closes 7 (some .boolean) [(.inr (.inr 53)), (.inr (.inr x1)), (.inl x2), (.inl x3), (.inl x4)] N X (some (.inl out.1)) out.2 X := by
  intro n
  induction n with
  | zero => intro d N x1 x2 x3 x4 out hd h1 hF; cases hF
  | succ n ih =>
    intro d N x1 x2 x3 x4 out hd h1 hF
    exact t_X9_closes_step (drec := 2 * n) hsk (by omega) (fun dr N x1 x2 x3 x4 out ha h1 hb => ih dr N x1 x2 x3 x4 out ha h1 hb) h1 hF
theorem t_X9_closes {d : Nat} {X : MX} {N : NN} {x1 : Nat} {x2 : Int} {x3 : Int} {x4 : Int} {out : (Int × NN)} (hsk : m_Sk X) (hd : 16 ≤ d) (h1 : m_isW X x1) (hF : f_X9_closes X 8 N x1 x2 x3 x4 = some out) : m_Call d yX9_closes cX9_closes 7 (some .boolean) [(.inr (.inr 53)), (.inr (.inr x1)), (.inl x2), (.inl x3), (.inl x4)] N X (some (.inl out.1)) out.2 X := t_X9_closes_all hsk 8 d N x1 x2 x3 x4 out (by omega) h1 hF
-- X9_ofRing
theorem t_X9_ofRing_l40_j113 {d n0 s0 nF sF : Nat} {X : MX} {r1 : Nat} {Ω : Nat → MS → Prop} {N : NN} {a2 : Int} {a3 : Int} {a4 : Int} (hsk : m_Sk X) (hd : 17 ≤ d) (h1 : m_isW X r1) (hG : m_G d yX9_ofRing.cls yX9_ofRing.name cX9_ofRing 5 n0 s0 nF sF Ω) {out : ((NN × Int × Int × Int) ⊕ ((NN × Int × Int) ⊕ (NN × Int × Int)))} (hK0 : ∀ s' : (NN × Int × Int × Int), out = .inl s' → Ω 40 ([some (.inr (.inr 53)), some (.inr (.inr r1)), some (.inl (s'.2.1)), some (.inl (s'.2.2.1)), some (.inl (s'.2.2.2))], [], s'.1, X)) (hK1 : ∀ t : ((NN × Int × Int) ⊕ (NN × Int × Int)), out = .inr t → match t with | .inl e => Ω 119 ([some (.inr (.inr 53)), some (.inr (.inr r1)), some (.inl e.2.1), some (.inl e.2.2), none], [], e.1, X) | .inr e => Ω 88 ([some (.inr (.inr 53)), none, some (.inl e.2.1), some (.inl e.2.2), none], [], e.1, X)) (hF : f_X9_ofRing_l40_j113 X r1 N a2 a3 a4 = some out) : Ω 113 ([some (.inr (.inr 53)), some (.inr (.inr r1)), some (.inl a2), some (.inl a3), some (.inl a4)], [], N, X) := by
  unfold f_X9_ofRing_l40_j113 at hF
  refine s_iinc hG dX9_ofRing_113 (by decide) rfl rfl ?_
  refine s_goto hG 40 dX9_ofRing_116 (by decide) ?_
  cases hF
  exact hK0 _ rfl
theorem t_X9_ofRing_b40 {d n0 s0 nF sF : Nat} {X : MX} {r1 : Nat} {Ω : Nat → MS → Prop} {N : NN} {a2 : Int} {a3 : Int} {a4 : Int} (hsk : m_Sk X) (hd : 17 ≤ d) (h1 : m_isW X r1) (hG : m_G d yX9_ofRing.cls yX9_ofRing.name cX9_ofRing 5 n0 s0 nF sF Ω) {out : ((NN × Int × Int × Int) ⊕ ((NN × Int × Int) ⊕ (NN × Int × Int)))} (hK0 : ∀ s' : (NN × Int × Int × Int), out = .inl s' → Ω 40 ([some (.inr (.inr 53)), some (.inr (.inr r1)), some (.inl (s'.2.1)), some (.inl (s'.2.2.1)), some (.inl (s'.2.2.2))], [], s'.1, X)) (hK1 : ∀ t : ((NN × Int × Int) ⊕ (NN × Int × Int)), out = .inr t → match t with | .inl e => Ω 119 ([some (.inr (.inr 53)), some (.inr (.inr r1)), some (.inl e.2.1), some (.inl e.2.2), none], [], e.1, X) | .inr e => Ω 88 ([some (.inr (.inr 53)), none, some (.inl e.2.1), some (.inl e.2.2), none], [], e.1, X)) (hF : b_X9_ofRing_40 X r1 N a2 a3 a4 = some out) : Ω 40 ([some (.inr (.inr 53)), some (.inr (.inr r1)), some (.inl a2), some (.inl a3), some (.inl a4)], [], N, X) := by
  unfold b_X9_ofRing_40 at hF
  refine s_iload hG dX9_ofRing_40 rfl ?_
  refine s_iconst hG dX9_ofRing_42 ⟨by decide, by decide⟩ ?_
  refine s_aload_n hG dX9_ofRing_43 rfl ?_
  refine s_geti hG dX9_ofRing_44 fl_RX9_24 (sk_k hsk 53 rfl) rfl ?_
  refine s_ishl hG dX9_ofRing_47 ?_
  refine s_icmp_ge hG 119 dX9_ofRing_48 (by decide) (fun c9 => ?_) (fun c9 => ?_)
  · replace hF := Eq.trans (if_pos c9).symm hF
    refine s_iload hG dX9_ofRing_51 rfl ?_
    obtain ⟨o3, ho3, hF⟩ := bd_some hF
    refine s_callS (d' := d - 1) (args := [.inl a4]) hG (by omega) dX9_ofRing_53 cs_RX9_76 cw_J6_bitCount_0f7a4 rfl (Nat.le_of_ble_eq_true rfl) rfl (t_J6_bitCount_0f7a4 hsk (by omega) ho3) ?_
    refine s_iload_n hG dX9_ofRing_56 rfl ?_
    refine s_icmp_ne hG 113 dX9_ofRing_57 (by decide) (fun c8 => ?_) (fun c8 => ?_)
    · replace hF := Eq.trans (if_pos c8).symm hF
      refine s_aload_n hG dX9_ofRing_60 rfl ?_
      refine s_getr (r := 56) hG dX9_ofRing_61 fl_RX9_18 (sk_k hsk 53 rfl) rfl (sk_R hsk 53 2 rfl) ?_
      refine s_iconst hG dX9_ofRing_64 ⟨by decide, by decide⟩ ?_
      refine s_iload hG dX9_ofRing_65 rfl ?_
      obtain ⟨o4, ho4, hF⟩ := bd_some hF
      refine s_callS (d' := d - 1) (args := [.inl a4]) hG (by omega) dX9_ofRing_67 cs_RX9_81 cw_J6_numberOfTrailingZeros_0f7a4 rfl (Nat.le_of_ble_eq_true rfl) rfl (t_J6_numberOfTrailingZeros_0f7a4 hsk (by omega) ho4) ?_
      refine s_iastj (j := 0) hG dX9_ofRing_70 (sk_K hsk 56 rfl) ⟨by decide, by decide⟩ rfl ?_
      refine s_aload_n hG dX9_ofRing_71 rfl ?_
      refine s_aload_n hG dX9_ofRing_72 rfl ?_
      refine s_iconst hG dX9_ofRing_73 ⟨by decide, by decide⟩ ?_
      refine s_iload hG dX9_ofRing_74 rfl ?_
      refine s_iload hG dX9_ofRing_76 rfl ?_
      refine s_iconst hG dX9_ofRing_78 ⟨by decide, by decide⟩ ?_
      refine s_isub hG dX9_ofRing_79 ?_
      refine s_iand hG dX9_ofRing_80 ?_
      refine s_iload_n hG dX9_ofRing_81 rfl ?_
      obtain ⟨o6, ho6, hF⟩ := bd_some hF
      refine s_callV (d' := d - 1) (ci := 9) (args := [.inr (.inr r1), .inl 0, .inl (m_and a4 (m_w (a4 - 1))), .inl a3]) hG (by omega) dX9_ofRing_82 cv_RX9_84 cw_X9_closes rfl rfl (sk_k hsk 53 rfl) (Nat.le_of_ble_eq_true rfl) rfl (t_X9_closes hsk (by omega) h1 ho6) ?_
      refine s_if_eq hG 113 dX9_ofRing_85 (by decide) (fun c7 => ?_) (fun c7 => ?_)
      · replace hF := Eq.trans (if_pos c7).symm hF
        exact t_X9_ofRing_l40_j113 hsk hd h1 hG hK0 hK1 hF
      · replace hF := Eq.trans (if_neg c7).symm hF
        cases hF
        refine m_weak (ls1 := [some (.inr (.inr 53)), none, some (.inl a2), some (.inl a3), none]) hG ⟨rfl, ⟨rfl, ⟨rfl, trivial⟩⟩⟩ ?_
        exact hK1 _ rfl
    · replace hF := Eq.trans (if_neg c8).symm hF
      exact t_X9_ofRing_l40_j113 hsk hd h1 hG hK0 hK1 hF
  · replace hF := Eq.trans (if_neg c9).symm hF
    cases hF
    refine m_weak (ls1 := [some (.inr (.inr 53)), some (.inr (.inr r1)), some (.inl a2), some (.inl a3), none]) hG ⟨rfl, ⟨rfl, ⟨rfl, ⟨rfl, trivial⟩⟩⟩⟩ ?_
    exact hK1 _ rfl
theorem t_X9_ofRing_lp40 {d n0 s0 nF sF : Nat} {X : MX} {r1 : Nat} {Ω : Nat → MS → Prop} {N : NN} {a2 : Int} {a3 : Int} {a4 : Int} (hsk : m_Sk X) (hd : 17 ≤ d) (h1 : m_isW X r1) (hG : m_G d yX9_ofRing.cls yX9_ofRing.name cX9_ofRing 5 n0 s0 nF sF Ω) {t : ((NN × Int × Int) ⊕ (NN × Int × Int))} (hK1 : match t with | .inl e => Ω 119 ([some (.inr (.inr 53)), some (.inr (.inr r1)), some (.inl e.2.1), some (.inl e.2.2), none], [], e.1, X) | .inr e => Ω 88 ([some (.inr (.inr 53)), none, some (.inl e.2.1), some (.inl e.2.2), none], [], e.1, X)) (hl : lp (fun s => b_X9_ofRing_40 X r1 s.1 s.2.1 s.2.2.1 s.2.2.2) (N, a2, a3, a4) = some t) : Ω 40 ([some (.inr (.inr 53)), some (.inr (.inr r1)), some (.inl a2), some (.inl a3), some (.inl a4)], [], N, X) := by
  refine lp_ok (P := fun s => Ω 40 ([some (.inr (.inr 53)), some (.inr (.inr r1)), some (.inl s.2.1), some (.inl s.2.2.1), some (.inl s.2.2.2)], [], s.1, X)) (K := fun t => match t with | .inl e => Ω 119 ([some (.inr (.inr 53)), some (.inr (.inr r1)), some (.inl e.2.1), some (.inl e.2.2), none], [], e.1, X) | .inr e => Ω 88 ([some (.inr (.inr 53)), none, some (.inl e.2.1), some (.inl e.2.2), none], [], e.1, X)) (fun s out hF hK0 hK1 => ?_) hl hK1
  exact t_X9_ofRing_b40 hsk hd h1 hG (out := out) (fun s' e => hK0 s' e) (fun t' e => hK1 t' e) hF
theorem t_X9_ofRing_b29 {d n0 s0 nF sF : Nat} {X : MX} {r1 : Nat} {Ω : Nat → MS → Prop} {N : NN} {a2 : Int} {a3 : Int} (hsk : m_Sk X) (hd : 17 ≤ d) (h1 : m_isW X r1) (hG : m_G d yX9_ofRing.cls yX9_ofRing.name cX9_ofRing 5 n0 s0 nF sF Ω) {out : ((NN × Int × Int) ⊕ (NN ⊕ (NN × Int × Int)))} (hK0 : ∀ s' : (NN × Int × Int), out = .inl s' → Ω 29 ([some (.inr (.inr 53)), some (.inr (.inr r1)), some (.inl (s'.2.1)), some (.inl (s'.2.2)), none], [], s'.1, X)) (hK1 : ∀ t : (NN ⊕ (NN × Int × Int)), out = .inr t → match t with | .inl e => Ω 125 ([none, none, none, none, none], [], e, X) | .inr e => Ω 88 ([some (.inr (.inr 53)), none, some (.inl e.2.1), some (.inl e.2.2), none], [], e.1, X)) (hF : b_X9_ofRing_29 X r1 N a2 a3 = some out) : Ω 29 ([some (.inr (.inr 53)), some (.inr (.inr r1)), some (.inl a2), some (.inl a3), none], [], N, X) := by
  unfold b_X9_ofRing_29 at hF
  refine s_iload_n hG dX9_ofRing_29 rfl ?_
  refine s_aload_n hG dX9_ofRing_30 rfl ?_
  refine s_geti hG dX9_ofRing_31 fl_RX9_24 (sk_k hsk 53 rfl) rfl ?_
  refine s_icmp_gt hG 125 dX9_ofRing_34 (by decide) (fun c11 => ?_) (fun c11 => ?_)
  · replace hF := Eq.trans (if_pos c11).symm hF
    cases hF
    refine m_weak (ls1 := [none, none, none, none, none]) hG trivial ?_
    exact hK1 _ rfl
  · replace hF := Eq.trans (if_neg c11).symm hF
    refine s_iconst hG dX9_ofRing_37 ⟨by decide, by decide⟩ ?_
    refine s_istore hG dX9_ofRing_38 (by decide) rfl ?_
    obtain ⟨o10, hlo10, hF⟩ := bd_some hF
    refine t_X9_ofRing_lp40 hsk hd h1 hG ?_ hlo10
    match o10, hF with
    | .inl e10, hF =>
          try dsimp only at hF
          refine s_iinc hG dX9_ofRing_119 (by decide) rfl rfl ?_
          refine s_goto hG 29 dX9_ofRing_122 (by decide) ?_
          cases hF
          exact hK0 _ rfl
    | .inr e10, hF =>
          try dsimp only at hF
          cases hF
          exact hK1 _ rfl
theorem t_X9_ofRing_lp29 {d n0 s0 nF sF : Nat} {X : MX} {r1 : Nat} {Ω : Nat → MS → Prop} {N : NN} {a2 : Int} {a3 : Int} (hsk : m_Sk X) (hd : 17 ≤ d) (h1 : m_isW X r1) (hG : m_G d yX9_ofRing.cls yX9_ofRing.name cX9_ofRing 5 n0 s0 nF sF Ω) {t : (NN ⊕ (NN × Int × Int))} (hK1 : match t with | .inl e => Ω 125 ([none, none, none, none, none], [], e, X) | .inr e => Ω 88 ([some (.inr (.inr 53)), none, some (.inl e.2.1), some (.inl e.2.2), none], [], e.1, X)) (hl : lp (fun s => b_X9_ofRing_29 X r1 s.1 s.2.1 s.2.2) (N, a2, a3) = some t) : Ω 29 ([some (.inr (.inr 53)), some (.inr (.inr r1)), some (.inl a2), some (.inl a3), none], [], N, X) := by
  refine lp_ok (P := fun s => Ω 29 ([some (.inr (.inr 53)), some (.inr (.inr r1)), some (.inl s.2.1), some (.inl s.2.2), none], [], s.1, X)) (K := fun t => match t with | .inl e => Ω 125 ([none, none, none, none, none], [], e, X) | .inr e => Ω 88 ([some (.inr (.inr 53)), none, some (.inl e.2.1), some (.inl e.2.2), none], [], e.1, X)) (fun s out hF hK0 hK1 => ?_) hl hK1
  exact t_X9_ofRing_b29 hsk hd h1 hG (out := out) (fun s' e => hK0 s' e) (fun t' e => hK1 t' e) hF
theorem t_X9_ofRing_j11 {d n0 s0 nF sF : Nat} {X : MX} {r1 : Nat} {Ω : Nat → MS → Prop} {N : NN} (hsk : m_Sk X) (hd : 17 ≤ d) (h1 : m_isW X r1) (hG : m_G d yX9_ofRing.cls yX9_ofRing.name cX9_ofRing 5 n0 s0 nF sF Ω) {out : (Int × NN)} (hE : m_Gd d yX9_ofRing cX9_ofRing 5 (some .int) X (some (.inl out.1)) out.2 X Ω) (hF : f_X9_ofRing_j11 X r1 N = some out) : Ω 11 ([none, none, none, none, none], [], N, X) := by
  unfold f_X9_ofRing_j11 at hF
  refine s_iconst hG dX9_ofRing_11 ⟨by decide, by decide⟩ ?_
  cases hF
  exact s_iret hE dX9_ofRing_12 rfl
theorem t_X9_ofRing_j112 {d n0 s0 nF sF : Nat} {X : MX} {r1 : Nat} {Ω : Nat → MS → Prop} {N : NN} {z0 : Int} (hsk : m_Sk X) (hd : 17 ≤ d) (h1 : m_isW X r1) (hG : m_G d yX9_ofRing.cls yX9_ofRing.name cX9_ofRing 5 n0 s0 nF sF Ω) {out : (Int × NN)} (hE : m_Gd d yX9_ofRing cX9_ofRing 5 (some .int) X (some (.inl out.1)) out.2 X Ω) (hF : f_X9_ofRing_j112 X r1 N z0 = some out) : Ω 112 ([none, none, none, none, none], [(.inl z0)], N, X) := by
  unfold f_X9_ofRing_j112 at hF
  cases hF
  exact s_iret hE dX9_ofRing_112 rfl
theorem t_X9_ofRing {d : Nat} {X : MX} {r1 : Nat} {N : NN} {a2 : Int} {out : (Int × NN)} (hsk : m_Sk X) (hd : 17 ≤ d) (h1 : m_isW X r1) (hF : f_X9_ofRing X r1 N a2 = some out) : m_Call d yX9_ofRing cX9_ofRing 5 (some .int) [(.inr (.inr 53)), (.inr (.inr r1)), (.inl a2)] N X (some (.inl out.1)) out.2 X := by
  refine m_mk (ls0 := [some (.inr (.inr 53)), some (.inr (.inr r1)), some (.inl a2), none, none]) (by decide) rfl (Nat.le_of_ble_eq_true rfl) (Nat.le_refl _) (Nat.le_refl _) (fun Ω hE => ?_)
  have hG := hE.G
  unfold f_X9_ofRing at hF
  refine s_iload_n hG dX9_ofRing_0 rfl ?_
  refine s_iconst hG dX9_ofRing_1 ⟨by decide, by decide⟩ ?_
  refine s_icmp_lt hG 11 dX9_ofRing_2 (by decide) (fun c17 => ?_) (fun c17 => ?_)
  · replace hF := Eq.trans (if_pos c17).symm hF
    refine m_weak (ls1 := [none, none, none, none, none]) hG trivial ?_
    exact t_X9_ofRing_j11 hsk hd h1 hG hE hF
  · replace hF := Eq.trans (if_neg c17).symm hF
    refine s_iload_n hG dX9_ofRing_5 rfl ?_
    refine s_bipush hG dX9_ofRing_6 bp_6 ⟨by decide, by decide⟩ ?_
    refine s_icmp_lt hG 13 dX9_ofRing_8 (by decide) (fun c16 => ?_) (fun c16 => ?_)
    · replace hF := Eq.trans (if_pos c16).symm hF
      refine s_aload_n hG dX9_ofRing_13 rfl ?_
      refine s_aload_n hG dX9_ofRing_14 rfl ?_
      refine s_iconst hG dX9_ofRing_15 ⟨by decide, by decide⟩ ?_
      obtain ⟨o1, ho1, hF⟩ := bd_some hF
      refine s_callV (d' := d - 1) (ci := 10) (args := [.inl 0]) hG (by omega) dX9_ofRing_16 cv_RX9_51 cw_X10_many rfl rfl h1.1 (Nat.le_of_ble_eq_true rfl) rfl (t_X10_many hsk (by omega) h1 ho1) ?_
      refine s_bipush hG dX9_ofRing_19 bp_6 ⟨by decide, by decide⟩ ?_
      refine s_min hG (by omega) dX9_ofRing_21 ml_RX9_55 lk_min_s lk_math lk_min_c (Nat.le_of_ble_eq_true rfl) ?_
      refine s_puti hG dX9_ofRing_24 fl_RX9_24 (fun h => by cases h) (sk_k hsk 53 rfl) rfl ?_
      refine s_iconst hG dX9_ofRing_27 ⟨by decide, by decide⟩ ?_
      refine s_istore_n hG dX9_ofRing_28 (by decide) rfl ?_
      obtain ⟨o12, hlo12, hF⟩ := bd_some hF
      refine t_X9_ofRing_lp29 hsk hd h1 hG ?_ hlo12
      match o12, hF with
      | .inl e12, hF =>
            try dsimp only at hF
            refine s_iconst hG dX9_ofRing_125 ⟨by decide, by decide⟩ ?_
            cases hF
            exact s_iret hE dX9_ofRing_126 rfl
      | .inr e12, hF =>
            try dsimp only at hF
            refine s_iload_n hG dX9_ofRing_88 rfl ?_
            refine s_iconst hG dX9_ofRing_89 ⟨by decide, by decide⟩ ?_
            refine s_icmp_ne hG 97 dX9_ofRing_90 (by decide) (fun c15 => ?_) (fun c15 => ?_)
            · replace hF := Eq.trans (if_pos c15).symm hF
              refine s_iload_n hG dX9_ofRing_93 rfl ?_
              refine s_goto hG 112 dX9_ofRing_94 (by decide) ?_
              refine m_weak (ls1 := [none, none, none, none, none]) hG trivial ?_
              exact t_X9_ofRing_j112 hsk hd h1 hG hE hF
            · replace hF := Eq.trans (if_neg c15).symm hF
              refine s_iload_n hG dX9_ofRing_97 rfl ?_
              refine s_iload_n hG dX9_ofRing_98 rfl ?_
              refine s_icmp_ge hG 111 dX9_ofRing_99 (by decide) (fun c14 => ?_) (fun c14 => ?_)
              · replace hF := Eq.trans (if_pos c14).symm hF
                refine s_aload_n hG dX9_ofRing_102 rfl ?_
                refine s_getr (r := 56) hG dX9_ofRing_103 fl_RX9_18 (sk_k hsk 53 rfl) rfl (sk_R hsk 53 2 rfl) ?_
                refine s_iload_n hG dX9_ofRing_106 rfl ?_
                obtain ⟨g13, hF⟩ := gd_some hF
                refine s_ialdj (j := e12.2.1.toNat) hG dX9_ofRing_107 (sk_K hsk 56 rfl) g13 rfl ?_
                refine s_goto hG 112 dX9_ofRing_108 (by decide) ?_
                refine m_weak (ls1 := [none, none, none, none, none]) hG trivial ?_
                exact t_X9_ofRing_j112 hsk hd h1 hG hE hF
              · replace hF := Eq.trans (if_neg c14).symm hF
                refine s_iconst hG dX9_ofRing_111 ⟨by decide, by decide⟩ ?_
                refine m_weak (ls1 := [none, none, none, none, none]) hG trivial ?_
                exact t_X9_ofRing_j112 hsk hd h1 hG hE hF
    · replace hF := Eq.trans (if_neg c16).symm hF
      refine m_weak (ls1 := [none, none, none, none, none]) hG trivial ?_
      exact t_X9_ofRing_j11 hsk hd h1 hG hE hF
-- X11_ring
theorem t_X11_ring {d : Nat} {X : MX} {N : NN} {a1 : Int} {out : (Int × NN)} (hsk : m_Sk X) (hd : 18 ≤ d) (hF : f_X11_ring X N a1 = some out) : m_Call d yX11_ring cX11_ring 2 (some .int) [(.inr (.inr 3)), (.inl a1)] N X (some (.inl out.1)) out.2 X := by
  refine m_mk (ls0 := [some (.inr (.inr 3)), some (.inl a1)]) (by decide) rfl (Nat.le_of_ble_eq_true rfl) (Nat.le_refl _) (Nat.le_refl _) (fun Ω hE => ?_)
  have hG := hE.G
  unfold f_X11_ring at hF
  refine s_aload_n hG dX11_ring_0 rfl ?_
  refine s_getr (r := 53) hG dX11_ring_1 fl_RX11_78 (sk_k hsk 3 rfl) rfl (sk_R hsk 3 10 rfl) ?_
  refine s_aload_n hG dX11_ring_4 rfl ?_
  refine s_getr (r := 4) hG dX11_ring_5 fl_RX11_10 (sk_k hsk 3 rfl) rfl (sk_R hsk 3 0 rfl) ?_
  refine s_iload_n hG dX11_ring_8 rfl ?_
  obtain ⟨o1, ho1, hF⟩ := bd_some hF
  refine s_callV (d' := d - 1) (ci := 9) (args := [.inr (.inr 4), .inl a1]) hG (by omega) dX11_ring_9 cv_RX11_280 cw_X9_ofRing rfl rfl (sk_k hsk 53 rfl) (Nat.le_of_ble_eq_true rfl) rfl (t_X9_ofRing hsk (by omega) (sk_W4 hsk) ho1) ?_
  cases hF
  exact s_iret hE dX11_ring_12 rfl
-- X11_road
theorem t_X11_road_j26 {d n0 s0 nF sF : Nat} {X : MX} {Ω : Nat → MS → Prop} {N : NN} (hsk : m_Sk X) (hd : 2 ≤ d) (hG : m_G d yX11_road.cls yX11_road.name cX11_road 5 n0 s0 nF sF Ω) {out : (Int × NN)} (hE : m_Gd d yX11_road cX11_road 5 (some .int) X (some (.inl out.1)) out.2 X Ω) (hF : f_X11_road_j26 X N = some out) : Ω 26 ([some (.inr (.inr 3)), none, none, none, none], [], N, X) := by
  unfold f_X11_road_j26 at hF
  refine s_aload_n hG dX11_road_26 rfl ?_
  refine s_iconst hG dX11_road_27 ⟨by decide, by decide⟩ ?_
  obtain ⟨o15, ho15, hF⟩ := bd_some hF
  refine s_callV (d' := d - 1) (ci := 11) (args := [.inl (-1)]) hG (by omega) dX11_road_28 cv_RX11_104 cw_X11_refuse rfl rfl (sk_k hsk 3 rfl) (Nat.le_of_ble_eq_true rfl) rfl (t_X11_refuse hsk (by omega) ho15) ?_
  cases hF
  exact s_iret hE dX11_road_31 rfl
theorem t_X11_road_j54 {d n0 s0 nF sF : Nat} {X : MX} {Ω : Nat → MS → Prop} {N : NN} (hsk : m_Sk X) (hd : 2 ≤ d) (hG : m_G d yX11_road.cls yX11_road.name cX11_road 5 n0 s0 nF sF Ω) {out : (Int × NN)} (hE : m_Gd d yX11_road cX11_road 5 (some .int) X (some (.inl out.1)) out.2 X Ω) (hF : f_X11_road_j54 X N = some out) : Ω 54 ([some (.inr (.inr 3)), none, none, none, none], [], N, X) := by
  unfold f_X11_road_j54 at hF
  refine s_aload_n hG dX11_road_54 rfl ?_
  refine s_bipush hG dX11_road_55 bp_m2 ⟨by decide, by decide⟩ ?_
  obtain ⟨o16, ho16, hF⟩ := bd_some hF
  refine s_callV (d' := d - 1) (ci := 11) (args := [.inl (-2)]) hG (by omega) dX11_road_57 cv_RX11_104 cw_X11_refuse rfl rfl (sk_k hsk 3 rfl) (Nat.le_of_ble_eq_true rfl) rfl (t_X11_refuse hsk (by omega) ho16) ?_
  cases hF
  exact s_iret hE dX11_road_60 rfl
theorem t_X11_road {d : Nat} {X : MX} {N : NN} {a1 : Int} {a2 : Int} {a3 : Int} {a4 : Int} {out : (Int × NN)} (hsk : m_Sk X) (hd : 2 ≤ d) (hF : f_X11_road X N a1 a2 a3 a4 = some out) : m_Call d yX11_road cX11_road 5 (some .int) [(.inr (.inr 3)), (.inl a1), (.inl a2), (.inl a3), (.inl a4)] N X (some (.inl out.1)) out.2 X := by
  refine m_mk (ls0 := [some (.inr (.inr 3)), some (.inl a1), some (.inl a2), some (.inl a3), some (.inl a4)]) (by decide) rfl (Nat.le_of_ble_eq_true rfl) (Nat.le_refl _) (Nat.le_refl _) (fun Ω hE => ?_)
  have hG := hE.G
  unfold f_X11_road at hF
  refine s_iload_n hG dX11_road_0 rfl ?_
  refine s_iload_n hG dX11_road_1 rfl ?_
  refine s_icmp_eq hG 26 dX11_road_2 (by decide) (fun c14 => ?_) (fun c14 => ?_)
  · replace hF := Eq.trans (if_pos c14).symm hF
    refine m_weak (ls1 := [some (.inr (.inr 3)), none, none, none, none]) hG ⟨rfl, trivial⟩ ?_
    exact t_X11_road_j26 hsk hd hG hE hF
  · replace hF := Eq.trans (if_neg c14).symm hF
    refine s_iload_n hG dX11_road_5 rfl ?_
    refine s_iconst hG dX11_road_6 ⟨by decide, by decide⟩ ?_
    refine s_bipush hG dX11_road_7 bp_30 ⟨by decide, by decide⟩ ?_
    obtain ⟨o1, ho1, hF⟩ := bd_some hF
    refine s_callS (d' := d - 1) (args := [.inl a3, .inl 1, .inl 30]) hG (by omega) dX11_road_9 cs_RX11_100 cw_X11_within rfl (Nat.le_of_ble_eq_true rfl) rfl (t_X11_within hsk (by omega) ho1) ?_
    refine s_if_eq hG 26 dX11_road_12 (by decide) (fun c13 => ?_) (fun c13 => ?_)
    · replace hF := Eq.trans (if_pos c13).symm hF
      refine m_weak (ls1 := [some (.inr (.inr 3)), none, none, none, none]) hG ⟨rfl, trivial⟩ ?_
      exact t_X11_road_j26 hsk hd hG hE hF
    · replace hF := Eq.trans (if_neg c13).symm hF
      refine s_iload hG dX11_road_15 rfl ?_
      refine s_iconst hG dX11_road_17 ⟨by decide, by decide⟩ ?_
      refine s_bipush hG dX11_road_18 bp_10 ⟨by decide, by decide⟩ ?_
      obtain ⟨o2, ho2, hF⟩ := bd_some hF
      refine s_callS (d' := d - 1) (args := [.inl a4, .inl 0, .inl 10]) hG (by omega) dX11_road_20 cs_RX11_100 cw_X11_within rfl (Nat.le_of_ble_eq_true rfl) rfl (t_X11_within hsk (by omega) ho2) ?_
      refine s_if_ne hG 32 dX11_road_23 (by decide) (fun c12 => ?_) (fun c12 => ?_)
      · replace hF := Eq.trans (if_pos c12).symm hF
        refine m_weak (ls1 := [some (.inr (.inr 3)), none, none, none, none]) hG ⟨rfl, trivial⟩ ?_
        exact t_X11_road_j26 hsk hd hG hE hF
      · replace hF := Eq.trans (if_neg c12).symm hF
        refine s_aload_n hG dX11_road_32 rfl ?_
        refine s_getr (r := 4) hG dX11_road_33 fl_RX11_10 (sk_k hsk 3 rfl) rfl (sk_R hsk 3 0 rfl) ?_
        refine s_iload_n hG dX11_road_36 rfl ?_
        obtain ⟨o3, ho3, hF⟩ := bd_some hF
        refine s_callV (d' := d - 1) (ci := 10) (args := [.inl a1]) hG (by omega) dX11_road_37 cv_RX11_121 cw_X10_isLord rfl rfl (sk_k hsk 4 rfl) (Nat.le_of_ble_eq_true rfl) rfl (t_X10_isLord hsk (by omega) (sk_W4 hsk) ho3) ?_
        refine s_if_eq hG 54 dX11_road_40 (by decide) (fun c11 => ?_) (fun c11 => ?_)
        · replace hF := Eq.trans (if_pos c11).symm hF
          refine m_weak (ls1 := [some (.inr (.inr 3)), none, none, none, none]) hG ⟨rfl, trivial⟩ ?_
          exact t_X11_road_j54 hsk hd hG hE hF
        · replace hF := Eq.trans (if_neg c11).symm hF
          refine s_aload_n hG dX11_road_43 rfl ?_
          refine s_getr (r := 4) hG dX11_road_44 fl_RX11_10 (sk_k hsk 3 rfl) rfl (sk_R hsk 3 0 rfl) ?_
          refine s_iload_n hG dX11_road_47 rfl ?_
          obtain ⟨o4, ho4, hF⟩ := bd_some hF
          refine s_callV (d' := d - 1) (ci := 10) (args := [.inl a2]) hG (by omega) dX11_road_48 cv_RX11_121 cw_X10_isLord rfl rfl (sk_k hsk 4 rfl) (Nat.le_of_ble_eq_true rfl) rfl (t_X10_isLord hsk (by omega) (sk_W4 hsk) ho4) ?_
          refine s_if_ne hG 61 dX11_road_51 (by decide) (fun c10 => ?_) (fun c10 => ?_)
          · replace hF := Eq.trans (if_pos c10).symm hF
            refine m_weak (ls1 := [some (.inr (.inr 3)), none, none, none, none]) hG ⟨rfl, trivial⟩ ?_
            exact t_X11_road_j54 hsk hd hG hE hF
          · replace hF := Eq.trans (if_neg c10).symm hF
            refine s_aload_n hG dX11_road_61 rfl ?_
            refine s_getr (r := 4) hG dX11_road_62 fl_RX11_10 (sk_k hsk 3 rfl) rfl (sk_R hsk 3 0 rfl) ?_
            refine s_iconst hG dX11_road_65 ⟨by decide, by decide⟩ ?_
            obtain ⟨o5, ho5, hF⟩ := bd_some hF
            refine s_callV (d' := d - 1) (ci := 10) (args := [.inl 3]) hG (by omega) dX11_road_66 cv_RX11_108 cw_X10_many rfl rfl (sk_k hsk 4 rfl) (Nat.le_of_ble_eq_true rfl) rfl (t_X10_many hsk (by omega) (sk_W4 hsk) ho5) ?_
            refine s_bipush hG dX11_road_69 bp_12 ⟨by decide, by decide⟩ ?_
            refine s_icmp_lt hG 81 dX11_road_71 (by decide) (fun c9 => ?_) (fun c9 => ?_)
            · replace hF := Eq.trans (if_pos c9).symm hF
              refine s_aload_n hG dX11_road_81 rfl ?_
              refine s_aload_n hG dX11_road_82 rfl ?_
              refine s_getr (r := 4) hG dX11_road_83 fl_RX11_10 (sk_k hsk 3 rfl) rfl (sk_R hsk 3 0 rfl) ?_
              refine s_iload_n hG dX11_road_86 rfl ?_
              refine s_iload_n hG dX11_road_87 rfl ?_
              refine s_iload_n hG dX11_road_88 rfl ?_
              refine s_iload hG dX11_road_89 rfl ?_
              obtain ⟨o6, ho6, hF⟩ := bd_some hF
              refine s_callV (d' := d - 1) (ci := 10) (args := [.inl a1, .inl a2, .inl a3, .inl a4]) hG (by omega) dX11_road_91 cv_RX11_275 cw_X10_addRoad rfl rfl (sk_k hsk 4 rfl) (Nat.le_of_ble_eq_true rfl) rfl (t_X10_addRoad hsk (by omega) (sk_W4 hsk) ho6) ?_
              obtain ⟨o7, ho7, hF⟩ := bd_some hF
              refine s_callV (d' := d - 1) (ci := 11) (args := [.inl o6.1]) hG (by omega) dX11_road_94 cv_RX11_118 cw_X11_accept rfl rfl (sk_k hsk 3 rfl) (Nat.le_of_ble_eq_true rfl) rfl (t_X11_accept hsk (by omega) ho7) ?_
              cases hF
              exact s_iret hE dX11_road_97 rfl
            · replace hF := Eq.trans (if_neg c9).symm hF
              refine s_aload_n hG dX11_road_74 rfl ?_
              refine s_bipush hG dX11_road_75 bp_m5 ⟨by decide, by decide⟩ ?_
              obtain ⟨o8, ho8, hF⟩ := bd_some hF
              refine s_callV (d' := d - 1) (ci := 11) (args := [.inl (-5)]) hG (by omega) dX11_road_77 cv_RX11_104 cw_X11_refuse rfl rfl (sk_k hsk 3 rfl) (Nat.le_of_ble_eq_true rfl) rfl (t_X11_refuse hsk (by omega) ho8) ?_
              cases hF
              exact s_iret hE dX11_road_80 rfl
-- X5_byteAt
theorem t_X5_byteAt_j22 {d n0 s0 nF sF : Nat} {X : MX} {N : NN} {Ω : Nat → MS → Prop} {z0 : Int} (hsk : m_Sk X) (hd : 1 ≤ d) (hG : m_G d yX5_byteAt.cls yX5_byteAt.name cX5_byteAt 2 n0 s0 nF sF Ω) {out : Int} (hE : m_Gd d yX5_byteAt cX5_byteAt 2 (some .int) X (some (.inl out)) N X Ω) (hF : f_X5_byteAt_j22 X N z0 = some out) : Ω 22 ([none, none], [(.inl z0)], N, X) := by
  unfold f_X5_byteAt_j22 at hF
  cases hF
  exact s_iret hE dX5_byteAt_22 rfl
theorem t_X5_byteAt_j21 {d n0 s0 nF sF : Nat} {X : MX} {N : NN} {Ω : Nat → MS → Prop} (hsk : m_Sk X) (hd : 1 ≤ d) (hG : m_G d yX5_byteAt.cls yX5_byteAt.name cX5_byteAt 2 n0 s0 nF sF Ω) {out : Int} (hE : m_Gd d yX5_byteAt cX5_byteAt 2 (some .int) X (some (.inl out)) N X Ω) (hF : f_X5_byteAt_j21 X N = some out) : Ω 21 ([none, none], [], N, X) := by
  unfold f_X5_byteAt_j21 at hF
  refine s_iconst hG dX5_byteAt_21 ⟨by decide, by decide⟩ ?_
  exact t_X5_byteAt_j22 hsk hd hG hE hF
theorem t_X5_byteAt {d : Nat} {X : MX} {N : NN} {a1 : Int} {out : Int} (hsk : m_Sk X) (hd : 1 ≤ d) (hF : f_X5_byteAt X N a1 = some out) : m_Call d yX5_byteAt cX5_byteAt 2 (some .int) [(.inr (.inr 16)), (.inl a1)] N X (some (.inl out)) N X := by
  refine m_mk (ls0 := [some (.inr (.inr 16)), some (.inl a1)]) (by decide) rfl (Nat.le_of_ble_eq_true rfl) (Nat.le_refl _) (Nat.le_refl _) (fun Ω hE => ?_)
  have hG := hE.G
  unfold f_X5_byteAt at hF
  refine s_iload_n hG dX5_byteAt_0 rfl ?_
  refine s_if_lt hG 21 dX5_byteAt_1 (by decide) (fun c3 => ?_) (fun c3 => ?_)
  · replace hF := Eq.trans (if_pos c3).symm hF
    refine m_weak (ls1 := [none, none]) hG trivial ?_
    exact t_X5_byteAt_j21 hsk hd hG hE hF
  · replace hF := Eq.trans (if_neg c3).symm hF
    refine s_iload_n hG dX5_byteAt_4 rfl ?_
    refine s_aload_n hG dX5_byteAt_5 rfl ?_
    refine s_geti hG dX5_byteAt_6 fl_RX5_33 (sk_k hsk 16 rfl) rfl ?_
    refine s_icmp_ge hG 21 dX5_byteAt_9 (by decide) (fun c2 => ?_) (fun c2 => ?_)
    · replace hF := Eq.trans (if_pos c2).symm hF
      refine s_aload_n hG dX5_byteAt_12 rfl ?_
      refine s_getr (r := 17) hG dX5_byteAt_13 fl_RX5_11 (sk_k hsk 16 rfl) rfl (sk_R hsk 16 0 rfl) ?_
      refine s_iload_n hG dX5_byteAt_16 rfl ?_
      obtain ⟨g1, hF⟩ := gd_some hF
      refine s_ialdj (j := a1.toNat) hG dX5_byteAt_17 (sk_K hsk 17 rfl) g1 rfl ?_
      refine s_goto hG 22 dX5_byteAt_18 (by decide) ?_
      refine m_weak (ls1 := [none, none]) hG trivial ?_
      exact t_X5_byteAt_j22 hsk hd hG hE hF
    · replace hF := Eq.trans (if_neg c2).symm hF
      refine m_weak (ls1 := [none, none]) hG trivial ?_
      exact t_X5_byteAt_j21 hsk hd hG hE hF
-- X11_row
theorem t_X11_row_l35_j98 {d n0 s0 nF sF : Nat} {X : MX} {Ω : Nat → MS → Prop} {N : NN} {a1 : Int} {a2 : Int} {a3 : Int} (hsk : m_Sk X) (hd : 3 ≤ d) (hG : m_G d yX11_row.cls yX11_row.name cX11_row 4 n0 s0 nF sF Ω) {out : ((NN × Int × Int × Int) ⊕ (NN × Int))} (hK0 : ∀ s' : (NN × Int × Int × Int), out = .inl s' → Ω 35 ([some (.inr (.inr 3)), some (.inl (s'.2.1)), some (.inl (s'.2.2.1)), some (.inl (s'.2.2.2))], [], s'.1, X)) (hK1 : ∀ t : (NN × Int), out = .inr t → Ω 104 ([some (.inr (.inr 3)), none, some (.inl t.2), none], [], t.1, X)) (hF : f_X11_row_l35_j98 X N a1 a2 a3 = some out) : Ω 98 ([some (.inr (.inr 3)), some (.inl a1), some (.inl a2), some (.inl a3)], [], N, X) := by
  unfold f_X11_row_l35_j98 at hF
  refine s_iinc hG dX11_row_98 (by decide) rfl rfl ?_
  refine s_goto hG 35 dX11_row_101 (by decide) ?_
  cases hF
  exact hK0 _ rfl
theorem t_X11_row_l35_j88 {d n0 s0 nF sF : Nat} {X : MX} {Ω : Nat → MS → Prop} {N : NN} {a1 : Int} {a2 : Int} {a3 : Int} (hsk : m_Sk X) (hd : 3 ≤ d) (hG : m_G d yX11_row.cls yX11_row.name cX11_row 4 n0 s0 nF sF Ω) {out : ((NN × Int × Int × Int) ⊕ (NN × Int))} (hK0 : ∀ s' : (NN × Int × Int × Int), out = .inl s' → Ω 35 ([some (.inr (.inr 3)), some (.inl (s'.2.1)), some (.inl (s'.2.2.1)), some (.inl (s'.2.2.2))], [], s'.1, X)) (hK1 : ∀ t : (NN × Int), out = .inr t → Ω 104 ([some (.inr (.inr 3)), none, some (.inl t.2), none], [], t.1, X)) (hF : f_X11_row_l35_j88 X N a1 a2 a3 = some out) : Ω 88 ([some (.inr (.inr 3)), some (.inl a1), some (.inl a2), some (.inl a3)], [], N, X) := by
  unfold f_X11_row_l35_j88 at hF
  refine s_aload_n hG dX11_row_88 rfl ?_
  refine s_dup hG dX11_row_89 rfl ?_
  refine s_geti hG dX11_row_90 fl_RX11_97 (sk_k hsk 3 rfl) rfl ?_
  refine s_iconst hG dX11_row_93 ⟨by decide, by decide⟩ ?_
  refine s_iadd hG dX11_row_94 ?_
  refine s_puti hG dX11_row_95 fl_RX11_97 (fun h => by cases h) (sk_k hsk 3 rfl) rfl ?_
  exact t_X11_row_l35_j98 hsk hd hG hK0 hK1 hF
theorem t_X11_row_b35 {d n0 s0 nF sF : Nat} {X : MX} {Ω : Nat → MS → Prop} {N : NN} {a1 : Int} {a2 : Int} {a3 : Int} (hsk : m_Sk X) (hd : 3 ≤ d) (hG : m_G d yX11_row.cls yX11_row.name cX11_row 4 n0 s0 nF sF Ω) {out : ((NN × Int × Int × Int) ⊕ (NN × Int))} (hK0 : ∀ s' : (NN × Int × Int × Int), out = .inl s' → Ω 35 ([some (.inr (.inr 3)), some (.inl (s'.2.1)), some (.inl (s'.2.2.1)), some (.inl (s'.2.2.2))], [], s'.1, X)) (hK1 : ∀ t : (NN × Int), out = .inr t → Ω 104 ([some (.inr (.inr 3)), none, some (.inl t.2), none], [], t.1, X)) (hF : b_X11_row_35 X N a1 a2 a3 = some out) : Ω 35 ([some (.inr (.inr 3)), some (.inl a1), some (.inl a2), some (.inl a3)], [], N, X) := by
  unfold b_X11_row_35 at hF
  refine s_iload_n hG dX11_row_35 rfl ?_
  refine s_iload_n hG dX11_row_36 rfl ?_
  refine s_icmp_ge hG 104 dX11_row_37 (by decide) (fun c11 => ?_) (fun c11 => ?_)
  · replace hF := Eq.trans (if_pos c11).symm hF
    refine s_iload_n hG dX11_row_40 rfl ?_
    refine s_iconst hG dX11_row_41 ⟨by decide, by decide⟩ ?_
    refine s_iadd hG dX11_row_42 ?_
    refine s_iload_n hG dX11_row_43 rfl ?_
    refine s_icmp_gt hG 88 dX11_row_44 (by decide) (fun c10 => ?_) (fun c10 => ?_)
    · replace hF := Eq.trans (if_pos c10).symm hF
      exact t_X11_row_l35_j88 hsk hd hG hK0 hK1 hF
    · replace hF := Eq.trans (if_neg c10).symm hF
      refine s_aload_n hG dX11_row_47 rfl ?_
      refine s_aload_n hG dX11_row_48 rfl ?_
      refine s_getr (r := 16) hG dX11_row_49 fl_RX11_32 (sk_k hsk 3 rfl) rfl (sk_R hsk 3 4 rfl) ?_
      refine s_iload_n hG dX11_row_52 rfl ?_
      obtain ⟨o5, ho5, hF⟩ := bd_some hF
      refine s_callV (d' := d - 1) (ci := 5) (args := [.inl a3]) hG (by omega) dX11_row_53 cv_RX11_174 cw_X5_byteAt rfl rfl (sk_k hsk 16 rfl) (Nat.le_of_ble_eq_true rfl) rfl (t_X5_byteAt hsk (by omega) ho5) ?_
      refine s_aload_n hG dX11_row_56 rfl ?_
      refine s_getr (r := 16) hG dX11_row_57 fl_RX11_32 (sk_k hsk 3 rfl) rfl (sk_R hsk 3 4 rfl) ?_
      refine s_iload_n hG dX11_row_60 rfl ?_
      refine s_iconst hG dX11_row_61 ⟨by decide, by decide⟩ ?_
      refine s_iadd hG dX11_row_62 ?_
      obtain ⟨o6, ho6, hF⟩ := bd_some hF
      refine s_callV (d' := d - 1) (ci := 5) (args := [.inl (m_w (a3 + 1))]) hG (by omega) dX11_row_63 cv_RX11_174 cw_X5_byteAt rfl rfl (sk_k hsk 16 rfl) (Nat.le_of_ble_eq_true rfl) rfl (t_X5_byteAt hsk (by omega) ho6) ?_
      refine s_aload_n hG dX11_row_66 rfl ?_
      refine s_getr (r := 16) hG dX11_row_67 fl_RX11_32 (sk_k hsk 3 rfl) rfl (sk_R hsk 3 4 rfl) ?_
      refine s_iload_n hG dX11_row_70 rfl ?_
      refine s_iconst hG dX11_row_71 ⟨by decide, by decide⟩ ?_
      refine s_iadd hG dX11_row_72 ?_
      obtain ⟨o7, ho7, hF⟩ := bd_some hF
      refine s_callV (d' := d - 1) (ci := 5) (args := [.inl (m_w (a3 + 2))]) hG (by omega) dX11_row_73 cv_RX11_174 cw_X5_byteAt rfl rfl (sk_k hsk 16 rfl) (Nat.le_of_ble_eq_true rfl) rfl (t_X5_byteAt hsk (by omega) ho7) ?_
      obtain ⟨o8, ho8, hF⟩ := bd_some hF
      refine s_callV (d' := d - 1) (ci := 11) (args := [.inl o5, .inl o6, .inl o7]) hG (by omega) dX11_row_76 cv_RX11_177 cw_X11_comes rfl rfl (sk_k hsk 3 rfl) (Nat.le_of_ble_eq_true rfl) rfl (t_X11_comes hsk (by omega) ho8) ?_
      refine s_if_eq hG 88 dX11_row_79 (by decide) (fun c9 => ?_) (fun c9 => ?_)
      · replace hF := Eq.trans (if_pos c9).symm hF
        exact t_X11_row_l35_j88 hsk hd hG hK0 hK1 hF
      · replace hF := Eq.trans (if_neg c9).symm hF
        refine s_iinc hG dX11_row_82 (by decide) rfl rfl ?_
        refine s_goto hG 98 dX11_row_85 (by decide) ?_
        exact t_X11_row_l35_j98 hsk hd hG hK0 hK1 hF
  · replace hF := Eq.trans (if_neg c11).symm hF
    cases hF
    refine m_weak (ls1 := [some (.inr (.inr 3)), none, some (.inl a2), none]) hG ⟨rfl, ⟨rfl, trivial⟩⟩ ?_
    exact hK1 _ rfl
theorem t_X11_row_lp35 {d n0 s0 nF sF : Nat} {X : MX} {Ω : Nat → MS → Prop} {N : NN} {a1 : Int} {a2 : Int} {a3 : Int} (hsk : m_Sk X) (hd : 3 ≤ d) (hG : m_G d yX11_row.cls yX11_row.name cX11_row 4 n0 s0 nF sF Ω) {t : (NN × Int)} (hK1 : Ω 104 ([some (.inr (.inr 3)), none, some (.inl t.2), none], [], t.1, X)) (hl : lp (fun s => b_X11_row_35 X s.1 s.2.1 s.2.2.1 s.2.2.2) (N, a1, a2, a3) = some t) : Ω 35 ([some (.inr (.inr 3)), some (.inl a1), some (.inl a2), some (.inl a3)], [], N, X) := by
  refine lp_ok (P := fun s => Ω 35 ([some (.inr (.inr 3)), some (.inl s.2.1), some (.inl s.2.2.1), some (.inl s.2.2.2)], [], s.1, X)) (K := fun t => Ω 104 ([some (.inr (.inr 3)), none, some (.inl t.2), none], [], t.1, X)) (fun s out hF hK0 hK1 => ?_) hl hK1
  exact t_X11_row_b35 hsk hd hG (out := out) (fun s' e => hK0 s' e) (fun t' e => hK1 t' e) hF
theorem t_X11_row {d : Nat} {X : MX} {N : NN} {out : (Int × NN)} (hsk : m_Sk X) (hd : 3 ≤ d) (hF : f_X11_row X N = some out) : m_Call d yX11_row cX11_row 4 (some .int) [(.inr (.inr 3))] N X (some (.inl out.1)) out.2 X := by
  refine m_mk (ls0 := [some (.inr (.inr 3)), none, none, none]) (by decide) rfl (Nat.le_of_ble_eq_true rfl) (Nat.le_refl _) (Nat.le_refl _) (fun Ω hE => ?_)
  have hG := hE.G
  unfold f_X11_row at hF
  refine s_aload_n hG dX11_row_0 rfl ?_
  refine s_getr (r := 16) hG dX11_row_1 fl_RX11_32 (sk_k hsk 3 rfl) rfl (sk_R hsk 3 4 rfl) ?_
  obtain ⟨o1, ho1, hF⟩ := bd_some hF
  refine s_callV (d' := d - 1) (ci := 5) (args := []) hG (by omega) dX11_row_4 cv_RX11_167 cw_X5_length rfl rfl (sk_k hsk 16 rfl) (Nat.le_of_ble_eq_true rfl) rfl (t_X5_length hsk (by omega) ho1) ?_
  refine s_istore_n hG dX11_row_7 (by decide) rfl ?_
  refine s_iload_n hG dX11_row_8 rfl ?_
  refine s_if_ne hG 19 dX11_row_9 (by decide) (fun c16 => ?_) (fun c16 => ?_)
  · replace hF := Eq.trans (if_pos c16).symm hF
    refine s_aload_n hG dX11_row_12 rfl ?_
    refine s_bipush hG dX11_row_13 bp_m6 ⟨by decide, by decide⟩ ?_
    obtain ⟨o2, ho2, hF⟩ := bd_some hF
    refine s_callV (d' := d - 1) (ci := 11) (args := [.inl (-6)]) hG (by omega) dX11_row_15 cv_RX11_104 cw_X11_refuse rfl rfl (sk_k hsk 3 rfl) (Nat.le_of_ble_eq_true rfl) rfl (t_X11_refuse hsk (by omega) ho2) ?_
    cases hF
    exact s_iret hE dX11_row_18 rfl
  · replace hF := Eq.trans (if_neg c16).symm hF
    refine s_aload_n hG dX11_row_19 rfl ?_
    refine s_getr (r := 13) hG dX11_row_20 fl_RX11_25 (sk_k hsk 3 rfl) rfl (sk_R hsk 3 3 rfl) ?_
    obtain ⟨o3, ho3, hF⟩ := bd_some hF
    refine s_callV (d' := d - 1) (ci := 4) (args := []) hG (by omega) dX11_row_23 cv_RX11_111 cw_X4_clear rfl rfl (sk_k hsk 13 rfl) (Nat.le_of_ble_eq_true rfl) rfl (t_X4_clear hsk (by omega) (sk_P13 hsk) ho3) ?_
    refine s_iconst hG dX11_row_26 ⟨by decide, by decide⟩ ?_
    refine s_istore_n hG dX11_row_27 (by decide) rfl ?_
    refine s_aload_n hG dX11_row_28 rfl ?_
    refine s_iconst hG dX11_row_29 ⟨by decide, by decide⟩ ?_
    refine s_puti hG dX11_row_30 fl_RX11_97 (fun h => by cases h) (sk_k hsk 3 rfl) rfl ?_
    refine s_iconst hG dX11_row_33 ⟨by decide, by decide⟩ ?_
    refine s_istore_n hG dX11_row_34 (by decide) rfl ?_
    obtain ⟨o13, hlo13, hF⟩ := bd_some hF
    refine t_X11_row_lp35 hsk hd hG ?_ hlo13
    refine s_aload_n hG dX11_row_104 rfl ?_
    refine s_getr (r := 16) hG dX11_row_105 fl_RX11_32 (sk_k hsk 3 rfl) rfl (sk_R hsk 3 4 rfl) ?_
    refine s_iconst hG dX11_row_108 ⟨by decide, by decide⟩ ?_
    obtain ⟨o14, ho14, hF⟩ := bd_some hF
    refine s_callV (d' := d - 1) (ci := 5) (args := [.inl 0]) hG (by omega) dX11_row_109 cv_RX11_171 cw_X5_cut rfl rfl (sk_k hsk 16 rfl) (Nat.le_of_ble_eq_true rfl) rfl (t_X5_cut hsk (by omega) ho14) ?_
    refine s_aload_n hG dX11_row_112 rfl ?_
    refine s_iload_n hG dX11_row_113 rfl ?_
    obtain ⟨o15, ho15, hF⟩ := bd_some hF
    refine s_callV (d' := d - 1) (ci := 11) (args := [.inl o13.2]) hG (by omega) dX11_row_114 cv_RX11_118 cw_X11_accept rfl rfl (sk_k hsk 3 rfl) (Nat.le_of_ble_eq_true rfl) rfl (t_X11_accept hsk (by omega) ho15) ?_
    cases hF
    exact s_iret hE dX11_row_117 rfl
