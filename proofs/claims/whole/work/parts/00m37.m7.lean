-- X12_readExpression
theorem t_X12_readExpression_l20_j72 {d n0 s0 nF sF : Nat} {X : MX} {Ω : Nat → MS → Prop} {N : NN} {a1 : Int} {z0 : Int} (hsk : m_Sk X) (hd : 7 ≤ d) (hG : m_G d yX12_readExpression.cls yX12_readExpression.name cX12_readExpression 3 n0 s0 nF sF Ω) {out : ((NN × Int × Int) ⊕ NN)} (hK0 : ∀ s' : (NN × Int × Int), out = .inl s' → Ω 20 ([some (.inr (.inr 64)), some (.inl (s'.2.1)), some (.inl (s'.2.2))], [], s'.1, X)) (hK1 : ∀ t : NN, out = .inr t → Ω 76 ([some (.inr (.inr 64)), none, none], [], t, X)) (hF : f_X12_readExpression_l20_j72 X N a1 z0 = some out) : Ω 72 ([some (.inr (.inr 64)), some (.inl a1), none], [(.inl z0)], N, X) := by
  unfold f_X12_readExpression_l20_j72 at hF
  refine s_istore_n hG dX12_readExpression_72 (by decide) rfl ?_
  refine s_goto hG 20 dX12_readExpression_73 (by decide) ?_
  cases hF
  exact hK0 _ rfl
theorem t_X12_readExpression_b20 {d n0 s0 nF sF : Nat} {X : MX} {Ω : Nat → MS → Prop} {N : NN} {a1 : Int} {a2 : Int} (hsk : m_Sk X) (hd : 7 ≤ d) (hG : m_G d yX12_readExpression.cls yX12_readExpression.name cX12_readExpression 3 n0 s0 nF sF Ω) {out : ((NN × Int × Int) ⊕ NN)} (hK0 : ∀ s' : (NN × Int × Int), out = .inl s' → Ω 20 ([some (.inr (.inr 64)), some (.inl (s'.2.1)), some (.inl (s'.2.2))], [], s'.1, X)) (hK1 : ∀ t : NN, out = .inr t → Ω 76 ([some (.inr (.inr 64)), none, none], [], t, X)) (hF : b_X12_readExpression_20 X N a1 a2 = some out) : Ω 20 ([some (.inr (.inr 64)), some (.inl a1), some (.inl a2)], [], N, X) := by
  unfold b_X12_readExpression_20 at hF
  refine s_aload_n hG dX12_readExpression_20 rfl ?_
  refine s_getz hG dX12_readExpression_21 fl_RX12_249 (sk_k hsk 64 rfl) rfl ?_
  refine s_if_ne hG 76 dX12_readExpression_24 (by decide) (fun c12 => ?_) (fun c12 => ?_)
  · replace hF := Eq.trans (if_pos c12).symm hF
    refine s_iload_n hG dX12_readExpression_27 rfl ?_
    refine s_iconst hG dX12_readExpression_28 ⟨by decide, by decide⟩ ?_
    refine s_icmp_eq hG 76 dX12_readExpression_29 (by decide) (fun c11 => ?_) (fun c11 => ?_)
    · replace hF := Eq.trans (if_pos c11).symm hF
      cases hF
      refine m_weak (ls1 := [some (.inr (.inr 64)), none, none]) hG ⟨rfl, trivial⟩ ?_
      exact hK1 _ rfl
    · replace hF := Eq.trans (if_neg c11).symm hF
      refine s_iload_n hG dX12_readExpression_32 rfl ?_
      refine s_if_ne hG 43 dX12_readExpression_33 (by decide) (fun c10 => ?_) (fun c10 => ?_)
      · replace hF := Eq.trans (if_pos c10).symm hF
        refine s_aload_n hG dX12_readExpression_36 rfl ?_
        obtain ⟨o4, ho4, hF⟩ := bd_some hF
        refine s_callV (d' := d - 1) (ci := 12) (args := []) hG (by omega) dX12_readExpression_37 cv_RX12_366 cw_X12_readPlain rfl rfl (sk_k hsk 64 rfl) (Nat.le_of_ble_eq_true rfl) rfl (t_X12_readPlain hsk (by omega) ho4) ?_
        refine s_goto hG 72 dX12_readExpression_40 (by decide) ?_
        refine m_weak (ls1 := [some (.inr (.inr 64)), some (.inl a1), none]) hG ⟨rfl, ⟨rfl, trivial⟩⟩ ?_
        exact t_X12_readExpression_l20_j72 hsk hd hG hK0 hK1 hF
      · replace hF := Eq.trans (if_neg c10).symm hF
        refine s_iload_n hG dX12_readExpression_43 rfl ?_
        refine s_iconst hG dX12_readExpression_44 ⟨by decide, by decide⟩ ?_
        refine s_icmp_ne hG 55 dX12_readExpression_45 (by decide) (fun c9 => ?_) (fun c9 => ?_)
        · replace hF := Eq.trans (if_pos c9).symm hF
          refine s_aload_n hG dX12_readExpression_48 rfl ?_
          obtain ⟨o5, ho5, hF⟩ := bd_some hF
          refine s_callV (d' := d - 1) (ci := 12) (args := []) hG (by omega) dX12_readExpression_49 cv_RX12_349 cw_X12_readPart rfl rfl (sk_k hsk 64 rfl) (Nat.le_of_ble_eq_true rfl) rfl (t_X12_readPart hsk (by omega) ho5) ?_
          refine s_goto hG 72 dX12_readExpression_52 (by decide) ?_
          refine m_weak (ls1 := [some (.inr (.inr 64)), some (.inl a1), none]) hG ⟨rfl, ⟨rfl, trivial⟩⟩ ?_
          exact t_X12_readExpression_l20_j72 hsk hd hG hK0 hK1 hF
        · replace hF := Eq.trans (if_neg c9).symm hF
          refine s_iload_n hG dX12_readExpression_55 rfl ?_
          refine s_iconst hG dX12_readExpression_56 ⟨by decide, by decide⟩ ?_
          refine s_icmp_ne hG 68 dX12_readExpression_57 (by decide) (fun c8 => ?_) (fun c8 => ?_)
          · replace hF := Eq.trans (if_pos c8).symm hF
            refine s_aload_n hG dX12_readExpression_60 rfl ?_
            refine s_iload_n hG dX12_readExpression_61 rfl ?_
            obtain ⟨o6, ho6, hF⟩ := bd_some hF
            refine s_callV (d' := d - 1) (ci := 12) (args := [.inl a1]) hG (by omega) dX12_readExpression_62 cv_RX12_369 cw_X12_behindSum rfl rfl (sk_k hsk 64 rfl) (Nat.le_of_ble_eq_true rfl) rfl (t_X12_behindSum hsk (by omega) ho6) ?_
            refine s_goto hG 72 dX12_readExpression_65 (by decide) ?_
            refine m_weak (ls1 := [some (.inr (.inr 64)), some (.inl a1), none]) hG ⟨rfl, ⟨rfl, trivial⟩⟩ ?_
            exact t_X12_readExpression_l20_j72 hsk hd hG hK0 hK1 hF
          · replace hF := Eq.trans (if_neg c8).symm hF
            refine s_aload_n hG dX12_readExpression_68 rfl ?_
            obtain ⟨o7, ho7, hF⟩ := bd_some hF
            refine s_callV (d' := d - 1) (ci := 12) (args := []) hG (by omega) dX12_readExpression_69 cv_RX12_373 cw_X12_behindTest rfl rfl (sk_k hsk 64 rfl) (Nat.le_of_ble_eq_true rfl) rfl (t_X12_behindTest hsk (by omega) ho7) ?_
            refine m_weak (ls1 := [some (.inr (.inr 64)), some (.inl a1), none]) hG ⟨rfl, ⟨rfl, trivial⟩⟩ ?_
            exact t_X12_readExpression_l20_j72 hsk hd hG hK0 hK1 hF
  · replace hF := Eq.trans (if_neg c12).symm hF
    cases hF
    refine m_weak (ls1 := [some (.inr (.inr 64)), none, none]) hG ⟨rfl, trivial⟩ ?_
    exact hK1 _ rfl
theorem t_X12_readExpression_lp20 {d n0 s0 nF sF : Nat} {X : MX} {Ω : Nat → MS → Prop} {N : NN} {a1 : Int} {a2 : Int} (hsk : m_Sk X) (hd : 7 ≤ d) (hG : m_G d yX12_readExpression.cls yX12_readExpression.name cX12_readExpression 3 n0 s0 nF sF Ω) {t : NN} (hK1 : Ω 76 ([some (.inr (.inr 64)), none, none], [], t, X)) (hl : lp (fun s => b_X12_readExpression_20 X s.1 s.2.1 s.2.2) (N, a1, a2) = some t) : Ω 20 ([some (.inr (.inr 64)), some (.inl a1), some (.inl a2)], [], N, X) := by
  refine lp_ok (P := fun s => Ω 20 ([some (.inr (.inr 64)), some (.inl s.2.1), some (.inl s.2.2)], [], s.1, X)) (K := fun t => Ω 76 ([some (.inr (.inr 64)), none, none], [], t, X)) (fun s out hF hK0 hK1 => ?_) hl hK1
  exact t_X12_readExpression_b20 hsk hd hG (out := out) (fun s' e => hK0 s' e) (fun t' e => hK1 t' e) hF
theorem t_X12_readExpression_j19 {d n0 s0 nF sF : Nat} {X : MX} {Ω : Nat → MS → Prop} {N : NN} {a1 : Int} {z0 : Int} (hsk : m_Sk X) (hd : 7 ≤ d) (hG : m_G d yX12_readExpression.cls yX12_readExpression.name cX12_readExpression 3 n0 s0 nF sF Ω) {out : NN} (hE : m_Gd d yX12_readExpression cX12_readExpression 3 none X none out X Ω) (hF : f_X12_readExpression_j19 X N a1 z0 = some out) : Ω 19 ([some (.inr (.inr 64)), some (.inl a1), none], [(.inl z0)], N, X) := by
  unfold f_X12_readExpression_j19 at hF
  refine s_istore_n hG dX12_readExpression_19 (by decide) rfl ?_
  obtain ⟨o13, hlo13, hF⟩ := bd_some hF
  refine t_X12_readExpression_lp20 hsk hd hG ?_ hlo13
  refine s_aload_n hG dX12_readExpression_76 rfl ?_
  refine s_iconst hG dX12_readExpression_77 ⟨by decide, by decide⟩ ?_
  obtain ⟨o14, ho14, hF⟩ := bd_some hF
  refine s_callV (d' := d - 1) (ci := 12) (args := [.inl 1]) hG (by omega) dX12_readExpression_78 cv_RX12_352 cw_X12_settle rfl rfl (sk_k hsk 64 rfl) (Nat.le_of_ble_eq_true rfl) rfl (t_X12_settle hsk (by omega) ho14) ?_
  cases hF
  exact s_vret hE dX12_readExpression_81 rfl
theorem t_X12_readExpression {d : Nat} {X : MX} {N : NN} {a1 : Int} {out : NN} (hsk : m_Sk X) (hd : 7 ≤ d) (hF : f_X12_readExpression X N a1 = some out) : m_Call d yX12_readExpression cX12_readExpression 3 none [(.inr (.inr 64)), (.inl a1)] N X none out X := by
  refine m_mk (ls0 := [some (.inr (.inr 64)), some (.inl a1), none]) (by decide) rfl (Nat.le_of_ble_eq_true rfl) (Nat.le_refl _) (Nat.le_refl _) (fun Ω hE => ?_)
  have hG := hE.G
  unfold f_X12_readExpression at hF
  refine s_aload_n hG dX12_readExpression_0 rfl ?_
  refine s_iconst hG dX12_readExpression_1 ⟨by decide, by decide⟩ ?_
  refine s_puti hG dX12_readExpression_2 fl_RX12_291 (fun h => by cases h) (sk_k hsk 64 rfl) rfl ?_
  refine s_aload_n hG dX12_readExpression_5 rfl ?_
  refine s_iconst hG dX12_readExpression_6 ⟨by decide, by decide⟩ ?_
  refine s_puti hG dX12_readExpression_7 fl_RX12_311 (fun h => by cases h) (sk_k hsk 64 rfl) rfl ?_
  refine s_iload_n hG dX12_readExpression_10 rfl ?_
  refine s_if_eq hG 18 dX12_readExpression_11 (by decide) (fun c3 => ?_) (fun c3 => ?_)
  · replace hF := Eq.trans (if_pos c3).symm hF
    refine s_iconst hG dX12_readExpression_18 ⟨by decide, by decide⟩ ?_
    exact t_X12_readExpression_j19 hsk hd hG hE hF
  · replace hF := Eq.trans (if_neg c3).symm hF
    refine s_iconst hG dX12_readExpression_14 ⟨by decide, by decide⟩ ?_
    refine s_goto hG 19 dX12_readExpression_15 (by decide) ?_
    exact t_X12_readExpression_j19 hsk hd hG hE hF
-- X12_readLaw
theorem t_X12_readLaw_b85 {d n0 s0 nF sF : Nat} {X : MX} {Ω : Nat → MS → Prop} {N : NN} {a1 : Int} {a2 : Int} {a3 : Int} (hsk : m_Sk X) (hd : 8 ≤ d) (hG : m_G d yX12_readLaw.cls yX12_readLaw.name cX12_readLaw 4 n0 s0 nF sF Ω) {out : ((NN × Int × Int × Int) ⊕ (NN × Int × Int))} (hK0 : ∀ s' : (NN × Int × Int × Int), out = .inl s' → Ω 85 ([some (.inr (.inr 64)), some (.inl (s'.2.1)), some (.inl (s'.2.2.1)), some (.inl (s'.2.2.2))], [], s'.1, X)) (hK1 : ∀ t : (NN × Int × Int), out = .inr t → Ω 106 ([some (.inr (.inr 64)), some (.inl t.2.1), some (.inl t.2.2), none], [], t.1, X)) (hF : b_X12_readLaw_85 X N a1 a2 a3 = some out) : Ω 85 ([some (.inr (.inr 64)), some (.inl a1), some (.inl a2), some (.inl a3)], [], N, X) := by
  unfold b_X12_readLaw_85 at hF
  refine s_iload_n hG dX12_readLaw_85 rfl ?_
  refine s_bipush hG dX12_readLaw_86 bp_8 ⟨by decide, by decide⟩ ?_
  refine s_icmp_ge hG 106 dX12_readLaw_88 (by decide) (fun c12 => ?_) (fun c12 => ?_)
  · replace hF := Eq.trans (if_pos c12).symm hF
    refine s_aload_n hG dX12_readLaw_91 rfl ?_
    refine s_getr (r := 74) hG dX12_readLaw_92 fl_RX12_42 (sk_k hsk 64 rfl) rfl (sk_R hsk 64 22 rfl) ?_
    refine s_iload_n hG dX12_readLaw_95 rfl ?_
    refine s_iload_n hG dX12_readLaw_96 rfl ?_
    refine s_iadd hG dX12_readLaw_97 ?_
    refine s_iconst hG dX12_readLaw_98 ⟨by decide, by decide⟩ ?_
    obtain ⟨g10, hF⟩ := gd_some hF
    refine s_iastj (j := (m_w (a2 + a3)).toNat) hG dX12_readLaw_99 (sk_K hsk 74 rfl) g10 rfl ?_
    refine s_iinc hG dX12_readLaw_100 (by decide) rfl rfl ?_
    refine s_goto hG 85 dX12_readLaw_103 (by decide) ?_
    cases hF
    exact hK0 _ rfl
  · replace hF := Eq.trans (if_neg c12).symm hF
    cases hF
    refine m_weak (ls1 := [some (.inr (.inr 64)), some (.inl a1), some (.inl a2), none]) hG ⟨rfl, ⟨rfl, ⟨rfl, trivial⟩⟩⟩ ?_
    exact hK1 _ rfl
theorem t_X12_readLaw_lp85 {d n0 s0 nF sF : Nat} {X : MX} {Ω : Nat → MS → Prop} {N : NN} {a1 : Int} {a2 : Int} {a3 : Int} (hsk : m_Sk X) (hd : 8 ≤ d) (hG : m_G d yX12_readLaw.cls yX12_readLaw.name cX12_readLaw 4 n0 s0 nF sF Ω) {t : (NN × Int × Int)} (hK1 : Ω 106 ([some (.inr (.inr 64)), some (.inl t.2.1), some (.inl t.2.2), none], [], t.1, X)) (hl : lp (fun s => b_X12_readLaw_85 X s.1 s.2.1 s.2.2.1 s.2.2.2) (N, a1, a2, a3) = some t) : Ω 85 ([some (.inr (.inr 64)), some (.inl a1), some (.inl a2), some (.inl a3)], [], N, X) := by
  refine lp_ok (P := fun s => Ω 85 ([some (.inr (.inr 64)), some (.inl s.2.1), some (.inl s.2.2.1), some (.inl s.2.2.2)], [], s.1, X)) (K := fun t => Ω 106 ([some (.inr (.inr 64)), some (.inl t.2.1), some (.inl t.2.2), none], [], t.1, X)) (fun s out hF hK0 hK1 => ?_) hl hK1
  exact t_X12_readLaw_b85 hsk hd hG (out := out) (fun s' e => hK0 s' e) (fun t' e => hK1 t' e) hF
theorem t_X12_readLaw_j195 {d n0 s0 nF sF : Nat} {X : MX} {Ω : Nat → MS → Prop} {N : NN} {a2 : Int} (hsk : m_Sk X) (hd : 8 ≤ d) (hG : m_G d yX12_readLaw.cls yX12_readLaw.name cX12_readLaw 4 n0 s0 nF sF Ω) {out : NN} (hE : m_Gd d yX12_readLaw cX12_readLaw 4 none X none out X Ω) (hF : f_X12_readLaw_j195 X N a2 = some out) : Ω 195 ([some (.inr (.inr 64)), none, some (.inl a2), none], [], N, X) := by
  unfold f_X12_readLaw_j195 at hF
  refine s_aload_n hG dX12_readLaw_195 rfl ?_
  refine s_getr (r := 74) hG dX12_readLaw_196 fl_RX12_42 (sk_k hsk 64 rfl) rfl (sk_R hsk 64 22 rfl) ?_
  refine s_iload_n hG dX12_readLaw_199 rfl ?_
  refine s_bipush hG dX12_readLaw_200 bp_6 ⟨by decide, by decide⟩ ?_
  refine s_iadd hG dX12_readLaw_202 ?_
  refine s_aload_n hG dX12_readLaw_203 rfl ?_
  refine s_geti hG dX12_readLaw_204 fl_RX12_288 (sk_k hsk 64 rfl) rfl ?_
  obtain ⟨g31, hF⟩ := gd_some hF
  refine s_iastj (j := (m_w (a2 + 6)).toNat) hG dX12_readLaw_207 (sk_K hsk 74 rfl) g31 rfl ?_
  cases hF
  exact s_vret hE dX12_readLaw_208 rfl
theorem t_X12_readLaw_j145 {d n0 s0 nF sF : Nat} {X : MX} {Ω : Nat → MS → Prop} {N : NN} {a2 : Int} (hsk : m_Sk X) (hd : 8 ≤ d) (hG : m_G d yX12_readLaw.cls yX12_readLaw.name cX12_readLaw 4 n0 s0 nF sF Ω) {out : NN} (hE : m_Gd d yX12_readLaw cX12_readLaw 4 none X none out X Ω) (hF : f_X12_readLaw_j145 X N a2 = some out) : Ω 145 ([some (.inr (.inr 64)), none, some (.inl a2), none], [], N, X) := by
  unfold f_X12_readLaw_j145 at hF
  refine s_aload_n hG dX12_readLaw_145 rfl ?_
  refine s_getr (r := 74) hG dX12_readLaw_146 fl_RX12_42 (sk_k hsk 64 rfl) rfl (sk_R hsk 64 22 rfl) ?_
  refine s_iload_n hG dX12_readLaw_149 rfl ?_
  refine s_iconst hG dX12_readLaw_150 ⟨by decide, by decide⟩ ?_
  refine s_iadd hG dX12_readLaw_151 ?_
  refine s_aload_n hG dX12_readLaw_152 rfl ?_
  refine s_geti hG dX12_readLaw_153 fl_RX12_288 (sk_k hsk 64 rfl) rfl ?_
  obtain ⟨g22, hF⟩ := gd_some hF
  refine s_iastj (j := (m_w (a2 + 4)).toNat) hG dX12_readLaw_156 (sk_K hsk 74 rfl) g22 rfl ?_
  refine s_aload_n hG dX12_readLaw_157 rfl ?_
  refine s_getr (r := 74) hG dX12_readLaw_158 fl_RX12_42 (sk_k hsk 64 rfl) rfl (sk_R hsk 64 22 rfl) ?_
  refine s_iload_n hG dX12_readLaw_161 rfl ?_
  refine s_iconst hG dX12_readLaw_162 ⟨by decide, by decide⟩ ?_
  refine s_iadd hG dX12_readLaw_163 ?_
  refine s_aload_n hG dX12_readLaw_164 rfl ?_
  refine s_geti hG dX12_readLaw_165 fl_RX12_288 (sk_k hsk 64 rfl) rfl ?_
  obtain ⟨g24, hF⟩ := gd_some hF
  refine s_iastj (j := (m_w (a2 + 5)).toNat) hG dX12_readLaw_168 (sk_K hsk 74 rfl) g24 rfl ?_
  refine s_aload_n hG dX12_readLaw_169 rfl ?_
  refine s_getz hG dX12_readLaw_170 fl_RX12_249 (sk_k hsk 64 rfl) rfl ?_
  refine s_if_ne hG 195 dX12_readLaw_173 (by decide) (fun c30 => ?_) (fun c30 => ?_)
  · replace hF := Eq.trans (if_pos c30).symm hF
    refine s_aload_n hG dX12_readLaw_176 rfl ?_
    refine s_ldc2 hG dX12_readLaw_177 kc_RX12_391 ⟨by decide, by decide⟩ ?_
    obtain ⟨o26, ho26, hF⟩ := bd_some hF
    refine s_callV (d' := d - 1) (ci := 12) (args := [.inr (.inl 294)]) hG (by omega) dX12_readLaw_180 cv_RX12_307 cw_X12_isWord rfl rfl (sk_k hsk 64 rfl) (Nat.le_of_ble_eq_true rfl) rfl (t_X12_isWord hsk (by omega) ho26) ?_
    refine s_if_eq hG 195 dX12_readLaw_183 (by decide) (fun c29 => ?_) (fun c29 => ?_)
    · replace hF := Eq.trans (if_pos c29).symm hF
      exact t_X12_readLaw_j195 hsk hd hG hE hF
    · replace hF := Eq.trans (if_neg c29).symm hF
      refine s_aload_n hG dX12_readLaw_186 rfl ?_
      obtain ⟨o27, ho27, hF⟩ := bd_some hF
      refine s_callV (d' := d - 1) (ci := 12) (args := []) hG (by omega) dX12_readLaw_187 cv_RX12_253 cw_X12_next rfl rfl (sk_k hsk 64 rfl) (Nat.le_of_ble_eq_true rfl) rfl (t_X12_next hsk (by omega) ho27) ?_
      refine s_aload_n hG dX12_readLaw_190 rfl ?_
      refine s_iconst hG dX12_readLaw_191 ⟨by decide, by decide⟩ ?_
      obtain ⟨o28, ho28, hF⟩ := bd_some hF
      refine s_callV (d' := d - 1) (ci := 12) (args := [.inl 1]) hG (by omega) dX12_readLaw_192 cv_RX12_388 cw_X12_readExpression rfl rfl (sk_k hsk 64 rfl) (Nat.le_of_ble_eq_true rfl) rfl (t_X12_readExpression hsk (by omega) ho28) ?_
      exact t_X12_readLaw_j195 hsk hd hG hE hF
  · replace hF := Eq.trans (if_neg c30).symm hF
    exact t_X12_readLaw_j195 hsk hd hG hE hF
theorem t_X12_readLaw_j64 {d n0 s0 nF sF : Nat} {X : MX} {Ω : Nat → MS → Prop} {N : NN} {a1 : Int} {z1 : Int} (hsk : m_Sk X) (hd : 8 ≤ d) (hG : m_G d yX12_readLaw.cls yX12_readLaw.name cX12_readLaw 4 n0 s0 nF sF Ω) {out : NN} (hE : m_Gd d yX12_readLaw cX12_readLaw 4 none X none out X Ω) (hF : f_X12_readLaw_j64 X N a1 z1 = some out) : Ω 64 ([some (.inr (.inr 64)), some (.inl a1), none, none], [(.inl z1), (.inr (.inr 64))], N, X) := by
  unfold f_X12_readLaw_j64 at hF
  obtain ⟨o9, ho9, hF⟩ := bd_some hF
  refine s_callV (d' := d - 1) (ci := 12) (args := [.inl z1]) hG (by omega) dX12_readLaw_64 cv_RX12_284 cw_X12_must rfl rfl (sk_k hsk 64 rfl) (Nat.le_of_ble_eq_true rfl) rfl (t_X12_must hsk (by omega) ho9) ?_
  refine s_aload_n hG dX12_readLaw_67 rfl ?_
  refine s_getz hG dX12_readLaw_68 fl_RX12_249 (sk_k hsk 64 rfl) rfl ?_
  refine s_if_eq hG 75 dX12_readLaw_71 (by decide) (fun c21 => ?_) (fun c21 => ?_)
  · replace hF := Eq.trans (if_pos c21).symm hF
    refine s_bipush hG dX12_readLaw_75 bp_8 ⟨by decide, by decide⟩ ?_
    refine s_aload_n hG dX12_readLaw_77 rfl ?_
    refine s_geti hG dX12_readLaw_78 fl_RX12_379 (sk_k hsk 64 rfl) rfl ?_
    refine s_imul hG dX12_readLaw_81 ?_
    refine s_istore_n hG dX12_readLaw_82 (by decide) rfl ?_
    refine s_iconst hG dX12_readLaw_83 ⟨by decide, by decide⟩ ?_
    refine s_istore_n hG dX12_readLaw_84 (by decide) rfl ?_
    obtain ⟨o13, hlo13, hF⟩ := bd_some hF
    refine t_X12_readLaw_lp85 hsk hd hG ?_ hlo13
    refine s_aload_n hG dX12_readLaw_106 rfl ?_
    refine s_getr (r := 74) hG dX12_readLaw_107 fl_RX12_42 (sk_k hsk 64 rfl) rfl (sk_R hsk 64 22 rfl) ?_
    refine s_iload_n hG dX12_readLaw_110 rfl ?_
    refine s_iload_n hG dX12_readLaw_111 rfl ?_
    obtain ⟨g14, hF⟩ := gd_some hF
    refine s_iastj (j := o13.2.2.toNat) hG dX12_readLaw_112 (sk_K hsk 74 rfl) g14 rfl ?_
    refine s_aload_n hG dX12_readLaw_113 rfl ?_
    refine s_dup hG dX12_readLaw_114 rfl ?_
    refine s_geti hG dX12_readLaw_115 fl_RX12_379 (sk_k hsk 64 rfl) rfl ?_
    refine s_iconst hG dX12_readLaw_118 ⟨by decide, by decide⟩ ?_
    refine s_iadd hG dX12_readLaw_119 ?_
    refine s_puti hG dX12_readLaw_120 fl_RX12_379 (fun h => by cases h) (sk_k hsk 64 rfl) rfl ?_
    refine s_aload_n hG dX12_readLaw_123 rfl ?_
    refine s_getr (r := 74) hG dX12_readLaw_124 fl_RX12_42 (sk_k hsk 64 rfl) rfl (sk_R hsk 64 22 rfl) ?_
    refine s_iload_n hG dX12_readLaw_127 rfl ?_
    refine s_iconst hG dX12_readLaw_128 ⟨by decide, by decide⟩ ?_
    refine s_iadd hG dX12_readLaw_129 ?_
    refine s_aload_n hG dX12_readLaw_130 rfl ?_
    refine s_geti hG dX12_readLaw_131 fl_RX12_288 (sk_k hsk 64 rfl) rfl ?_
    obtain ⟨g17, hF⟩ := gd_some hF
    refine s_iastj (j := (m_w (o13.2.2 + 3)).toNat) hG dX12_readLaw_134 (sk_K hsk 74 rfl) g17 rfl ?_
    refine s_iload_n hG dX12_readLaw_135 rfl ?_
    refine s_iconst hG dX12_readLaw_136 ⟨by decide, by decide⟩ ?_
    refine s_icmp_eq hG 145 dX12_readLaw_137 (by decide) (fun c20 => ?_) (fun c20 => ?_)
    · replace hF := Eq.trans (if_pos c20).symm hF
      refine m_weak (ls1 := [some (.inr (.inr 64)), none, some (.inl o13.2.2), none]) hG ⟨rfl, ⟨rfl, trivial⟩⟩ ?_
      exact t_X12_readLaw_j145 hsk hd hG hE hF
    · replace hF := Eq.trans (if_neg c20).symm hF
      refine s_aload_n hG dX12_readLaw_140 rfl ?_
      refine s_iconst hG dX12_readLaw_141 ⟨by decide, by decide⟩ ?_
      obtain ⟨o19, ho19, hF⟩ := bd_some hF
      refine s_callV (d' := d - 1) (ci := 12) (args := [.inl 0]) hG (by omega) dX12_readLaw_142 cv_RX12_388 cw_X12_readExpression rfl rfl (sk_k hsk 64 rfl) (Nat.le_of_ble_eq_true rfl) rfl (t_X12_readExpression hsk (by omega) ho19) ?_
      refine m_weak (ls1 := [some (.inr (.inr 64)), none, some (.inl o13.2.2), none]) hG ⟨rfl, ⟨rfl, trivial⟩⟩ ?_
      exact t_X12_readLaw_j145 hsk hd hG hE hF
  · replace hF := Eq.trans (if_neg c21).symm hF
    cases hF
    exact s_vret hE dX12_readLaw_74 rfl
theorem t_X12_readLaw_j63 {d n0 s0 nF sF : Nat} {X : MX} {Ω : Nat → MS → Prop} {N : NN} {a1 : Int} (hsk : m_Sk X) (hd : 8 ≤ d) (hG : m_G d yX12_readLaw.cls yX12_readLaw.name cX12_readLaw 4 n0 s0 nF sF Ω) {out : NN} (hE : m_Gd d yX12_readLaw cX12_readLaw 4 none X none out X Ω) (hF : f_X12_readLaw_j63 X N a1 = some out) : Ω 63 ([some (.inr (.inr 64)), some (.inl a1), none, none], [(.inr (.inr 64))], N, X) := by
  unfold f_X12_readLaw_j63 at hF
  refine s_iconst hG dX12_readLaw_63 ⟨by decide, by decide⟩ ?_
  exact t_X12_readLaw_j64 hsk hd hG hE hF
theorem t_X12_readLaw_j43 {d n0 s0 nF sF : Nat} {X : MX} {Ω : Nat → MS → Prop} {N : NN} {z0 : Int} (hsk : m_Sk X) (hd : 8 ≤ d) (hG : m_G d yX12_readLaw.cls yX12_readLaw.name cX12_readLaw 4 n0 s0 nF sF Ω) {out : NN} (hE : m_Gd d yX12_readLaw cX12_readLaw 4 none X none out X Ω) (hF : f_X12_readLaw_j43 X N z0 = some out) : Ω 43 ([some (.inr (.inr 64)), none, none, none], [(.inl z0)], N, X) := by
  unfold f_X12_readLaw_j43 at hF
  refine s_istore_n hG dX12_readLaw_43 (by decide) rfl ?_
  refine s_aload_n hG dX12_readLaw_44 rfl ?_
  refine s_iload_n hG dX12_readLaw_45 rfl ?_
  refine s_iconst hG dX12_readLaw_46 ⟨by decide, by decide⟩ ?_
  refine s_icmp_eq hG 63 dX12_readLaw_47 (by decide) (fun c8 => ?_) (fun c8 => ?_)
  · replace hF := Eq.trans (if_pos c8).symm hF
    exact t_X12_readLaw_j63 hsk hd hG hE hF
  · replace hF := Eq.trans (if_neg c8).symm hF
    refine s_aload_n hG dX12_readLaw_50 rfl ?_
    refine s_geti hG dX12_readLaw_51 fl_RX12_379 (sk_k hsk 64 rfl) rfl ?_
    refine s_bipush hG dX12_readLaw_54 bp_12 ⟨by decide, by decide⟩ ?_
    refine s_icmp_ge hG 63 dX12_readLaw_56 (by decide) (fun c7 => ?_) (fun c7 => ?_)
    · replace hF := Eq.trans (if_pos c7).symm hF
      refine s_iconst hG dX12_readLaw_59 ⟨by decide, by decide⟩ ?_
      refine s_goto hG 64 dX12_readLaw_60 (by decide) ?_
      exact t_X12_readLaw_j64 hsk hd hG hE hF
    · replace hF := Eq.trans (if_neg c7).symm hF
      exact t_X12_readLaw_j63 hsk hd hG hE hF
theorem t_X12_readLaw {d : Nat} {X : MX} {N : NN} {out : NN} (hsk : m_Sk X) (hd : 8 ≤ d) (hF : f_X12_readLaw X N = some out) : m_Call d yX12_readLaw cX12_readLaw 4 none [(.inr (.inr 64))] N X none out X := by
  refine m_mk (ls0 := [some (.inr (.inr 64)), none, none, none]) (by decide) rfl (Nat.le_of_ble_eq_true rfl) (Nat.le_refl _) (Nat.le_refl _) (fun Ω hE => ?_)
  have hG := hE.G
  unfold f_X12_readLaw at hF
  refine s_aload_n hG dX12_readLaw_0 rfl ?_
  refine s_ldc2 hG dX12_readLaw_1 kc_RX12_382 ⟨by decide, by decide⟩ ?_
  obtain ⟨o1, ho1, hF⟩ := bd_some hF
  refine s_callV (d' := d - 1) (ci := 12) (args := [.inr (.inl 24627848)]) hG (by omega) dX12_readLaw_4 cv_RX12_307 cw_X12_isWord rfl rfl (sk_k hsk 64 rfl) (Nat.le_of_ble_eq_true rfl) rfl (t_X12_isWord hsk (by omega) ho1) ?_
  refine s_if_eq hG 14 dX12_readLaw_7 (by decide) (fun c6 => ?_) (fun c6 => ?_)
  · replace hF := Eq.trans (if_pos c6).symm hF
    refine s_aload_n hG dX12_readLaw_14 rfl ?_
    refine s_ldc2 hG dX12_readLaw_15 kc_RX12_384 ⟨by decide, by decide⟩ ?_
    obtain ⟨o2, ho2, hF⟩ := bd_some hF
    refine s_callV (d' := d - 1) (ci := 12) (args := [.inr (.inl 11703827)]) hG (by omega) dX12_readLaw_18 cv_RX12_307 cw_X12_isWord rfl rfl (sk_k hsk 64 rfl) (Nat.le_of_ble_eq_true rfl) rfl (t_X12_isWord hsk (by omega) ho2) ?_
    refine s_if_eq hG 28 dX12_readLaw_21 (by decide) (fun c5 => ?_) (fun c5 => ?_)
    · replace hF := Eq.trans (if_pos c5).symm hF
      refine s_aload_n hG dX12_readLaw_28 rfl ?_
      refine s_ldc2 hG dX12_readLaw_29 kc_RX12_386 ⟨by decide, by decide⟩ ?_
      obtain ⟨o3, ho3, hF⟩ := bd_some hF
      refine s_callV (d' := d - 1) (ci := 12) (args := [.inr (.inl 67155)]) hG (by omega) dX12_readLaw_32 cv_RX12_307 cw_X12_isWord rfl rfl (sk_k hsk 64 rfl) (Nat.le_of_ble_eq_true rfl) rfl (t_X12_isWord hsk (by omega) ho3) ?_
      refine s_if_eq hG 42 dX12_readLaw_35 (by decide) (fun c4 => ?_) (fun c4 => ?_)
      · replace hF := Eq.trans (if_pos c4).symm hF
        refine s_iconst hG dX12_readLaw_42 ⟨by decide, by decide⟩ ?_
        exact t_X12_readLaw_j43 hsk hd hG hE hF
      · replace hF := Eq.trans (if_neg c4).symm hF
        refine s_iconst hG dX12_readLaw_38 ⟨by decide, by decide⟩ ?_
        refine s_goto hG 43 dX12_readLaw_39 (by decide) ?_
        exact t_X12_readLaw_j43 hsk hd hG hE hF
    · replace hF := Eq.trans (if_neg c5).symm hF
      refine s_iconst hG dX12_readLaw_24 ⟨by decide, by decide⟩ ?_
      refine s_goto hG 43 dX12_readLaw_25 (by decide) ?_
      exact t_X12_readLaw_j43 hsk hd hG hE hF
  · replace hF := Eq.trans (if_neg c6).symm hF
    refine s_iconst hG dX12_readLaw_10 ⟨by decide, by decide⟩ ?_
    refine s_goto hG 43 dX12_readLaw_11 (by decide) ?_
    exact t_X12_readLaw_j43 hsk hd hG hE hF
-- X12_law
theorem t_X12_law_b37 {d n0 s0 nF sF : Nat} {X : MX} {Ω : Nat → MS → Prop} {N : NN} (hsk : m_Sk X) (hd : 9 ≤ d) (hG : m_G d yX12_law.cls yX12_law.name cX12_law 3 n0 s0 nF sF Ω) {out : (NN ⊕ NN)} (hK0 : ∀ s' : NN, out = .inl s' → Ω 37 ([some (.inr (.inr 64)), none, none], [], s', X)) (hK1 : ∀ t : NN, out = .inr t → Ω 64 ([some (.inr (.inr 64)), none, none], [], t, X)) (hF : b_X12_law_37 X N = some out) : Ω 37 ([some (.inr (.inr 64)), none, none], [], N, X) := by
  unfold b_X12_law_37 at hF
  refine s_aload_n hG dX12_law_37 rfl ?_
  refine s_getz hG dX12_law_38 fl_RX12_249 (sk_k hsk 64 rfl) rfl ?_
  refine s_if_ne hG 64 dX12_law_41 (by decide) (fun c10 => ?_) (fun c10 => ?_)
  · replace hF := Eq.trans (if_pos c10).symm hF
    refine s_aload_n hG dX12_law_44 rfl ?_
    refine s_bipush hG dX12_law_45 bp_59 ⟨by decide, by decide⟩ ?_
    obtain ⟨o6, ho6, hF⟩ := bd_some hF
    refine s_callV (d' := d - 1) (ci := 12) (args := [.inl 59]) hG (by omega) dX12_law_47 cv_RX12_320 cw_X12_isSign rfl rfl (sk_k hsk 64 rfl) (Nat.le_of_ble_eq_true rfl) rfl (t_X12_isSign hsk (by omega) ho6) ?_
    refine s_if_eq hG 64 dX12_law_50 (by decide) (fun c9 => ?_) (fun c9 => ?_)
    · replace hF := Eq.trans (if_pos c9).symm hF
      cases hF
      exact hK1 _ rfl
    · replace hF := Eq.trans (if_neg c9).symm hF
      refine s_aload_n hG dX12_law_53 rfl ?_
      obtain ⟨o7, ho7, hF⟩ := bd_some hF
      refine s_callV (d' := d - 1) (ci := 12) (args := []) hG (by omega) dX12_law_54 cv_RX12_253 cw_X12_next rfl rfl (sk_k hsk 64 rfl) (Nat.le_of_ble_eq_true rfl) rfl (t_X12_next hsk (by omega) ho7) ?_
      refine s_aload_n hG dX12_law_57 rfl ?_
      obtain ⟨o8, ho8, hF⟩ := bd_some hF
      refine s_callV (d' := d - 1) (ci := 12) (args := []) hG (by omega) dX12_law_58 cv_RX12_396 cw_X12_readLaw rfl rfl (sk_k hsk 64 rfl) (Nat.le_of_ble_eq_true rfl) rfl (t_X12_readLaw hsk (by omega) ho8) ?_
      refine s_goto hG 37 dX12_law_61 (by decide) ?_
      cases hF
      exact hK0 _ rfl
  · replace hF := Eq.trans (if_neg c10).symm hF
    cases hF
    exact hK1 _ rfl
theorem t_X12_law_lp37 {d n0 s0 nF sF : Nat} {X : MX} {Ω : Nat → MS → Prop} {N : NN} (hsk : m_Sk X) (hd : 9 ≤ d) (hG : m_G d yX12_law.cls yX12_law.name cX12_law 3 n0 s0 nF sF Ω) {t : NN} (hK1 : Ω 64 ([some (.inr (.inr 64)), none, none], [], t, X)) (hl : lp (fun s => b_X12_law_37 X s) N = some t) : Ω 37 ([some (.inr (.inr 64)), none, none], [], N, X) := by
  refine lp_ok (P := fun s => Ω 37 ([some (.inr (.inr 64)), none, none], [], s, X)) (K := fun t => Ω 64 ([some (.inr (.inr 64)), none, none], [], t, X)) (fun s out hF hK0 hK1 => ?_) hl hK1
  exact t_X12_law_b37 hsk hd hG (out := out) (fun s' e => hK0 s' e) (fun t' e => hK1 t' e) hF
theorem t_X12_law_b111 {d n0 s0 nF sF : Nat} {X : MX} {Ω : Nat → MS → Prop} {N : NN} {a1 : Int} {a2 : Int} (hsk : m_Sk X) (hd : 9 ≤ d) (hG : m_G d yX12_law.cls yX12_law.name cX12_law 3 n0 s0 nF sF Ω) {out : ((NN × Int × Int) ⊕ (NN × Int))} (hK0 : ∀ s' : (NN × Int × Int), out = .inl s' → Ω 111 ([some (.inr (.inr 64)), some (.inl (s'.2.1)), some (.inl (s'.2.2))], [], s'.1, X)) (hK1 : ∀ t : (NN × Int), out = .inr t → Ω 144 ([some (.inr (.inr 64)), some (.inl t.2), none], [], t.1, X)) (hF : b_X12_law_111 X N a1 a2 = some out) : Ω 111 ([some (.inr (.inr 64)), some (.inl a1), some (.inl a2)], [], N, X) := by
  unfold b_X12_law_111 at hF
  refine s_iload_n hG dX12_law_111 rfl ?_
  refine s_bipush hG dX12_law_112 bp_8 ⟨by decide, by decide⟩ ?_
  refine s_aload_n hG dX12_law_114 rfl ?_
  refine s_geti hG dX12_law_115 fl_RX12_379 (sk_k hsk 64 rfl) rfl ?_
  refine s_imul hG dX12_law_118 ?_
  refine s_icmp_ge hG 144 dX12_law_119 (by decide) (fun c18 => ?_) (fun c18 => ?_)
  · replace hF := Eq.trans (if_pos c18).symm hF
    refine s_aload_n hG dX12_law_122 rfl ?_
    refine s_getr (r := 66) hG dX12_law_123 fl_RX12_13 (sk_k hsk 64 rfl) rfl (sk_R hsk 64 3 rfl) ?_
    refine s_iload_n hG dX12_law_126 rfl ?_
    refine s_iconst hG dX12_law_127 ⟨by decide, by decide⟩ ?_
    refine s_iadd hG dX12_law_128 ?_
    refine s_iload_n hG dX12_law_129 rfl ?_
    refine s_iadd hG dX12_law_130 ?_
    refine s_aload_n hG dX12_law_131 rfl ?_
    refine s_getr (r := 74) hG dX12_law_132 fl_RX12_42 (sk_k hsk 64 rfl) rfl (sk_R hsk 64 22 rfl) ?_
    refine s_iload_n hG dX12_law_135 rfl ?_
    obtain ⟨g15, hF⟩ := gd_some hF
    refine s_ialdj (j := a2.toNat) hG dX12_law_136 (sk_K hsk 74 rfl) g15 rfl ?_
    obtain ⟨g16, hF⟩ := gd_some hF
    refine s_iastj (j := (m_w ((m_w (a1 + 2)) + a2)).toNat) hG dX12_law_137 (sk_K hsk 66 rfl) g16 rfl ?_
    refine s_iinc hG dX12_law_138 (by decide) rfl rfl ?_
    refine s_goto hG 111 dX12_law_141 (by decide) ?_
    cases hF
    exact hK0 _ rfl
  · replace hF := Eq.trans (if_neg c18).symm hF
    cases hF
    refine m_weak (ls1 := [some (.inr (.inr 64)), some (.inl a1), none]) hG ⟨rfl, ⟨rfl, trivial⟩⟩ ?_
    exact hK1 _ rfl
theorem t_X12_law_lp111 {d n0 s0 nF sF : Nat} {X : MX} {Ω : Nat → MS → Prop} {N : NN} {a1 : Int} {a2 : Int} (hsk : m_Sk X) (hd : 9 ≤ d) (hG : m_G d yX12_law.cls yX12_law.name cX12_law 3 n0 s0 nF sF Ω) {t : (NN × Int)} (hK1 : Ω 144 ([some (.inr (.inr 64)), some (.inl t.2), none], [], t.1, X)) (hl : lp (fun s => b_X12_law_111 X s.1 s.2.1 s.2.2) (N, a1, a2) = some t) : Ω 111 ([some (.inr (.inr 64)), some (.inl a1), some (.inl a2)], [], N, X) := by
  refine lp_ok (P := fun s => Ω 111 ([some (.inr (.inr 64)), some (.inl s.2.1), some (.inl s.2.2)], [], s.1, X)) (K := fun t => Ω 144 ([some (.inr (.inr 64)), some (.inl t.2), none], [], t.1, X)) (fun s out hF hK0 hK1 => ?_) hl hK1
  exact t_X12_law_b111 hsk hd hG (out := out) (fun s' e => hK0 s' e) (fun t' e => hK1 t' e) hF
theorem t_X12_law_b146 {d n0 s0 nF sF : Nat} {X : MX} {Ω : Nat → MS → Prop} {N : NN} {a1 : Int} {a2 : Int} (hsk : m_Sk X) (hd : 9 ≤ d) (hG : m_G d yX12_law.cls yX12_law.name cX12_law 3 n0 s0 nF sF Ω) {out : ((NN × Int × Int) ⊕ NN)} (hK0 : ∀ s' : (NN × Int × Int), out = .inl s' → Ω 146 ([some (.inr (.inr 64)), some (.inl (s'.2.1)), some (.inl (s'.2.2))], [], s'.1, X)) (hK1 : ∀ t : NN, out = .inr t → Ω 200 ([some (.inr (.inr 64)), none, none], [], t, X)) (hF : b_X12_law_146 X N a1 a2 = some out) : Ω 146 ([some (.inr (.inr 64)), some (.inl a1), some (.inl a2)], [], N, X) := by
  unfold b_X12_law_146 at hF
  refine s_iload_n hG dX12_law_146 rfl ?_
  refine s_aload_n hG dX12_law_147 rfl ?_
  refine s_geti hG dX12_law_148 fl_RX12_288 (sk_k hsk 64 rfl) rfl ?_
  refine s_icmp_ge hG 200 dX12_law_151 (by decide) (fun c26 => ?_) (fun c26 => ?_)
  · replace hF := Eq.trans (if_pos c26).symm hF
    refine s_aload_n hG dX12_law_154 rfl ?_
    refine s_getr (r := 66) hG dX12_law_155 fl_RX12_13 (sk_k hsk 64 rfl) rfl (sk_R hsk 64 3 rfl) ?_
    refine s_iload_n hG dX12_law_158 rfl ?_
    refine s_bipush hG dX12_law_159 bp_98 ⟨by decide, by decide⟩ ?_
    refine s_iadd hG dX12_law_161 ?_
    refine s_iconst hG dX12_law_162 ⟨by decide, by decide⟩ ?_
    refine s_iload_n hG dX12_law_163 rfl ?_
    refine s_imul hG dX12_law_164 ?_
    refine s_iadd hG dX12_law_165 ?_
    refine s_aload_n hG dX12_law_166 rfl ?_
    refine s_getr (r := 75) hG dX12_law_167 fl_RX12_45 (sk_k hsk 64 rfl) rfl (sk_R hsk 64 24 rfl) ?_
    refine s_iload_n hG dX12_law_170 rfl ?_
    obtain ⟨g20, hF⟩ := gd_some hF
    refine s_ialdj (j := a2.toNat) hG dX12_law_171 (sk_K hsk 75 rfl) g20 rfl ?_
    obtain ⟨g21, hF⟩ := gd_some hF
    refine s_iastj (j := (m_w ((m_w (a1 + 98)) + (m_w (2 * a2)))).toNat) hG dX12_law_172 (sk_K hsk 66 rfl) g21 rfl ?_
    refine s_aload_n hG dX12_law_173 rfl ?_
    refine s_getr (r := 66) hG dX12_law_174 fl_RX12_13 (sk_k hsk 64 rfl) rfl (sk_R hsk 64 3 rfl) ?_
    refine s_iload_n hG dX12_law_177 rfl ?_
    refine s_bipush hG dX12_law_178 bp_98 ⟨by decide, by decide⟩ ?_
    refine s_iadd hG dX12_law_180 ?_
    refine s_iconst hG dX12_law_181 ⟨by decide, by decide⟩ ?_
    refine s_iload_n hG dX12_law_182 rfl ?_
    refine s_imul hG dX12_law_183 ?_
    refine s_iadd hG dX12_law_184 ?_
    refine s_iconst hG dX12_law_185 ⟨by decide, by decide⟩ ?_
    refine s_iadd hG dX12_law_186 ?_
    refine s_aload_n hG dX12_law_187 rfl ?_
    refine s_getr (r := 76) hG dX12_law_188 fl_RX12_48 (sk_k hsk 64 rfl) rfl (sk_R hsk 64 25 rfl) ?_
    refine s_iload_n hG dX12_law_191 rfl ?_
    obtain ⟨g23, hF⟩ := gd_some hF
    refine s_ialdj (j := a2.toNat) hG dX12_law_192 (sk_K hsk 76 rfl) g23 rfl ?_
    obtain ⟨g24, hF⟩ := gd_some hF
    refine s_iastj (j := (m_w ((m_w ((m_w (a1 + 98)) + (m_w (2 * a2)))) + 1)).toNat) hG dX12_law_193 (sk_K hsk 66 rfl) g24 rfl ?_
    refine s_iinc hG dX12_law_194 (by decide) rfl rfl ?_
    refine s_goto hG 146 dX12_law_197 (by decide) ?_
    cases hF
    exact hK0 _ rfl
  · replace hF := Eq.trans (if_neg c26).symm hF
    cases hF
    refine m_weak (ls1 := [some (.inr (.inr 64)), none, none]) hG ⟨rfl, trivial⟩ ?_
    exact hK1 _ rfl
theorem t_X12_law_lp146 {d n0 s0 nF sF : Nat} {X : MX} {Ω : Nat → MS → Prop} {N : NN} {a1 : Int} {a2 : Int} (hsk : m_Sk X) (hd : 9 ≤ d) (hG : m_G d yX12_law.cls yX12_law.name cX12_law 3 n0 s0 nF sF Ω) {t : NN} (hK1 : Ω 200 ([some (.inr (.inr 64)), none, none], [], t, X)) (hl : lp (fun s => b_X12_law_146 X s.1 s.2.1 s.2.2) (N, a1, a2) = some t) : Ω 146 ([some (.inr (.inr 64)), some (.inl a1), some (.inl a2)], [], N, X) := by
  refine lp_ok (P := fun s => Ω 146 ([some (.inr (.inr 64)), some (.inl s.2.1), some (.inl s.2.2)], [], s.1, X)) (K := fun t => Ω 200 ([some (.inr (.inr 64)), none, none], [], t, X)) (fun s out hF hK0 hK1 => ?_) hl hK1
  exact t_X12_law_b146 hsk hd hG (out := out) (fun s' e => hK0 s' e) (fun t' e => hK1 t' e) hF
theorem t_X12_law {d : Nat} {X : MX} {N : NN} {out : (Int × NN)} (hsk : m_Sk X) (hd : 9 ≤ d) (hF : f_X12_law X N = some out) : m_Call d yX12_law cX12_law 3 (some .int) [(.inr (.inr 64))] N X (some (.inl out.1)) out.2 X := by
  refine m_mk (ls0 := [some (.inr (.inr 64)), none, none]) (by decide) rfl (Nat.le_of_ble_eq_true rfl) (Nat.le_refl _) (Nat.le_refl _) (fun Ω hE => ?_)
  have hG := hE.G
  unfold f_X12_law at hF
  refine s_aload_n hG dX12_law_0 rfl ?_
  refine s_iconst hG dX12_law_1 ⟨by decide, by decide⟩ ?_
  refine s_puti hG dX12_law_2 fl_RX12_166 (fun h => by cases h) (sk_k hsk 64 rfl) rfl ?_
  refine s_aload_n hG dX12_law_5 rfl ?_
  refine s_getr (r := 66) hG dX12_law_6 fl_RX12_13 (sk_k hsk 64 rfl) rfl (sk_R hsk 64 3 rfl) ?_
  refine s_iconst hG dX12_law_9 ⟨by decide, by decide⟩ ?_
  refine s_ialdj (j := 4) hG dX12_law_10 (sk_K hsk 66 rfl) ⟨by decide, by decide⟩ rfl ?_
  refine s_bipush hG dX12_law_11 bp_6 ⟨by decide, by decide⟩ ?_
  refine s_icmp_ne hG 28 dX12_law_13 (by decide) (fun c32 => ?_) (fun c32 => ?_)
  · replace hF := Eq.trans (if_pos c32).symm hF
    refine s_aload_n hG dX12_law_16 rfl ?_
    refine s_iconst hG dX12_law_17 ⟨by decide, by decide⟩ ?_
    refine s_puti hG dX12_law_18 fl_RX12_236 (fun h => by cases h) (sk_k hsk 64 rfl) rfl ?_
    refine s_aload_n hG dX12_law_21 rfl ?_
    refine s_bipush hG dX12_law_22 bp_m5 ⟨by decide, by decide⟩ ?_
    obtain ⟨o3, ho3, hF⟩ := bd_some hF
    refine s_callV (d' := d - 1) (ci := 12) (args := [.inl (-5)]) hG (by omega) dX12_law_24 cv_RX12_175 cw_X12_tell rfl rfl (sk_k hsk 64 rfl) (Nat.le_of_ble_eq_true rfl) rfl (t_X12_tell hsk (by omega) ho3) ?_
    cases hF
    exact s_iret hE dX12_law_27 rfl
  · replace hF := Eq.trans (if_neg c32).symm hF
    refine s_aload_n hG dX12_law_28 rfl ?_
    refine s_iconst hG dX12_law_29 ⟨by decide, by decide⟩ ?_
    obtain ⟨o4, ho4, hF⟩ := bd_some hF
    refine s_callV (d' := d - 1) (ci := 12) (args := [.inl 0]) hG (by omega) dX12_law_30 cv_RX12_393 cw_X12_beginText rfl rfl (sk_k hsk 64 rfl) (Nat.le_of_ble_eq_true rfl) rfl (t_X12_beginText hsk (by omega) ho4) ?_
    refine s_aload_n hG dX12_law_33 rfl ?_
    obtain ⟨o5, ho5, hF⟩ := bd_some hF
    refine s_callV (d' := d - 1) (ci := 12) (args := []) hG (by omega) dX12_law_34 cv_RX12_396 cw_X12_readLaw rfl rfl (sk_k hsk 64 rfl) (Nat.le_of_ble_eq_true rfl) rfl (t_X12_readLaw hsk (by omega) ho5) ?_
    obtain ⟨o11, hlo11, hF⟩ := bd_some hF
    refine t_X12_law_lp37 hsk hd hG ?_ hlo11
    refine s_aload_n hG dX12_law_64 rfl ?_
    obtain ⟨o12, ho12, hF⟩ := bd_some hF
    refine s_callV (d' := d - 1) (ci := 12) (args := []) hG (by omega) dX12_law_65 cv_RX12_399 cw_X12_endText rfl rfl (sk_k hsk 64 rfl) (Nat.le_of_ble_eq_true rfl) rfl (t_X12_endText hsk (by omega) ho12) ?_
    refine s_aload_n hG dX12_law_68 rfl ?_
    refine s_getz hG dX12_law_69 fl_RX12_249 (sk_k hsk 64 rfl) rfl ?_
    refine s_if_eq hG 82 dX12_law_72 (by decide) (fun c31 => ?_) (fun c31 => ?_)
    · replace hF := Eq.trans (if_pos c31).symm hF
      refine s_sipush hG dX12_law_82 sp_270 ⟨by decide, by decide⟩ ?_
      refine s_sipush hG dX12_law_85 sp_900 ⟨by decide, by decide⟩ ?_
      refine s_aload_n hG dX12_law_88 rfl ?_
      refine s_getr (r := 66) hG dX12_law_89 fl_RX12_13 (sk_k hsk 64 rfl) rfl (sk_R hsk 64 3 rfl) ?_
      refine s_iconst hG dX12_law_92 ⟨by decide, by decide⟩ ?_
      refine s_ialdj (j := 4) hG dX12_law_93 (sk_K hsk 66 rfl) ⟨by decide, by decide⟩ rfl ?_
      refine s_imul hG dX12_law_94 ?_
      refine s_iadd hG dX12_law_95 ?_
      refine s_istore_n hG dX12_law_96 (by decide) rfl ?_
      refine s_aload_n hG dX12_law_97 rfl ?_
      refine s_getr (r := 66) hG dX12_law_98 fl_RX12_13 (sk_k hsk 64 rfl) rfl (sk_R hsk 64 3 rfl) ?_
      refine s_iload_n hG dX12_law_101 rfl ?_
      refine s_iconst hG dX12_law_102 ⟨by decide, by decide⟩ ?_
      refine s_iadd hG dX12_law_103 ?_
      refine s_aload_n hG dX12_law_104 rfl ?_
      refine s_geti hG dX12_law_105 fl_RX12_379 (sk_k hsk 64 rfl) rfl ?_
      obtain ⟨g13, hF⟩ := gd_some hF
      refine s_iastj (j := (m_w ((m_w (270 + (m_w (900 * (o12 66 4))))) + 1)).toNat) hG dX12_law_108 (sk_K hsk 66 rfl) g13 rfl ?_
      refine s_iconst hG dX12_law_109 ⟨by decide, by decide⟩ ?_
      refine s_istore_n hG dX12_law_110 (by decide) rfl ?_
      obtain ⟨o19, hlo19, hF⟩ := bd_some hF
      refine t_X12_law_lp111 hsk hd hG ?_ hlo19
      refine s_iconst hG dX12_law_144 ⟨by decide, by decide⟩ ?_
      refine s_istore_n hG dX12_law_145 (by decide) rfl ?_
      obtain ⟨o27, hlo27, hF⟩ := bd_some hF
      refine t_X12_law_lp146 hsk hd hG ?_ hlo27
      refine s_aload_n hG dX12_law_200 rfl ?_
      refine s_getr (r := 66) hG dX12_law_201 fl_RX12_13 (sk_k hsk 64 rfl) rfl (sk_R hsk 64 3 rfl) ?_
      refine s_iconst hG dX12_law_204 ⟨by decide, by decide⟩ ?_
      refine s_dup2 hG dX12_law_205 rfl rfl ?_
      refine s_ialdj (j := 4) hG dX12_law_206 (sk_K hsk 66 rfl) ⟨by decide, by decide⟩ rfl ?_
      refine s_iconst hG dX12_law_207 ⟨by decide, by decide⟩ ?_
      refine s_iadd hG dX12_law_208 ?_
      refine s_iastj (j := 4) hG dX12_law_209 (sk_K hsk 66 rfl) ⟨by decide, by decide⟩ rfl ?_
      let N28 : NN := m_up o27 66 4 (m_w ((o27 66 4) + 1))
      refine s_aload_n hG dX12_law_210 rfl ?_
      refine s_aload_n hG dX12_law_211 rfl ?_
      refine s_getr (r := 66) hG dX12_law_212 fl_RX12_13 (sk_k hsk 64 rfl) rfl (sk_R hsk 64 3 rfl) ?_
      refine s_iconst hG dX12_law_215 ⟨by decide, by decide⟩ ?_
      refine s_ialdj (j := 4) hG dX12_law_216 (sk_K hsk 66 rfl) ⟨by decide, by decide⟩ rfl ?_
      refine s_iconst hG dX12_law_217 ⟨by decide, by decide⟩ ?_
      refine s_isub hG dX12_law_218 ?_
      obtain ⟨o29, ho29, hF⟩ := bd_some hF
      refine s_callV (d' := d - 1) (ci := 12) (args := [.inl (m_w ((N28 66 4) - 1))]) hG (by omega) dX12_law_219 cv_RX12_175 cw_X12_tell rfl rfl (sk_k hsk 64 rfl) (Nat.le_of_ble_eq_true rfl) rfl (t_X12_tell hsk (by omega) ho29) ?_
      cases hF
      exact s_iret hE dX12_law_222 rfl
    · replace hF := Eq.trans (if_neg c31).symm hF
      refine s_aload_n hG dX12_law_75 rfl ?_
      refine s_bipush hG dX12_law_76 bp_m6 ⟨by decide, by decide⟩ ?_
      obtain ⟨o30, ho30, hF⟩ := bd_some hF
      refine s_callV (d' := d - 1) (ci := 12) (args := [.inl (-6)]) hG (by omega) dX12_law_78 cv_RX12_175 cw_X12_tell rfl rfl (sk_k hsk 64 rfl) (Nat.le_of_ble_eq_true rfl) rfl (t_X12_tell hsk (by omega) ho30) ?_
      cases hF
      exact s_iret hE dX12_law_81 rfl
-- X12_layYears
theorem t_X12_layYears_b2 {d n0 s0 nF sF : Nat} {X : MX} {Ω : Nat → MS → Prop} {N : NN} {a1 : Int} {a2 : Int} {a3 : Int} (hsk : m_Sk X) (hd : 9 ≤ d) (hG : m_G d yX12_layYears.cls yX12_layYears.name cX12_layYears 4 n0 s0 nF sF Ω) {out : ((NN × Int × Int × Int) ⊕ NN)} (hK0 : ∀ s' : (NN × Int × Int × Int), out = .inl s' → Ω 2 ([some (.inr (.inr 64)), some (.inl (s'.2.1)), some (.inl (s'.2.2.1)), some (.inl (s'.2.2.2))], [], s'.1, X)) (hK1 : ∀ t : NN, out = .inr t → Ω 30 ([none, none, none, none], [], t, X)) (hF : b_X12_layYears_2 X N a1 a2 a3 = some out) : Ω 2 ([some (.inr (.inr 64)), some (.inl a1), some (.inl a2), some (.inl a3)], [], N, X) := by
  unfold b_X12_layYears_2 at hF
  refine s_iload_n hG dX12_layYears_2 rfl ?_
  refine s_iload_n hG dX12_layYears_3 rfl ?_
  refine s_icmp_gt hG 30 dX12_layYears_4 (by decide) (fun c5 => ?_) (fun c5 => ?_)
  · replace hF := Eq.trans (if_pos c5).symm hF
    cases hF
    refine m_weak (ls1 := [none, none, none, none]) hG trivial ?_
    exact hK1 _ rfl
  · replace hF := Eq.trans (if_neg c5).symm hF
    refine s_aload_n hG dX12_layYears_7 rfl ?_
    refine s_getr (r := 89) hG dX12_layYears_8 fl_RX12_118 (sk_k hsk 64 rfl) rfl (sk_R hsk 64 46 rfl) ?_
    refine s_iload_n hG dX12_layYears_11 rfl ?_
    refine s_aload_n hG dX12_layYears_12 rfl ?_
    refine s_iload_n hG dX12_layYears_13 rfl ?_
    refine s_aload_n hG dX12_layYears_14 rfl ?_
    obtain ⟨o1, ho1, hF⟩ := bd_some hF
    refine s_callV (d' := d - 1) (ci := 12) (args := []) hG (by omega) dX12_layYears_15 cv_RX12_210 cw_X12_year rfl rfl (sk_k hsk 64 rfl) (Nat.le_of_ble_eq_true rfl) rfl (t_X12_year hsk (by omega) ho1) ?_
    refine s_iload_n hG dX12_layYears_18 rfl ?_
    refine s_iadd hG dX12_layYears_19 ?_
    obtain ⟨o2, ho2, hF⟩ := bd_some hF
    refine s_callV (d' := d - 1) (ci := 12) (args := [.inl a1, .inl (m_w (o1 + a3))]) hG (by omega) dX12_layYears_20 cv_RX12_214 cw_X12_costs rfl rfl (sk_k hsk 64 rfl) (Nat.le_of_ble_eq_true rfl) rfl (t_X12_costs hsk (by omega) ho2) ?_
    obtain ⟨g3, hF⟩ := gd_some hF
    refine s_iastj (j := a3.toNat) hG dX12_layYears_23 (sk_K hsk 89 rfl) g3 rfl ?_
    refine s_iinc hG dX12_layYears_24 (by decide) rfl rfl ?_
    refine s_goto hG 2 dX12_layYears_27 (by decide) ?_
    cases hF
    exact hK0 _ rfl
theorem t_X12_layYears_lp2 {d n0 s0 nF sF : Nat} {X : MX} {Ω : Nat → MS → Prop} {N : NN} {a1 : Int} {a2 : Int} {a3 : Int} (hsk : m_Sk X) (hd : 9 ≤ d) (hG : m_G d yX12_layYears.cls yX12_layYears.name cX12_layYears 4 n0 s0 nF sF Ω) {t : NN} (hK1 : Ω 30 ([none, none, none, none], [], t, X)) (hl : lp (fun s => b_X12_layYears_2 X s.1 s.2.1 s.2.2.1 s.2.2.2) (N, a1, a2, a3) = some t) : Ω 2 ([some (.inr (.inr 64)), some (.inl a1), some (.inl a2), some (.inl a3)], [], N, X) := by
  refine lp_ok (P := fun s => Ω 2 ([some (.inr (.inr 64)), some (.inl s.2.1), some (.inl s.2.2.1), some (.inl s.2.2.2)], [], s.1, X)) (K := fun t => Ω 30 ([none, none, none, none], [], t, X)) (fun s out hF hK0 hK1 => ?_) hl hK1
  exact t_X12_layYears_b2 hsk hd hG (out := out) (fun s' e => hK0 s' e) (fun t' e => hK1 t' e) hF
theorem t_X12_layYears {d : Nat} {X : MX} {N : NN} {a1 : Int} {a2 : Int} {out : NN} (hsk : m_Sk X) (hd : 9 ≤ d) (hF : f_X12_layYears X N a1 a2 = some out) : m_Call d yX12_layYears cX12_layYears 4 none [(.inr (.inr 64)), (.inl a1), (.inl a2)] N X none out X := by
  refine m_mk (ls0 := [some (.inr (.inr 64)), some (.inl a1), some (.inl a2), none]) (by decide) rfl (Nat.le_of_ble_eq_true rfl) (Nat.le_refl _) (Nat.le_refl _) (fun Ω hE => ?_)
  have hG := hE.G
  unfold f_X12_layYears at hF
  refine s_iconst hG dX12_layYears_0 ⟨by decide, by decide⟩ ?_
  refine s_istore_n hG dX12_layYears_1 (by decide) rfl ?_
  obtain ⟨o6, hlo6, hF⟩ := bd_some hF
  refine t_X12_layYears_lp2 hsk hd hG ?_ hlo6
  cases hF
  exact s_vret hE dX12_layYears_30 rfl
-- X12_lord
theorem t_X12_lord_b85 {d n0 s0 nF sF : Nat} {X : MX} {Ω : Nat → MS → Prop} {N : NN} {a3 : Int} {a4 : Int} {a5 : Int} (hsk : m_Sk X) (hd : 3 ≤ d) (hG : m_G d yX12_lord.cls yX12_lord.name cX12_lord 6 n0 s0 nF sF Ω) {out : ((NN × Int × Int × Int) ⊕ (NN × Int))} (hK0 : ∀ s' : (NN × Int × Int × Int), out = .inl s' → Ω 85 ([some (.inr (.inr 64)), none, none, some (.inl (s'.2.1)), some (.inl (s'.2.2.1)), some (.inl (s'.2.2.2))], [], s'.1, X)) (hK1 : ∀ t : (NN × Int), out = .inr t → Ω 109 ([some (.inr (.inr 64)), none, none, some (.inl t.2), none, none], [], t.1, X)) (hF : b_X12_lord_85 X N a3 a4 a5 = some out) : Ω 85 ([some (.inr (.inr 64)), none, none, some (.inl a3), some (.inl a4), some (.inl a5)], [], N, X) := by
  unfold b_X12_lord_85 at hF
  refine s_iload hG dX12_lord_85 rfl ?_
  refine s_bipush hG dX12_lord_87 bp_6 ⟨by decide, by decide⟩ ?_
  refine s_icmp_ge hG 109 dX12_lord_89 (by decide) (fun c11 => ?_) (fun c11 => ?_)
  · replace hF := Eq.trans (if_pos c11).symm hF
    refine s_aload_n hG dX12_lord_92 rfl ?_
    refine s_getr (r := 66) hG dX12_lord_93 fl_RX12_13 (sk_k hsk 64 rfl) rfl (sk_R hsk 64 3 rfl) ?_
    refine s_iload hG dX12_lord_96 rfl ?_
    refine s_iload hG dX12_lord_98 rfl ?_
    refine s_iadd hG dX12_lord_100 ?_
    refine s_iconst hG dX12_lord_101 ⟨by decide, by decide⟩ ?_
    obtain ⟨g9, hF⟩ := gd_some hF
    refine s_iastj (j := (m_w (a4 + a5)).toNat) hG dX12_lord_102 (sk_K hsk 66 rfl) g9 rfl ?_
    refine s_iinc hG dX12_lord_103 (by decide) rfl rfl ?_
    refine s_goto hG 85 dX12_lord_106 (by decide) ?_
    cases hF
    exact hK0 _ rfl
  · replace hF := Eq.trans (if_neg c11).symm hF
    cases hF
    refine m_weak (ls1 := [some (.inr (.inr 64)), none, none, some (.inl a3), none, none]) hG ⟨rfl, ⟨rfl, trivial⟩⟩ ?_
    exact hK1 _ rfl
theorem t_X12_lord_lp85 {d n0 s0 nF sF : Nat} {X : MX} {Ω : Nat → MS → Prop} {N : NN} {a3 : Int} {a4 : Int} {a5 : Int} (hsk : m_Sk X) (hd : 3 ≤ d) (hG : m_G d yX12_lord.cls yX12_lord.name cX12_lord 6 n0 s0 nF sF Ω) {t : (NN × Int)} (hK1 : Ω 109 ([some (.inr (.inr 64)), none, none, some (.inl t.2), none, none], [], t.1, X)) (hl : lp (fun s => b_X12_lord_85 X s.1 s.2.1 s.2.2.1 s.2.2.2) (N, a3, a4, a5) = some t) : Ω 85 ([some (.inr (.inr 64)), none, none, some (.inl a3), some (.inl a4), some (.inl a5)], [], N, X) := by
  refine lp_ok (P := fun s => Ω 85 ([some (.inr (.inr 64)), none, none, some (.inl s.2.1), some (.inl s.2.2.1), some (.inl s.2.2.2)], [], s.1, X)) (K := fun t => Ω 109 ([some (.inr (.inr 64)), none, none, some (.inl t.2), none, none], [], t.1, X)) (fun s out hF hK0 hK1 => ?_) hl hK1
  exact t_X12_lord_b85 hsk hd hG (out := out) (fun s' e => hK0 s' e) (fun t' e => hK1 t' e) hF
theorem t_X12_lord_j29 {d n0 s0 nF sF : Nat} {X : MX} {Ω : Nat → MS → Prop} {N : NN} (hsk : m_Sk X) (hd : 3 ≤ d) (hG : m_G d yX12_lord.cls yX12_lord.name cX12_lord 6 n0 s0 nF sF Ω) {out : (Int × NN)} (hE : m_Gd d yX12_lord cX12_lord 6 (some .int) X (some (.inl out.1)) out.2 X Ω) (hF : f_X12_lord_j29 X N = some out) : Ω 29 ([some (.inr (.inr 64)), none, none, none, none, none], [], N, X) := by
  unfold f_X12_lord_j29 at hF
  refine s_aload_n hG dX12_lord_29 rfl ?_
  refine s_iconst hG dX12_lord_30 ⟨by decide, by decide⟩ ?_
  obtain ⟨o18, ho18, hF⟩ := bd_some hF
  refine s_callV (d' := d - 1) (ci := 12) (args := [.inl (-1)]) hG (by omega) dX12_lord_31 cv_RX12_175 cw_X12_tell rfl rfl (sk_k hsk 64 rfl) (Nat.le_of_ble_eq_true rfl) rfl (t_X12_tell hsk (by omega) ho18) ?_
  cases hF
  exact s_iret hE dX12_lord_34 rfl
theorem t_X12_lord {d : Nat} {X : MX} {N : NN} {a1 : Int} {a2 : Int} {out : (Int × NN)} (hsk : m_Sk X) (hd : 3 ≤ d) (hF : f_X12_lord X N a1 a2 = some out) : m_Call d yX12_lord cX12_lord 6 (some .int) [(.inr (.inr 64)), (.inl a1), (.inl a2)] N X (some (.inl out.1)) out.2 X := by
  refine m_mk (ls0 := [some (.inr (.inr 64)), some (.inl a1), some (.inl a2), none, none, none]) (by decide) rfl (Nat.le_of_ble_eq_true rfl) (Nat.le_refl _) (Nat.le_refl _) (fun Ω hE => ?_)
  have hG := hE.G
  unfold f_X12_lord at hF
  refine s_aload_n hG dX12_lord_0 rfl ?_
  refine s_iconst hG dX12_lord_1 ⟨by decide, by decide⟩ ?_
  refine s_puti hG dX12_lord_2 fl_RX12_166 (fun h => by cases h) (sk_k hsk 64 rfl) rfl ?_
  let N1 : NN := m_up N 64 0 0
  refine s_iload_n hG dX12_lord_5 rfl ?_
  refine s_i2l hG dX12_lord_6 ?_
  refine s_lconst (v := 0) hG dX12_lord_7 rfl ⟨by decide, by decide⟩ ?_
  refine s_ldc2 hG dX12_lord_8 kc_RX12_186 ⟨by decide, by decide⟩ ?_
  obtain ⟨o2, ho2, hF⟩ := bd_some hF
  refine s_callS (d' := d - 1) (args := [.inr (.inl a1), .inr (.inl 0), .inr (.inl 9999)]) hG (by omega) dX12_lord_11 cs_RX12_179 cw_X12_in rfl (Nat.le_of_ble_eq_true rfl) rfl (t_X12_in hsk (by omega) ho2) ?_
  refine s_if_eq hG 29 dX12_lord_14 (by decide) (fun c17 => ?_) (fun c17 => ?_)
  · replace hF := Eq.trans (if_pos c17).symm hF
    refine m_weak (ls1 := [some (.inr (.inr 64)), none, none, none, none, none]) hG ⟨rfl, trivial⟩ ?_
    exact t_X12_lord_j29 hsk hd hG hE hF
  · replace hF := Eq.trans (if_neg c17).symm hF
    refine s_iload_n hG dX12_lord_17 rfl ?_
    refine s_i2l hG dX12_lord_18 ?_
    refine s_lconst (v := 0) hG dX12_lord_19 rfl ⟨by decide, by decide⟩ ?_
    refine s_ldc2 hG dX12_lord_20 kc_RX12_188 ⟨by decide, by decide⟩ ?_
    obtain ⟨o3, ho3, hF⟩ := bd_some hF
    refine s_callS (d' := d - 1) (args := [.inr (.inl a2), .inr (.inl 0), .inr (.inl 99)]) hG (by omega) dX12_lord_23 cs_RX12_179 cw_X12_in rfl (Nat.le_of_ble_eq_true rfl) rfl (t_X12_in hsk (by omega) ho3) ?_
    refine s_if_ne hG 35 dX12_lord_26 (by decide) (fun c16 => ?_) (fun c16 => ?_)
    · replace hF := Eq.trans (if_pos c16).symm hF
      refine m_weak (ls1 := [some (.inr (.inr 64)), none, none, none, none, none]) hG ⟨rfl, trivial⟩ ?_
      exact t_X12_lord_j29 hsk hd hG hE hF
    · replace hF := Eq.trans (if_neg c16).symm hF
      refine s_aload_n hG dX12_lord_35 rfl ?_
      refine s_getr (r := 66) hG dX12_lord_36 fl_RX12_13 (sk_k hsk 64 rfl) rfl (sk_R hsk 64 3 rfl) ?_
      refine s_iconst hG dX12_lord_39 ⟨by decide, by decide⟩ ?_
      refine s_ialdj (j := 0) hG dX12_lord_40 (sk_K hsk 66 rfl) ⟨by decide, by decide⟩ rfl ?_
      refine s_istore_n hG dX12_lord_41 (by decide) rfl ?_
      refine s_iload_n hG dX12_lord_42 rfl ?_
      refine s_bipush hG dX12_lord_43 bp_6 ⟨by decide, by decide⟩ ?_
      refine s_icmp_ne hG 55 dX12_lord_45 (by decide) (fun c15 => ?_) (fun c15 => ?_)
      · replace hF := Eq.trans (if_pos c15).symm hF
        refine s_aload_n hG dX12_lord_48 rfl ?_
        refine s_bipush hG dX12_lord_49 bp_m5 ⟨by decide, by decide⟩ ?_
        obtain ⟨o4, ho4, hF⟩ := bd_some hF
        refine s_callV (d' := d - 1) (ci := 12) (args := [.inl (-5)]) hG (by omega) dX12_lord_51 cv_RX12_175 cw_X12_tell rfl rfl (sk_k hsk 64 rfl) (Nat.le_of_ble_eq_true rfl) rfl (t_X12_tell hsk (by omega) ho4) ?_
        cases hF
        exact s_iret hE dX12_lord_54 rfl
      · replace hF := Eq.trans (if_neg c15).symm hF
        refine s_bipush hG dX12_lord_55 bp_9 ⟨by decide, by decide⟩ ?_
        refine s_bipush hG dX12_lord_57 bp_6 ⟨by decide, by decide⟩ ?_
        refine s_iload_n hG dX12_lord_59 rfl ?_
        refine s_imul hG dX12_lord_60 ?_
        refine s_iadd hG dX12_lord_61 ?_
        refine s_istore hG dX12_lord_62 (by decide) rfl ?_
        refine s_aload_n hG dX12_lord_64 rfl ?_
        refine s_getr (r := 66) hG dX12_lord_65 fl_RX12_13 (sk_k hsk 64 rfl) rfl (sk_R hsk 64 3 rfl) ?_
        refine s_iload hG dX12_lord_68 rfl ?_
        refine s_iload_n hG dX12_lord_70 rfl ?_
        obtain ⟨g5, hF⟩ := gd_some hF
        refine s_iastj (j := (m_w (9 + (m_w (6 * (N1 66 0))))).toNat) hG dX12_lord_71 (sk_K hsk 66 rfl) g5 rfl ?_
        refine s_aload_n hG dX12_lord_72 rfl ?_
        refine s_getr (r := 66) hG dX12_lord_73 fl_RX12_13 (sk_k hsk 64 rfl) rfl (sk_R hsk 64 3 rfl) ?_
        refine s_iload hG dX12_lord_76 rfl ?_
        refine s_iconst hG dX12_lord_78 ⟨by decide, by decide⟩ ?_
        refine s_iadd hG dX12_lord_79 ?_
        refine s_iload_n hG dX12_lord_80 rfl ?_
        obtain ⟨g7, hF⟩ := gd_some hF
        refine s_iastj (j := (m_w ((m_w (9 + (m_w (6 * (N1 66 0))))) + 1)).toNat) hG dX12_lord_81 (sk_K hsk 66 rfl) g7 rfl ?_
        refine s_iconst hG dX12_lord_82 ⟨by decide, by decide⟩ ?_
        refine s_istore hG dX12_lord_83 (by decide) rfl ?_
        obtain ⟨o12, hlo12, hF⟩ := bd_some hF
        refine m_weak (ls1 := [some (.inr (.inr 64)), none, none, some (.inl (N1 66 0)), some (.inl (m_w (9 + (m_w (6 * (N1 66 0)))))), some (.inl 2)]) hG ⟨rfl, ⟨rfl, ⟨rfl, ⟨rfl, trivial⟩⟩⟩⟩ ?_
        refine t_X12_lord_lp85 hsk hd hG ?_ hlo12
        refine s_aload_n hG dX12_lord_109 rfl ?_
        refine s_getr (r := 66) hG dX12_lord_110 fl_RX12_13 (sk_k hsk 64 rfl) rfl (sk_R hsk 64 3 rfl) ?_
        refine s_iconst hG dX12_lord_113 ⟨by decide, by decide⟩ ?_
        refine s_dup2 hG dX12_lord_114 rfl rfl ?_
        refine s_ialdj (j := 0) hG dX12_lord_115 (sk_K hsk 66 rfl) ⟨by decide, by decide⟩ rfl ?_
        refine s_iconst hG dX12_lord_116 ⟨by decide, by decide⟩ ?_
        refine s_iadd hG dX12_lord_117 ?_
        refine s_iastj (j := 0) hG dX12_lord_118 (sk_K hsk 66 rfl) ⟨by decide, by decide⟩ rfl ?_
        refine s_aload_n hG dX12_lord_119 rfl ?_
        refine s_iload_n hG dX12_lord_120 rfl ?_
        obtain ⟨o14, ho14, hF⟩ := bd_some hF
        refine s_callV (d' := d - 1) (ci := 12) (args := [.inl o12.2]) hG (by omega) dX12_lord_121 cv_RX12_183 cw_X12_settled rfl rfl (sk_k hsk 64 rfl) (Nat.le_of_ble_eq_true rfl) rfl (t_X12_settled hsk (by omega) ho14) ?_
        cases hF
        exact s_iret hE dX12_lord_124 rfl
-- X12_of
theorem t_X12_of_j25 {d n0 s0 nF sF : Nat} {X : MX} {Ω : Nat → MS → Prop} {N : NN} (hsk : m_Sk X) (hd : 9 ≤ d) (hG : m_G d yX12_of.cls yX12_of.name cX12_of 3 n0 s0 nF sF Ω) {out : (Int × NN)} (hE : m_Gd d yX12_of cX12_of 3 (some .int) X (some (.inl out.1)) out.2 X Ω) (hF : f_X12_of_j25 X N = some out) : Ω 25 ([none, none, none], [], N, X) := by
  unfold f_X12_of_j25 at hF
  refine s_iconst hG dX12_of_25 ⟨by decide, by decide⟩ ?_
  cases hF
  exact s_iret hE dX12_of_26 rfl
theorem t_X12_of_j65 {d n0 s0 nF sF : Nat} {X : MX} {Ω : Nat → MS → Prop} {N : NN} {z0 : Int} (hsk : m_Sk X) (hd : 9 ≤ d) (hG : m_G d yX12_of.cls yX12_of.name cX12_of 3 n0 s0 nF sF Ω) {out : (Int × NN)} (hE : m_Gd d yX12_of cX12_of 3 (some .int) X (some (.inl out.1)) out.2 X Ω) (hF : f_X12_of_j65 X N z0 = some out) : Ω 65 ([none, none, none], [(.inl z0)], N, X) := by
  unfold f_X12_of_j65 at hF
  cases hF
  exact s_iret hE dX12_of_65 rfl
theorem t_X12_of {d : Nat} {X : MX} {N : NN} {a1 : Int} {a2 : Int} {out : (Int × NN)} (hsk : m_Sk X) (hd : 9 ≤ d) (hF : f_X12_of X N a1 a2 = some out) : m_Call d yX12_of cX12_of 3 (some .int) [(.inr (.inr 64)), (.inl a1), (.inl a2)] N X (some (.inl out.1)) out.2 X := by
  refine m_mk (ls0 := [some (.inr (.inr 64)), some (.inl a1), some (.inl a2)]) (by decide) rfl (Nat.le_of_ble_eq_true rfl) (Nat.le_refl _) (Nat.le_refl _) (fun Ω hE => ?_)
  have hG := hE.G
  unfold f_X12_of at hF
  refine s_aload_n hG dX12_of_0 rfl ?_
  refine s_iconst hG dX12_of_1 ⟨by decide, by decide⟩ ?_
  refine s_puti hG dX12_of_2 fl_RX12_166 (fun h => by cases h) (sk_k hsk 64 rfl) rfl ?_
  refine s_aload_n hG dX12_of_5 rfl ?_
  refine s_iload_n hG dX12_of_6 rfl ?_
  obtain ⟨o2, ho2, hF⟩ := bd_some hF
  refine s_callV (d' := d - 1) (ci := 12) (args := [.inl a1]) hG (by omega) dX12_of_7 cv_RX12_198 cw_X12_isLord rfl rfl (sk_k hsk 64 rfl) (Nat.le_of_ble_eq_true rfl) rfl (t_X12_isLord hsk (by omega) ho2) ?_
  refine s_if_eq hG 25 dX12_of_10 (by decide) (fun c11 => ?_) (fun c11 => ?_)
  · replace hF := Eq.trans (if_pos c11).symm hF
    refine m_weak (ls1 := [none, none, none]) hG trivial ?_
    exact t_X12_of_j25 hsk hd hG hE hF
  · replace hF := Eq.trans (if_neg c11).symm hF
    refine s_iload_n hG dX12_of_13 rfl ?_
    refine s_i2l hG dX12_of_14 ?_
    refine s_lconst (v := 0) hG dX12_of_15 rfl ⟨by decide, by decide⟩ ?_
    refine s_ldc2 hG dX12_of_16 kc_RX12_202 ⟨by decide, by decide⟩ ?_
    obtain ⟨o3, ho3, hF⟩ := bd_some hF
    refine s_callS (d' := d - 1) (args := [.inr (.inl a2), .inr (.inl 0), .inr (.inl 7)]) hG (by omega) dX12_of_19 cs_RX12_179 cw_X12_in rfl (Nat.le_of_ble_eq_true rfl) rfl (t_X12_in hsk (by omega) ho3) ?_
    refine s_if_ne hG 27 dX12_of_22 (by decide) (fun c10 => ?_) (fun c10 => ?_)
    · replace hF := Eq.trans (if_pos c10).symm hF
      refine m_weak (ls1 := [none, none, none]) hG trivial ?_
      exact t_X12_of_j25 hsk hd hG hE hF
    · replace hF := Eq.trans (if_neg c10).symm hF
      refine s_iload_n hG dX12_of_27 rfl ?_
      refine s_bipush hG dX12_of_28 bp_6 ⟨by decide, by decide⟩ ?_
      refine s_icmp_ge hG 42 dX12_of_30 (by decide) (fun c9 => ?_) (fun c9 => ?_)
      · replace hF := Eq.trans (if_pos c9).symm hF
        refine s_aload_n hG dX12_of_33 rfl ?_
        refine s_iload_n hG dX12_of_34 rfl ?_
        refine s_iload_n hG dX12_of_35 rfl ?_
        obtain ⟨o4, ho4, hF⟩ := bd_some hF
        refine s_callV (d' := d - 1) (ci := 12) (args := [.inl a1, .inl a2]) hG (by omega) dX12_of_36 cv_RX12_204 cw_X12_ofLord rfl rfl (sk_k hsk 64 rfl) (Nat.le_of_ble_eq_true rfl) rfl (t_X12_ofLord hsk (by omega) ho4) ?_
        refine s_goto hG 65 dX12_of_39 (by decide) ?_
        refine m_weak (ls1 := [none, none, none]) hG trivial ?_
        exact t_X12_of_j65 hsk hd hG hE hF
      · replace hF := Eq.trans (if_neg c9).symm hF
        refine s_iload_n hG dX12_of_42 rfl ?_
        refine s_bipush hG dX12_of_43 bp_6 ⟨by decide, by decide⟩ ?_
        refine s_icmp_ne hG 56 dX12_of_45 (by decide) (fun c8 => ?_) (fun c8 => ?_)
        · replace hF := Eq.trans (if_pos c8).symm hF
          refine s_aload_n hG dX12_of_48 rfl ?_
          refine s_iload_n hG dX12_of_49 rfl ?_
          obtain ⟨o5, ho5, hF⟩ := bd_some hF
          refine s_callV (d' := d - 1) (ci := 12) (args := [.inl a1]) hG (by omega) dX12_of_50 cv_RX12_207 cw_X12_held rfl rfl (sk_k hsk 64 rfl) (Nat.le_of_ble_eq_true rfl) rfl (t_X12_held hsk (by omega) ho5) ?_
          refine s_goto hG 65 dX12_of_53 (by decide) ?_
          refine m_weak (ls1 := [none, none, none]) hG trivial ?_
          exact t_X12_of_j65 hsk hd hG hE hF
        · replace hF := Eq.trans (if_neg c8).symm hF
          refine s_aload_n hG dX12_of_56 rfl ?_
          refine s_iload_n hG dX12_of_57 rfl ?_
          refine s_aload_n hG dX12_of_58 rfl ?_
          obtain ⟨o6, ho6, hF⟩ := bd_some hF
          refine s_callV (d' := d - 1) (ci := 12) (args := []) hG (by omega) dX12_of_59 cv_RX12_210 cw_X12_year rfl rfl (sk_k hsk 64 rfl) (Nat.le_of_ble_eq_true rfl) rfl (t_X12_year hsk (by omega) ho6) ?_
          obtain ⟨o7, ho7, hF⟩ := bd_some hF
          refine s_callV (d' := d - 1) (ci := 12) (args := [.inl a1, .inl o6]) hG (by omega) dX12_of_62 cv_RX12_214 cw_X12_costs rfl rfl (sk_k hsk 64 rfl) (Nat.le_of_ble_eq_true rfl) rfl (t_X12_costs hsk (by omega) ho7) ?_
          refine m_weak (ls1 := [none, none, none]) hG trivial ?_
          exact t_X12_of_j65 hsk hd hG hE hF
-- X12_ones
theorem t_X12_ones_b4 {d n0 s0 nF sF : Nat} {X : MX} {N : NN} {Ω : Nat → MS → Prop} {a0 : Int} {a1 : Int} {a2 : Int} (hsk : m_Sk X) (hd : 1 ≤ d) (hG : m_G d yX12_ones.cls yX12_ones.name cX12_ones 3 n0 s0 nF sF Ω) {out : ((Int × Int × Int) ⊕ Int)} (hK0 : ∀ s' : (Int × Int × Int), out = .inl s' → Ω 4 ([some (.inl (s'.1)), some (.inl (s'.2.1)), some (.inl (s'.2.2))], [], N, X)) (hK1 : ∀ t : Int, out = .inr t → Ω 24 ([none, some (.inl t), none], [], N, X)) (hF : b_X12_ones_4 X N a0 a1 a2 = some out) : Ω 4 ([some (.inl a0), some (.inl a1), some (.inl a2)], [], N, X) := by
  unfold b_X12_ones_4 at hF
  refine s_iload_n hG dX12_ones_4 rfl ?_
  refine s_bipush hG dX12_ones_5 bp_16 ⟨by decide, by decide⟩ ?_
  refine s_icmp_ge hG 24 dX12_ones_7 (by decide) (fun c1 => ?_) (fun c1 => ?_)
  · replace hF := Eq.trans (if_pos c1).symm hF
    refine s_iload_n hG dX12_ones_10 rfl ?_
    refine s_iload_n hG dX12_ones_11 rfl ?_
    refine s_iload_n hG dX12_ones_12 rfl ?_
    refine s_ishr hG dX12_ones_13 ?_
    refine s_iconst hG dX12_ones_14 ⟨by decide, by decide⟩ ?_
    refine s_iand hG dX12_ones_15 ?_
    refine s_iadd hG dX12_ones_16 ?_
    refine s_istore_n hG dX12_ones_17 (by decide) rfl ?_
    refine s_iinc hG dX12_ones_18 (by decide) rfl rfl ?_
    refine s_goto hG 4 dX12_ones_21 (by decide) ?_
    cases hF
    exact hK0 _ rfl
  · replace hF := Eq.trans (if_neg c1).symm hF
    cases hF
    refine m_weak (ls1 := [none, some (.inl a1), none]) hG ⟨rfl, trivial⟩ ?_
    exact hK1 _ rfl
theorem t_X12_ones_lp4 {d n0 s0 nF sF : Nat} {X : MX} {N : NN} {Ω : Nat → MS → Prop} {a0 : Int} {a1 : Int} {a2 : Int} (hsk : m_Sk X) (hd : 1 ≤ d) (hG : m_G d yX12_ones.cls yX12_ones.name cX12_ones 3 n0 s0 nF sF Ω) {t : Int} (hK1 : Ω 24 ([none, some (.inl t), none], [], N, X)) (hl : lp (fun s => b_X12_ones_4 X N s.1 s.2.1 s.2.2) (a0, a1, a2) = some t) : Ω 4 ([some (.inl a0), some (.inl a1), some (.inl a2)], [], N, X) := by
  refine lp_ok (P := fun s => Ω 4 ([some (.inl s.1), some (.inl s.2.1), some (.inl s.2.2)], [], N, X)) (K := fun t => Ω 24 ([none, some (.inl t), none], [], N, X)) (fun s out hF hK0 hK1 => ?_) hl hK1
  exact t_X12_ones_b4 hsk hd hG (out := out) (fun s' e => hK0 s' e) (fun t' e => hK1 t' e) hF
theorem t_X12_ones {d : Nat} {X : MX} {N : NN} {a0 : Int} {out : Int} (hsk : m_Sk X) (hd : 1 ≤ d) (hF : f_X12_ones X N a0 = some out) : m_Call d yX12_ones cX12_ones 3 (some .int) [(.inl a0)] N X (some (.inl out)) N X := by
  refine m_mk (ls0 := [some (.inl a0), none, none]) (by decide) rfl (Nat.le_of_ble_eq_true rfl) (Nat.le_refl _) (Nat.le_refl _) (fun Ω hE => ?_)
  have hG := hE.G
  unfold f_X12_ones at hF
  refine s_iconst hG dX12_ones_0 ⟨by decide, by decide⟩ ?_
  refine s_istore_n hG dX12_ones_1 (by decide) rfl ?_
  refine s_iconst hG dX12_ones_2 ⟨by decide, by decide⟩ ?_
  refine s_istore_n hG dX12_ones_3 (by decide) rfl ?_
  obtain ⟨o2, hlo2, hF⟩ := bd_some hF
  refine t_X12_ones_lp4 hsk hd hG ?_ hlo2
  refine s_iload_n hG dX12_ones_24 rfl ?_
  cases hF
  exact s_iret hE dX12_ones_25 rfl
-- X12_readSum
theorem t_X12_readSum_j22 {d n0 s0 nF sF : Nat} {X : MX} {Ω : Nat → MS → Prop} {N : NN} {a1 : Int} (hsk : m_Sk X) (hd : 8 ≤ d) (hG : m_G d yX12_readSum.cls yX12_readSum.name cX12_readSum 2 n0 s0 nF sF Ω) {out : NN} (hE : m_Gd d yX12_readSum cX12_readSum 2 none X none out X Ω) (hF : f_X12_readSum_j22 X N a1 = some out) : Ω 22 ([some (.inr (.inr 64)), some (.inl a1)], [], N, X) := by
  unfold f_X12_readSum_j22 at hF
  refine s_aload_n hG dX12_readSum_22 rfl ?_
  refine s_getr (r := 102) hG dX12_readSum_23 fl_RX12_157 (sk_k hsk 64 rfl) rfl (sk_R hsk 64 65 rfl) ?_
  refine s_iload_n hG dX12_readSum_26 rfl ?_
  refine s_iconst hG dX12_readSum_27 ⟨by decide, by decide⟩ ?_
  refine s_iadd hG dX12_readSum_28 ?_
  refine s_aload_n hG dX12_readSum_29 rfl ?_
  refine s_geti hG dX12_readSum_30 fl_RX12_288 (sk_k hsk 64 rfl) rfl ?_
  obtain ⟨g5, hF⟩ := gd_some hF
  refine s_iastj (j := (m_w (a1 + 1)).toNat) hG dX12_readSum_33 (sk_K hsk 102 rfl) g5 rfl ?_
  cases hF
  exact s_vret hE dX12_readSum_34 rfl
theorem t_X12_readSum {d : Nat} {X : MX} {N : NN} {a1 : Int} {out : NN} (hsk : m_Sk X) (hd : 8 ≤ d) (hF : f_X12_readSum X N a1 = some out) : m_Call d yX12_readSum cX12_readSum 2 none [(.inr (.inr 64)), (.inl a1)] N X none out X := by
  refine m_mk (ls0 := [some (.inr (.inr 64)), some (.inl a1)]) (by decide) rfl (Nat.le_of_ble_eq_true rfl) (Nat.le_refl _) (Nat.le_refl _) (fun Ω hE => ?_)
  have hG := hE.G
  unfold f_X12_readSum at hF
  refine s_aload_n hG dX12_readSum_0 rfl ?_
  refine s_getr (r := 102) hG dX12_readSum_1 fl_RX12_157 (sk_k hsk 64 rfl) rfl (sk_R hsk 64 65 rfl) ?_
  refine s_iload_n hG dX12_readSum_4 rfl ?_
  refine s_aload_n hG dX12_readSum_5 rfl ?_
  refine s_geti hG dX12_readSum_6 fl_RX12_288 (sk_k hsk 64 rfl) rfl ?_
  obtain ⟨g1, hF⟩ := gd_some hF
  refine s_iastj (j := a1.toNat) hG dX12_readSum_9 (sk_K hsk 102 rfl) g1 rfl ?_
  refine s_aload_n hG dX12_readSum_10 rfl ?_
  refine s_getz hG dX12_readSum_11 fl_RX12_249 (sk_k hsk 64 rfl) rfl ?_
  refine s_if_ne hG 22 dX12_readSum_14 (by decide) (fun c4 => ?_) (fun c4 => ?_)
  · replace hF := Eq.trans (if_pos c4).symm hF
    refine s_aload_n hG dX12_readSum_17 rfl ?_
    refine s_iconst hG dX12_readSum_18 ⟨by decide, by decide⟩ ?_
    obtain ⟨o3, ho3, hF⟩ := bd_some hF
    refine s_callV (d' := d - 1) (ci := 12) (args := [.inl 0]) hG (by omega) dX12_readSum_19 cv_RX12_388 cw_X12_readExpression rfl rfl (sk_k hsk 64 rfl) (Nat.le_of_ble_eq_true rfl) rfl (t_X12_readExpression hsk (by omega) ho3) ?_
    exact t_X12_readSum_j22 hsk hd hG hE hF
  · replace hF := Eq.trans (if_neg c4).symm hF
    exact t_X12_readSum_j22 hsk hd hG hE hF
-- X12_readOrder
theorem t_X12_readOrder_j208 {d n0 s0 nF sF : Nat} {X : MX} {Ω : Nat → MS → Prop} {N : NN} {a2 : Int} (hsk : m_Sk X) (hd : 9 ≤ d) (hG : m_G d yX12_readOrder.cls yX12_readOrder.name cX12_readOrder 3 n0 s0 nF sF Ω) {out : NN} (hE : m_Gd d yX12_readOrder cX12_readOrder 3 none X none out X Ω) (hF : f_X12_readOrder_j208 X N a2 = some out) : Ω 208 ([some (.inr (.inr 64)), none, some (.inl a2)], [], N, X) := by
  unfold f_X12_readOrder_j208 at hF
  refine s_aload_n hG dX12_readOrder_208 rfl ?_
  refine s_getr (r := 102) hG dX12_readOrder_209 fl_RX12_157 (sk_k hsk 64 rfl) rfl (sk_R hsk 64 65 rfl) ?_
  refine s_iload_n hG dX12_readOrder_212 rfl ?_
  refine s_bipush hG dX12_readOrder_213 bp_6 ⟨by decide, by decide⟩ ?_
  refine s_iadd hG dX12_readOrder_215 ?_
  refine s_aload_n hG dX12_readOrder_216 rfl ?_
  refine s_geti hG dX12_readOrder_217 fl_RX12_288 (sk_k hsk 64 rfl) rfl ?_
  obtain ⟨g34, hF⟩ := gd_some hF
  refine s_iastj (j := (m_w (a2 + 6)).toNat) hG dX12_readOrder_220 (sk_K hsk 102 rfl) g34 rfl ?_
  cases hF
  exact s_vret hE dX12_readOrder_221 rfl
theorem t_X12_readOrder_j170 {d n0 s0 nF sF : Nat} {X : MX} {Ω : Nat → MS → Prop} {N : NN} {a2 : Int} (hsk : m_Sk X) (hd : 9 ≤ d) (hG : m_G d yX12_readOrder.cls yX12_readOrder.name cX12_readOrder 3 n0 s0 nF sF Ω) {out : NN} (hE : m_Gd d yX12_readOrder cX12_readOrder 3 none X none out X Ω) (hF : f_X12_readOrder_j170 X N a2 = some out) : Ω 170 ([some (.inr (.inr 64)), none, some (.inl a2)], [], N, X) := by
  unfold f_X12_readOrder_j170 at hF
  refine s_aload_n hG dX12_readOrder_170 rfl ?_
  refine s_getr (r := 102) hG dX12_readOrder_171 fl_RX12_157 (sk_k hsk 64 rfl) rfl (sk_R hsk 64 65 rfl) ?_
  refine s_iload_n hG dX12_readOrder_174 rfl ?_
  refine s_iconst hG dX12_readOrder_175 ⟨by decide, by decide⟩ ?_
  refine s_iadd hG dX12_readOrder_176 ?_
  refine s_aload_n hG dX12_readOrder_177 rfl ?_
  refine s_geti hG dX12_readOrder_178 fl_RX12_288 (sk_k hsk 64 rfl) rfl ?_
  obtain ⟨g27, hF⟩ := gd_some hF
  refine s_iastj (j := (m_w (a2 + 5)).toNat) hG dX12_readOrder_181 (sk_K hsk 102 rfl) g27 rfl ?_
  refine s_aload_n hG dX12_readOrder_182 rfl ?_
  refine s_getz hG dX12_readOrder_183 fl_RX12_249 (sk_k hsk 64 rfl) rfl ?_
  refine s_if_ne hG 208 dX12_readOrder_186 (by decide) (fun c33 => ?_) (fun c33 => ?_)
  · replace hF := Eq.trans (if_pos c33).symm hF
    refine s_aload_n hG dX12_readOrder_189 rfl ?_
    refine s_ldc2 hG dX12_readOrder_190 kc_RX12_391 ⟨by decide, by decide⟩ ?_
    obtain ⟨o29, ho29, hF⟩ := bd_some hF
    refine s_callV (d' := d - 1) (ci := 12) (args := [.inr (.inl 294)]) hG (by omega) dX12_readOrder_193 cv_RX12_307 cw_X12_isWord rfl rfl (sk_k hsk 64 rfl) (Nat.le_of_ble_eq_true rfl) rfl (t_X12_isWord hsk (by omega) ho29) ?_
    refine s_if_eq hG 208 dX12_readOrder_196 (by decide) (fun c32 => ?_) (fun c32 => ?_)
    · replace hF := Eq.trans (if_pos c32).symm hF
      exact t_X12_readOrder_j208 hsk hd hG hE hF
    · replace hF := Eq.trans (if_neg c32).symm hF
      refine s_aload_n hG dX12_readOrder_199 rfl ?_
      obtain ⟨o30, ho30, hF⟩ := bd_some hF
      refine s_callV (d' := d - 1) (ci := 12) (args := []) hG (by omega) dX12_readOrder_200 cv_RX12_253 cw_X12_next rfl rfl (sk_k hsk 64 rfl) (Nat.le_of_ble_eq_true rfl) rfl (t_X12_next hsk (by omega) ho30) ?_
      refine s_aload_n hG dX12_readOrder_203 rfl ?_
      refine s_iconst hG dX12_readOrder_204 ⟨by decide, by decide⟩ ?_
      obtain ⟨o31, ho31, hF⟩ := bd_some hF
      refine s_callV (d' := d - 1) (ci := 12) (args := [.inl 1]) hG (by omega) dX12_readOrder_205 cv_RX12_388 cw_X12_readExpression rfl rfl (sk_k hsk 64 rfl) (Nat.le_of_ble_eq_true rfl) rfl (t_X12_readExpression hsk (by omega) ho31) ?_
      exact t_X12_readOrder_j208 hsk hd hG hE hF
  · replace hF := Eq.trans (if_neg c33).symm hF
    exact t_X12_readOrder_j208 hsk hd hG hE hF
theorem t_X12_readOrder_j122 {d n0 s0 nF sF : Nat} {X : MX} {Ω : Nat → MS → Prop} {N : NN} {a2 : Int} (hsk : m_Sk X) (hd : 9 ≤ d) (hG : m_G d yX12_readOrder.cls yX12_readOrder.name cX12_readOrder 3 n0 s0 nF sF Ω) {out : NN} (hE : m_Gd d yX12_readOrder cX12_readOrder 3 none X none out X Ω) (hF : f_X12_readOrder_j122 X N a2 = some out) : Ω 122 ([some (.inr (.inr 64)), none, some (.inl a2)], [], N, X) := by
  unfold f_X12_readOrder_j122 at hF
  refine s_aload_n hG dX12_readOrder_122 rfl ?_
  refine s_getr (r := 102) hG dX12_readOrder_123 fl_RX12_157 (sk_k hsk 64 rfl) rfl (sk_R hsk 64 65 rfl) ?_
  refine s_iload_n hG dX12_readOrder_126 rfl ?_
  refine s_bipush hG dX12_readOrder_127 bp_7 ⟨by decide, by decide⟩ ?_
  refine s_iadd hG dX12_readOrder_129 ?_
  refine s_iconst hG dX12_readOrder_130 ⟨by decide, by decide⟩ ?_
  obtain ⟨g18, hF⟩ := gd_some hF
  refine s_iastj (j := (m_w (a2 + 7)).toNat) hG dX12_readOrder_131 (sk_K hsk 102 rfl) g18 rfl ?_
  refine s_aload_n hG dX12_readOrder_132 rfl ?_
  refine s_getz hG dX12_readOrder_133 fl_RX12_249 (sk_k hsk 64 rfl) rfl ?_
  refine s_if_ne hG 170 dX12_readOrder_136 (by decide) (fun c26 => ?_) (fun c26 => ?_)
  · replace hF := Eq.trans (if_pos c26).symm hF
    refine s_aload_n hG dX12_readOrder_139 rfl ?_
    refine s_ldc2 hG dX12_readOrder_140 kc_RX12_590 ⟨by decide, by decide⟩ ?_
    obtain ⟨o20, ho20, hF⟩ := bd_some hF
    refine s_callV (d' := d - 1) (ci := 12) (args := [.inr (.inl 21279923)]) hG (by omega) dX12_readOrder_143 cv_RX12_307 cw_X12_isWord rfl rfl (sk_k hsk 64 rfl) (Nat.le_of_ble_eq_true rfl) rfl (t_X12_isWord hsk (by omega) ho20) ?_
    refine s_if_eq hG 170 dX12_readOrder_146 (by decide) (fun c25 => ?_) (fun c25 => ?_)
    · replace hF := Eq.trans (if_pos c25).symm hF
      exact t_X12_readOrder_j170 hsk hd hG hE hF
    · replace hF := Eq.trans (if_neg c25).symm hF
      refine s_aload_n hG dX12_readOrder_149 rfl ?_
      obtain ⟨o21, ho21, hF⟩ := bd_some hF
      refine s_callV (d' := d - 1) (ci := 12) (args := []) hG (by omega) dX12_readOrder_150 cv_RX12_253 cw_X12_next rfl rfl (sk_k hsk 64 rfl) (Nat.le_of_ble_eq_true rfl) rfl (t_X12_next hsk (by omega) ho21) ?_
      refine s_aload_n hG dX12_readOrder_153 rfl ?_
      refine s_getr (r := 102) hG dX12_readOrder_154 fl_RX12_157 (sk_k hsk 64 rfl) rfl (sk_R hsk 64 65 rfl) ?_
      refine s_iload_n hG dX12_readOrder_157 rfl ?_
      refine s_bipush hG dX12_readOrder_158 bp_7 ⟨by decide, by decide⟩ ?_
      refine s_iadd hG dX12_readOrder_160 ?_
      refine s_aload_n hG dX12_readOrder_161 rfl ?_
      refine s_lconst (v := 1) hG dX12_readOrder_162 rfl ⟨by decide, by decide⟩ ?_
      refine s_ldc2 hG dX12_readOrder_163 kc_RX12_220 ⟨by decide, by decide⟩ ?_
      obtain ⟨o22, ho22, hF⟩ := bd_some hF
      refine s_callV (d' := d - 1) (ci := 12) (args := [.inr (.inl 1), .inr (.inl 20)]) hG (by omega) dX12_readOrder_166 cv_RX12_343 cw_X12_number rfl rfl (sk_k hsk 64 rfl) (Nat.le_of_ble_eq_true rfl) rfl (t_X12_number hsk (by omega) ho22) ?_
      obtain ⟨g23, hF⟩ := gd_some hF
      refine s_iastj (j := (m_w (a2 + 7)).toNat) hG dX12_readOrder_169 (sk_K hsk 102 rfl) g23 rfl ?_
      exact t_X12_readOrder_j170 hsk hd hG hE hF
  · replace hF := Eq.trans (if_neg c26).symm hF
    exact t_X12_readOrder_j170 hsk hd hG hE hF
theorem t_X12_readOrder_j115 {d n0 s0 nF sF : Nat} {X : MX} {Ω : Nat → MS → Prop} {N : NN} {a2 : Int} (hsk : m_Sk X) (hd : 9 ≤ d) (hG : m_G d yX12_readOrder.cls yX12_readOrder.name cX12_readOrder 3 n0 s0 nF sF Ω) {out : NN} (hE : m_Gd d yX12_readOrder cX12_readOrder 3 none X none out X Ω) (hF : f_X12_readOrder_j115 X N a2 = some out) : Ω 115 ([some (.inr (.inr 64)), none, some (.inl a2)], [], N, X) := by
  unfold f_X12_readOrder_j115 at hF
  refine s_aload_n hG dX12_readOrder_115 rfl ?_
  refine s_iload_n hG dX12_readOrder_116 rfl ?_
  refine s_iconst hG dX12_readOrder_117 ⟨by decide, by decide⟩ ?_
  refine s_iadd hG dX12_readOrder_118 ?_
  obtain ⟨o17, ho17, hF⟩ := bd_some hF
  refine s_callV (d' := d - 1) (ci := 12) (args := [.inl (m_w (a2 + 3))]) hG (by omega) dX12_readOrder_119 cv_RX12_587 cw_X12_readSum rfl rfl (sk_k hsk 64 rfl) (Nat.le_of_ble_eq_true rfl) rfl (t_X12_readSum hsk (by omega) ho17) ?_
  exact t_X12_readOrder_j122 hsk hd hG hE hF
theorem t_X12_readOrder_j50 {d n0 s0 nF sF : Nat} {X : MX} {Ω : Nat → MS → Prop} {N : NN} {a1 : Int} {z1 : Int} (hsk : m_Sk X) (hd : 9 ≤ d) (hG : m_G d yX12_readOrder.cls yX12_readOrder.name cX12_readOrder 3 n0 s0 nF sF Ω) {out : NN} (hE : m_Gd d yX12_readOrder cX12_readOrder 3 none X none out X Ω) (hF : f_X12_readOrder_j50 X N a1 z1 = some out) : Ω 50 ([some (.inr (.inr 64)), some (.inl a1), none], [(.inl z1), (.inr (.inr 64))], N, X) := by
  unfold f_X12_readOrder_j50 at hF
  obtain ⟨o7, ho7, hF⟩ := bd_some hF
  refine s_callV (d' := d - 1) (ci := 12) (args := [.inl z1]) hG (by omega) dX12_readOrder_50 cv_RX12_284 cw_X12_must rfl rfl (sk_k hsk 64 rfl) (Nat.le_of_ble_eq_true rfl) rfl (t_X12_must hsk (by omega) ho7) ?_
  refine s_aload_n hG dX12_readOrder_53 rfl ?_
  refine s_getz hG dX12_readOrder_54 fl_RX12_249 (sk_k hsk 64 rfl) rfl ?_
  refine s_if_eq hG 61 dX12_readOrder_57 (by decide) (fun c16 => ?_) (fun c16 => ?_)
  · replace hF := Eq.trans (if_pos c16).symm hF
    refine s_bipush hG dX12_readOrder_61 bp_8 ⟨by decide, by decide⟩ ?_
    refine s_aload_n hG dX12_readOrder_63 rfl ?_
    refine s_geti hG dX12_readOrder_64 fl_RX12_379 (sk_k hsk 64 rfl) rfl ?_
    refine s_imul hG dX12_readOrder_67 ?_
    refine s_istore_n hG dX12_readOrder_68 (by decide) rfl ?_
    refine s_aload_n hG dX12_readOrder_69 rfl ?_
    refine s_dup hG dX12_readOrder_70 rfl ?_
    refine s_geti hG dX12_readOrder_71 fl_RX12_379 (sk_k hsk 64 rfl) rfl ?_
    refine s_iconst hG dX12_readOrder_74 ⟨by decide, by decide⟩ ?_
    refine s_iadd hG dX12_readOrder_75 ?_
    refine s_puti hG dX12_readOrder_76 fl_RX12_379 (fun h => by cases h) (sk_k hsk 64 rfl) rfl ?_
    refine s_aload_n hG dX12_readOrder_79 rfl ?_
    refine s_getr (r := 102) hG dX12_readOrder_80 fl_RX12_157 (sk_k hsk 64 rfl) rfl (sk_R hsk 64 65 rfl) ?_
    refine s_iload_n hG dX12_readOrder_83 rfl ?_
    refine s_iload_n hG dX12_readOrder_84 rfl ?_
    obtain ⟨g9, hF⟩ := gd_some hF
    refine s_iastj (j := (m_w (8 * (o7 64 21))).toNat) hG dX12_readOrder_85 (sk_K hsk 102 rfl) g9 rfl ?_
    refine s_iload_n hG dX12_readOrder_86 rfl ?_
    refine s_if_ne hG 122 dX12_readOrder_87 (by decide) (fun c15 => ?_) (fun c15 => ?_)
    · replace hF := Eq.trans (if_pos c15).symm hF
      refine s_aload_n hG dX12_readOrder_90 rfl ?_
      refine s_iload_n hG dX12_readOrder_91 rfl ?_
      refine s_iconst hG dX12_readOrder_92 ⟨by decide, by decide⟩ ?_
      refine s_iadd hG dX12_readOrder_93 ?_
      obtain ⟨o11, ho11, hF⟩ := bd_some hF
      refine s_callV (d' := d - 1) (ci := 12) (args := [.inl (m_w ((m_w (8 * (o7 64 21))) + 1))]) hG (by omega) dX12_readOrder_94 cv_RX12_587 cw_X12_readSum rfl rfl (sk_k hsk 64 rfl) (Nat.le_of_ble_eq_true rfl) rfl (t_X12_readSum hsk (by omega) ho11) ?_
      refine s_aload_n hG dX12_readOrder_97 rfl ?_
      refine s_getz hG dX12_readOrder_98 fl_RX12_249 (sk_k hsk 64 rfl) rfl ?_
      refine s_if_ne hG 115 dX12_readOrder_101 (by decide) (fun c14 => ?_) (fun c14 => ?_)
      · replace hF := Eq.trans (if_pos c14).symm hF
        refine s_aload_n hG dX12_readOrder_104 rfl ?_
        refine s_aload_n hG dX12_readOrder_105 rfl ?_
        refine s_ldc2 hG dX12_readOrder_106 kc_RX12_67 ⟨by decide, by decide⟩ ?_
        obtain ⟨o12, ho12, hF⟩ := bd_some hF
        refine s_callV (d' := d - 1) (ci := 12) (args := [.inr (.inl 655)]) hG (by omega) dX12_readOrder_109 cv_RX12_307 cw_X12_isWord rfl rfl (sk_k hsk 64 rfl) (Nat.le_of_ble_eq_true rfl) rfl (t_X12_isWord hsk (by omega) ho12) ?_
        obtain ⟨o13, ho13, hF⟩ := bd_some hF
        refine s_callV (d' := d - 1) (ci := 12) (args := [.inl o12]) hG (by omega) dX12_readOrder_112 cv_RX12_284 cw_X12_must rfl rfl (sk_k hsk 64 rfl) (Nat.le_of_ble_eq_true rfl) rfl (t_X12_must hsk (by omega) ho13) ?_
        refine m_weak (ls1 := [some (.inr (.inr 64)), none, some (.inl (m_w (8 * (o7 64 21))))]) hG ⟨rfl, ⟨rfl, trivial⟩⟩ ?_
        exact t_X12_readOrder_j115 hsk hd hG hE hF
      · replace hF := Eq.trans (if_neg c14).symm hF
        refine m_weak (ls1 := [some (.inr (.inr 64)), none, some (.inl (m_w (8 * (o7 64 21))))]) hG ⟨rfl, ⟨rfl, trivial⟩⟩ ?_
        exact t_X12_readOrder_j115 hsk hd hG hE hF
    · replace hF := Eq.trans (if_neg c15).symm hF
      refine m_weak (ls1 := [some (.inr (.inr 64)), none, some (.inl (m_w (8 * (o7 64 21))))]) hG ⟨rfl, ⟨rfl, trivial⟩⟩ ?_
      exact t_X12_readOrder_j122 hsk hd hG hE hF
  · replace hF := Eq.trans (if_neg c16).symm hF
    cases hF
    exact s_vret hE dX12_readOrder_60 rfl
theorem t_X12_readOrder_j49 {d n0 s0 nF sF : Nat} {X : MX} {Ω : Nat → MS → Prop} {N : NN} {a1 : Int} (hsk : m_Sk X) (hd : 9 ≤ d) (hG : m_G d yX12_readOrder.cls yX12_readOrder.name cX12_readOrder 3 n0 s0 nF sF Ω) {out : NN} (hE : m_Gd d yX12_readOrder cX12_readOrder 3 none X none out X Ω) (hF : f_X12_readOrder_j49 X N a1 = some out) : Ω 49 ([some (.inr (.inr 64)), some (.inl a1), none], [(.inr (.inr 64))], N, X) := by
  unfold f_X12_readOrder_j49 at hF
  refine s_iconst hG dX12_readOrder_49 ⟨by decide, by decide⟩ ?_
  exact t_X12_readOrder_j50 hsk hd hG hE hF
theorem t_X12_readOrder_j29 {d n0 s0 nF sF : Nat} {X : MX} {Ω : Nat → MS → Prop} {N : NN} {z0 : Int} (hsk : m_Sk X) (hd : 9 ≤ d) (hG : m_G d yX12_readOrder.cls yX12_readOrder.name cX12_readOrder 3 n0 s0 nF sF Ω) {out : NN} (hE : m_Gd d yX12_readOrder cX12_readOrder 3 none X none out X Ω) (hF : f_X12_readOrder_j29 X N z0 = some out) : Ω 29 ([some (.inr (.inr 64)), none, none], [(.inl z0)], N, X) := by
  unfold f_X12_readOrder_j29 at hF
  refine s_istore_n hG dX12_readOrder_29 (by decide) rfl ?_
  refine s_aload_n hG dX12_readOrder_30 rfl ?_
  refine s_iload_n hG dX12_readOrder_31 rfl ?_
  refine s_iconst hG dX12_readOrder_32 ⟨by decide, by decide⟩ ?_
  refine s_icmp_eq hG 49 dX12_readOrder_33 (by decide) (fun c6 => ?_) (fun c6 => ?_)
  · replace hF := Eq.trans (if_pos c6).symm hF
    exact t_X12_readOrder_j49 hsk hd hG hE hF
  · replace hF := Eq.trans (if_neg c6).symm hF
    refine s_aload_n hG dX12_readOrder_36 rfl ?_
    refine s_geti hG dX12_readOrder_37 fl_RX12_379 (sk_k hsk 64 rfl) rfl ?_
    refine s_bipush hG dX12_readOrder_40 bp_12 ⟨by decide, by decide⟩ ?_
    refine s_icmp_ge hG 49 dX12_readOrder_42 (by decide) (fun c5 => ?_) (fun c5 => ?_)
    · replace hF := Eq.trans (if_pos c5).symm hF
      refine s_iconst hG dX12_readOrder_45 ⟨by decide, by decide⟩ ?_
      refine s_goto hG 50 dX12_readOrder_46 (by decide) ?_
      exact t_X12_readOrder_j50 hsk hd hG hE hF
    · replace hF := Eq.trans (if_neg c5).symm hF
      exact t_X12_readOrder_j49 hsk hd hG hE hF
theorem t_X12_readOrder {d : Nat} {X : MX} {N : NN} {out : NN} (hsk : m_Sk X) (hd : 9 ≤ d) (hF : f_X12_readOrder X N = some out) : m_Call d yX12_readOrder cX12_readOrder 3 none [(.inr (.inr 64))] N X none out X := by
  refine m_mk (ls0 := [some (.inr (.inr 64)), none, none]) (by decide) rfl (Nat.le_of_ble_eq_true rfl) (Nat.le_refl _) (Nat.le_refl _) (fun Ω hE => ?_)
  have hG := hE.G
  unfold f_X12_readOrder at hF
  refine s_aload_n hG dX12_readOrder_0 rfl ?_
  refine s_ldc2 hG dX12_readOrder_1 kc_RX12_583 ⟨by decide, by decide⟩ ?_
  obtain ⟨o1, ho1, hF⟩ := bd_some hF
  refine s_callV (d' := d - 1) (ci := 12) (args := [.inr (.inl 239301)]) hG (by omega) dX12_readOrder_4 cv_RX12_307 cw_X12_isWord rfl rfl (sk_k hsk 64 rfl) (Nat.le_of_ble_eq_true rfl) rfl (t_X12_isWord hsk (by omega) ho1) ?_
  refine s_if_eq hG 14 dX12_readOrder_7 (by decide) (fun c4 => ?_) (fun c4 => ?_)
  · replace hF := Eq.trans (if_pos c4).symm hF
    refine s_aload_n hG dX12_readOrder_14 rfl ?_
    refine s_ldc2 hG dX12_readOrder_15 kc_RX12_585 ⟨by decide, by decide⟩ ?_
    obtain ⟨o2, ho2, hF⟩ := bd_some hF
    refine s_callV (d' := d - 1) (ci := 12) (args := [.inr (.inl 754996)]) hG (by omega) dX12_readOrder_18 cv_RX12_307 cw_X12_isWord rfl rfl (sk_k hsk 64 rfl) (Nat.le_of_ble_eq_true rfl) rfl (t_X12_isWord hsk (by omega) ho2) ?_
    refine s_if_eq hG 28 dX12_readOrder_21 (by decide) (fun c3 => ?_) (fun c3 => ?_)
    · replace hF := Eq.trans (if_pos c3).symm hF
      refine s_iconst hG dX12_readOrder_28 ⟨by decide, by decide⟩ ?_
      exact t_X12_readOrder_j29 hsk hd hG hE hF
    · replace hF := Eq.trans (if_neg c3).symm hF
      refine s_iconst hG dX12_readOrder_24 ⟨by decide, by decide⟩ ?_
      refine s_goto hG 29 dX12_readOrder_25 (by decide) ?_
      exact t_X12_readOrder_j29 hsk hd hG hE hF
  · replace hF := Eq.trans (if_neg c4).symm hF
    refine s_iconst hG dX12_readOrder_10 ⟨by decide, by decide⟩ ?_
    refine s_goto hG 29 dX12_readOrder_11 (by decide) ?_
    exact t_X12_readOrder_j29 hsk hd hG hE hF
-- X12_sumOf
theorem t_X12_sumOf {d : Nat} {X : MX} {N : NN} {a1 : Int} {out : (Int × NN)} (hsk : m_Sk X) (hd : 5 ≤ d) (hF : f_X12_sumOf X N a1 = some out) : m_Call d yX12_sumOf cX12_sumOf 2 (some .long) [(.inr (.inr 64)), (.inl a1)] N X (some (.inr (.inl out.1))) out.2 X := by
  refine m_mk (ls0 := [some (.inr (.inr 64)), some (.inl a1)]) (by decide) rfl (Nat.le_of_ble_eq_true rfl) (Nat.le_refl _) (Nat.le_refl _) (fun Ω hE => ?_)
  have hG := hE.G
  unfold f_X12_sumOf at hF
  refine s_aload_n hG dX12_sumOf_0 rfl ?_
  refine s_getz hG dX12_sumOf_1 fl_RX12_592 (sk_k hsk 64 rfl) rfl ?_
  refine s_if_eq hG 9 dX12_sumOf_4 (by decide) (fun c8 => ?_) (fun c8 => ?_)
  · replace hF := Eq.trans (if_pos c8).symm hF
    refine s_aload_n hG dX12_sumOf_9 rfl ?_
    refine s_iconst hG dX12_sumOf_10 ⟨by decide, by decide⟩ ?_
    refine s_putz hG dX12_sumOf_11 fl_RX12_326 (fun h => by cases h) (sk_k hsk 64 rfl) rfl ⟨by decide, by decide⟩ ?_
    let N1 : NN := m_up N 64 20 1
    refine s_aload_n hG dX12_sumOf_14 rfl ?_
    refine s_aload_n hG dX12_sumOf_15 rfl ?_
    refine s_getr (r := 102) hG dX12_sumOf_16 fl_RX12_157 (sk_k hsk 64 rfl) rfl (sk_R hsk 64 65 rfl) ?_
    refine s_iload_n hG dX12_sumOf_19 rfl ?_
    obtain ⟨g2, hF⟩ := gd_some hF
    refine s_ialdj (j := a1.toNat) hG dX12_sumOf_20 (sk_K hsk 102 rfl) g2 rfl ?_
    refine s_aload_n hG dX12_sumOf_21 rfl ?_
    refine s_getr (r := 102) hG dX12_sumOf_22 fl_RX12_157 (sk_k hsk 64 rfl) rfl (sk_R hsk 64 65 rfl) ?_
    refine s_iload_n hG dX12_sumOf_25 rfl ?_
    refine s_iconst hG dX12_sumOf_26 ⟨by decide, by decide⟩ ?_
    refine s_iadd hG dX12_sumOf_27 ?_
    obtain ⟨g3, hF⟩ := gd_some hF
    refine s_ialdj (j := (m_w (a1 + 1)).toNat) hG dX12_sumOf_28 (sk_K hsk 102 rfl) g3 rfl ?_
    obtain ⟨o4, ho4, hF⟩ := bd_some hF
    refine s_callV (d' := d - 1) (ci := 12) (args := [.inl (N1 102 a1.toNat), .inl (N1 102 ((m_w (a1 + 1)).toNat))]) hG (by omega) dX12_sumOf_29 cv_RX12_426 cw_X12_reckonAll rfl rfl (sk_k hsk 64 rfl) (Nat.le_of_ble_eq_true rfl) rfl (t_X12_reckonAll hsk (by omega) ho4) ?_
    refine s_aload_n hG dX12_sumOf_32 rfl ?_
    refine s_iconst hG dX12_sumOf_33 ⟨by decide, by decide⟩ ?_
    refine s_putz hG dX12_sumOf_34 fl_RX12_326 (fun h => by cases h) (sk_k hsk 64 rfl) rfl ⟨by decide, by decide⟩ ?_
    refine s_aload_n hG dX12_sumOf_37 rfl ?_
    refine s_aload_n hG dX12_sumOf_38 rfl ?_
    refine s_getz hG dX12_sumOf_39 fl_RX12_402 (sk_k hsk 64 rfl) rfl ?_
    obtain ⟨g6, hF⟩ := gd_some hF
    refine s_putz hG dX12_sumOf_42 fl_RX12_592 (fun h => by cases h) (sk_k hsk 64 rfl) rfl g6 ?_
    refine s_aload_n hG dX12_sumOf_45 rfl ?_
    refine s_getl hG dX12_sumOf_46 fl_RX12_420 (sk_k hsk 64 rfl) rfl ?_
    cases hF
    exact s_lret hE dX12_sumOf_49 rfl
  · replace hF := Eq.trans (if_neg c8).symm hF
    refine s_lconst (v := 0) hG dX12_sumOf_7 rfl ⟨by decide, by decide⟩ ?_
    cases hF
    exact s_lret hE dX12_sumOf_8 rfl
-- X12_run
theorem t_X12_run_j173 {d n0 s0 nF sF : Nat} {X : MX} {Ω : Nat → MS → Prop} {N : NN} (hsk : m_Sk X) (hd : 11 ≤ d) (hG : m_G d yX12_run.cls yX12_run.name cX12_run 7 n0 s0 nF sF Ω) {out : (Int × NN)} (hE : m_Gd d yX12_run cX12_run 7 (some .int) X (some (.inl out.1)) out.2 X Ω) (hF : f_X12_run_j173 X N = some out) : Ω 173 ([none, none, none, none, none, none, none], [], N, X) := by
  unfold f_X12_run_j173 at hF
  refine s_bipush hG dX12_run_173 bp_m3 ⟨by decide, by decide⟩ ?_
  cases hF
  exact s_iret hE dX12_run_175 rfl
theorem t_X12_run_j201 {d n0 s0 nF sF : Nat} {X : MX} {Ω : Nat → MS → Prop} {N : NN} (hsk : m_Sk X) (hd : 11 ≤ d) (hG : m_G d yX12_run.cls yX12_run.name cX12_run 7 n0 s0 nF sF Ω) {out : (Int × NN)} (hE : m_Gd d yX12_run cX12_run 7 (some .int) X (some (.inl out.1)) out.2 X Ω) (hF : f_X12_run_j201 X N = some out) : Ω 201 ([some (.inr (.inr 64)), none, none, none, none, none, none], [], N, X) := by
  unfold f_X12_run_j201 at hF
  refine s_aload_n hG dX12_run_201 rfl ?_
  refine s_dup hG dX12_run_202 rfl ?_
  refine s_geti hG dX12_run_203 fl_RX12_595 (sk_k hsk 64 rfl) rfl ?_
  refine s_iconst hG dX12_run_206 ⟨by decide, by decide⟩ ?_
  refine s_iadd hG dX12_run_207 ?_
  refine s_puti hG dX12_run_208 fl_RX12_595 (fun h => by cases h) (sk_k hsk 64 rfl) rfl ?_
  refine s_iconst hG dX12_run_211 ⟨by decide, by decide⟩ ?_
  cases hF
  exact s_iret hE dX12_run_212 rfl
theorem t_X12_run_j94 {d n0 s0 nF sF : Nat} {X : MX} {Ω : Nat → MS → Prop} {N : NN} {a1 : Int} (hsk : m_Sk X) (hd : 11 ≤ d) (hG : m_G d yX12_run.cls yX12_run.name cX12_run 7 n0 s0 nF sF Ω) {out : (Int × NN)} (hE : m_Gd d yX12_run cX12_run 7 (some .int) X (some (.inl out.1)) out.2 X Ω) (hF : f_X12_run_j94 X N a1 = some out) : Ω 94 ([some (.inr (.inr 64)), some (.inl a1), none, none, none, none, none], [], N, X) := by
  unfold f_X12_run_j94 at hF
  refine s_aload_n hG dX12_run_94 rfl ?_
  refine s_getr (r := 102) hG dX12_run_95 fl_RX12_157 (sk_k hsk 64 rfl) rfl (sk_R hsk 64 65 rfl) ?_
  refine s_iload_n hG dX12_run_98 rfl ?_
  obtain ⟨g13, hF⟩ := gd_some hF
  refine s_ialdj (j := a1.toNat) hG dX12_run_99 (sk_K hsk 102 rfl) g13 rfl ?_
  refine s_iconst hG dX12_run_100 ⟨by decide, by decide⟩ ?_
  refine s_icmp_ne hG 114 dX12_run_101 (by decide) (fun c26 => ?_) (fun c26 => ?_)
  · replace hF := Eq.trans (if_pos c26).symm hF
    refine s_aload_n hG dX12_run_104 rfl ?_
    obtain ⟨o14, ho14, hF⟩ := bd_some hF
    refine s_callV (d' := d - 1) (ci := 12) (args := []) hG (by omega) dX12_run_105 cv_RX12_480 cw_X12_waitNow rfl rfl (sk_k hsk 64 rfl) (Nat.le_of_ble_eq_true rfl) rfl (t_X12_waitNow hsk (by omega) ho14) ?_
    refine s_if_ge hG 201 dX12_run_108 (by decide) (fun c15 => ?_) (fun c15 => ?_)
    · replace hF := Eq.trans (if_pos c15).symm hF
      refine s_bipush hG dX12_run_111 bp_m3 ⟨by decide, by decide⟩ ?_
      cases hF
      exact s_iret hE dX12_run_113 rfl
    · replace hF := Eq.trans (if_neg c15).symm hF
      refine m_weak (ls1 := [some (.inr (.inr 64)), none, none, none, none, none, none]) hG ⟨rfl, trivial⟩ ?_
      exact t_X12_run_j201 hsk hd hG hE hF
  · replace hF := Eq.trans (if_neg c26).symm hF
    refine s_aload_n hG dX12_run_114 rfl ?_
    refine s_iload_n hG dX12_run_115 rfl ?_
    refine s_iconst hG dX12_run_116 ⟨by decide, by decide⟩ ?_
    refine s_iadd hG dX12_run_117 ?_
    obtain ⟨o16, ho16, hF⟩ := bd_some hF
    refine s_callV (d' := d - 1) (ci := 12) (args := [.inl (m_w (a1 + 1))]) hG (by omega) dX12_run_118 cv_RX12_601 cw_X12_sumOf rfl rfl (sk_k hsk 64 rfl) (Nat.le_of_ble_eq_true rfl) rfl (t_X12_sumOf hsk (by omega) ho16) ?_
    refine s_lstore_n hG dX12_run_121 (by decide) rfl ?_
    refine s_aload_n hG dX12_run_122 rfl ?_
    refine s_iload_n hG dX12_run_123 rfl ?_
    refine s_iconst hG dX12_run_124 ⟨by decide, by decide⟩ ?_
    refine s_iadd hG dX12_run_125 ?_
    obtain ⟨o17, ho17, hF⟩ := bd_some hF
    refine s_callV (d' := d - 1) (ci := 12) (args := [.inl (m_w (a1 + 3))]) hG (by omega) dX12_run_126 cv_RX12_601 cw_X12_sumOf rfl rfl (sk_k hsk 64 rfl) (Nat.le_of_ble_eq_true rfl) rfl (t_X12_sumOf hsk (by omega) ho17) ?_
    refine s_lstore hG dX12_run_129 (by decide) rfl ?_
    refine s_aload_n hG dX12_run_131 rfl ?_
    refine s_getz hG dX12_run_132 fl_RX12_592 (sk_k hsk 64 rfl) rfl ?_
    refine s_if_ne hG 173 dX12_run_135 (by decide) (fun c25 => ?_) (fun c25 => ?_)
    · replace hF := Eq.trans (if_pos c25).symm hF
      refine s_lload_n hG dX12_run_138 rfl ?_
      refine s_lconst (v := 0) hG dX12_run_139 rfl ⟨by decide, by decide⟩ ?_
      refine s_aload_n hG dX12_run_140 rfl ?_
      refine s_getr (r := 66) hG dX12_run_141 fl_RX12_13 (sk_k hsk 64 rfl) rfl (sk_R hsk 64 3 rfl) ?_
      refine s_iconst hG dX12_run_144 ⟨by decide, by decide⟩ ?_
      refine s_ialdj (j := 1) hG dX12_run_145 (sk_K hsk 66 rfl) ⟨by decide, by decide⟩ rfl ?_
      refine s_i2l hG dX12_run_146 ?_
      refine s_lconst (v := 1) hG dX12_run_147 rfl ⟨by decide, by decide⟩ ?_
      refine s_lsub hG dX12_run_148 ?_
      obtain ⟨o18, ho18, hF⟩ := bd_some hF
      refine s_callS (d' := d - 1) (args := [.inr (.inl o16.1), .inr (.inl 0), .inr (.inl (m_wl ((o17.2 66 1) - 1)))]) hG (by omega) dX12_run_149 cs_RX12_179 cw_X12_in rfl (Nat.le_of_ble_eq_true rfl) rfl (t_X12_in hsk (by omega) ho18) ?_
      refine s_if_eq hG 173 dX12_run_152 (by decide) (fun c24 => ?_) (fun c24 => ?_)
      · replace hF := Eq.trans (if_pos c24).symm hF
        refine m_weak (ls1 := [none, none, none, none, none, none, none]) hG trivial ?_
        exact t_X12_run_j173 hsk hd hG hE hF
      · replace hF := Eq.trans (if_neg c24).symm hF
        refine s_lload hG dX12_run_155 rfl ?_
        refine s_lconst (v := 0) hG dX12_run_157 rfl ⟨by decide, by decide⟩ ?_
        refine s_aload_n hG dX12_run_158 rfl ?_
        refine s_getr (r := 66) hG dX12_run_159 fl_RX12_13 (sk_k hsk 64 rfl) rfl (sk_R hsk 64 3 rfl) ?_
        refine s_iconst hG dX12_run_162 ⟨by decide, by decide⟩ ?_
        refine s_ialdj (j := 0) hG dX12_run_163 (sk_K hsk 66 rfl) ⟨by decide, by decide⟩ rfl ?_
        refine s_i2l hG dX12_run_164 ?_
        refine s_lconst (v := 1) hG dX12_run_165 rfl ⟨by decide, by decide⟩ ?_
        refine s_lsub hG dX12_run_166 ?_
        obtain ⟨o19, ho19, hF⟩ := bd_some hF
        refine s_callS (d' := d - 1) (args := [.inr (.inl o17.1), .inr (.inl 0), .inr (.inl (m_wl ((o17.2 66 0) - 1)))]) hG (by omega) dX12_run_167 cs_RX12_179 cw_X12_in rfl (Nat.le_of_ble_eq_true rfl) rfl (t_X12_in hsk (by omega) ho19) ?_
        refine s_if_ne hG 176 dX12_run_170 (by decide) (fun c23 => ?_) (fun c23 => ?_)
        · replace hF := Eq.trans (if_pos c23).symm hF
          refine m_weak (ls1 := [none, none, none, none, none, none, none]) hG trivial ?_
          exact t_X12_run_j173 hsk hd hG hE hF
        · replace hF := Eq.trans (if_neg c23).symm hF
          refine s_aload_n hG dX12_run_176 rfl ?_
          refine s_lload_n hG dX12_run_177 rfl ?_
          refine s_l2i hG dX12_run_178 ?_
          refine s_lload hG dX12_run_179 rfl ?_
          refine s_l2i hG dX12_run_181 ?_
          obtain ⟨o20, ho20, hF⟩ := bd_some hF
          refine s_callV (d' := d - 1) (ci := 12) (args := [.inl (m_w o16.1), .inl (m_w o17.1)]) hG (by omega) dX12_run_182 cv_RX12_477 cw_X12_giveNow rfl rfl (sk_k hsk 64 rfl) (Nat.le_of_ble_eq_true rfl) rfl (t_X12_giveNow hsk (by omega) ho20) ?_
          refine s_istore hG dX12_run_185 (by decide) rfl ?_
          refine s_iload hG dX12_run_187 rfl ?_
          refine s_if_ge hG 195 dX12_run_189 (by decide) (fun c22 => ?_) (fun c22 => ?_)
          · replace hF := Eq.trans (if_pos c22).symm hF
            refine s_bipush hG dX12_run_192 bp_m3 ⟨by decide, by decide⟩ ?_
            cases hF
            exact s_iret hE dX12_run_194 rfl
          · replace hF := Eq.trans (if_neg c22).symm hF
            refine s_aload_n hG dX12_run_195 rfl ?_
            refine s_iload hG dX12_run_196 rfl ?_
            refine s_puti hG dX12_run_198 fl_RX12_598 (fun h => by cases h) (sk_k hsk 64 rfl) rfl ?_
            refine m_weak (ls1 := [some (.inr (.inr 64)), none, none, none, none, none, none]) hG ⟨rfl, trivial⟩ ?_
            exact t_X12_run_j201 hsk hd hG hE hF
    · replace hF := Eq.trans (if_neg c25).symm hF
      refine m_weak (ls1 := [none, none, none, none, none, none, none]) hG trivial ?_
      exact t_X12_run_j173 hsk hd hG hE hF
theorem t_X12_run_j92 {d n0 s0 nF sF : Nat} {X : MX} {Ω : Nat → MS → Prop} {N : NN} (hsk : m_Sk X) (hd : 11 ≤ d) (hG : m_G d yX12_run.cls yX12_run.name cX12_run 7 n0 s0 nF sF Ω) {out : (Int × NN)} (hE : m_Gd d yX12_run cX12_run 7 (some .int) X (some (.inl out.1)) out.2 X Ω) (hF : f_X12_run_j92 X N = some out) : Ω 92 ([none, none, none, none, none, none, none], [], N, X) := by
  unfold f_X12_run_j92 at hF
  refine s_iconst hG dX12_run_92 ⟨by decide, by decide⟩ ?_
  cases hF
  exact s_iret hE dX12_run_93 rfl
theorem t_X12_run {d : Nat} {X : MX} {N : NN} {a1 : Int} {out : (Int × NN)} (hsk : m_Sk X) (hd : 11 ≤ d) (hF : f_X12_run X N a1 = some out) : m_Call d yX12_run cX12_run 7 (some .int) [(.inr (.inr 64)), (.inl a1)] N X (some (.inl out.1)) out.2 X := by
  refine m_mk (ls0 := [some (.inr (.inr 64)), some (.inl a1), none, none, none, none, none]) (by decide) rfl (Nat.le_of_ble_eq_true rfl) (Nat.le_refl _) (Nat.le_refl _) (fun Ω hE => ?_)
  have hG := hE.G
  unfold f_X12_run at hF
  refine s_aload_n hG dX12_run_0 rfl ?_
  refine s_getr (r := 82) hG dX12_run_1 fl_RX12_97 (sk_k hsk 64 rfl) rfl (sk_R hsk 64 35 rfl) ?_
  refine s_iconst hG dX12_run_4 ⟨by decide, by decide⟩ ?_
  refine s_aload_n hG dX12_run_5 rfl ?_
  obtain ⟨o1, ho1, hF⟩ := bd_some hF
  refine s_callV (d' := d - 1) (ci := 12) (args := []) hG (by omega) dX12_run_6 cv_RX12_210 cw_X12_year rfl rfl (sk_k hsk 64 rfl) (Nat.le_of_ble_eq_true rfl) rfl (t_X12_year hsk (by omega) ho1) ?_
  refine s_i2l hG dX12_run_9 ?_
  refine s_lastj (j := 1) hG dX12_run_10 (sk_K hsk 82 rfl) ⟨by decide, by decide⟩ rfl ?_
  refine s_aload_n hG dX12_run_11 rfl ?_
  refine s_getr (r := 82) hG dX12_run_12 fl_RX12_97 (sk_k hsk 64 rfl) rfl (sk_R hsk 64 35 rfl) ?_
  refine s_iconst hG dX12_run_15 ⟨by decide, by decide⟩ ?_
  refine s_aload_n hG dX12_run_16 rfl ?_
  refine s_getr (r := 66) hG dX12_run_17 fl_RX12_13 (sk_k hsk 64 rfl) rfl (sk_R hsk 64 3 rfl) ?_
  refine s_iconst hG dX12_run_20 ⟨by decide, by decide⟩ ?_
  refine s_ialdj (j := 1) hG dX12_run_21 (sk_K hsk 66 rfl) ⟨by decide, by decide⟩ rfl ?_
  refine s_i2l hG dX12_run_22 ?_
  refine s_lastj (j := 2) hG dX12_run_23 (sk_K hsk 82 rfl) ⟨by decide, by decide⟩ rfl ?_
  refine s_aload_n hG dX12_run_24 rfl ?_
  refine s_getr (r := 82) hG dX12_run_25 fl_RX12_97 (sk_k hsk 64 rfl) rfl (sk_R hsk 64 35 rfl) ?_
  refine s_iconst hG dX12_run_28 ⟨by decide, by decide⟩ ?_
  refine s_aload_n hG dX12_run_29 rfl ?_
  refine s_geti hG dX12_run_30 fl_RX12_595 (sk_k hsk 64 rfl) rfl ?_
  refine s_i2l hG dX12_run_33 ?_
  refine s_lastj (j := 3) hG dX12_run_34 (sk_K hsk 82 rfl) ⟨by decide, by decide⟩ rfl ?_
  refine s_aload_n hG dX12_run_35 rfl ?_
  refine s_getr (r := 82) hG dX12_run_36 fl_RX12_97 (sk_k hsk 64 rfl) rfl (sk_R hsk 64 35 rfl) ?_
  refine s_iconst hG dX12_run_39 ⟨by decide, by decide⟩ ?_
  refine s_aload_n hG dX12_run_40 rfl ?_
  refine s_geti hG dX12_run_41 fl_RX12_598 (sk_k hsk 64 rfl) rfl ?_
  refine s_i2l hG dX12_run_44 ?_
  refine s_lastj (j := 4) hG dX12_run_45 (sk_K hsk 82 rfl) ⟨by decide, by decide⟩ rfl ?_
  refine s_aload_n hG dX12_run_46 rfl ?_
  refine s_iconst hG dX12_run_47 ⟨by decide, by decide⟩ ?_
  refine s_putz hG dX12_run_48 fl_RX12_592 (fun h => by cases h) (sk_k hsk 64 rfl) rfl ⟨by decide, by decide⟩ ?_
  refine s_aload_n hG dX12_run_51 rfl ?_
  refine s_getr (r := 102) hG dX12_run_52 fl_RX12_157 (sk_k hsk 64 rfl) rfl (sk_R hsk 64 65 rfl) ?_
  refine s_iload_n hG dX12_run_55 rfl ?_
  refine s_iconst hG dX12_run_56 ⟨by decide, by decide⟩ ?_
  refine s_iadd hG dX12_run_57 ?_
  obtain ⟨g7, hF⟩ := gd_some hF
  refine s_ialdj (j := (m_w (a1 + 5)).toNat) hG dX12_run_58 (sk_K hsk 102 rfl) g7 rfl ?_
  refine s_aload_n hG dX12_run_59 rfl ?_
  refine s_getr (r := 102) hG dX12_run_60 fl_RX12_157 (sk_k hsk 64 rfl) rfl (sk_R hsk 64 65 rfl) ?_
  refine s_iload_n hG dX12_run_63 rfl ?_
  refine s_bipush hG dX12_run_64 bp_6 ⟨by decide, by decide⟩ ?_
  refine s_iadd hG dX12_run_66 ?_
  obtain ⟨g8, hF⟩ := gd_some hF
  refine s_ialdj (j := (m_w (a1 + 6)).toNat) hG dX12_run_67 (sk_K hsk 102 rfl) g8 rfl ?_
  refine s_icmp_ge hG 94 dX12_run_68 (by decide) (fun c12 => ?_) (fun c12 => ?_)
  · replace hF := Eq.trans (if_pos c12).symm hF
    refine s_aload_n hG dX12_run_71 rfl ?_
    refine s_iload_n hG dX12_run_72 rfl ?_
    refine s_iconst hG dX12_run_73 ⟨by decide, by decide⟩ ?_
    refine s_iadd hG dX12_run_74 ?_
    obtain ⟨o9, ho9, hF⟩ := bd_some hF
    refine s_callV (d' := d - 1) (ci := 12) (args := [.inl (m_w (a1 + 5))]) hG (by omega) dX12_run_75 cv_RX12_601 cw_X12_sumOf rfl rfl (sk_k hsk 64 rfl) (Nat.le_of_ble_eq_true rfl) rfl (t_X12_sumOf hsk (by omega) ho9) ?_
    refine s_lstore_n hG dX12_run_78 (by decide) rfl ?_
    refine s_aload_n hG dX12_run_79 rfl ?_
    refine s_getz hG dX12_run_80 fl_RX12_592 (sk_k hsk 64 rfl) rfl ?_
    refine s_if_ne hG 92 dX12_run_83 (by decide) (fun c11 => ?_) (fun c11 => ?_)
    · replace hF := Eq.trans (if_pos c11).symm hF
      refine s_lload_n hG dX12_run_86 rfl ?_
      refine s_lconst (v := 0) hG dX12_run_87 rfl ⟨by decide, by decide⟩ ?_
      refine s_lcmp hG dX12_run_88 ?_
      refine s_if_ne hG 94 dX12_run_89 (by decide) (fun c10 => ?_) (fun c10 => ?_)
      · replace hF := Eq.trans (if_pos c10).symm hF
        refine m_weak (ls1 := [none, none, none, none, none, none, none]) hG trivial ?_
        exact t_X12_run_j92 hsk hd hG hE hF
      · replace hF := Eq.trans (if_neg c10).symm hF
        refine m_weak (ls1 := [some (.inr (.inr 64)), some (.inl a1), none, none, none, none, none]) hG ⟨rfl, ⟨rfl, trivial⟩⟩ ?_
        exact t_X12_run_j94 hsk hd hG hE hF
    · replace hF := Eq.trans (if_neg c11).symm hF
      refine m_weak (ls1 := [none, none, none, none, none, none, none]) hG trivial ?_
      exact t_X12_run_j92 hsk hd hG hE hF
  · replace hF := Eq.trans (if_neg c12).symm hF
    exact t_X12_run_j94 hsk hd hG hE hF
-- X12_orders
theorem t_X12_orders_b19 {d n0 s0 nF sF : Nat} {X : MX} {Ω : Nat → MS → Prop} {N : NN} (hsk : m_Sk X) (hd : 12 ≤ d) (hG : m_G d yX12_orders.cls yX12_orders.name cX12_orders 5 n0 s0 nF sF Ω) {out : (NN ⊕ NN)} (hK0 : ∀ s' : NN, out = .inl s' → Ω 19 ([some (.inr (.inr 64)), none, none, none, none], [], s', X)) (hK1 : ∀ t : NN, out = .inr t → Ω 46 ([some (.inr (.inr 64)), none, none, none, none], [], t, X)) (hF : b_X12_orders_19 X N = some out) : Ω 19 ([some (.inr (.inr 64)), none, none, none, none], [], N, X) := by
  unfold b_X12_orders_19 at hF
  refine s_aload_n hG dX12_orders_19 rfl ?_
  refine s_getz hG dX12_orders_20 fl_RX12_249 (sk_k hsk 64 rfl) rfl ?_
  refine s_if_ne hG 46 dX12_orders_23 (by decide) (fun c9 => ?_) (fun c9 => ?_)
  · replace hF := Eq.trans (if_pos c9).symm hF
    refine s_aload_n hG dX12_orders_26 rfl ?_
    refine s_bipush hG dX12_orders_27 bp_59 ⟨by decide, by decide⟩ ?_
    obtain ⟨o5, ho5, hF⟩ := bd_some hF
    refine s_callV (d' := d - 1) (ci := 12) (args := [.inl 59]) hG (by omega) dX12_orders_29 cv_RX12_320 cw_X12_isSign rfl rfl (sk_k hsk 64 rfl) (Nat.le_of_ble_eq_true rfl) rfl (t_X12_isSign hsk (by omega) ho5) ?_
    refine s_if_eq hG 46 dX12_orders_32 (by decide) (fun c8 => ?_) (fun c8 => ?_)
    · replace hF := Eq.trans (if_pos c8).symm hF
      cases hF
      exact hK1 _ rfl
    · replace hF := Eq.trans (if_neg c8).symm hF
      refine s_aload_n hG dX12_orders_35 rfl ?_
      obtain ⟨o6, ho6, hF⟩ := bd_some hF
      refine s_callV (d' := d - 1) (ci := 12) (args := []) hG (by omega) dX12_orders_36 cv_RX12_253 cw_X12_next rfl rfl (sk_k hsk 64 rfl) (Nat.le_of_ble_eq_true rfl) rfl (t_X12_next hsk (by omega) ho6) ?_
      refine s_aload_n hG dX12_orders_39 rfl ?_
      obtain ⟨o7, ho7, hF⟩ := bd_some hF
      refine s_callV (d' := d - 1) (ci := 12) (args := []) hG (by omega) dX12_orders_40 cv_RX12_605 cw_X12_readOrder rfl rfl (sk_k hsk 64 rfl) (Nat.le_of_ble_eq_true rfl) rfl (t_X12_readOrder hsk (by omega) ho7) ?_
      refine s_goto hG 19 dX12_orders_43 (by decide) ?_
      cases hF
      exact hK0 _ rfl
  · replace hF := Eq.trans (if_neg c9).symm hF
    cases hF
    exact hK1 _ rfl
theorem t_X12_orders_lp19 {d n0 s0 nF sF : Nat} {X : MX} {Ω : Nat → MS → Prop} {N : NN} (hsk : m_Sk X) (hd : 12 ≤ d) (hG : m_G d yX12_orders.cls yX12_orders.name cX12_orders 5 n0 s0 nF sF Ω) {t : NN} (hK1 : Ω 46 ([some (.inr (.inr 64)), none, none, none, none], [], t, X)) (hl : lp (fun s => b_X12_orders_19 X s) N = some t) : Ω 19 ([some (.inr (.inr 64)), none, none, none, none], [], N, X) := by
  refine lp_ok (P := fun s => Ω 19 ([some (.inr (.inr 64)), none, none, none, none], [], s, X)) (K := fun t => Ω 46 ([some (.inr (.inr 64)), none, none, none, none], [], t, X)) (fun s out hF hK0 hK1 => ?_) hl hK1
  exact t_X12_orders_b19 hsk hd hG (out := out) (fun s' e => hK0 s' e) (fun t' e => hK1 t' e) hF
theorem t_X12_orders_b77 {d n0 s0 nF sF : Nat} {X : MX} {Ω : Nat → MS → Prop} {N : NN} {a1 : Int} {a2 : Int} (hsk : m_Sk X) (hd : 12 ≤ d) (hG : m_G d yX12_orders.cls yX12_orders.name cX12_orders 5 n0 s0 nF sF Ω) {out : ((NN × Int × Int) ⊕ (NN × Int))} (hK0 : ∀ s' : (NN × Int × Int), out = .inl s' → Ω 77 ([some (.inr (.inr 64)), some (.inl (s'.2.1)), some (.inl (s'.2.2)), none, none], [], s'.1, X)) (hK1 : ∀ t : (NN × Int), out = .inr t → Ω 102 ([some (.inr (.inr 64)), some (.inl t.2), none, none, none], [], t.1, X)) (hF : b_X12_orders_77 X N a1 a2 = some out) : Ω 77 ([some (.inr (.inr 64)), some (.inl a1), some (.inl a2), none, none], [], N, X) := by
  unfold b_X12_orders_77 at hF
  refine s_iload_n hG dX12_orders_77 rfl ?_
  refine s_sipush hG dX12_orders_78 sp_4320 ⟨by decide, by decide⟩ ?_
  refine s_icmp_ge hG 102 dX12_orders_81 (by decide) (fun c16 => ?_) (fun c16 => ?_)
  · replace hF := Eq.trans (if_pos c16).symm hF
    refine s_aload_n hG dX12_orders_84 rfl ?_
    refine s_getr (r := 71) hG dX12_orders_85 fl_RX12_29 (sk_k hsk 64 rfl) rfl (sk_R hsk 64 9 rfl) ?_
    refine s_iload_n hG dX12_orders_88 rfl ?_
    refine s_aload_n hG dX12_orders_89 rfl ?_
    refine s_getr (r := 69) hG dX12_orders_90 fl_RX12_23 (sk_k hsk 64 rfl) rfl (sk_R hsk 64 6 rfl) ?_
    refine s_iload_n hG dX12_orders_93 rfl ?_
    obtain ⟨g13, hF⟩ := gd_some hF
    refine s_ialdj (j := a2.toNat) hG dX12_orders_94 (sk_K hsk 69 rfl) g13 rfl ?_
    obtain ⟨g14, hF⟩ := gd_some hF
    refine s_iastj (j := a2.toNat) hG dX12_orders_95 (sk_K hsk 71 rfl) g14 rfl ?_
    refine s_iinc hG dX12_orders_96 (by decide) rfl rfl ?_
    refine s_goto hG 77 dX12_orders_99 (by decide) ?_
    cases hF
    exact hK0 _ rfl
  · replace hF := Eq.trans (if_neg c16).symm hF
    cases hF
    refine m_weak (ls1 := [some (.inr (.inr 64)), some (.inl a1), none, none, none]) hG ⟨rfl, ⟨rfl, trivial⟩⟩ ?_
    exact hK1 _ rfl
theorem t_X12_orders_lp77 {d n0 s0 nF sF : Nat} {X : MX} {Ω : Nat → MS → Prop} {N : NN} {a1 : Int} {a2 : Int} (hsk : m_Sk X) (hd : 12 ≤ d) (hG : m_G d yX12_orders.cls yX12_orders.name cX12_orders 5 n0 s0 nF sF Ω) {t : (NN × Int)} (hK1 : Ω 102 ([some (.inr (.inr 64)), some (.inl t.2), none, none, none], [], t.1, X)) (hl : lp (fun s => b_X12_orders_77 X s.1 s.2.1 s.2.2) (N, a1, a2) = some t) : Ω 77 ([some (.inr (.inr 64)), some (.inl a1), some (.inl a2), none, none], [], N, X) := by
  refine lp_ok (P := fun s => Ω 77 ([some (.inr (.inr 64)), some (.inl s.2.1), some (.inl s.2.2), none, none], [], s.1, X)) (K := fun t => Ω 102 ([some (.inr (.inr 64)), some (.inl t.2), none, none, none], [], t.1, X)) (fun s out hF hK0 hK1 => ?_) hl hK1
  exact t_X12_orders_b77 hsk hd hG (out := out) (fun s' e => hK0 s' e) (fun t' e => hK1 t' e) hF
theorem t_X12_orders_b104 {d n0 s0 nF sF : Nat} {X : MX} {Ω : Nat → MS → Prop} {N : NN} {a1 : Int} {a2 : Int} (hsk : m_Sk X) (hd : 12 ≤ d) (hG : m_G d yX12_orders.cls yX12_orders.name cX12_orders 5 n0 s0 nF sF Ω) {out : ((NN × Int × Int) ⊕ (NN × Int))} (hK0 : ∀ s' : (NN × Int × Int), out = .inl s' → Ω 104 ([some (.inr (.inr 64)), some (.inl (s'.2.1)), some (.inl (s'.2.2)), none, none], [], s'.1, X)) (hK1 : ∀ t : (NN × Int), out = .inr t → Ω 128 ([some (.inr (.inr 64)), some (.inl t.2), none, none, none], [], t.1, X)) (hF : b_X12_orders_104 X N a1 a2 = some out) : Ω 104 ([some (.inr (.inr 64)), some (.inl a1), some (.inl a2), none, none], [], N, X) := by
  unfold b_X12_orders_104 at hF
  refine s_iload_n hG dX12_orders_104 rfl ?_
  refine s_bipush hG dX12_orders_105 bp_16 ⟨by decide, by decide⟩ ?_
  refine s_icmp_ge hG 128 dX12_orders_107 (by decide) (fun c21 => ?_) (fun c21 => ?_)
  · replace hF := Eq.trans (if_pos c21).symm hF
    refine s_aload_n hG dX12_orders_110 rfl ?_
    refine s_getr (r := 72) hG dX12_orders_111 fl_RX12_32 (sk_k hsk 64 rfl) rfl (sk_R hsk 64 10 rfl) ?_
    refine s_iload_n hG dX12_orders_114 rfl ?_
    refine s_aload_n hG dX12_orders_115 rfl ?_
    refine s_getr (r := 70) hG dX12_orders_116 fl_RX12_26 (sk_k hsk 64 rfl) rfl (sk_R hsk 64 7 rfl) ?_
    refine s_iload_n hG dX12_orders_119 rfl ?_
    obtain ⟨g18, hF⟩ := gd_some hF
    refine s_ialdj (j := a2.toNat) hG dX12_orders_120 (sk_K hsk 70 rfl) g18 rfl ?_
    obtain ⟨g19, hF⟩ := gd_some hF
    refine s_iastj (j := a2.toNat) hG dX12_orders_121 (sk_K hsk 72 rfl) g19 rfl ?_
    refine s_iinc hG dX12_orders_122 (by decide) rfl rfl ?_
    refine s_goto hG 104 dX12_orders_125 (by decide) ?_
    cases hF
    exact hK0 _ rfl
  · replace hF := Eq.trans (if_neg c21).symm hF
    cases hF
    refine m_weak (ls1 := [some (.inr (.inr 64)), some (.inl a1), none, none, none]) hG ⟨rfl, ⟨rfl, trivial⟩⟩ ?_
    exact hK1 _ rfl
theorem t_X12_orders_lp104 {d n0 s0 nF sF : Nat} {X : MX} {Ω : Nat → MS → Prop} {N : NN} {a1 : Int} {a2 : Int} (hsk : m_Sk X) (hd : 12 ≤ d) (hG : m_G d yX12_orders.cls yX12_orders.name cX12_orders 5 n0 s0 nF sF Ω) {t : (NN × Int)} (hK1 : Ω 128 ([some (.inr (.inr 64)), some (.inl t.2), none, none, none], [], t.1, X)) (hl : lp (fun s => b_X12_orders_104 X s.1 s.2.1 s.2.2) (N, a1, a2) = some t) : Ω 104 ([some (.inr (.inr 64)), some (.inl a1), some (.inl a2), none, none], [], N, X) := by
  refine lp_ok (P := fun s => Ω 104 ([some (.inr (.inr 64)), some (.inl s.2.1), some (.inl s.2.2), none, none], [], s.1, X)) (K := fun t => Ω 128 ([some (.inr (.inr 64)), some (.inl t.2), none, none, none], [], t.1, X)) (fun s out hF hK0 hK1 => ?_) hl hK1
  exact t_X12_orders_b104 hsk hd hG (out := out) (fun s' e => hK0 s' e) (fun t' e => hK1 t' e) hF
theorem t_X12_orders_b150 {d n0 s0 nF sF : Nat} {X : MX} {Ω : Nat → MS → Prop} {N : NN} {a1 : Int} {a2 : Int} {a3 : Int} (hsk : m_Sk X) (hd : 12 ≤ d) (hG : m_G d yX12_orders.cls yX12_orders.name cX12_orders 5 n0 s0 nF sF Ω) {out : ((NN × Int × Int × Int) ⊕ ((NN × Int × Int) ⊕ (NN × Int × Int)))} (hK0 : ∀ s' : (NN × Int × Int × Int), out = .inl s' → Ω 150 ([some (.inr (.inr 64)), some (.inl (s'.2.1)), some (.inl (s'.2.2.1)), some (.inl (s'.2.2.2)), none], [], s'.1, X)) (hK1 : ∀ t : ((NN × Int × Int) ⊕ (NN × Int × Int)), out = .inr t → match t with | .inl e => Ω 267 ([some (.inr (.inr 64)), some (.inl e.2.1), some (.inl e.2.2), none, none], [], e.1, X) | .inr e => Ω 177 ([some (.inr (.inr 64)), some (.inl e.2.1), some (.inl e.2.2), none, none], [], e.1, X)) (hF : b_X12_orders_150 X N a1 a2 a3 = some out) : Ω 150 ([some (.inr (.inr 64)), some (.inl a1), some (.inl a2), some (.inl a3), none], [], N, X) := by
  unfold b_X12_orders_150 at hF
  refine s_iload_n hG dX12_orders_150 rfl ?_
  refine s_aload_n hG dX12_orders_151 rfl ?_
  refine s_getr (r := 102) hG dX12_orders_152 fl_RX12_157 (sk_k hsk 64 rfl) rfl (sk_R hsk 64 65 rfl) ?_
  refine s_bipush hG dX12_orders_155 bp_8 ⟨by decide, by decide⟩ ?_
  refine s_iload_n hG dX12_orders_157 rfl ?_
  refine s_imul hG dX12_orders_158 ?_
  refine s_bipush hG dX12_orders_159 bp_7 ⟨by decide, by decide⟩ ?_
  refine s_iadd hG dX12_orders_161 ?_
  obtain ⟨g25, hF⟩ := gd_some hF
  refine s_ialdj (j := (m_w ((m_w (8 * a2)) + 7)).toNat) hG dX12_orders_162 (sk_K hsk 102 rfl) g25 rfl ?_
  refine s_icmp_ge hG 267 dX12_orders_163 (by decide) (fun c28 => ?_) (fun c28 => ?_)
  · replace hF := Eq.trans (if_pos c28).symm hF
    refine s_aload_n hG dX12_orders_166 rfl ?_
    refine s_bipush hG dX12_orders_167 bp_8 ⟨by decide, by decide⟩ ?_
    refine s_iload_n hG dX12_orders_169 rfl ?_
    refine s_imul hG dX12_orders_170 ?_
    obtain ⟨o26, ho26, hF⟩ := bd_some hF
    refine s_callV (d' := d - 1) (ci := 12) (args := [.inl (m_w (8 * a2))]) hG (by omega) dX12_orders_171 cv_RX12_608 cw_X12_run rfl rfl (sk_k hsk 64 rfl) (Nat.le_of_ble_eq_true rfl) rfl (t_X12_run hsk (by omega) ho26) ?_
    refine s_if_ge hG 261 dX12_orders_174 (by decide) (fun c27 => ?_) (fun c27 => ?_)
    · replace hF := Eq.trans (if_pos c27).symm hF
      cases hF
      refine m_weak (ls1 := [some (.inr (.inr 64)), some (.inl a1), some (.inl a2), none, none]) hG ⟨rfl, ⟨rfl, ⟨rfl, trivial⟩⟩⟩ ?_
      exact hK1 _ rfl
    · replace hF := Eq.trans (if_neg c27).symm hF
      refine s_iinc hG dX12_orders_261 (by decide) rfl rfl ?_
      refine s_goto hG 150 dX12_orders_264 (by decide) ?_
      cases hF
      exact hK0 _ rfl
  · replace hF := Eq.trans (if_neg c28).symm hF
    cases hF
    refine m_weak (ls1 := [some (.inr (.inr 64)), some (.inl a1), some (.inl a2), none, none]) hG ⟨rfl, ⟨rfl, ⟨rfl, trivial⟩⟩⟩ ?_
    exact hK1 _ rfl
theorem t_X12_orders_lp150 {d n0 s0 nF sF : Nat} {X : MX} {Ω : Nat → MS → Prop} {N : NN} {a1 : Int} {a2 : Int} {a3 : Int} (hsk : m_Sk X) (hd : 12 ≤ d) (hG : m_G d yX12_orders.cls yX12_orders.name cX12_orders 5 n0 s0 nF sF Ω) {t : ((NN × Int × Int) ⊕ (NN × Int × Int))} (hK1 : match t with | .inl e => Ω 267 ([some (.inr (.inr 64)), some (.inl e.2.1), some (.inl e.2.2), none, none], [], e.1, X) | .inr e => Ω 177 ([some (.inr (.inr 64)), some (.inl e.2.1), some (.inl e.2.2), none, none], [], e.1, X)) (hl : lp (fun s => b_X12_orders_150 X s.1 s.2.1 s.2.2.1 s.2.2.2) (N, a1, a2, a3) = some t) : Ω 150 ([some (.inr (.inr 64)), some (.inl a1), some (.inl a2), some (.inl a3), none], [], N, X) := by
  refine lp_ok (P := fun s => Ω 150 ([some (.inr (.inr 64)), some (.inl s.2.1), some (.inl s.2.2.1), some (.inl s.2.2.2), none], [], s.1, X)) (K := fun t => match t with | .inl e => Ω 267 ([some (.inr (.inr 64)), some (.inl e.2.1), some (.inl e.2.2), none, none], [], e.1, X) | .inr e => Ω 177 ([some (.inr (.inr 64)), some (.inl e.2.1), some (.inl e.2.2), none, none], [], e.1, X)) (fun s out hF hK0 hK1 => ?_) hl hK1
  exact t_X12_orders_b150 hsk hd hG (out := out) (fun s' e => hK0 s' e) (fun t' e => hK1 t' e) hF
theorem t_X12_orders_b140 {d n0 s0 nF sF : Nat} {X : MX} {Ω : Nat → MS → Prop} {N : NN} {a1 : Int} {a2 : Int} (hsk : m_Sk X) (hd : 12 ≤ d) (hG : m_G d yX12_orders.cls yX12_orders.name cX12_orders 5 n0 s0 nF sF Ω) {out : ((NN × Int × Int) ⊕ (NN ⊕ (NN × Int × Int)))} (hK0 : ∀ s' : (NN × Int × Int), out = .inl s' → Ω 140 ([some (.inr (.inr 64)), some (.inl (s'.2.1)), some (.inl (s'.2.2)), none, none], [], s'.1, X)) (hK1 : ∀ t : (NN ⊕ (NN × Int × Int)), out = .inr t → match t with | .inl e => Ω 273 ([some (.inr (.inr 64)), none, none, none, none], [], e, X) | .inr e => Ω 177 ([some (.inr (.inr 64)), some (.inl e.2.1), some (.inl e.2.2), none, none], [], e.1, X)) (hF : b_X12_orders_140 X N a1 a2 = some out) : Ω 140 ([some (.inr (.inr 64)), some (.inl a1), some (.inl a2), none, none], [], N, X) := by
  unfold b_X12_orders_140 at hF
  refine s_iload_n hG dX12_orders_140 rfl ?_
  refine s_aload_n hG dX12_orders_141 rfl ?_
  refine s_geti hG dX12_orders_142 fl_RX12_379 (sk_k hsk 64 rfl) rfl ?_
  refine s_icmp_ge hG 273 dX12_orders_145 (by decide) (fun c30 => ?_) (fun c30 => ?_)
  · replace hF := Eq.trans (if_pos c30).symm hF
    refine s_iconst hG dX12_orders_148 ⟨by decide, by decide⟩ ?_
    refine s_istore_n hG dX12_orders_149 (by decide) rfl ?_
    obtain ⟨o29, hlo29, hF⟩ := bd_some hF
    refine t_X12_orders_lp150 hsk hd hG ?_ hlo29
    match o29, hF with
    | .inl e29, hF =>
          try dsimp only at hF
          refine s_iinc hG dX12_orders_267 (by decide) rfl rfl ?_
          refine s_goto hG 140 dX12_orders_270 (by decide) ?_
          cases hF
          exact hK0 _ rfl
    | .inr e29, hF =>
          try dsimp only at hF
          cases hF
          exact hK1 _ rfl
  · replace hF := Eq.trans (if_neg c30).symm hF
    cases hF
    refine m_weak (ls1 := [some (.inr (.inr 64)), none, none, none, none]) hG ⟨rfl, trivial⟩ ?_
    exact hK1 _ rfl
theorem t_X12_orders_lp140 {d n0 s0 nF sF : Nat} {X : MX} {Ω : Nat → MS → Prop} {N : NN} {a1 : Int} {a2 : Int} (hsk : m_Sk X) (hd : 12 ≤ d) (hG : m_G d yX12_orders.cls yX12_orders.name cX12_orders 5 n0 s0 nF sF Ω) {t : (NN ⊕ (NN × Int × Int))} (hK1 : match t with | .inl e => Ω 273 ([some (.inr (.inr 64)), none, none, none, none], [], e, X) | .inr e => Ω 177 ([some (.inr (.inr 64)), some (.inl e.2.1), some (.inl e.2.2), none, none], [], e.1, X)) (hl : lp (fun s => b_X12_orders_140 X s.1 s.2.1 s.2.2) (N, a1, a2) = some t) : Ω 140 ([some (.inr (.inr 64)), some (.inl a1), some (.inl a2), none, none], [], N, X) := by
  refine lp_ok (P := fun s => Ω 140 ([some (.inr (.inr 64)), some (.inl s.2.1), some (.inl s.2.2), none, none], [], s.1, X)) (K := fun t => match t with | .inl e => Ω 273 ([some (.inr (.inr 64)), none, none, none, none], [], e, X) | .inr e => Ω 177 ([some (.inr (.inr 64)), some (.inl e.2.1), some (.inl e.2.2), none, none], [], e.1, X)) (fun s out hF hK0 hK1 => ?_) hl hK1
  exact t_X12_orders_b140 hsk hd hG (out := out) (fun s' e => hK0 s' e) (fun t' e => hK1 t' e) hF
theorem t_X12_orders_b186 {d n0 s0 nF sF : Nat} {X : MX} {Ω : Nat → MS → Prop} {N : NN} {a1 : Int} {a2 : Int} {a4 : Int} (hsk : m_Sk X) (hd : 12 ≤ d) (hG : m_G d yX12_orders.cls yX12_orders.name cX12_orders 5 n0 s0 nF sF Ω) {out : ((NN × Int × Int × Int) ⊕ (NN × Int × Int))} (hK0 : ∀ s' : (NN × Int × Int × Int), out = .inl s' → Ω 186 ([some (.inr (.inr 64)), some (.inl (s'.2.1)), some (.inl (s'.2.2.1)), none, some (.inl (s'.2.2.2))], [], s'.1, X)) (hK1 : ∀ t : (NN × Int × Int), out = .inr t → Ω 214 ([some (.inr (.inr 64)), some (.inl t.2.1), some (.inl t.2.2), none, none], [], t.1, X)) (hF : b_X12_orders_186 X N a1 a2 a4 = some out) : Ω 186 ([some (.inr (.inr 64)), some (.inl a1), some (.inl a2), none, some (.inl a4)], [], N, X) := by
  unfold b_X12_orders_186 at hF
  refine s_iload hG dX12_orders_186 rfl ?_
  refine s_sipush hG dX12_orders_188 sp_4320 ⟨by decide, by decide⟩ ?_
  refine s_icmp_ge hG 214 dX12_orders_191 (by decide) (fun c37 => ?_) (fun c37 => ?_)
  · replace hF := Eq.trans (if_pos c37).symm hF
    refine s_aload_n hG dX12_orders_194 rfl ?_
    refine s_getr (r := 69) hG dX12_orders_195 fl_RX12_23 (sk_k hsk 64 rfl) rfl (sk_R hsk 64 6 rfl) ?_
    refine s_iload hG dX12_orders_198 rfl ?_
    refine s_aload_n hG dX12_orders_200 rfl ?_
    refine s_getr (r := 71) hG dX12_orders_201 fl_RX12_29 (sk_k hsk 64 rfl) rfl (sk_R hsk 64 9 rfl) ?_
    refine s_iload hG dX12_orders_204 rfl ?_
    obtain ⟨g34, hF⟩ := gd_some hF
    refine s_ialdj (j := a4.toNat) hG dX12_orders_206 (sk_K hsk 71 rfl) g34 rfl ?_
    obtain ⟨g35, hF⟩ := gd_some hF
    refine s_iastj (j := a4.toNat) hG dX12_orders_207 (sk_K hsk 69 rfl) g35 rfl ?_
    refine s_iinc hG dX12_orders_208 (by decide) rfl rfl ?_
    refine s_goto hG 186 dX12_orders_211 (by decide) ?_
    cases hF
    exact hK0 _ rfl
  · replace hF := Eq.trans (if_neg c37).symm hF
    cases hF
    refine m_weak (ls1 := [some (.inr (.inr 64)), some (.inl a1), some (.inl a2), none, none]) hG ⟨rfl, ⟨rfl, ⟨rfl, trivial⟩⟩⟩ ?_
    exact hK1 _ rfl
theorem t_X12_orders_lp186 {d n0 s0 nF sF : Nat} {X : MX} {Ω : Nat → MS → Prop} {N : NN} {a1 : Int} {a2 : Int} {a4 : Int} (hsk : m_Sk X) (hd : 12 ≤ d) (hG : m_G d yX12_orders.cls yX12_orders.name cX12_orders 5 n0 s0 nF sF Ω) {t : (NN × Int × Int)} (hK1 : Ω 214 ([some (.inr (.inr 64)), some (.inl t.2.1), some (.inl t.2.2), none, none], [], t.1, X)) (hl : lp (fun s => b_X12_orders_186 X s.1 s.2.1 s.2.2.1 s.2.2.2) (N, a1, a2, a4) = some t) : Ω 186 ([some (.inr (.inr 64)), some (.inl a1), some (.inl a2), none, some (.inl a4)], [], N, X) := by
  refine lp_ok (P := fun s => Ω 186 ([some (.inr (.inr 64)), some (.inl s.2.1), some (.inl s.2.2.1), none, some (.inl s.2.2.2)], [], s.1, X)) (K := fun t => Ω 214 ([some (.inr (.inr 64)), some (.inl t.2.1), some (.inl t.2.2), none, none], [], t.1, X)) (fun s out hF hK0 hK1 => ?_) hl hK1
  exact t_X12_orders_b186 hsk hd hG (out := out) (fun s' e => hK0 s' e) (fun t' e => hK1 t' e) hF
theorem t_X12_orders_b217 {d n0 s0 nF sF : Nat} {X : MX} {Ω : Nat → MS → Prop} {N : NN} {a1 : Int} {a2 : Int} {a4 : Int} (hsk : m_Sk X) (hd : 12 ≤ d) (hG : m_G d yX12_orders.cls yX12_orders.name cX12_orders 5 n0 s0 nF sF Ω) {out : ((NN × Int × Int × Int) ⊕ (NN × Int × Int))} (hK0 : ∀ s' : (NN × Int × Int × Int), out = .inl s' → Ω 217 ([some (.inr (.inr 64)), some (.inl (s'.2.1)), some (.inl (s'.2.2.1)), none, some (.inl (s'.2.2.2))], [], s'.1, X)) (hK1 : ∀ t : (NN × Int × Int), out = .inr t → Ω 244 ([some (.inr (.inr 64)), some (.inl t.2.1), some (.inl t.2.2), none, none], [], t.1, X)) (hF : b_X12_orders_217 X N a1 a2 a4 = some out) : Ω 217 ([some (.inr (.inr 64)), some (.inl a1), some (.inl a2), none, some (.inl a4)], [], N, X) := by
  unfold b_X12_orders_217 at hF
  refine s_iload hG dX12_orders_217 rfl ?_
  refine s_bipush hG dX12_orders_219 bp_16 ⟨by decide, by decide⟩ ?_
  refine s_icmp_ge hG 244 dX12_orders_221 (by decide) (fun c42 => ?_) (fun c42 => ?_)
  · replace hF := Eq.trans (if_pos c42).symm hF
    refine s_aload_n hG dX12_orders_224 rfl ?_
    refine s_getr (r := 70) hG dX12_orders_225 fl_RX12_26 (sk_k hsk 64 rfl) rfl (sk_R hsk 64 7 rfl) ?_
    refine s_iload hG dX12_orders_228 rfl ?_
    refine s_aload_n hG dX12_orders_230 rfl ?_
    refine s_getr (r := 72) hG dX12_orders_231 fl_RX12_32 (sk_k hsk 64 rfl) rfl (sk_R hsk 64 10 rfl) ?_
    refine s_iload hG dX12_orders_234 rfl ?_
    obtain ⟨g39, hF⟩ := gd_some hF
    refine s_ialdj (j := a4.toNat) hG dX12_orders_236 (sk_K hsk 72 rfl) g39 rfl ?_
    obtain ⟨g40, hF⟩ := gd_some hF
    refine s_iastj (j := a4.toNat) hG dX12_orders_237 (sk_K hsk 70 rfl) g40 rfl ?_
    refine s_iinc hG dX12_orders_238 (by decide) rfl rfl ?_
    refine s_goto hG 217 dX12_orders_241 (by decide) ?_
    cases hF
    exact hK0 _ rfl
  · replace hF := Eq.trans (if_neg c42).symm hF
    cases hF
    refine m_weak (ls1 := [some (.inr (.inr 64)), some (.inl a1), some (.inl a2), none, none]) hG ⟨rfl, ⟨rfl, ⟨rfl, trivial⟩⟩⟩ ?_
    exact hK1 _ rfl
theorem t_X12_orders_lp217 {d n0 s0 nF sF : Nat} {X : MX} {Ω : Nat → MS → Prop} {N : NN} {a1 : Int} {a2 : Int} {a4 : Int} (hsk : m_Sk X) (hd : 12 ≤ d) (hG : m_G d yX12_orders.cls yX12_orders.name cX12_orders 5 n0 s0 nF sF Ω) {t : (NN × Int × Int)} (hK1 : Ω 244 ([some (.inr (.inr 64)), some (.inl t.2.1), some (.inl t.2.2), none, none], [], t.1, X)) (hl : lp (fun s => b_X12_orders_217 X s.1 s.2.1 s.2.2.1 s.2.2.2) (N, a1, a2, a4) = some t) : Ω 217 ([some (.inr (.inr 64)), some (.inl a1), some (.inl a2), none, some (.inl a4)], [], N, X) := by
  refine lp_ok (P := fun s => Ω 217 ([some (.inr (.inr 64)), some (.inl s.2.1), some (.inl s.2.2.1), none, some (.inl s.2.2.2)], [], s.1, X)) (K := fun t => Ω 244 ([some (.inr (.inr 64)), some (.inl t.2.1), some (.inl t.2.2), none, none], [], t.1, X)) (fun s out hF hK0 hK1 => ?_) hl hK1
  exact t_X12_orders_b217 hsk hd hG (out := out) (fun s' e => hK0 s' e) (fun t' e => hK1 t' e) hF
theorem t_X12_orders {d : Nat} {X : MX} {N : NN} {out : (Int × NN)} (hsk : m_Sk X) (hd : 12 ≤ d) (hF : f_X12_orders X N = some out) : m_Call d yX12_orders cX12_orders 5 (some .int) [(.inr (.inr 64))] N X (some (.inl out.1)) out.2 X := by
  refine m_mk (ls0 := [some (.inr (.inr 64)), none, none, none, none]) (by decide) rfl (Nat.le_of_ble_eq_true rfl) (Nat.le_refl _) (Nat.le_refl _) (fun Ω hE => ?_)
  have hG := hE.G
  unfold f_X12_orders at hF
  refine s_aload_n hG dX12_orders_0 rfl ?_
  refine s_iconst hG dX12_orders_1 ⟨by decide, by decide⟩ ?_
  refine s_puti hG dX12_orders_2 fl_RX12_166 (fun h => by cases h) (sk_k hsk 64 rfl) rfl ?_
  refine s_aload_n hG dX12_orders_5 rfl ?_
  refine s_iconst hG dX12_orders_6 ⟨by decide, by decide⟩ ?_
  refine s_puti hG dX12_orders_7 fl_RX12_160 (fun h => by cases h) (sk_k hsk 64 rfl) rfl ?_
  refine s_aload_n hG dX12_orders_10 rfl ?_
  refine s_iconst hG dX12_orders_11 ⟨by decide, by decide⟩ ?_
  obtain ⟨o3, ho3, hF⟩ := bd_some hF
  refine s_callV (d' := d - 1) (ci := 12) (args := [.inl 1]) hG (by omega) dX12_orders_12 cv_RX12_393 cw_X12_beginText rfl rfl (sk_k hsk 64 rfl) (Nat.le_of_ble_eq_true rfl) rfl (t_X12_beginText hsk (by omega) ho3) ?_
  refine s_aload_n hG dX12_orders_15 rfl ?_
  obtain ⟨o4, ho4, hF⟩ := bd_some hF
  refine s_callV (d' := d - 1) (ci := 12) (args := []) hG (by omega) dX12_orders_16 cv_RX12_605 cw_X12_readOrder rfl rfl (sk_k hsk 64 rfl) (Nat.le_of_ble_eq_true rfl) rfl (t_X12_readOrder hsk (by omega) ho4) ?_
  obtain ⟨o10, hlo10, hF⟩ := bd_some hF
  refine t_X12_orders_lp19 hsk hd hG ?_ hlo10
  refine s_aload_n hG dX12_orders_46 rfl ?_
  obtain ⟨o11, ho11, hF⟩ := bd_some hF
  refine s_callV (d' := d - 1) (ci := 12) (args := []) hG (by omega) dX12_orders_47 cv_RX12_399 cw_X12_endText rfl rfl (sk_k hsk 64 rfl) (Nat.le_of_ble_eq_true rfl) rfl (t_X12_endText hsk (by omega) ho11) ?_
  refine s_aload_n hG dX12_orders_50 rfl ?_
  refine s_getz hG dX12_orders_51 fl_RX12_249 (sk_k hsk 64 rfl) rfl ?_
  refine s_if_eq hG 64 dX12_orders_54 (by decide) (fun c48 => ?_) (fun c48 => ?_)
  · replace hF := Eq.trans (if_pos c48).symm hF
    refine s_aload_n hG dX12_orders_64 rfl ?_
    refine s_bipush hG dX12_orders_65 bp_17 ⟨by decide, by decide⟩ ?_
    obtain ⟨o12, ho12, hF⟩ := bd_some hF
    refine s_callV (d' := d - 1) (ci := 12) (args := [.inl 17]) hG (by omega) dX12_orders_67 cv_RX12_462 cw_X12_keepRow rfl rfl (sk_k hsk 64 rfl) (Nat.le_of_ble_eq_true rfl) rfl (t_X12_keepRow hsk (by omega) ho12) ?_
    refine s_aload_n hG dX12_orders_70 rfl ?_
    refine s_geti hG dX12_orders_71 fl_RX12_172 (sk_k hsk 64 rfl) rfl ?_
    refine s_istore_n hG dX12_orders_74 (by decide) rfl ?_
    refine s_iconst hG dX12_orders_75 ⟨by decide, by decide⟩ ?_
    refine s_istore_n hG dX12_orders_76 (by decide) rfl ?_
    obtain ⟨o17, hlo17, hF⟩ := bd_some hF
    refine t_X12_orders_lp77 hsk hd hG ?_ hlo17
    refine s_iconst hG dX12_orders_102 ⟨by decide, by decide⟩ ?_
    refine s_istore_n hG dX12_orders_103 (by decide) rfl ?_
    obtain ⟨o22, hlo22, hF⟩ := bd_some hF
    refine t_X12_orders_lp104 hsk hd hG ?_ hlo22
    refine s_aload_n hG dX12_orders_128 rfl ?_
    refine s_iconst hG dX12_orders_129 ⟨by decide, by decide⟩ ?_
    refine s_puti hG dX12_orders_130 fl_RX12_595 (fun h => by cases h) (sk_k hsk 64 rfl) rfl ?_
    refine s_aload_n hG dX12_orders_133 rfl ?_
    refine s_iconst hG dX12_orders_134 ⟨by decide, by decide⟩ ?_
    refine s_puti hG dX12_orders_135 fl_RX12_598 (fun h => by cases h) (sk_k hsk 64 rfl) rfl ?_
    refine s_iconst hG dX12_orders_138 ⟨by decide, by decide⟩ ?_
    refine s_istore_n hG dX12_orders_139 (by decide) rfl ?_
    obtain ⟨o31, hlo31, hF⟩ := bd_some hF
    refine t_X12_orders_lp140 hsk hd hG ?_ hlo31
    match o31, hF with
    | .inl e31, hF =>
          try dsimp only at hF
          refine s_aload_n hG dX12_orders_273 rfl ?_
          refine s_aload_n hG dX12_orders_274 rfl ?_
          refine s_geti hG dX12_orders_275 fl_RX12_595 (sk_k hsk 64 rfl) rfl ?_
          obtain ⟨o32, ho32, hF⟩ := bd_some hF
          refine s_callV (d' := d - 1) (ci := 12) (args := [.inl (e31 64 66)]) hG (by omega) dX12_orders_278 cv_RX12_175 cw_X12_tell rfl rfl (sk_k hsk 64 rfl) (Nat.le_of_ble_eq_true rfl) rfl (t_X12_tell hsk (by omega) ho32) ?_
          cases hF
          exact s_iret hE dX12_orders_281 rfl
    | .inr e31, hF =>
          try dsimp only at hF
          refine s_aload_n hG dX12_orders_177 rfl ?_
          refine s_bipush hG dX12_orders_178 bp_17 ⟨by decide, by decide⟩ ?_
          obtain ⟨o33, ho33, hF⟩ := bd_some hF
          refine s_callV (d' := d - 1) (ci := 12) (args := [.inl 17]) hG (by omega) dX12_orders_180 cv_RX12_471 cw_X12_putBack rfl rfl (sk_k hsk 64 rfl) (Nat.le_of_ble_eq_true rfl) rfl (t_X12_putBack hsk (by omega) ho33) ?_
          refine s_iconst hG dX12_orders_183 ⟨by decide, by decide⟩ ?_
          refine s_istore hG dX12_orders_184 (by decide) rfl ?_
          obtain ⟨o38, hlo38, hF⟩ := bd_some hF
          refine t_X12_orders_lp186 hsk hd hG ?_ hlo38
          refine s_iconst hG dX12_orders_214 ⟨by decide, by decide⟩ ?_
          refine s_istore hG dX12_orders_215 (by decide) rfl ?_
          obtain ⟨o43, hlo43, hF⟩ := bd_some hF
          refine t_X12_orders_lp217 hsk hd hG ?_ hlo43
          refine s_aload_n hG dX12_orders_244 rfl ?_
          refine s_iload_n hG dX12_orders_245 rfl ?_
          refine s_puti hG dX12_orders_246 fl_RX12_172 (fun h => by cases h) (sk_k hsk 64 rfl) rfl ?_
          refine s_aload_n hG dX12_orders_249 rfl ?_
          refine s_iload_n hG dX12_orders_250 rfl ?_
          refine s_puti hG dX12_orders_251 fl_RX12_160 (fun h => by cases h) (sk_k hsk 64 rfl) rfl ?_
          refine s_aload_n hG dX12_orders_254 rfl ?_
          refine s_bipush hG dX12_orders_255 bp_m3 ⟨by decide, by decide⟩ ?_
          obtain ⟨o46, ho46, hF⟩ := bd_some hF
          refine s_callV (d' := d - 1) (ci := 12) (args := [.inl (-3)]) hG (by omega) dX12_orders_257 cv_RX12_175 cw_X12_tell rfl rfl (sk_k hsk 64 rfl) (Nat.le_of_ble_eq_true rfl) rfl (t_X12_tell hsk (by omega) ho46) ?_
          cases hF
          exact s_iret hE dX12_orders_260 rfl
  · replace hF := Eq.trans (if_neg c48).symm hF
    refine s_aload_n hG dX12_orders_57 rfl ?_
    refine s_bipush hG dX12_orders_58 bp_m6 ⟨by decide, by decide⟩ ?_
    obtain ⟨o47, ho47, hF⟩ := bd_some hF
    refine s_callV (d' := d - 1) (ci := 12) (args := [.inl (-6)]) hG (by omega) dX12_orders_60 cv_RX12_175 cw_X12_tell rfl rfl (sk_k hsk 64 rfl) (Nat.le_of_ble_eq_true rfl) rfl (t_X12_tell hsk (by omega) ho47) ?_
    cases hF
    exact s_iret hE dX12_orders_63 rfl
-- X12_owed
theorem t_X12_owed_l33_j81 {d n0 s0 nF sF : Nat} {X : MX} {Ω : Nat → MS → Prop} {N : NN} {a1 : Int} {a2 : Int} {a3 : Int} {a5 : Int} {z0 : Int} (hsk : m_Sk X) (hd : 3 ≤ d) (hG : m_G d yX12_owed.cls yX12_owed.name cX12_owed 7 n0 s0 nF sF Ω) {out : ((NN × Int × Int × Int × Int × Int) ⊕ (NN × Int × Int × Int))} (hK0 : ∀ s' : (NN × Int × Int × Int × Int × Int), out = .inl s' → Ω 33 ([some (.inr (.inr 64)), some (.inl (s'.2.1)), some (.inl (s'.2.2.1)), some (.inl (s'.2.2.2.1)), some (.inl (s'.2.2.2.2.1)), some (.inl (s'.2.2.2.2.2)), none], [], s'.1, X)) (hK1 : ∀ t : (NN × Int × Int × Int), out = .inr t → Ω 89 ([some (.inr (.inr 64)), some (.inl t.2.1), some (.inl t.2.2.1), some (.inl t.2.2.2), none, none, none], [], t.1, X)) (hF : f_X12_owed_l33_j81 X N a1 a2 a3 a5 z0 = some out) : Ω 81 ([some (.inr (.inr 64)), some (.inl a1), some (.inl a2), some (.inl a3), none, some (.inl a5), none], [(.inl z0)], N, X) := by
  unfold f_X12_owed_l33_j81 at hF
  refine s_istore hG dX12_owed_81 (by decide) rfl ?_
  refine s_iinc hG dX12_owed_83 (by decide) rfl rfl ?_
  refine s_goto hG 33 dX12_owed_86 (by decide) ?_
  cases hF
  exact hK0 _ rfl
theorem t_X12_owed_l33_j66 {d n0 s0 nF sF : Nat} {X : MX} {Ω : Nat → MS → Prop} {N : NN} {a1 : Int} {a2 : Int} {a4 : Int} {a5 : Int} {a6 : Int} {z0 : Int} (hsk : m_Sk X) (hd : 3 ≤ d) (hG : m_G d yX12_owed.cls yX12_owed.name cX12_owed 7 n0 s0 nF sF Ω) {out : ((NN × Int × Int × Int × Int × Int) ⊕ (NN × Int × Int × Int))} (hK0 : ∀ s' : (NN × Int × Int × Int × Int × Int), out = .inl s' → Ω 33 ([some (.inr (.inr 64)), some (.inl (s'.2.1)), some (.inl (s'.2.2.1)), some (.inl (s'.2.2.2.1)), some (.inl (s'.2.2.2.2.1)), some (.inl (s'.2.2.2.2.2)), none], [], s'.1, X)) (hK1 : ∀ t : (NN × Int × Int × Int), out = .inr t → Ω 89 ([some (.inr (.inr 64)), some (.inl t.2.1), some (.inl t.2.2.1), some (.inl t.2.2.2), none, none, none], [], t.1, X)) (hF : f_X12_owed_l33_j66 X N a1 a2 a4 a5 a6 z0 = some out) : Ω 66 ([some (.inr (.inr 64)), some (.inl a1), some (.inl a2), none, some (.inl a4), some (.inl a5), some (.inl a6)], [(.inl z0)], N, X) := by
  unfold f_X12_owed_l33_j66 at hF
  refine s_istore_n hG dX12_owed_66 (by decide) rfl ?_
  refine s_iload hG dX12_owed_67 rfl ?_
  refine s_iload hG dX12_owed_69 rfl ?_
  refine s_icmp_le hG 79 dX12_owed_71 (by decide) (fun c8 => ?_) (fun c8 => ?_)
  · replace hF := Eq.trans (if_pos c8).symm hF
    refine s_iload hG dX12_owed_74 rfl ?_
    refine s_goto hG 81 dX12_owed_76 (by decide) ?_
    refine m_weak (ls1 := [some (.inr (.inr 64)), some (.inl a1), some (.inl a2), some (.inl z0), none, some (.inl a5), none]) hG ⟨rfl, ⟨rfl, ⟨rfl, ⟨rfl, ⟨rfl, trivial⟩⟩⟩⟩⟩ ?_
    exact t_X12_owed_l33_j81 hsk hd hG hK0 hK1 hF
  · replace hF := Eq.trans (if_neg c8).symm hF
    refine s_iload hG dX12_owed_79 rfl ?_
    refine m_weak (ls1 := [some (.inr (.inr 64)), some (.inl a1), some (.inl a2), some (.inl z0), none, some (.inl a5), none]) hG ⟨rfl, ⟨rfl, ⟨rfl, ⟨rfl, ⟨rfl, trivial⟩⟩⟩⟩⟩ ?_
    exact t_X12_owed_l33_j81 hsk hd hG hK0 hK1 hF
theorem t_X12_owed_b33 {d n0 s0 nF sF : Nat} {X : MX} {Ω : Nat → MS → Prop} {N : NN} {a1 : Int} {a2 : Int} {a3 : Int} {a4 : Int} {a5 : Int} (hsk : m_Sk X) (hd : 3 ≤ d) (hG : m_G d yX12_owed.cls yX12_owed.name cX12_owed 7 n0 s0 nF sF Ω) {out : ((NN × Int × Int × Int × Int × Int) ⊕ (NN × Int × Int × Int))} (hK0 : ∀ s' : (NN × Int × Int × Int × Int × Int), out = .inl s' → Ω 33 ([some (.inr (.inr 64)), some (.inl (s'.2.1)), some (.inl (s'.2.2.1)), some (.inl (s'.2.2.2.1)), some (.inl (s'.2.2.2.2.1)), some (.inl (s'.2.2.2.2.2)), none], [], s'.1, X)) (hK1 : ∀ t : (NN × Int × Int × Int), out = .inr t → Ω 89 ([some (.inr (.inr 64)), some (.inl t.2.1), some (.inl t.2.2.1), some (.inl t.2.2.2), none, none, none], [], t.1, X)) (hF : b_X12_owed_33 X N a1 a2 a3 a4 a5 = some out) : Ω 33 ([some (.inr (.inr 64)), some (.inl a1), some (.inl a2), some (.inl a3), some (.inl a4), some (.inl a5), none], [], N, X) := by
  unfold b_X12_owed_33 at hF
  refine s_iload hG dX12_owed_33 rfl ?_
  refine s_bipush hG dX12_owed_35 bp_6 ⟨by decide, by decide⟩ ?_
  refine s_icmp_ge hG 89 dX12_owed_37 (by decide) (fun c7 => ?_) (fun c7 => ?_)
  · replace hF := Eq.trans (if_pos c7).symm hF
    refine s_aload_n hG dX12_owed_40 rfl ?_
    refine s_getr (r := 66) hG dX12_owed_41 fl_RX12_13 (sk_k hsk 64 rfl) rfl (sk_R hsk 64 3 rfl) ?_
    refine s_iload_n hG dX12_owed_44 rfl ?_
    refine s_iload hG dX12_owed_45 rfl ?_
    obtain ⟨o4, ho4, hF⟩ := bd_some hF
    refine s_callS (d' := d - 1) (args := [.inl a1, .inl a5]) hG (by omega) dX12_owed_47 cs_RX12_452 cw_X12_debtAt rfl (Nat.le_of_ble_eq_true rfl) rfl (t_X12_debtAt hsk (by omega) ho4) ?_
    obtain ⟨g5, hF⟩ := gd_some hF
    refine s_ialdj (j := o4.toNat) hG dX12_owed_50 (sk_K hsk 66 rfl) g5 rfl ?_
    refine s_istore hG dX12_owed_51 (by decide) rfl ?_
    refine s_iload hG dX12_owed_53 rfl ?_
    refine s_iload hG dX12_owed_55 rfl ?_
    refine s_icmp_le hG 65 dX12_owed_57 (by decide) (fun c6 => ?_) (fun c6 => ?_)
    · replace hF := Eq.trans (if_pos c6).symm hF
      refine s_iload hG dX12_owed_60 rfl ?_
      refine s_goto hG 66 dX12_owed_62 (by decide) ?_
      refine m_weak (ls1 := [some (.inr (.inr 64)), some (.inl a1), some (.inl a2), none, some (.inl a4), some (.inl a5), some (.inl (N 66 o4.toNat))]) hG ⟨rfl, ⟨rfl, ⟨rfl, ⟨rfl, ⟨rfl, ⟨rfl, trivial⟩⟩⟩⟩⟩⟩ ?_
      exact t_X12_owed_l33_j66 hsk hd hG hK0 hK1 hF
    · replace hF := Eq.trans (if_neg c6).symm hF
      refine s_iload_n hG dX12_owed_65 rfl ?_
      refine m_weak (ls1 := [some (.inr (.inr 64)), some (.inl a1), some (.inl a2), none, some (.inl a4), some (.inl a5), some (.inl (N 66 o4.toNat))]) hG ⟨rfl, ⟨rfl, ⟨rfl, ⟨rfl, ⟨rfl, ⟨rfl, trivial⟩⟩⟩⟩⟩⟩ ?_
      exact t_X12_owed_l33_j66 hsk hd hG hK0 hK1 hF
  · replace hF := Eq.trans (if_neg c7).symm hF
    cases hF
    refine m_weak (ls1 := [some (.inr (.inr 64)), some (.inl a1), some (.inl a2), some (.inl a3), none, none, none]) hG ⟨rfl, ⟨rfl, ⟨rfl, ⟨rfl, trivial⟩⟩⟩⟩ ?_
    exact hK1 _ rfl
theorem t_X12_owed_lp33 {d n0 s0 nF sF : Nat} {X : MX} {Ω : Nat → MS → Prop} {N : NN} {a1 : Int} {a2 : Int} {a3 : Int} {a4 : Int} {a5 : Int} (hsk : m_Sk X) (hd : 3 ≤ d) (hG : m_G d yX12_owed.cls yX12_owed.name cX12_owed 7 n0 s0 nF sF Ω) {t : (NN × Int × Int × Int)} (hK1 : Ω 89 ([some (.inr (.inr 64)), some (.inl t.2.1), some (.inl t.2.2.1), some (.inl t.2.2.2), none, none, none], [], t.1, X)) (hl : lp (fun s => b_X12_owed_33 X s.1 s.2.1 s.2.2.1 s.2.2.2.1 s.2.2.2.2.1 s.2.2.2.2.2) (N, a1, a2, a3, a4, a5) = some t) : Ω 33 ([some (.inr (.inr 64)), some (.inl a1), some (.inl a2), some (.inl a3), some (.inl a4), some (.inl a5), none], [], N, X) := by
  refine lp_ok (P := fun s => Ω 33 ([some (.inr (.inr 64)), some (.inl s.2.1), some (.inl s.2.2.1), some (.inl s.2.2.2.1), some (.inl s.2.2.2.2.1), some (.inl s.2.2.2.2.2), none], [], s.1, X)) (K := fun t => Ω 89 ([some (.inr (.inr 64)), some (.inl t.2.1), some (.inl t.2.2.1), some (.inl t.2.2.2), none, none, none], [], t.1, X)) (fun s out hF hK0 hK1 => ?_) hl hK1
  exact t_X12_owed_b33 hsk hd hG (out := out) (fun s' e => hK0 s' e) (fun t' e => hK1 t' e) hF
theorem t_X12_owed_j23 {d n0 s0 nF sF : Nat} {X : MX} {Ω : Nat → MS → Prop} {N : NN} (hsk : m_Sk X) (hd : 3 ≤ d) (hG : m_G d yX12_owed.cls yX12_owed.name cX12_owed 7 n0 s0 nF sF Ω) {out : (Int × NN)} (hE : m_Gd d yX12_owed cX12_owed 7 (some .int) X (some (.inl out.1)) out.2 X Ω) (hF : f_X12_owed_j23 X N = some out) : Ω 23 ([none, none, none, none, none, none, none], [], N, X) := by
  unfold f_X12_owed_j23 at hF
  refine s_iconst hG dX12_owed_23 ⟨by decide, by decide⟩ ?_
  cases hF
  exact s_iret hE dX12_owed_24 rfl
theorem t_X12_owed_j102 {d n0 s0 nF sF : Nat} {X : MX} {Ω : Nat → MS → Prop} {N : NN} {z0 : Int} (hsk : m_Sk X) (hd : 3 ≤ d) (hG : m_G d yX12_owed.cls yX12_owed.name cX12_owed 7 n0 s0 nF sF Ω) {out : (Int × NN)} (hE : m_Gd d yX12_owed cX12_owed 7 (some .int) X (some (.inl out.1)) out.2 X Ω) (hF : f_X12_owed_j102 X N z0 = some out) : Ω 102 ([none, none, none, none, none, none, none], [(.inl z0)], N, X) := by
  unfold f_X12_owed_j102 at hF
  cases hF
  exact s_iret hE dX12_owed_102 rfl
theorem t_X12_owed {d : Nat} {X : MX} {N : NN} {a1 : Int} {a2 : Int} {out : (Int × NN)} (hsk : m_Sk X) (hd : 3 ≤ d) (hF : f_X12_owed X N a1 a2 = some out) : m_Call d yX12_owed cX12_owed 7 (some .int) [(.inr (.inr 64)), (.inl a1), (.inl a2)] N X (some (.inl out.1)) out.2 X := by
  refine m_mk (ls0 := [some (.inr (.inr 64)), some (.inl a1), some (.inl a2), none, none, none, none]) (by decide) rfl (Nat.le_of_ble_eq_true rfl) (Nat.le_refl _) (Nat.le_refl _) (fun Ω hE => ?_)
  have hG := hE.G
  unfold f_X12_owed at hF
  refine s_aload_n hG dX12_owed_0 rfl ?_
  refine s_iconst hG dX12_owed_1 ⟨by decide, by decide⟩ ?_
  refine s_puti hG dX12_owed_2 fl_RX12_166 (fun h => by cases h) (sk_k hsk 64 rfl) rfl ?_
  refine s_aload_n hG dX12_owed_5 rfl ?_
  refine s_iload_n hG dX12_owed_6 rfl ?_
  obtain ⟨o2, ho2, hF⟩ := bd_some hF
  refine s_callV (d' := d - 1) (ci := 12) (args := [.inl a1]) hG (by omega) dX12_owed_7 cv_RX12_198 cw_X12_isLord rfl rfl (sk_k hsk 64 rfl) (Nat.le_of_ble_eq_true rfl) rfl (t_X12_isLord hsk (by omega) ho2) ?_
  refine s_if_eq hG 23 dX12_owed_10 (by decide) (fun c13 => ?_) (fun c13 => ?_)
  · replace hF := Eq.trans (if_pos c13).symm hF
    refine m_weak (ls1 := [none, none, none, none, none, none, none]) hG trivial ?_
    exact t_X12_owed_j23 hsk hd hG hE hF
  · replace hF := Eq.trans (if_neg c13).symm hF
    refine s_iload_n hG dX12_owed_13 rfl ?_
    refine s_i2l hG dX12_owed_14 ?_
    refine s_lconst (v := 0) hG dX12_owed_15 rfl ⟨by decide, by decide⟩ ?_
    refine s_lconst (v := 1) hG dX12_owed_16 rfl ⟨by decide, by decide⟩ ?_
    obtain ⟨o3, ho3, hF⟩ := bd_some hF
    refine s_callS (d' := d - 1) (args := [.inr (.inl a2), .inr (.inl 0), .inr (.inl 1)]) hG (by omega) dX12_owed_17 cs_RX12_179 cw_X12_in rfl (Nat.le_of_ble_eq_true rfl) rfl (t_X12_in hsk (by omega) ho3) ?_
    refine s_if_ne hG 25 dX12_owed_20 (by decide) (fun c12 => ?_) (fun c12 => ?_)
    · replace hF := Eq.trans (if_pos c12).symm hF
      refine m_weak (ls1 := [none, none, none, none, none, none, none]) hG trivial ?_
      exact t_X12_owed_j23 hsk hd hG hE hF
    · replace hF := Eq.trans (if_neg c12).symm hF
      refine s_iconst hG dX12_owed_25 ⟨by decide, by decide⟩ ?_
      refine s_istore_n hG dX12_owed_26 (by decide) rfl ?_
      refine s_iconst hG dX12_owed_27 ⟨by decide, by decide⟩ ?_
      refine s_istore hG dX12_owed_28 (by decide) rfl ?_
      refine s_iconst hG dX12_owed_30 ⟨by decide, by decide⟩ ?_
      refine s_istore hG dX12_owed_31 (by decide) rfl ?_
      obtain ⟨o9, hlo9, hF⟩ := bd_some hF
      refine t_X12_owed_lp33 hsk hd hG ?_ hlo9
      refine s_iload_n hG dX12_owed_89 rfl ?_
      refine s_if_ne hG 101 dX12_owed_90 (by decide) (fun c11 => ?_) (fun c11 => ?_)
      · replace hF := Eq.trans (if_pos c11).symm hF
        refine s_aload_n hG dX12_owed_93 rfl ?_
        refine s_iload_n hG dX12_owed_94 rfl ?_
        obtain ⟨o10, ho10, hF⟩ := bd_some hF
        refine s_callV (d' := d - 1) (ci := 12) (args := [.inl o9.2.1]) hG (by omega) dX12_owed_95 cv_RX12_423 cw_X12_debtsOf rfl rfl (sk_k hsk 64 rfl) (Nat.le_of_ble_eq_true rfl) rfl (t_X12_debtsOf hsk (by omega) ho10) ?_
        refine s_goto hG 102 dX12_owed_98 (by decide) ?_
        refine m_weak (ls1 := [none, none, none, none, none, none, none]) hG trivial ?_
        exact t_X12_owed_j102 hsk hd hG hE hF
      · replace hF := Eq.trans (if_neg c11).symm hF
        refine s_iload_n hG dX12_owed_101 rfl ?_
        refine m_weak (ls1 := [none, none, none, none, none, none, none]) hG trivial ?_
        exact t_X12_owed_j102 hsk hd hG hE hF
-- X12_put
theorem t_X12_put_j43 {d n0 s0 nF sF : Nat} {X : MX} {Ω : Nat → MS → Prop} {N : NN} {a1 : Int} {a2 : Int} {a3 : Int} {z0 : Int} (hsk : m_Sk X) (hd : 3 ≤ d) (hG : m_G d yX12_put.cls yX12_put.name cX12_put 6 n0 s0 nF sF Ω) {out : (Int × NN)} (hE : m_Gd d yX12_put cX12_put 6 (some .int) X (some (.inl out.1)) out.2 X Ω) (hF : f_X12_put_j43 X N a1 a2 a3 z0 = some out) : Ω 43 ([some (.inr (.inr 64)), some (.inl a1), some (.inl a2), some (.inl a3), none, none], [(.inl z0)], N, X) := by
  unfold f_X12_put_j43 at hF
  refine s_istore hG dX12_put_43 (by decide) rfl ?_
  refine s_iload hG dX12_put_45 rfl ?_
  refine s_if_ne hG 56 dX12_put_47 (by decide) (fun c16 => ?_) (fun c16 => ?_)
  · replace hF := Eq.trans (if_pos c16).symm hF
    refine s_aload_n hG dX12_put_50 rfl ?_
    refine s_iconst hG dX12_put_51 ⟨by decide, by decide⟩ ?_
    obtain ⟨o7, ho7, hF⟩ := bd_some hF
    refine s_callV (d' := d - 1) (ci := 12) (args := [.inl (-1)]) hG (by omega) dX12_put_52 cv_RX12_175 cw_X12_tell rfl rfl (sk_k hsk 64 rfl) (Nat.le_of_ble_eq_true rfl) rfl (t_X12_tell hsk (by omega) ho7) ?_
    cases hF
    exact s_iret hE dX12_put_55 rfl
  · replace hF := Eq.trans (if_neg c16).symm hF
    refine s_aload_n hG dX12_put_56 rfl ?_
    refine s_iload_n hG dX12_put_57 rfl ?_
    obtain ⟨o8, ho8, hF⟩ := bd_some hF
    refine s_callV (d' := d - 1) (ci := 12) (args := [.inl a1]) hG (by omega) dX12_put_58 cv_RX12_198 cw_X12_isLord rfl rfl (sk_k hsk 64 rfl) (Nat.le_of_ble_eq_true rfl) rfl (t_X12_isLord hsk (by omega) ho8) ?_
    refine s_if_ne hG 71 dX12_put_61 (by decide) (fun c15 => ?_) (fun c15 => ?_)
    · replace hF := Eq.trans (if_pos c15).symm hF
      refine s_aload_n hG dX12_put_64 rfl ?_
      refine s_bipush hG dX12_put_65 bp_m2 ⟨by decide, by decide⟩ ?_
      obtain ⟨o9, ho9, hF⟩ := bd_some hF
      refine s_callV (d' := d - 1) (ci := 12) (args := [.inl (-2)]) hG (by omega) dX12_put_67 cv_RX12_175 cw_X12_tell rfl rfl (sk_k hsk 64 rfl) (Nat.le_of_ble_eq_true rfl) rfl (t_X12_tell hsk (by omega) ho9) ?_
      cases hF
      exact s_iret hE dX12_put_70 rfl
    · replace hF := Eq.trans (if_neg c15).symm hF
      refine s_aload_n hG dX12_put_71 rfl ?_
      refine s_iload_n hG dX12_put_72 rfl ?_
      refine s_iload_n hG dX12_put_73 rfl ?_
      obtain ⟨o10, ho10, hF⟩ := bd_some hF
      refine s_callV (d' := d - 1) (ci := 12) (args := [.inl a1, .inl a2]) hG (by omega) dX12_put_74 cv_RX12_204 cw_X12_ofLord rfl rfl (sk_k hsk 64 rfl) (Nat.le_of_ble_eq_true rfl) rfl (t_X12_ofLord hsk (by omega) ho10) ?_
      refine s_istore hG dX12_put_77 (by decide) rfl ?_
      refine s_aload_n hG dX12_put_79 rfl ?_
      refine s_getr (r := 66) hG dX12_put_80 fl_RX12_13 (sk_k hsk 64 rfl) rfl (sk_R hsk 64 3 rfl) ?_
      refine s_bipush hG dX12_put_83 bp_9 ⟨by decide, by decide⟩ ?_
      refine s_bipush hG dX12_put_85 bp_6 ⟨by decide, by decide⟩ ?_
      refine s_iload_n hG dX12_put_87 rfl ?_
      refine s_imul hG dX12_put_88 ?_
      refine s_iadd hG dX12_put_89 ?_
      refine s_iload_n hG dX12_put_90 rfl ?_
      refine s_iadd hG dX12_put_91 ?_
      refine s_iload_n hG dX12_put_92 rfl ?_
      obtain ⟨g11, hF⟩ := gd_some hF
      refine s_iastj (j := (m_w ((m_w (9 + (m_w (6 * a1)))) + a2)).toNat) hG dX12_put_93 (sk_K hsk 66 rfl) g11 rfl ?_
      refine s_aload_n hG dX12_put_94 rfl ?_
      refine s_iconst hG dX12_put_95 ⟨by decide, by decide⟩ ?_
      refine s_puti hG dX12_put_96 fl_RX12_172 (fun h => by cases h) (sk_k hsk 64 rfl) rfl ?_
      refine s_aload_n hG dX12_put_99 rfl ?_
      refine s_iload hG dX12_put_100 rfl ?_
      obtain ⟨o14, ho14, hF⟩ := bd_some hF
      refine s_callV (d' := d - 1) (ci := 12) (args := [.inl o10]) hG (by omega) dX12_put_102 cv_RX12_217 cw_X12_was rfl rfl (sk_k hsk 64 rfl) (Nat.le_of_ble_eq_true rfl) rfl (t_X12_was hsk (by omega) ho14) ?_
      cases hF
      exact s_iret hE dX12_put_105 rfl
theorem t_X12_put_j42 {d n0 s0 nF sF : Nat} {X : MX} {Ω : Nat → MS → Prop} {N : NN} {a1 : Int} {a2 : Int} {a3 : Int} (hsk : m_Sk X) (hd : 3 ≤ d) (hG : m_G d yX12_put.cls yX12_put.name cX12_put 6 n0 s0 nF sF Ω) {out : (Int × NN)} (hE : m_Gd d yX12_put cX12_put 6 (some .int) X (some (.inl out.1)) out.2 X Ω) (hF : f_X12_put_j42 X N a1 a2 a3 = some out) : Ω 42 ([some (.inr (.inr 64)), some (.inl a1), some (.inl a2), some (.inl a3), none, none], [], N, X) := by
  unfold f_X12_put_j42 at hF
  refine s_iconst hG dX12_put_42 ⟨by decide, by decide⟩ ?_
  exact t_X12_put_j43 hsk hd hG hE hF
theorem t_X12_put {d : Nat} {X : MX} {N : NN} {a1 : Int} {a2 : Int} {a3 : Int} {out : (Int × NN)} (hsk : m_Sk X) (hd : 3 ≤ d) (hF : f_X12_put X N a1 a2 a3 = some out) : m_Call d yX12_put cX12_put 6 (some .int) [(.inr (.inr 64)), (.inl a1), (.inl a2), (.inl a3)] N X (some (.inl out.1)) out.2 X := by
  refine m_mk (ls0 := [some (.inr (.inr 64)), some (.inl a1), some (.inl a2), some (.inl a3), none, none]) (by decide) rfl (Nat.le_of_ble_eq_true rfl) (Nat.le_refl _) (Nat.le_refl _) (fun Ω hE => ?_)
  have hG := hE.G
  unfold f_X12_put at hF
  refine s_aload_n hG dX12_put_0 rfl ?_
  refine s_iconst hG dX12_put_1 ⟨by decide, by decide⟩ ?_
  refine s_puti hG dX12_put_2 fl_RX12_166 (fun h => by cases h) (sk_k hsk 64 rfl) rfl ?_
  refine s_iload_n hG dX12_put_5 rfl ?_
  refine s_if_ne hG 21 dX12_put_6 (by decide) (fun c6 => ?_) (fun c6 => ?_)
  · replace hF := Eq.trans (if_pos c6).symm hF
    refine s_iload_n hG dX12_put_9 rfl ?_
    refine s_i2l hG dX12_put_10 ?_
    refine s_lconst (v := 0) hG dX12_put_11 rfl ⟨by decide, by decide⟩ ?_
    refine s_ldc2 hG dX12_put_12 kc_RX12_186 ⟨by decide, by decide⟩ ?_
    obtain ⟨o2, ho2, hF⟩ := bd_some hF
    refine s_callS (d' := d - 1) (args := [.inr (.inl a3), .inr (.inl 0), .inr (.inl 9999)]) hG (by omega) dX12_put_15 cs_RX12_179 cw_X12_in rfl (Nat.le_of_ble_eq_true rfl) rfl (t_X12_in hsk (by omega) ho2) ?_
    refine s_goto hG 43 dX12_put_18 (by decide) ?_
    exact t_X12_put_j43 hsk hd hG hE hF
  · replace hF := Eq.trans (if_neg c6).symm hF
    refine s_iload_n hG dX12_put_21 rfl ?_
    refine s_iconst hG dX12_put_22 ⟨by decide, by decide⟩ ?_
    refine s_icmp_ne hG 42 dX12_put_23 (by decide) (fun c5 => ?_) (fun c5 => ?_)
    · replace hF := Eq.trans (if_pos c5).symm hF
      refine s_iload_n hG dX12_put_26 rfl ?_
      refine s_i2l hG dX12_put_27 ?_
      refine s_lconst (v := 0) hG dX12_put_28 rfl ⟨by decide, by decide⟩ ?_
      refine s_ldc2 hG dX12_put_29 kc_RX12_188 ⟨by decide, by decide⟩ ?_
      obtain ⟨o3, ho3, hF⟩ := bd_some hF
      refine s_callS (d' := d - 1) (args := [.inr (.inl a3), .inr (.inl 0), .inr (.inl 99)]) hG (by omega) dX12_put_32 cs_RX12_179 cw_X12_in rfl (Nat.le_of_ble_eq_true rfl) rfl (t_X12_in hsk (by omega) ho3) ?_
      refine s_if_eq hG 42 dX12_put_35 (by decide) (fun c4 => ?_) (fun c4 => ?_)
      · replace hF := Eq.trans (if_pos c4).symm hF
        exact t_X12_put_j42 hsk hd hG hE hF
      · replace hF := Eq.trans (if_neg c4).symm hF
        refine s_iconst hG dX12_put_38 ⟨by decide, by decide⟩ ?_
        refine s_goto hG 43 dX12_put_39 (by decide) ?_
        exact t_X12_put_j43 hsk hd hG hE hF
    · replace hF := Eq.trans (if_neg c5).symm hF
      exact t_X12_put_j42 hsk hd hG hE hF
-- X12_ring
theorem t_X12_ring_j59 {d n0 s0 nF sF : Nat} {X : MX} {Ω : Nat → MS → Prop} {N : NN} {z0 : Int} (hsk : m_Sk X) (hd : 3 ≤ d) (hG : m_G d yX12_ring.cls yX12_ring.name cX12_ring 2 n0 s0 nF sF Ω) {out : (Int × NN)} (hE : m_Gd d yX12_ring cX12_ring 2 (some .int) X (some (.inl out.1)) out.2 X Ω) (hF : f_X12_ring_j59 X N z0 = some out) : Ω 59 ([none, none], [(.inl z0)], N, X) := by
  unfold f_X12_ring_j59 at hF
  cases hF
  exact s_iret hE dX12_ring_59 rfl
theorem t_X12_ring {d : Nat} {X : MX} {N : NN} {a1 : Int} {out : (Int × NN)} (hsk : m_Sk X) (hd : 3 ≤ d) (hF : f_X12_ring X N a1 = some out) : m_Call d yX12_ring cX12_ring 2 (some .int) [(.inr (.inr 64)), (.inl a1)] N X (some (.inl out.1)) out.2 X := by
  refine m_mk (ls0 := [some (.inr (.inr 64)), some (.inl a1)]) (by decide) rfl (Nat.le_of_ble_eq_true rfl) (Nat.le_refl _) (Nat.le_refl _) (fun Ω hE => ?_)
  have hG := hE.G
  unfold f_X12_ring at hF
  refine s_aload_n hG dX12_ring_0 rfl ?_
  refine s_iconst hG dX12_ring_1 ⟨by decide, by decide⟩ ?_
  refine s_puti hG dX12_ring_2 fl_RX12_166 (fun h => by cases h) (sk_k hsk 64 rfl) rfl ?_
  refine s_aload_n hG dX12_ring_5 rfl ?_
  obtain ⟨o2, ho2, hF⟩ := bd_some hF
  refine s_callV (d' := d - 1) (ci := 12) (args := []) hG (by omega) dX12_ring_6 cv_RX12_565 cw_X12_findRing rfl rfl (sk_k hsk 64 rfl) (Nat.le_of_ble_eq_true rfl) rfl (t_X12_findRing hsk (by omega) ho2) ?_
  refine s_aload_n hG dX12_ring_9 rfl ?_
  refine s_geti hG dX12_ring_10 fl_RX12_553 (sk_k hsk 64 rfl) rfl ?_
  refine s_ldcw hG dX12_ring_13 kc_RX12_515 ⟨by decide, by decide⟩ ?_
  refine s_icmp_ne hG 21 dX12_ring_16 (by decide) (fun c7 => ?_) (fun c7 => ?_)
  · replace hF := Eq.trans (if_pos c7).symm hF
    refine s_iconst hG dX12_ring_19 ⟨by decide, by decide⟩ ?_
    cases hF
    exact s_iret hE dX12_ring_20 rfl
  · replace hF := Eq.trans (if_neg c7).symm hF
    refine s_iload_n hG dX12_ring_21 rfl ?_
    refine s_iconst hG dX12_ring_22 ⟨by decide, by decide⟩ ?_
    refine s_icmp_ne hG 33 dX12_ring_23 (by decide) (fun c6 => ?_) (fun c6 => ?_)
    · replace hF := Eq.trans (if_pos c6).symm hF
      refine s_aload_n hG dX12_ring_26 rfl ?_
      refine s_geti hG dX12_ring_27 fl_RX12_553 (sk_k hsk 64 rfl) rfl ?_
      refine s_goto hG 59 dX12_ring_30 (by decide) ?_
      refine m_weak (ls1 := [none, none]) hG trivial ?_
      exact t_X12_ring_j59 hsk hd hG hE hF
    · replace hF := Eq.trans (if_neg c6).symm hF
      refine s_iload_n hG dX12_ring_33 rfl ?_
      refine s_i2l hG dX12_ring_34 ?_
      refine s_lconst (v := 0) hG dX12_ring_35 rfl ⟨by decide, by decide⟩ ?_
      refine s_aload_n hG dX12_ring_36 rfl ?_
      refine s_geti hG dX12_ring_37 fl_RX12_553 (sk_k hsk 64 rfl) rfl ?_
      refine s_i2l hG dX12_ring_40 ?_
      refine s_lconst (v := 1) hG dX12_ring_41 rfl ⟨by decide, by decide⟩ ?_
      refine s_lsub hG dX12_ring_42 ?_
      obtain ⟨o3, ho3, hF⟩ := bd_some hF
      refine s_callS (d' := d - 1) (args := [.inr (.inl a1), .inr (.inl 0), .inr (.inl (m_wl ((o2 64 57) - 1)))]) hG (by omega) dX12_ring_43 cs_RX12_179 cw_X12_in rfl (Nat.le_of_ble_eq_true rfl) rfl (t_X12_in hsk (by omega) ho3) ?_
      refine s_if_eq hG 58 dX12_ring_46 (by decide) (fun c5 => ?_) (fun c5 => ?_)
      · replace hF := Eq.trans (if_pos c5).symm hF
        refine s_iconst hG dX12_ring_58 ⟨by decide, by decide⟩ ?_
        refine m_weak (ls1 := [none, none]) hG trivial ?_
        exact t_X12_ring_j59 hsk hd hG hE hF
      · replace hF := Eq.trans (if_neg c5).symm hF
        refine s_aload_n hG dX12_ring_49 rfl ?_
        refine s_getr (r := 96) hG dX12_ring_50 fl_RX12_139 (sk_k hsk 64 rfl) rfl (sk_R hsk 64 58 rfl) ?_
        refine s_iload_n hG dX12_ring_53 rfl ?_
        obtain ⟨g4, hF⟩ := gd_some hF
        refine s_ialdj (j := a1.toNat) hG dX12_ring_54 (sk_K hsk 96 rfl) g4 rfl ?_
        refine s_goto hG 59 dX12_ring_55 (by decide) ?_
        refine m_weak (ls1 := [none, none]) hG trivial ?_
        exact t_X12_ring_j59 hsk hd hG hE hF
-- X12_road
theorem t_X12_road_j35 {d n0 s0 nF sF : Nat} {X : MX} {Ω : Nat → MS → Prop} {N : NN} (hsk : m_Sk X) (hd : 3 ≤ d) (hG : m_G d yX12_road.cls yX12_road.name cX12_road 7 n0 s0 nF sF Ω) {out : (Int × NN)} (hE : m_Gd d yX12_road cX12_road 7 (some .int) X (some (.inl out.1)) out.2 X Ω) (hF : f_X12_road_j35 X N = some out) : Ω 35 ([some (.inr (.inr 64)), none, none, none, none, none, none], [], N, X) := by
  unfold f_X12_road_j35 at hF
  refine s_aload_n hG dX12_road_35 rfl ?_
  refine s_iconst hG dX12_road_36 ⟨by decide, by decide⟩ ?_
  obtain ⟨o23, ho23, hF⟩ := bd_some hF
  refine s_callV (d' := d - 1) (ci := 12) (args := [.inl (-1)]) hG (by omega) dX12_road_37 cv_RX12_175 cw_X12_tell rfl rfl (sk_k hsk 64 rfl) (Nat.le_of_ble_eq_true rfl) rfl (t_X12_tell hsk (by omega) ho23) ?_
  cases hF
  exact s_iret hE dX12_road_40 rfl
theorem t_X12_road_j57 {d n0 s0 nF sF : Nat} {X : MX} {Ω : Nat → MS → Prop} {N : NN} (hsk : m_Sk X) (hd : 3 ≤ d) (hG : m_G d yX12_road.cls yX12_road.name cX12_road 7 n0 s0 nF sF Ω) {out : (Int × NN)} (hE : m_Gd d yX12_road cX12_road 7 (some .int) X (some (.inl out.1)) out.2 X Ω) (hF : f_X12_road_j57 X N = some out) : Ω 57 ([some (.inr (.inr 64)), none, none, none, none, none, none], [], N, X) := by
  unfold f_X12_road_j57 at hF
  refine s_aload_n hG dX12_road_57 rfl ?_
  refine s_bipush hG dX12_road_58 bp_m2 ⟨by decide, by decide⟩ ?_
  obtain ⟨o24, ho24, hF⟩ := bd_some hF
  refine s_callV (d' := d - 1) (ci := 12) (args := [.inl (-2)]) hG (by omega) dX12_road_60 cv_RX12_175 cw_X12_tell rfl rfl (sk_k hsk 64 rfl) (Nat.le_of_ble_eq_true rfl) rfl (t_X12_tell hsk (by omega) ho24) ?_
  cases hF
  exact s_iret hE dX12_road_63 rfl
theorem t_X12_road {d : Nat} {X : MX} {N : NN} {a1 : Int} {a2 : Int} {a3 : Int} {a4 : Int} {out : (Int × NN)} (hsk : m_Sk X) (hd : 3 ≤ d) (hF : f_X12_road X N a1 a2 a3 a4 = some out) : m_Call d yX12_road cX12_road 7 (some .int) [(.inr (.inr 64)), (.inl a1), (.inl a2), (.inl a3), (.inl a4)] N X (some (.inl out.1)) out.2 X := by
  refine m_mk (ls0 := [some (.inr (.inr 64)), some (.inl a1), some (.inl a2), some (.inl a3), some (.inl a4), none, none]) (by decide) rfl (Nat.le_of_ble_eq_true rfl) (Nat.le_refl _) (Nat.le_refl _) (fun Ω hE => ?_)
  have hG := hE.G
  unfold f_X12_road at hF
  refine s_aload_n hG dX12_road_0 rfl ?_
  refine s_iconst hG dX12_road_1 ⟨by decide, by decide⟩ ?_
  refine s_puti hG dX12_road_2 fl_RX12_166 (fun h => by cases h) (sk_k hsk 64 rfl) rfl ?_
  let N1 : NN := m_up N 64 0 0
  refine s_iload_n hG dX12_road_5 rfl ?_
  refine s_iload_n hG dX12_road_6 rfl ?_
  refine s_icmp_eq hG 35 dX12_road_7 (by decide) (fun c22 => ?_) (fun c22 => ?_)
  · replace hF := Eq.trans (if_pos c22).symm hF
    refine m_weak (ls1 := [some (.inr (.inr 64)), none, none, none, none, none, none]) hG ⟨rfl, trivial⟩ ?_
    exact t_X12_road_j35 hsk hd hG hE hF
  · replace hF := Eq.trans (if_neg c22).symm hF
    refine s_iload_n hG dX12_road_10 rfl ?_
    refine s_i2l hG dX12_road_11 ?_
    refine s_lconst (v := 1) hG dX12_road_12 rfl ⟨by decide, by decide⟩ ?_
    refine s_ldc2 hG dX12_road_13 kc_RX12_525 ⟨by decide, by decide⟩ ?_
    obtain ⟨o2, ho2, hF⟩ := bd_some hF
    refine s_callS (d' := d - 1) (args := [.inr (.inl a3), .inr (.inl 1), .inr (.inl 30)]) hG (by omega) dX12_road_16 cs_RX12_179 cw_X12_in rfl (Nat.le_of_ble_eq_true rfl) rfl (t_X12_in hsk (by omega) ho2) ?_
    refine s_if_eq hG 35 dX12_road_19 (by decide) (fun c21 => ?_) (fun c21 => ?_)
    · replace hF := Eq.trans (if_pos c21).symm hF
      refine m_weak (ls1 := [some (.inr (.inr 64)), none, none, none, none, none, none]) hG ⟨rfl, trivial⟩ ?_
      exact t_X12_road_j35 hsk hd hG hE hF
    · replace hF := Eq.trans (if_neg c21).symm hF
      refine s_iload hG dX12_road_22 rfl ?_
      refine s_i2l hG dX12_road_24 ?_
      refine s_lconst (v := 0) hG dX12_road_25 rfl ⟨by decide, by decide⟩ ?_
      refine s_ldc2 hG dX12_road_26 kc_RX12_280 ⟨by decide, by decide⟩ ?_
      obtain ⟨o3, ho3, hF⟩ := bd_some hF
      refine s_callS (d' := d - 1) (args := [.inr (.inl a4), .inr (.inl 0), .inr (.inl 10)]) hG (by omega) dX12_road_29 cs_RX12_179 cw_X12_in rfl (Nat.le_of_ble_eq_true rfl) rfl (t_X12_in hsk (by omega) ho3) ?_
      refine s_if_ne hG 41 dX12_road_32 (by decide) (fun c20 => ?_) (fun c20 => ?_)
      · replace hF := Eq.trans (if_pos c20).symm hF
        refine m_weak (ls1 := [some (.inr (.inr 64)), none, none, none, none, none, none]) hG ⟨rfl, trivial⟩ ?_
        exact t_X12_road_j35 hsk hd hG hE hF
      · replace hF := Eq.trans (if_neg c20).symm hF
        refine s_aload_n hG dX12_road_41 rfl ?_
        refine s_iload_n hG dX12_road_42 rfl ?_
        obtain ⟨o4, ho4, hF⟩ := bd_some hF
        refine s_callV (d' := d - 1) (ci := 12) (args := [.inl a1]) hG (by omega) dX12_road_43 cv_RX12_198 cw_X12_isLord rfl rfl (sk_k hsk 64 rfl) (Nat.le_of_ble_eq_true rfl) rfl (t_X12_isLord hsk (by omega) ho4) ?_
        refine s_if_eq hG 57 dX12_road_46 (by decide) (fun c19 => ?_) (fun c19 => ?_)
        · replace hF := Eq.trans (if_pos c19).symm hF
          refine m_weak (ls1 := [some (.inr (.inr 64)), none, none, none, none, none, none]) hG ⟨rfl, trivial⟩ ?_
          exact t_X12_road_j57 hsk hd hG hE hF
        · replace hF := Eq.trans (if_neg c19).symm hF
          refine s_aload_n hG dX12_road_49 rfl ?_
          refine s_iload_n hG dX12_road_50 rfl ?_
          obtain ⟨o5, ho5, hF⟩ := bd_some hF
          refine s_callV (d' := d - 1) (ci := 12) (args := [.inl a2]) hG (by omega) dX12_road_51 cv_RX12_198 cw_X12_isLord rfl rfl (sk_k hsk 64 rfl) (Nat.le_of_ble_eq_true rfl) rfl (t_X12_isLord hsk (by omega) ho5) ?_
          refine s_if_ne hG 64 dX12_road_54 (by decide) (fun c18 => ?_) (fun c18 => ?_)
          · replace hF := Eq.trans (if_pos c18).symm hF
            refine m_weak (ls1 := [some (.inr (.inr 64)), none, none, none, none, none, none]) hG ⟨rfl, trivial⟩ ?_
            exact t_X12_road_j57 hsk hd hG hE hF
          · replace hF := Eq.trans (if_neg c18).symm hF
            refine s_aload_n hG dX12_road_64 rfl ?_
            refine s_getr (r := 66) hG dX12_road_65 fl_RX12_13 (sk_k hsk 64 rfl) rfl (sk_R hsk 64 3 rfl) ?_
            refine s_iconst hG dX12_road_68 ⟨by decide, by decide⟩ ?_
            refine s_ialdj (j := 3) hG dX12_road_69 (sk_K hsk 66 rfl) ⟨by decide, by decide⟩ rfl ?_
            refine s_istore hG dX12_road_70 (by decide) rfl ?_
            refine s_iload hG dX12_road_72 rfl ?_
            refine s_bipush hG dX12_road_74 bp_12 ⟨by decide, by decide⟩ ?_
            refine s_icmp_ne hG 86 dX12_road_76 (by decide) (fun c17 => ?_) (fun c17 => ?_)
            · replace hF := Eq.trans (if_pos c17).symm hF
              refine s_aload_n hG dX12_road_79 rfl ?_
              refine s_bipush hG dX12_road_80 bp_m5 ⟨by decide, by decide⟩ ?_
              obtain ⟨o6, ho6, hF⟩ := bd_some hF
              refine s_callV (d' := d - 1) (ci := 12) (args := [.inl (-5)]) hG (by omega) dX12_road_82 cv_RX12_175 cw_X12_tell rfl rfl (sk_k hsk 64 rfl) (Nat.le_of_ble_eq_true rfl) rfl (t_X12_tell hsk (by omega) ho6) ?_
              cases hF
              exact s_iret hE dX12_road_85 rfl
            · replace hF := Eq.trans (if_neg c17).symm hF
              refine s_sipush hG dX12_road_86 sp_218 ⟨by decide, by decide⟩ ?_
              refine s_iconst hG dX12_road_89 ⟨by decide, by decide⟩ ?_
              refine s_iload hG dX12_road_90 rfl ?_
              refine s_imul hG dX12_road_92 ?_
              refine s_iadd hG dX12_road_93 ?_
              refine s_istore hG dX12_road_94 (by decide) rfl ?_
              refine s_aload_n hG dX12_road_96 rfl ?_
              refine s_getr (r := 66) hG dX12_road_97 fl_RX12_13 (sk_k hsk 64 rfl) rfl (sk_R hsk 64 3 rfl) ?_
              refine s_iload hG dX12_road_100 rfl ?_
              refine s_iload_n hG dX12_road_102 rfl ?_
              obtain ⟨g7, hF⟩ := gd_some hF
              refine s_iastj (j := (m_w (218 + (m_w (4 * (N1 66 3))))).toNat) hG dX12_road_103 (sk_K hsk 66 rfl) g7 rfl ?_
              refine s_aload_n hG dX12_road_104 rfl ?_
              refine s_getr (r := 66) hG dX12_road_105 fl_RX12_13 (sk_k hsk 64 rfl) rfl (sk_R hsk 64 3 rfl) ?_
              refine s_iload hG dX12_road_108 rfl ?_
              refine s_iconst hG dX12_road_110 ⟨by decide, by decide⟩ ?_
              refine s_iadd hG dX12_road_111 ?_
              refine s_iload_n hG dX12_road_112 rfl ?_
              obtain ⟨g9, hF⟩ := gd_some hF
              refine s_iastj (j := (m_w ((m_w (218 + (m_w (4 * (N1 66 3))))) + 1)).toNat) hG dX12_road_113 (sk_K hsk 66 rfl) g9 rfl ?_
              refine s_aload_n hG dX12_road_114 rfl ?_
              refine s_getr (r := 66) hG dX12_road_115 fl_RX12_13 (sk_k hsk 64 rfl) rfl (sk_R hsk 64 3 rfl) ?_
              refine s_iload hG dX12_road_118 rfl ?_
              refine s_iconst hG dX12_road_120 ⟨by decide, by decide⟩ ?_
              refine s_iadd hG dX12_road_121 ?_
              refine s_iload_n hG dX12_road_122 rfl ?_
              obtain ⟨g11, hF⟩ := gd_some hF
              refine s_iastj (j := (m_w ((m_w (218 + (m_w (4 * (N1 66 3))))) + 2)).toNat) hG dX12_road_123 (sk_K hsk 66 rfl) g11 rfl ?_
              refine s_aload_n hG dX12_road_124 rfl ?_
              refine s_getr (r := 66) hG dX12_road_125 fl_RX12_13 (sk_k hsk 64 rfl) rfl (sk_R hsk 64 3 rfl) ?_
              refine s_iload hG dX12_road_128 rfl ?_
              refine s_iconst hG dX12_road_130 ⟨by decide, by decide⟩ ?_
              refine s_iadd hG dX12_road_131 ?_
              refine s_iload hG dX12_road_132 rfl ?_
              obtain ⟨g13, hF⟩ := gd_some hF
              refine s_iastj (j := (m_w ((m_w (218 + (m_w (4 * (N1 66 3))))) + 3)).toNat) hG dX12_road_134 (sk_K hsk 66 rfl) g13 rfl ?_
              refine s_aload_n hG dX12_road_135 rfl ?_
              refine s_getr (r := 66) hG dX12_road_136 fl_RX12_13 (sk_k hsk 64 rfl) rfl (sk_R hsk 64 3 rfl) ?_
              refine s_iconst hG dX12_road_139 ⟨by decide, by decide⟩ ?_
              refine s_dup2 hG dX12_road_140 rfl rfl ?_
              refine s_ialdj (j := 3) hG dX12_road_141 (sk_K hsk 66 rfl) ⟨by decide, by decide⟩ rfl ?_
              refine s_iconst hG dX12_road_142 ⟨by decide, by decide⟩ ?_
              refine s_iadd hG dX12_road_143 ?_
              refine s_iastj (j := 3) hG dX12_road_144 (sk_K hsk 66 rfl) ⟨by decide, by decide⟩ rfl ?_
              refine s_aload_n hG dX12_road_145 rfl ?_
              refine s_iload hG dX12_road_146 rfl ?_
              obtain ⟨o16, ho16, hF⟩ := bd_some hF
              refine s_callV (d' := d - 1) (ci := 12) (args := [.inl (N1 66 3)]) hG (by omega) dX12_road_148 cv_RX12_175 cw_X12_tell rfl rfl (sk_k hsk 64 rfl) (Nat.le_of_ble_eq_true rfl) rfl (t_X12_tell hsk (by omega) ho16) ?_
              cases hF
              exact s_iret hE dX12_road_151 rfl
-- X12_row
theorem t_X12_row_l35_j92 {d n0 s0 nF sF : Nat} {X : MX} {Ω : Nat → MS → Prop} {N : NN} {a1 : Int} {a2 : Int} {a3 : Int} (hsk : m_Sk X) (hd : 4 ≤ d) (hG : m_G d yX12_row.cls yX12_row.name cX12_row 4 n0 s0 nF sF Ω) {out : ((NN × Int × Int × Int) ⊕ (NN × Int))} (hK0 : ∀ s' : (NN × Int × Int × Int), out = .inl s' → Ω 35 ([some (.inr (.inr 64)), some (.inl (s'.2.1)), some (.inl (s'.2.2.1)), some (.inl (s'.2.2.2))], [], s'.1, X)) (hK1 : ∀ t : (NN × Int), out = .inr t → Ω 98 ([some (.inr (.inr 64)), none, some (.inl t.2), none], [], t.1, X)) (hF : f_X12_row_l35_j92 X N a1 a2 a3 = some out) : Ω 92 ([some (.inr (.inr 64)), some (.inl a1), some (.inl a2), some (.inl a3)], [], N, X) := by
  unfold f_X12_row_l35_j92 at hF
  refine s_iinc hG dX12_row_92 (by decide) rfl rfl ?_
  refine s_goto hG 35 dX12_row_95 (by decide) ?_
  cases hF
  exact hK0 _ rfl
theorem t_X12_row_l35_j82 {d n0 s0 nF sF : Nat} {X : MX} {Ω : Nat → MS → Prop} {N : NN} {a1 : Int} {a2 : Int} {a3 : Int} (hsk : m_Sk X) (hd : 4 ≤ d) (hG : m_G d yX12_row.cls yX12_row.name cX12_row 4 n0 s0 nF sF Ω) {out : ((NN × Int × Int × Int) ⊕ (NN × Int))} (hK0 : ∀ s' : (NN × Int × Int × Int), out = .inl s' → Ω 35 ([some (.inr (.inr 64)), some (.inl (s'.2.1)), some (.inl (s'.2.2.1)), some (.inl (s'.2.2.2))], [], s'.1, X)) (hK1 : ∀ t : (NN × Int), out = .inr t → Ω 98 ([some (.inr (.inr 64)), none, some (.inl t.2), none], [], t.1, X)) (hF : f_X12_row_l35_j82 X N a1 a2 a3 = some out) : Ω 82 ([some (.inr (.inr 64)), some (.inl a1), some (.inl a2), some (.inl a3)], [], N, X) := by
  unfold f_X12_row_l35_j82 at hF
  refine s_aload_n hG dX12_row_82 rfl ?_
  refine s_dup hG dX12_row_83 rfl ?_
  refine s_geti hG dX12_row_84 fl_RX12_239 (sk_k hsk 64 rfl) rfl ?_
  refine s_iconst hG dX12_row_87 ⟨by decide, by decide⟩ ?_
  refine s_iadd hG dX12_row_88 ?_
  refine s_puti hG dX12_row_89 fl_RX12_239 (fun h => by cases h) (sk_k hsk 64 rfl) rfl ?_
  exact t_X12_row_l35_j92 hsk hd hG hK0 hK1 hF
theorem t_X12_row_b35 {d n0 s0 nF sF : Nat} {X : MX} {Ω : Nat → MS → Prop} {N : NN} {a1 : Int} {a2 : Int} {a3 : Int} (hsk : m_Sk X) (hd : 4 ≤ d) (hG : m_G d yX12_row.cls yX12_row.name cX12_row 4 n0 s0 nF sF Ω) {out : ((NN × Int × Int × Int) ⊕ (NN × Int))} (hK0 : ∀ s' : (NN × Int × Int × Int), out = .inl s' → Ω 35 ([some (.inr (.inr 64)), some (.inl (s'.2.1)), some (.inl (s'.2.2.1)), some (.inl (s'.2.2.2))], [], s'.1, X)) (hK1 : ∀ t : (NN × Int), out = .inr t → Ω 98 ([some (.inr (.inr 64)), none, some (.inl t.2), none], [], t.1, X)) (hF : b_X12_row_35 X N a1 a2 a3 = some out) : Ω 35 ([some (.inr (.inr 64)), some (.inl a1), some (.inl a2), some (.inl a3)], [], N, X) := by
  unfold b_X12_row_35 at hF
  refine s_iload_n hG dX12_row_35 rfl ?_
  refine s_iload_n hG dX12_row_36 rfl ?_
  refine s_icmp_ge hG 98 dX12_row_37 (by decide) (fun c11 => ?_) (fun c11 => ?_)
  · replace hF := Eq.trans (if_pos c11).symm hF
    refine s_iload_n hG dX12_row_40 rfl ?_
    refine s_iconst hG dX12_row_41 ⟨by decide, by decide⟩ ?_
    refine s_iadd hG dX12_row_42 ?_
    refine s_iload_n hG dX12_row_43 rfl ?_
    refine s_icmp_ge hG 82 dX12_row_44 (by decide) (fun c10 => ?_) (fun c10 => ?_)
    · replace hF := Eq.trans (if_pos c10).symm hF
      refine s_aload_n hG dX12_row_47 rfl ?_
      refine s_aload_n hG dX12_row_48 rfl ?_
      refine s_getr (r := 73) hG dX12_row_49 fl_RX12_35 (sk_k hsk 64 rfl) rfl (sk_R hsk 64 12 rfl) ?_
      refine s_iload_n hG dX12_row_52 rfl ?_
      obtain ⟨g5, hF⟩ := gd_some hF
      refine s_ialdj (j := a3.toNat) hG dX12_row_53 (sk_K hsk 73 rfl) g5 rfl ?_
      refine s_aload_n hG dX12_row_54 rfl ?_
      refine s_getr (r := 73) hG dX12_row_55 fl_RX12_35 (sk_k hsk 64 rfl) rfl (sk_R hsk 64 12 rfl) ?_
      refine s_iload_n hG dX12_row_58 rfl ?_
      refine s_iconst hG dX12_row_59 ⟨by decide, by decide⟩ ?_
      refine s_iadd hG dX12_row_60 ?_
      obtain ⟨g6, hF⟩ := gd_some hF
      refine s_ialdj (j := (m_w (a3 + 1)).toNat) hG dX12_row_61 (sk_K hsk 73 rfl) g6 rfl ?_
      refine s_aload_n hG dX12_row_62 rfl ?_
      refine s_getr (r := 73) hG dX12_row_63 fl_RX12_35 (sk_k hsk 64 rfl) rfl (sk_R hsk 64 12 rfl) ?_
      refine s_iload_n hG dX12_row_66 rfl ?_
      refine s_iconst hG dX12_row_67 ⟨by decide, by decide⟩ ?_
      refine s_iadd hG dX12_row_68 ?_
      obtain ⟨g7, hF⟩ := gd_some hF
      refine s_ialdj (j := (m_w (a3 + 2)).toNat) hG dX12_row_69 (sk_K hsk 73 rfl) g7 rfl ?_
      obtain ⟨o8, ho8, hF⟩ := bd_some hF
      refine s_callV (d' := d - 1) (ci := 12) (args := [.inl (N 73 a3.toNat), .inl (N 73 ((m_w (a3 + 1)).toNat)), .inl (N 73 ((m_w (a3 + 2)).toNat))]) hG (by omega) dX12_row_70 cv_RX12_222 cw_X12_good1 rfl rfl (sk_k hsk 64 rfl) (Nat.le_of_ble_eq_true rfl) rfl (t_X12_good1 hsk (by omega) ho8) ?_
      refine s_if_lt hG 82 dX12_row_73 (by decide) (fun c9 => ?_) (fun c9 => ?_)
      · replace hF := Eq.trans (if_pos c9).symm hF
        exact t_X12_row_l35_j82 hsk hd hG hK0 hK1 hF
      · replace hF := Eq.trans (if_neg c9).symm hF
        refine s_iinc hG dX12_row_76 (by decide) rfl rfl ?_
        refine s_goto hG 92 dX12_row_79 (by decide) ?_
        exact t_X12_row_l35_j92 hsk hd hG hK0 hK1 hF
    · replace hF := Eq.trans (if_neg c10).symm hF
      exact t_X12_row_l35_j82 hsk hd hG hK0 hK1 hF
  · replace hF := Eq.trans (if_neg c11).symm hF
    cases hF
    refine m_weak (ls1 := [some (.inr (.inr 64)), none, some (.inl a2), none]) hG ⟨rfl, ⟨rfl, trivial⟩⟩ ?_
    exact hK1 _ rfl
theorem t_X12_row_lp35 {d n0 s0 nF sF : Nat} {X : MX} {Ω : Nat → MS → Prop} {N : NN} {a1 : Int} {a2 : Int} {a3 : Int} (hsk : m_Sk X) (hd : 4 ≤ d) (hG : m_G d yX12_row.cls yX12_row.name cX12_row 4 n0 s0 nF sF Ω) {t : (NN × Int)} (hK1 : Ω 98 ([some (.inr (.inr 64)), none, some (.inl t.2), none], [], t.1, X)) (hl : lp (fun s => b_X12_row_35 X s.1 s.2.1 s.2.2.1 s.2.2.2) (N, a1, a2, a3) = some t) : Ω 35 ([some (.inr (.inr 64)), some (.inl a1), some (.inl a2), some (.inl a3)], [], N, X) := by
  refine lp_ok (P := fun s => Ω 35 ([some (.inr (.inr 64)), some (.inl s.2.1), some (.inl s.2.2.1), some (.inl s.2.2.2)], [], s.1, X)) (K := fun t => Ω 98 ([some (.inr (.inr 64)), none, some (.inl t.2), none], [], t.1, X)) (fun s out hF hK0 hK1 => ?_) hl hK1
  exact t_X12_row_b35 hsk hd hG (out := out) (fun s' e => hK0 s' e) (fun t' e => hK1 t' e) hF
theorem t_X12_row {d : Nat} {X : MX} {N : NN} {out : (Int × NN)} (hsk : m_Sk X) (hd : 4 ≤ d) (hF : f_X12_row X N = some out) : m_Call d yX12_row cX12_row 4 (some .int) [(.inr (.inr 64))] N X (some (.inl out.1)) out.2 X := by
  refine m_mk (ls0 := [some (.inr (.inr 64)), none, none, none]) (by decide) rfl (Nat.le_of_ble_eq_true rfl) (Nat.le_refl _) (Nat.le_refl _) (fun Ω hE => ?_)
  have hG := hE.G
  unfold f_X12_row at hF
  refine s_aload_n hG dX12_row_0 rfl ?_
  refine s_iconst hG dX12_row_1 ⟨by decide, by decide⟩ ?_
  refine s_puti hG dX12_row_2 fl_RX12_166 (fun h => by cases h) (sk_k hsk 64 rfl) rfl ?_
  refine s_aload_n hG dX12_row_5 rfl ?_
  refine s_geti hG dX12_row_6 fl_RX12_236 (sk_k hsk 64 rfl) rfl ?_
  refine s_istore_n hG dX12_row_9 (by decide) rfl ?_
  refine s_aload_n hG dX12_row_10 rfl ?_
  refine s_iconst hG dX12_row_11 ⟨by decide, by decide⟩ ?_
  refine s_puti hG dX12_row_12 fl_RX12_236 (fun h => by cases h) (sk_k hsk 64 rfl) rfl ?_
  refine s_iload_n hG dX12_row_15 rfl ?_
  refine s_if_ne hG 26 dX12_row_16 (by decide) (fun c15 => ?_) (fun c15 => ?_)
  · replace hF := Eq.trans (if_pos c15).symm hF
    refine s_aload_n hG dX12_row_19 rfl ?_
    refine s_bipush hG dX12_row_20 bp_m6 ⟨by decide, by decide⟩ ?_
    obtain ⟨o3, ho3, hF⟩ := bd_some hF
    refine s_callV (d' := d - 1) (ci := 12) (args := [.inl (-6)]) hG (by omega) dX12_row_22 cv_RX12_175 cw_X12_tell rfl rfl (sk_k hsk 64 rfl) (Nat.le_of_ble_eq_true rfl) rfl (t_X12_tell hsk (by omega) ho3) ?_
    cases hF
    exact s_iret hE dX12_row_25 rfl
  · replace hF := Eq.trans (if_neg c15).symm hF
    refine s_aload_n hG dX12_row_26 rfl ?_
    refine s_iconst hG dX12_row_27 ⟨by decide, by decide⟩ ?_
    refine s_puti hG dX12_row_28 fl_RX12_239 (fun h => by cases h) (sk_k hsk 64 rfl) rfl ?_
    refine s_iconst hG dX12_row_31 ⟨by decide, by decide⟩ ?_
    refine s_istore_n hG dX12_row_32 (by decide) rfl ?_
    refine s_iconst hG dX12_row_33 ⟨by decide, by decide⟩ ?_
    refine s_istore_n hG dX12_row_34 (by decide) rfl ?_
    obtain ⟨o13, hlo13, hF⟩ := bd_some hF
    refine t_X12_row_lp35 hsk hd hG ?_ hlo13
    refine s_aload_n hG dX12_row_98 rfl ?_
    refine s_iload_n hG dX12_row_99 rfl ?_
    obtain ⟨o14, ho14, hF⟩ := bd_some hF
    refine s_callV (d' := d - 1) (ci := 12) (args := [.inl o13.2]) hG (by omega) dX12_row_100 cv_RX12_183 cw_X12_settled rfl rfl (sk_k hsk 64 rfl) (Nat.le_of_ble_eq_true rfl) rfl (t_X12_settled hsk (by omega) ho14) ?_
    cases hF
    exact s_iret hE dX12_row_103 rfl
-- X12_ruinedIn
theorem t_X12_ruinedIn_l29_j73 {d n0 s0 nF sF : Nat} {X : MX} {N : NN} {Ω : Nat → MS → Prop} {a1 : Int} {a2 : Int} {a3 : Int} {a4 : Int} {a5 : Int} {a7 : Int} {z0 : Int} {z1 : Int} (hsk : m_Sk X) (hd : 2 ≤ d) (hG : m_G d yX12_ruinedIn.cls yX12_ruinedIn.name cX12_ruinedIn 8 n0 s0 nF sF Ω) {out : ((Int × Int × Int × Int × Int × Int × Int) ⊕ (Int × Int × Int × Int × Int × Int))} (hK0 : ∀ s' : (Int × Int × Int × Int × Int × Int × Int), out = .inl s' → Ω 29 ([some (.inr (.inr 64)), some (.inl (s'.1)), some (.inl (s'.2.1)), some (.inl (s'.2.2.1)), some (.inl (s'.2.2.2.1)), some (.inl (s'.2.2.2.2.1)), some (.inl (s'.2.2.2.2.2.1)), some (.inl (s'.2.2.2.2.2.2))], [], N, X)) (hK1 : ∀ t : (Int × Int × Int × Int × Int × Int), out = .inr t → Ω 82 ([some (.inr (.inr 64)), some (.inl t.1), some (.inl t.2.1), some (.inl t.2.2.1), some (.inl t.2.2.2.1), some (.inl t.2.2.2.2.1), some (.inl t.2.2.2.2.2), none], [], N, X)) (hF : f_X12_ruinedIn_l29_j73 X N a1 a2 a3 a4 a5 a7 z0 z1 = some out) : Ω 73 ([some (.inr (.inr 64)), some (.inl a1), some (.inl a2), some (.inl a3), some (.inl a4), some (.inl a5), none, some (.inl a7)], [(.inl z1), (.inl z0)], N, X) := by
  unfold f_X12_ruinedIn_l29_j73 at hF
  refine s_iadd hG dX12_ruinedIn_73 ?_
  refine s_istore hG dX12_ruinedIn_74 (by decide) rfl ?_
  refine s_iinc hG dX12_ruinedIn_76 (by decide) rfl rfl ?_
  refine s_goto hG 29 dX12_ruinedIn_79 (by decide) ?_
  cases hF
  exact hK0 _ rfl
theorem t_X12_ruinedIn_b29 {d n0 s0 nF sF : Nat} {X : MX} {N : NN} {Ω : Nat → MS → Prop} {a1 : Int} {a2 : Int} {a3 : Int} {a4 : Int} {a5 : Int} {a6 : Int} {a7 : Int} (hsk : m_Sk X) (hd : 2 ≤ d) (hG : m_G d yX12_ruinedIn.cls yX12_ruinedIn.name cX12_ruinedIn 8 n0 s0 nF sF Ω) {out : ((Int × Int × Int × Int × Int × Int × Int) ⊕ (Int × Int × Int × Int × Int × Int))} (hK0 : ∀ s' : (Int × Int × Int × Int × Int × Int × Int), out = .inl s' → Ω 29 ([some (.inr (.inr 64)), some (.inl (s'.1)), some (.inl (s'.2.1)), some (.inl (s'.2.2.1)), some (.inl (s'.2.2.2.1)), some (.inl (s'.2.2.2.2.1)), some (.inl (s'.2.2.2.2.2.1)), some (.inl (s'.2.2.2.2.2.2))], [], N, X)) (hK1 : ∀ t : (Int × Int × Int × Int × Int × Int), out = .inr t → Ω 82 ([some (.inr (.inr 64)), some (.inl t.1), some (.inl t.2.1), some (.inl t.2.2.1), some (.inl t.2.2.2.1), some (.inl t.2.2.2.2.1), some (.inl t.2.2.2.2.2), none], [], N, X)) (hF : b_X12_ruinedIn_29 X N a1 a2 a3 a4 a5 a6 a7 = some out) : Ω 29 ([some (.inr (.inr 64)), some (.inl a1), some (.inl a2), some (.inl a3), some (.inl a4), some (.inl a5), some (.inl a6), some (.inl a7)], [], N, X) := by
  unfold b_X12_ruinedIn_29 at hF
  refine s_iload hG dX12_ruinedIn_29 rfl ?_
  refine s_bipush hG dX12_ruinedIn_31 bp_10 ⟨by decide, by decide⟩ ?_
  refine s_icmp_ge hG 82 dX12_ruinedIn_33 (by decide) (fun c7 => ?_) (fun c7 => ?_)
  · replace hF := Eq.trans (if_pos c7).symm hF
    refine s_iload hG dX12_ruinedIn_36 rfl ?_
    refine s_bipush hG dX12_ruinedIn_38 bp_10 ⟨by decide, by decide⟩ ?_
    refine s_icmp_ge hG 82 dX12_ruinedIn_40 (by decide) (fun c6 => ?_) (fun c6 => ?_)
    · replace hF := Eq.trans (if_pos c6).symm hF
      refine s_iload hG dX12_ruinedIn_43 rfl ?_
      refine s_iload_n hG dX12_ruinedIn_45 rfl ?_
      refine s_iload hG dX12_ruinedIn_46 rfl ?_
      obtain ⟨o3, ho3, hF⟩ := bd_some hF
      refine s_callS (d' := d - 1) (args := [.inl a3, .inl a7]) hG (by omega) dX12_ruinedIn_48 cs_RX12_458 cw_X12_is rfl (Nat.le_of_ble_eq_true rfl) rfl (t_X12_is hsk (by omega) ho3) ?_
      refine s_if_eq hG 72 dX12_ruinedIn_51 (by decide) (fun c5 => ?_) (fun c5 => ?_)
      · replace hF := Eq.trans (if_pos c5).symm hF
        refine s_iconst hG dX12_ruinedIn_72 ⟨by decide, by decide⟩ ?_
        refine m_weak (ls1 := [some (.inr (.inr 64)), some (.inl a1), some (.inl a2), some (.inl a3), some (.inl a4), some (.inl a5), none, some (.inl a7)]) hG ⟨rfl, ⟨rfl, ⟨rfl, ⟨rfl, ⟨rfl, ⟨rfl, ⟨rfl, trivial⟩⟩⟩⟩⟩⟩⟩ ?_
        exact t_X12_ruinedIn_l29_j73 hsk hd hG hK0 hK1 hF
      · replace hF := Eq.trans (if_neg c5).symm hF
        refine s_aload_n hG dX12_ruinedIn_54 rfl ?_
        refine s_getr (r := 91) hG dX12_ruinedIn_55 fl_RX12_124 (sk_k hsk 64 rfl) rfl (sk_R hsk 64 48 rfl) ?_
        refine s_bipush hG dX12_ruinedIn_58 bp_9 ⟨by decide, by decide⟩ ?_
        refine s_iload hG dX12_ruinedIn_60 rfl ?_
        refine s_imul hG dX12_ruinedIn_62 ?_
        refine s_iload hG dX12_ruinedIn_63 rfl ?_
        refine s_iadd hG dX12_ruinedIn_65 ?_
        refine s_iconst hG dX12_ruinedIn_66 ⟨by decide, by decide⟩ ?_
        refine s_isub hG dX12_ruinedIn_67 ?_
        obtain ⟨g4, hF⟩ := gd_some hF
        refine s_ialdj (j := (m_w ((m_w ((m_w (9 * a7)) + a5)) - 1)).toNat) hG dX12_ruinedIn_68 (sk_K hsk 91 rfl) g4 rfl ?_
        refine s_goto hG 73 dX12_ruinedIn_69 (by decide) ?_
        refine m_weak (ls1 := [some (.inr (.inr 64)), some (.inl a1), some (.inl a2), some (.inl a3), some (.inl a4), some (.inl a5), none, some (.inl a7)]) hG ⟨rfl, ⟨rfl, ⟨rfl, ⟨rfl, ⟨rfl, ⟨rfl, ⟨rfl, trivial⟩⟩⟩⟩⟩⟩⟩ ?_
        exact t_X12_ruinedIn_l29_j73 hsk hd hG hK0 hK1 hF
    · replace hF := Eq.trans (if_neg c6).symm hF
      cases hF
      refine m_weak (ls1 := [some (.inr (.inr 64)), some (.inl a1), some (.inl a2), some (.inl a3), some (.inl a4), some (.inl a5), some (.inl a6), none]) hG ⟨rfl, ⟨rfl, ⟨rfl, ⟨rfl, ⟨rfl, ⟨rfl, ⟨rfl, trivial⟩⟩⟩⟩⟩⟩⟩ ?_
      exact hK1 _ rfl
  · replace hF := Eq.trans (if_neg c7).symm hF
    cases hF
    refine m_weak (ls1 := [some (.inr (.inr 64)), some (.inl a1), some (.inl a2), some (.inl a3), some (.inl a4), some (.inl a5), some (.inl a6), none]) hG ⟨rfl, ⟨rfl, ⟨rfl, ⟨rfl, ⟨rfl, ⟨rfl, ⟨rfl, trivial⟩⟩⟩⟩⟩⟩⟩ ?_
    exact hK1 _ rfl
theorem t_X12_ruinedIn_lp29 {d n0 s0 nF sF : Nat} {X : MX} {N : NN} {Ω : Nat → MS → Prop} {a1 : Int} {a2 : Int} {a3 : Int} {a4 : Int} {a5 : Int} {a6 : Int} {a7 : Int} (hsk : m_Sk X) (hd : 2 ≤ d) (hG : m_G d yX12_ruinedIn.cls yX12_ruinedIn.name cX12_ruinedIn 8 n0 s0 nF sF Ω) {t : (Int × Int × Int × Int × Int × Int)} (hK1 : Ω 82 ([some (.inr (.inr 64)), some (.inl t.1), some (.inl t.2.1), some (.inl t.2.2.1), some (.inl t.2.2.2.1), some (.inl t.2.2.2.2.1), some (.inl t.2.2.2.2.2), none], [], N, X)) (hl : lp (fun s => b_X12_ruinedIn_29 X N s.1 s.2.1 s.2.2.1 s.2.2.2.1 s.2.2.2.2.1 s.2.2.2.2.2.1 s.2.2.2.2.2.2) (a1, a2, a3, a4, a5, a6, a7) = some t) : Ω 29 ([some (.inr (.inr 64)), some (.inl a1), some (.inl a2), some (.inl a3), some (.inl a4), some (.inl a5), some (.inl a6), some (.inl a7)], [], N, X) := by
  refine lp_ok (P := fun s => Ω 29 ([some (.inr (.inr 64)), some (.inl s.1), some (.inl s.2.1), some (.inl s.2.2.1), some (.inl s.2.2.2.1), some (.inl s.2.2.2.2.1), some (.inl s.2.2.2.2.2.1), some (.inl s.2.2.2.2.2.2)], [], N, X)) (K := fun t => Ω 82 ([some (.inr (.inr 64)), some (.inl t.1), some (.inl t.2.1), some (.inl t.2.2.1), some (.inl t.2.2.2.1), some (.inl t.2.2.2.2.1), some (.inl t.2.2.2.2.2), none], [], N, X)) (fun s out hF hK0 hK1 => ?_) hl hK1
  exact t_X12_ruinedIn_b29 hsk hd hG (out := out) (fun s' e => hK0 s' e) (fun t' e => hK1 t' e) hF
theorem t_X12_ruinedIn_b11 {d n0 s0 nF sF : Nat} {X : MX} {N : NN} {Ω : Nat → MS → Prop} {a1 : Int} {a2 : Int} {a3 : Int} {a4 : Int} {a5 : Int} (hsk : m_Sk X) (hd : 2 ≤ d) (hG : m_G d yX12_ruinedIn.cls yX12_ruinedIn.name cX12_ruinedIn 8 n0 s0 nF sF Ω) {out : ((Int × Int × Int × Int × Int) ⊕ (Unit ⊕ Int))} (hK0 : ∀ s' : (Int × Int × Int × Int × Int), out = .inl s' → Ω 11 ([some (.inr (.inr 64)), some (.inl (s'.1)), some (.inl (s'.2.1)), some (.inl (s'.2.2.1)), some (.inl (s'.2.2.2.1)), some (.inl (s'.2.2.2.2)), none, none], [], N, X)) (hK1 : ∀ t : (Unit ⊕ Int), out = .inr t → match t with | .inl e => Ω 118 ([none, none, none, none, none, none, none, none], [], N, X) | .inr e => Ω 109 ([none, none, none, none, none, some (.inl e), none, none], [], N, X)) (hF : b_X12_ruinedIn_11 X N a1 a2 a3 a4 a5 = some out) : Ω 11 ([some (.inr (.inr 64)), some (.inl a1), some (.inl a2), some (.inl a3), some (.inl a4), some (.inl a5), none, none], [], N, X) := by
  unfold b_X12_ruinedIn_11 at hF
  refine s_iload hG dX12_ruinedIn_11 rfl ?_
  refine s_iload_n hG dX12_ruinedIn_13 rfl ?_
  refine s_icmp_gt hG 118 dX12_ruinedIn_14 (by decide) (fun c12 => ?_) (fun c12 => ?_)
  · replace hF := Eq.trans (if_pos c12).symm hF
    cases hF
    refine m_weak (ls1 := [none, none, none, none, none, none, none, none]) hG trivial ?_
    exact hK1 _ rfl
  · replace hF := Eq.trans (if_neg c12).symm hF
    refine s_aload_n hG dX12_ruinedIn_17 rfl ?_
    refine s_getr (r := 89) hG dX12_ruinedIn_18 fl_RX12_118 (sk_k hsk 64 rfl) rfl (sk_R hsk 64 46 rfl) ?_
    refine s_iload hG dX12_ruinedIn_21 rfl ?_
    obtain ⟨g2, hF⟩ := gd_some hF
    refine s_ialdj (j := a5.toNat) hG dX12_ruinedIn_23 (sk_K hsk 89 rfl) g2 rfl ?_
    refine s_istore hG dX12_ruinedIn_24 (by decide) rfl ?_
    refine s_iconst hG dX12_ruinedIn_26 ⟨by decide, by decide⟩ ?_
    refine s_istore hG dX12_ruinedIn_27 (by decide) rfl ?_
    obtain ⟨o8, hlo8, hF⟩ := bd_some hF
    refine t_X12_ruinedIn_lp29 hsk hd hG ?_ hlo8
    refine s_iload hG dX12_ruinedIn_82 rfl ?_
    refine s_aload_n hG dX12_ruinedIn_84 rfl ?_
    refine s_iload_n hG dX12_ruinedIn_85 rfl ?_
    refine s_iconst hG dX12_ruinedIn_86 ⟨by decide, by decide⟩ ?_
    obtain ⟨o9, ho9, hF⟩ := bd_some hF
    refine s_callV (d' := d - 1) (ci := 12) (args := [.inl o8.1, .inl 1]) hG (by omega) dX12_ruinedIn_87 cv_RX12_204 cw_X12_ofLord rfl rfl (sk_k hsk 64 rfl) (Nat.le_of_ble_eq_true rfl) rfl (t_X12_ofLord hsk (by omega) ho9) ?_
    refine s_iadd hG dX12_ruinedIn_90 ?_
    refine s_i2l hG dX12_ruinedIn_91 ?_
    refine s_iconst hG dX12_ruinedIn_92 ⟨by decide, by decide⟩ ?_
    refine s_sipush hG dX12_ruinedIn_93 sp_9999 ⟨by decide, by decide⟩ ?_
    obtain ⟨o10, ho10, hF⟩ := bd_some hF
    refine s_callS (d' := d - 1) (args := [.inr (.inl (m_w (o8.2.2.2.1 + o9))), .inl 0, .inl 9999]) hG (by omega) dX12_ruinedIn_96 cs_RX12_439 cw_X12_within rfl (Nat.le_of_ble_eq_true rfl) rfl (t_X12_within hsk (by omega) ho10) ?_
    refine s_iload hG dX12_ruinedIn_99 rfl ?_
    refine s_isub hG dX12_ruinedIn_101 ?_
    refine s_istore hG dX12_ruinedIn_102 (by decide) rfl ?_
    refine s_iload hG dX12_ruinedIn_104 rfl ?_
    refine s_if_ge hG 112 dX12_ruinedIn_106 (by decide) (fun c11 => ?_) (fun c11 => ?_)
    · replace hF := Eq.trans (if_pos c11).symm hF
      cases hF
      refine m_weak (ls1 := [none, none, none, none, none, some (.inl o8.2.2.2.2.1), none, none]) hG ⟨rfl, trivial⟩ ?_
      exact hK1 _ rfl
    · replace hF := Eq.trans (if_neg c11).symm hF
      refine s_iinc hG dX12_ruinedIn_112 (by decide) rfl rfl ?_
      refine s_goto hG 11 dX12_ruinedIn_115 (by decide) ?_
      cases hF
      refine m_weak (ls1 := [some (.inr (.inr 64)), some (.inl o8.1), some (.inl o8.2.1), some (.inl o8.2.2.1), some (.inl (m_w (o10 - o8.2.2.2.2.2))), some (.inl (m_w (o8.2.2.2.2.1 + 1))), none, none]) hG ⟨rfl, ⟨rfl, ⟨rfl, ⟨rfl, ⟨rfl, ⟨rfl, trivial⟩⟩⟩⟩⟩⟩ ?_
      exact hK0 _ rfl
theorem t_X12_ruinedIn_lp11 {d n0 s0 nF sF : Nat} {X : MX} {N : NN} {Ω : Nat → MS → Prop} {a1 : Int} {a2 : Int} {a3 : Int} {a4 : Int} {a5 : Int} (hsk : m_Sk X) (hd : 2 ≤ d) (hG : m_G d yX12_ruinedIn.cls yX12_ruinedIn.name cX12_ruinedIn 8 n0 s0 nF sF Ω) {t : (Unit ⊕ Int)} (hK1 : match t with | .inl e => Ω 118 ([none, none, none, none, none, none, none, none], [], N, X) | .inr e => Ω 109 ([none, none, none, none, none, some (.inl e), none, none], [], N, X)) (hl : lp (fun s => b_X12_ruinedIn_11 X N s.1 s.2.1 s.2.2.1 s.2.2.2.1 s.2.2.2.2) (a1, a2, a3, a4, a5) = some t) : Ω 11 ([some (.inr (.inr 64)), some (.inl a1), some (.inl a2), some (.inl a3), some (.inl a4), some (.inl a5), none, none], [], N, X) := by
  refine lp_ok (P := fun s => Ω 11 ([some (.inr (.inr 64)), some (.inl s.1), some (.inl s.2.1), some (.inl s.2.2.1), some (.inl s.2.2.2.1), some (.inl s.2.2.2.2), none, none], [], N, X)) (K := fun t => match t with | .inl e => Ω 118 ([none, none, none, none, none, none, none, none], [], N, X) | .inr e => Ω 109 ([none, none, none, none, none, some (.inl e), none, none], [], N, X)) (fun s out hF hK0 hK1 => ?_) hl hK1
  exact t_X12_ruinedIn_b11 hsk hd hG (out := out) (fun s' e => hK0 s' e) (fun t' e => hK1 t' e) hF
theorem t_X12_ruinedIn {d : Nat} {X : MX} {N : NN} {a1 : Int} {a2 : Int} {a3 : Int} {out : Int} (hsk : m_Sk X) (hd : 2 ≤ d) (hF : f_X12_ruinedIn X N a1 a2 a3 = some out) : m_Call d yX12_ruinedIn cX12_ruinedIn 8 (some .int) [(.inr (.inr 64)), (.inl a1), (.inl a2), (.inl a3)] N X (some (.inl out)) N X := by
  refine m_mk (ls0 := [some (.inr (.inr 64)), some (.inl a1), some (.inl a2), some (.inl a3), none, none, none, none]) (by decide) rfl (Nat.le_of_ble_eq_true rfl) (Nat.le_refl _) (Nat.le_refl _) (fun Ω hE => ?_)
  have hG := hE.G
  unfold f_X12_ruinedIn at hF
  refine s_aload_n hG dX12_ruinedIn_0 rfl ?_
  refine s_iload_n hG dX12_ruinedIn_1 rfl ?_
  refine s_iconst hG dX12_ruinedIn_2 ⟨by decide, by decide⟩ ?_
  obtain ⟨o1, ho1, hF⟩ := bd_some hF
  refine s_callV (d' := d - 1) (ci := 12) (args := [.inl a1, .inl 0]) hG (by omega) dX12_ruinedIn_3 cv_RX12_204 cw_X12_ofLord rfl rfl (sk_k hsk 64 rfl) (Nat.le_of_ble_eq_true rfl) rfl (t_X12_ofLord hsk (by omega) ho1) ?_
  refine s_istore hG dX12_ruinedIn_6 (by decide) rfl ?_
  refine s_iconst hG dX12_ruinedIn_8 ⟨by decide, by decide⟩ ?_
  refine s_istore hG dX12_ruinedIn_9 (by decide) rfl ?_
  obtain ⟨o13, hlo13, hF⟩ := bd_some hF
  refine t_X12_ruinedIn_lp11 hsk hd hG ?_ hlo13
  match o13, hF with
  | .inl e13, hF =>
        try dsimp only at hF
        refine s_iconst hG dX12_ruinedIn_118 ⟨by decide, by decide⟩ ?_
        cases hF
        exact s_iret hE dX12_ruinedIn_119 rfl
  | .inr e13, hF =>
        try dsimp only at hF
        refine s_iload hG dX12_ruinedIn_109 rfl ?_
        cases hF
        exact s_iret hE dX12_ruinedIn_111 rfl
-- X12_ruin
theorem t_X12_ruin_j35 {d n0 s0 nF sF : Nat} {X : MX} {Ω : Nat → MS → Prop} {N : NN} (hsk : m_Sk X) (hd : 10 ≤ d) (hG : m_G d yX12_ruin.cls yX12_ruin.name cX12_ruin 4 n0 s0 nF sF Ω) {out : (Int × NN)} (hE : m_Gd d yX12_ruin cX12_ruin 4 (some .int) X (some (.inl out.1)) out.2 X Ω) (hF : f_X12_ruin_j35 X N = some out) : Ω 35 ([none, none, none, none], [], N, X) := by
  unfold f_X12_ruin_j35 at hF
  refine s_iconst hG dX12_ruin_35 ⟨by decide, by decide⟩ ?_
  cases hF
  exact s_iret hE dX12_ruin_36 rfl
theorem t_X12_ruin_j66 {d n0 s0 nF sF : Nat} {X : MX} {Ω : Nat → MS → Prop} {N : NN} {z0 : Int} (hsk : m_Sk X) (hd : 10 ≤ d) (hG : m_G d yX12_ruin.cls yX12_ruin.name cX12_ruin 4 n0 s0 nF sF Ω) {out : (Int × NN)} (hE : m_Gd d yX12_ruin cX12_ruin 4 (some .int) X (some (.inl out.1)) out.2 X Ω) (hF : f_X12_ruin_j66 X N z0 = some out) : Ω 66 ([none, none, none, none], [(.inl z0)], N, X) := by
  unfold f_X12_ruin_j66 at hF
  cases hF
  exact s_iret hE dX12_ruin_66 rfl
theorem t_X12_ruin {d : Nat} {X : MX} {N : NN} {a1 : Int} {a2 : Int} {out : (Int × NN)} (hsk : m_Sk X) (hd : 10 ≤ d) (hF : f_X12_ruin X N a1 a2 = some out) : m_Call d yX12_ruin cX12_ruin 4 (some .int) [(.inr (.inr 64)), (.inl a1), (.inl a2)] N X (some (.inl out.1)) out.2 X := by
  refine m_mk (ls0 := [some (.inr (.inr 64)), some (.inl a1), some (.inl a2), none]) (by decide) rfl (Nat.le_of_ble_eq_true rfl) (Nat.le_refl _) (Nat.le_refl _) (fun Ω hE => ?_)
  have hG := hE.G
  unfold f_X12_ruin at hF
  refine s_aload_n hG dX12_ruin_0 rfl ?_
  refine s_iconst hG dX12_ruin_1 ⟨by decide, by decide⟩ ?_
  refine s_puti hG dX12_ruin_2 fl_RX12_166 (fun h => by cases h) (sk_k hsk 64 rfl) rfl ?_
  refine s_aload_n hG dX12_ruin_5 rfl ?_
  refine s_iload_n hG dX12_ruin_6 rfl ?_
  obtain ⟨o2, ho2, hF⟩ := bd_some hF
  refine s_callV (d' := d - 1) (ci := 12) (args := [.inl a1]) hG (by omega) dX12_ruin_7 cv_RX12_198 cw_X12_isLord rfl rfl (sk_k hsk 64 rfl) (Nat.le_of_ble_eq_true rfl) rfl (t_X12_isLord hsk (by omega) ho2) ?_
  refine s_if_eq hG 35 dX12_ruin_10 (by decide) (fun c11 => ?_) (fun c11 => ?_)
  · replace hF := Eq.trans (if_pos c11).symm hF
    refine m_weak (ls1 := [none, none, none, none]) hG trivial ?_
    exact t_X12_ruin_j35 hsk hd hG hE hF
  · replace hF := Eq.trans (if_neg c11).symm hF
    refine s_iload_n hG dX12_ruin_13 rfl ?_
    refine s_i2l hG dX12_ruin_14 ?_
    refine s_lconst (v := 1) hG dX12_ruin_15 rfl ⟨by decide, by decide⟩ ?_
    refine s_ldc2 hG dX12_ruin_16 kc_RX12_188 ⟨by decide, by decide⟩ ?_
    obtain ⟨o3, ho3, hF⟩ := bd_some hF
    refine s_callS (d' := d - 1) (args := [.inr (.inl a2), .inr (.inl 1), .inr (.inl 99)]) hG (by omega) dX12_ruin_19 cs_RX12_179 cw_X12_in rfl (Nat.le_of_ble_eq_true rfl) rfl (t_X12_in hsk (by omega) ho3) ?_
    refine s_if_eq hG 35 dX12_ruin_22 (by decide) (fun c10 => ?_) (fun c10 => ?_)
    · replace hF := Eq.trans (if_pos c10).symm hF
      refine m_weak (ls1 := [none, none, none, none]) hG trivial ?_
      exact t_X12_ruin_j35 hsk hd hG hE hF
    · replace hF := Eq.trans (if_neg c10).symm hF
      refine s_aload_n hG dX12_ruin_25 rfl ?_
      refine s_iload_n hG dX12_ruin_26 rfl ?_
      refine s_iconst hG dX12_ruin_27 ⟨by decide, by decide⟩ ?_
      obtain ⟨o4, ho4, hF⟩ := bd_some hF
      refine s_callV (d' := d - 1) (ci := 12) (args := [.inl a1, .inl 2]) hG (by omega) dX12_ruin_28 cv_RX12_204 cw_X12_ofLord rfl rfl (sk_k hsk 64 rfl) (Nat.le_of_ble_eq_true rfl) rfl (t_X12_ofLord hsk (by omega) ho4) ?_
      refine s_iconst hG dX12_ruin_31 ⟨by decide, by decide⟩ ?_
      refine s_icmp_ne hG 37 dX12_ruin_32 (by decide) (fun c9 => ?_) (fun c9 => ?_)
      · replace hF := Eq.trans (if_pos c9).symm hF
        refine m_weak (ls1 := [none, none, none, none]) hG trivial ?_
        exact t_X12_ruin_j35 hsk hd hG hE hF
      · replace hF := Eq.trans (if_neg c9).symm hF
        refine s_aload_n hG dX12_ruin_37 rfl ?_
        refine s_iload_n hG dX12_ruin_38 rfl ?_
        refine s_iload_n hG dX12_ruin_39 rfl ?_
        obtain ⟨o5, ho5, hF⟩ := bd_some hF
        refine s_callV (d' := d - 1) (ci := 12) (args := [.inl a1, .inl a2]) hG (by omega) dX12_ruin_40 cv_RX12_509 cw_X12_layYears rfl rfl (sk_k hsk 64 rfl) (Nat.le_of_ble_eq_true rfl) rfl (t_X12_layYears hsk (by omega) ho5) ?_
        refine s_aload_n hG dX12_ruin_43 rfl ?_
        refine s_iload_n hG dX12_ruin_44 rfl ?_
        refine s_iload_n hG dX12_ruin_45 rfl ?_
        refine s_iconst hG dX12_ruin_46 ⟨by decide, by decide⟩ ?_
        obtain ⟨o6, ho6, hF⟩ := bd_some hF
        refine s_callV (d' := d - 1) (ci := 12) (args := [.inl a1, .inl a2, .inl 0]) hG (by omega) dX12_ruin_47 cv_RX12_512 cw_X12_ruinedIn rfl rfl (sk_k hsk 64 rfl) (Nat.le_of_ble_eq_true rfl) rfl (t_X12_ruinedIn hsk (by omega) ho6) ?_
        refine s_istore_n hG dX12_ruin_50 (by decide) rfl ?_
        refine s_iload_n hG dX12_ruin_51 rfl ?_
        refine s_iconst hG dX12_ruin_52 ⟨by decide, by decide⟩ ?_
        refine s_icmp_ne hG 60 dX12_ruin_53 (by decide) (fun c8 => ?_) (fun c8 => ?_)
        · replace hF := Eq.trans (if_pos c8).symm hF
          refine s_iconst hG dX12_ruin_56 ⟨by decide, by decide⟩ ?_
          refine s_goto hG 66 dX12_ruin_57 (by decide) ?_
          refine m_weak (ls1 := [none, none, none, none]) hG trivial ?_
          exact t_X12_ruin_j66 hsk hd hG hE hF
        · replace hF := Eq.trans (if_neg c8).symm hF
          refine s_aload_n hG dX12_ruin_60 rfl ?_
          obtain ⟨o7, ho7, hF⟩ := bd_some hF
          refine s_callV (d' := d - 1) (ci := 12) (args := []) hG (by omega) dX12_ruin_61 cv_RX12_210 cw_X12_year rfl rfl (sk_k hsk 64 rfl) (Nat.le_of_ble_eq_true rfl) rfl (t_X12_year hsk (by omega) ho7) ?_
          refine s_iload_n hG dX12_ruin_64 rfl ?_
          refine s_iadd hG dX12_ruin_65 ?_
          refine m_weak (ls1 := [none, none, none, none]) hG trivial ?_
          exact t_X12_ruin_j66 hsk hd hG hE hF
-- X12_shelf
theorem t_X12_shelf_j37 {d n0 s0 nF sF : Nat} {X : MX} {Ω : Nat → MS → Prop} {N : NN} (hsk : m_Sk X) (hd : 3 ≤ d) (hG : m_G d yX12_shelf.cls yX12_shelf.name cX12_shelf 4 n0 s0 nF sF Ω) {out : (Int × NN)} (hE : m_Gd d yX12_shelf cX12_shelf 4 (some .int) X (some (.inl out.1)) out.2 X Ω) (hF : f_X12_shelf_j37 X N = some out) : Ω 37 ([some (.inr (.inr 64)), none, none, none], [], N, X) := by
  unfold f_X12_shelf_j37 at hF
  refine s_aload_n hG dX12_shelf_37 rfl ?_
  refine s_bipush hG dX12_shelf_38 bp_m2 ⟨by decide, by decide⟩ ?_
  obtain ⟨o9, ho9, hF⟩ := bd_some hF
  refine s_callV (d' := d - 1) (ci := 12) (args := [.inl (-2)]) hG (by omega) dX12_shelf_40 cv_RX12_175 cw_X12_tell rfl rfl (sk_k hsk 64 rfl) (Nat.le_of_ble_eq_true rfl) rfl (t_X12_tell hsk (by omega) ho9) ?_
  cases hF
  exact s_iret hE dX12_shelf_43 rfl
theorem t_X12_shelf_j44 {d n0 s0 nF sF : Nat} {X : MX} {Ω : Nat → MS → Prop} {N : NN} {a1 : Int} {a2 : Int} (hsk : m_Sk X) (hd : 3 ≤ d) (hG : m_G d yX12_shelf.cls yX12_shelf.name cX12_shelf 4 n0 s0 nF sF Ω) {out : (Int × NN)} (hE : m_Gd d yX12_shelf cX12_shelf 4 (some .int) X (some (.inl out.1)) out.2 X Ω) (hF : f_X12_shelf_j44 X N a1 a2 = some out) : Ω 44 ([some (.inr (.inr 64)), some (.inl a1), some (.inl a2), none], [], N, X) := by
  unfold f_X12_shelf_j44 at hF
  refine s_aload_n hG dX12_shelf_44 rfl ?_
  refine s_iload_n hG dX12_shelf_45 rfl ?_
  refine s_iconst hG dX12_shelf_46 ⟨by decide, by decide⟩ ?_
  obtain ⟨o10, ho10, hF⟩ := bd_some hF
  refine s_callV (d' := d - 1) (ci := 12) (args := [.inl a1, .inl 5]) hG (by omega) dX12_shelf_47 cv_RX12_190 cw_X12_ofGood rfl rfl (sk_k hsk 64 rfl) (Nat.le_of_ble_eq_true rfl) rfl (t_X12_ofGood hsk (by omega) ho10) ?_
  refine s_istore_n hG dX12_shelf_50 (by decide) rfl ?_
  refine s_aload_n hG dX12_shelf_51 rfl ?_
  refine s_getr (r := 66) hG dX12_shelf_52 fl_RX12_13 (sk_k hsk 64 rfl) rfl (sk_R hsk 64 3 rfl) ?_
  refine s_bipush hG dX12_shelf_55 bp_45 ⟨by decide, by decide⟩ ?_
  refine s_bipush hG dX12_shelf_57 bp_6 ⟨by decide, by decide⟩ ?_
  refine s_iload_n hG dX12_shelf_59 rfl ?_
  refine s_imul hG dX12_shelf_60 ?_
  refine s_iadd hG dX12_shelf_61 ?_
  refine s_iconst hG dX12_shelf_62 ⟨by decide, by decide⟩ ?_
  refine s_iadd hG dX12_shelf_63 ?_
  refine s_iload_n hG dX12_shelf_64 rfl ?_
  obtain ⟨g11, hF⟩ := gd_some hF
  refine s_iastj (j := (m_w ((m_w (45 + (m_w (6 * a1)))) + 5)).toNat) hG dX12_shelf_65 (sk_K hsk 66 rfl) g11 rfl ?_
  refine s_aload_n hG dX12_shelf_66 rfl ?_
  refine s_iload_n hG dX12_shelf_67 rfl ?_
  obtain ⟨o13, ho13, hF⟩ := bd_some hF
  refine s_callV (d' := d - 1) (ci := 12) (args := [.inl o10]) hG (by omega) dX12_shelf_68 cv_RX12_217 cw_X12_was rfl rfl (sk_k hsk 64 rfl) (Nat.le_of_ble_eq_true rfl) rfl (t_X12_was hsk (by omega) ho13) ?_
  cases hF
  exact s_iret hE dX12_shelf_71 rfl
theorem t_X12_shelf {d : Nat} {X : MX} {N : NN} {a1 : Int} {a2 : Int} {out : (Int × NN)} (hsk : m_Sk X) (hd : 3 ≤ d) (hF : f_X12_shelf X N a1 a2 = some out) : m_Call d yX12_shelf cX12_shelf 4 (some .int) [(.inr (.inr 64)), (.inl a1), (.inl a2)] N X (some (.inl out.1)) out.2 X := by
  refine m_mk (ls0 := [some (.inr (.inr 64)), some (.inl a1), some (.inl a2), none]) (by decide) rfl (Nat.le_of_ble_eq_true rfl) (Nat.le_refl _) (Nat.le_refl _) (fun Ω hE => ?_)
  have hG := hE.G
  unfold f_X12_shelf at hF
  refine s_aload_n hG dX12_shelf_0 rfl ?_
  refine s_iconst hG dX12_shelf_1 ⟨by decide, by decide⟩ ?_
  refine s_puti hG dX12_shelf_2 fl_RX12_166 (fun h => by cases h) (sk_k hsk 64 rfl) rfl ?_
  refine s_iload_n hG dX12_shelf_5 rfl ?_
  refine s_iconst hG dX12_shelf_6 ⟨by decide, by decide⟩ ?_
  refine s_icmp_ge hG 16 dX12_shelf_7 (by decide) (fun c8 => ?_) (fun c8 => ?_)
  · replace hF := Eq.trans (if_pos c8).symm hF
    refine s_aload_n hG dX12_shelf_10 rfl ?_
    refine s_iconst hG dX12_shelf_11 ⟨by decide, by decide⟩ ?_
    obtain ⟨o2, ho2, hF⟩ := bd_some hF
    refine s_callV (d' := d - 1) (ci := 12) (args := [.inl (-1)]) hG (by omega) dX12_shelf_12 cv_RX12_175 cw_X12_tell rfl rfl (sk_k hsk 64 rfl) (Nat.le_of_ble_eq_true rfl) rfl (t_X12_tell hsk (by omega) ho2) ?_
    cases hF
    exact s_iret hE dX12_shelf_15 rfl
  · replace hF := Eq.trans (if_neg c8).symm hF
    refine s_aload_n hG dX12_shelf_16 rfl ?_
    refine s_iload_n hG dX12_shelf_17 rfl ?_
    obtain ⟨o3, ho3, hF⟩ := bd_some hF
    refine s_callV (d' := d - 1) (ci := 12) (args := [.inl a1]) hG (by omega) dX12_shelf_18 cv_RX12_225 cw_X12_isGood rfl rfl (sk_k hsk 64 rfl) (Nat.le_of_ble_eq_true rfl) rfl (t_X12_isGood hsk (by omega) ho3) ?_
    refine s_if_eq hG 37 dX12_shelf_21 (by decide) (fun c7 => ?_) (fun c7 => ?_)
    · replace hF := Eq.trans (if_pos c7).symm hF
      refine m_weak (ls1 := [some (.inr (.inr 64)), none, none, none]) hG ⟨rfl, trivial⟩ ?_
      exact t_X12_shelf_j37 hsk hd hG hE hF
    · replace hF := Eq.trans (if_neg c7).symm hF
      refine s_iload_n hG dX12_shelf_24 rfl ?_
      refine s_iconst hG dX12_shelf_25 ⟨by decide, by decide⟩ ?_
      refine s_icmp_eq hG 44 dX12_shelf_26 (by decide) (fun c6 => ?_) (fun c6 => ?_)
      · replace hF := Eq.trans (if_pos c6).symm hF
        exact t_X12_shelf_j44 hsk hd hG hE hF
      · replace hF := Eq.trans (if_neg c6).symm hF
        refine s_aload_n hG dX12_shelf_29 rfl ?_
        refine s_iload_n hG dX12_shelf_30 rfl ?_
        obtain ⟨o4, ho4, hF⟩ := bd_some hF
        refine s_callV (d' := d - 1) (ci := 12) (args := [.inl a2]) hG (by omega) dX12_shelf_31 cv_RX12_198 cw_X12_isLord rfl rfl (sk_k hsk 64 rfl) (Nat.le_of_ble_eq_true rfl) rfl (t_X12_isLord hsk (by omega) ho4) ?_
        refine s_if_ne hG 44 dX12_shelf_34 (by decide) (fun c5 => ?_) (fun c5 => ?_)
        · replace hF := Eq.trans (if_pos c5).symm hF
          refine m_weak (ls1 := [some (.inr (.inr 64)), none, none, none]) hG ⟨rfl, trivial⟩ ?_
          exact t_X12_shelf_j37 hsk hd hG hE hF
        · replace hF := Eq.trans (if_neg c5).symm hF
          exact t_X12_shelf_j44 hsk hd hG hE hF
-- X12_siege
theorem t_X12_siege_b164 {d n0 s0 nF sF : Nat} {X : MX} {Ω : Nat → MS → Prop} {N : NN} {a1 : Int} {a2 : Int} {a3 : Int} {a4 : Int} {a5 : Int} {a6 : Int} {a7 : Int} {a8 : Int} (hsk : m_Sk X) (hd : 10 ≤ d) (hG : m_G d yX12_siege.cls yX12_siege.name cX12_siege 13 n0 s0 nF sF Ω) {out : ((NN × Int × Int × Int × Int × Int × Int × Int × Int) ⊕ (NN × Int × Int × Int × Int × Int × Int × Int))} (hK0 : ∀ s' : (NN × Int × Int × Int × Int × Int × Int × Int × Int), out = .inl s' → Ω 164 ([some (.inr (.inr 64)), some (.inl (s'.2.1)), some (.inl (s'.2.2.1)), some (.inl (s'.2.2.2.1)), some (.inl (s'.2.2.2.2.1)), some (.inl (s'.2.2.2.2.2.1)), some (.inl (s'.2.2.2.2.2.2.1)), some (.inl (s'.2.2.2.2.2.2.2.1)), some (.inl (s'.2.2.2.2.2.2.2.2)), none, none, none, none], [], s'.1, X)) (hK1 : ∀ t : (NN × Int × Int × Int × Int × Int × Int × Int), out = .inr t → Ω 205 ([some (.inr (.inr 64)), some (.inl t.2.1), some (.inl t.2.2.1), some (.inl t.2.2.2.1), some (.inl t.2.2.2.2.1), some (.inl t.2.2.2.2.2.1), some (.inl t.2.2.2.2.2.2.1), some (.inl t.2.2.2.2.2.2.2), none, none, none, none, none], [], t.1, X)) (hF : b_X12_siege_164 X N a1 a2 a3 a4 a5 a6 a7 a8 = some out) : Ω 164 ([some (.inr (.inr 64)), some (.inl a1), some (.inl a2), some (.inl a3), some (.inl a4), some (.inl a5), some (.inl a6), some (.inl a7), some (.inl a8), none, none, none, none], [], N, X) := by
  unfold b_X12_siege_164 at hF
  refine s_iload hG dX12_siege_164 rfl ?_
  refine s_iload_n hG dX12_siege_166 rfl ?_
  refine s_icmp_gt hG 205 dX12_siege_167 (by decide) (fun c23 => ?_) (fun c23 => ?_)
  · replace hF := Eq.trans (if_pos c23).symm hF
    cases hF
    refine m_weak (ls1 := [some (.inr (.inr 64)), some (.inl a1), some (.inl a2), some (.inl a3), some (.inl a4), some (.inl a5), some (.inl a6), some (.inl a7), none, none, none, none, none]) hG ⟨rfl, ⟨rfl, ⟨rfl, ⟨rfl, ⟨rfl, ⟨rfl, ⟨rfl, ⟨rfl, trivial⟩⟩⟩⟩⟩⟩⟩⟩ ?_
    exact hK1 _ rfl
  · replace hF := Eq.trans (if_neg c23).symm hF
    refine s_aload_n hG dX12_siege_170 rfl ?_
    refine s_getr (r := 91) hG dX12_siege_171 fl_RX12_124 (sk_k hsk 64 rfl) rfl (sk_R hsk 64 48 rfl) ?_
    refine s_bipush hG dX12_siege_174 bp_9 ⟨by decide, by decide⟩ ?_
    refine s_iload hG dX12_siege_176 rfl ?_
    refine s_imul hG dX12_siege_178 ?_
    refine s_iload hG dX12_siege_179 rfl ?_
    refine s_iadd hG dX12_siege_181 ?_
    refine s_iconst hG dX12_siege_182 ⟨by decide, by decide⟩ ?_
    refine s_isub hG dX12_siege_183 ?_
    refine s_aload_n hG dX12_siege_184 rfl ?_
    refine s_iload hG dX12_siege_185 rfl ?_
    refine s_iload_n hG dX12_siege_187 rfl ?_
    refine s_aload_n hG dX12_siege_188 rfl ?_
    obtain ⟨o19, ho19, hF⟩ := bd_some hF
    refine s_callV (d' := d - 1) (ci := 12) (args := []) hG (by omega) dX12_siege_189 cv_RX12_210 cw_X12_year rfl rfl (sk_k hsk 64 rfl) (Nat.le_of_ble_eq_true rfl) rfl (t_X12_year hsk (by omega) ho19) ?_
    refine s_iload hG dX12_siege_192 rfl ?_
    refine s_iadd hG dX12_siege_194 ?_
    obtain ⟨o20, ho20, hF⟩ := bd_some hF
    refine s_callV (d' := d - 1) (ci := 12) (args := [.inl a7, .inl a2, .inl (m_w (o19 + a8))]) hG (by omega) dX12_siege_195 cv_RX12_194 cw_X12_costOf rfl rfl (sk_k hsk 64 rfl) (Nat.le_of_ble_eq_true rfl) rfl (t_X12_costOf hsk (by omega) ho20) ?_
    obtain ⟨g21, hF⟩ := gd_some hF
    refine s_iastj (j := (m_w ((m_w ((m_w (9 * a5)) + a8)) - 1)).toNat) hG dX12_siege_198 (sk_K hsk 91 rfl) g21 rfl ?_
    refine s_iinc hG dX12_siege_199 (by decide) rfl rfl ?_
    refine s_goto hG 164 dX12_siege_202 (by decide) ?_
    cases hF
    exact hK0 _ rfl
theorem t_X12_siege_lp164 {d n0 s0 nF sF : Nat} {X : MX} {Ω : Nat → MS → Prop} {N : NN} {a1 : Int} {a2 : Int} {a3 : Int} {a4 : Int} {a5 : Int} {a6 : Int} {a7 : Int} {a8 : Int} (hsk : m_Sk X) (hd : 10 ≤ d) (hG : m_G d yX12_siege.cls yX12_siege.name cX12_siege 13 n0 s0 nF sF Ω) {t : (NN × Int × Int × Int × Int × Int × Int × Int)} (hK1 : Ω 205 ([some (.inr (.inr 64)), some (.inl t.2.1), some (.inl t.2.2.1), some (.inl t.2.2.2.1), some (.inl t.2.2.2.2.1), some (.inl t.2.2.2.2.2.1), some (.inl t.2.2.2.2.2.2.1), some (.inl t.2.2.2.2.2.2.2), none, none, none, none, none], [], t.1, X)) (hl : lp (fun s => b_X12_siege_164 X s.1 s.2.1 s.2.2.1 s.2.2.2.1 s.2.2.2.2.1 s.2.2.2.2.2.1 s.2.2.2.2.2.2.1 s.2.2.2.2.2.2.2.1 s.2.2.2.2.2.2.2.2) (N, a1, a2, a3, a4, a5, a6, a7, a8) = some t) : Ω 164 ([some (.inr (.inr 64)), some (.inl a1), some (.inl a2), some (.inl a3), some (.inl a4), some (.inl a5), some (.inl a6), some (.inl a7), some (.inl a8), none, none, none, none], [], N, X) := by
  refine lp_ok (P := fun s => Ω 164 ([some (.inr (.inr 64)), some (.inl s.2.1), some (.inl s.2.2.1), some (.inl s.2.2.2.1), some (.inl s.2.2.2.2.1), some (.inl s.2.2.2.2.2.1), some (.inl s.2.2.2.2.2.2.1), some (.inl s.2.2.2.2.2.2.2.1), some (.inl s.2.2.2.2.2.2.2.2), none, none, none, none], [], s.1, X)) (K := fun t => Ω 205 ([some (.inr (.inr 64)), some (.inl t.2.1), some (.inl t.2.2.1), some (.inl t.2.2.2.1), some (.inl t.2.2.2.2.1), some (.inl t.2.2.2.2.2.1), some (.inl t.2.2.2.2.2.2.1), some (.inl t.2.2.2.2.2.2.2), none, none, none, none, none], [], t.1, X)) (fun s out hF hK0 hK1 => ?_) hl hK1
  exact t_X12_siege_b164 hsk hd hG (out := out) (fun s' e => hK0 s' e) (fun t' e => hK1 t' e) hF
theorem t_X12_siege_l88_j208 {d n0 s0 nF sF : Nat} {X : MX} {Ω : Nat → MS → Prop} {N : NN} {a1 : Int} {a2 : Int} {a3 : Int} {a4 : Int} {a5 : Int} {a6 : Int} {a7 : Int} (hsk : m_Sk X) (hd : 10 ≤ d) (hG : m_G d yX12_siege.cls yX12_siege.name cX12_siege 13 n0 s0 nF sF Ω) {out : ((NN × Int × Int × Int × Int × Int × Int × Int) ⊕ (NN × Int × Int × Int × Int × Int × Int))} (hK0 : ∀ s' : (NN × Int × Int × Int × Int × Int × Int × Int), out = .inl s' → Ω 88 ([some (.inr (.inr 64)), some (.inl (s'.2.1)), some (.inl (s'.2.2.1)), some (.inl (s'.2.2.2.1)), some (.inl (s'.2.2.2.2.1)), some (.inl (s'.2.2.2.2.2.1)), some (.inl (s'.2.2.2.2.2.2.1)), some (.inl (s'.2.2.2.2.2.2.2)), none, none, none, none, none], [], s'.1, X)) (hK1 : ∀ t : (NN × Int × Int × Int × Int × Int × Int), out = .inr t → Ω 214 ([some (.inr (.inr 64)), some (.inl t.2.1), some (.inl t.2.2.1), some (.inl t.2.2.2.1), some (.inl t.2.2.2.2.1), some (.inl t.2.2.2.2.2.1), some (.inl t.2.2.2.2.2.2), none, none, none, none, none, none], [], t.1, X)) (hF : f_X12_siege_l88_j208 X N a1 a2 a3 a4 a5 a6 a7 = some out) : Ω 208 ([some (.inr (.inr 64)), some (.inl a1), some (.inl a2), some (.inl a3), some (.inl a4), some (.inl a5), some (.inl a6), some (.inl a7), none, none, none, none, none], [], N, X) := by
  unfold f_X12_siege_l88_j208 at hF
  refine s_iinc hG dX12_siege_208 (by decide) rfl rfl ?_
  refine s_goto hG 88 dX12_siege_211 (by decide) ?_
  cases hF
  exact hK0 _ rfl
theorem t_X12_siege_l88_j158 {d n0 s0 nF sF : Nat} {X : MX} {Ω : Nat → MS → Prop} {N : NN} {a1 : Int} {a2 : Int} {a3 : Int} {a4 : Int} {a5 : Int} {a7 : Int} {z0 : Int} {z1 : Int} (hsk : m_Sk X) (hd : 10 ≤ d) (hG : m_G d yX12_siege.cls yX12_siege.name cX12_siege 13 n0 s0 nF sF Ω) {out : ((NN × Int × Int × Int × Int × Int × Int × Int) ⊕ (NN × Int × Int × Int × Int × Int × Int))} (hK0 : ∀ s' : (NN × Int × Int × Int × Int × Int × Int × Int), out = .inl s' → Ω 88 ([some (.inr (.inr 64)), some (.inl (s'.2.1)), some (.inl (s'.2.2.1)), some (.inl (s'.2.2.2.1)), some (.inl (s'.2.2.2.2.1)), some (.inl (s'.2.2.2.2.2.1)), some (.inl (s'.2.2.2.2.2.2.1)), some (.inl (s'.2.2.2.2.2.2.2)), none, none, none, none, none], [], s'.1, X)) (hK1 : ∀ t : (NN × Int × Int × Int × Int × Int × Int), out = .inr t → Ω 214 ([some (.inr (.inr 64)), some (.inl t.2.1), some (.inl t.2.2.1), some (.inl t.2.2.2.1), some (.inl t.2.2.2.2.1), some (.inl t.2.2.2.2.2.1), some (.inl t.2.2.2.2.2.2), none, none, none, none, none, none], [], t.1, X)) (hF : f_X12_siege_l88_j158 X N a1 a2 a3 a4 a5 a7 z0 z1 = some out) : Ω 158 ([some (.inr (.inr 64)), some (.inl a1), some (.inl a2), some (.inl a3), some (.inl a4), some (.inl a5), none, some (.inl a7), none, none, none, none, none], [(.inl z1), (.inl z0)], N, X) := by
  unfold f_X12_siege_l88_j158 at hF
  refine s_ior hG dX12_siege_158 ?_
  refine s_istore hG dX12_siege_159 (by decide) rfl ?_
  refine s_iconst hG dX12_siege_161 ⟨by decide, by decide⟩ ?_
  refine s_istore hG dX12_siege_162 (by decide) rfl ?_
  obtain ⟨o24, hlo24, hF⟩ := bd_some hF
  refine t_X12_siege_lp164 hsk hd hG ?_ hlo24
  refine s_iinc hG dX12_siege_205 (by decide) rfl rfl ?_
  exact t_X12_siege_l88_j208 hsk hd hG hK0 hK1 hF
theorem t_X12_siege_b88 {d n0 s0 nF sF : Nat} {X : MX} {Ω : Nat → MS → Prop} {N : NN} {a1 : Int} {a2 : Int} {a3 : Int} {a4 : Int} {a5 : Int} {a6 : Int} {a7 : Int} (hsk : m_Sk X) (hd : 10 ≤ d) (hG : m_G d yX12_siege.cls yX12_siege.name cX12_siege 13 n0 s0 nF sF Ω) {out : ((NN × Int × Int × Int × Int × Int × Int × Int) ⊕ (NN × Int × Int × Int × Int × Int × Int))} (hK0 : ∀ s' : (NN × Int × Int × Int × Int × Int × Int × Int), out = .inl s' → Ω 88 ([some (.inr (.inr 64)), some (.inl (s'.2.1)), some (.inl (s'.2.2.1)), some (.inl (s'.2.2.2.1)), some (.inl (s'.2.2.2.2.1)), some (.inl (s'.2.2.2.2.2.1)), some (.inl (s'.2.2.2.2.2.2.1)), some (.inl (s'.2.2.2.2.2.2.2)), none, none, none, none, none], [], s'.1, X)) (hK1 : ∀ t : (NN × Int × Int × Int × Int × Int × Int), out = .inr t → Ω 214 ([some (.inr (.inr 64)), some (.inl t.2.1), some (.inl t.2.2.1), some (.inl t.2.2.2.1), some (.inl t.2.2.2.2.1), some (.inl t.2.2.2.2.2.1), some (.inl t.2.2.2.2.2.2), none, none, none, none, none, none], [], t.1, X)) (hF : b_X12_siege_88 X N a1 a2 a3 a4 a5 a6 a7 = some out) : Ω 88 ([some (.inr (.inr 64)), some (.inl a1), some (.inl a2), some (.inl a3), some (.inl a4), some (.inl a5), some (.inl a6), some (.inl a7), none, none, none, none, none], [], N, X) := by
  unfold b_X12_siege_88 at hF
  refine s_iload hG dX12_siege_88 rfl ?_
  refine s_aload_n hG dX12_siege_90 rfl ?_
  refine s_getr (r := 66) hG dX12_siege_91 fl_RX12_13 (sk_k hsk 64 rfl) rfl (sk_R hsk 64 3 rfl) ?_
  refine s_iconst hG dX12_siege_94 ⟨by decide, by decide⟩ ?_
  refine s_ialdj (j := 1) hG dX12_siege_95 (sk_K hsk 66 rfl) ⟨by decide, by decide⟩ rfl ?_
  refine s_icmp_ge hG 214 dX12_siege_96 (by decide) (fun c18 => ?_) (fun c18 => ?_)
  · replace hF := Eq.trans (if_pos c18).symm hF
    refine s_iload hG dX12_siege_99 rfl ?_
    refine s_bipush hG dX12_siege_101 bp_10 ⟨by decide, by decide⟩ ?_
    refine s_icmp_ge hG 214 dX12_siege_103 (by decide) (fun c17 => ?_) (fun c17 => ?_)
    · replace hF := Eq.trans (if_pos c17).symm hF
      refine s_aload_n hG dX12_siege_106 rfl ?_
      refine s_iload hG dX12_siege_107 rfl ?_
      refine s_iconst hG dX12_siege_109 ⟨by decide, by decide⟩ ?_
      obtain ⟨o9, ho9, hF⟩ := bd_some hF
      refine s_callV (d' := d - 1) (ci := 12) (args := [.inl a7, .inl 0]) hG (by omega) dX12_siege_110 cv_RX12_190 cw_X12_ofGood rfl rfl (sk_k hsk 64 rfl) (Nat.le_of_ble_eq_true rfl) rfl (t_X12_ofGood hsk (by omega) ho9) ?_
      refine s_iload_n hG dX12_siege_113 rfl ?_
      refine s_icmp_ne hG 208 dX12_siege_114 (by decide) (fun c16 => ?_) (fun c16 => ?_)
      · replace hF := Eq.trans (if_pos c16).symm hF
        refine s_aload_n hG dX12_siege_117 rfl ?_
        refine s_iload hG dX12_siege_118 rfl ?_
        refine s_iconst hG dX12_siege_120 ⟨by decide, by decide⟩ ?_
        obtain ⟨o10, ho10, hF⟩ := bd_some hF
        refine s_callV (d' := d - 1) (ci := 12) (args := [.inl a7, .inl 1]) hG (by omega) dX12_siege_121 cv_RX12_190 cw_X12_ofGood rfl rfl (sk_k hsk 64 rfl) (Nat.le_of_ble_eq_true rfl) rfl (t_X12_ofGood hsk (by omega) ho10) ?_
        refine s_iload_n hG dX12_siege_124 rfl ?_
        refine s_icmp_ne hG 208 dX12_siege_125 (by decide) (fun c15 => ?_) (fun c15 => ?_)
        · replace hF := Eq.trans (if_pos c15).symm hF
          refine s_aload_n hG dX12_siege_128 rfl ?_
          refine s_getr (r := 90) hG dX12_siege_129 fl_RX12_121 (sk_k hsk 64 rfl) rfl (sk_R hsk 64 47 rfl) ?_
          refine s_iload hG dX12_siege_132 rfl ?_
          refine s_iload hG dX12_siege_134 rfl ?_
          obtain ⟨g11, hF⟩ := gd_some hF
          refine s_iastj (j := a5.toNat) hG dX12_siege_136 (sk_K hsk 90 rfl) g11 rfl ?_
          refine s_iload hG dX12_siege_137 rfl ?_
          refine s_aload_n hG dX12_siege_139 rfl ?_
          refine s_iload hG dX12_siege_140 rfl ?_
          refine s_iload_n hG dX12_siege_142 rfl ?_
          refine s_iload_n hG dX12_siege_143 rfl ?_
          obtain ⟨o13, ho13, hF⟩ := bd_some hF
          refine s_callV (d' := d - 1) (ci := 12) (args := [.inl a7, .inl a1, .inl a2]) hG (by omega) dX12_siege_144 cv_RX12_448 cw_X12_isBarred rfl rfl (sk_k hsk 64 rfl) (Nat.le_of_ble_eq_true rfl) rfl (t_X12_isBarred hsk (by omega) ho13) ?_
          refine s_if_eq hG 154 dX12_siege_147 (by decide) (fun c14 => ?_) (fun c14 => ?_)
          · replace hF := Eq.trans (if_pos c14).symm hF
            refine s_iconst hG dX12_siege_154 ⟨by decide, by decide⟩ ?_
            refine s_iload hG dX12_siege_155 rfl ?_
            refine s_ishl hG dX12_siege_157 ?_
            refine m_weak (ls1 := [some (.inr (.inr 64)), some (.inl a1), some (.inl a2), some (.inl a3), some (.inl a4), some (.inl a5), none, some (.inl a7), none, none, none, none, none]) hG ⟨rfl, ⟨rfl, ⟨rfl, ⟨rfl, ⟨rfl, ⟨rfl, ⟨rfl, trivial⟩⟩⟩⟩⟩⟩⟩ ?_
            exact t_X12_siege_l88_j158 hsk hd hG hK0 hK1 hF
          · replace hF := Eq.trans (if_neg c14).symm hF
            refine s_iconst hG dX12_siege_150 ⟨by decide, by decide⟩ ?_
            refine s_goto hG 158 dX12_siege_151 (by decide) ?_
            refine m_weak (ls1 := [some (.inr (.inr 64)), some (.inl a1), some (.inl a2), some (.inl a3), some (.inl a4), some (.inl a5), none, some (.inl a7), none, none, none, none, none]) hG ⟨rfl, ⟨rfl, ⟨rfl, ⟨rfl, ⟨rfl, ⟨rfl, ⟨rfl, trivial⟩⟩⟩⟩⟩⟩⟩ ?_
            exact t_X12_siege_l88_j158 hsk hd hG hK0 hK1 hF
        · replace hF := Eq.trans (if_neg c15).symm hF
          exact t_X12_siege_l88_j208 hsk hd hG hK0 hK1 hF
      · replace hF := Eq.trans (if_neg c16).symm hF
        exact t_X12_siege_l88_j208 hsk hd hG hK0 hK1 hF
    · replace hF := Eq.trans (if_neg c17).symm hF
      cases hF
      refine m_weak (ls1 := [some (.inr (.inr 64)), some (.inl a1), some (.inl a2), some (.inl a3), some (.inl a4), some (.inl a5), some (.inl a6), none, none, none, none, none, none]) hG ⟨rfl, ⟨rfl, ⟨rfl, ⟨rfl, ⟨rfl, ⟨rfl, ⟨rfl, trivial⟩⟩⟩⟩⟩⟩⟩ ?_
      exact hK1 _ rfl
  · replace hF := Eq.trans (if_neg c18).symm hF
    cases hF
    refine m_weak (ls1 := [some (.inr (.inr 64)), some (.inl a1), some (.inl a2), some (.inl a3), some (.inl a4), some (.inl a5), some (.inl a6), none, none, none, none, none, none]) hG ⟨rfl, ⟨rfl, ⟨rfl, ⟨rfl, ⟨rfl, ⟨rfl, ⟨rfl, trivial⟩⟩⟩⟩⟩⟩⟩ ?_
    exact hK1 _ rfl
theorem t_X12_siege_lp88 {d n0 s0 nF sF : Nat} {X : MX} {Ω : Nat → MS → Prop} {N : NN} {a1 : Int} {a2 : Int} {a3 : Int} {a4 : Int} {a5 : Int} {a6 : Int} {a7 : Int} (hsk : m_Sk X) (hd : 10 ≤ d) (hG : m_G d yX12_siege.cls yX12_siege.name cX12_siege 13 n0 s0 nF sF Ω) {t : (NN × Int × Int × Int × Int × Int × Int)} (hK1 : Ω 214 ([some (.inr (.inr 64)), some (.inl t.2.1), some (.inl t.2.2.1), some (.inl t.2.2.2.1), some (.inl t.2.2.2.2.1), some (.inl t.2.2.2.2.2.1), some (.inl t.2.2.2.2.2.2), none, none, none, none, none, none], [], t.1, X)) (hl : lp (fun s => b_X12_siege_88 X s.1 s.2.1 s.2.2.1 s.2.2.2.1 s.2.2.2.2.1 s.2.2.2.2.2.1 s.2.2.2.2.2.2.1 s.2.2.2.2.2.2.2) (N, a1, a2, a3, a4, a5, a6, a7) = some t) : Ω 88 ([some (.inr (.inr 64)), some (.inl a1), some (.inl a2), some (.inl a3), some (.inl a4), some (.inl a5), some (.inl a6), some (.inl a7), none, none, none, none, none], [], N, X) := by
  refine lp_ok (P := fun s => Ω 88 ([some (.inr (.inr 64)), some (.inl s.2.1), some (.inl s.2.2.1), some (.inl s.2.2.2.1), some (.inl s.2.2.2.2.1), some (.inl s.2.2.2.2.2.1), some (.inl s.2.2.2.2.2.2.1), some (.inl s.2.2.2.2.2.2.2), none, none, none, none, none], [], s.1, X)) (K := fun t => Ω 214 ([some (.inr (.inr 64)), some (.inl t.2.1), some (.inl t.2.2.1), some (.inl t.2.2.2.1), some (.inl t.2.2.2.2.1), some (.inl t.2.2.2.2.2.1), some (.inl t.2.2.2.2.2.2), none, none, none, none, none, none], [], t.1, X)) (fun s out hF hK0 hK1 => ?_) hl hK1
  exact t_X12_siege_b88 hsk hd hG (out := out) (fun s' e => hK0 s' e) (fun t' e => hK1 t' e) hF
theorem t_X12_siege_l245_j281 {d n0 s0 nF sF : Nat} {X : MX} {Ω : Nat → MS → Prop} {N : NN} {a1 : Int} {a2 : Int} {a3 : Int} {a4 : Int} {a5 : Int} {a6 : Int} {a7 : Int} {a8 : Int} {a9 : Int} {a10 : Int} {a12 : Int} {z0 : Int} {z1 : Int} (hsk : m_Sk X) (hd : 10 ≤ d) (hG : m_G d yX12_siege.cls yX12_siege.name cX12_siege 13 n0 s0 nF sF Ω) {out : ((NN × Int × Int × Int × Int × Int × Int × Int × Int × Int × Int × Int × Int) ⊕ (NN × Int × Int × Int × Int × Int × Int × Int × Int × Int × Int × Int))} (hK0 : ∀ s' : (NN × Int × Int × Int × Int × Int × Int × Int × Int × Int × Int × Int × Int), out = .inl s' → Ω 245 ([some (.inr (.inr 64)), some (.inl (s'.2.1)), some (.inl (s'.2.2.1)), some (.inl (s'.2.2.2.1)), some (.inl (s'.2.2.2.2.1)), some (.inl (s'.2.2.2.2.2.1)), some (.inl (s'.2.2.2.2.2.2.1)), some (.inl (s'.2.2.2.2.2.2.2.1)), some (.inl (s'.2.2.2.2.2.2.2.2.1)), some (.inl (s'.2.2.2.2.2.2.2.2.2.1)), some (.inl (s'.2.2.2.2.2.2.2.2.2.2.1)), some (.inl (s'.2.2.2.2.2.2.2.2.2.2.2.1)), some (.inl (s'.2.2.2.2.2.2.2.2.2.2.2.2))], [], s'.1, X)) (hK1 : ∀ t : (NN × Int × Int × Int × Int × Int × Int × Int × Int × Int × Int × Int), out = .inr t → Ω 290 ([some (.inr (.inr 64)), some (.inl t.2.1), some (.inl t.2.2.1), some (.inl t.2.2.2.1), some (.inl t.2.2.2.2.1), some (.inl t.2.2.2.2.2.1), some (.inl t.2.2.2.2.2.2.1), some (.inl t.2.2.2.2.2.2.2.1), some (.inl t.2.2.2.2.2.2.2.2.1), some (.inl t.2.2.2.2.2.2.2.2.2.1), some (.inl t.2.2.2.2.2.2.2.2.2.2.1), some (.inl t.2.2.2.2.2.2.2.2.2.2.2), none], [], t.1, X)) (hF : f_X12_siege_l245_j281 X N a1 a2 a3 a4 a5 a6 a7 a8 a9 a10 a12 z0 z1 = some out) : Ω 281 ([some (.inr (.inr 64)), some (.inl a1), some (.inl a2), some (.inl a3), some (.inl a4), some (.inl a5), some (.inl a6), some (.inl a7), some (.inl a8), some (.inl a9), some (.inl a10), none, some (.inl a12)], [(.inl z1), (.inl z0)], N, X) := by
  unfold f_X12_siege_l245_j281 at hF
  refine s_iadd hG dX12_siege_281 ?_
  refine s_istore hG dX12_siege_282 (by decide) rfl ?_
  refine s_iinc hG dX12_siege_284 (by decide) rfl rfl ?_
  refine s_goto hG 245 dX12_siege_287 (by decide) ?_
  cases hF
  exact hK0 _ rfl
theorem t_X12_siege_b245 {d n0 s0 nF sF : Nat} {X : MX} {Ω : Nat → MS → Prop} {N : NN} {a1 : Int} {a2 : Int} {a3 : Int} {a4 : Int} {a5 : Int} {a6 : Int} {a7 : Int} {a8 : Int} {a9 : Int} {a10 : Int} {a11 : Int} {a12 : Int} (hsk : m_Sk X) (hd : 10 ≤ d) (hG : m_G d yX12_siege.cls yX12_siege.name cX12_siege 13 n0 s0 nF sF Ω) {out : ((NN × Int × Int × Int × Int × Int × Int × Int × Int × Int × Int × Int × Int) ⊕ (NN × Int × Int × Int × Int × Int × Int × Int × Int × Int × Int × Int))} (hK0 : ∀ s' : (NN × Int × Int × Int × Int × Int × Int × Int × Int × Int × Int × Int × Int), out = .inl s' → Ω 245 ([some (.inr (.inr 64)), some (.inl (s'.2.1)), some (.inl (s'.2.2.1)), some (.inl (s'.2.2.2.1)), some (.inl (s'.2.2.2.2.1)), some (.inl (s'.2.2.2.2.2.1)), some (.inl (s'.2.2.2.2.2.2.1)), some (.inl (s'.2.2.2.2.2.2.2.1)), some (.inl (s'.2.2.2.2.2.2.2.2.1)), some (.inl (s'.2.2.2.2.2.2.2.2.2.1)), some (.inl (s'.2.2.2.2.2.2.2.2.2.2.1)), some (.inl (s'.2.2.2.2.2.2.2.2.2.2.2.1)), some (.inl (s'.2.2.2.2.2.2.2.2.2.2.2.2))], [], s'.1, X)) (hK1 : ∀ t : (NN × Int × Int × Int × Int × Int × Int × Int × Int × Int × Int × Int), out = .inr t → Ω 290 ([some (.inr (.inr 64)), some (.inl t.2.1), some (.inl t.2.2.1), some (.inl t.2.2.2.1), some (.inl t.2.2.2.2.1), some (.inl t.2.2.2.2.2.1), some (.inl t.2.2.2.2.2.2.1), some (.inl t.2.2.2.2.2.2.2.1), some (.inl t.2.2.2.2.2.2.2.2.1), some (.inl t.2.2.2.2.2.2.2.2.2.1), some (.inl t.2.2.2.2.2.2.2.2.2.2.1), some (.inl t.2.2.2.2.2.2.2.2.2.2.2), none], [], t.1, X)) (hF : b_X12_siege_245 X N a1 a2 a3 a4 a5 a6 a7 a8 a9 a10 a11 a12 = some out) : Ω 245 ([some (.inr (.inr 64)), some (.inl a1), some (.inl a2), some (.inl a3), some (.inl a4), some (.inl a5), some (.inl a6), some (.inl a7), some (.inl a8), some (.inl a9), some (.inl a10), some (.inl a11), some (.inl a12)], [], N, X) := by
  unfold b_X12_siege_245 at hF
  refine s_iload hG dX12_siege_245 rfl ?_
  refine s_iload hG dX12_siege_247 rfl ?_
  refine s_icmp_ge hG 290 dX12_siege_249 (by decide) (fun c30 => ?_) (fun c30 => ?_)
  · replace hF := Eq.trans (if_pos c30).symm hF
    refine s_iload hG dX12_siege_252 rfl ?_
    refine s_iload hG dX12_siege_254 rfl ?_
    refine s_iload hG dX12_siege_256 rfl ?_
    obtain ⟨o26, ho26, hF⟩ := bd_some hF
    refine s_callS (d' := d - 1) (args := [.inl a10, .inl a12]) hG (by omega) dX12_siege_258 cs_RX12_458 cw_X12_is rfl (Nat.le_of_ble_eq_true rfl) rfl (t_X12_is hsk (by omega) ho26) ?_
    refine s_if_eq hG 280 dX12_siege_261 (by decide) (fun c29 => ?_) (fun c29 => ?_)
    · replace hF := Eq.trans (if_pos c29).symm hF
      refine s_iconst hG dX12_siege_280 ⟨by decide, by decide⟩ ?_
      refine m_weak (ls1 := [some (.inr (.inr 64)), some (.inl a1), some (.inl a2), some (.inl a3), some (.inl a4), some (.inl a5), some (.inl a6), some (.inl a7), some (.inl a8), some (.inl a9), some (.inl a10), none, some (.inl a12)]) hG ⟨rfl, ⟨rfl, ⟨rfl, ⟨rfl, ⟨rfl, ⟨rfl, ⟨rfl, ⟨rfl, ⟨rfl, ⟨rfl, ⟨rfl, ⟨rfl, trivial⟩⟩⟩⟩⟩⟩⟩⟩⟩⟩⟩⟩ ?_
      exact t_X12_siege_l245_j281 hsk hd hG hK0 hK1 hF
    · replace hF := Eq.trans (if_neg c29).symm hF
      refine s_aload_n hG dX12_siege_264 rfl ?_
      refine s_aload_n hG dX12_siege_265 rfl ?_
      refine s_getr (r := 90) hG dX12_siege_266 fl_RX12_121 (sk_k hsk 64 rfl) rfl (sk_R hsk 64 47 rfl) ?_
      refine s_iload hG dX12_siege_269 rfl ?_
      obtain ⟨g27, hF⟩ := gd_some hF
      refine s_ialdj (j := a12.toNat) hG dX12_siege_271 (sk_K hsk 90 rfl) g27 rfl ?_
      refine s_iload_n hG dX12_siege_272 rfl ?_
      refine s_iload_n hG dX12_siege_273 rfl ?_
      obtain ⟨o28, ho28, hF⟩ := bd_some hF
      refine s_callV (d' := d - 1) (ci := 12) (args := [.inl (N 90 a12.toNat), .inl a1, .inl a2]) hG (by omega) dX12_siege_274 cv_RX12_445 cw_X12_worthOf rfl rfl (sk_k hsk 64 rfl) (Nat.le_of_ble_eq_true rfl) rfl (t_X12_worthOf hsk (by omega) ho28) ?_
      refine s_goto hG 281 dX12_siege_277 (by decide) ?_
      refine m_weak (ls1 := [some (.inr (.inr 64)), some (.inl a1), some (.inl a2), some (.inl a3), some (.inl a4), some (.inl a5), some (.inl a6), some (.inl a7), some (.inl a8), some (.inl a9), some (.inl a10), none, some (.inl a12)]) hG ⟨rfl, ⟨rfl, ⟨rfl, ⟨rfl, ⟨rfl, ⟨rfl, ⟨rfl, ⟨rfl, ⟨rfl, ⟨rfl, ⟨rfl, ⟨rfl, trivial⟩⟩⟩⟩⟩⟩⟩⟩⟩⟩⟩⟩ ?_
      exact t_X12_siege_l245_j281 hsk hd hG hK0 hK1 hF
  · replace hF := Eq.trans (if_neg c30).symm hF
    cases hF
    refine m_weak (ls1 := [some (.inr (.inr 64)), some (.inl a1), some (.inl a2), some (.inl a3), some (.inl a4), some (.inl a5), some (.inl a6), some (.inl a7), some (.inl a8), some (.inl a9), some (.inl a10), some (.inl a11), none]) hG ⟨rfl, ⟨rfl, ⟨rfl, ⟨rfl, ⟨rfl, ⟨rfl, ⟨rfl, ⟨rfl, ⟨rfl, ⟨rfl, ⟨rfl, ⟨rfl, trivial⟩⟩⟩⟩⟩⟩⟩⟩⟩⟩⟩⟩ ?_
    exact hK1 _ rfl
theorem t_X12_siege_lp245 {d n0 s0 nF sF : Nat} {X : MX} {Ω : Nat → MS → Prop} {N : NN} {a1 : Int} {a2 : Int} {a3 : Int} {a4 : Int} {a5 : Int} {a6 : Int} {a7 : Int} {a8 : Int} {a9 : Int} {a10 : Int} {a11 : Int} {a12 : Int} (hsk : m_Sk X) (hd : 10 ≤ d) (hG : m_G d yX12_siege.cls yX12_siege.name cX12_siege 13 n0 s0 nF sF Ω) {t : (NN × Int × Int × Int × Int × Int × Int × Int × Int × Int × Int × Int)} (hK1 : Ω 290 ([some (.inr (.inr 64)), some (.inl t.2.1), some (.inl t.2.2.1), some (.inl t.2.2.2.1), some (.inl t.2.2.2.2.1), some (.inl t.2.2.2.2.2.1), some (.inl t.2.2.2.2.2.2.1), some (.inl t.2.2.2.2.2.2.2.1), some (.inl t.2.2.2.2.2.2.2.2.1), some (.inl t.2.2.2.2.2.2.2.2.2.1), some (.inl t.2.2.2.2.2.2.2.2.2.2.1), some (.inl t.2.2.2.2.2.2.2.2.2.2.2), none], [], t.1, X)) (hl : lp (fun s => b_X12_siege_245 X s.1 s.2.1 s.2.2.1 s.2.2.2.1 s.2.2.2.2.1 s.2.2.2.2.2.1 s.2.2.2.2.2.2.1 s.2.2.2.2.2.2.2.1 s.2.2.2.2.2.2.2.2.1 s.2.2.2.2.2.2.2.2.2.1 s.2.2.2.2.2.2.2.2.2.2.1 s.2.2.2.2.2.2.2.2.2.2.2.1 s.2.2.2.2.2.2.2.2.2.2.2.2) (N, a1, a2, a3, a4, a5, a6, a7, a8, a9, a10, a11, a12) = some t) : Ω 245 ([some (.inr (.inr 64)), some (.inl a1), some (.inl a2), some (.inl a3), some (.inl a4), some (.inl a5), some (.inl a6), some (.inl a7), some (.inl a8), some (.inl a9), some (.inl a10), some (.inl a11), some (.inl a12)], [], N, X) := by
  refine lp_ok (P := fun s => Ω 245 ([some (.inr (.inr 64)), some (.inl s.2.1), some (.inl s.2.2.1), some (.inl s.2.2.2.1), some (.inl s.2.2.2.2.1), some (.inl s.2.2.2.2.2.1), some (.inl s.2.2.2.2.2.2.1), some (.inl s.2.2.2.2.2.2.2.1), some (.inl s.2.2.2.2.2.2.2.2.1), some (.inl s.2.2.2.2.2.2.2.2.2.1), some (.inl s.2.2.2.2.2.2.2.2.2.2.1), some (.inl s.2.2.2.2.2.2.2.2.2.2.2.1), some (.inl s.2.2.2.2.2.2.2.2.2.2.2.2)], [], s.1, X)) (K := fun t => Ω 290 ([some (.inr (.inr 64)), some (.inl t.2.1), some (.inl t.2.2.1), some (.inl t.2.2.2.1), some (.inl t.2.2.2.2.1), some (.inl t.2.2.2.2.2.1), some (.inl t.2.2.2.2.2.2.1), some (.inl t.2.2.2.2.2.2.2.1), some (.inl t.2.2.2.2.2.2.2.2.1), some (.inl t.2.2.2.2.2.2.2.2.2.1), some (.inl t.2.2.2.2.2.2.2.2.2.2.1), some (.inl t.2.2.2.2.2.2.2.2.2.2.2), none], [], t.1, X)) (fun s out hF hK0 hK1 => ?_) hl hK1
  exact t_X12_siege_b245 hsk hd hG (out := out) (fun s' e => hK0 s' e) (fun t' e => hK1 t' e) hF
theorem t_X12_siege_l230_j389 {d n0 s0 nF sF : Nat} {X : MX} {Ω : Nat → MS → Prop} {N : NN} {a1 : Int} {a2 : Int} {a3 : Int} {a4 : Int} {a5 : Int} {a6 : Int} {a7 : Int} {a9 : Int} {a10 : Int} {z0 : Int} (hsk : m_Sk X) (hd : 10 ≤ d) (hG : m_G d yX12_siege.cls yX12_siege.name cX12_siege 13 n0 s0 nF sF Ω) {out : ((NN × Int × Int × Int × Int × Int × Int × Int × Int × Int × Int) ⊕ (NN × Int × Int × Int × Int × Int))} (hK0 : ∀ s' : (NN × Int × Int × Int × Int × Int × Int × Int × Int × Int × Int), out = .inl s' → Ω 230 ([some (.inr (.inr 64)), some (.inl (s'.2.1)), some (.inl (s'.2.2.1)), some (.inl (s'.2.2.2.1)), some (.inl (s'.2.2.2.2.1)), some (.inl (s'.2.2.2.2.2.1)), some (.inl (s'.2.2.2.2.2.2.1)), some (.inl (s'.2.2.2.2.2.2.2.1)), some (.inl (s'.2.2.2.2.2.2.2.2.1)), some (.inl (s'.2.2.2.2.2.2.2.2.2.1)), some (.inl (s'.2.2.2.2.2.2.2.2.2.2)), none, none], [], s'.1, X)) (hK1 : ∀ t : (NN × Int × Int × Int × Int × Int), out = .inr t → Ω 397 ([some (.inr (.inr 64)), none, none, none, some (.inl t.2.1), some (.inl t.2.2.1), none, some (.inl t.2.2.2.1), some (.inl t.2.2.2.2.1), some (.inl t.2.2.2.2.2), none, none, none], [], t.1, X)) (hF : f_X12_siege_l230_j389 X N a1 a2 a3 a4 a5 a6 a7 a9 a10 z0 = some out) : Ω 389 ([some (.inr (.inr 64)), some (.inl a1), some (.inl a2), some (.inl a3), some (.inl a4), some (.inl a5), some (.inl a6), some (.inl a7), none, some (.inl a9), some (.inl a10), none, none], [(.inl z0)], N, X) := by
  unfold f_X12_siege_l230_j389 at hF
  refine s_istore hG dX12_siege_389 (by decide) rfl ?_
  refine s_iinc hG dX12_siege_391 (by decide) rfl rfl ?_
  refine s_goto hG 230 dX12_siege_394 (by decide) ?_
  cases hF
  exact hK0 _ rfl
theorem t_X12_siege_l230_j375 {d n0 s0 nF sF : Nat} {X : MX} {Ω : Nat → MS → Prop} {N : NN} {a1 : Int} {a2 : Int} {a3 : Int} {a4 : Int} {a5 : Int} {a6 : Int} {a8 : Int} {a9 : Int} {a10 : Int} {a11 : Int} {a12 : Int} {z0 : Int} (hsk : m_Sk X) (hd : 10 ≤ d) (hG : m_G d yX12_siege.cls yX12_siege.name cX12_siege 13 n0 s0 nF sF Ω) {out : ((NN × Int × Int × Int × Int × Int × Int × Int × Int × Int × Int) ⊕ (NN × Int × Int × Int × Int × Int))} (hK0 : ∀ s' : (NN × Int × Int × Int × Int × Int × Int × Int × Int × Int × Int), out = .inl s' → Ω 230 ([some (.inr (.inr 64)), some (.inl (s'.2.1)), some (.inl (s'.2.2.1)), some (.inl (s'.2.2.2.1)), some (.inl (s'.2.2.2.2.1)), some (.inl (s'.2.2.2.2.2.1)), some (.inl (s'.2.2.2.2.2.2.1)), some (.inl (s'.2.2.2.2.2.2.2.1)), some (.inl (s'.2.2.2.2.2.2.2.2.1)), some (.inl (s'.2.2.2.2.2.2.2.2.2.1)), some (.inl (s'.2.2.2.2.2.2.2.2.2.2)), none, none], [], s'.1, X)) (hK1 : ∀ t : (NN × Int × Int × Int × Int × Int), out = .inr t → Ω 397 ([some (.inr (.inr 64)), none, none, none, some (.inl t.2.1), some (.inl t.2.2.1), none, some (.inl t.2.2.2.1), some (.inl t.2.2.2.2.1), some (.inl t.2.2.2.2.2), none, none, none], [], t.1, X)) (hF : f_X12_siege_l230_j375 X N a1 a2 a3 a4 a5 a6 a8 a9 a10 a11 a12 z0 = some out) : Ω 375 ([some (.inr (.inr 64)), some (.inl a1), some (.inl a2), some (.inl a3), some (.inl a4), some (.inl a5), some (.inl a6), none, some (.inl a8), some (.inl a9), some (.inl a10), some (.inl a11), some (.inl a12)], [(.inl z0)], N, X) := by
  unfold f_X12_siege_l230_j375 at hF
  refine s_istore hG dX12_siege_375 (by decide) rfl ?_
  refine s_iload hG dX12_siege_377 rfl ?_
  refine s_if_eq hG 387 dX12_siege_379 (by decide) (fun c44 => ?_) (fun c44 => ?_)
  · replace hF := Eq.trans (if_pos c44).symm hF
    refine s_iload hG dX12_siege_387 rfl ?_
    refine m_weak (ls1 := [some (.inr (.inr 64)), some (.inl a1), some (.inl a2), some (.inl a3), some (.inl a4), some (.inl a5), some (.inl a6), some (.inl z0), none, some (.inl a9), some (.inl a10), none, none]) hG ⟨rfl, ⟨rfl, ⟨rfl, ⟨rfl, ⟨rfl, ⟨rfl, ⟨rfl, ⟨rfl, ⟨rfl, ⟨rfl, trivial⟩⟩⟩⟩⟩⟩⟩⟩⟩⟩ ?_
    exact t_X12_siege_l230_j389 hsk hd hG hK0 hK1 hF
  · replace hF := Eq.trans (if_neg c44).symm hF
    refine s_iload hG dX12_siege_382 rfl ?_
    refine s_goto hG 389 dX12_siege_384 (by decide) ?_
    refine m_weak (ls1 := [some (.inr (.inr 64)), some (.inl a1), some (.inl a2), some (.inl a3), some (.inl a4), some (.inl a5), some (.inl a6), some (.inl z0), none, some (.inl a9), some (.inl a10), none, none]) hG ⟨rfl, ⟨rfl, ⟨rfl, ⟨rfl, ⟨rfl, ⟨rfl, ⟨rfl, ⟨rfl, ⟨rfl, ⟨rfl, trivial⟩⟩⟩⟩⟩⟩⟩⟩⟩⟩ ?_
    exact t_X12_siege_l230_j389 hsk hd hG hK0 hK1 hF
theorem t_X12_siege_l230_j358 {d n0 s0 nF sF : Nat} {X : MX} {Ω : Nat → MS → Prop} {N : NN} {a1 : Int} {a2 : Int} {a3 : Int} {a4 : Int} {a5 : Int} {a6 : Int} {a7 : Int} {a8 : Int} {a10 : Int} {a11 : Int} {a12 : Int} {z0 : Int} (hsk : m_Sk X) (hd : 10 ≤ d) (hG : m_G d yX12_siege.cls yX12_siege.name cX12_siege 13 n0 s0 nF sF Ω) {out : ((NN × Int × Int × Int × Int × Int × Int × Int × Int × Int × Int) ⊕ (NN × Int × Int × Int × Int × Int))} (hK0 : ∀ s' : (NN × Int × Int × Int × Int × Int × Int × Int × Int × Int × Int), out = .inl s' → Ω 230 ([some (.inr (.inr 64)), some (.inl (s'.2.1)), some (.inl (s'.2.2.1)), some (.inl (s'.2.2.2.1)), some (.inl (s'.2.2.2.2.1)), some (.inl (s'.2.2.2.2.2.1)), some (.inl (s'.2.2.2.2.2.2.1)), some (.inl (s'.2.2.2.2.2.2.2.1)), some (.inl (s'.2.2.2.2.2.2.2.2.1)), some (.inl (s'.2.2.2.2.2.2.2.2.2.1)), some (.inl (s'.2.2.2.2.2.2.2.2.2.2)), none, none], [], s'.1, X)) (hK1 : ∀ t : (NN × Int × Int × Int × Int × Int), out = .inr t → Ω 397 ([some (.inr (.inr 64)), none, none, none, some (.inl t.2.1), some (.inl t.2.2.1), none, some (.inl t.2.2.2.1), some (.inl t.2.2.2.2.1), some (.inl t.2.2.2.2.2), none, none, none], [], t.1, X)) (hF : f_X12_siege_l230_j358 X N a1 a2 a3 a4 a5 a6 a7 a8 a10 a11 a12 z0 = some out) : Ω 358 ([some (.inr (.inr 64)), some (.inl a1), some (.inl a2), some (.inl a3), some (.inl a4), some (.inl a5), some (.inl a6), some (.inl a7), some (.inl a8), none, some (.inl a10), some (.inl a11), some (.inl a12)], [(.inl z0)], N, X) := by
  unfold f_X12_siege_l230_j358 at hF
  refine s_istore hG dX12_siege_358 (by decide) rfl ?_
  refine s_iload hG dX12_siege_360 rfl ?_
  refine s_if_eq hG 373 dX12_siege_362 (by decide) (fun c43 => ?_) (fun c43 => ?_)
  · replace hF := Eq.trans (if_pos c43).symm hF
    refine s_iload hG dX12_siege_373 rfl ?_
    refine m_weak (ls1 := [some (.inr (.inr 64)), some (.inl a1), some (.inl a2), some (.inl a3), some (.inl a4), some (.inl a5), some (.inl a6), none, some (.inl a8), some (.inl z0), some (.inl a10), some (.inl a11), some (.inl a12)]) hG ⟨rfl, ⟨rfl, ⟨rfl, ⟨rfl, ⟨rfl, ⟨rfl, ⟨rfl, ⟨rfl, ⟨rfl, ⟨rfl, ⟨rfl, ⟨rfl, trivial⟩⟩⟩⟩⟩⟩⟩⟩⟩⟩⟩⟩ ?_
    exact t_X12_siege_l230_j375 hsk hd hG hK0 hK1 hF
  · replace hF := Eq.trans (if_neg c43).symm hF
    refine s_iload hG dX12_siege_365 rfl ?_
    obtain ⟨o42, ho42, hF⟩ := bd_some hF
    refine s_callS (d' := d - 1) (args := [.inl a10]) hG (by omega) dX12_siege_367 cs_RX12_516 cw_X12_ones rfl (Nat.le_of_ble_eq_true rfl) rfl (t_X12_ones hsk (by omega) ho42) ?_
    refine s_goto hG 375 dX12_siege_370 (by decide) ?_
    refine m_weak (ls1 := [some (.inr (.inr 64)), some (.inl a1), some (.inl a2), some (.inl a3), some (.inl a4), some (.inl a5), some (.inl a6), none, some (.inl a8), some (.inl z0), some (.inl a10), some (.inl a11), some (.inl a12)]) hG ⟨rfl, ⟨rfl, ⟨rfl, ⟨rfl, ⟨rfl, ⟨rfl, ⟨rfl, ⟨rfl, ⟨rfl, ⟨rfl, ⟨rfl, ⟨rfl, trivial⟩⟩⟩⟩⟩⟩⟩⟩⟩⟩⟩⟩ ?_
    exact t_X12_siege_l230_j375 hsk hd hG hK0 hK1 hF
theorem t_X12_siege_l230_j344 {d n0 s0 nF sF : Nat} {X : MX} {Ω : Nat → MS → Prop} {N : NN} {a1 : Int} {a2 : Int} {a3 : Int} {a4 : Int} {a5 : Int} {a6 : Int} {a7 : Int} {a8 : Int} {a9 : Int} {a10 : Int} {a11 : Int} {z0 : Int} (hsk : m_Sk X) (hd : 10 ≤ d) (hG : m_G d yX12_siege.cls yX12_siege.name cX12_siege 13 n0 s0 nF sF Ω) {out : ((NN × Int × Int × Int × Int × Int × Int × Int × Int × Int × Int) ⊕ (NN × Int × Int × Int × Int × Int))} (hK0 : ∀ s' : (NN × Int × Int × Int × Int × Int × Int × Int × Int × Int × Int), out = .inl s' → Ω 230 ([some (.inr (.inr 64)), some (.inl (s'.2.1)), some (.inl (s'.2.2.1)), some (.inl (s'.2.2.2.1)), some (.inl (s'.2.2.2.2.1)), some (.inl (s'.2.2.2.2.2.1)), some (.inl (s'.2.2.2.2.2.2.1)), some (.inl (s'.2.2.2.2.2.2.2.1)), some (.inl (s'.2.2.2.2.2.2.2.2.1)), some (.inl (s'.2.2.2.2.2.2.2.2.2.1)), some (.inl (s'.2.2.2.2.2.2.2.2.2.2)), none, none], [], s'.1, X)) (hK1 : ∀ t : (NN × Int × Int × Int × Int × Int), out = .inr t → Ω 397 ([some (.inr (.inr 64)), none, none, none, some (.inl t.2.1), some (.inl t.2.2.1), none, some (.inl t.2.2.2.1), some (.inl t.2.2.2.2.1), some (.inl t.2.2.2.2.2), none, none, none], [], t.1, X)) (hF : f_X12_siege_l230_j344 X N a1 a2 a3 a4 a5 a6 a7 a8 a9 a10 a11 z0 = some out) : Ω 344 ([some (.inr (.inr 64)), some (.inl a1), some (.inl a2), some (.inl a3), some (.inl a4), some (.inl a5), some (.inl a6), some (.inl a7), some (.inl a8), some (.inl a9), some (.inl a10), some (.inl a11), none], [(.inl z0)], N, X) := by
  unfold f_X12_siege_l230_j344 at hF
  refine s_istore hG dX12_siege_344 (by decide) rfl ?_
  refine s_iload hG dX12_siege_346 rfl ?_
  refine s_if_eq hG 356 dX12_siege_348 (by decide) (fun c41 => ?_) (fun c41 => ?_)
  · replace hF := Eq.trans (if_pos c41).symm hF
    refine s_iload hG dX12_siege_356 rfl ?_
    refine m_weak (ls1 := [some (.inr (.inr 64)), some (.inl a1), some (.inl a2), some (.inl a3), some (.inl a4), some (.inl a5), some (.inl a6), some (.inl a7), some (.inl a8), none, some (.inl a10), some (.inl a11), some (.inl z0)]) hG ⟨rfl, ⟨rfl, ⟨rfl, ⟨rfl, ⟨rfl, ⟨rfl, ⟨rfl, ⟨rfl, ⟨rfl, ⟨rfl, ⟨rfl, ⟨rfl, trivial⟩⟩⟩⟩⟩⟩⟩⟩⟩⟩⟩⟩ ?_
    exact t_X12_siege_l230_j358 hsk hd hG hK0 hK1 hF
  · replace hF := Eq.trans (if_neg c41).symm hF
    refine s_iload hG dX12_siege_351 rfl ?_
    refine s_goto hG 358 dX12_siege_353 (by decide) ?_
    refine m_weak (ls1 := [some (.inr (.inr 64)), some (.inl a1), some (.inl a2), some (.inl a3), some (.inl a4), some (.inl a5), some (.inl a6), some (.inl a7), some (.inl a8), none, some (.inl a10), some (.inl a11), some (.inl z0)]) hG ⟨rfl, ⟨rfl, ⟨rfl, ⟨rfl, ⟨rfl, ⟨rfl, ⟨rfl, ⟨rfl, ⟨rfl, ⟨rfl, ⟨rfl, ⟨rfl, trivial⟩⟩⟩⟩⟩⟩⟩⟩⟩⟩⟩⟩ ?_
    exact t_X12_siege_l230_j358 hsk hd hG hK0 hK1 hF
theorem t_X12_siege_l230_j343 {d n0 s0 nF sF : Nat} {X : MX} {Ω : Nat → MS → Prop} {N : NN} {a1 : Int} {a2 : Int} {a3 : Int} {a4 : Int} {a5 : Int} {a6 : Int} {a7 : Int} {a8 : Int} {a9 : Int} {a10 : Int} {a11 : Int} (hsk : m_Sk X) (hd : 10 ≤ d) (hG : m_G d yX12_siege.cls yX12_siege.name cX12_siege 13 n0 s0 nF sF Ω) {out : ((NN × Int × Int × Int × Int × Int × Int × Int × Int × Int × Int) ⊕ (NN × Int × Int × Int × Int × Int))} (hK0 : ∀ s' : (NN × Int × Int × Int × Int × Int × Int × Int × Int × Int × Int), out = .inl s' → Ω 230 ([some (.inr (.inr 64)), some (.inl (s'.2.1)), some (.inl (s'.2.2.1)), some (.inl (s'.2.2.2.1)), some (.inl (s'.2.2.2.2.1)), some (.inl (s'.2.2.2.2.2.1)), some (.inl (s'.2.2.2.2.2.2.1)), some (.inl (s'.2.2.2.2.2.2.2.1)), some (.inl (s'.2.2.2.2.2.2.2.2.1)), some (.inl (s'.2.2.2.2.2.2.2.2.2.1)), some (.inl (s'.2.2.2.2.2.2.2.2.2.2)), none, none], [], s'.1, X)) (hK1 : ∀ t : (NN × Int × Int × Int × Int × Int), out = .inr t → Ω 397 ([some (.inr (.inr 64)), none, none, none, some (.inl t.2.1), some (.inl t.2.2.1), none, some (.inl t.2.2.2.1), some (.inl t.2.2.2.2.1), some (.inl t.2.2.2.2.2), none, none, none], [], t.1, X)) (hF : f_X12_siege_l230_j343 X N a1 a2 a3 a4 a5 a6 a7 a8 a9 a10 a11 = some out) : Ω 343 ([some (.inr (.inr 64)), some (.inl a1), some (.inl a2), some (.inl a3), some (.inl a4), some (.inl a5), some (.inl a6), some (.inl a7), some (.inl a8), some (.inl a9), some (.inl a10), some (.inl a11), none], [], N, X) := by
  unfold f_X12_siege_l230_j343 at hF
  refine s_iconst hG dX12_siege_343 ⟨by decide, by decide⟩ ?_
  exact t_X12_siege_l230_j344 hsk hd hG hK0 hK1 hF
theorem t_X12_siege_l230_j327 {d n0 s0 nF sF : Nat} {X : MX} {Ω : Nat → MS → Prop} {N : NN} {a1 : Int} {a2 : Int} {a3 : Int} {a4 : Int} {a5 : Int} {a6 : Int} {a7 : Int} {a8 : Int} {a9 : Int} {a10 : Int} {a11 : Int} (hsk : m_Sk X) (hd : 10 ≤ d) (hG : m_G d yX12_siege.cls yX12_siege.name cX12_siege 13 n0 s0 nF sF Ω) {out : ((NN × Int × Int × Int × Int × Int × Int × Int × Int × Int × Int) ⊕ (NN × Int × Int × Int × Int × Int))} (hK0 : ∀ s' : (NN × Int × Int × Int × Int × Int × Int × Int × Int × Int × Int), out = .inl s' → Ω 230 ([some (.inr (.inr 64)), some (.inl (s'.2.1)), some (.inl (s'.2.2.1)), some (.inl (s'.2.2.2.1)), some (.inl (s'.2.2.2.2.1)), some (.inl (s'.2.2.2.2.2.1)), some (.inl (s'.2.2.2.2.2.2.1)), some (.inl (s'.2.2.2.2.2.2.2.1)), some (.inl (s'.2.2.2.2.2.2.2.2.1)), some (.inl (s'.2.2.2.2.2.2.2.2.2.1)), some (.inl (s'.2.2.2.2.2.2.2.2.2.2)), none, none], [], s'.1, X)) (hK1 : ∀ t : (NN × Int × Int × Int × Int × Int), out = .inr t → Ω 397 ([some (.inr (.inr 64)), none, none, none, some (.inl t.2.1), some (.inl t.2.2.1), none, some (.inl t.2.2.2.1), some (.inl t.2.2.2.2.1), some (.inl t.2.2.2.2.2), none, none, none], [], t.1, X)) (hF : f_X12_siege_l230_j327 X N a1 a2 a3 a4 a5 a6 a7 a8 a9 a10 a11 = some out) : Ω 327 ([some (.inr (.inr 64)), some (.inl a1), some (.inl a2), some (.inl a3), some (.inl a4), some (.inl a5), some (.inl a6), some (.inl a7), some (.inl a8), some (.inl a9), some (.inl a10), some (.inl a11), none], [], N, X) := by
  unfold f_X12_siege_l230_j327 at hF
  refine s_aload_n hG dX12_siege_327 rfl ?_
  refine s_iload_n hG dX12_siege_328 rfl ?_
  refine s_iload_n hG dX12_siege_329 rfl ?_
  refine s_iload hG dX12_siege_330 rfl ?_
  obtain ⟨o39, ho39, hF⟩ := bd_some hF
  refine s_callV (d' := d - 1) (ci := 12) (args := [.inl a2, .inl a3, .inl a10]) hG (by omega) dX12_siege_332 cv_RX12_512 cw_X12_ruinedIn rfl rfl (sk_k hsk 64 rfl) (Nat.le_of_ble_eq_true rfl) rfl (t_X12_ruinedIn hsk (by omega) ho39) ?_
  refine s_iconst hG dX12_siege_335 ⟨by decide, by decide⟩ ?_
  refine s_icmp_eq hG 343 dX12_siege_336 (by decide) (fun c40 => ?_) (fun c40 => ?_)
  · replace hF := Eq.trans (if_pos c40).symm hF
    exact t_X12_siege_l230_j343 hsk hd hG hK0 hK1 hF
  · replace hF := Eq.trans (if_neg c40).symm hF
    refine s_iconst hG dX12_siege_339 ⟨by decide, by decide⟩ ?_
    refine s_goto hG 344 dX12_siege_340 (by decide) ?_
    exact t_X12_siege_l230_j344 hsk hd hG hK0 hK1 hF
theorem t_X12_siege_b230 {d n0 s0 nF sF : Nat} {X : MX} {Ω : Nat → MS → Prop} {N : NN} {a1 : Int} {a2 : Int} {a3 : Int} {a4 : Int} {a5 : Int} {a6 : Int} {a7 : Int} {a8 : Int} {a9 : Int} {a10 : Int} (hsk : m_Sk X) (hd : 10 ≤ d) (hG : m_G d yX12_siege.cls yX12_siege.name cX12_siege 13 n0 s0 nF sF Ω) {out : ((NN × Int × Int × Int × Int × Int × Int × Int × Int × Int × Int) ⊕ (NN × Int × Int × Int × Int × Int))} (hK0 : ∀ s' : (NN × Int × Int × Int × Int × Int × Int × Int × Int × Int × Int), out = .inl s' → Ω 230 ([some (.inr (.inr 64)), some (.inl (s'.2.1)), some (.inl (s'.2.2.1)), some (.inl (s'.2.2.2.1)), some (.inl (s'.2.2.2.2.1)), some (.inl (s'.2.2.2.2.2.1)), some (.inl (s'.2.2.2.2.2.2.1)), some (.inl (s'.2.2.2.2.2.2.2.1)), some (.inl (s'.2.2.2.2.2.2.2.2.1)), some (.inl (s'.2.2.2.2.2.2.2.2.2.1)), some (.inl (s'.2.2.2.2.2.2.2.2.2.2)), none, none], [], s'.1, X)) (hK1 : ∀ t : (NN × Int × Int × Int × Int × Int), out = .inr t → Ω 397 ([some (.inr (.inr 64)), none, none, none, some (.inl t.2.1), some (.inl t.2.2.1), none, some (.inl t.2.2.2.1), some (.inl t.2.2.2.2.1), some (.inl t.2.2.2.2.2), none, none, none], [], t.1, X)) (hF : b_X12_siege_230 X N a1 a2 a3 a4 a5 a6 a7 a8 a9 a10 = some out) : Ω 230 ([some (.inr (.inr 64)), some (.inl a1), some (.inl a2), some (.inl a3), some (.inl a4), some (.inl a5), some (.inl a6), some (.inl a7), some (.inl a8), some (.inl a9), some (.inl a10), none, none], [], N, X) := by
  unfold b_X12_siege_230 at hF
  refine s_iload hG dX12_siege_230 rfl ?_
  refine s_iconst hG dX12_siege_232 ⟨by decide, by decide⟩ ?_
  refine s_iload hG dX12_siege_233 rfl ?_
  refine s_ishl hG dX12_siege_235 ?_
  refine s_icmp_ge hG 397 dX12_siege_236 (by decide) (fun c38 => ?_) (fun c38 => ?_)
  · replace hF := Eq.trans (if_pos c38).symm hF
    refine s_iconst hG dX12_siege_239 ⟨by decide, by decide⟩ ?_
    refine s_istore hG dX12_siege_240 (by decide) rfl ?_
    refine s_iconst hG dX12_siege_242 ⟨by decide, by decide⟩ ?_
    refine s_istore hG dX12_siege_243 (by decide) rfl ?_
    obtain ⟨o31, hlo31, hF⟩ := bd_some hF
    refine t_X12_siege_lp245 hsk hd hG ?_ hlo31
    refine s_iload hG dX12_siege_290 rfl ?_
    refine s_iload hG dX12_siege_292 rfl ?_
    refine s_iconst hG dX12_siege_294 ⟨by decide, by decide⟩ ?_
    refine s_ixor hG dX12_siege_295 ?_
    refine s_iand hG dX12_siege_296 ?_
    refine s_if_ne hG 343 dX12_siege_297 (by decide) (fun c37 => ?_) (fun c37 => ?_)
    · replace hF := Eq.trans (if_pos c37).symm hF
      refine s_iload hG dX12_siege_300 rfl ?_
      obtain ⟨o32, ho32, hF⟩ := bd_some hF
      refine s_callS (d' := d - 1) (args := [.inl o31.2.2.2.2.2.2.2.2.2.2.1]) hG (by omega) dX12_siege_302 cs_RX12_516 cw_X12_ones rfl (Nat.le_of_ble_eq_true rfl) rfl (t_X12_ones hsk (by omega) ho32) ?_
      refine s_iload hG dX12_siege_305 rfl ?_
      refine s_icmp_lt hG 327 dX12_siege_307 (by decide) (fun c36 => ?_) (fun c36 => ?_)
      · replace hF := Eq.trans (if_pos c36).symm hF
        exact t_X12_siege_l230_j327 hsk hd hG hK0 hK1 hF
      · replace hF := Eq.trans (if_neg c36).symm hF
        refine s_iload hG dX12_siege_310 rfl ?_
        obtain ⟨o33, ho33, hF⟩ := bd_some hF
        refine s_callS (d' := d - 1) (args := [.inl o31.2.2.2.2.2.2.2.2.2.2.1]) hG (by omega) dX12_siege_312 cs_RX12_516 cw_X12_ones rfl (Nat.le_of_ble_eq_true rfl) rfl (t_X12_ones hsk (by omega) ho33) ?_
        refine s_iload hG dX12_siege_315 rfl ?_
        refine s_icmp_ne hG 343 dX12_siege_317 (by decide) (fun c35 => ?_) (fun c35 => ?_)
        · replace hF := Eq.trans (if_pos c35).symm hF
          refine s_iload hG dX12_siege_320 rfl ?_
          refine s_iload hG dX12_siege_322 rfl ?_
          refine s_icmp_ge hG 343 dX12_siege_324 (by decide) (fun c34 => ?_) (fun c34 => ?_)
          · replace hF := Eq.trans (if_pos c34).symm hF
            exact t_X12_siege_l230_j327 hsk hd hG hK0 hK1 hF
          · replace hF := Eq.trans (if_neg c34).symm hF
            exact t_X12_siege_l230_j343 hsk hd hG hK0 hK1 hF
        · replace hF := Eq.trans (if_neg c35).symm hF
          exact t_X12_siege_l230_j343 hsk hd hG hK0 hK1 hF
    · replace hF := Eq.trans (if_neg c37).symm hF
      exact t_X12_siege_l230_j343 hsk hd hG hK0 hK1 hF
  · replace hF := Eq.trans (if_neg c38).symm hF
    cases hF
    refine m_weak (ls1 := [some (.inr (.inr 64)), none, none, none, some (.inl a4), some (.inl a5), none, some (.inl a7), some (.inl a8), some (.inl a9), none, none, none]) hG ⟨rfl, ⟨rfl, ⟨rfl, ⟨rfl, ⟨rfl, ⟨rfl, trivial⟩⟩⟩⟩⟩⟩ ?_
    exact hK1 _ rfl
theorem t_X12_siege_lp230 {d n0 s0 nF sF : Nat} {X : MX} {Ω : Nat → MS → Prop} {N : NN} {a1 : Int} {a2 : Int} {a3 : Int} {a4 : Int} {a5 : Int} {a6 : Int} {a7 : Int} {a8 : Int} {a9 : Int} {a10 : Int} (hsk : m_Sk X) (hd : 10 ≤ d) (hG : m_G d yX12_siege.cls yX12_siege.name cX12_siege 13 n0 s0 nF sF Ω) {t : (NN × Int × Int × Int × Int × Int)} (hK1 : Ω 397 ([some (.inr (.inr 64)), none, none, none, some (.inl t.2.1), some (.inl t.2.2.1), none, some (.inl t.2.2.2.1), some (.inl t.2.2.2.2.1), some (.inl t.2.2.2.2.2), none, none, none], [], t.1, X)) (hl : lp (fun s => b_X12_siege_230 X s.1 s.2.1 s.2.2.1 s.2.2.2.1 s.2.2.2.2.1 s.2.2.2.2.2.1 s.2.2.2.2.2.2.1 s.2.2.2.2.2.2.2.1 s.2.2.2.2.2.2.2.2.1 s.2.2.2.2.2.2.2.2.2.1 s.2.2.2.2.2.2.2.2.2.2) (N, a1, a2, a3, a4, a5, a6, a7, a8, a9, a10) = some t) : Ω 230 ([some (.inr (.inr 64)), some (.inl a1), some (.inl a2), some (.inl a3), some (.inl a4), some (.inl a5), some (.inl a6), some (.inl a7), some (.inl a8), some (.inl a9), some (.inl a10), none, none], [], N, X) := by
  refine lp_ok (P := fun s => Ω 230 ([some (.inr (.inr 64)), some (.inl s.2.1), some (.inl s.2.2.1), some (.inl s.2.2.2.1), some (.inl s.2.2.2.2.1), some (.inl s.2.2.2.2.2.1), some (.inl s.2.2.2.2.2.2.1), some (.inl s.2.2.2.2.2.2.2.1), some (.inl s.2.2.2.2.2.2.2.2.1), some (.inl s.2.2.2.2.2.2.2.2.2.1), some (.inl s.2.2.2.2.2.2.2.2.2.2), none, none], [], s.1, X)) (K := fun t => Ω 397 ([some (.inr (.inr 64)), none, none, none, some (.inl t.2.1), some (.inl t.2.2.1), none, some (.inl t.2.2.2.1), some (.inl t.2.2.2.2.1), some (.inl t.2.2.2.2.2), none, none, none], [], t.1, X)) (fun s out hF hK0 hK1 => ?_) hl hK1
  exact t_X12_siege_b230 hsk hd hG (out := out) (fun s' e => hK0 s' e) (fun t' e => hK1 t' e) hF
theorem t_X12_siege_l438_j470 {d n0 s0 nF sF : Nat} {X : MX} {Ω : Nat → MS → Prop} {N : NN} {a5 : Int} {a9 : Int} {a11 : Int} {z0 : Int} {z1 : Int} (hsk : m_Sk X) (hd : 10 ≤ d) (hG : m_G d yX12_siege.cls yX12_siege.name cX12_siege 13 n0 s0 nF sF Ω) {out : ((NN × Int × Int × Int × Int) ⊕ (NN × Int))} (hK0 : ∀ s' : (NN × Int × Int × Int × Int), out = .inl s' → Ω 438 ([some (.inr (.inr 64)), none, none, none, none, some (.inl (s'.2.1)), none, none, none, some (.inl (s'.2.2.1)), some (.inl (s'.2.2.2.1)), some (.inl (s'.2.2.2.2)), none], [], s'.1, X)) (hK1 : ∀ t : (NN × Int), out = .inr t → Ω 479 ([none, none, none, none, none, none, none, none, none, none, some (.inl t.2), none, none], [], t.1, X)) (hF : f_X12_siege_l438_j470 X N a5 a9 a11 z0 z1 = some out) : Ω 470 ([some (.inr (.inr 64)), none, none, none, none, some (.inl a5), none, none, none, some (.inl a9), none, some (.inl a11), none], [(.inl z1), (.inl z0)], N, X) := by
  unfold f_X12_siege_l438_j470 at hF
  refine s_ior hG dX12_siege_470 ?_
  refine s_istore hG dX12_siege_471 (by decide) rfl ?_
  refine s_iinc hG dX12_siege_473 (by decide) rfl rfl ?_
  refine s_goto hG 438 dX12_siege_476 (by decide) ?_
  cases hF
  exact hK0 _ rfl
theorem t_X12_siege_b438 {d n0 s0 nF sF : Nat} {X : MX} {Ω : Nat → MS → Prop} {N : NN} {a5 : Int} {a9 : Int} {a10 : Int} {a11 : Int} (hsk : m_Sk X) (hd : 10 ≤ d) (hG : m_G d yX12_siege.cls yX12_siege.name cX12_siege 13 n0 s0 nF sF Ω) {out : ((NN × Int × Int × Int × Int) ⊕ (NN × Int))} (hK0 : ∀ s' : (NN × Int × Int × Int × Int), out = .inl s' → Ω 438 ([some (.inr (.inr 64)), none, none, none, none, some (.inl (s'.2.1)), none, none, none, some (.inl (s'.2.2.1)), some (.inl (s'.2.2.2.1)), some (.inl (s'.2.2.2.2)), none], [], s'.1, X)) (hK1 : ∀ t : (NN × Int), out = .inr t → Ω 479 ([none, none, none, none, none, none, none, none, none, none, some (.inl t.2), none, none], [], t.1, X)) (hF : b_X12_siege_438 X N a5 a9 a10 a11 = some out) : Ω 438 ([some (.inr (.inr 64)), none, none, none, none, some (.inl a5), none, none, none, some (.inl a9), some (.inl a10), some (.inl a11), none], [], N, X) := by
  unfold b_X12_siege_438 at hF
  refine s_iload hG dX12_siege_438 rfl ?_
  refine s_iload hG dX12_siege_440 rfl ?_
  refine s_icmp_ge hG 479 dX12_siege_442 (by decide) (fun c49 => ?_) (fun c49 => ?_)
  · replace hF := Eq.trans (if_pos c49).symm hF
    refine s_iload hG dX12_siege_445 rfl ?_
    refine s_iload hG dX12_siege_447 rfl ?_
    refine s_iload hG dX12_siege_449 rfl ?_
    obtain ⟨o46, ho46, hF⟩ := bd_some hF
    refine s_callS (d' := d - 1) (args := [.inl a9, .inl a11]) hG (by omega) dX12_siege_451 cs_RX12_458 cw_X12_is rfl (Nat.le_of_ble_eq_true rfl) rfl (t_X12_is hsk (by omega) ho46) ?_
    refine s_if_eq hG 469 dX12_siege_454 (by decide) (fun c48 => ?_) (fun c48 => ?_)
    · replace hF := Eq.trans (if_pos c48).symm hF
      refine s_iconst hG dX12_siege_469 ⟨by decide, by decide⟩ ?_
      refine m_weak (ls1 := [some (.inr (.inr 64)), none, none, none, none, some (.inl a5), none, none, none, some (.inl a9), none, some (.inl a11), none]) hG ⟨rfl, ⟨rfl, ⟨rfl, ⟨rfl, trivial⟩⟩⟩⟩ ?_
      exact t_X12_siege_l438_j470 hsk hd hG hK0 hK1 hF
    · replace hF := Eq.trans (if_neg c48).symm hF
      refine s_iconst hG dX12_siege_457 ⟨by decide, by decide⟩ ?_
      refine s_aload_n hG dX12_siege_458 rfl ?_
      refine s_getr (r := 90) hG dX12_siege_459 fl_RX12_121 (sk_k hsk 64 rfl) rfl (sk_R hsk 64 47 rfl) ?_
      refine s_iload hG dX12_siege_462 rfl ?_
      obtain ⟨g47, hF⟩ := gd_some hF
      refine s_ialdj (j := a11.toNat) hG dX12_siege_464 (sk_K hsk 90 rfl) g47 rfl ?_
      refine s_ishl hG dX12_siege_465 ?_
      refine s_goto hG 470 dX12_siege_466 (by decide) ?_
      refine m_weak (ls1 := [some (.inr (.inr 64)), none, none, none, none, some (.inl a5), none, none, none, some (.inl a9), none, some (.inl a11), none]) hG ⟨rfl, ⟨rfl, ⟨rfl, ⟨rfl, trivial⟩⟩⟩⟩ ?_
      exact t_X12_siege_l438_j470 hsk hd hG hK0 hK1 hF
  · replace hF := Eq.trans (if_neg c49).symm hF
    cases hF
    refine m_weak (ls1 := [none, none, none, none, none, none, none, none, none, none, some (.inl a10), none, none]) hG ⟨rfl, trivial⟩ ?_
    exact hK1 _ rfl
theorem t_X12_siege_lp438 {d n0 s0 nF sF : Nat} {X : MX} {Ω : Nat → MS → Prop} {N : NN} {a5 : Int} {a9 : Int} {a10 : Int} {a11 : Int} (hsk : m_Sk X) (hd : 10 ≤ d) (hG : m_G d yX12_siege.cls yX12_siege.name cX12_siege 13 n0 s0 nF sF Ω) {t : (NN × Int)} (hK1 : Ω 479 ([none, none, none, none, none, none, none, none, none, none, some (.inl t.2), none, none], [], t.1, X)) (hl : lp (fun s => b_X12_siege_438 X s.1 s.2.1 s.2.2.1 s.2.2.2.1 s.2.2.2.2) (N, a5, a9, a10, a11) = some t) : Ω 438 ([some (.inr (.inr 64)), none, none, none, none, some (.inl a5), none, none, none, some (.inl a9), some (.inl a10), some (.inl a11), none], [], N, X) := by
  refine lp_ok (P := fun s => Ω 438 ([some (.inr (.inr 64)), none, none, none, none, some (.inl s.2.1), none, none, none, some (.inl s.2.2.1), some (.inl s.2.2.2.1), some (.inl s.2.2.2.2), none], [], s.1, X)) (K := fun t => Ω 479 ([none, none, none, none, none, none, none, none, none, none, some (.inl t.2), none, none], [], t.1, X)) (fun s out hF hK0 hK1 => ?_) hl hK1
  exact t_X12_siege_b438 hsk hd hG (out := out) (fun s' e => hK0 s' e) (fun t' e => hK1 t' e) hF
theorem t_X12_siege_j71 {d n0 s0 nF sF : Nat} {X : MX} {Ω : Nat → MS → Prop} {N : NN} (hsk : m_Sk X) (hd : 10 ≤ d) (hG : m_G d yX12_siege.cls yX12_siege.name cX12_siege 13 n0 s0 nF sF Ω) {out : (Int × NN)} (hE : m_Gd d yX12_siege cX12_siege 13 (some .int) X (some (.inl out.1)) out.2 X Ω) (hF : f_X12_siege_j71 X N = some out) : Ω 71 ([none, none, none, none, none, none, none, none, none, none, none, none, none], [], N, X) := by
  unfold f_X12_siege_j71 at hF
  refine s_iconst hG dX12_siege_71 ⟨by decide, by decide⟩ ?_
  cases hF
  exact s_iret hE dX12_siege_72 rfl
theorem t_X12_siege_j431 {d n0 s0 nF sF : Nat} {X : MX} {Ω : Nat → MS → Prop} {N : NN} {z0 : Int} (hsk : m_Sk X) (hd : 10 ≤ d) (hG : m_G d yX12_siege.cls yX12_siege.name cX12_siege 13 n0 s0 nF sF Ω) {out : (Int × NN)} (hE : m_Gd d yX12_siege cX12_siege 13 (some .int) X (some (.inl out.1)) out.2 X Ω) (hF : f_X12_siege_j431 X N z0 = some out) : Ω 431 ([none, none, none, none, none, none, none, none, none, none, none, none, none], [(.inl z0)], N, X) := by
  unfold f_X12_siege_j431 at hF
  cases hF
  exact s_iret hE dX12_siege_431 rfl
theorem t_X12_siege_j409 {d n0 s0 nF sF : Nat} {X : MX} {Ω : Nat → MS → Prop} {N : NN} {a4 : Int} {a7 : Int} {a8 : Int} {a9 : Int} (hsk : m_Sk X) (hd : 10 ≤ d) (hG : m_G d yX12_siege.cls yX12_siege.name cX12_siege 13 n0 s0 nF sF Ω) {out : (Int × NN)} (hE : m_Gd d yX12_siege cX12_siege 13 (some .int) X (some (.inl out.1)) out.2 X Ω) (hF : f_X12_siege_j409 X N a4 a7 a8 a9 = some out) : Ω 409 ([none, none, none, none, some (.inl a4), none, none, some (.inl a7), some (.inl a8), some (.inl a9), none, none, none], [], N, X) := by
  unfold f_X12_siege_j409 at hF
  refine s_iload hG dX12_siege_409 rfl ?_
  refine s_iconst hG dX12_siege_411 ⟨by decide, by decide⟩ ?_
  refine s_icmp_ne hG 419 dX12_siege_412 (by decide) (fun c61 => ?_) (fun c61 => ?_)
  · replace hF := Eq.trans (if_pos c61).symm hF
    refine s_iconst hG dX12_siege_415 ⟨by decide, by decide⟩ ?_
    refine s_goto hG 431 dX12_siege_416 (by decide) ?_
    refine m_weak (ls1 := [none, none, none, none, none, none, none, none, none, none, none, none, none]) hG trivial ?_
    exact t_X12_siege_j431 hsk hd hG hE hF
  · replace hF := Eq.trans (if_neg c61).symm hF
    refine s_iload hG dX12_siege_419 rfl ?_
    refine s_if_ne hG 429 dX12_siege_421 (by decide) (fun c60 => ?_) (fun c60 => ?_)
    · replace hF := Eq.trans (if_pos c60).symm hF
      refine s_iload hG dX12_siege_424 rfl ?_
      refine s_goto hG 431 dX12_siege_426 (by decide) ?_
      refine m_weak (ls1 := [none, none, none, none, none, none, none, none, none, none, none, none, none]) hG trivial ?_
      exact t_X12_siege_j431 hsk hd hG hE hF
    · replace hF := Eq.trans (if_neg c60).symm hF
      refine s_iload hG dX12_siege_429 rfl ?_
      refine m_weak (ls1 := [none, none, none, none, none, none, none, none, none, none, none, none, none]) hG trivial ?_
      exact t_X12_siege_j431 hsk hd hG hE hF
theorem t_X12_siege {d : Nat} {X : MX} {N : NN} {a1 : Int} {a2 : Int} {a3 : Int} {a4 : Int} {out : (Int × NN)} (hsk : m_Sk X) (hd : 10 ≤ d) (hF : f_X12_siege X N a1 a2 a3 a4 = some out) : m_Call d yX12_siege cX12_siege 13 (some .int) [(.inr (.inr 64)), (.inl a1), (.inl a2), (.inl a3), (.inl a4)] N X (some (.inl out.1)) out.2 X := by
  refine m_mk (ls0 := [some (.inr (.inr 64)), some (.inl a1), some (.inl a2), some (.inl a3), some (.inl a4), none, none, none, none, none, none, none, none]) (by decide) rfl (Nat.le_of_ble_eq_true rfl) (Nat.le_refl _) (Nat.le_refl _) (fun Ω hE => ?_)
  have hG := hE.G
  unfold f_X12_siege at hF
  refine s_aload_n hG dX12_siege_0 rfl ?_
  refine s_iconst hG dX12_siege_1 ⟨by decide, by decide⟩ ?_
  refine s_puti hG dX12_siege_2 fl_RX12_166 (fun h => by cases h) (sk_k hsk 64 rfl) rfl ?_
  refine s_aload_n hG dX12_siege_5 rfl ?_
  refine s_iload_n hG dX12_siege_6 rfl ?_
  obtain ⟨o2, ho2, hF⟩ := bd_some hF
  refine s_callV (d' := d - 1) (ci := 12) (args := [.inl a1]) hG (by omega) dX12_siege_7 cv_RX12_198 cw_X12_isLord rfl rfl (sk_k hsk 64 rfl) (Nat.le_of_ble_eq_true rfl) rfl (t_X12_isLord hsk (by omega) ho2) ?_
  refine s_if_eq hG 71 dX12_siege_10 (by decide) (fun c59 => ?_) (fun c59 => ?_)
  · replace hF := Eq.trans (if_pos c59).symm hF
    refine m_weak (ls1 := [none, none, none, none, none, none, none, none, none, none, none, none, none]) hG trivial ?_
    exact t_X12_siege_j71 hsk hd hG hE hF
  · replace hF := Eq.trans (if_neg c59).symm hF
    refine s_aload_n hG dX12_siege_13 rfl ?_
    refine s_iload_n hG dX12_siege_14 rfl ?_
    obtain ⟨o3, ho3, hF⟩ := bd_some hF
    refine s_callV (d' := d - 1) (ci := 12) (args := [.inl a2]) hG (by omega) dX12_siege_15 cv_RX12_198 cw_X12_isLord rfl rfl (sk_k hsk 64 rfl) (Nat.le_of_ble_eq_true rfl) rfl (t_X12_isLord hsk (by omega) ho3) ?_
    refine s_if_eq hG 71 dX12_siege_18 (by decide) (fun c58 => ?_) (fun c58 => ?_)
    · replace hF := Eq.trans (if_pos c58).symm hF
      refine m_weak (ls1 := [none, none, none, none, none, none, none, none, none, none, none, none, none]) hG trivial ?_
      exact t_X12_siege_j71 hsk hd hG hE hF
    · replace hF := Eq.trans (if_neg c58).symm hF
      refine s_iload_n hG dX12_siege_21 rfl ?_
      refine s_iload_n hG dX12_siege_22 rfl ?_
      refine s_icmp_eq hG 71 dX12_siege_23 (by decide) (fun c57 => ?_) (fun c57 => ?_)
      · replace hF := Eq.trans (if_pos c57).symm hF
        refine m_weak (ls1 := [none, none, none, none, none, none, none, none, none, none, none, none, none]) hG trivial ?_
        exact t_X12_siege_j71 hsk hd hG hE hF
      · replace hF := Eq.trans (if_neg c57).symm hF
        refine s_iload_n hG dX12_siege_26 rfl ?_
        refine s_i2l hG dX12_siege_27 ?_
        refine s_lconst (v := 1) hG dX12_siege_28 rfl ⟨by decide, by decide⟩ ?_
        refine s_ldc2 hG dX12_siege_29 kc_RX12_234 ⟨by decide, by decide⟩ ?_
        obtain ⟨o4, ho4, hF⟩ := bd_some hF
        refine s_callS (d' := d - 1) (args := [.inr (.inl a3), .inr (.inl 1), .inr (.inl 9)]) hG (by omega) dX12_siege_32 cs_RX12_179 cw_X12_in rfl (Nat.le_of_ble_eq_true rfl) rfl (t_X12_in hsk (by omega) ho4) ?_
        refine s_if_eq hG 71 dX12_siege_35 (by decide) (fun c56 => ?_) (fun c56 => ?_)
        · replace hF := Eq.trans (if_pos c56).symm hF
          refine m_weak (ls1 := [none, none, none, none, none, none, none, none, none, none, none, none, none]) hG trivial ?_
          exact t_X12_siege_j71 hsk hd hG hE hF
        · replace hF := Eq.trans (if_neg c56).symm hF
          refine s_iload hG dX12_siege_38 rfl ?_
          refine s_i2l hG dX12_siege_40 ?_
          refine s_lconst (v := 0) hG dX12_siege_41 rfl ⟨by decide, by decide⟩ ?_
          refine s_ldc2 hG dX12_siege_42 kc_RX12_443 ⟨by decide, by decide⟩ ?_
          obtain ⟨o5, ho5, hF⟩ := bd_some hF
          refine s_callS (d' := d - 1) (args := [.inr (.inl a4), .inr (.inl 0), .inr (.inl 2)]) hG (by omega) dX12_siege_45 cs_RX12_179 cw_X12_in rfl (Nat.le_of_ble_eq_true rfl) rfl (t_X12_in hsk (by omega) ho5) ?_
          refine s_if_eq hG 71 dX12_siege_48 (by decide) (fun c55 => ?_) (fun c55 => ?_)
          · replace hF := Eq.trans (if_pos c55).symm hF
            refine m_weak (ls1 := [none, none, none, none, none, none, none, none, none, none, none, none, none]) hG trivial ?_
            exact t_X12_siege_j71 hsk hd hG hE hF
          · replace hF := Eq.trans (if_neg c55).symm hF
            refine s_aload_n hG dX12_siege_51 rfl ?_
            refine s_iload_n hG dX12_siege_52 rfl ?_
            refine s_iconst hG dX12_siege_53 ⟨by decide, by decide⟩ ?_
            obtain ⟨o6, ho6, hF⟩ := bd_some hF
            refine s_callV (d' := d - 1) (ci := 12) (args := [.inl a2, .inl 2]) hG (by omega) dX12_siege_54 cv_RX12_204 cw_X12_ofLord rfl rfl (sk_k hsk 64 rfl) (Nat.le_of_ble_eq_true rfl) rfl (t_X12_ofLord hsk (by omega) ho6) ?_
            refine s_iconst hG dX12_siege_57 ⟨by decide, by decide⟩ ?_
            refine s_icmp_eq hG 71 dX12_siege_58 (by decide) (fun c54 => ?_) (fun c54 => ?_)
            · replace hF := Eq.trans (if_pos c54).symm hF
              refine m_weak (ls1 := [none, none, none, none, none, none, none, none, none, none, none, none, none]) hG trivial ?_
              exact t_X12_siege_j71 hsk hd hG hE hF
            · replace hF := Eq.trans (if_neg c54).symm hF
              refine s_aload_n hG dX12_siege_61 rfl ?_
              refine s_iload_n hG dX12_siege_62 rfl ?_
              refine s_iconst hG dX12_siege_63 ⟨by decide, by decide⟩ ?_
              obtain ⟨o7, ho7, hF⟩ := bd_some hF
              refine s_callV (d' := d - 1) (ci := 12) (args := [.inl a1, .inl 2]) hG (by omega) dX12_siege_64 cv_RX12_204 cw_X12_ofLord rfl rfl (sk_k hsk 64 rfl) (Nat.le_of_ble_eq_true rfl) rfl (t_X12_ofLord hsk (by omega) ho7) ?_
              refine s_iconst hG dX12_siege_67 ⟨by decide, by decide⟩ ?_
              refine s_icmp_ne hG 73 dX12_siege_68 (by decide) (fun c53 => ?_) (fun c53 => ?_)
              · replace hF := Eq.trans (if_pos c53).symm hF
                refine m_weak (ls1 := [none, none, none, none, none, none, none, none, none, none, none, none, none]) hG trivial ?_
                exact t_X12_siege_j71 hsk hd hG hE hF
              · replace hF := Eq.trans (if_neg c53).symm hF
                refine s_aload_n hG dX12_siege_73 rfl ?_
                refine s_iload_n hG dX12_siege_74 rfl ?_
                refine s_iload_n hG dX12_siege_75 rfl ?_
                obtain ⟨o8, ho8, hF⟩ := bd_some hF
                refine s_callV (d' := d - 1) (ci := 12) (args := [.inl a2, .inl a3]) hG (by omega) dX12_siege_76 cv_RX12_509 cw_X12_layYears rfl rfl (sk_k hsk 64 rfl) (Nat.le_of_ble_eq_true rfl) rfl (t_X12_layYears hsk (by omega) ho8) ?_
                refine s_iconst hG dX12_siege_79 ⟨by decide, by decide⟩ ?_
                refine s_istore hG dX12_siege_80 (by decide) rfl ?_
                refine s_iconst hG dX12_siege_82 ⟨by decide, by decide⟩ ?_
                refine s_istore hG dX12_siege_83 (by decide) rfl ?_
                refine s_iconst hG dX12_siege_85 ⟨by decide, by decide⟩ ?_
                refine s_istore hG dX12_siege_86 (by decide) rfl ?_
                obtain ⟨o25, hlo25, hF⟩ := bd_some hF
                refine t_X12_siege_lp88 hsk hd hG ?_ hlo25
                refine s_ldcw hG dX12_siege_214 kc_RX12_515 ⟨by decide, by decide⟩ ?_
                refine s_istore hG dX12_siege_217 (by decide) rfl ?_
                refine s_ldcw hG dX12_siege_219 kc_RX12_515 ⟨by decide, by decide⟩ ?_
                refine s_istore hG dX12_siege_222 (by decide) rfl ?_
                refine s_iconst hG dX12_siege_224 ⟨by decide, by decide⟩ ?_
                refine s_istore hG dX12_siege_225 (by decide) rfl ?_
                refine s_iconst hG dX12_siege_227 ⟨by decide, by decide⟩ ?_
                refine s_istore hG dX12_siege_228 (by decide) rfl ?_
                obtain ⟨o45, hlo45, hF⟩ := bd_some hF
                refine t_X12_siege_lp230 hsk hd hG ?_ hlo45
                refine s_iload hG dX12_siege_397 rfl ?_
                refine s_iconst hG dX12_siege_399 ⟨by decide, by decide⟩ ?_
                refine s_icmp_eq hG 409 dX12_siege_400 (by decide) (fun c52 => ?_) (fun c52 => ?_)
                · replace hF := Eq.trans (if_pos c52).symm hF
                  refine m_weak (ls1 := [none, none, none, none, some (.inl o45.2.1), none, none, some (.inl o45.2.2.2.1), some (.inl o45.2.2.2.2.1), some (.inl o45.2.2.2.2.2), none, none, none]) hG ⟨rfl, ⟨rfl, ⟨rfl, ⟨rfl, trivial⟩⟩⟩⟩ ?_
                  exact t_X12_siege_j409 hsk hd hG hE hF
                · replace hF := Eq.trans (if_neg c52).symm hF
                  refine s_iload hG dX12_siege_403 rfl ?_
                  refine s_iconst hG dX12_siege_405 ⟨by decide, by decide⟩ ?_
                  refine s_icmp_ge hG 432 dX12_siege_406 (by decide) (fun c51 => ?_) (fun c51 => ?_)
                  · replace hF := Eq.trans (if_pos c51).symm hF
                    refine m_weak (ls1 := [none, none, none, none, some (.inl o45.2.1), none, none, some (.inl o45.2.2.2.1), some (.inl o45.2.2.2.2.1), some (.inl o45.2.2.2.2.2), none, none, none]) hG ⟨rfl, ⟨rfl, ⟨rfl, ⟨rfl, trivial⟩⟩⟩⟩ ?_
                    exact t_X12_siege_j409 hsk hd hG hE hF
                  · replace hF := Eq.trans (if_neg c51).symm hF
                    refine s_iconst hG dX12_siege_432 ⟨by decide, by decide⟩ ?_
                    refine s_istore hG dX12_siege_433 (by decide) rfl ?_
                    refine s_iconst hG dX12_siege_435 ⟨by decide, by decide⟩ ?_
                    refine s_istore hG dX12_siege_436 (by decide) rfl ?_
                    obtain ⟨o50, hlo50, hF⟩ := bd_some hF
                    refine m_weak (ls1 := [some (.inr (.inr 64)), none, none, none, none, some (.inl o45.2.2.1), none, none, none, some (.inl o45.2.2.2.2.2), some (.inl 0), some (.inl 0), none]) hG ⟨rfl, ⟨rfl, ⟨rfl, ⟨rfl, ⟨rfl, trivial⟩⟩⟩⟩⟩ ?_
                    refine t_X12_siege_lp438 hsk hd hG ?_ hlo50
                    refine s_iload hG dX12_siege_479 rfl ?_
                    cases hF
                    exact s_iret hE dX12_siege_481 rfl
-- X12_status
theorem t_X12_status {d : Nat} {X : MX} {N : NN} {out : (Int × NN)} (hsk : m_Sk X) (hd : 1 ≤ d) (hF : f_X12_status X N = some out) : m_Call d yX12_status cX12_status 1 (some .int) [(.inr (.inr 64))] N X (some (.inl out.1)) out.2 X := by
  refine m_mk (ls0 := [some (.inr (.inr 64))]) (by decide) rfl (Nat.le_of_ble_eq_true rfl) (Nat.le_refl _) (Nat.le_refl _) (fun Ω hE => ?_)
  have hG := hE.G
  unfold f_X12_status at hF
  refine s_aload_n hG dX12_status_0 rfl ?_
  refine s_iconst hG dX12_status_1 ⟨by decide, by decide⟩ ?_
  refine s_puti hG dX12_status_2 fl_RX12_166 (fun h => by cases h) (sk_k hsk 64 rfl) rfl ?_
  refine s_aload_n hG dX12_status_5 rfl ?_
  refine s_geti hG dX12_status_6 fl_RX12_169 (sk_k hsk 64 rfl) rfl ?_
  cases hF
  exact s_iret hE dX12_status_9 rfl
-- X12_stopped
theorem t_X12_stopped {d : Nat} {X : MX} {N : NN} {out : (Int × NN)} (hsk : m_Sk X) (hd : 1 ≤ d) (hF : f_X12_stopped X N = some out) : m_Call d yX12_stopped cX12_stopped 1 (some .int) [(.inr (.inr 64))] N X (some (.inl out.1)) out.2 X := by
  refine m_mk (ls0 := [some (.inr (.inr 64))]) (by decide) rfl (Nat.le_of_ble_eq_true rfl) (Nat.le_refl _) (Nat.le_refl _) (fun Ω hE => ?_)
  have hG := hE.G
  unfold f_X12_stopped at hF
  refine s_aload_n hG dX12_stopped_0 rfl ?_
  refine s_iconst hG dX12_stopped_1 ⟨by decide, by decide⟩ ?_
  refine s_puti hG dX12_stopped_2 fl_RX12_166 (fun h => by cases h) (sk_k hsk 64 rfl) rfl ?_
  refine s_aload_n hG dX12_stopped_5 rfl ?_
  refine s_geti hG dX12_stopped_6 fl_RX12_160 (sk_k hsk 64 rfl) rfl ?_
  cases hF
  exact s_iret hE dX12_stopped_9 rfl
-- X12_tells
theorem t_X12_tells_j36 {d n0 s0 nF sF : Nat} {X : MX} {Ω : Nat → MS → Prop} {N : NN} (hsk : m_Sk X) (hd : 9 ≤ d) (hG : m_G d yX12_tells.cls yX12_tells.name cX12_tells 3 n0 s0 nF sF Ω) {out : (Int × NN)} (hE : m_Gd d yX12_tells cX12_tells 3 (some .int) X (some (.inl out.1)) out.2 X Ω) (hF : f_X12_tells_j36 X N = some out) : Ω 36 ([none, none, none], [], N, X) := by
  unfold f_X12_tells_j36 at hF
  refine s_iconst hG dX12_tells_36 ⟨by decide, by decide⟩ ?_
  cases hF
  exact s_iret hE dX12_tells_37 rfl
theorem t_X12_tells_j59 {d n0 s0 nF sF : Nat} {X : MX} {Ω : Nat → MS → Prop} {N : NN} {z0 : Int} (hsk : m_Sk X) (hd : 9 ≤ d) (hG : m_G d yX12_tells.cls yX12_tells.name cX12_tells 3 n0 s0 nF sF Ω) {out : (Int × NN)} (hE : m_Gd d yX12_tells cX12_tells 3 (some .int) X (some (.inl out.1)) out.2 X Ω) (hF : f_X12_tells_j59 X N z0 = some out) : Ω 59 ([none, none, none], [(.inl z0)], N, X) := by
  unfold f_X12_tells_j59 at hF
  cases hF
  exact s_iret hE dX12_tells_59 rfl
theorem t_X12_tells_j38 {d n0 s0 nF sF : Nat} {X : MX} {Ω : Nat → MS → Prop} {N : NN} {a1 : Int} {a2 : Int} (hsk : m_Sk X) (hd : 9 ≤ d) (hG : m_G d yX12_tells.cls yX12_tells.name cX12_tells 3 n0 s0 nF sF Ω) {out : (Int × NN)} (hE : m_Gd d yX12_tells cX12_tells 3 (some .int) X (some (.inl out.1)) out.2 X Ω) (hF : f_X12_tells_j38 X N a1 a2 = some out) : Ω 38 ([some (.inr (.inr 64)), some (.inl a1), some (.inl a2)], [], N, X) := by
  unfold f_X12_tells_j38 at hF
  refine s_iload_n hG dX12_tells_38 rfl ?_
  refine s_iconst hG dX12_tells_39 ⟨by decide, by decide⟩ ?_
  refine s_icmp_ne hG 53 dX12_tells_40 (by decide) (fun c9 => ?_) (fun c9 => ?_)
  · replace hF := Eq.trans (if_pos c9).symm hF
    refine s_aload_n hG dX12_tells_43 rfl ?_
    refine s_iload_n hG dX12_tells_44 rfl ?_
    refine s_iconst hG dX12_tells_45 ⟨by decide, by decide⟩ ?_
    refine s_iconst hG dX12_tells_46 ⟨by decide, by decide⟩ ?_
    obtain ⟨o7, ho7, hF⟩ := bd_some hF
    refine s_callV (d' := d - 1) (ci := 12) (args := [.inl a2, .inl 0, .inl 0]) hG (by omega) dX12_tells_47 cv_RX12_522 cw_X12_middle rfl rfl (sk_k hsk 64 rfl) (Nat.le_of_ble_eq_true rfl) rfl (t_X12_middle hsk (by omega) ho7) ?_
    refine s_goto hG 59 dX12_tells_50 (by decide) ?_
    refine m_weak (ls1 := [none, none, none]) hG trivial ?_
    exact t_X12_tells_j59 hsk hd hG hE hF
  · replace hF := Eq.trans (if_neg c9).symm hF
    refine s_aload_n hG dX12_tells_53 rfl ?_
    refine s_iload_n hG dX12_tells_54 rfl ?_
    refine s_iload_n hG dX12_tells_55 rfl ?_
    obtain ⟨o8, ho8, hF⟩ := bd_some hF
    refine s_callV (d' := d - 1) (ci := 12) (args := [.inl a1, .inl a2]) hG (by omega) dX12_tells_56 cv_RX12_519 cw_X12_toldBy rfl rfl (sk_k hsk 64 rfl) (Nat.le_of_ble_eq_true rfl) rfl (t_X12_toldBy hsk (by omega) ho8) ?_
    refine m_weak (ls1 := [none, none, none]) hG trivial ?_
    exact t_X12_tells_j59 hsk hd hG hE hF
theorem t_X12_tells {d : Nat} {X : MX} {N : NN} {a1 : Int} {a2 : Int} {out : (Int × NN)} (hsk : m_Sk X) (hd : 9 ≤ d) (hF : f_X12_tells X N a1 a2 = some out) : m_Call d yX12_tells cX12_tells 3 (some .int) [(.inr (.inr 64)), (.inl a1), (.inl a2)] N X (some (.inl out.1)) out.2 X := by
  refine m_mk (ls0 := [some (.inr (.inr 64)), some (.inl a1), some (.inl a2)]) (by decide) rfl (Nat.le_of_ble_eq_true rfl) (Nat.le_refl _) (Nat.le_refl _) (fun Ω hE => ?_)
  have hG := hE.G
  unfold f_X12_tells at hF
  refine s_aload_n hG dX12_tells_0 rfl ?_
  refine s_iconst hG dX12_tells_1 ⟨by decide, by decide⟩ ?_
  refine s_puti hG dX12_tells_2 fl_RX12_166 (fun h => by cases h) (sk_k hsk 64 rfl) rfl ?_
  let N1 : NN := m_up N 64 0 0
  refine s_aload_n hG dX12_tells_5 rfl ?_
  refine s_iload_n hG dX12_tells_6 rfl ?_
  obtain ⟨o2, ho2, hF⟩ := bd_some hF
  refine s_callV (d' := d - 1) (ci := 12) (args := [.inl a2]) hG (by omega) dX12_tells_7 cv_RX12_225 cw_X12_isGood rfl rfl (sk_k hsk 64 rfl) (Nat.le_of_ble_eq_true rfl) rfl (t_X12_isGood hsk (by omega) ho2) ?_
  refine s_if_eq hG 36 dX12_tells_10 (by decide) (fun c6 => ?_) (fun c6 => ?_)
  · replace hF := Eq.trans (if_pos c6).symm hF
    refine m_weak (ls1 := [none, none, none]) hG trivial ?_
    exact t_X12_tells_j36 hsk hd hG hE hF
  · replace hF := Eq.trans (if_neg c6).symm hF
    refine s_iload_n hG dX12_tells_13 rfl ?_
    refine s_iconst hG dX12_tells_14 ⟨by decide, by decide⟩ ?_
    refine s_icmp_eq hG 38 dX12_tells_15 (by decide) (fun c5 => ?_) (fun c5 => ?_)
    · replace hF := Eq.trans (if_pos c5).symm hF
      exact t_X12_tells_j38 hsk hd hG hE hF
    · replace hF := Eq.trans (if_neg c5).symm hF
      refine s_iload_n hG dX12_tells_18 rfl ?_
      refine s_i2l hG dX12_tells_19 ?_
      refine s_lconst (v := 0) hG dX12_tells_20 rfl ⟨by decide, by decide⟩ ?_
      refine s_aload_n hG dX12_tells_21 rfl ?_
      refine s_getr (r := 66) hG dX12_tells_22 fl_RX12_13 (sk_k hsk 64 rfl) rfl (sk_R hsk 64 3 rfl) ?_
      refine s_iconst hG dX12_tells_25 ⟨by decide, by decide⟩ ?_
      refine s_ialdj (j := 2) hG dX12_tells_26 (sk_K hsk 66 rfl) ⟨by decide, by decide⟩ rfl ?_
      refine s_i2l hG dX12_tells_27 ?_
      refine s_lconst (v := 1) hG dX12_tells_28 rfl ⟨by decide, by decide⟩ ?_
      refine s_lsub hG dX12_tells_29 ?_
      obtain ⟨o3, ho3, hF⟩ := bd_some hF
      refine s_callS (d' := d - 1) (args := [.inr (.inl a1), .inr (.inl 0), .inr (.inl (m_wl ((N1 66 2) - 1)))]) hG (by omega) dX12_tells_30 cs_RX12_179 cw_X12_in rfl (Nat.le_of_ble_eq_true rfl) rfl (t_X12_in hsk (by omega) ho3) ?_
      refine s_if_ne hG 38 dX12_tells_33 (by decide) (fun c4 => ?_) (fun c4 => ?_)
      · replace hF := Eq.trans (if_pos c4).symm hF
        refine m_weak (ls1 := [none, none, none]) hG trivial ?_
        exact t_X12_tells_j36 hsk hd hG hE hF
      · replace hF := Eq.trans (if_neg c4).symm hF
        exact t_X12_tells_j38 hsk hd hG hE hF
-- X12_terms
theorem t_X12_terms_j60 {d n0 s0 nF sF : Nat} {X : MX} {Ω : Nat → MS → Prop} {N : NN} {a1 : Int} {a2 : Int} {z0 : Int} (hsk : m_Sk X) (hd : 2 ≤ d) (hG : m_G d yX12_terms.cls yX12_terms.name cX12_terms 5 n0 s0 nF sF Ω) {out : (Int × NN)} (hE : m_Gd d yX12_terms cX12_terms 5 (some .int) X (some (.inl out.1)) out.2 X Ω) (hF : f_X12_terms_j60 X N a1 a2 z0 = some out) : Ω 60 ([some (.inr (.inr 64)), some (.inl a1), some (.inl a2), none, none], [(.inl z0)], N, X) := by
  unfold f_X12_terms_j60 at hF
  refine s_istore_n hG dX12_terms_60 (by decide) rfl ?_
  refine s_iload_n hG dX12_terms_61 rfl ?_
  refine s_if_ne hG 71 dX12_terms_62 (by decide) (fun c15 => ?_) (fun c15 => ?_)
  · replace hF := Eq.trans (if_pos c15).symm hF
    refine s_aload_n hG dX12_terms_65 rfl ?_
    refine s_iconst hG dX12_terms_66 ⟨by decide, by decide⟩ ?_
    obtain ⟨o9, ho9, hF⟩ := bd_some hF
    refine s_callV (d' := d - 1) (ci := 12) (args := [.inl (-1)]) hG (by omega) dX12_terms_67 cv_RX12_175 cw_X12_tell rfl rfl (sk_k hsk 64 rfl) (Nat.le_of_ble_eq_true rfl) rfl (t_X12_tell hsk (by omega) ho9) ?_
    cases hF
    exact s_iret hE dX12_terms_70 rfl
  · replace hF := Eq.trans (if_neg c15).symm hF
    refine s_aload_n hG dX12_terms_71 rfl ?_
    refine s_getr (r := 66) hG dX12_terms_72 fl_RX12_13 (sk_k hsk 64 rfl) rfl (sk_R hsk 64 3 rfl) ?_
    refine s_bipush hG dX12_terms_75 bp_6 ⟨by decide, by decide⟩ ?_
    refine s_iload_n hG dX12_terms_77 rfl ?_
    refine s_iadd hG dX12_terms_78 ?_
    obtain ⟨g10, hF⟩ := gd_some hF
    refine s_ialdj (j := (m_w (6 + a1)).toNat) hG dX12_terms_79 (sk_K hsk 66 rfl) g10 rfl ?_
    refine s_istore hG dX12_terms_80 (by decide) rfl ?_
    refine s_aload_n hG dX12_terms_82 rfl ?_
    refine s_getr (r := 66) hG dX12_terms_83 fl_RX12_13 (sk_k hsk 64 rfl) rfl (sk_R hsk 64 3 rfl) ?_
    refine s_bipush hG dX12_terms_86 bp_6 ⟨by decide, by decide⟩ ?_
    refine s_iload_n hG dX12_terms_88 rfl ?_
    refine s_iadd hG dX12_terms_89 ?_
    refine s_iload_n hG dX12_terms_90 rfl ?_
    obtain ⟨g11, hF⟩ := gd_some hF
    refine s_iastj (j := (m_w (6 + a1)).toNat) hG dX12_terms_91 (sk_K hsk 66 rfl) g11 rfl ?_
    refine s_aload_n hG dX12_terms_92 rfl ?_
    refine s_iconst hG dX12_terms_93 ⟨by decide, by decide⟩ ?_
    refine s_puti hG dX12_terms_94 fl_RX12_172 (fun h => by cases h) (sk_k hsk 64 rfl) rfl ?_
    refine s_aload_n hG dX12_terms_97 rfl ?_
    refine s_iload hG dX12_terms_98 rfl ?_
    obtain ⟨o14, ho14, hF⟩ := bd_some hF
    refine s_callV (d' := d - 1) (ci := 12) (args := [.inl (N 66 ((m_w (6 + a1)).toNat))]) hG (by omega) dX12_terms_100 cv_RX12_217 cw_X12_was rfl rfl (sk_k hsk 64 rfl) (Nat.le_of_ble_eq_true rfl) rfl (t_X12_was hsk (by omega) ho14) ?_
    cases hF
    exact s_iret hE dX12_terms_103 rfl
theorem t_X12_terms_j59 {d n0 s0 nF sF : Nat} {X : MX} {Ω : Nat → MS → Prop} {N : NN} {a1 : Int} {a2 : Int} (hsk : m_Sk X) (hd : 2 ≤ d) (hG : m_G d yX12_terms.cls yX12_terms.name cX12_terms 5 n0 s0 nF sF Ω) {out : (Int × NN)} (hE : m_Gd d yX12_terms cX12_terms 5 (some .int) X (some (.inl out.1)) out.2 X Ω) (hF : f_X12_terms_j59 X N a1 a2 = some out) : Ω 59 ([some (.inr (.inr 64)), some (.inl a1), some (.inl a2), none, none], [], N, X) := by
  unfold f_X12_terms_j59 at hF
  refine s_iconst hG dX12_terms_59 ⟨by decide, by decide⟩ ?_
  exact t_X12_terms_j60 hsk hd hG hE hF
theorem t_X12_terms {d : Nat} {X : MX} {N : NN} {a1 : Int} {a2 : Int} {out : (Int × NN)} (hsk : m_Sk X) (hd : 2 ≤ d) (hF : f_X12_terms X N a1 a2 = some out) : m_Call d yX12_terms cX12_terms 5 (some .int) [(.inr (.inr 64)), (.inl a1), (.inl a2)] N X (some (.inl out.1)) out.2 X := by
  refine m_mk (ls0 := [some (.inr (.inr 64)), some (.inl a1), some (.inl a2), none, none]) (by decide) rfl (Nat.le_of_ble_eq_true rfl) (Nat.le_refl _) (Nat.le_refl _) (fun Ω hE => ?_)
  have hG := hE.G
  unfold f_X12_terms at hF
  refine s_aload_n hG dX12_terms_0 rfl ?_
  refine s_iconst hG dX12_terms_1 ⟨by decide, by decide⟩ ?_
  refine s_puti hG dX12_terms_2 fl_RX12_166 (fun h => by cases h) (sk_k hsk 64 rfl) rfl ?_
  refine s_iload_n hG dX12_terms_5 rfl ?_
  refine s_if_ne hG 21 dX12_terms_6 (by decide) (fun c8 => ?_) (fun c8 => ?_)
  · replace hF := Eq.trans (if_pos c8).symm hF
    refine s_iload_n hG dX12_terms_9 rfl ?_
    refine s_i2l hG dX12_terms_10 ?_
    refine s_lconst (v := 0) hG dX12_terms_11 rfl ⟨by decide, by decide⟩ ?_
    refine s_ldc2 hG dX12_terms_12 kc_RX12_230 ⟨by decide, by decide⟩ ?_
    obtain ⟨o2, ho2, hF⟩ := bd_some hF
    refine s_callS (d' := d - 1) (args := [.inr (.inl a2), .inr (.inl 0), .inr (.inl 999)]) hG (by omega) dX12_terms_15 cs_RX12_179 cw_X12_in rfl (Nat.le_of_ble_eq_true rfl) rfl (t_X12_in hsk (by omega) ho2) ?_
    refine s_goto hG 60 dX12_terms_18 (by decide) ?_
    exact t_X12_terms_j60 hsk hd hG hE hF
  · replace hF := Eq.trans (if_neg c8).symm hF
    refine s_iload_n hG dX12_terms_21 rfl ?_
    refine s_iconst hG dX12_terms_22 ⟨by decide, by decide⟩ ?_
    refine s_icmp_ne hG 38 dX12_terms_23 (by decide) (fun c7 => ?_) (fun c7 => ?_)
    · replace hF := Eq.trans (if_pos c7).symm hF
      refine s_iload_n hG dX12_terms_26 rfl ?_
      refine s_i2l hG dX12_terms_27 ?_
      refine s_lconst (v := 1) hG dX12_terms_28 rfl ⟨by decide, by decide⟩ ?_
      refine s_ldc2 hG dX12_terms_29 kc_RX12_232 ⟨by decide, by decide⟩ ?_
      obtain ⟨o3, ho3, hF⟩ := bd_some hF
      refine s_callS (d' := d - 1) (args := [.inr (.inl a2), .inr (.inl 1), .inr (.inl 3)]) hG (by omega) dX12_terms_32 cs_RX12_179 cw_X12_in rfl (Nat.le_of_ble_eq_true rfl) rfl (t_X12_in hsk (by omega) ho3) ?_
      refine s_goto hG 60 dX12_terms_35 (by decide) ?_
      exact t_X12_terms_j60 hsk hd hG hE hF
    · replace hF := Eq.trans (if_neg c7).symm hF
      refine s_iload_n hG dX12_terms_38 rfl ?_
      refine s_iconst hG dX12_terms_39 ⟨by decide, by decide⟩ ?_
      refine s_icmp_ne hG 59 dX12_terms_40 (by decide) (fun c6 => ?_) (fun c6 => ?_)
      · replace hF := Eq.trans (if_pos c6).symm hF
        refine s_iload_n hG dX12_terms_43 rfl ?_
        refine s_i2l hG dX12_terms_44 ?_
        refine s_lconst (v := 0) hG dX12_terms_45 rfl ⟨by decide, by decide⟩ ?_
        refine s_ldc2 hG dX12_terms_46 kc_RX12_234 ⟨by decide, by decide⟩ ?_
        obtain ⟨o4, ho4, hF⟩ := bd_some hF
        refine s_callS (d' := d - 1) (args := [.inr (.inl a2), .inr (.inl 0), .inr (.inl 9)]) hG (by omega) dX12_terms_49 cs_RX12_179 cw_X12_in rfl (Nat.le_of_ble_eq_true rfl) rfl (t_X12_in hsk (by omega) ho4) ?_
        refine s_if_eq hG 59 dX12_terms_52 (by decide) (fun c5 => ?_) (fun c5 => ?_)
        · replace hF := Eq.trans (if_pos c5).symm hF
          exact t_X12_terms_j59 hsk hd hG hE hF
        · replace hF := Eq.trans (if_neg c5).symm hF
          refine s_iconst hG dX12_terms_55 ⟨by decide, by decide⟩ ?_
          refine s_goto hG 60 dX12_terms_56 (by decide) ?_
          exact t_X12_terms_j60 hsk hd hG hE hF
      · replace hF := Eq.trans (if_neg c6).symm hF
        exact t_X12_terms_j59 hsk hd hG hE hF
-- X12_undoRow
theorem t_X12_undoRow_l3_j70 {d n0 s0 nF sF : Nat} {X : MX} {Ω : Nat → MS → Prop} {N : NN} {a1 : Int} {a2 : Int} {z1 : Int} {z2 : Int} (hsk : m_Sk X) (hd : 1 ≤ d) (hG : m_G d yX12_undoRow.cls yX12_undoRow.name cX12_undoRow 4 n0 s0 nF sF Ω) {out : ((NN × Int × Int) ⊕ (NN × Int))} (hK0 : ∀ s' : (NN × Int × Int), out = .inl s' → Ω 3 ([some (.inr (.inr 64)), some (.inl (s'.2.1)), some (.inl (s'.2.2)), none], [], s'.1, X)) (hK1 : ∀ t : (NN × Int), out = .inr t → Ω 77 ([some (.inr (.inr 64)), some (.inl t.2), none, none], [], t.1, X)) (hF : f_X12_undoRow_l3_j70 X N a1 a2 z1 z2 = some out) : Ω 70 ([some (.inr (.inr 64)), some (.inl a1), some (.inl a2), none], [(.inl z2), (.inl z1), (.inr (.inr 66))], N, X) := by
  unfold f_X12_undoRow_l3_j70 at hF
  obtain ⟨g8, hF⟩ := gd_some hF
  refine s_iastj (j := z1.toNat) hG dX12_undoRow_70 (sk_K hsk 66 rfl) g8 rfl ?_
  refine s_iinc hG dX12_undoRow_71 (by decide) rfl rfl ?_
  refine s_goto hG 3 dX12_undoRow_74 (by decide) ?_
  cases hF
  exact hK0 _ rfl
theorem t_X12_undoRow_l3_j39 {d n0 s0 nF sF : Nat} {X : MX} {Ω : Nat → MS → Prop} {N : NN} {a1 : Int} {a2 : Int} {z0 : Int} (hsk : m_Sk X) (hd : 1 ≤ d) (hG : m_G d yX12_undoRow.cls yX12_undoRow.name cX12_undoRow 4 n0 s0 nF sF Ω) {out : ((NN × Int × Int) ⊕ (NN × Int))} (hK0 : ∀ s' : (NN × Int × Int), out = .inl s' → Ω 3 ([some (.inr (.inr 64)), some (.inl (s'.2.1)), some (.inl (s'.2.2)), none], [], s'.1, X)) (hK1 : ∀ t : (NN × Int), out = .inr t → Ω 77 ([some (.inr (.inr 64)), some (.inl t.2), none, none], [], t.1, X)) (hF : f_X12_undoRow_l3_j39 X N a1 a2 z0 = some out) : Ω 39 ([some (.inr (.inr 64)), some (.inl a1), some (.inl a2), none], [(.inl z0)], N, X) := by
  unfold f_X12_undoRow_l3_j39 at hF
  refine s_istore_n hG dX12_undoRow_39 (by decide) rfl ?_
  refine s_aload_n hG dX12_undoRow_40 rfl ?_
  refine s_getr (r := 66) hG dX12_undoRow_41 fl_RX12_13 (sk_k hsk 64 rfl) rfl (sk_R hsk 64 3 rfl) ?_
  refine s_iload_n hG dX12_undoRow_44 rfl ?_
  refine s_iload_n hG dX12_undoRow_45 rfl ?_
  refine s_if_eq hG 58 dX12_undoRow_46 (by decide) (fun c7 => ?_) (fun c7 => ?_)
  · replace hF := Eq.trans (if_pos c7).symm hF
    refine s_aload_n hG dX12_undoRow_58 rfl ?_
    refine s_getr (r := 69) hG dX12_undoRow_59 fl_RX12_23 (sk_k hsk 64 rfl) rfl (sk_R hsk 64 6 rfl) ?_
    refine s_sipush hG dX12_undoRow_62 sp_270 ⟨by decide, by decide⟩ ?_
    refine s_iload_n hG dX12_undoRow_65 rfl ?_
    refine s_imul hG dX12_undoRow_66 ?_
    refine s_iload_n hG dX12_undoRow_67 rfl ?_
    refine s_iadd hG dX12_undoRow_68 ?_
    obtain ⟨g5, hF⟩ := gd_some hF
    refine s_ialdj (j := (m_w ((m_w (270 * a1)) + a2)).toNat) hG dX12_undoRow_69 (sk_K hsk 69 rfl) g5 rfl ?_
    refine m_weak (ls1 := [some (.inr (.inr 64)), some (.inl a1), some (.inl a2), none]) hG ⟨rfl, ⟨rfl, ⟨rfl, trivial⟩⟩⟩ ?_
    exact t_X12_undoRow_l3_j70 hsk hd hG hK0 hK1 hF
  · replace hF := Eq.trans (if_neg c7).symm hF
    refine s_aload_n hG dX12_undoRow_49 rfl ?_
    refine s_getr (r := 66) hG dX12_undoRow_50 fl_RX12_13 (sk_k hsk 64 rfl) rfl (sk_R hsk 64 3 rfl) ?_
    refine s_iload_n hG dX12_undoRow_53 rfl ?_
    obtain ⟨g6, hF⟩ := gd_some hF
    refine s_ialdj (j := a2.toNat) hG dX12_undoRow_54 (sk_K hsk 66 rfl) g6 rfl ?_
    refine s_goto hG 70 dX12_undoRow_55 (by decide) ?_
    refine m_weak (ls1 := [some (.inr (.inr 64)), some (.inl a1), some (.inl a2), none]) hG ⟨rfl, ⟨rfl, ⟨rfl, trivial⟩⟩⟩ ?_
    exact t_X12_undoRow_l3_j70 hsk hd hG hK0 hK1 hF
theorem t_X12_undoRow_l3_j38 {d n0 s0 nF sF : Nat} {X : MX} {Ω : Nat → MS → Prop} {N : NN} {a1 : Int} {a2 : Int} (hsk : m_Sk X) (hd : 1 ≤ d) (hG : m_G d yX12_undoRow.cls yX12_undoRow.name cX12_undoRow 4 n0 s0 nF sF Ω) {out : ((NN × Int × Int) ⊕ (NN × Int))} (hK0 : ∀ s' : (NN × Int × Int), out = .inl s' → Ω 3 ([some (.inr (.inr 64)), some (.inl (s'.2.1)), some (.inl (s'.2.2)), none], [], s'.1, X)) (hK1 : ∀ t : (NN × Int), out = .inr t → Ω 77 ([some (.inr (.inr 64)), some (.inl t.2), none, none], [], t.1, X)) (hF : f_X12_undoRow_l3_j38 X N a1 a2 = some out) : Ω 38 ([some (.inr (.inr 64)), some (.inl a1), some (.inl a2), none], [], N, X) := by
  unfold f_X12_undoRow_l3_j38 at hF
  refine s_iconst hG dX12_undoRow_38 ⟨by decide, by decide⟩ ?_
  exact t_X12_undoRow_l3_j39 hsk hd hG hK0 hK1 hF
theorem t_X12_undoRow_b3 {d n0 s0 nF sF : Nat} {X : MX} {Ω : Nat → MS → Prop} {N : NN} {a1 : Int} {a2 : Int} (hsk : m_Sk X) (hd : 1 ≤ d) (hG : m_G d yX12_undoRow.cls yX12_undoRow.name cX12_undoRow 4 n0 s0 nF sF Ω) {out : ((NN × Int × Int) ⊕ (NN × Int))} (hK0 : ∀ s' : (NN × Int × Int), out = .inl s' → Ω 3 ([some (.inr (.inr 64)), some (.inl (s'.2.1)), some (.inl (s'.2.2)), none], [], s'.1, X)) (hK1 : ∀ t : (NN × Int), out = .inr t → Ω 77 ([some (.inr (.inr 64)), some (.inl t.2), none, none], [], t.1, X)) (hF : b_X12_undoRow_3 X N a1 a2 = some out) : Ω 3 ([some (.inr (.inr 64)), some (.inl a1), some (.inl a2), none], [], N, X) := by
  unfold b_X12_undoRow_3 at hF
  refine s_iload_n hG dX12_undoRow_3 rfl ?_
  refine s_sipush hG dX12_undoRow_4 sp_213 ⟨by decide, by decide⟩ ?_
  refine s_icmp_ge hG 77 dX12_undoRow_7 (by decide) (fun c4 => ?_) (fun c4 => ?_)
  · replace hF := Eq.trans (if_pos c4).symm hF
    refine s_iload_n hG dX12_undoRow_10 rfl ?_
    refine s_bipush hG dX12_undoRow_11 bp_45 ⟨by decide, by decide⟩ ?_
    refine s_icmp_lt hG 38 dX12_undoRow_13 (by decide) (fun c3 => ?_) (fun c3 => ?_)
    · replace hF := Eq.trans (if_pos c3).symm hF
      exact t_X12_undoRow_l3_j38 hsk hd hG hK0 hK1 hF
    · replace hF := Eq.trans (if_neg c3).symm hF
      refine s_iload_n hG dX12_undoRow_16 rfl ?_
      refine s_sipush hG dX12_undoRow_17 sp_141 ⟨by decide, by decide⟩ ?_
      refine s_icmp_ge hG 38 dX12_undoRow_20 (by decide) (fun c2 => ?_) (fun c2 => ?_)
      · replace hF := Eq.trans (if_pos c2).symm hF
        refine s_iload_n hG dX12_undoRow_23 rfl ?_
        refine s_bipush hG dX12_undoRow_24 bp_45 ⟨by decide, by decide⟩ ?_
        refine s_isub hG dX12_undoRow_26 ?_
        refine s_bipush hG dX12_undoRow_27 bp_6 ⟨by decide, by decide⟩ ?_
        refine s_irem hG dX12_undoRow_29 (by decide) ?_
        refine s_iconst hG dX12_undoRow_30 ⟨by decide, by decide⟩ ?_
        refine s_icmp_ne hG 38 dX12_undoRow_31 (by decide) (fun c1 => ?_) (fun c1 => ?_)
        · replace hF := Eq.trans (if_pos c1).symm hF
          refine s_iconst hG dX12_undoRow_34 ⟨by decide, by decide⟩ ?_
          refine s_goto hG 39 dX12_undoRow_35 (by decide) ?_
          exact t_X12_undoRow_l3_j39 hsk hd hG hK0 hK1 hF
        · replace hF := Eq.trans (if_neg c1).symm hF
          exact t_X12_undoRow_l3_j38 hsk hd hG hK0 hK1 hF
      · replace hF := Eq.trans (if_neg c2).symm hF
        exact t_X12_undoRow_l3_j38 hsk hd hG hK0 hK1 hF
  · replace hF := Eq.trans (if_neg c4).symm hF
    cases hF
    refine m_weak (ls1 := [some (.inr (.inr 64)), some (.inl a1), none, none]) hG ⟨rfl, ⟨rfl, trivial⟩⟩ ?_
    exact hK1 _ rfl
theorem t_X12_undoRow_lp3 {d n0 s0 nF sF : Nat} {X : MX} {Ω : Nat → MS → Prop} {N : NN} {a1 : Int} {a2 : Int} (hsk : m_Sk X) (hd : 1 ≤ d) (hG : m_G d yX12_undoRow.cls yX12_undoRow.name cX12_undoRow 4 n0 s0 nF sF Ω) {t : (NN × Int)} (hK1 : Ω 77 ([some (.inr (.inr 64)), some (.inl t.2), none, none], [], t.1, X)) (hl : lp (fun s => b_X12_undoRow_3 X s.1 s.2.1 s.2.2) (N, a1, a2) = some t) : Ω 3 ([some (.inr (.inr 64)), some (.inl a1), some (.inl a2), none], [], N, X) := by
  refine lp_ok (P := fun s => Ω 3 ([some (.inr (.inr 64)), some (.inl s.2.1), some (.inl s.2.2), none], [], s.1, X)) (K := fun t => Ω 77 ([some (.inr (.inr 64)), some (.inl t.2), none, none], [], t.1, X)) (fun s out hF hK0 hK1 => ?_) hl hK1
  exact t_X12_undoRow_b3 hsk hd hG (out := out) (fun s' e => hK0 s' e) (fun t' e => hK1 t' e) hF
theorem t_X12_undoRow {d : Nat} {X : MX} {N : NN} {a1 : Int} {out : NN} (hsk : m_Sk X) (hd : 1 ≤ d) (hF : f_X12_undoRow X N a1 = some out) : m_Call d yX12_undoRow cX12_undoRow 4 none [(.inr (.inr 64)), (.inl a1)] N X none out X := by
  refine m_mk (ls0 := [some (.inr (.inr 64)), some (.inl a1), none, none]) (by decide) rfl (Nat.le_of_ble_eq_true rfl) (Nat.le_refl _) (Nat.le_refl _) (fun Ω hE => ?_)
  have hG := hE.G
  unfold f_X12_undoRow at hF
  refine s_bipush hG dX12_undoRow_0 bp_9 ⟨by decide, by decide⟩ ?_
  refine s_istore_n hG dX12_undoRow_2 (by decide) rfl ?_
  obtain ⟨o10, hlo10, hF⟩ := bd_some hF
  refine t_X12_undoRow_lp3 hsk hd hG ?_ hlo10
  refine s_aload_n hG dX12_undoRow_77 rfl ?_
  refine s_getr (r := 66) hG dX12_undoRow_78 fl_RX12_13 (sk_k hsk 64 rfl) rfl (sk_R hsk 64 3 rfl) ?_
  refine s_bipush hG dX12_undoRow_81 bp_6 ⟨by decide, by decide⟩ ?_
  refine s_aload_n hG dX12_undoRow_83 rfl ?_
  refine s_getr (r := 69) hG dX12_undoRow_84 fl_RX12_23 (sk_k hsk 64 rfl) rfl (sk_R hsk 64 6 rfl) ?_
  refine s_sipush hG dX12_undoRow_87 sp_270 ⟨by decide, by decide⟩ ?_
  refine s_iload_n hG dX12_undoRow_90 rfl ?_
  refine s_imul hG dX12_undoRow_91 ?_
  refine s_bipush hG dX12_undoRow_92 bp_6 ⟨by decide, by decide⟩ ?_
  refine s_iadd hG dX12_undoRow_94 ?_
  refine s_iconst hG dX12_undoRow_95 ⟨by decide, by decide⟩ ?_
  refine s_iadd hG dX12_undoRow_96 ?_
  obtain ⟨g11, hF⟩ := gd_some hF
  refine s_ialdj (j := (m_w ((m_w ((m_w (270 * o10.2)) + 6)) + 0)).toNat) hG dX12_undoRow_97 (sk_K hsk 69 rfl) g11 rfl ?_
  refine s_iastj (j := 6) hG dX12_undoRow_98 (sk_K hsk 66 rfl) ⟨by decide, by decide⟩ rfl ?_
  cases hF
  exact s_vret hE dX12_undoRow_99 rfl
-- X12_undo
theorem t_X12_undo {d : Nat} {X : MX} {N : NN} {out : (Int × NN)} (hsk : m_Sk X) (hd : 2 ≤ d) (hF : f_X12_undo X N = some out) : m_Call d yX12_undo cX12_undo 1 (some .int) [(.inr (.inr 64))] N X (some (.inl out.1)) out.2 X := by
  refine m_mk (ls0 := [some (.inr (.inr 64))]) (by decide) rfl (Nat.le_of_ble_eq_true rfl) (Nat.le_refl _) (Nat.le_refl _) (fun Ω hE => ?_)
  have hG := hE.G
  unfold f_X12_undo at hF
  refine s_aload_n hG dX12_undo_0 rfl ?_
  refine s_iconst hG dX12_undo_1 ⟨by decide, by decide⟩ ?_
  refine s_puti hG dX12_undo_2 fl_RX12_166 (fun h => by cases h) (sk_k hsk 64 rfl) rfl ?_
  let N1 : NN := m_up N 64 0 0
  refine s_aload_n hG dX12_undo_5 rfl ?_
  refine s_geti hG dX12_undo_6 fl_RX12_172 (sk_k hsk 64 rfl) rfl ?_
  refine s_if_ne hG 19 dX12_undo_9 (by decide) (fun c7 => ?_) (fun c7 => ?_)
  · replace hF := Eq.trans (if_pos c7).symm hF
    refine s_aload_n hG dX12_undo_12 rfl ?_
    refine s_bipush hG dX12_undo_13 bp_m3 ⟨by decide, by decide⟩ ?_
    obtain ⟨o2, ho2, hF⟩ := bd_some hF
    refine s_callV (d' := d - 1) (ci := 12) (args := [.inl (-3)]) hG (by omega) dX12_undo_15 cv_RX12_175 cw_X12_tell rfl rfl (sk_k hsk 64 rfl) (Nat.le_of_ble_eq_true rfl) rfl (t_X12_tell hsk (by omega) ho2) ?_
    cases hF
    exact s_iret hE dX12_undo_18 rfl
  · replace hF := Eq.trans (if_neg c7).symm hF
    refine s_aload_n hG dX12_undo_19 rfl ?_
    refine s_dup hG dX12_undo_20 rfl ?_
    refine s_geti hG dX12_undo_21 fl_RX12_172 (sk_k hsk 64 rfl) rfl ?_
    refine s_iconst hG dX12_undo_24 ⟨by decide, by decide⟩ ?_
    refine s_isub hG dX12_undo_25 ?_
    refine s_puti hG dX12_undo_26 fl_RX12_172 (fun h => by cases h) (sk_k hsk 64 rfl) rfl ?_
    let N3 : NN := m_up N1 64 8 (m_w ((N1 64 8) - 1))
    refine s_aload_n hG dX12_undo_29 rfl ?_
    refine s_aload_n hG dX12_undo_30 rfl ?_
    refine s_geti hG dX12_undo_31 fl_RX12_172 (sk_k hsk 64 rfl) rfl ?_
    obtain ⟨o4, ho4, hF⟩ := bd_some hF
    refine s_callV (d' := d - 1) (ci := 12) (args := [.inl (N3 64 8)]) hG (by omega) dX12_undo_34 cv_RX12_483 cw_X12_undoRow rfl rfl (sk_k hsk 64 rfl) (Nat.le_of_ble_eq_true rfl) rfl (t_X12_undoRow hsk (by omega) ho4) ?_
    refine s_aload_n hG dX12_undo_37 rfl ?_
    refine s_aload_n hG dX12_undo_38 rfl ?_
    refine s_getr (r := 70) hG dX12_undo_39 fl_RX12_26 (sk_k hsk 64 rfl) rfl (sk_R hsk 64 7 rfl) ?_
    refine s_aload_n hG dX12_undo_42 rfl ?_
    refine s_geti hG dX12_undo_43 fl_RX12_172 (sk_k hsk 64 rfl) rfl ?_
    obtain ⟨g5, hF⟩ := gd_some hF
    refine s_ialdj (j := (o4 64 8).toNat) hG dX12_undo_46 (sk_K hsk 70 rfl) g5 rfl ?_
    obtain ⟨o6, ho6, hF⟩ := bd_some hF
    refine s_callV (d' := d - 1) (ci := 12) (args := [.inl (o4 70 ((o4 64 8).toNat))]) hG (by omega) dX12_undo_47 cv_RX12_175 cw_X12_tell rfl rfl (sk_k hsk 64 rfl) (Nat.le_of_ble_eq_true rfl) rfl (t_X12_tell hsk (by omega) ho6) ?_
    cases hF
    exact s_iret hE dX12_undo_50 rfl
-- X12_way
theorem t_X12_way_j33 {d n0 s0 nF sF : Nat} {X : MX} {Ω : Nat → MS → Prop} {N : NN} (hsk : m_Sk X) (hd : 4 ≤ d) (hG : m_G d yX12_way.cls yX12_way.name cX12_way 4 n0 s0 nF sF Ω) {out : (Int × NN)} (hE : m_Gd d yX12_way cX12_way 4 (some .int) X (some (.inl out.1)) out.2 X Ω) (hF : f_X12_way_j33 X N = some out) : Ω 33 ([none, none, none, none], [], N, X) := by
  unfold f_X12_way_j33 at hF
  refine s_iconst hG dX12_way_33 ⟨by decide, by decide⟩ ?_
  cases hF
  exact s_iret hE dX12_way_34 rfl
theorem t_X12_way_j58 {d n0 s0 nF sF : Nat} {X : MX} {Ω : Nat → MS → Prop} {N : NN} (hsk : m_Sk X) (hd : 4 ≤ d) (hG : m_G d yX12_way.cls yX12_way.name cX12_way 4 n0 s0 nF sF Ω) {out : (Int × NN)} (hE : m_Gd d yX12_way cX12_way 4 (some .int) X (some (.inl out.1)) out.2 X Ω) (hF : f_X12_way_j58 X N = some out) : Ω 58 ([none, none, none, none], [], N, X) := by
  unfold f_X12_way_j58 at hF
  refine s_iconst hG dX12_way_58 ⟨by decide, by decide⟩ ?_
  cases hF
  exact s_iret hE dX12_way_59 rfl
theorem t_X12_way_j103 {d n0 s0 nF sF : Nat} {X : MX} {Ω : Nat → MS → Prop} {N : NN} {z0 : Int} (hsk : m_Sk X) (hd : 4 ≤ d) (hG : m_G d yX12_way.cls yX12_way.name cX12_way 4 n0 s0 nF sF Ω) {out : (Int × NN)} (hE : m_Gd d yX12_way cX12_way 4 (some .int) X (some (.inl out.1)) out.2 X Ω) (hF : f_X12_way_j103 X N z0 = some out) : Ω 103 ([none, none, none, none], [(.inl z0)], N, X) := by
  unfold f_X12_way_j103 at hF
  cases hF
  exact s_iret hE dX12_way_103 rfl
theorem t_X12_way {d : Nat} {X : MX} {N : NN} {a1 : Int} {a2 : Int} {a3 : Int} {out : (Int × NN)} (hsk : m_Sk X) (hd : 4 ≤ d) (hF : f_X12_way X N a1 a2 a3 = some out) : m_Call d yX12_way cX12_way 4 (some .int) [(.inr (.inr 64)), (.inl a1), (.inl a2), (.inl a3)] N X (some (.inl out.1)) out.2 X := by
  refine m_mk (ls0 := [some (.inr (.inr 64)), some (.inl a1), some (.inl a2), some (.inl a3)]) (by decide) rfl (Nat.le_of_ble_eq_true rfl) (Nat.le_refl _) (Nat.le_refl _) (fun Ω hE => ?_)
  have hG := hE.G
  unfold f_X12_way at hF
  refine s_aload_n hG dX12_way_0 rfl ?_
  refine s_iconst hG dX12_way_1 ⟨by decide, by decide⟩ ?_
  refine s_puti hG dX12_way_2 fl_RX12_166 (fun h => by cases h) (sk_k hsk 64 rfl) rfl ?_
  refine s_aload_n hG dX12_way_5 rfl ?_
  refine s_iload_n hG dX12_way_6 rfl ?_
  obtain ⟨o2, ho2, hF⟩ := bd_some hF
  refine s_callV (d' := d - 1) (ci := 12) (args := [.inl a1]) hG (by omega) dX12_way_7 cv_RX12_198 cw_X12_isLord rfl rfl (sk_k hsk 64 rfl) (Nat.le_of_ble_eq_true rfl) rfl (t_X12_isLord hsk (by omega) ho2) ?_
  refine s_if_eq hG 33 dX12_way_10 (by decide) (fun c14 => ?_) (fun c14 => ?_)
  · replace hF := Eq.trans (if_pos c14).symm hF
    refine m_weak (ls1 := [none, none, none, none]) hG trivial ?_
    exact t_X12_way_j33 hsk hd hG hE hF
  · replace hF := Eq.trans (if_neg c14).symm hF
    refine s_aload_n hG dX12_way_13 rfl ?_
    refine s_iload_n hG dX12_way_14 rfl ?_
    obtain ⟨o3, ho3, hF⟩ := bd_some hF
    refine s_callV (d' := d - 1) (ci := 12) (args := [.inl a2]) hG (by omega) dX12_way_15 cv_RX12_198 cw_X12_isLord rfl rfl (sk_k hsk 64 rfl) (Nat.le_of_ble_eq_true rfl) rfl (t_X12_isLord hsk (by omega) ho3) ?_
    refine s_if_eq hG 33 dX12_way_18 (by decide) (fun c13 => ?_) (fun c13 => ?_)
    · replace hF := Eq.trans (if_pos c13).symm hF
      refine m_weak (ls1 := [none, none, none, none]) hG trivial ?_
      exact t_X12_way_j33 hsk hd hG hE hF
    · replace hF := Eq.trans (if_neg c13).symm hF
      refine s_iload_n hG dX12_way_21 rfl ?_
      refine s_i2l hG dX12_way_22 ?_
      refine s_lconst (v := 0) hG dX12_way_23 rfl ⟨by decide, by decide⟩ ?_
      refine s_ldc2 hG dX12_way_24 kc_RX12_548 ⟨by decide, by decide⟩ ?_
      obtain ⟨o4, ho4, hF⟩ := bd_some hF
      refine s_callS (d' := d - 1) (args := [.inr (.inl a3), .inr (.inl 0), .inr (.inl 8)]) hG (by omega) dX12_way_27 cs_RX12_179 cw_X12_in rfl (Nat.le_of_ble_eq_true rfl) rfl (t_X12_in hsk (by omega) ho4) ?_
      refine s_if_ne hG 35 dX12_way_30 (by decide) (fun c12 => ?_) (fun c12 => ?_)
      · replace hF := Eq.trans (if_pos c12).symm hF
        refine m_weak (ls1 := [none, none, none, none]) hG trivial ?_
        exact t_X12_way_j33 hsk hd hG hE hF
      · replace hF := Eq.trans (if_neg c12).symm hF
        refine s_aload_n hG dX12_way_35 rfl ?_
        refine s_iload_n hG dX12_way_36 rfl ?_
        refine s_iload_n hG dX12_way_37 rfl ?_
        obtain ⟨o5, ho5, hF⟩ := bd_some hF
        refine s_callV (d' := d - 1) (ci := 12) (args := [.inl a1, .inl a2]) hG (by omega) dX12_way_38 cv_RX12_550 cw_X12_findWay rfl rfl (sk_k hsk 64 rfl) (Nat.le_of_ble_eq_true rfl) rfl (t_X12_findWay hsk (by omega) ho5) ?_
        refine s_aload_n hG dX12_way_41 rfl ?_
        refine s_geti hG dX12_way_42 fl_RX12_530 (sk_k hsk 64 rfl) rfl ?_
        refine s_if_eq hG 58 dX12_way_45 (by decide) (fun c11 => ?_) (fun c11 => ?_)
        · replace hF := Eq.trans (if_pos c11).symm hF
          refine m_weak (ls1 := [none, none, none, none]) hG trivial ?_
          exact t_X12_way_j58 hsk hd hG hE hF
        · replace hF := Eq.trans (if_neg c11).symm hF
          refine s_iload_n hG dX12_way_48 rfl ?_
          refine s_iconst hG dX12_way_49 ⟨by decide, by decide⟩ ?_
          refine s_aload_n hG dX12_way_50 rfl ?_
          refine s_geti hG dX12_way_51 fl_RX12_539 (sk_k hsk 64 rfl) rfl ?_
          refine s_iadd hG dX12_way_54 ?_
          refine s_icmp_le hG 60 dX12_way_55 (by decide) (fun c10 => ?_) (fun c10 => ?_)
          · replace hF := Eq.trans (if_pos c10).symm hF
            refine m_weak (ls1 := [none, none, none, none]) hG trivial ?_
            exact t_X12_way_j58 hsk hd hG hE hF
          · replace hF := Eq.trans (if_neg c10).symm hF
            refine s_iload_n hG dX12_way_60 rfl ?_
            refine s_if_ne hG 71 dX12_way_61 (by decide) (fun c9 => ?_) (fun c9 => ?_)
            · replace hF := Eq.trans (if_pos c9).symm hF
              refine s_aload_n hG dX12_way_64 rfl ?_
              refine s_geti hG dX12_way_65 fl_RX12_530 (sk_k hsk 64 rfl) rfl ?_
              refine s_goto hG 103 dX12_way_68 (by decide) ?_
              refine m_weak (ls1 := [none, none, none, none]) hG trivial ?_
              exact t_X12_way_j103 hsk hd hG hE hF
            · replace hF := Eq.trans (if_neg c9).symm hF
              refine s_iload_n hG dX12_way_71 rfl ?_
              refine s_iconst hG dX12_way_72 ⟨by decide, by decide⟩ ?_
              refine s_icmp_ne hG 83 dX12_way_73 (by decide) (fun c8 => ?_) (fun c8 => ?_)
              · replace hF := Eq.trans (if_pos c8).symm hF
                refine s_aload_n hG dX12_way_76 rfl ?_
                refine s_geti hG dX12_way_77 fl_RX12_533 (sk_k hsk 64 rfl) rfl ?_
                refine s_goto hG 103 dX12_way_80 (by decide) ?_
                refine m_weak (ls1 := [none, none, none, none]) hG trivial ?_
                exact t_X12_way_j103 hsk hd hG hE hF
              · replace hF := Eq.trans (if_neg c8).symm hF
                refine s_iload_n hG dX12_way_83 rfl ?_
                refine s_iconst hG dX12_way_84 ⟨by decide, by decide⟩ ?_
                refine s_icmp_ne hG 95 dX12_way_85 (by decide) (fun c7 => ?_) (fun c7 => ?_)
                · replace hF := Eq.trans (if_pos c7).symm hF
                  refine s_aload_n hG dX12_way_88 rfl ?_
                  refine s_geti hG dX12_way_89 fl_RX12_539 (sk_k hsk 64 rfl) rfl ?_
                  refine s_goto hG 103 dX12_way_92 (by decide) ?_
                  refine m_weak (ls1 := [none, none, none, none]) hG trivial ?_
                  exact t_X12_way_j103 hsk hd hG hE hF
                · replace hF := Eq.trans (if_neg c7).symm hF
                  refine s_aload_n hG dX12_way_95 rfl ?_
                  refine s_getr (r := 94) hG dX12_way_96 fl_RX12_133 (sk_k hsk 64 rfl) rfl (sk_R hsk 64 51 rfl) ?_
                  refine s_iload_n hG dX12_way_99 rfl ?_
                  refine s_iconst hG dX12_way_100 ⟨by decide, by decide⟩ ?_
                  refine s_isub hG dX12_way_101 ?_
                  obtain ⟨g6, hF⟩ := gd_some hF
                  refine s_ialdj (j := (m_w (a3 - 3)).toNat) hG dX12_way_102 (sk_K hsk 94 rfl) g6 rfl ?_
                  refine m_weak (ls1 := [none, none, none, none]) hG trivial ?_
                  exact t_X12_way_j103 hsk hd hG hE hF
