-- X4_size
theorem t_X4_size {d : Nat} {X : MX} {N : NN} {r0 : Nat} {out : Int} (hsk : m_Sk X) (hd : 1 ≤ d) (h0 : m_isP X r0) (hF : f_X4_size X N r0 = some out) : m_Call d yX4_size cX4_size 1 (some .int) [(.inr (.inr r0))] N X (some (.inl out)) N X := by
  refine m_mk (ls0 := [some (.inr (.inr r0))]) (by decide) rfl (Nat.le_of_ble_eq_true rfl) (Nat.le_refl _) (Nat.le_refl _) (fun Ω hE => ?_)
  have hG := hE.G
  unfold f_X4_size at hF
  refine s_aload_n hG dX4_size_0 rfl ?_
  refine s_geti hG dX4_size_1 fl_RX4_24 h0.1 rfl ?_
  cases hF
  exact s_iret hE dX4_size_4 rfl
-- X5_length
theorem t_X5_length {d : Nat} {X : MX} {N : NN} {out : Int} (hsk : m_Sk X) (hd : 1 ≤ d) (hF : f_X5_length X N = some out) : m_Call d yX5_length cX5_length 1 (some .int) [(.inr (.inr 16))] N X (some (.inl out)) N X := by
  refine m_mk (ls0 := [some (.inr (.inr 16))]) (by decide) rfl (Nat.le_of_ble_eq_true rfl) (Nat.le_refl _) (Nat.le_refl _) (fun Ω hE => ?_)
  have hG := hE.G
  unfold f_X5_length at hF
  refine s_aload_n hG dX5_length_0 rfl ?_
  refine s_geti hG dX5_length_1 fl_RX5_33 (sk_k hsk 16 rfl) rfl ?_
  cases hF
  exact s_iret hE dX5_length_4 rfl
-- X11_count
theorem t_X11_count {d : Nat} {X : MX} {N : NN} {a1 : Int} {out : Int} (hsk : m_Sk X) (hd : 4 ≤ d) (hF : f_X11_count X N a1 = some out) : m_Call d yX11_count cX11_count 2 (some .int) [(.inr (.inr 3)), (.inl a1)] N X (some (.inl out)) N X := by
  refine m_mk (ls0 := [some (.inr (.inr 3)), some (.inl a1)]) (by decide) rfl (Nat.le_of_ble_eq_true rfl) (Nat.le_refl _) (Nat.le_refl _) (fun Ω hE => ?_)
  have hG := hE.G
  unfold f_X11_count at hF
  refine s_iload_n hG dX11_count_0 rfl ?_
  refine s_iconst hG dX11_count_1 ⟨by decide, by decide⟩ ?_
  refine s_iconst hG dX11_count_2 ⟨by decide, by decide⟩ ?_
  obtain ⟨o1, ho1, hF⟩ := bd_some hF
  refine s_callS (d' := d - 1) (args := [.inl a1, .inl 0, .inl 4]) hG (by omega) dX11_count_3 cs_RX11_100 cw_X11_within rfl (Nat.le_of_ble_eq_true rfl) rfl (t_X11_within hsk (by omega) ho1) ?_
  refine s_if_eq hG 18 dX11_count_6 (by decide) (fun c20 => ?_) (fun c20 => ?_)
  · replace hF := Eq.trans (if_pos c20).symm hF
    refine s_iload_n hG dX11_count_18 rfl ?_
    refine s_bipush hG dX11_count_19 bp_14 ⟨by decide, by decide⟩ ?_
    refine s_bipush hG dX11_count_21 bp_16 ⟨by decide, by decide⟩ ?_
    obtain ⟨o2, ho2, hF⟩ := bd_some hF
    refine s_callS (d' := d - 1) (args := [.inl a1, .inl 14, .inl 16]) hG (by omega) dX11_count_23 cs_RX11_100 cw_X11_within rfl (Nat.le_of_ble_eq_true rfl) rfl (t_X11_within hsk (by omega) ho2) ?_
    refine s_if_eq hG 41 dX11_count_26 (by decide) (fun c18 => ?_) (fun c18 => ?_)
    · replace hF := Eq.trans (if_pos c18).symm hF
      refine s_iload_n hG dX11_count_41 rfl ?_
      by_cases c16 : a1 = 5
      · replace hF := Eq.trans (if_pos c16).symm hF
        refine s_tableIn hG (off := 50) 92 dX11_count_42 (by omega) (by omega) (by rw [c16]; rfl) (by decide) ?_
        refine s_aload_n hG dX11_count_92 rfl ?_
        refine s_getr (r := 4) hG dX11_count_93 fl_RX11_10 (sk_k hsk 3 rfl) rfl (sk_R hsk 3 0 rfl) ?_
        obtain ⟨o3, ho3, hF⟩ := bd_some hF
        refine s_callV (d' := d - 1) (ci := 10) (args := []) hG (by omega) dX11_count_96 cv_RX11_313 cw_X10_standing rfl rfl (sk_k hsk 4 rfl) (Nat.le_of_ble_eq_true rfl) rfl (t_X10_standing hsk (by omega) (sk_W4 hsk) ho3) ?_
        cases hF
        exact s_iret hE dX11_count_99 rfl
      · replace hF := Eq.trans (if_neg c16).symm hF
        by_cases c15 : a1 = 6
        · replace hF := Eq.trans (if_pos c15).symm hF
          refine s_tableIn hG (off := 58) 100 dX11_count_42 (by omega) (by omega) (by rw [c15]; rfl) (by decide) ?_
          refine s_aload_n hG dX11_count_100 rfl ?_
          refine s_getr (r := 13) hG dX11_count_101 fl_RX11_25 (sk_k hsk 3 rfl) rfl (sk_R hsk 3 3 rfl) ?_
          obtain ⟨o4, ho4, hF⟩ := bd_some hF
          refine s_callV (d' := d - 1) (ci := 4) (args := []) hG (by omega) dX11_count_104 cv_RX11_316 cw_X4_size rfl rfl (sk_k hsk 13 rfl) (Nat.le_of_ble_eq_true rfl) rfl (t_X4_size hsk (by omega) (sk_P13 hsk) ho4) ?_
          cases hF
          exact s_iret hE dX11_count_107 rfl
        · replace hF := Eq.trans (if_neg c15).symm hF
          by_cases c14 : a1 = 7
          · replace hF := Eq.trans (if_pos c14).symm hF
            refine s_tableIn hG (off := 66) 108 dX11_count_42 (by omega) (by omega) (by rw [c14]; rfl) (by decide) ?_
            refine s_aload_n hG dX11_count_108 rfl ?_
            refine s_getr (r := 16) hG dX11_count_109 fl_RX11_32 (sk_k hsk 3 rfl) rfl (sk_R hsk 3 4 rfl) ?_
            obtain ⟨o5, ho5, hF⟩ := bd_some hF
            refine s_callV (d' := d - 1) (ci := 5) (args := []) hG (by omega) dX11_count_112 cv_RX11_167 cw_X5_length rfl rfl (sk_k hsk 16 rfl) (Nat.le_of_ble_eq_true rfl) rfl (t_X5_length hsk (by omega) ho5) ?_
            cases hF
            exact s_iret hE dX11_count_115 rfl
          · replace hF := Eq.trans (if_neg c14).symm hF
            by_cases c13 : a1 = 8
            · replace hF := Eq.trans (if_pos c13).symm hF
              refine s_tableIn hG (off := 74) 116 dX11_count_42 (by omega) (by omega) (by rw [c13]; rfl) (by decide) ?_
              refine s_aload_n hG dX11_count_116 rfl ?_
              refine s_getr (r := 63) hG dX11_count_117 fl_RX11_89 (sk_k hsk 3 rfl) rfl (sk_R hsk 3 12 rfl) ?_
              refine s_iconst hG dX11_count_120 ⟨by decide, by decide⟩ ?_
              refine s_ialdj (j := 1) hG dX11_count_121 (sk_K hsk 63 rfl) ⟨by decide, by decide⟩ rfl ?_
              cases hF
              exact s_iret hE dX11_count_122 rfl
            · replace hF := Eq.trans (if_neg c13).symm hF
              by_cases c12 : a1 = 9
              · replace hF := Eq.trans (if_pos c12).symm hF
                refine s_tableIn hG (off := 81) 123 dX11_count_42 (by omega) (by omega) (by rw [c12]; rfl) (by decide) ?_
                refine s_aload_n hG dX11_count_123 rfl ?_
                refine s_getr (r := 63) hG dX11_count_124 fl_RX11_89 (sk_k hsk 3 rfl) rfl (sk_R hsk 3 12 rfl) ?_
                refine s_iconst hG dX11_count_127 ⟨by decide, by decide⟩ ?_
                refine s_ialdj (j := 2) hG dX11_count_128 (sk_K hsk 63 rfl) ⟨by decide, by decide⟩ rfl ?_
                cases hF
                exact s_iret hE dX11_count_129 rfl
              · replace hF := Eq.trans (if_neg c12).symm hF
                by_cases c11 : a1 = 10
                · replace hF := Eq.trans (if_pos c11).symm hF
                  refine s_tableIn hG (off := 88) 130 dX11_count_42 (by omega) (by omega) (by rw [c11]; rfl) (by decide) ?_
                  refine s_aload_n hG dX11_count_130 rfl ?_
                  refine s_getr (r := 63) hG dX11_count_131 fl_RX11_89 (sk_k hsk 3 rfl) rfl (sk_R hsk 3 12 rfl) ?_
                  refine s_iconst hG dX11_count_134 ⟨by decide, by decide⟩ ?_
                  refine s_ialdj (j := 3) hG dX11_count_135 (sk_K hsk 63 rfl) ⟨by decide, by decide⟩ rfl ?_
                  cases hF
                  exact s_iret hE dX11_count_136 rfl
                · replace hF := Eq.trans (if_neg c11).symm hF
                  by_cases c10 : a1 = 11
                  · replace hF := Eq.trans (if_pos c10).symm hF
                    refine s_tableIn hG (off := 95) 137 dX11_count_42 (by omega) (by omega) (by rw [c10]; rfl) (by decide) ?_
                    refine s_aload_n hG dX11_count_137 rfl ?_
                    refine s_getr (r := 63) hG dX11_count_138 fl_RX11_89 (sk_k hsk 3 rfl) rfl (sk_R hsk 3 12 rfl) ?_
                    refine s_iconst hG dX11_count_141 ⟨by decide, by decide⟩ ?_
                    refine s_ialdj (j := 5) hG dX11_count_142 (sk_K hsk 63 rfl) ⟨by decide, by decide⟩ rfl ?_
                    cases hF
                    exact s_iret hE dX11_count_143 rfl
                  · replace hF := Eq.trans (if_neg c10).symm hF
                    by_cases c9 : a1 = 12
                    · replace hF := Eq.trans (if_pos c9).symm hF
                      refine s_tableIn hG (off := 102) 144 dX11_count_42 (by omega) (by omega) (by rw [c9]; rfl) (by decide) ?_
                      refine s_aload_n hG dX11_count_144 rfl ?_
                      refine s_getr (r := 63) hG dX11_count_145 fl_RX11_89 (sk_k hsk 3 rfl) rfl (sk_R hsk 3 12 rfl) ?_
                      refine s_bipush hG dX11_count_148 bp_6 ⟨by decide, by decide⟩ ?_
                      refine s_ialdj (j := 6) hG dX11_count_150 (sk_K hsk 63 rfl) ⟨by decide, by decide⟩ rfl ?_
                      cases hF
                      exact s_iret hE dX11_count_151 rfl
                    · replace hF := Eq.trans (if_neg c9).symm hF
                      by_cases c8 : a1 = 13
                      · replace hF := Eq.trans (if_pos c8).symm hF
                        refine s_tableIn hG (off := 110) 152 dX11_count_42 (by omega) (by omega) (by rw [c8]; rfl) (by decide) ?_
                        refine s_aload_n hG dX11_count_152 rfl ?_
                        refine s_getr (r := 4) hG dX11_count_153 fl_RX11_10 (sk_k hsk 3 rfl) rfl (sk_R hsk 3 0 rfl) ?_
                        obtain ⟨o6, ho6, hF⟩ := bd_some hF
                        refine s_callV (d' := d - 1) (ci := 10) (args := []) hG (by omega) dX11_count_156 cv_RX11_210 cw_X10_inForce rfl rfl (sk_k hsk 4 rfl) (Nat.le_of_ble_eq_true rfl) rfl (t_X10_inForce hsk (by omega) (sk_W4 hsk) ho6) ?_
                        cases hF
                        exact s_iret hE dX11_count_159 rfl
                      · replace hF := Eq.trans (if_neg c8).symm hF
                        refine s_tableOut hG 160 dX11_count_42 (by omega) (by decide) ?_
                        refine s_iconst hG dX11_count_160 ⟨by decide, by decide⟩ ?_
                        cases hF
                        exact s_iret hE dX11_count_161 rfl
    · replace hF := Eq.trans (if_neg c18).symm hF
      refine s_aload_n hG dX11_count_29 rfl ?_
      refine s_getr (r := 4) hG dX11_count_30 fl_RX11_10 (sk_k hsk 3 rfl) rfl (sk_R hsk 3 0 rfl) ?_
      refine s_iload_n hG dX11_count_33 rfl ?_
      refine s_bipush hG dX11_count_34 bp_14 ⟨by decide, by decide⟩ ?_
      refine s_isub hG dX11_count_36 ?_
      obtain ⟨o17, ho17, hF⟩ := bd_some hF
      refine s_callV (d' := d - 1) (ci := 10) (args := [.inl (m_w (a1 - 14))]) hG (by omega) dX11_count_37 cv_RX11_125 cw_X10_term rfl rfl (sk_k hsk 4 rfl) (Nat.le_of_ble_eq_true rfl) rfl (t_X10_term hsk (by omega) (sk_W4 hsk) ho17) ?_
      cases hF
      exact s_iret hE dX11_count_40 rfl
  · replace hF := Eq.trans (if_neg c20).symm hF
    refine s_aload_n hG dX11_count_9 rfl ?_
    refine s_getr (r := 4) hG dX11_count_10 fl_RX11_10 (sk_k hsk 3 rfl) rfl (sk_R hsk 3 0 rfl) ?_
    refine s_iload_n hG dX11_count_13 rfl ?_
    obtain ⟨o19, ho19, hF⟩ := bd_some hF
    refine s_callV (d' := d - 1) (ci := 10) (args := [.inl a1]) hG (by omega) dX11_count_14 cv_RX11_108 cw_X10_many rfl rfl (sk_k hsk 4 rfl) (Nat.le_of_ble_eq_true rfl) rfl (t_X10_many hsk (by omega) (sk_W4 hsk) ho19) ?_
    cases hF
    exact s_iret hE dX11_count_17 rfl
-- X11_debt
theorem t_X11_debt_j35 {d n0 s0 nF sF : Nat} {X : MX} {N : NN} {Ω : Nat → MS → Prop} (hsk : m_Sk X) (hd : 2 ≤ d) (hG : m_G d yX11_debt.cls yX11_debt.name cX11_debt 4 n0 s0 nF sF Ω) {out : Int} (hE : m_Gd d yX11_debt cX11_debt 4 (some .int) X (some (.inl out)) N X Ω) (hF : f_X11_debt_j35 X N = some out) : Ω 35 ([none, none, none, none], [], N, X) := by
  unfold f_X11_debt_j35 at hF
  refine s_iconst hG dX11_debt_35 ⟨by decide, by decide⟩ ?_
  cases hF
  exact s_iret hE dX11_debt_36 rfl
theorem t_X11_debt {d : Nat} {X : MX} {N : NN} {a1 : Int} {a2 : Int} {a3 : Int} {out : Int} (hsk : m_Sk X) (hd : 2 ≤ d) (hF : f_X11_debt X N a1 a2 a3 = some out) : m_Call d yX11_debt cX11_debt 4 (some .int) [(.inr (.inr 3)), (.inl a1), (.inl a2), (.inl a3)] N X (some (.inl out)) N X := by
  refine m_mk (ls0 := [some (.inr (.inr 3)), some (.inl a1), some (.inl a2), some (.inl a3)]) (by decide) rfl (Nat.le_of_ble_eq_true rfl) (Nat.le_refl _) (Nat.le_refl _) (fun Ω hE => ?_)
  have hG := hE.G
  unfold f_X11_debt at hF
  refine s_aload_n hG dX11_debt_0 rfl ?_
  refine s_getr (r := 4) hG dX11_debt_1 fl_RX11_10 (sk_k hsk 3 rfl) rfl (sk_R hsk 3 0 rfl) ?_
  refine s_iload_n hG dX11_debt_4 rfl ?_
  obtain ⟨o1, ho1, hF⟩ := bd_some hF
  refine s_callV (d' := d - 1) (ci := 10) (args := [.inl a1]) hG (by omega) dX11_debt_5 cv_RX11_121 cw_X10_isLord rfl rfl (sk_k hsk 4 rfl) (Nat.le_of_ble_eq_true rfl) rfl (t_X10_isLord hsk (by omega) (sk_W4 hsk) ho1) ?_
  refine s_if_eq hG 35 dX11_debt_8 (by decide) (fun c10 => ?_) (fun c10 => ?_)
  · replace hF := Eq.trans (if_pos c10).symm hF
    refine m_weak (ls1 := [none, none, none, none]) hG trivial ?_
    exact t_X11_debt_j35 hsk hd hG hE hF
  · replace hF := Eq.trans (if_neg c10).symm hF
    refine s_aload_n hG dX11_debt_11 rfl ?_
    refine s_getr (r := 4) hG dX11_debt_12 fl_RX11_10 (sk_k hsk 3 rfl) rfl (sk_R hsk 3 0 rfl) ?_
    refine s_iload_n hG dX11_debt_15 rfl ?_
    obtain ⟨o2, ho2, hF⟩ := bd_some hF
    refine s_callV (d' := d - 1) (ci := 10) (args := [.inl a2]) hG (by omega) dX11_debt_16 cv_RX11_121 cw_X10_isLord rfl rfl (sk_k hsk 4 rfl) (Nat.le_of_ble_eq_true rfl) rfl (t_X10_isLord hsk (by omega) (sk_W4 hsk) ho2) ?_
    refine s_if_eq hG 35 dX11_debt_19 (by decide) (fun c9 => ?_) (fun c9 => ?_)
    · replace hF := Eq.trans (if_pos c9).symm hF
      refine m_weak (ls1 := [none, none, none, none]) hG trivial ?_
      exact t_X11_debt_j35 hsk hd hG hE hF
    · replace hF := Eq.trans (if_neg c9).symm hF
      refine s_aload_n hG dX11_debt_22 rfl ?_
      refine s_getr (r := 4) hG dX11_debt_23 fl_RX11_10 (sk_k hsk 3 rfl) rfl (sk_R hsk 3 0 rfl) ?_
      refine s_iload_n hG dX11_debt_26 rfl ?_
      refine s_iload_n hG dX11_debt_27 rfl ?_
      obtain ⟨o3, ho3, hF⟩ := bd_some hF
      refine s_callV (d' := d - 1) (ci := 10) (args := [.inl a1, .inl a2]) hG (by omega) dX11_debt_28 cv_RX11_242 cw_X10_worthOwed rfl rfl (sk_k hsk 4 rfl) (Nat.le_of_ble_eq_true rfl) rfl (t_X10_worthOwed hsk (by omega) (sk_W4 hsk) ho3) ?_
      refine s_iconst hG dX11_debt_31 ⟨by decide, by decide⟩ ?_
      refine s_icmp_ne hG 37 dX11_debt_32 (by decide) (fun c8 => ?_) (fun c8 => ?_)
      · replace hF := Eq.trans (if_pos c8).symm hF
        refine m_weak (ls1 := [none, none, none, none]) hG trivial ?_
        exact t_X11_debt_j35 hsk hd hG hE hF
      · replace hF := Eq.trans (if_neg c8).symm hF
        refine s_iload_n hG dX11_debt_37 rfl ?_
        by_cases c5 : a3 = 0
        · replace hF := Eq.trans (if_pos c5).symm hF
          refine s_lookup hG (off := 26) 64 dX11_debt_38 (by decide) (by rw [c5]; rfl) (by decide) ?_
          refine s_aload_n hG dX11_debt_64 rfl ?_
          refine s_getr (r := 4) hG dX11_debt_65 fl_RX11_10 (sk_k hsk 3 rfl) rfl (sk_R hsk 3 0 rfl) ?_
          refine s_iload_n hG dX11_debt_68 rfl ?_
          refine s_iload_n hG dX11_debt_69 rfl ?_
          obtain ⟨o4, ho4, hF⟩ := bd_some hF
          refine s_callV (d' := d - 1) (ci := 10) (args := [.inl a1, .inl a2]) hG (by omega) dX11_debt_70 cv_RX11_242 cw_X10_worthOwed rfl rfl (sk_k hsk 4 rfl) (Nat.le_of_ble_eq_true rfl) rfl (t_X10_worthOwed hsk (by omega) (sk_W4 hsk) ho4) ?_
          cases hF
          exact s_iret hE dX11_debt_73 rfl
        · replace hF := Eq.trans (if_neg c5).symm hF
          by_cases c7 : a3 = 1
          · replace hF := Eq.trans (if_pos c7).symm hF
            refine s_lookup hG (off := 36) 74 dX11_debt_38 (by decide) (by rw [c7]; rfl) (by decide) ?_
            refine s_aload_n hG dX11_debt_74 rfl ?_
            refine s_getr (r := 4) hG dX11_debt_75 fl_RX11_10 (sk_k hsk 3 rfl) rfl (sk_R hsk 3 0 rfl) ?_
            refine s_iload_n hG dX11_debt_78 rfl ?_
            refine s_iload_n hG dX11_debt_79 rfl ?_
            obtain ⟨o6, ho6, hF⟩ := bd_some hF
            refine s_callV (d' := d - 1) (ci := 10) (args := [.inl a1, .inl a2]) hG (by omega) dX11_debt_80 cv_RX11_245 cw_X10_since rfl rfl (sk_k hsk 4 rfl) (Nat.le_of_ble_eq_true rfl) rfl (t_X10_since hsk (by omega) (sk_W4 hsk) ho6) ?_
            cases hF
            exact s_iret hE dX11_debt_83 rfl
          · replace hF := Eq.trans (if_neg c7).symm hF
            refine s_lookup hG (off := 46) 84 dX11_debt_38 (by decide) (by simp [Op.lookupswitch.offset, Ne.symm c5, Ne.symm c7]) (by decide) ?_
            refine s_iconst hG dX11_debt_84 ⟨by decide, by decide⟩ ?_
            cases hF
            exact s_iret hE dX11_debt_85 rfl
-- X11_drawn
theorem t_X11_drawn_j26 {d n0 s0 nF sF : Nat} {X : MX} {N : NN} {Ω : Nat → MS → Prop} {z0 : Int} (hsk : m_Sk X) (hd : 4 ≤ d) (hG : m_G d yX11_drawn.cls yX11_drawn.name cX11_drawn 4 n0 s0 nF sF Ω) {out : Int} (hE : m_Gd d yX11_drawn cX11_drawn 4 (some .int) X (some (.inl out)) N X Ω) (hF : f_X11_drawn_j26 X N z0 = some out) : Ω 26 ([none, none, none, none], [(.inl z0)], N, X) := by
  unfold f_X11_drawn_j26 at hF
  cases hF
  exact s_iret hE dX11_drawn_26 rfl
theorem t_X11_drawn {d : Nat} {X : MX} {N : NN} {a1 : Int} {a2 : Int} {out : Int} (hsk : m_Sk X) (hd : 4 ≤ d) (hF : f_X11_drawn X N a1 a2 = some out) : m_Call d yX11_drawn cX11_drawn 4 (some .int) [(.inr (.inr 3)), (.inl a1), (.inl a2)] N X (some (.inl out)) N X := by
  refine m_mk (ls0 := [some (.inr (.inr 3)), some (.inl a1), some (.inl a2), none]) (by decide) rfl (Nat.le_of_ble_eq_true rfl) (Nat.le_refl _) (Nat.le_refl _) (fun Ω hE => ?_)
  have hG := hE.G
  unfold f_X11_drawn at hF
  refine s_aload_n hG dX11_drawn_0 rfl ?_
  refine s_getr (r := 29) hG dX11_drawn_1 fl_RX11_48 (sk_k hsk 3 rfl) rfl (sk_R hsk 3 6 rfl) ?_
  obtain ⟨o1, ho1, hF⟩ := bd_some hF
  obtain rfl : 30 = o1 := Option.some.inj ho1
  refine s_callV (d' := d - 1) (ci := 0) (args := []) hG (by omega) dX11_drawn_4 cv_RX11_298 cw_X0_latestDrawn rfl rfl (sk_k hsk 29 rfl) (Nat.le_of_ble_eq_true rfl) rfl (t_X0_latestDrawn hsk (by omega) ho1) ?_
  refine s_astore_n hG dX11_drawn_7 (by decide) rfl ?_
  refine s_aload_n hG dX11_drawn_8 rfl ?_
  refine s_iload_n hG dX11_drawn_9 rfl ?_
  obtain ⟨o2, ho2, hF⟩ := bd_some hF
  refine s_callV (d' := d - 1) (ci := 10) (args := [.inl a1]) hG (by omega) dX11_drawn_10 cv_RX11_121 cw_X10_isLord rfl rfl (sk_k hsk 30 rfl) (Nat.le_of_ble_eq_true rfl) rfl (t_X10_isLord hsk (by omega) (sk_W30 hsk) ho2) ?_
  refine s_if_eq hG 25 dX11_drawn_13 (by decide) (fun c4 => ?_) (fun c4 => ?_)
  · replace hF := Eq.trans (if_pos c4).symm hF
    refine s_iconst hG dX11_drawn_25 ⟨by decide, by decide⟩ ?_
    refine m_weak (ls1 := [none, none, none, none]) hG trivial ?_
    exact t_X11_drawn_j26 hsk hd hG hE hF
  · replace hF := Eq.trans (if_neg c4).symm hF
    refine s_aload_n hG dX11_drawn_16 rfl ?_
    refine s_iload_n hG dX11_drawn_17 rfl ?_
    refine s_iload_n hG dX11_drawn_18 rfl ?_
    obtain ⟨o3, ho3, hF⟩ := bd_some hF
    refine s_callV (d' := d - 1) (ci := 10) (args := [.inl a1, .inl a2]) hG (by omega) dX11_drawn_19 cv_RX11_132 cw_X10_seenOf rfl rfl (sk_k hsk 30 rfl) (Nat.le_of_ble_eq_true rfl) rfl (t_X10_seenOf hsk (by omega) (sk_W30 hsk) ho3) ?_
    refine s_goto hG 26 dX11_drawn_22 (by decide) ?_
    refine m_weak (ls1 := [none, none, none, none]) hG trivial ?_
    exact t_X11_drawn_j26 hsk hd hG hE hF
-- X11_dross
theorem t_X11_dross {d : Nat} {X : MX} {N : NN} {out : Int} (hsk : m_Sk X) (hd : 1 ≤ d) (hF : f_X11_dross X N = some out) : m_Call d yX11_dross cX11_dross 1 (some .int) [(.inr (.inr 3))] N X (some (.inl out)) N X := by
  refine m_mk (ls0 := [some (.inr (.inr 3))]) (by decide) rfl (Nat.le_of_ble_eq_true rfl) (Nat.le_refl _) (Nat.le_refl _) (fun Ω hE => ?_)
  have hG := hE.G
  unfold f_X11_dross at hF
  refine s_aload_n hG dX11_dross_0 rfl ?_
  refine s_geti hG dX11_dross_1 fl_RX11_97 (sk_k hsk 3 rfl) rfl ?_
  cases hF
  exact s_iret hE dX11_dross_4 rfl
-- X1_gather
theorem t_X1_gather_l32_j151 {d n0 s0 nF sF : Nat} {X : MX} {r1 : Nat} {Ω : Nat → MS → Prop} {N : NN} {a2 : Int} {a3 : Int} {a4 : Int} {a5 : Int} {a6 : Int} {a7 : Int} (hsk : m_Sk X) (hd : 5 ≤ d) (h1 : m_isW X r1) (hG : m_G d yX1_gather.cls yX1_gather.name cX1_gather 9 n0 s0 nF sF Ω) {out : ((NN × Int × Int × Int × Int × Int × Int) ⊕ NN)} (hK0 : ∀ s' : (NN × Int × Int × Int × Int × Int × Int), out = .inl s' → Ω 32 ([some (.inr (.inr 42)), some (.inr (.inr r1)), some (.inl (s'.2.1)), some (.inl (s'.2.2.1)), some (.inl (s'.2.2.2.1)), some (.inl (s'.2.2.2.2.1)), some (.inl (s'.2.2.2.2.2.1)), some (.inl (s'.2.2.2.2.2.2)), none], [], s'.1, X)) (hK1 : ∀ t : NN, out = .inr t → Ω 157 ([none, none, none, none, none, none, none, none, none], [], t, X)) (hF : f_X1_gather_l32_j151 X r1 N a2 a3 a4 a5 a6 a7 = some out) : Ω 151 ([some (.inr (.inr 42)), some (.inr (.inr r1)), some (.inl a2), some (.inl a3), some (.inl a4), some (.inl a5), some (.inl a6), some (.inl a7), none], [], N, X) := by
  unfold f_X1_gather_l32_j151 at hF
  refine s_iinc hG dX1_gather_151 (by decide) rfl rfl ?_
  refine s_goto hG 32 dX1_gather_154 (by decide) ?_
  cases hF
  exact hK0 _ rfl
theorem t_X1_gather_b32 {d n0 s0 nF sF : Nat} {X : MX} {r1 : Nat} {Ω : Nat → MS → Prop} {N : NN} {a2 : Int} {a3 : Int} {a4 : Int} {a5 : Int} {a6 : Int} {a7 : Int} (hsk : m_Sk X) (hd : 5 ≤ d) (h1 : m_isW X r1) (hG : m_G d yX1_gather.cls yX1_gather.name cX1_gather 9 n0 s0 nF sF Ω) {out : ((NN × Int × Int × Int × Int × Int × Int) ⊕ NN)} (hK0 : ∀ s' : (NN × Int × Int × Int × Int × Int × Int), out = .inl s' → Ω 32 ([some (.inr (.inr 42)), some (.inr (.inr r1)), some (.inl (s'.2.1)), some (.inl (s'.2.2.1)), some (.inl (s'.2.2.2.1)), some (.inl (s'.2.2.2.2.1)), some (.inl (s'.2.2.2.2.2.1)), some (.inl (s'.2.2.2.2.2.2)), none], [], s'.1, X)) (hK1 : ∀ t : NN, out = .inr t → Ω 157 ([none, none, none, none, none, none, none, none, none], [], t, X)) (hF : b_X1_gather_32 X r1 N a2 a3 a4 a5 a6 a7 = some out) : Ω 32 ([some (.inr (.inr 42)), some (.inr (.inr r1)), some (.inl a2), some (.inl a3), some (.inl a4), some (.inl a5), some (.inl a6), some (.inl a7), none], [], N, X) := by
  unfold b_X1_gather_32 at hF
  refine s_iload hG dX1_gather_32 rfl ?_
  refine s_aload_n hG dX1_gather_34 rfl ?_
  refine s_iconst hG dX1_gather_35 ⟨by decide, by decide⟩ ?_
  obtain ⟨o7, ho7, hF⟩ := bd_some hF
  refine s_callV (d' := d - 1) (ci := 10) (args := [.inl 1]) hG (by omega) dX1_gather_36 cv_RX1_60 cw_X10_many rfl rfl h1.1 (Nat.le_of_ble_eq_true rfl) rfl (t_X10_many hsk (by omega) h1 ho7) ?_
  refine s_icmp_ge hG 157 dX1_gather_39 (by decide) (fun c25 => ?_) (fun c25 => ?_)
  · replace hF := Eq.trans (if_pos c25).symm hF
    refine s_iload hG dX1_gather_42 rfl ?_
    refine s_bipush hG dX1_gather_44 bp_6 ⟨by decide, by decide⟩ ?_
    refine s_icmp_ge hG 157 dX1_gather_46 (by decide) (fun c24 => ?_) (fun c24 => ?_)
    · replace hF := Eq.trans (if_pos c24).symm hF
      refine s_aload_n hG dX1_gather_49 rfl ?_
      refine s_iload hG dX1_gather_50 rfl ?_
      refine s_iload_n hG dX1_gather_52 rfl ?_
      obtain ⟨o8, ho8, hF⟩ := bd_some hF
      refine s_callV (d' := d - 1) (ci := 10) (args := [.inl a7, .inl a3]) hG (by omega) dX1_gather_53 cv_RX1_62 cw_X10_isOwnedAndHeld rfl rfl h1.1 (Nat.le_of_ble_eq_true rfl) rfl (t_X10_isOwnedAndHeld hsk (by omega) h1 ho8) ?_
      refine s_if_eq hG 151 dX1_gather_56 (by decide) (fun c23 => ?_) (fun c23 => ?_)
      · replace hF := Eq.trans (if_pos c23).symm hF
        exact t_X1_gather_l32_j151 hsk hd h1 hG hK0 hK1 hF
      · replace hF := Eq.trans (if_neg c23).symm hF
        refine s_iinc hG dX1_gather_59 (by decide) rfl rfl ?_
        refine s_aload_n hG dX1_gather_62 rfl ?_
        refine s_getr (r := 25) hG dX1_gather_63 fl_RX1_27 (sk_k hsk 42 rfl) rfl (sk_R hsk 42 0 rfl) ?_
        refine s_aload_n hG dX1_gather_66 rfl ?_
        refine s_iload hG dX1_gather_67 rfl ?_
        refine s_iload_n hG dX1_gather_69 rfl ?_
        refine s_iload hG dX1_gather_70 rfl ?_
        obtain ⟨o9, ho9, hF⟩ := bd_some hF
        refine s_callV (d' := d - 1) (ci := 2) (args := [.inr (.inr r1), .inl a7, .inl a3, .inl a4]) hG (by omega) dX1_gather_72 cv_RX1_66 cw_X2_bars rfl rfl (sk_k hsk 25 rfl) (Nat.le_of_ble_eq_true rfl) rfl (t_X2_bars hsk (by omega) h1 ho9) ?_
        refine s_if_ne hG 151 dX1_gather_75 (by decide) (fun c22 => ?_) (fun c22 => ?_)
        · replace hF := Eq.trans (if_pos c22).symm hF
          refine s_iload_n hG dX1_gather_78 rfl ?_
          refine s_bipush hG dX1_gather_79 bp_6 ⟨by decide, by decide⟩ ?_
          refine s_imul hG dX1_gather_81 ?_
          refine s_aload_n hG dX1_gather_82 rfl ?_
          refine s_getr (r := 46) hG dX1_gather_83 fl_RX1_21 (sk_k hsk 42 rfl) rfl (sk_R hsk 42 4 rfl) ?_
          refine s_iload_n hG dX1_gather_86 rfl ?_
          obtain ⟨g10, hF⟩ := gd_some hF
          refine s_ialdj (j := a2.toNat) hG dX1_gather_87 (sk_K hsk 46 rfl) g10 rfl ?_
          refine s_iadd hG dX1_gather_88 ?_
          refine s_istore hG dX1_gather_89 (by decide) rfl ?_
          refine s_aload_n hG dX1_gather_91 rfl ?_
          refine s_getr (r := 43) hG dX1_gather_92 fl_RX1_11 (sk_k hsk 42 rfl) rfl (sk_R hsk 42 1 rfl) ?_
          refine s_iload hG dX1_gather_95 rfl ?_
          refine s_iload hG dX1_gather_97 rfl ?_
          obtain ⟨g11, hF⟩ := gd_some hF
          refine s_iastj (j := (m_w ((m_w (a2 * 6)) + (o9.2 46 a2.toNat))).toNat) hG dX1_gather_99 (sk_K hsk 43 rfl) g11 rfl ?_
          refine s_aload_n hG dX1_gather_100 rfl ?_
          refine s_getr (r := 44) hG dX1_gather_101 fl_RX1_15 (sk_k hsk 42 rfl) rfl (sk_R hsk 42 2 rfl) ?_
          refine s_iload hG dX1_gather_104 rfl ?_
          refine s_aload_n hG dX1_gather_106 rfl ?_
          refine s_getr (r := 25) hG dX1_gather_107 fl_RX1_27 (sk_k hsk 42 rfl) rfl (sk_R hsk 42 0 rfl) ?_
          refine s_aload_n hG dX1_gather_110 rfl ?_
          refine s_iload hG dX1_gather_111 rfl ?_
          refine s_iload_n hG dX1_gather_113 rfl ?_
          refine s_iload hG dX1_gather_114 rfl ?_
          obtain ⟨o13, ho13, hF⟩ := bd_some hF
          refine s_callV (d' := d - 1) (ci := 2) (args := [.inr (.inr r1), .inl a7, .inl a3, .inl a4]) hG (by omega) dX1_gather_116 cv_RX1_72 cw_X2_worth rfl rfl (sk_k hsk 25 rfl) (Nat.le_of_ble_eq_true rfl) rfl (t_X2_worth hsk (by omega) h1 ho13) ?_
          obtain ⟨g14, hF⟩ := gd_some hF
          refine s_iastj (j := (m_w ((m_w (a2 * 6)) + (o9.2 46 a2.toNat))).toNat) hG dX1_gather_119 (sk_K hsk 44 rfl) g14 rfl ?_
          refine s_aload_n hG dX1_gather_120 rfl ?_
          refine s_getr (r := 45) hG dX1_gather_121 fl_RX1_18 (sk_k hsk 42 rfl) rfl (sk_R hsk 42 3 rfl) ?_
          refine s_iload hG dX1_gather_124 rfl ?_
          refine s_aload_n hG dX1_gather_126 rfl ?_
          refine s_getr (r := 25) hG dX1_gather_127 fl_RX1_27 (sk_k hsk 42 rfl) rfl (sk_R hsk 42 0 rfl) ?_
          refine s_aload_n hG dX1_gather_130 rfl ?_
          refine s_iload hG dX1_gather_131 rfl ?_
          refine s_iload hG dX1_gather_133 rfl ?_
          refine s_iload hG dX1_gather_135 rfl ?_
          obtain ⟨o16, ho16, hF⟩ := bd_some hF
          refine s_callV (d' := d - 1) (ci := 2) (args := [.inr (.inr r1), .inl a7, .inl a4, .inl a5]) hG (by omega) dX1_gather_137 cv_RX1_76 cw_X2_costs rfl rfl (sk_k hsk 25 rfl) (Nat.le_of_ble_eq_true rfl) rfl (t_X2_costs hsk (by omega) h1 ho16) ?_
          obtain ⟨g17, hF⟩ := gd_some hF
          refine s_iastj (j := (m_w ((m_w (a2 * 6)) + (o9.2 46 a2.toNat))).toNat) hG dX1_gather_140 (sk_K hsk 45 rfl) g17 rfl ?_
          refine s_aload_n hG dX1_gather_141 rfl ?_
          refine s_getr (r := 46) hG dX1_gather_142 fl_RX1_21 (sk_k hsk 42 rfl) rfl (sk_R hsk 42 4 rfl) ?_
          refine s_iload_n hG dX1_gather_145 rfl ?_
          refine s_dup2 hG dX1_gather_146 rfl rfl ?_
          obtain ⟨g19, hF⟩ := gd_some hF
          refine s_ialdj (j := a2.toNat) hG dX1_gather_147 (sk_K hsk 46 rfl) g19 rfl ?_
          refine s_iconst hG dX1_gather_148 ⟨by decide, by decide⟩ ?_
          refine s_iadd hG dX1_gather_149 ?_
          obtain ⟨g20, hF⟩ := gd_some hF
          refine s_iastj (j := a2.toNat) hG dX1_gather_150 (sk_K hsk 46 rfl) g20 rfl ?_
          refine m_weak (ls1 := [some (.inr (.inr 42)), some (.inr (.inr r1)), some (.inl a2), some (.inl a3), some (.inl a4), some (.inl a5), some (.inl (m_w (a6 + 1))), some (.inl a7), none]) hG ⟨rfl, ⟨rfl, ⟨rfl, ⟨rfl, ⟨rfl, ⟨rfl, ⟨rfl, ⟨rfl, trivial⟩⟩⟩⟩⟩⟩⟩⟩ ?_
          exact t_X1_gather_l32_j151 hsk hd h1 hG hK0 hK1 hF
        · replace hF := Eq.trans (if_neg c22).symm hF
          exact t_X1_gather_l32_j151 hsk hd h1 hG hK0 hK1 hF
    · replace hF := Eq.trans (if_neg c24).symm hF
      cases hF
      refine m_weak (ls1 := [none, none, none, none, none, none, none, none, none]) hG trivial ?_
      exact hK1 _ rfl
  · replace hF := Eq.trans (if_neg c25).symm hF
    cases hF
    refine m_weak (ls1 := [none, none, none, none, none, none, none, none, none]) hG trivial ?_
    exact hK1 _ rfl
theorem t_X1_gather_lp32 {d n0 s0 nF sF : Nat} {X : MX} {r1 : Nat} {Ω : Nat → MS → Prop} {N : NN} {a2 : Int} {a3 : Int} {a4 : Int} {a5 : Int} {a6 : Int} {a7 : Int} (hsk : m_Sk X) (hd : 5 ≤ d) (h1 : m_isW X r1) (hG : m_G d yX1_gather.cls yX1_gather.name cX1_gather 9 n0 s0 nF sF Ω) {t : NN} (hK1 : Ω 157 ([none, none, none, none, none, none, none, none, none], [], t, X)) (hl : lp (fun s => b_X1_gather_32 X r1 s.1 s.2.1 s.2.2.1 s.2.2.2.1 s.2.2.2.2.1 s.2.2.2.2.2.1 s.2.2.2.2.2.2) (N, a2, a3, a4, a5, a6, a7) = some t) : Ω 32 ([some (.inr (.inr 42)), some (.inr (.inr r1)), some (.inl a2), some (.inl a3), some (.inl a4), some (.inl a5), some (.inl a6), some (.inl a7), none], [], N, X) := by
  refine lp_ok (P := fun s => Ω 32 ([some (.inr (.inr 42)), some (.inr (.inr r1)), some (.inl s.2.1), some (.inl s.2.2.1), some (.inl s.2.2.2.1), some (.inl s.2.2.2.2.1), some (.inl s.2.2.2.2.2.1), some (.inl s.2.2.2.2.2.2), none], [], s.1, X)) (K := fun t => Ω 157 ([none, none, none, none, none, none, none, none, none], [], t, X)) (fun s out hF hK0 hK1 => ?_) hl hK1
  exact t_X1_gather_b32 hsk hd h1 hG (out := out) (fun s' e => hK0 s' e) (fun t' e => hK1 t' e) hF
theorem t_X1_gather {d : Nat} {X : MX} {r1 : Nat} {N : NN} {a2 : Int} {a3 : Int} {a4 : Int} {out : NN} (hsk : m_Sk X) (hd : 5 ≤ d) (h1 : m_isW X r1) (hF : f_X1_gather X r1 N a2 a3 a4 = some out) : m_Call d yX1_gather cX1_gather 9 none [(.inr (.inr 42)), (.inr (.inr r1)), (.inl a2), (.inl a3), (.inl a4)] N X none out X := by
  refine m_mk (ls0 := [some (.inr (.inr 42)), some (.inr (.inr r1)), some (.inl a2), some (.inl a3), some (.inl a4), none, none, none, none]) (by decide) rfl (Nat.le_of_ble_eq_true rfl) (Nat.le_refl _) (Nat.le_refl _) (fun Ω hE => ?_)
  have hG := hE.G
  unfold f_X1_gather at hF
  refine s_aload_n hG dX1_gather_0 rfl ?_
  refine s_getr (r := 47) hG dX1_gather_1 fl_RX1_24 (sk_k hsk 42 rfl) rfl (sk_R hsk 42 5 rfl) ?_
  refine s_iload_n hG dX1_gather_4 rfl ?_
  refine s_aload_n hG dX1_gather_5 rfl ?_
  refine s_iload_n hG dX1_gather_6 rfl ?_
  refine s_iconst hG dX1_gather_7 ⟨by decide, by decide⟩ ?_
  obtain ⟨o1, ho1, hF⟩ := bd_some hF
  refine s_callV (d' := d - 1) (ci := 10) (args := [.inl a3, .inl 0]) hG (by omega) dX1_gather_8 cv_RX1_52 cw_X10_lordAt rfl rfl h1.1 (Nat.le_of_ble_eq_true rfl) rfl (t_X10_lordAt hsk (by omega) h1 ho1) ?_
  obtain ⟨g2, hF⟩ := gd_some hF
  refine s_iastj (j := a2.toNat) hG dX1_gather_11 (sk_K hsk 47 rfl) g2 rfl ?_
  refine s_aload_n hG dX1_gather_12 rfl ?_
  refine s_getr (r := 46) hG dX1_gather_13 fl_RX1_21 (sk_k hsk 42 rfl) rfl (sk_R hsk 42 4 rfl) ?_
  refine s_iload_n hG dX1_gather_16 rfl ?_
  refine s_iconst hG dX1_gather_17 ⟨by decide, by decide⟩ ?_
  obtain ⟨g4, hF⟩ := gd_some hF
  refine s_iastj (j := a2.toNat) hG dX1_gather_18 (sk_K hsk 46 rfl) g4 rfl ?_
  refine s_aload_n hG dX1_gather_19 rfl ?_
  refine s_iconst hG dX1_gather_20 ⟨by decide, by decide⟩ ?_
  obtain ⟨o6, ho6, hF⟩ := bd_some hF
  refine s_callV (d' := d - 1) (ci := 10) (args := [.inl 0]) hG (by omega) dX1_gather_21 cv_RX1_56 cw_X10_term rfl rfl h1.1 (Nat.le_of_ble_eq_true rfl) rfl (t_X10_term hsk (by omega) h1 ho6) ?_
  refine s_istore hG dX1_gather_24 (by decide) rfl ?_
  refine s_iconst hG dX1_gather_26 ⟨by decide, by decide⟩ ?_
  refine s_istore hG dX1_gather_27 (by decide) rfl ?_
  refine s_iconst hG dX1_gather_29 ⟨by decide, by decide⟩ ?_
  refine s_istore hG dX1_gather_30 (by decide) rfl ?_
  obtain ⟨o26, hlo26, hF⟩ := bd_some hF
  refine t_X1_gather_lp32 hsk hd h1 hG ?_ hlo26
  cases hF
  exact s_vret hE dX1_gather_157 rfl
-- X1_lowestPossible
theorem t_X1_lowestPossible_b2 {d n0 s0 nF sF : Nat} {X : MX} {N : NN} {Ω : Nat → MS → Prop} {a1 : Int} {a2 : Int} {a3 : Int} (hsk : m_Sk X) (hd : 1 ≤ d) (hG : m_G d yX1_lowestPossible.cls yX1_lowestPossible.name cX1_lowestPossible 4 n0 s0 nF sF Ω) {out : ((Int × Int × Int) ⊕ (Unit ⊕ (Int × Int)))} (hK0 : ∀ s' : (Int × Int × Int), out = .inl s' → Ω 2 ([some (.inr (.inr 42)), some (.inl (s'.1)), some (.inl (s'.2.1)), some (.inl (s'.2.2))], [], N, X)) (hK1 : ∀ t : (Unit ⊕ (Int × Int)), out = .inr t → match t with | .inl e => Ω 40 ([none, none, none, none], [], N, X) | .inr e => Ω 27 ([none, some (.inl e.1), none, some (.inl e.2)], [], N, X)) (hF : b_X1_lowestPossible_2 X N a1 a2 a3 = some out) : Ω 2 ([some (.inr (.inr 42)), some (.inl a1), some (.inl a2), some (.inl a3)], [], N, X) := by
  unfold b_X1_lowestPossible_2 at hF
  refine s_iload_n hG dX1_lowestPossible_2 rfl ?_
  refine s_aload_n hG dX1_lowestPossible_3 rfl ?_
  refine s_getr (r := 46) hG dX1_lowestPossible_4 fl_RX1_21 (sk_k hsk 42 rfl) rfl (sk_R hsk 42 4 rfl) ?_
  refine s_iload_n hG dX1_lowestPossible_7 rfl ?_
  obtain ⟨g1, hF⟩ := gd_some hF
  refine s_ialdj (j := a1.toNat) hG dX1_lowestPossible_8 (sk_K hsk 46 rfl) g1 rfl ?_
  refine s_icmp_ge hG 40 dX1_lowestPossible_9 (by decide) (fun c4 => ?_) (fun c4 => ?_)
  · replace hF := Eq.trans (if_pos c4).symm hF
    refine s_aload_n hG dX1_lowestPossible_12 rfl ?_
    refine s_getr (r := 44) hG dX1_lowestPossible_13 fl_RX1_15 (sk_k hsk 42 rfl) rfl (sk_R hsk 42 2 rfl) ?_
    refine s_iload_n hG dX1_lowestPossible_16 rfl ?_
    refine s_bipush hG dX1_lowestPossible_17 bp_6 ⟨by decide, by decide⟩ ?_
    refine s_imul hG dX1_lowestPossible_19 ?_
    refine s_iload_n hG dX1_lowestPossible_20 rfl ?_
    refine s_iadd hG dX1_lowestPossible_21 ?_
    obtain ⟨g2, hF⟩ := gd_some hF
    refine s_ialdj (j := (m_w ((m_w (a1 * 6)) + a3)).toNat) hG dX1_lowestPossible_22 (sk_K hsk 44 rfl) g2 rfl ?_
    refine s_iload_n hG dX1_lowestPossible_23 rfl ?_
    refine s_icmp_le hG 34 dX1_lowestPossible_24 (by decide) (fun c3 => ?_) (fun c3 => ?_)
    · replace hF := Eq.trans (if_pos c3).symm hF
      cases hF
      refine m_weak (ls1 := [none, some (.inl a1), none, some (.inl a3)]) hG ⟨rfl, ⟨rfl, trivial⟩⟩ ?_
      exact hK1 _ rfl
    · replace hF := Eq.trans (if_neg c3).symm hF
      refine s_iinc hG dX1_lowestPossible_34 (by decide) rfl rfl ?_
      refine s_goto hG 2 dX1_lowestPossible_37 (by decide) ?_
      cases hF
      exact hK0 _ rfl
  · replace hF := Eq.trans (if_neg c4).symm hF
    cases hF
    refine m_weak (ls1 := [none, none, none, none]) hG trivial ?_
    exact hK1 _ rfl
theorem t_X1_lowestPossible_lp2 {d n0 s0 nF sF : Nat} {X : MX} {N : NN} {Ω : Nat → MS → Prop} {a1 : Int} {a2 : Int} {a3 : Int} (hsk : m_Sk X) (hd : 1 ≤ d) (hG : m_G d yX1_lowestPossible.cls yX1_lowestPossible.name cX1_lowestPossible 4 n0 s0 nF sF Ω) {t : (Unit ⊕ (Int × Int))} (hK1 : match t with | .inl e => Ω 40 ([none, none, none, none], [], N, X) | .inr e => Ω 27 ([none, some (.inl e.1), none, some (.inl e.2)], [], N, X)) (hl : lp (fun s => b_X1_lowestPossible_2 X N s.1 s.2.1 s.2.2) (a1, a2, a3) = some t) : Ω 2 ([some (.inr (.inr 42)), some (.inl a1), some (.inl a2), some (.inl a3)], [], N, X) := by
  refine lp_ok (P := fun s => Ω 2 ([some (.inr (.inr 42)), some (.inl s.1), some (.inl s.2.1), some (.inl s.2.2)], [], N, X)) (K := fun t => match t with | .inl e => Ω 40 ([none, none, none, none], [], N, X) | .inr e => Ω 27 ([none, some (.inl e.1), none, some (.inl e.2)], [], N, X)) (fun s out hF hK0 hK1 => ?_) hl hK1
  exact t_X1_lowestPossible_b2 hsk hd hG (out := out) (fun s' e => hK0 s' e) (fun t' e => hK1 t' e) hF
theorem t_X1_lowestPossible {d : Nat} {X : MX} {N : NN} {a1 : Int} {a2 : Int} {out : Int} (hsk : m_Sk X) (hd : 1 ≤ d) (hF : f_X1_lowestPossible X N a1 a2 = some out) : m_Call d yX1_lowestPossible cX1_lowestPossible 4 (some .int) [(.inr (.inr 42)), (.inl a1), (.inl a2)] N X (some (.inl out)) N X := by
  refine m_mk (ls0 := [some (.inr (.inr 42)), some (.inl a1), some (.inl a2), none]) (by decide) rfl (Nat.le_of_ble_eq_true rfl) (Nat.le_refl _) (Nat.le_refl _) (fun Ω hE => ?_)
  have hG := hE.G
  unfold f_X1_lowestPossible at hF
  refine s_iconst hG dX1_lowestPossible_0 ⟨by decide, by decide⟩ ?_
  refine s_istore_n hG dX1_lowestPossible_1 (by decide) rfl ?_
  obtain ⟨o5, hlo5, hF⟩ := bd_some hF
  refine t_X1_lowestPossible_lp2 hsk hd hG ?_ hlo5
  match o5, hF with
  | .inl e5, hF =>
        try dsimp only at hF
        refine s_iconst hG dX1_lowestPossible_40 ⟨by decide, by decide⟩ ?_
        cases hF
        exact s_iret hE dX1_lowestPossible_41 rfl
  | .inr e5, hF =>
        try dsimp only at hF
        refine s_iload_n hG dX1_lowestPossible_27 rfl ?_
        refine s_bipush hG dX1_lowestPossible_28 bp_6 ⟨by decide, by decide⟩ ?_
        refine s_imul hG dX1_lowestPossible_30 ?_
        refine s_iload_n hG dX1_lowestPossible_31 rfl ?_
        refine s_iadd hG dX1_lowestPossible_32 ?_
        cases hF
        exact s_iret hE dX1_lowestPossible_33 rfl
-- X1_winsBy
theorem t_X1_winsBy_j46 {drec d n0 s0 nF sF : Nat} {fr : NN → Int → Int → Int → Int → Int → Option Int} {X : MX} {N : NN} {Ω : Nat → MS → Prop} {z0 : Int} (hsk : m_Sk X) (hd : drec + 1 ≤ d) (hrec : ∀ (dr : Nat) (N : NN) (x1 : Int) (x2 : Int) (x3 : Int) (x4 : Int) (x5 : Int) (out : Int), drec ≤ dr → fr N x1 x2 x3 x4 x5 = some out → m_Call dr yX1_wins cX1_wins 8 (some .boolean) [.inr (.inr 42), .inl x1, .inl x2, .inl x3, .inl x4, .inl x5] N X (some (.inl out)) N X) (hG : m_G d yX1_winsBy.cls yX1_winsBy.name cX1_winsBy 6 n0 s0 nF sF Ω) {out : Int} (hE : m_Gd d yX1_winsBy cX1_winsBy 6 (some .boolean) X (some (.inl out)) N X Ω) (hF : f_X1_winsBy_j46 fr X N z0 = some out) : Ω 46 ([none, none, none, none, none, none], [(.inl z0)], N, X) := by
  unfold f_X1_winsBy_j46 at hF
  obtain ⟨g6, hF⟩ := gd_some hF
  cases hF
  exact s_zret hE dX1_winsBy_46 rfl g6
theorem t_X1_winsBy_j41 {drec d n0 s0 nF sF : Nat} {fr : NN → Int → Int → Int → Int → Int → Option Int} {X : MX} {N : NN} {Ω : Nat → MS → Prop} (hsk : m_Sk X) (hd : drec + 1 ≤ d) (hrec : ∀ (dr : Nat) (N : NN) (x1 : Int) (x2 : Int) (x3 : Int) (x4 : Int) (x5 : Int) (out : Int), drec ≤ dr → fr N x1 x2 x3 x4 x5 = some out → m_Call dr yX1_wins cX1_wins 8 (some .boolean) [.inr (.inr 42), .inl x1, .inl x2, .inl x3, .inl x4, .inl x5] N X (some (.inl out)) N X) (hG : m_G d yX1_winsBy.cls yX1_winsBy.name cX1_winsBy 6 n0 s0 nF sF Ω) {out : Int} (hE : m_Gd d yX1_winsBy cX1_winsBy 6 (some .boolean) X (some (.inl out)) N X Ω) (hF : f_X1_winsBy_j41 fr X N = some out) : Ω 41 ([none, none, none, none, none, none], [], N, X) := by
  unfold f_X1_winsBy_j41 at hF
  refine s_iconst hG dX1_winsBy_41 ⟨by decide, by decide⟩ ?_
  refine s_goto hG 46 dX1_winsBy_42 (by decide) ?_
  exact t_X1_winsBy_j46 hsk hd hrec hG hE hF
theorem t_X1_winsBy {drec d : Nat} {fr : NN → Int → Int → Int → Int → Int → Option Int} {X : MX} {N : NN} {a1 : Int} {a2 : Int} {a3 : Int} {a4 : Int} {out : Int} (hsk : m_Sk X) (hd : drec + 1 ≤ d) (hrec : ∀ (dr : Nat) (N : NN) (x1 : Int) (x2 : Int) (x3 : Int) (x4 : Int) (x5 : Int) (out : Int), drec ≤ dr → fr N x1 x2 x3 x4 x5 = some out → m_Call dr yX1_wins cX1_wins 8 (some .boolean) [.inr (.inr 42), .inl x1, .inl x2, .inl x3, .inl x4, .inl x5] N X (some (.inl out)) N X) (hF : f_X1_winsBy fr X N a1 a2 a3 a4 = some out) : m_Call d yX1_winsBy cX1_winsBy 6 (some .boolean) [(.inr (.inr 42)), (.inl a1), (.inl a2), (.inl a3), (.inl a4)] N X (some (.inl out)) N X := by
  refine m_mk (ls0 := [some (.inr (.inr 42)), some (.inl a1), some (.inl a2), some (.inl a3), some (.inl a4), none]) (by decide) rfl (Nat.le_of_ble_eq_true rfl) (Nat.le_refl _) (Nat.le_refl _) (fun Ω hE => ?_)
  have hG := hE.G
  unfold f_X1_winsBy at hF
  refine s_iload_n hG dX1_winsBy_0 rfl ?_
  refine s_aload_n hG dX1_winsBy_1 rfl ?_
  refine s_getr (r := 45) hG dX1_winsBy_2 fl_RX1_18 (sk_k hsk 42 rfl) rfl (sk_R hsk 42 3 rfl) ?_
  refine s_iload_n hG dX1_winsBy_5 rfl ?_
  obtain ⟨g1, hF⟩ := gd_some hF
  refine s_ialdj (j := a1.toNat) hG dX1_winsBy_6 (sk_K hsk 45 rfl) g1 rfl ?_
  refine s_isub hG dX1_winsBy_7 ?_
  refine s_istore hG dX1_winsBy_8 (by decide) rfl ?_
  refine s_iload hG dX1_winsBy_10 rfl ?_
  refine s_if_lt hG 41 dX1_winsBy_12 (by decide) (fun c5 => ?_) (fun c5 => ?_)
  · replace hF := Eq.trans (if_pos c5).symm hF
    refine m_weak (ls1 := [none, none, none, none, none, none]) hG trivial ?_
    exact t_X1_winsBy_j41 hsk hd hrec hG hE hF
  · replace hF := Eq.trans (if_neg c5).symm hF
    refine s_aload_n hG dX1_winsBy_15 rfl ?_
    refine s_iconst hG dX1_winsBy_16 ⟨by decide, by decide⟩ ?_
    refine s_iload_n hG dX1_winsBy_17 rfl ?_
    refine s_bipush hG dX1_winsBy_18 bp_6 ⟨by decide, by decide⟩ ?_
    refine s_idiv hG dX1_winsBy_20 (by decide) ?_
    refine s_isub hG dX1_winsBy_21 ?_
    refine s_aload_n hG dX1_winsBy_22 rfl ?_
    refine s_getr (r := 44) hG dX1_winsBy_23 fl_RX1_15 (sk_k hsk 42 rfl) rfl (sk_R hsk 42 2 rfl) ?_
    refine s_iload_n hG dX1_winsBy_26 rfl ?_
    obtain ⟨g2, hF⟩ := gd_some hF
    refine s_ialdj (j := a1.toNat) hG dX1_winsBy_27 (sk_K hsk 44 rfl) g2 rfl ?_
    refine s_iload hG dX1_winsBy_28 rfl ?_
    refine s_iload_n hG dX1_winsBy_30 rfl ?_
    refine s_iload hG dX1_winsBy_31 rfl ?_
    refine s_iconst hG dX1_winsBy_33 ⟨by decide, by decide⟩ ?_
    refine s_iadd hG dX1_winsBy_34 ?_
    obtain ⟨o3, ho3, hF⟩ := bd_some hF
    refine s_callV (d' := d - 1) (ci := 1) (args := [.inl (m_w (1 - (m_div a1 6))), .inl (N 44 a1.toNat), .inl (m_w (a3 - (N 45 a1.toNat))), .inl a2, .inl (m_w (a4 + 1))]) hG (by omega) dX1_winsBy_35 cv_RX1_35 cw_X1_wins rfl rfl (sk_k hsk 42 rfl) (Nat.le_of_ble_eq_true rfl) rfl (hrec (d - 1) _ _ _ _ _ _ _ (by omega) ho3) ?_
    refine s_if_ne hG 45 dX1_winsBy_38 (by decide) (fun c4 => ?_) (fun c4 => ?_)
    · replace hF := Eq.trans (if_pos c4).symm hF
      refine m_weak (ls1 := [none, none, none, none, none, none]) hG trivial ?_
      exact t_X1_winsBy_j41 hsk hd hrec hG hE hF
    · replace hF := Eq.trans (if_neg c4).symm hF
      refine s_iconst hG dX1_winsBy_45 ⟨by decide, by decide⟩ ?_
      refine m_weak (ls1 := [none, none, none, none, none, none]) hG trivial ?_
      exact t_X1_winsBy_j46 hsk hd hrec hG hE hF
-- X1_wins
theorem t_X1_wins_l3_j57 {drec d n0 s0 nF sF : Nat} {fr : NN → Int → Int → Int → Int → Int → Option Int} {X : MX} {N : NN} {Ω : Nat → MS → Prop} {a1 : Int} {a2 : Int} {a3 : Int} {a4 : Int} {a5 : Int} {a6 : Int} (hsk : m_Sk X) (hd : drec + 2 ≤ d) (hrec : ∀ (dr : Nat) (N : NN) (x1 : Int) (x2 : Int) (x3 : Int) (x4 : Int) (x5 : Int) (out : Int), drec ≤ dr → fr N x1 x2 x3 x4 x5 = some out → m_Call dr yX1_wins cX1_wins 8 (some .boolean) [.inr (.inr 42), .inl x1, .inl x2, .inl x3, .inl x4, .inl x5] N X (some (.inl out)) N X) (hG : m_G d yX1_wins.cls yX1_wins.name cX1_wins 8 n0 s0 nF sF Ω) {out : ((Int × Int × Int × Int × Int × Int) ⊕ (Unit ⊕ Unit))} (hK0 : ∀ s' : (Int × Int × Int × Int × Int × Int), out = .inl s' → Ω 3 ([some (.inr (.inr 42)), some (.inl (s'.1)), some (.inl (s'.2.1)), some (.inl (s'.2.2.1)), some (.inl (s'.2.2.2.1)), some (.inl (s'.2.2.2.2.1)), some (.inl (s'.2.2.2.2.2)), none], [], N, X)) (hK1 : ∀ t : (Unit ⊕ Unit), out = .inr t → match t with | .inl e => Ω 63 ([none, none, none, none, none, none, none, none], [], N, X) | .inr e => Ω 55 ([none, none, none, none, none, none, none, none], [], N, X)) (hF : f_X1_wins_l3_j57 fr X N a1 a2 a3 a4 a5 a6 = some out) : Ω 57 ([some (.inr (.inr 42)), some (.inl a1), some (.inl a2), some (.inl a3), some (.inl a4), some (.inl a5), some (.inl a6), none], [], N, X) := by
  unfold f_X1_wins_l3_j57 at hF
  refine s_iinc hG dX1_wins_57 (by decide) rfl rfl ?_
  refine s_goto hG 3 dX1_wins_60 (by decide) ?_
  cases hF
  exact hK0 _ rfl
theorem t_X1_wins_b3 {drec d n0 s0 nF sF : Nat} {fr : NN → Int → Int → Int → Int → Int → Option Int} {X : MX} {N : NN} {Ω : Nat → MS → Prop} {a1 : Int} {a2 : Int} {a3 : Int} {a4 : Int} {a5 : Int} {a6 : Int} (hsk : m_Sk X) (hd : drec + 2 ≤ d) (hrec : ∀ (dr : Nat) (N : NN) (x1 : Int) (x2 : Int) (x3 : Int) (x4 : Int) (x5 : Int) (out : Int), drec ≤ dr → fr N x1 x2 x3 x4 x5 = some out → m_Call dr yX1_wins cX1_wins 8 (some .boolean) [.inr (.inr 42), .inl x1, .inl x2, .inl x3, .inl x4, .inl x5] N X (some (.inl out)) N X) (hG : m_G d yX1_wins.cls yX1_wins.name cX1_wins 8 n0 s0 nF sF Ω) {out : ((Int × Int × Int × Int × Int × Int) ⊕ (Unit ⊕ Unit))} (hK0 : ∀ s' : (Int × Int × Int × Int × Int × Int), out = .inl s' → Ω 3 ([some (.inr (.inr 42)), some (.inl (s'.1)), some (.inl (s'.2.1)), some (.inl (s'.2.2.1)), some (.inl (s'.2.2.2.1)), some (.inl (s'.2.2.2.2.1)), some (.inl (s'.2.2.2.2.2)), none], [], N, X)) (hK1 : ∀ t : (Unit ⊕ Unit), out = .inr t → match t with | .inl e => Ω 63 ([none, none, none, none, none, none, none, none], [], N, X) | .inr e => Ω 55 ([none, none, none, none, none, none, none, none], [], N, X)) (hF : b_X1_wins_3 fr X N a1 a2 a3 a4 a5 a6 = some out) : Ω 3 ([some (.inr (.inr 42)), some (.inl a1), some (.inl a2), some (.inl a3), some (.inl a4), some (.inl a5), some (.inl a6), none], [], N, X) := by
  unfold b_X1_wins_3 at hF
  refine s_iload hG dX1_wins_3 rfl ?_
  refine s_aload_n hG dX1_wins_5 rfl ?_
  refine s_getr (r := 46) hG dX1_wins_6 fl_RX1_21 (sk_k hsk 42 rfl) rfl (sk_R hsk 42 4 rfl) ?_
  refine s_iload_n hG dX1_wins_9 rfl ?_
  obtain ⟨g1, hF⟩ := gd_some hF
  refine s_ialdj (j := a1.toNat) hG dX1_wins_10 (sk_K hsk 46 rfl) g1 rfl ?_
  refine s_icmp_ge hG 63 dX1_wins_11 (by decide) (fun c7 => ?_) (fun c7 => ?_)
  · replace hF := Eq.trans (if_pos c7).symm hF
    refine s_iload hG dX1_wins_14 rfl ?_
    refine s_bipush hG dX1_wins_16 bp_12 ⟨by decide, by decide⟩ ?_
    refine s_icmp_gt hG 63 dX1_wins_18 (by decide) (fun c6 => ?_) (fun c6 => ?_)
    · replace hF := Eq.trans (if_pos c6).symm hF
      cases hF
      refine m_weak (ls1 := [none, none, none, none, none, none, none, none]) hG trivial ?_
      exact hK1 _ rfl
    · replace hF := Eq.trans (if_neg c6).symm hF
      refine s_iload_n hG dX1_wins_21 rfl ?_
      refine s_bipush hG dX1_wins_22 bp_6 ⟨by decide, by decide⟩ ?_
      refine s_imul hG dX1_wins_24 ?_
      refine s_iload hG dX1_wins_25 rfl ?_
      refine s_iadd hG dX1_wins_27 ?_
      refine s_istore hG dX1_wins_28 (by decide) rfl ?_
      refine s_aload_n hG dX1_wins_30 rfl ?_
      refine s_getr (r := 44) hG dX1_wins_31 fl_RX1_15 (sk_k hsk 42 rfl) rfl (sk_R hsk 42 2 rfl) ?_
      refine s_iload hG dX1_wins_34 rfl ?_
      obtain ⟨g2, hF⟩ := gd_some hF
      refine s_ialdj (j := (m_w ((m_w (a1 * 6)) + a6)).toNat) hG dX1_wins_36 (sk_K hsk 44 rfl) g2 rfl ?_
      refine s_iload_n hG dX1_wins_37 rfl ?_
      refine s_icmp_le hG 57 dX1_wins_38 (by decide) (fun c5 => ?_) (fun c5 => ?_)
      · replace hF := Eq.trans (if_pos c5).symm hF
        refine s_aload_n hG dX1_wins_41 rfl ?_
        refine s_iload hG dX1_wins_42 rfl ?_
        refine s_iload_n hG dX1_wins_44 rfl ?_
        refine s_iload hG dX1_wins_45 rfl ?_
        refine s_iload hG dX1_wins_47 rfl ?_
        obtain ⟨o3, ho3, hF⟩ := bd_some hF
        refine s_callV (d' := d - 1) (ci := 1) (args := [.inl (m_w ((m_w (a1 * 6)) + a6)), .inl a3, .inl a4, .inl a5]) hG (by omega) dX1_wins_49 cv_RX1_78 cw_X1_winsBy rfl rfl (sk_k hsk 42 rfl) (Nat.le_of_ble_eq_true rfl) rfl (t_X1_winsBy hsk (by omega) hrec ho3) ?_
        refine s_if_eq hG 57 dX1_wins_52 (by decide) (fun c4 => ?_) (fun c4 => ?_)
        · replace hF := Eq.trans (if_pos c4).symm hF
          refine m_weak (ls1 := [some (.inr (.inr 42)), some (.inl a1), some (.inl a2), some (.inl a3), some (.inl a4), some (.inl a5), some (.inl a6), none]) hG ⟨rfl, ⟨rfl, ⟨rfl, ⟨rfl, ⟨rfl, ⟨rfl, ⟨rfl, trivial⟩⟩⟩⟩⟩⟩⟩ ?_
          exact t_X1_wins_l3_j57 hsk hd hrec hG hK0 hK1 hF
        · replace hF := Eq.trans (if_neg c4).symm hF
          cases hF
          refine m_weak (ls1 := [none, none, none, none, none, none, none, none]) hG trivial ?_
          exact hK1 _ rfl
      · replace hF := Eq.trans (if_neg c5).symm hF
        refine m_weak (ls1 := [some (.inr (.inr 42)), some (.inl a1), some (.inl a2), some (.inl a3), some (.inl a4), some (.inl a5), some (.inl a6), none]) hG ⟨rfl, ⟨rfl, ⟨rfl, ⟨rfl, ⟨rfl, ⟨rfl, ⟨rfl, trivial⟩⟩⟩⟩⟩⟩⟩ ?_
        exact t_X1_wins_l3_j57 hsk hd hrec hG hK0 hK1 hF
  · replace hF := Eq.trans (if_neg c7).symm hF
    cases hF
    refine m_weak (ls1 := [none, none, none, none, none, none, none, none]) hG trivial ?_
    exact hK1 _ rfl
theorem t_X1_wins_lp3 {drec d n0 s0 nF sF : Nat} {fr : NN → Int → Int → Int → Int → Int → Option Int} {X : MX} {N : NN} {Ω : Nat → MS → Prop} {a1 : Int} {a2 : Int} {a3 : Int} {a4 : Int} {a5 : Int} {a6 : Int} (hsk : m_Sk X) (hd : drec + 2 ≤ d) (hrec : ∀ (dr : Nat) (N : NN) (x1 : Int) (x2 : Int) (x3 : Int) (x4 : Int) (x5 : Int) (out : Int), drec ≤ dr → fr N x1 x2 x3 x4 x5 = some out → m_Call dr yX1_wins cX1_wins 8 (some .boolean) [.inr (.inr 42), .inl x1, .inl x2, .inl x3, .inl x4, .inl x5] N X (some (.inl out)) N X) (hG : m_G d yX1_wins.cls yX1_wins.name cX1_wins 8 n0 s0 nF sF Ω) {t : (Unit ⊕ Unit)} (hK1 : match t with | .inl e => Ω 63 ([none, none, none, none, none, none, none, none], [], N, X) | .inr e => Ω 55 ([none, none, none, none, none, none, none, none], [], N, X)) (hl : lp (fun s => b_X1_wins_3 fr X N s.1 s.2.1 s.2.2.1 s.2.2.2.1 s.2.2.2.2.1 s.2.2.2.2.2) (a1, a2, a3, a4, a5, a6) = some t) : Ω 3 ([some (.inr (.inr 42)), some (.inl a1), some (.inl a2), some (.inl a3), some (.inl a4), some (.inl a5), some (.inl a6), none], [], N, X) := by
  refine lp_ok (P := fun s => Ω 3 ([some (.inr (.inr 42)), some (.inl s.1), some (.inl s.2.1), some (.inl s.2.2.1), some (.inl s.2.2.2.1), some (.inl s.2.2.2.2.1), some (.inl s.2.2.2.2.2), none], [], N, X)) (K := fun t => match t with | .inl e => Ω 63 ([none, none, none, none, none, none, none, none], [], N, X) | .inr e => Ω 55 ([none, none, none, none, none, none, none, none], [], N, X)) (fun s out hF hK0 hK1 => ?_) hl hK1
  exact t_X1_wins_b3 hsk hd hrec hG (out := out) (fun s' e => hK0 s' e) (fun t' e => hK1 t' e) hF
theorem t_X1_wins_step {drec d : Nat} {fr : NN → Int → Int → Int → Int → Int → Option Int} {X : MX} {N : NN} {a1 : Int} {a2 : Int} {a3 : Int} {a4 : Int} {a5 : Int} {out : Int} (hsk : m_Sk X) (hd : drec + 2 ≤ d) (hrec : ∀ (dr : Nat) (N : NN) (x1 : Int) (x2 : Int) (x3 : Int) (x4 : Int) (x5 : Int) (out : Int), drec ≤ dr → fr N x1 x2 x3 x4 x5 = some out → m_Call dr yX1_wins cX1_wins 8 (some .boolean) [.inr (.inr 42), .inl x1, .inl x2, .inl x3, .inl x4, .inl x5] N X (some (.inl out)) N X) (hF : f_X1_wins_step fr X N a1 a2 a3 a4 a5 = some out) : m_Call d yX1_wins cX1_wins 8 (some .boolean) [(.inr (.inr 42)), (.inl a1), (.inl a2), (.inl a3), (.inl a4), (.inl a5)] N X (some (.inl out)) N X := by
  refine m_mk (ls0 := [some (.inr (.inr 42)), some (.inl a1), some (.inl a2), some (.inl a3), some (.inl a4), some (.inl a5), none, none]) (by decide) rfl (Nat.le_of_ble_eq_true rfl) (Nat.le_refl _) (Nat.le_refl _) (fun Ω hE => ?_)
  have hG := hE.G
  unfold f_X1_wins_step at hF
  refine s_iconst hG dX1_wins_0 ⟨by decide, by decide⟩ ?_
  refine s_istore hG dX1_wins_1 (by decide) rfl ?_
  obtain ⟨o8, hlo8, hF⟩ := bd_some hF
  refine t_X1_wins_lp3 hsk hd hrec hG ?_ hlo8
  match o8, hF with
  | .inl e8, hF =>
        try dsimp only at hF
        refine s_iconst hG dX1_wins_63 ⟨by decide, by decide⟩ ?_
        cases hF
        exact s_zret hE dX1_wins_64 rfl ⟨by decide, by decide⟩
  | .inr e8, hF =>
        try dsimp only at hF
        refine s_iconst hG dX1_wins_55 ⟨by decide, by decide⟩ ?_
        cases hF
        exact s_zret hE dX1_wins_56 rfl ⟨by decide, by decide⟩
theorem t_X1_wins_all {X : MX} (hsk : m_Sk X) : ∀ (n : Nat) (d : Nat) (N : NN) (x1 : Int) (x2 : Int) (x3 : Int) (x4 : Int) (x5 : Int) (out : Int), 2 * n ≤ d → f_X1_wins X n N x1 x2 x3 x4 x5 = some out → m_Call d yX1_wins cX1_wins 8 (some .boolean) [(.inr (.inr 42)), (.inl x1), (.inl x2), (.inl x3), (.inl x4), (.inl x5)] N X (some (.inl out)) N X := by
  intro n
  induction n with
  | zero => intro d N x1 x2 x3 x4 x5 out hd hF; cases hF
  | succ n ih =>
    intro d N x1 x2 x3 x4 x5 out hd hF
    exact t_X1_wins_step (drec := 2 * n) hsk (by omega) (fun dr N x1 x2 x3 x4 x5 out ha hb => ih dr N x1 x2 x3 x4 x5 out ha hb) hF
theorem t_X1_wins {d : Nat} {X : MX} {N : NN} {x1 : Int} {x2 : Int} {x3 : Int} {x4 : Int} {x5 : Int} {out : Int} (hsk : m_Sk X) (hd : 32 ≤ d) (hF : f_X1_wins X 16 N x1 x2 x3 x4 x5 = some out) : m_Call d yX1_wins cX1_wins 8 (some .boolean) [(.inr (.inr 42)), (.inl x1), (.inl x2), (.inl x3), (.inl x4), (.inl x5)] N X (some (.inl out)) N X := t_X1_wins_all hsk 16 d N x1 x2 x3 x4 x5 out (by omega) hF
theorem t_X1_winsBy_n {d : Nat} {X : MX} {N : NN} {a1 : Int} {a2 : Int} {a3 : Int} {a4 : Int} {out : Int} (hsk : m_Sk X) (hd : 33 ≤ d) (hF : f_X1_winsBy (f_X1_wins X 16) X N a1 a2 a3 a4 = some out) : m_Call d yX1_winsBy cX1_winsBy 6 (some .boolean) [(.inr (.inr 42)), (.inl a1), (.inl a2), (.inl a3), (.inl a4)] N X (some (.inl out)) N X := t_X1_winsBy (drec := 32) hsk (by omega) (fun dr N x1 x2 x3 x4 x5 out ha hb => t_X1_wins_all hsk 16 dr N x1 x2 x3 x4 x5 out (by omega) hb) hF
-- X1_lowestWinning
theorem t_X1_lowestWinning_l3_j50 {d n0 s0 nF sF : Nat} {X : MX} {N : NN} {Ω : Nat → MS → Prop} {a1 : Int} {a2 : Int} {a3 : Int} {a4 : Int} {a5 : Int} (hsk : m_Sk X) (hd : 34 ≤ d) (hG : m_G d yX1_lowestWinning.cls yX1_lowestWinning.name cX1_lowestWinning 7 n0 s0 nF sF Ω) {out : ((Int × Int × Int × Int × Int) ⊕ (Unit ⊕ Int))} (hK0 : ∀ s' : (Int × Int × Int × Int × Int), out = .inl s' → Ω 3 ([some (.inr (.inr 42)), some (.inl (s'.1)), some (.inl (s'.2.1)), some (.inl (s'.2.2.1)), some (.inl (s'.2.2.2.1)), some (.inl (s'.2.2.2.2)), none], [], N, X)) (hK1 : ∀ t : (Unit ⊕ Int), out = .inr t → match t with | .inl e => Ω 56 ([none, none, none, none, none, none, none], [], N, X) | .inr e => Ω 47 ([none, none, none, none, none, none, some (.inl e)], [], N, X)) (hF : f_X1_lowestWinning_l3_j50 X N a1 a2 a3 a4 a5 = some out) : Ω 50 ([some (.inr (.inr 42)), some (.inl a1), some (.inl a2), some (.inl a3), some (.inl a4), some (.inl a5), none], [], N, X) := by
  unfold f_X1_lowestWinning_l3_j50 at hF
  refine s_iinc hG dX1_lowestWinning_50 (by decide) rfl rfl ?_
  refine s_goto hG 3 dX1_lowestWinning_53 (by decide) ?_
  cases hF
  exact hK0 _ rfl
theorem t_X1_lowestWinning_b3 {d n0 s0 nF sF : Nat} {X : MX} {N : NN} {Ω : Nat → MS → Prop} {a1 : Int} {a2 : Int} {a3 : Int} {a4 : Int} {a5 : Int} (hsk : m_Sk X) (hd : 34 ≤ d) (hG : m_G d yX1_lowestWinning.cls yX1_lowestWinning.name cX1_lowestWinning 7 n0 s0 nF sF Ω) {out : ((Int × Int × Int × Int × Int) ⊕ (Unit ⊕ Int))} (hK0 : ∀ s' : (Int × Int × Int × Int × Int), out = .inl s' → Ω 3 ([some (.inr (.inr 42)), some (.inl (s'.1)), some (.inl (s'.2.1)), some (.inl (s'.2.2.1)), some (.inl (s'.2.2.2.1)), some (.inl (s'.2.2.2.2)), none], [], N, X)) (hK1 : ∀ t : (Unit ⊕ Int), out = .inr t → match t with | .inl e => Ω 56 ([none, none, none, none, none, none, none], [], N, X) | .inr e => Ω 47 ([none, none, none, none, none, none, some (.inl e)], [], N, X)) (hF : b_X1_lowestWinning_3 X N a1 a2 a3 a4 a5 = some out) : Ω 3 ([some (.inr (.inr 42)), some (.inl a1), some (.inl a2), some (.inl a3), some (.inl a4), some (.inl a5), none], [], N, X) := by
  unfold b_X1_lowestWinning_3 at hF
  refine s_iload hG dX1_lowestWinning_3 rfl ?_
  refine s_aload_n hG dX1_lowestWinning_5 rfl ?_
  refine s_getr (r := 46) hG dX1_lowestWinning_6 fl_RX1_21 (sk_k hsk 42 rfl) rfl (sk_R hsk 42 4 rfl) ?_
  refine s_iload_n hG dX1_lowestWinning_9 rfl ?_
  obtain ⟨g1, hF⟩ := gd_some hF
  refine s_ialdj (j := a1.toNat) hG dX1_lowestWinning_10 (sk_K hsk 46 rfl) g1 rfl ?_
  refine s_icmp_ge hG 56 dX1_lowestWinning_11 (by decide) (fun c6 => ?_) (fun c6 => ?_)
  · replace hF := Eq.trans (if_pos c6).symm hF
    refine s_iload_n hG dX1_lowestWinning_14 rfl ?_
    refine s_bipush hG dX1_lowestWinning_15 bp_6 ⟨by decide, by decide⟩ ?_
    refine s_imul hG dX1_lowestWinning_17 ?_
    refine s_iload hG dX1_lowestWinning_18 rfl ?_
    refine s_iadd hG dX1_lowestWinning_20 ?_
    refine s_istore hG dX1_lowestWinning_21 (by decide) rfl ?_
    refine s_aload_n hG dX1_lowestWinning_23 rfl ?_
    refine s_getr (r := 44) hG dX1_lowestWinning_24 fl_RX1_15 (sk_k hsk 42 rfl) rfl (sk_R hsk 42 2 rfl) ?_
    refine s_iload hG dX1_lowestWinning_27 rfl ?_
    obtain ⟨g2, hF⟩ := gd_some hF
    refine s_ialdj (j := (m_w ((m_w (a1 * 6)) + a5)).toNat) hG dX1_lowestWinning_29 (sk_K hsk 44 rfl) g2 rfl ?_
    refine s_iload_n hG dX1_lowestWinning_30 rfl ?_
    refine s_icmp_le hG 50 dX1_lowestWinning_31 (by decide) (fun c5 => ?_) (fun c5 => ?_)
    · replace hF := Eq.trans (if_pos c5).symm hF
      refine s_aload_n hG dX1_lowestWinning_34 rfl ?_
      refine s_iload hG dX1_lowestWinning_35 rfl ?_
      refine s_iload_n hG dX1_lowestWinning_37 rfl ?_
      refine s_iload hG dX1_lowestWinning_38 rfl ?_
      refine s_iconst hG dX1_lowestWinning_40 ⟨by decide, by decide⟩ ?_
      obtain ⟨o3, ho3, hF⟩ := bd_some hF
      refine s_callV (d' := d - 1) (ci := 1) (args := [.inl (m_w ((m_w (a1 * 6)) + a5)), .inl a3, .inl a4, .inl 0]) hG (by omega) dX1_lowestWinning_41 cv_RX1_78 cw_X1_winsBy rfl rfl (sk_k hsk 42 rfl) (Nat.le_of_ble_eq_true rfl) rfl (t_X1_winsBy_n hsk (by omega) ho3) ?_
      refine s_if_eq hG 50 dX1_lowestWinning_44 (by decide) (fun c4 => ?_) (fun c4 => ?_)
      · replace hF := Eq.trans (if_pos c4).symm hF
        refine m_weak (ls1 := [some (.inr (.inr 42)), some (.inl a1), some (.inl a2), some (.inl a3), some (.inl a4), some (.inl a5), none]) hG ⟨rfl, ⟨rfl, ⟨rfl, ⟨rfl, ⟨rfl, ⟨rfl, trivial⟩⟩⟩⟩⟩⟩ ?_
        exact t_X1_lowestWinning_l3_j50 hsk hd hG hK0 hK1 hF
      · replace hF := Eq.trans (if_neg c4).symm hF
        cases hF
        refine m_weak (ls1 := [none, none, none, none, none, none, some (.inl (m_w ((m_w (a1 * 6)) + a5)))]) hG ⟨rfl, trivial⟩ ?_
        exact hK1 _ rfl
    · replace hF := Eq.trans (if_neg c5).symm hF
      refine m_weak (ls1 := [some (.inr (.inr 42)), some (.inl a1), some (.inl a2), some (.inl a3), some (.inl a4), some (.inl a5), none]) hG ⟨rfl, ⟨rfl, ⟨rfl, ⟨rfl, ⟨rfl, ⟨rfl, trivial⟩⟩⟩⟩⟩⟩ ?_
      exact t_X1_lowestWinning_l3_j50 hsk hd hG hK0 hK1 hF
  · replace hF := Eq.trans (if_neg c6).symm hF
    cases hF
    refine m_weak (ls1 := [none, none, none, none, none, none, none]) hG trivial ?_
    exact hK1 _ rfl
theorem t_X1_lowestWinning_lp3 {d n0 s0 nF sF : Nat} {X : MX} {N : NN} {Ω : Nat → MS → Prop} {a1 : Int} {a2 : Int} {a3 : Int} {a4 : Int} {a5 : Int} (hsk : m_Sk X) (hd : 34 ≤ d) (hG : m_G d yX1_lowestWinning.cls yX1_lowestWinning.name cX1_lowestWinning 7 n0 s0 nF sF Ω) {t : (Unit ⊕ Int)} (hK1 : match t with | .inl e => Ω 56 ([none, none, none, none, none, none, none], [], N, X) | .inr e => Ω 47 ([none, none, none, none, none, none, some (.inl e)], [], N, X)) (hl : lp (fun s => b_X1_lowestWinning_3 X N s.1 s.2.1 s.2.2.1 s.2.2.2.1 s.2.2.2.2) (a1, a2, a3, a4, a5) = some t) : Ω 3 ([some (.inr (.inr 42)), some (.inl a1), some (.inl a2), some (.inl a3), some (.inl a4), some (.inl a5), none], [], N, X) := by
  refine lp_ok (P := fun s => Ω 3 ([some (.inr (.inr 42)), some (.inl s.1), some (.inl s.2.1), some (.inl s.2.2.1), some (.inl s.2.2.2.1), some (.inl s.2.2.2.2), none], [], N, X)) (K := fun t => match t with | .inl e => Ω 56 ([none, none, none, none, none, none, none], [], N, X) | .inr e => Ω 47 ([none, none, none, none, none, none, some (.inl e)], [], N, X)) (fun s out hF hK0 hK1 => ?_) hl hK1
  exact t_X1_lowestWinning_b3 hsk hd hG (out := out) (fun s' e => hK0 s' e) (fun t' e => hK1 t' e) hF
theorem t_X1_lowestWinning {d : Nat} {X : MX} {N : NN} {a1 : Int} {a2 : Int} {a3 : Int} {a4 : Int} {out : Int} (hsk : m_Sk X) (hd : 34 ≤ d) (hF : f_X1_lowestWinning X N a1 a2 a3 a4 = some out) : m_Call d yX1_lowestWinning cX1_lowestWinning 7 (some .int) [(.inr (.inr 42)), (.inl a1), (.inl a2), (.inl a3), (.inl a4)] N X (some (.inl out)) N X := by
  refine m_mk (ls0 := [some (.inr (.inr 42)), some (.inl a1), some (.inl a2), some (.inl a3), some (.inl a4), none, none]) (by decide) rfl (Nat.le_of_ble_eq_true rfl) (Nat.le_refl _) (Nat.le_refl _) (fun Ω hE => ?_)
  have hG := hE.G
  unfold f_X1_lowestWinning at hF
  refine s_iconst hG dX1_lowestWinning_0 ⟨by decide, by decide⟩ ?_
  refine s_istore hG dX1_lowestWinning_1 (by decide) rfl ?_
  obtain ⟨o7, hlo7, hF⟩ := bd_some hF
  refine t_X1_lowestWinning_lp3 hsk hd hG ?_ hlo7
  match o7, hF with
  | .inl e7, hF =>
        try dsimp only at hF
        refine s_iconst hG dX1_lowestWinning_56 ⟨by decide, by decide⟩ ?_
        cases hF
        exact s_iret hE dX1_lowestWinning_57 rfl
  | .inr e7, hF =>
        try dsimp only at hF
        refine s_iload hG dX1_lowestWinning_47 rfl ?_
        cases hF
        exact s_iret hE dX1_lowestWinning_49 rfl
-- X1_length
theorem t_X1_length_l19_j58 {d n0 s0 nF sF : Nat} {X : MX} {N : NN} {Ω : Nat → MS → Prop} {a1 : Int} {a2 : Int} {a4 : Int} {a6 : Int} (hsk : m_Sk X) (hd : 35 ≤ d) (hG : m_G d yX1_length.cls yX1_length.name cX1_length 8 n0 s0 nF sF Ω) {out : ((Int × Int × Int × Int) ⊕ (Unit ⊕ (Int ⊕ Int)))} (hK0 : ∀ s' : (Int × Int × Int × Int), out = .inl s' → Ω 19 ([some (.inr (.inr 42)), some (.inl (s'.1)), some (.inl (s'.2.1)), some (.inl (s'.2.2.1)), some (.inl (s'.2.2.2)), none, none, none], [], N, X)) (hK1 : ∀ t : (Unit ⊕ (Int ⊕ Int)), out = .inr t → match t with | .inl e => Ω 107 ([none, none, none, none, none, none, none, none], [], N, X) | .inr (.inl e) => Ω 64 ([none, none, none, none, some (.inl e), none, none, none], [], N, X) | .inr (.inr e) => Ω 83 ([none, none, none, none, some (.inl e), none, none, none], [], N, X)) (hF : f_X1_length_l19_j58 X N a1 a2 a4 a6 = some out) : Ω 58 ([some (.inr (.inr 42)), some (.inl a1), some (.inl a2), none, some (.inl a4), none, some (.inl a6), none], [], N, X) := by
  unfold f_X1_length_l19_j58 at hF
  refine s_iload hG dX1_length_58 rfl ?_
  refine s_iconst hG dX1_length_60 ⟨by decide, by decide⟩ ?_
  refine s_icmp_ne hG 67 dX1_length_61 (by decide) (fun c8 => ?_) (fun c8 => ?_)
  · replace hF := Eq.trans (if_pos c8).symm hF
    cases hF
    refine m_weak (ls1 := [none, none, none, none, some (.inl a4), none, none, none]) hG ⟨rfl, trivial⟩ ?_
    exact hK1 _ rfl
  · replace hF := Eq.trans (if_neg c8).symm hF
    refine s_iload_n hG dX1_length_67 rfl ?_
    refine s_aload_n hG dX1_length_68 rfl ?_
    refine s_getr (r := 45) hG dX1_length_69 fl_RX1_18 (sk_k hsk 42 rfl) rfl (sk_R hsk 42 3 rfl) ?_
    refine s_iload hG dX1_length_72 rfl ?_
    obtain ⟨g5, hF⟩ := gd_some hF
    refine s_ialdj (j := a6.toNat) hG dX1_length_74 (sk_K hsk 45 rfl) g5 rfl ?_
    refine s_isub hG dX1_length_75 ?_
    refine s_istore hG dX1_length_76 (by decide) rfl ?_
    refine s_iload hG dX1_length_78 rfl ?_
    refine s_if_ge hG 88 dX1_length_80 (by decide) (fun c7 => ?_) (fun c7 => ?_)
    · replace hF := Eq.trans (if_pos c7).symm hF
      cases hF
      refine m_weak (ls1 := [none, none, none, none, some (.inl a4), none, none, none]) hG ⟨rfl, trivial⟩ ?_
      exact hK1 _ rfl
    · replace hF := Eq.trans (if_neg c7).symm hF
      refine s_aload_n hG dX1_length_88 rfl ?_
      refine s_getr (r := 44) hG dX1_length_89 fl_RX1_15 (sk_k hsk 42 rfl) rfl (sk_R hsk 42 2 rfl) ?_
      refine s_iload hG dX1_length_92 rfl ?_
      obtain ⟨g6, hF⟩ := gd_some hF
      refine s_ialdj (j := a6.toNat) hG dX1_length_94 (sk_K hsk 44 rfl) g6 rfl ?_
      refine s_istore_n hG dX1_length_95 (by decide) rfl ?_
      refine s_iload_n hG dX1_length_96 rfl ?_
      refine s_istore_n hG dX1_length_97 (by decide) rfl ?_
      refine s_iload hG dX1_length_98 rfl ?_
      refine s_istore_n hG dX1_length_100 (by decide) rfl ?_
      refine s_iinc hG dX1_length_101 (by decide) rfl rfl ?_
      refine s_goto hG 19 dX1_length_104 (by decide) ?_
      cases hF
      refine m_weak (ls1 := [some (.inr (.inr 42)), some (.inl (m_w (a2 - (N 45 a6.toNat)))), some (.inl a1), some (.inl (N 44 a6.toNat)), some (.inl (m_w (a4 + 1))), none, none, none]) hG ⟨rfl, ⟨rfl, ⟨rfl, ⟨rfl, ⟨rfl, trivial⟩⟩⟩⟩⟩ ?_
      exact hK0 _ rfl
theorem t_X1_length_b19 {d n0 s0 nF sF : Nat} {X : MX} {N : NN} {Ω : Nat → MS → Prop} {a1 : Int} {a2 : Int} {a3 : Int} {a4 : Int} (hsk : m_Sk X) (hd : 35 ≤ d) (hG : m_G d yX1_length.cls yX1_length.name cX1_length 8 n0 s0 nF sF Ω) {out : ((Int × Int × Int × Int) ⊕ (Unit ⊕ (Int ⊕ Int)))} (hK0 : ∀ s' : (Int × Int × Int × Int), out = .inl s' → Ω 19 ([some (.inr (.inr 42)), some (.inl (s'.1)), some (.inl (s'.2.1)), some (.inl (s'.2.2.1)), some (.inl (s'.2.2.2)), none, none, none], [], N, X)) (hK1 : ∀ t : (Unit ⊕ (Int ⊕ Int)), out = .inr t → match t with | .inl e => Ω 107 ([none, none, none, none, none, none, none, none], [], N, X) | .inr (.inl e) => Ω 64 ([none, none, none, none, some (.inl e), none, none, none], [], N, X) | .inr (.inr e) => Ω 83 ([none, none, none, none, some (.inl e), none, none, none], [], N, X)) (hF : b_X1_length_19 X N a1 a2 a3 a4 = some out) : Ω 19 ([some (.inr (.inr 42)), some (.inl a1), some (.inl a2), some (.inl a3), some (.inl a4), none, none, none], [], N, X) := by
  unfold b_X1_length_19 at hF
  refine s_iload hG dX1_length_19 rfl ?_
  refine s_bipush hG dX1_length_21 bp_12 ⟨by decide, by decide⟩ ?_
  refine s_icmp_ge hG 107 dX1_length_23 (by decide) (fun c4 => ?_) (fun c4 => ?_)
  · replace hF := Eq.trans (if_pos c4).symm hF
    refine s_iload hG dX1_length_26 rfl ?_
    refine s_iconst hG dX1_length_28 ⟨by decide, by decide⟩ ?_
    refine s_irem hG dX1_length_29 (by decide) ?_
    refine s_istore hG dX1_length_30 (by decide) rfl ?_
    refine s_aload_n hG dX1_length_32 rfl ?_
    refine s_iload hG dX1_length_33 rfl ?_
    refine s_iload_n hG dX1_length_35 rfl ?_
    refine s_iload_n hG dX1_length_36 rfl ?_
    refine s_iload_n hG dX1_length_37 rfl ?_
    obtain ⟨o1, ho1, hF⟩ := bd_some hF
    refine s_callV (d' := d - 1) (ci := 1) (args := [.inl (m_rem a4 2), .inl a3, .inl a1, .inl a2]) hG (by omega) dX1_length_38 cv_RX1_43 cw_X1_lowestWinning rfl rfl (sk_k hsk 42 rfl) (Nat.le_of_ble_eq_true rfl) rfl (t_X1_lowestWinning hsk (by omega) ho1) ?_
    refine s_istore hG dX1_length_41 (by decide) rfl ?_
    refine s_iload hG dX1_length_43 rfl ?_
    refine s_iconst hG dX1_length_45 ⟨by decide, by decide⟩ ?_
    refine s_icmp_ne hG 58 dX1_length_46 (by decide) (fun c3 => ?_) (fun c3 => ?_)
    · replace hF := Eq.trans (if_pos c3).symm hF
      refine s_aload_n hG dX1_length_49 rfl ?_
      refine s_iload hG dX1_length_50 rfl ?_
      refine s_iload_n hG dX1_length_52 rfl ?_
      obtain ⟨o2, ho2, hF⟩ := bd_some hF
      refine s_callV (d' := d - 1) (ci := 1) (args := [.inl (m_rem a4 2), .inl a3]) hG (by omega) dX1_length_53 cv_RX1_82 cw_X1_lowestPossible rfl rfl (sk_k hsk 42 rfl) (Nat.le_of_ble_eq_true rfl) rfl (t_X1_lowestPossible hsk (by omega) ho2) ?_
      refine s_istore hG dX1_length_56 (by decide) rfl ?_
      refine m_weak (ls1 := [some (.inr (.inr 42)), some (.inl a1), some (.inl a2), none, some (.inl a4), none, some (.inl o2), none]) hG ⟨rfl, ⟨rfl, ⟨rfl, ⟨rfl, ⟨rfl, trivial⟩⟩⟩⟩⟩ ?_
      exact t_X1_length_l19_j58 hsk hd hG hK0 hK1 hF
    · replace hF := Eq.trans (if_neg c3).symm hF
      refine m_weak (ls1 := [some (.inr (.inr 42)), some (.inl a1), some (.inl a2), none, some (.inl a4), none, some (.inl o1), none]) hG ⟨rfl, ⟨rfl, ⟨rfl, ⟨rfl, ⟨rfl, trivial⟩⟩⟩⟩⟩ ?_
      exact t_X1_length_l19_j58 hsk hd hG hK0 hK1 hF
  · replace hF := Eq.trans (if_neg c4).symm hF
    cases hF
    refine m_weak (ls1 := [none, none, none, none, none, none, none, none]) hG trivial ?_
    exact hK1 _ rfl
theorem t_X1_length_lp19 {d n0 s0 nF sF : Nat} {X : MX} {N : NN} {Ω : Nat → MS → Prop} {a1 : Int} {a2 : Int} {a3 : Int} {a4 : Int} (hsk : m_Sk X) (hd : 35 ≤ d) (hG : m_G d yX1_length.cls yX1_length.name cX1_length 8 n0 s0 nF sF Ω) {t : (Unit ⊕ (Int ⊕ Int))} (hK1 : match t with | .inl e => Ω 107 ([none, none, none, none, none, none, none, none], [], N, X) | .inr (.inl e) => Ω 64 ([none, none, none, none, some (.inl e), none, none, none], [], N, X) | .inr (.inr e) => Ω 83 ([none, none, none, none, some (.inl e), none, none, none], [], N, X)) (hl : lp (fun s => b_X1_length_19 X N s.1 s.2.1 s.2.2.1 s.2.2.2) (a1, a2, a3, a4) = some t) : Ω 19 ([some (.inr (.inr 42)), some (.inl a1), some (.inl a2), some (.inl a3), some (.inl a4), none, none, none], [], N, X) := by
  refine lp_ok (P := fun s => Ω 19 ([some (.inr (.inr 42)), some (.inl s.1), some (.inl s.2.1), some (.inl s.2.2.1), some (.inl s.2.2.2), none, none, none], [], N, X)) (K := fun t => match t with | .inl e => Ω 107 ([none, none, none, none, none, none, none, none], [], N, X) | .inr (.inl e) => Ω 64 ([none, none, none, none, some (.inl e), none, none, none], [], N, X) | .inr (.inr e) => Ω 83 ([none, none, none, none, some (.inl e), none, none, none], [], N, X)) (fun s out hF hK0 hK1 => ?_) hl hK1
  exact t_X1_length_b19 hsk hd hG (out := out) (fun s' e => hK0 s' e) (fun t' e => hK1 t' e) hF
theorem t_X1_length {d : Nat} {X : MX} {N : NN} {out : Int} (hsk : m_Sk X) (hd : 35 ≤ d) (hF : f_X1_length X N = some out) : m_Call d yX1_length cX1_length 8 (some .int) [(.inr (.inr 42))] N X (some (.inl out)) N X := by
  refine m_mk (ls0 := [some (.inr (.inr 42)), none, none, none, none, none, none, none]) (by decide) rfl (Nat.le_of_ble_eq_true rfl) (Nat.le_refl _) (Nat.le_refl _) (fun Ω hE => ?_)
  have hG := hE.G
  unfold f_X1_length at hF
  refine s_aload_n hG dX1_length_0 rfl ?_
  refine s_getr (r := 47) hG dX1_length_1 fl_RX1_24 (sk_k hsk 42 rfl) rfl (sk_R hsk 42 5 rfl) ?_
  refine s_iconst hG dX1_length_4 ⟨by decide, by decide⟩ ?_
  refine s_ialdj (j := 0) hG dX1_length_5 (sk_K hsk 47 rfl) ⟨by decide, by decide⟩ rfl ?_
  refine s_istore_n hG dX1_length_6 (by decide) rfl ?_
  refine s_aload_n hG dX1_length_7 rfl ?_
  refine s_getr (r := 47) hG dX1_length_8 fl_RX1_24 (sk_k hsk 42 rfl) rfl (sk_R hsk 42 5 rfl) ?_
  refine s_iconst hG dX1_length_11 ⟨by decide, by decide⟩ ?_
  refine s_ialdj (j := 1) hG dX1_length_12 (sk_K hsk 47 rfl) ⟨by decide, by decide⟩ rfl ?_
  refine s_istore_n hG dX1_length_13 (by decide) rfl ?_
  refine s_iconst hG dX1_length_14 ⟨by decide, by decide⟩ ?_
  refine s_istore_n hG dX1_length_15 (by decide) rfl ?_
  refine s_iconst hG dX1_length_16 ⟨by decide, by decide⟩ ?_
  refine s_istore hG dX1_length_17 (by decide) rfl ?_
  obtain ⟨o9, hlo9, hF⟩ := bd_some hF
  refine t_X1_length_lp19 hsk hd hG ?_ hlo9
  match o9, hF with
  | .inl e9, hF =>
        try dsimp only at hF
        refine s_bipush hG dX1_length_107 bp_12 ⟨by decide, by decide⟩ ?_
        cases hF
        exact s_iret hE dX1_length_109 rfl
  | .inr (.inl e9), hF =>
        try dsimp only at hF
        refine s_iload hG dX1_length_64 rfl ?_
        cases hF
        exact s_iret hE dX1_length_66 rfl
  | .inr (.inr e9), hF =>
        try dsimp only at hF
        refine s_iload hG dX1_length_83 rfl ?_
        refine s_iconst hG dX1_length_85 ⟨by decide, by decide⟩ ?_
        refine s_iadd hG dX1_length_86 ?_
        cases hF
        exact s_iret hE dX1_length_87 rfl
-- X1_winning
theorem t_X1_winning_l4_j41 {d n0 s0 nF sF : Nat} {X : MX} {N : NN} {Ω : Nat → MS → Prop} {a2 : Int} {z0 : Int} {z1 : Int} (hsk : m_Sk X) (hd : 34 ≤ d) (hG : m_G d yX1_winning.cls yX1_winning.name cX1_winning 3 n0 s0 nF sF Ω) {out : ((Int × Int) ⊕ Int)} (hK0 : ∀ s' : (Int × Int), out = .inl s' → Ω 4 ([some (.inr (.inr 42)), some (.inl (s'.1)), some (.inl (s'.2))], [], N, X)) (hK1 : ∀ t : Int, out = .inr t → Ω 49 ([none, some (.inl t), none], [], N, X)) (hF : f_X1_winning_l4_j41 X N a2 z0 z1 = some out) : Ω 41 ([some (.inr (.inr 42)), none, some (.inl a2)], [(.inl z1), (.inl z0)], N, X) := by
  unfold f_X1_winning_l4_j41 at hF
  refine s_iadd hG dX1_winning_41 ?_
  refine s_istore_n hG dX1_winning_42 (by decide) rfl ?_
  refine s_iinc hG dX1_winning_43 (by decide) rfl rfl ?_
  refine s_goto hG 4 dX1_winning_46 (by decide) ?_
  cases hF
  exact hK0 _ rfl
theorem t_X1_winning_b4 {d n0 s0 nF sF : Nat} {X : MX} {N : NN} {Ω : Nat → MS → Prop} {a1 : Int} {a2 : Int} (hsk : m_Sk X) (hd : 34 ≤ d) (hG : m_G d yX1_winning.cls yX1_winning.name cX1_winning 3 n0 s0 nF sF Ω) {out : ((Int × Int) ⊕ Int)} (hK0 : ∀ s' : (Int × Int), out = .inl s' → Ω 4 ([some (.inr (.inr 42)), some (.inl (s'.1)), some (.inl (s'.2))], [], N, X)) (hK1 : ∀ t : Int, out = .inr t → Ω 49 ([none, some (.inl t), none], [], N, X)) (hF : b_X1_winning_4 X N a1 a2 = some out) : Ω 4 ([some (.inr (.inr 42)), some (.inl a1), some (.inl a2)], [], N, X) := by
  unfold b_X1_winning_4 at hF
  refine s_iload_n hG dX1_winning_4 rfl ?_
  refine s_aload_n hG dX1_winning_5 rfl ?_
  refine s_getr (r := 46) hG dX1_winning_6 fl_RX1_21 (sk_k hsk 42 rfl) rfl (sk_R hsk 42 4 rfl) ?_
  refine s_iconst hG dX1_winning_9 ⟨by decide, by decide⟩ ?_
  refine s_ialdj (j := 0) hG dX1_winning_10 (sk_K hsk 46 rfl) ⟨by decide, by decide⟩ rfl ?_
  refine s_icmp_ge hG 49 dX1_winning_11 (by decide) (fun c3 => ?_) (fun c3 => ?_)
  · replace hF := Eq.trans (if_pos c3).symm hF
    refine s_iload_n hG dX1_winning_14 rfl ?_
    refine s_aload_n hG dX1_winning_15 rfl ?_
    refine s_iload_n hG dX1_winning_16 rfl ?_
    refine s_aload_n hG dX1_winning_17 rfl ?_
    refine s_getr (r := 47) hG dX1_winning_18 fl_RX1_24 (sk_k hsk 42 rfl) rfl (sk_R hsk 42 5 rfl) ?_
    refine s_iconst hG dX1_winning_21 ⟨by decide, by decide⟩ ?_
    refine s_ialdj (j := 0) hG dX1_winning_22 (sk_K hsk 47 rfl) ⟨by decide, by decide⟩ rfl ?_
    refine s_aload_n hG dX1_winning_23 rfl ?_
    refine s_getr (r := 47) hG dX1_winning_24 fl_RX1_24 (sk_k hsk 42 rfl) rfl (sk_R hsk 42 5 rfl) ?_
    refine s_iconst hG dX1_winning_27 ⟨by decide, by decide⟩ ?_
    refine s_ialdj (j := 1) hG dX1_winning_28 (sk_K hsk 47 rfl) ⟨by decide, by decide⟩ rfl ?_
    refine s_iconst hG dX1_winning_29 ⟨by decide, by decide⟩ ?_
    obtain ⟨o1, ho1, hF⟩ := bd_some hF
    refine s_callV (d' := d - 1) (ci := 1) (args := [.inl a2, .inl (N 47 0), .inl (N 47 1), .inl 0]) hG (by omega) dX1_winning_30 cv_RX1_78 cw_X1_winsBy rfl rfl (sk_k hsk 42 rfl) (Nat.le_of_ble_eq_true rfl) rfl (t_X1_winsBy_n hsk (by omega) ho1) ?_
    refine s_if_eq hG 40 dX1_winning_33 (by decide) (fun c2 => ?_) (fun c2 => ?_)
    · replace hF := Eq.trans (if_pos c2).symm hF
      refine s_iconst hG dX1_winning_40 ⟨by decide, by decide⟩ ?_
      refine m_weak (ls1 := [some (.inr (.inr 42)), none, some (.inl a2)]) hG ⟨rfl, ⟨rfl, trivial⟩⟩ ?_
      exact t_X1_winning_l4_j41 hsk hd hG hK0 hK1 hF
    · replace hF := Eq.trans (if_neg c2).symm hF
      refine s_iconst hG dX1_winning_36 ⟨by decide, by decide⟩ ?_
      refine s_goto hG 41 dX1_winning_37 (by decide) ?_
      refine m_weak (ls1 := [some (.inr (.inr 42)), none, some (.inl a2)]) hG ⟨rfl, ⟨rfl, trivial⟩⟩ ?_
      exact t_X1_winning_l4_j41 hsk hd hG hK0 hK1 hF
  · replace hF := Eq.trans (if_neg c3).symm hF
    cases hF
    refine m_weak (ls1 := [none, some (.inl a1), none]) hG ⟨rfl, trivial⟩ ?_
    exact hK1 _ rfl
theorem t_X1_winning_lp4 {d n0 s0 nF sF : Nat} {X : MX} {N : NN} {Ω : Nat → MS → Prop} {a1 : Int} {a2 : Int} (hsk : m_Sk X) (hd : 34 ≤ d) (hG : m_G d yX1_winning.cls yX1_winning.name cX1_winning 3 n0 s0 nF sF Ω) {t : Int} (hK1 : Ω 49 ([none, some (.inl t), none], [], N, X)) (hl : lp (fun s => b_X1_winning_4 X N s.1 s.2) (a1, a2) = some t) : Ω 4 ([some (.inr (.inr 42)), some (.inl a1), some (.inl a2)], [], N, X) := by
  refine lp_ok (P := fun s => Ω 4 ([some (.inr (.inr 42)), some (.inl s.1), some (.inl s.2)], [], N, X)) (K := fun t => Ω 49 ([none, some (.inl t), none], [], N, X)) (fun s out hF hK0 hK1 => ?_) hl hK1
  exact t_X1_winning_b4 hsk hd hG (out := out) (fun s' e => hK0 s' e) (fun t' e => hK1 t' e) hF
theorem t_X1_winning {d : Nat} {X : MX} {N : NN} {out : Int} (hsk : m_Sk X) (hd : 34 ≤ d) (hF : f_X1_winning X N = some out) : m_Call d yX1_winning cX1_winning 3 (some .int) [(.inr (.inr 42))] N X (some (.inl out)) N X := by
  refine m_mk (ls0 := [some (.inr (.inr 42)), none, none]) (by decide) rfl (Nat.le_of_ble_eq_true rfl) (Nat.le_refl _) (Nat.le_refl _) (fun Ω hE => ?_)
  have hG := hE.G
  unfold f_X1_winning at hF
  refine s_iconst hG dX1_winning_0 ⟨by decide, by decide⟩ ?_
  refine s_istore_n hG dX1_winning_1 (by decide) rfl ?_
  refine s_iconst hG dX1_winning_2 ⟨by decide, by decide⟩ ?_
  refine s_istore_n hG dX1_winning_3 (by decide) rfl ?_
  obtain ⟨o4, hlo4, hF⟩ := bd_some hF
  refine t_X1_winning_lp4 hsk hd hG ?_ hlo4
  refine s_iload_n hG dX1_winning_49 rfl ?_
  cases hF
  exact s_iret hE dX1_winning_50 rfl
-- X1_answer
theorem t_X1_answer_j75 {d n0 s0 nF sF : Nat} {X : MX} {r1 : Nat} {Ω : Nat → MS → Prop} {N : NN} {z0 : Int} (hsk : m_Sk X) (hd : 36 ≤ d) (h1 : m_isW X r1) (hG : m_G d yX1_answer.cls yX1_answer.name cX1_answer 6 n0 s0 nF sF Ω) {out : (Int × NN)} (hE : m_Gd d yX1_answer cX1_answer 6 (some .int) X (some (.inl out.1)) out.2 X Ω) (hF : f_X1_answer_j75 X r1 N z0 = some out) : Ω 75 ([none, none, none, none, none, none], [(.inl z0)], N, X) := by
  unfold f_X1_answer_j75 at hF
  cases hF
  exact s_iret hE dX1_answer_75 rfl
theorem t_X1_answer_j118 {d n0 s0 nF sF : Nat} {X : MX} {r1 : Nat} {Ω : Nat → MS → Prop} {N : NN} {z0 : Int} (hsk : m_Sk X) (hd : 36 ≤ d) (h1 : m_isW X r1) (hG : m_G d yX1_answer.cls yX1_answer.name cX1_answer 6 n0 s0 nF sF Ω) {out : (Int × NN)} (hE : m_Gd d yX1_answer cX1_answer 6 (some .int) X (some (.inl out.1)) out.2 X Ω) (hF : f_X1_answer_j118 X r1 N z0 = some out) : Ω 118 ([none, none, none, none, none, none], [(.inl z0)], N, X) := by
  unfold f_X1_answer_j118 at hF
  cases hF
  exact s_iret hE dX1_answer_118 rfl
theorem t_X1_answer {d : Nat} {X : MX} {r1 : Nat} {N : NN} {a2 : Int} {a3 : Int} {a4 : Int} {out : (Int × NN)} (hsk : m_Sk X) (hd : 36 ≤ d) (h1 : m_isW X r1) (hF : f_X1_answer X r1 N a2 a3 a4 = some out) : m_Call d yX1_answer cX1_answer 6 (some .int) [(.inr (.inr 42)), (.inr (.inr r1)), (.inl a2), (.inl a3), (.inl a4)] N X (some (.inl out.1)) out.2 X := by
  refine m_mk (ls0 := [some (.inr (.inr 42)), some (.inr (.inr r1)), some (.inl a2), some (.inl a3), some (.inl a4), none]) (by decide) rfl (Nat.le_of_ble_eq_true rfl) (Nat.le_refl _) (Nat.le_refl _) (fun Ω hE => ?_)
  have hG := hE.G
  unfold f_X1_answer at hF
  refine s_aload_n hG dX1_answer_0 rfl ?_
  refine s_aload_n hG dX1_answer_1 rfl ?_
  refine s_iconst hG dX1_answer_2 ⟨by decide, by decide⟩ ?_
  refine s_iload_n hG dX1_answer_3 rfl ?_
  refine s_iload_n hG dX1_answer_4 rfl ?_
  obtain ⟨o1, ho1, hF⟩ := bd_some hF
  refine s_callV (d' := d - 1) (ci := 1) (args := [.inr (.inr r1), .inl 0, .inl a2, .inl a3]) hG (by omega) dX1_answer_5 cv_RX1_31 cw_X1_gather rfl rfl (sk_k hsk 42 rfl) (Nat.le_of_ble_eq_true rfl) rfl (t_X1_gather hsk (by omega) h1 ho1) ?_
  refine s_aload_n hG dX1_answer_8 rfl ?_
  refine s_aload_n hG dX1_answer_9 rfl ?_
  refine s_iconst hG dX1_answer_10 ⟨by decide, by decide⟩ ?_
  refine s_iload_n hG dX1_answer_11 rfl ?_
  refine s_iload_n hG dX1_answer_12 rfl ?_
  obtain ⟨o2, ho2, hF⟩ := bd_some hF
  refine s_callV (d' := d - 1) (ci := 1) (args := [.inr (.inr r1), .inl 1, .inl a3, .inl a2]) hG (by omega) dX1_answer_13 cv_RX1_31 cw_X1_gather rfl rfl (sk_k hsk 42 rfl) (Nat.le_of_ble_eq_true rfl) rfl (t_X1_gather hsk (by omega) h1 ho2) ?_
  refine s_iload hG dX1_answer_16 rfl ?_
  by_cases c14 : a4 = 0
  · replace hF := Eq.trans (if_pos c14).symm hF
    refine s_tableIn hG (off := 30) 48 dX1_answer_18 (by omega) (by omega) (by rw [c14]; rfl) (by decide) ?_
    refine s_aload_n hG dX1_answer_48 rfl ?_
    refine s_iconst hG dX1_answer_49 ⟨by decide, by decide⟩ ?_
    refine s_iconst hG dX1_answer_50 ⟨by decide, by decide⟩ ?_
    refine s_aload_n hG dX1_answer_51 rfl ?_
    refine s_getr (r := 47) hG dX1_answer_52 fl_RX1_24 (sk_k hsk 42 rfl) rfl (sk_R hsk 42 5 rfl) ?_
    refine s_iconst hG dX1_answer_55 ⟨by decide, by decide⟩ ?_
    refine s_ialdj (j := 0) hG dX1_answer_56 (sk_K hsk 47 rfl) ⟨by decide, by decide⟩ rfl ?_
    refine s_aload_n hG dX1_answer_57 rfl ?_
    refine s_getr (r := 47) hG dX1_answer_58 fl_RX1_24 (sk_k hsk 42 rfl) rfl (sk_R hsk 42 5 rfl) ?_
    refine s_iconst hG dX1_answer_61 ⟨by decide, by decide⟩ ?_
    refine s_ialdj (j := 1) hG dX1_answer_62 (sk_K hsk 47 rfl) ⟨by decide, by decide⟩ rfl ?_
    refine s_iconst hG dX1_answer_63 ⟨by decide, by decide⟩ ?_
    obtain ⟨o3, ho3, hF⟩ := bd_some hF
    refine s_callV (d' := d - 1) (ci := 1) (args := [.inl 0, .inl (-1), .inl (o2 47 0), .inl (o2 47 1), .inl 0]) hG (by omega) dX1_answer_64 cv_RX1_35 cw_X1_wins rfl rfl (sk_k hsk 42 rfl) (Nat.le_of_ble_eq_true rfl) rfl (t_X1_wins hsk (by omega) ho3) ?_
    refine s_if_eq hG 74 dX1_answer_67 (by decide) (fun c4 => ?_) (fun c4 => ?_)
    · replace hF := Eq.trans (if_pos c4).symm hF
      refine s_iload_n hG dX1_answer_74 rfl ?_
      refine m_weak (ls1 := [none, none, none, none, none, none]) hG trivial ?_
      exact t_X1_answer_j75 hsk hd h1 hG hE hF
    · replace hF := Eq.trans (if_neg c4).symm hF
      refine s_iload_n hG dX1_answer_70 rfl ?_
      refine s_goto hG 75 dX1_answer_71 (by decide) ?_
      refine m_weak (ls1 := [none, none, none, none, none, none]) hG trivial ?_
      exact t_X1_answer_j75 hsk hd h1 hG hE hF
  · replace hF := Eq.trans (if_neg c14).symm hF
    by_cases c13 : a4 = 1
    · replace hF := Eq.trans (if_pos c13).symm hF
      refine s_tableIn hG (off := 58) 76 dX1_answer_18 (by omega) (by omega) (by rw [c13]; rfl) (by decide) ?_
      refine s_aload_n hG dX1_answer_76 rfl ?_
      obtain ⟨o5, ho5, hF⟩ := bd_some hF
      refine s_callV (d' := d - 1) (ci := 1) (args := []) hG (by omega) dX1_answer_77 cv_RX1_39 cw_X1_winning rfl rfl (sk_k hsk 42 rfl) (Nat.le_of_ble_eq_true rfl) rfl (t_X1_winning hsk (by omega) ho5) ?_
      cases hF
      exact s_iret hE dX1_answer_80 rfl
    · replace hF := Eq.trans (if_neg c13).symm hF
      by_cases c12 : a4 = 2
      · replace hF := Eq.trans (if_pos c12).symm hF
        refine s_tableIn hG (off := 63) 81 dX1_answer_18 (by omega) (by omega) (by rw [c12]; rfl) (by decide) ?_
        refine s_aload_n hG dX1_answer_81 rfl ?_
        refine s_iconst hG dX1_answer_82 ⟨by decide, by decide⟩ ?_
        refine s_iconst hG dX1_answer_83 ⟨by decide, by decide⟩ ?_
        refine s_aload_n hG dX1_answer_84 rfl ?_
        refine s_getr (r := 47) hG dX1_answer_85 fl_RX1_24 (sk_k hsk 42 rfl) rfl (sk_R hsk 42 5 rfl) ?_
        refine s_iconst hG dX1_answer_88 ⟨by decide, by decide⟩ ?_
        refine s_ialdj (j := 0) hG dX1_answer_89 (sk_K hsk 47 rfl) ⟨by decide, by decide⟩ rfl ?_
        refine s_aload_n hG dX1_answer_90 rfl ?_
        refine s_getr (r := 47) hG dX1_answer_91 fl_RX1_24 (sk_k hsk 42 rfl) rfl (sk_R hsk 42 5 rfl) ?_
        refine s_iconst hG dX1_answer_94 ⟨by decide, by decide⟩ ?_
        refine s_ialdj (j := 1) hG dX1_answer_95 (sk_K hsk 47 rfl) ⟨by decide, by decide⟩ rfl ?_
        obtain ⟨o6, ho6, hF⟩ := bd_some hF
        refine s_callV (d' := d - 1) (ci := 1) (args := [.inl 0, .inl (-1), .inl (o2 47 0), .inl (o2 47 1)]) hG (by omega) dX1_answer_96 cv_RX1_43 cw_X1_lowestWinning rfl rfl (sk_k hsk 42 rfl) (Nat.le_of_ble_eq_true rfl) rfl (t_X1_lowestWinning hsk (by omega) ho6) ?_
        refine s_istore hG dX1_answer_99 (by decide) rfl ?_
        refine s_iload hG dX1_answer_101 rfl ?_
        refine s_iconst hG dX1_answer_103 ⟨by decide, by decide⟩ ?_
        refine s_icmp_ne hG 111 dX1_answer_104 (by decide) (fun c8 => ?_) (fun c8 => ?_)
        · replace hF := Eq.trans (if_pos c8).symm hF
          refine s_iconst hG dX1_answer_107 ⟨by decide, by decide⟩ ?_
          refine s_goto hG 118 dX1_answer_108 (by decide) ?_
          refine m_weak (ls1 := [none, none, none, none, none, none]) hG trivial ?_
          exact t_X1_answer_j118 hsk hd h1 hG hE hF
        · replace hF := Eq.trans (if_neg c8).symm hF
          refine s_aload_n hG dX1_answer_111 rfl ?_
          refine s_getr (r := 43) hG dX1_answer_112 fl_RX1_11 (sk_k hsk 42 rfl) rfl (sk_R hsk 42 1 rfl) ?_
          refine s_iload hG dX1_answer_115 rfl ?_
          obtain ⟨g7, hF⟩ := gd_some hF
          refine s_ialdj (j := o6.toNat) hG dX1_answer_117 (sk_K hsk 43 rfl) g7 rfl ?_
          refine m_weak (ls1 := [none, none, none, none, none, none]) hG trivial ?_
          exact t_X1_answer_j118 hsk hd h1 hG hE hF
      · replace hF := Eq.trans (if_neg c12).symm hF
        by_cases c11 : a4 = 3
        · replace hF := Eq.trans (if_pos c11).symm hF
          refine s_tableIn hG (off := 101) 119 dX1_answer_18 (by omega) (by omega) (by rw [c11]; rfl) (by decide) ?_
          refine s_aload_n hG dX1_answer_119 rfl ?_
          obtain ⟨o9, ho9, hF⟩ := bd_some hF
          refine s_callV (d' := d - 1) (ci := 1) (args := []) hG (by omega) dX1_answer_120 cv_RX1_47 cw_X1_length rfl rfl (sk_k hsk 42 rfl) (Nat.le_of_ble_eq_true rfl) rfl (t_X1_length hsk (by omega) ho9) ?_
          cases hF
          exact s_iret hE dX1_answer_123 rfl
        · replace hF := Eq.trans (if_neg c11).symm hF
          refine s_tableOut hG 124 dX1_answer_18 (by omega) (by decide) ?_
          refine s_iconst hG dX1_answer_124 ⟨by decide, by decide⟩ ?_
          cases hF
          exact s_iret hE dX1_answer_125 rfl
-- X11_duel
theorem t_X11_duel_j27 {d n0 s0 nF sF : Nat} {X : MX} {Ω : Nat → MS → Prop} {N : NN} (hsk : m_Sk X) (hd : 37 ≤ d) (hG : m_G d yX11_duel.cls yX11_duel.name cX11_duel 4 n0 s0 nF sF Ω) {out : (Int × NN)} (hE : m_Gd d yX11_duel cX11_duel 4 (some .int) X (some (.inl out.1)) out.2 X Ω) (hF : f_X11_duel_j27 X N = some out) : Ω 27 ([none, none, none, none], [], N, X) := by
  unfold f_X11_duel_j27 at hF
  refine s_iconst hG dX11_duel_27 ⟨by decide, by decide⟩ ?_
  cases hF
  exact s_iret hE dX11_duel_28 rfl
theorem t_X11_duel {d : Nat} {X : MX} {N : NN} {a1 : Int} {a2 : Int} {a3 : Int} {out : (Int × NN)} (hsk : m_Sk X) (hd : 37 ≤ d) (hF : f_X11_duel X N a1 a2 a3 = some out) : m_Call d yX11_duel cX11_duel 4 (some .int) [(.inr (.inr 3)), (.inl a1), (.inl a2), (.inl a3)] N X (some (.inl out.1)) out.2 X := by
  refine m_mk (ls0 := [some (.inr (.inr 3)), some (.inl a1), some (.inl a2), some (.inl a3)]) (by decide) rfl (Nat.le_of_ble_eq_true rfl) (Nat.le_refl _) (Nat.le_refl _) (fun Ω hE => ?_)
  have hG := hE.G
  unfold f_X11_duel at hF
  refine s_aload_n hG dX11_duel_0 rfl ?_
  refine s_getr (r := 4) hG dX11_duel_1 fl_RX11_10 (sk_k hsk 3 rfl) rfl (sk_R hsk 3 0 rfl) ?_
  refine s_iload_n hG dX11_duel_4 rfl ?_
  obtain ⟨o1, ho1, hF⟩ := bd_some hF
  refine s_callV (d' := d - 1) (ci := 10) (args := [.inl a1]) hG (by omega) dX11_duel_5 cv_RX11_121 cw_X10_isLord rfl rfl (sk_k hsk 4 rfl) (Nat.le_of_ble_eq_true rfl) rfl (t_X10_isLord hsk (by omega) (sk_W4 hsk) ho1) ?_
  refine s_if_eq hG 27 dX11_duel_8 (by decide) (fun c6 => ?_) (fun c6 => ?_)
  · replace hF := Eq.trans (if_pos c6).symm hF
    refine m_weak (ls1 := [none, none, none, none]) hG trivial ?_
    exact t_X11_duel_j27 hsk hd hG hE hF
  · replace hF := Eq.trans (if_neg c6).symm hF
    refine s_aload_n hG dX11_duel_11 rfl ?_
    refine s_getr (r := 4) hG dX11_duel_12 fl_RX11_10 (sk_k hsk 3 rfl) rfl (sk_R hsk 3 0 rfl) ?_
    refine s_iload_n hG dX11_duel_15 rfl ?_
    obtain ⟨o2, ho2, hF⟩ := bd_some hF
    refine s_callV (d' := d - 1) (ci := 10) (args := [.inl a2]) hG (by omega) dX11_duel_16 cv_RX11_121 cw_X10_isLord rfl rfl (sk_k hsk 4 rfl) (Nat.le_of_ble_eq_true rfl) rfl (t_X10_isLord hsk (by omega) (sk_W4 hsk) ho2) ?_
    refine s_if_eq hG 27 dX11_duel_19 (by decide) (fun c5 => ?_) (fun c5 => ?_)
    · replace hF := Eq.trans (if_pos c5).symm hF
      refine m_weak (ls1 := [none, none, none, none]) hG trivial ?_
      exact t_X11_duel_j27 hsk hd hG hE hF
    · replace hF := Eq.trans (if_neg c5).symm hF
      refine s_iload_n hG dX11_duel_22 rfl ?_
      refine s_iload_n hG dX11_duel_23 rfl ?_
      refine s_icmp_ne hG 29 dX11_duel_24 (by decide) (fun c4 => ?_) (fun c4 => ?_)
      · replace hF := Eq.trans (if_pos c4).symm hF
        refine m_weak (ls1 := [none, none, none, none]) hG trivial ?_
        exact t_X11_duel_j27 hsk hd hG hE hF
      · replace hF := Eq.trans (if_neg c4).symm hF
        refine s_aload_n hG dX11_duel_29 rfl ?_
        refine s_getr (r := 42) hG dX11_duel_30 fl_RX11_64 (sk_k hsk 3 rfl) rfl (sk_R hsk 3 8 rfl) ?_
        refine s_aload_n hG dX11_duel_33 rfl ?_
        refine s_getr (r := 4) hG dX11_duel_34 fl_RX11_10 (sk_k hsk 3 rfl) rfl (sk_R hsk 3 0 rfl) ?_
        refine s_iload_n hG dX11_duel_37 rfl ?_
        refine s_iload_n hG dX11_duel_38 rfl ?_
        refine s_iload_n hG dX11_duel_39 rfl ?_
        obtain ⟨o3, ho3, hF⟩ := bd_some hF
        refine s_callV (d' := d - 1) (ci := 1) (args := [.inr (.inr 4), .inl a1, .inl a2, .inl a3]) hG (by omega) dX11_duel_40 cv_RX11_254 cw_X1_answer rfl rfl (sk_k hsk 42 rfl) (Nat.le_of_ble_eq_true rfl) rfl (t_X1_answer hsk (by omega) (sk_W4 hsk) ho3) ?_
        cases hF
        exact s_iret hE dX11_duel_43 rfl
-- X5_cut
theorem t_X5_cut {d : Nat} {X : MX} {N : NN} {a1 : Int} {out : NN} (hsk : m_Sk X) (hd : 1 ≤ d) (hF : f_X5_cut X N a1 = some out) : m_Call d yX5_cut cX5_cut 2 none [(.inr (.inr 16)), (.inl a1)] N X none out X := by
  refine m_mk (ls0 := [some (.inr (.inr 16)), some (.inl a1)]) (by decide) rfl (Nat.le_of_ble_eq_true rfl) (Nat.le_refl _) (Nat.le_refl _) (fun Ω hE => ?_)
  have hG := hE.G
  unfold f_X5_cut at hF
  refine s_aload_n hG dX5_cut_0 rfl ?_
  refine s_iload_n hG dX5_cut_1 rfl ?_
  refine s_puti hG dX5_cut_2 fl_RX5_33 (fun h => by cases h) (sk_k hsk 16 rfl) rfl ?_
  cases hF
  exact s_vret hE dX5_cut_5 rfl
-- X11_end
theorem t_X11_end {d : Nat} {X : MX} {N : NN} {a1 : Int} {out : (Int × NN)} (hsk : m_Sk X) (hd : 2 ≤ d) (hF : f_X11_end X N a1 = some out) : m_Call d yX11_end cX11_end 2 (some .int) [(.inr (.inr 3)), (.inl a1)] N X (some (.inl out.1)) out.2 X := by
  refine m_mk (ls0 := [some (.inr (.inr 3)), some (.inl a1)]) (by decide) rfl (Nat.le_of_ble_eq_true rfl) (Nat.le_refl _) (Nat.le_refl _) (fun Ω hE => ?_)
  have hG := hE.G
  unfold f_X11_end at hF
  refine s_iload_n hG dX11_end_0 rfl ?_
  refine s_iconst hG dX11_end_1 ⟨by decide, by decide⟩ ?_
  refine s_aload_n hG dX11_end_2 rfl ?_
  refine s_getr (r := 16) hG dX11_end_3 fl_RX11_32 (sk_k hsk 3 rfl) rfl (sk_R hsk 3 4 rfl) ?_
  obtain ⟨o1, ho1, hF⟩ := bd_some hF
  refine s_callV (d' := d - 1) (ci := 5) (args := []) hG (by omega) dX11_end_6 cv_RX11_167 cw_X5_length rfl rfl (sk_k hsk 16 rfl) (Nat.le_of_ble_eq_true rfl) rfl (t_X5_length hsk (by omega) ho1) ?_
  obtain ⟨o2, ho2, hF⟩ := bd_some hF
  refine s_callS (d' := d - 1) (args := [.inl a1, .inl 0, .inl o1]) hG (by omega) dX11_end_9 cs_RX11_100 cw_X11_within rfl (Nat.le_of_ble_eq_true rfl) rfl (t_X11_within hsk (by omega) ho2) ?_
  refine s_if_ne hG 17 dX11_end_12 (by decide) (fun c4 => ?_) (fun c4 => ?_)
  · replace hF := Eq.trans (if_pos c4).symm hF
    refine s_iconst hG dX11_end_15 ⟨by decide, by decide⟩ ?_
    cases hF
    exact s_iret hE dX11_end_16 rfl
  · replace hF := Eq.trans (if_neg c4).symm hF
    refine s_aload_n hG dX11_end_17 rfl ?_
    refine s_getr (r := 16) hG dX11_end_18 fl_RX11_32 (sk_k hsk 3 rfl) rfl (sk_R hsk 3 4 rfl) ?_
    refine s_iload_n hG dX11_end_21 rfl ?_
    obtain ⟨o3, ho3, hF⟩ := bd_some hF
    refine s_callV (d' := d - 1) (ci := 5) (args := [.inl a1]) hG (by omega) dX11_end_22 cv_RX11_171 cw_X5_cut rfl rfl (sk_k hsk 16 rfl) (Nat.le_of_ble_eq_true rfl) rfl (t_X5_cut hsk (by omega) ho3) ?_
    refine s_iload_n hG dX11_end_25 rfl ?_
    cases hF
    exact s_iret hE dX11_end_26 rfl
-- X5_faultPlace
theorem t_X5_faultPlace {d : Nat} {X : MX} {N : NN} {out : Int} (hsk : m_Sk X) (hd : 1 ≤ d) (hF : f_X5_faultPlace X N = some out) : m_Call d yX5_faultPlace cX5_faultPlace 1 (some .int) [(.inr (.inr 16))] N X (some (.inl out)) N X := by
  refine m_mk (ls0 := [some (.inr (.inr 16))]) (by decide) rfl (Nat.le_of_ble_eq_true rfl) (Nat.le_refl _) (Nat.le_refl _) (fun Ω hE => ?_)
  have hG := hE.G
  unfold f_X5_faultPlace at hF
  refine s_aload_n hG dX5_faultPlace_0 rfl ?_
  refine s_geti hG dX5_faultPlace_1 fl_RX5_37 (sk_k hsk 16 rfl) rfl ?_
  cases hF
  exact s_iret hE dX5_faultPlace_4 rfl
-- X11_fault
theorem t_X11_fault {d : Nat} {X : MX} {N : NN} {out : Int} (hsk : m_Sk X) (hd : 2 ≤ d) (hF : f_X11_fault X N = some out) : m_Call d yX11_fault cX11_fault 1 (some .int) [(.inr (.inr 3))] N X (some (.inl out)) N X := by
  refine m_mk (ls0 := [some (.inr (.inr 3))]) (by decide) rfl (Nat.le_of_ble_eq_true rfl) (Nat.le_refl _) (Nat.le_refl _) (fun Ω hE => ?_)
  have hG := hE.G
  unfold f_X11_fault at hF
  refine s_aload_n hG dX11_fault_0 rfl ?_
  refine s_getr (r := 16) hG dX11_fault_1 fl_RX11_32 (sk_k hsk 3 rfl) rfl (sk_R hsk 3 4 rfl) ?_
  obtain ⟨o1, ho1, hF⟩ := bd_some hF
  refine s_callV (d' := d - 1) (ci := 5) (args := []) hG (by omega) dX11_fault_4 cv_RX11_204 cw_X5_faultPlace rfl rfl (sk_k hsk 16 rfl) (Nat.le_of_ble_eq_true rfl) rfl (t_X5_faultPlace hsk (by omega) ho1) ?_
  cases hF
  exact s_iret hE dX11_fault_7 rfl
-- X5_append
theorem t_X5_append_b3 {d n0 s0 nF sF : Nat} {X : MX} {Ω : Nat → MS → Prop} {N : NN} {a1 : Int} {a2 : Int} (hsk : m_Sk X) (hd : 1 ≤ d) (hG : m_G d yX5_append.cls yX5_append.name cX5_append 3 n0 s0 nF sF Ω) {out : ((NN × Int × Int) ⊕ NN)} (hK0 : ∀ s' : (NN × Int × Int), out = .inl s' → Ω 3 ([some (.inr (.inr 16)), some (.inl (s'.2.1)), some (.inl (s'.2.2))], [], s'.1, X)) (hK1 : ∀ t : NN, out = .inr t → Ω 49 ([none, none, none], [], t, X)) (hF : b_X5_append_3 X N a1 a2 = some out) : Ω 3 ([some (.inr (.inr 16)), some (.inl a1), some (.inl a2)], [], N, X) := by
  unfold b_X5_append_3 at hF
  refine s_iload_n hG dX5_append_3 rfl ?_
  refine s_if_lt hG 49 dX5_append_4 (by decide) (fun c5 => ?_) (fun c5 => ?_)
  · replace hF := Eq.trans (if_pos c5).symm hF
    cases hF
    refine m_weak (ls1 := [none, none, none]) hG trivial ?_
    exact hK1 _ rfl
  · replace hF := Eq.trans (if_neg c5).symm hF
    refine s_aload_n hG dX5_append_7 rfl ?_
    refine s_geti hG dX5_append_8 fl_RX5_33 (sk_k hsk 16 rfl) rfl ?_
    refine s_sipush hG dX5_append_11 sp_400 ⟨by decide, by decide⟩ ?_
    refine s_icmp_ge hG 49 dX5_append_14 (by decide) (fun c4 => ?_) (fun c4 => ?_)
    · replace hF := Eq.trans (if_pos c4).symm hF
      refine s_aload_n hG dX5_append_17 rfl ?_
      refine s_getr (r := 17) hG dX5_append_18 fl_RX5_11 (sk_k hsk 16 rfl) rfl (sk_R hsk 16 0 rfl) ?_
      refine s_aload_n hG dX5_append_21 rfl ?_
      refine s_geti hG dX5_append_22 fl_RX5_33 (sk_k hsk 16 rfl) rfl ?_
      refine s_iload_n hG dX5_append_25 rfl ?_
      refine s_iload_n hG dX5_append_26 rfl ?_
      refine s_iushr hG dX5_append_27 ?_
      refine s_sipush hG dX5_append_28 sp_255 ⟨by decide, by decide⟩ ?_
      refine s_iand hG dX5_append_31 ?_
      obtain ⟨g1, hF⟩ := gd_some hF
      refine s_iastj (j := (N 16 5).toNat) hG dX5_append_32 (sk_K hsk 17 rfl) g1 rfl ?_
      refine s_aload_n hG dX5_append_33 rfl ?_
      refine s_dup hG dX5_append_34 rfl ?_
      refine s_geti hG dX5_append_35 fl_RX5_33 (sk_k hsk 16 rfl) rfl ?_
      refine s_iconst hG dX5_append_38 ⟨by decide, by decide⟩ ?_
      refine s_iadd hG dX5_append_39 ?_
      refine s_puti hG dX5_append_40 fl_RX5_33 (fun h => by cases h) (sk_k hsk 16 rfl) rfl ?_
      refine s_iinc hG dX5_append_43 (by decide) rfl rfl ?_
      refine s_goto hG 3 dX5_append_46 (by decide) ?_
      cases hF
      exact hK0 _ rfl
    · replace hF := Eq.trans (if_neg c4).symm hF
      cases hF
      refine m_weak (ls1 := [none, none, none]) hG trivial ?_
      exact hK1 _ rfl
theorem t_X5_append_lp3 {d n0 s0 nF sF : Nat} {X : MX} {Ω : Nat → MS → Prop} {N : NN} {a1 : Int} {a2 : Int} (hsk : m_Sk X) (hd : 1 ≤ d) (hG : m_G d yX5_append.cls yX5_append.name cX5_append 3 n0 s0 nF sF Ω) {t : NN} (hK1 : Ω 49 ([none, none, none], [], t, X)) (hl : lp (fun s => b_X5_append_3 X s.1 s.2.1 s.2.2) (N, a1, a2) = some t) : Ω 3 ([some (.inr (.inr 16)), some (.inl a1), some (.inl a2)], [], N, X) := by
  refine lp_ok (P := fun s => Ω 3 ([some (.inr (.inr 16)), some (.inl s.2.1), some (.inl s.2.2)], [], s.1, X)) (K := fun t => Ω 49 ([none, none, none], [], t, X)) (fun s out hF hK0 hK1 => ?_) hl hK1
  exact t_X5_append_b3 hsk hd hG (out := out) (fun s' e => hK0 s' e) (fun t' e => hK1 t' e) hF
theorem t_X5_append {d : Nat} {X : MX} {N : NN} {a1 : Int} {out : NN} (hsk : m_Sk X) (hd : 1 ≤ d) (hF : f_X5_append X N a1 = some out) : m_Call d yX5_append cX5_append 3 none [(.inr (.inr 16)), (.inl a1)] N X none out X := by
  refine m_mk (ls0 := [some (.inr (.inr 16)), some (.inl a1), none]) (by decide) rfl (Nat.le_of_ble_eq_true rfl) (Nat.le_refl _) (Nat.le_refl _) (fun Ω hE => ?_)
  have hG := hE.G
  unfold f_X5_append at hF
  refine s_bipush hG dX5_append_0 bp_24 ⟨by decide, by decide⟩ ?_
  refine s_istore_n hG dX5_append_2 (by decide) rfl ?_
  obtain ⟨o6, hlo6, hF⟩ := bd_some hF
  refine t_X5_append_lp3 hsk hd hG ?_ hlo6
  cases hF
  exact s_vret hE dX5_append_49 rfl
-- X5_hasRoom
theorem t_X5_hasRoom_j17 {d n0 s0 nF sF : Nat} {X : MX} {N : NN} {Ω : Nat → MS → Prop} {z0 : Int} (hsk : m_Sk X) (hd : 1 ≤ d) (hG : m_G d yX5_hasRoom.cls yX5_hasRoom.name cX5_hasRoom 2 n0 s0 nF sF Ω) {out : Int} (hE : m_Gd d yX5_hasRoom cX5_hasRoom 2 (some .boolean) X (some (.inl out)) N X Ω) (hF : f_X5_hasRoom_j17 X N z0 = some out) : Ω 17 ([none, none], [(.inl z0)], N, X) := by
  unfold f_X5_hasRoom_j17 at hF
  obtain ⟨g2, hF⟩ := gd_some hF
  cases hF
  exact s_zret hE dX5_hasRoom_17 rfl g2
theorem t_X5_hasRoom {d : Nat} {X : MX} {N : NN} {a1 : Int} {out : Int} (hsk : m_Sk X) (hd : 1 ≤ d) (hF : f_X5_hasRoom X N a1 = some out) : m_Call d yX5_hasRoom cX5_hasRoom 2 (some .boolean) [(.inr (.inr 16)), (.inl a1)] N X (some (.inl out)) N X := by
  refine m_mk (ls0 := [some (.inr (.inr 16)), some (.inl a1)]) (by decide) rfl (Nat.le_of_ble_eq_true rfl) (Nat.le_refl _) (Nat.le_refl _) (fun Ω hE => ?_)
  have hG := hE.G
  unfold f_X5_hasRoom at hF
  refine s_aload_n hG dX5_hasRoom_0 rfl ?_
  refine s_geti hG dX5_hasRoom_1 fl_RX5_33 (sk_k hsk 16 rfl) rfl ?_
  refine s_iload_n hG dX5_hasRoom_4 rfl ?_
  refine s_iadd hG dX5_hasRoom_5 ?_
  refine s_sipush hG dX5_hasRoom_6 sp_400 ⟨by decide, by decide⟩ ?_
  refine s_icmp_gt hG 16 dX5_hasRoom_9 (by decide) (fun c1 => ?_) (fun c1 => ?_)
  · replace hF := Eq.trans (if_pos c1).symm hF
    refine s_iconst hG dX5_hasRoom_16 ⟨by decide, by decide⟩ ?_
    refine m_weak (ls1 := [none, none]) hG trivial ?_
    exact t_X5_hasRoom_j17 hsk hd hG hE hF
  · replace hF := Eq.trans (if_neg c1).symm hF
    refine s_iconst hG dX5_hasRoom_12 ⟨by decide, by decide⟩ ?_
    refine s_goto hG 17 dX5_hasRoom_13 (by decide) ?_
    refine m_weak (ls1 := [none, none]) hG trivial ?_
    exact t_X5_hasRoom_j17 hsk hd hG hE hF
-- X11_feed
theorem t_X11_feed {d : Nat} {X : MX} {N : NN} {a1 : Int} {a2 : Int} {a3 : Int} {a4 : Int} {a5 : Int} {out : (Int × NN)} (hsk : m_Sk X) (hd : 2 ≤ d) (hF : f_X11_feed X N a1 a2 a3 a4 a5 = some out) : m_Call d yX11_feed cX11_feed 6 (some .int) [(.inr (.inr 3)), (.inl a1), (.inl a2), (.inl a3), (.inl a4), (.inl a5)] N X (some (.inl out.1)) out.2 X := by
  refine m_mk (ls0 := [some (.inr (.inr 3)), some (.inl a1), some (.inl a2), some (.inl a3), some (.inl a4), some (.inl a5)]) (by decide) rfl (Nat.le_of_ble_eq_true rfl) (Nat.le_refl _) (Nat.le_refl _) (fun Ω hE => ?_)
  have hG := hE.G
  unfold f_X11_feed at hF
  refine s_aload_n hG dX11_feed_0 rfl ?_
  refine s_getr (r := 16) hG dX11_feed_1 fl_RX11_32 (sk_k hsk 3 rfl) rfl (sk_R hsk 3 4 rfl) ?_
  refine s_bipush hG dX11_feed_4 bp_20 ⟨by decide, by decide⟩ ?_
  obtain ⟨o1, ho1, hF⟩ := bd_some hF
  refine s_callV (d' := d - 1) (ci := 5) (args := [.inl 20]) hG (by omega) dX11_feed_6 cv_RX11_160 cw_X5_hasRoom rfl rfl (sk_k hsk 16 rfl) (Nat.le_of_ble_eq_true rfl) rfl (t_X5_hasRoom hsk (by omega) ho1) ?_
  refine s_if_ne hG 14 dX11_feed_9 (by decide) (fun c8 => ?_) (fun c8 => ?_)
  · replace hF := Eq.trans (if_pos c8).symm hF
    refine s_iconst hG dX11_feed_12 ⟨by decide, by decide⟩ ?_
    cases hF
    exact s_iret hE dX11_feed_13 rfl
  · replace hF := Eq.trans (if_neg c8).symm hF
    refine s_aload_n hG dX11_feed_14 rfl ?_
    refine s_getr (r := 16) hG dX11_feed_15 fl_RX11_32 (sk_k hsk 3 rfl) rfl (sk_R hsk 3 4 rfl) ?_
    refine s_iload_n hG dX11_feed_18 rfl ?_
    obtain ⟨o2, ho2, hF⟩ := bd_some hF
    refine s_callV (d' := d - 1) (ci := 5) (args := [.inl a1]) hG (by omega) dX11_feed_19 cv_RX11_163 cw_X5_append rfl rfl (sk_k hsk 16 rfl) (Nat.le_of_ble_eq_true rfl) rfl (t_X5_append hsk (by omega) ho2) ?_
    refine s_aload_n hG dX11_feed_22 rfl ?_
    refine s_getr (r := 16) hG dX11_feed_23 fl_RX11_32 (sk_k hsk 3 rfl) rfl (sk_R hsk 3 4 rfl) ?_
    refine s_iload_n hG dX11_feed_26 rfl ?_
    obtain ⟨o3, ho3, hF⟩ := bd_some hF
    refine s_callV (d' := d - 1) (ci := 5) (args := [.inl a2]) hG (by omega) dX11_feed_27 cv_RX11_163 cw_X5_append rfl rfl (sk_k hsk 16 rfl) (Nat.le_of_ble_eq_true rfl) rfl (t_X5_append hsk (by omega) ho3) ?_
    refine s_aload_n hG dX11_feed_30 rfl ?_
    refine s_getr (r := 16) hG dX11_feed_31 fl_RX11_32 (sk_k hsk 3 rfl) rfl (sk_R hsk 3 4 rfl) ?_
    refine s_iload_n hG dX11_feed_34 rfl ?_
    obtain ⟨o4, ho4, hF⟩ := bd_some hF
    refine s_callV (d' := d - 1) (ci := 5) (args := [.inl a3]) hG (by omega) dX11_feed_35 cv_RX11_163 cw_X5_append rfl rfl (sk_k hsk 16 rfl) (Nat.le_of_ble_eq_true rfl) rfl (t_X5_append hsk (by omega) ho4) ?_
    refine s_aload_n hG dX11_feed_38 rfl ?_
    refine s_getr (r := 16) hG dX11_feed_39 fl_RX11_32 (sk_k hsk 3 rfl) rfl (sk_R hsk 3 4 rfl) ?_
    refine s_iload hG dX11_feed_42 rfl ?_
    obtain ⟨o5, ho5, hF⟩ := bd_some hF
    refine s_callV (d' := d - 1) (ci := 5) (args := [.inl a4]) hG (by omega) dX11_feed_44 cv_RX11_163 cw_X5_append rfl rfl (sk_k hsk 16 rfl) (Nat.le_of_ble_eq_true rfl) rfl (t_X5_append hsk (by omega) ho5) ?_
    refine s_aload_n hG dX11_feed_47 rfl ?_
    refine s_getr (r := 16) hG dX11_feed_48 fl_RX11_32 (sk_k hsk 3 rfl) rfl (sk_R hsk 3 4 rfl) ?_
    refine s_iload hG dX11_feed_51 rfl ?_
    obtain ⟨o6, ho6, hF⟩ := bd_some hF
    refine s_callV (d' := d - 1) (ci := 5) (args := [.inl a5]) hG (by omega) dX11_feed_53 cv_RX11_163 cw_X5_append rfl rfl (sk_k hsk 16 rfl) (Nat.le_of_ble_eq_true rfl) rfl (t_X5_append hsk (by omega) ho6) ?_
    refine s_aload_n hG dX11_feed_56 rfl ?_
    refine s_getr (r := 16) hG dX11_feed_57 fl_RX11_32 (sk_k hsk 3 rfl) rfl (sk_R hsk 3 4 rfl) ?_
    obtain ⟨o7, ho7, hF⟩ := bd_some hF
    refine s_callV (d' := d - 1) (ci := 5) (args := []) hG (by omega) dX11_feed_60 cv_RX11_167 cw_X5_length rfl rfl (sk_k hsk 16 rfl) (Nat.le_of_ble_eq_true rfl) rfl (t_X5_length hsk (by omega) ho7) ?_
    cases hF
    exact s_iret hE dX11_feed_63 rfl
-- X11_force
theorem t_X11_force {d : Nat} {X : MX} {N : NN} {a1 : Int} {out : (Int × NN)} (hsk : m_Sk X) (hd : 2 ≤ d) (hF : f_X11_force X N a1 = some out) : m_Call d yX11_force cX11_force 3 (some .int) [(.inr (.inr 3)), (.inl a1)] N X (some (.inl out.1)) out.2 X := by
  refine m_mk (ls0 := [some (.inr (.inr 3)), some (.inl a1), none]) (by decide) rfl (Nat.le_of_ble_eq_true rfl) (Nat.le_refl _) (Nat.le_refl _) (fun Ω hE => ?_)
  have hG := hE.G
  unfold f_X11_force at hF
  refine s_iload_n hG dX11_force_0 rfl ?_
  refine s_iconst hG dX11_force_1 ⟨by decide, by decide⟩ ?_
  refine s_aload_n hG dX11_force_2 rfl ?_
  refine s_getr (r := 4) hG dX11_force_3 fl_RX11_10 (sk_k hsk 3 rfl) rfl (sk_R hsk 3 0 rfl) ?_
  refine s_iconst hG dX11_force_6 ⟨by decide, by decide⟩ ?_
  obtain ⟨o1, ho1, hF⟩ := bd_some hF
  refine s_callV (d' := d - 1) (ci := 10) (args := [.inl 4]) hG (by omega) dX11_force_7 cv_RX11_108 cw_X10_many rfl rfl (sk_k hsk 4 rfl) (Nat.le_of_ble_eq_true rfl) rfl (t_X10_many hsk (by omega) (sk_W4 hsk) ho1) ?_
  refine s_iconst hG dX11_force_10 ⟨by decide, by decide⟩ ?_
  refine s_isub hG dX11_force_11 ?_
  obtain ⟨o2, ho2, hF⟩ := bd_some hF
  refine s_callS (d' := d - 1) (args := [.inl a1, .inl (-1), .inl (m_w (o1 - 1))]) hG (by omega) dX11_force_12 cs_RX11_100 cw_X11_within rfl (Nat.le_of_ble_eq_true rfl) rfl (t_X11_within hsk (by omega) ho2) ?_
  refine s_if_ne hG 25 dX11_force_15 (by decide) (fun c7 => ?_) (fun c7 => ?_)
  · replace hF := Eq.trans (if_pos c7).symm hF
    refine s_aload_n hG dX11_force_18 rfl ?_
    refine s_bipush hG dX11_force_19 bp_m2 ⟨by decide, by decide⟩ ?_
    obtain ⟨o3, ho3, hF⟩ := bd_some hF
    refine s_callV (d' := d - 1) (ci := 11) (args := [.inl (-2)]) hG (by omega) dX11_force_21 cv_RX11_104 cw_X11_refuse rfl rfl (sk_k hsk 3 rfl) (Nat.le_of_ble_eq_true rfl) rfl (t_X11_refuse hsk (by omega) ho3) ?_
    cases hF
    exact s_iret hE dX11_force_24 rfl
  · replace hF := Eq.trans (if_neg c7).symm hF
    refine s_aload_n hG dX11_force_25 rfl ?_
    refine s_getr (r := 4) hG dX11_force_26 fl_RX11_10 (sk_k hsk 3 rfl) rfl (sk_R hsk 3 0 rfl) ?_
    obtain ⟨o4, ho4, hF⟩ := bd_some hF
    refine s_callV (d' := d - 1) (ci := 10) (args := []) hG (by omega) dX11_force_29 cv_RX11_210 cw_X10_inForce rfl rfl (sk_k hsk 4 rfl) (Nat.le_of_ble_eq_true rfl) rfl (t_X10_inForce hsk (by omega) (sk_W4 hsk) ho4) ?_
    refine s_istore_n hG dX11_force_32 (by decide) rfl ?_
    refine s_aload_n hG dX11_force_33 rfl ?_
    refine s_getr (r := 4) hG dX11_force_34 fl_RX11_10 (sk_k hsk 3 rfl) rfl (sk_R hsk 3 0 rfl) ?_
    refine s_iload_n hG dX11_force_37 rfl ?_
    obtain ⟨o5, ho5, hF⟩ := bd_some hF
    refine s_callV (d' := d - 1) (ci := 10) (args := [.inl a1]) hG (by omega) dX11_force_38 cv_RX11_213 cw_X10_setForce rfl rfl (sk_k hsk 4 rfl) (Nat.le_of_ble_eq_true rfl) rfl (t_X10_setForce hsk (by omega) (sk_W4 hsk) ho5) ?_
    refine s_aload_n hG dX11_force_41 rfl ?_
    refine s_iload_n hG dX11_force_42 rfl ?_
    obtain ⟨o6, ho6, hF⟩ := bd_some hF
    refine s_callV (d' := d - 1) (ci := 11) (args := [.inl o4]) hG (by omega) dX11_force_43 cv_RX11_118 cw_X11_accept rfl rfl (sk_k hsk 3 rfl) (Nat.le_of_ble_eq_true rfl) rfl (t_X11_accept hsk (by omega) ho6) ?_
    cases hF
    exact s_iret hE dX11_force_46 rfl
-- X6_lookAt
theorem t_X6_lookAt_l22_j98 {d n0 s0 nF sF : Nat} {X : MX} {r1 : Nat} {Ω : Nat → MS → Prop} {N : NN} {a2 : Int} {a3 : Int} {a4 : Int} {a5 : Int} {a6 : Int} {z1 : Int} {z2 : Int} (hsk : m_Sk X) (hd : 4 ≤ d) (h1 : m_isW X r1) (hG : m_G d yX6_lookAt.cls yX6_lookAt.name cX6_lookAt 10 n0 s0 nF sF Ω) {out : ((NN × Int × Int × Int × Int × Int) ⊕ (NN × Int × Int × Int × Int))} (hK0 : ∀ s' : (NN × Int × Int × Int × Int × Int), out = .inl s' → Ω 22 ([some (.inr (.inr 58)), some (.inr (.inr r1)), some (.inl (s'.2.1)), some (.inl (s'.2.2.1)), some (.inl (s'.2.2.2.1)), some (.inl (s'.2.2.2.2.1)), some (.inl (s'.2.2.2.2.2)), none, none, none], [], s'.1, X)) (hK1 : ∀ t : (NN × Int × Int × Int × Int), out = .inr t → Ω 105 ([some (.inr (.inr 58)), some (.inr (.inr r1)), some (.inl t.2.1), some (.inl t.2.2.1), some (.inl t.2.2.2.1), some (.inl t.2.2.2.2), none, none, none, none], [], t.1, X)) (hF : f_X6_lookAt_l22_j98 X r1 N a2 a3 a4 a5 a6 z1 z2 = some out) : Ω 98 ([some (.inr (.inr 58)), some (.inr (.inr r1)), some (.inl a2), some (.inl a3), some (.inl a4), some (.inl a5), some (.inl a6), none, none, none], [(.inl z2), (.inl z1), (.inr (.inr 59))], N, X) := by
  unfold f_X6_lookAt_l22_j98 at hF
  obtain ⟨g11, hF⟩ := gd_some hF
  obtain ⟨g12, hF⟩ := gd_some hF
  refine s_zastj (j := z1.toNat) hG dX6_lookAt_98 (sk_K hsk 59 rfl) g11 rfl g12 ?_
  refine s_iinc hG dX6_lookAt_99 (by decide) rfl rfl ?_
  refine s_goto hG 22 dX6_lookAt_102 (by decide) ?_
  cases hF
  exact hK0 _ rfl
theorem t_X6_lookAt_l22_j97 {d n0 s0 nF sF : Nat} {X : MX} {r1 : Nat} {Ω : Nat → MS → Prop} {N : NN} {a2 : Int} {a3 : Int} {a4 : Int} {a5 : Int} {a6 : Int} {z1 : Int} (hsk : m_Sk X) (hd : 4 ≤ d) (h1 : m_isW X r1) (hG : m_G d yX6_lookAt.cls yX6_lookAt.name cX6_lookAt 10 n0 s0 nF sF Ω) {out : ((NN × Int × Int × Int × Int × Int) ⊕ (NN × Int × Int × Int × Int))} (hK0 : ∀ s' : (NN × Int × Int × Int × Int × Int), out = .inl s' → Ω 22 ([some (.inr (.inr 58)), some (.inr (.inr r1)), some (.inl (s'.2.1)), some (.inl (s'.2.2.1)), some (.inl (s'.2.2.2.1)), some (.inl (s'.2.2.2.2.1)), some (.inl (s'.2.2.2.2.2)), none, none, none], [], s'.1, X)) (hK1 : ∀ t : (NN × Int × Int × Int × Int), out = .inr t → Ω 105 ([some (.inr (.inr 58)), some (.inr (.inr r1)), some (.inl t.2.1), some (.inl t.2.2.1), some (.inl t.2.2.2.1), some (.inl t.2.2.2.2), none, none, none, none], [], t.1, X)) (hF : f_X6_lookAt_l22_j97 X r1 N a2 a3 a4 a5 a6 z1 = some out) : Ω 97 ([some (.inr (.inr 58)), some (.inr (.inr r1)), some (.inl a2), some (.inl a3), some (.inl a4), some (.inl a5), some (.inl a6), none, none, none], [(.inl z1), (.inr (.inr 59))], N, X) := by
  unfold f_X6_lookAt_l22_j97 at hF
  refine s_iconst hG dX6_lookAt_97 ⟨by decide, by decide⟩ ?_
  exact t_X6_lookAt_l22_j98 hsk hd h1 hG hK0 hK1 hF
theorem t_X6_lookAt_b22 {d n0 s0 nF sF : Nat} {X : MX} {r1 : Nat} {Ω : Nat → MS → Prop} {N : NN} {a2 : Int} {a3 : Int} {a4 : Int} {a5 : Int} {a6 : Int} (hsk : m_Sk X) (hd : 4 ≤ d) (h1 : m_isW X r1) (hG : m_G d yX6_lookAt.cls yX6_lookAt.name cX6_lookAt 10 n0 s0 nF sF Ω) {out : ((NN × Int × Int × Int × Int × Int) ⊕ (NN × Int × Int × Int × Int))} (hK0 : ∀ s' : (NN × Int × Int × Int × Int × Int), out = .inl s' → Ω 22 ([some (.inr (.inr 58)), some (.inr (.inr r1)), some (.inl (s'.2.1)), some (.inl (s'.2.2.1)), some (.inl (s'.2.2.2.1)), some (.inl (s'.2.2.2.2.1)), some (.inl (s'.2.2.2.2.2)), none, none, none], [], s'.1, X)) (hK1 : ∀ t : (NN × Int × Int × Int × Int), out = .inr t → Ω 105 ([some (.inr (.inr 58)), some (.inr (.inr r1)), some (.inl t.2.1), some (.inl t.2.2.1), some (.inl t.2.2.2.1), some (.inl t.2.2.2.2), none, none, none, none], [], t.1, X)) (hF : b_X6_lookAt_22 X r1 N a2 a3 a4 a5 a6 = some out) : Ω 22 ([some (.inr (.inr 58)), some (.inr (.inr r1)), some (.inl a2), some (.inl a3), some (.inl a4), some (.inl a5), some (.inl a6), none, none, none], [], N, X) := by
  unfold b_X6_lookAt_22 at hF
  refine s_iload hG dX6_lookAt_22 rfl ?_
  refine s_aload_n hG dX6_lookAt_24 rfl ?_
  refine s_geti hG dX6_lookAt_25 fl_RX6_25 (sk_k hsk 58 rfl) rfl ?_
  refine s_icmp_ge hG 105 dX6_lookAt_28 (by decide) (fun c10 => ?_) (fun c10 => ?_)
  · replace hF := Eq.trans (if_pos c10).symm hF
    refine s_aload_n hG dX6_lookAt_31 rfl ?_
    refine s_getr (r := 59) hG dX6_lookAt_32 fl_RX6_11 (sk_k hsk 58 rfl) rfl (sk_R hsk 58 1 rfl) ?_
    refine s_iload_n hG dX6_lookAt_35 rfl ?_
    refine s_bipush hG dX6_lookAt_36 bp_36 ⟨by decide, by decide⟩ ?_
    refine s_imul hG dX6_lookAt_38 ?_
    refine s_iload hG dX6_lookAt_39 rfl ?_
    refine s_bipush hG dX6_lookAt_41 bp_6 ⟨by decide, by decide⟩ ?_
    refine s_imul hG dX6_lookAt_43 ?_
    refine s_iadd hG dX6_lookAt_44 ?_
    refine s_iload hG dX6_lookAt_45 rfl ?_
    refine s_iadd hG dX6_lookAt_47 ?_
    refine s_iload_n hG dX6_lookAt_48 rfl ?_
    refine s_if_le hG 97 dX6_lookAt_49 (by decide) (fun c9 => ?_) (fun c9 => ?_)
    · replace hF := Eq.trans (if_pos c9).symm hF
      refine s_iload hG dX6_lookAt_52 rfl ?_
      refine s_iload hG dX6_lookAt_54 rfl ?_
      refine s_icmp_eq hG 97 dX6_lookAt_56 (by decide) (fun c8 => ?_) (fun c8 => ?_)
      · replace hF := Eq.trans (if_pos c8).symm hF
        exact t_X6_lookAt_l22_j97 hsk hd h1 hG hK0 hK1 hF
      · replace hF := Eq.trans (if_neg c8).symm hF
        refine s_aload_n hG dX6_lookAt_59 rfl ?_
        refine s_iload hG dX6_lookAt_60 rfl ?_
        obtain ⟨o2, ho2, hF⟩ := bd_some hF
        refine s_callV (d' := d - 1) (ci := 10) (args := [.inl a5]) hG (by omega) dX6_lookAt_62 cv_RX6_71 cw_X10_isRuined rfl rfl h1.1 (Nat.le_of_ble_eq_true rfl) rfl (t_X10_isRuined hsk (by omega) h1 ho2) ?_
        refine s_if_ne hG 97 dX6_lookAt_65 (by decide) (fun c7 => ?_) (fun c7 => ?_)
        · replace hF := Eq.trans (if_pos c7).symm hF
          refine s_aload_n hG dX6_lookAt_68 rfl ?_
          refine s_iload hG dX6_lookAt_69 rfl ?_
          obtain ⟨o3, ho3, hF⟩ := bd_some hF
          refine s_callV (d' := d - 1) (ci := 10) (args := [.inl a6]) hG (by omega) dX6_lookAt_71 cv_RX6_71 cw_X10_isRuined rfl rfl h1.1 (Nat.le_of_ble_eq_true rfl) rfl (t_X10_isRuined hsk (by omega) h1 ho3) ?_
          refine s_if_ne hG 97 dX6_lookAt_74 (by decide) (fun c6 => ?_) (fun c6 => ?_)
          · replace hF := Eq.trans (if_pos c6).symm hF
            refine s_aload_n hG dX6_lookAt_77 rfl ?_
            refine s_getr (r := 25) hG dX6_lookAt_78 fl_RX6_38 (sk_k hsk 58 rfl) rfl (sk_R hsk 58 0 rfl) ?_
            refine s_aload_n hG dX6_lookAt_81 rfl ?_
            refine s_iload_n hG dX6_lookAt_82 rfl ?_
            refine s_iload hG dX6_lookAt_83 rfl ?_
            refine s_iload hG dX6_lookAt_85 rfl ?_
            obtain ⟨o4, ho4, hF⟩ := bd_some hF
            refine s_callV (d' := d - 1) (ci := 2) (args := [.inr (.inr r1), .inl a2, .inl a5, .inl a6]) hG (by omega) dX6_lookAt_87 cv_RX6_74 cw_X2_bars rfl rfl (sk_k hsk 25 rfl) (Nat.le_of_ble_eq_true rfl) rfl (t_X2_bars hsk (by omega) h1 ho4) ?_
            refine s_if_ne hG 97 dX6_lookAt_90 (by decide) (fun c5 => ?_) (fun c5 => ?_)
            · replace hF := Eq.trans (if_pos c5).symm hF
              refine s_iconst hG dX6_lookAt_93 ⟨by decide, by decide⟩ ?_
              refine s_goto hG 98 dX6_lookAt_94 (by decide) ?_
              exact t_X6_lookAt_l22_j98 hsk hd h1 hG hK0 hK1 hF
            · replace hF := Eq.trans (if_neg c5).symm hF
              exact t_X6_lookAt_l22_j97 hsk hd h1 hG hK0 hK1 hF
          · replace hF := Eq.trans (if_neg c6).symm hF
            exact t_X6_lookAt_l22_j97 hsk hd h1 hG hK0 hK1 hF
        · replace hF := Eq.trans (if_neg c7).symm hF
          exact t_X6_lookAt_l22_j97 hsk hd h1 hG hK0 hK1 hF
    · replace hF := Eq.trans (if_neg c9).symm hF
      exact t_X6_lookAt_l22_j97 hsk hd h1 hG hK0 hK1 hF
  · replace hF := Eq.trans (if_neg c10).symm hF
    cases hF
    refine m_weak (ls1 := [some (.inr (.inr 58)), some (.inr (.inr r1)), some (.inl a2), some (.inl a3), some (.inl a4), some (.inl a5), none, none, none, none]) hG ⟨rfl, ⟨rfl, ⟨rfl, ⟨rfl, ⟨rfl, ⟨rfl, trivial⟩⟩⟩⟩⟩⟩ ?_
    exact hK1 _ rfl
theorem t_X6_lookAt_lp22 {d n0 s0 nF sF : Nat} {X : MX} {r1 : Nat} {Ω : Nat → MS → Prop} {N : NN} {a2 : Int} {a3 : Int} {a4 : Int} {a5 : Int} {a6 : Int} (hsk : m_Sk X) (hd : 4 ≤ d) (h1 : m_isW X r1) (hG : m_G d yX6_lookAt.cls yX6_lookAt.name cX6_lookAt 10 n0 s0 nF sF Ω) {t : (NN × Int × Int × Int × Int)} (hK1 : Ω 105 ([some (.inr (.inr 58)), some (.inr (.inr r1)), some (.inl t.2.1), some (.inl t.2.2.1), some (.inl t.2.2.2.1), some (.inl t.2.2.2.2), none, none, none, none], [], t.1, X)) (hl : lp (fun s => b_X6_lookAt_22 X r1 s.1 s.2.1 s.2.2.1 s.2.2.2.1 s.2.2.2.2.1 s.2.2.2.2.2) (N, a2, a3, a4, a5, a6) = some t) : Ω 22 ([some (.inr (.inr 58)), some (.inr (.inr r1)), some (.inl a2), some (.inl a3), some (.inl a4), some (.inl a5), some (.inl a6), none, none, none], [], N, X) := by
  refine lp_ok (P := fun s => Ω 22 ([some (.inr (.inr 58)), some (.inr (.inr r1)), some (.inl s.2.1), some (.inl s.2.2.1), some (.inl s.2.2.2.1), some (.inl s.2.2.2.2.1), some (.inl s.2.2.2.2.2), none, none, none], [], s.1, X)) (K := fun t => Ω 105 ([some (.inr (.inr 58)), some (.inr (.inr r1)), some (.inl t.2.1), some (.inl t.2.2.1), some (.inl t.2.2.2.1), some (.inl t.2.2.2.2), none, none, none, none], [], t.1, X)) (fun s out hF hK0 hK1 => ?_) hl hK1
  exact t_X6_lookAt_b22 hsk hd h1 hG (out := out) (fun s' e => hK0 s' e) (fun t' e => hK1 t' e) hF
theorem t_X6_lookAt_l10_j136 {d n0 s0 nF sF : Nat} {X : MX} {r1 : Nat} {Ω : Nat → MS → Prop} {N : NN} {a2 : Int} {a3 : Int} {a4 : Int} {a5 : Int} {z1 : Int} {z2 : Int} (hsk : m_Sk X) (hd : 4 ≤ d) (h1 : m_isW X r1) (hG : m_G d yX6_lookAt.cls yX6_lookAt.name cX6_lookAt 10 n0 s0 nF sF Ω) {out : ((NN × Int × Int × Int × Int) ⊕ (NN × Int × Int))} (hK0 : ∀ s' : (NN × Int × Int × Int × Int), out = .inl s' → Ω 10 ([some (.inr (.inr 58)), some (.inr (.inr r1)), some (.inl (s'.2.1)), some (.inl (s'.2.2.1)), some (.inl (s'.2.2.2.1)), some (.inl (s'.2.2.2.2)), none, none, none, none], [], s'.1, X)) (hK1 : ∀ t : (NN × Int × Int), out = .inr t → Ω 143 ([some (.inr (.inr 58)), none, some (.inl t.2.1), some (.inl t.2.2), none, none, none, none, none, none], [], t.1, X)) (hF : f_X6_lookAt_l10_j136 X r1 N a2 a3 a4 a5 z1 z2 = some out) : Ω 136 ([some (.inr (.inr 58)), some (.inr (.inr r1)), some (.inl a2), some (.inl a3), some (.inl a4), some (.inl a5), none, none, none, none], [(.inl z2), (.inl z1), (.inr (.inr 60))], N, X) := by
  unfold f_X6_lookAt_l10_j136 at hF
  obtain ⟨g18, hF⟩ := gd_some hF
  refine s_iastj (j := z1.toNat) hG dX6_lookAt_136 (sk_K hsk 60 rfl) g18 rfl ?_
  refine s_iinc hG dX6_lookAt_137 (by decide) rfl rfl ?_
  refine s_goto hG 10 dX6_lookAt_140 (by decide) ?_
  cases hF
  exact hK0 _ rfl
theorem t_X6_lookAt_l10_j131 {d n0 s0 nF sF : Nat} {X : MX} {r1 : Nat} {Ω : Nat → MS → Prop} {N : NN} {a2 : Int} {a3 : Int} {a4 : Int} {a5 : Int} {z1 : Int} (hsk : m_Sk X) (hd : 4 ≤ d) (h1 : m_isW X r1) (hG : m_G d yX6_lookAt.cls yX6_lookAt.name cX6_lookAt 10 n0 s0 nF sF Ω) {out : ((NN × Int × Int × Int × Int) ⊕ (NN × Int × Int))} (hK0 : ∀ s' : (NN × Int × Int × Int × Int), out = .inl s' → Ω 10 ([some (.inr (.inr 58)), some (.inr (.inr r1)), some (.inl (s'.2.1)), some (.inl (s'.2.2.1)), some (.inl (s'.2.2.2.1)), some (.inl (s'.2.2.2.2)), none, none, none, none], [], s'.1, X)) (hK1 : ∀ t : (NN × Int × Int), out = .inr t → Ω 143 ([some (.inr (.inr 58)), none, some (.inl t.2.1), some (.inl t.2.2), none, none, none, none, none, none], [], t.1, X)) (hF : f_X6_lookAt_l10_j131 X r1 N a2 a3 a4 a5 z1 = some out) : Ω 131 ([some (.inr (.inr 58)), some (.inr (.inr r1)), some (.inl a2), some (.inl a3), some (.inl a4), some (.inl a5), none, none, none, none], [(.inl z1), (.inr (.inr 60))], N, X) := by
  unfold f_X6_lookAt_l10_j131 at hF
  refine s_iconst hG dX6_lookAt_131 ⟨by decide, by decide⟩ ?_
  refine s_goto hG 136 dX6_lookAt_132 (by decide) ?_
  exact t_X6_lookAt_l10_j136 hsk hd h1 hG hK0 hK1 hF
theorem t_X6_lookAt_b10 {d n0 s0 nF sF : Nat} {X : MX} {r1 : Nat} {Ω : Nat → MS → Prop} {N : NN} {a2 : Int} {a3 : Int} {a4 : Int} {a5 : Int} (hsk : m_Sk X) (hd : 4 ≤ d) (h1 : m_isW X r1) (hG : m_G d yX6_lookAt.cls yX6_lookAt.name cX6_lookAt 10 n0 s0 nF sF Ω) {out : ((NN × Int × Int × Int × Int) ⊕ (NN × Int × Int))} (hK0 : ∀ s' : (NN × Int × Int × Int × Int), out = .inl s' → Ω 10 ([some (.inr (.inr 58)), some (.inr (.inr r1)), some (.inl (s'.2.1)), some (.inl (s'.2.2.1)), some (.inl (s'.2.2.2.1)), some (.inl (s'.2.2.2.2)), none, none, none, none], [], s'.1, X)) (hK1 : ∀ t : (NN × Int × Int), out = .inr t → Ω 143 ([some (.inr (.inr 58)), none, some (.inl t.2.1), some (.inl t.2.2), none, none, none, none, none, none], [], t.1, X)) (hF : b_X6_lookAt_10 X r1 N a2 a3 a4 a5 = some out) : Ω 10 ([some (.inr (.inr 58)), some (.inr (.inr r1)), some (.inl a2), some (.inl a3), some (.inl a4), some (.inl a5), none, none, none, none], [], N, X) := by
  unfold b_X6_lookAt_10 at hF
  refine s_iload hG dX6_lookAt_10 rfl ?_
  refine s_aload_n hG dX6_lookAt_12 rfl ?_
  refine s_geti hG dX6_lookAt_13 fl_RX6_25 (sk_k hsk 58 rfl) rfl ?_
  refine s_icmp_ge hG 143 dX6_lookAt_16 (by decide) (fun c17 => ?_) (fun c17 => ?_)
  · replace hF := Eq.trans (if_pos c17).symm hF
    refine s_iconst hG dX6_lookAt_19 ⟨by decide, by decide⟩ ?_
    refine s_istore hG dX6_lookAt_20 (by decide) rfl ?_
    obtain ⟨o14, hlo14, hF⟩ := bd_some hF
    refine t_X6_lookAt_lp22 hsk hd h1 hG ?_ hlo14
    refine s_aload_n hG dX6_lookAt_105 rfl ?_
    refine s_getr (r := 60) hG dX6_lookAt_106 fl_RX6_15 (sk_k hsk 58 rfl) rfl (sk_R hsk 58 2 rfl) ?_
    refine s_iload_n hG dX6_lookAt_109 rfl ?_
    refine s_bipush hG dX6_lookAt_110 bp_6 ⟨by decide, by decide⟩ ?_
    refine s_imul hG dX6_lookAt_112 ?_
    refine s_iload hG dX6_lookAt_113 rfl ?_
    refine s_iadd hG dX6_lookAt_115 ?_
    refine s_iconst hG dX6_lookAt_116 ⟨by decide, by decide⟩ ?_
    refine s_imul hG dX6_lookAt_117 ?_
    refine s_iload hG dX6_lookAt_118 rfl ?_
    refine s_iconst hG dX6_lookAt_120 ⟨by decide, by decide⟩ ?_
    refine s_icmp_eq hG 131 dX6_lookAt_121 (by decide) (fun c16 => ?_) (fun c16 => ?_)
    · replace hF := Eq.trans (if_pos c16).symm hF
      exact t_X6_lookAt_l10_j131 hsk hd h1 hG hK0 hK1 hF
    · replace hF := Eq.trans (if_neg c16).symm hF
      refine s_iload hG dX6_lookAt_124 rfl ?_
      refine s_iload hG dX6_lookAt_126 rfl ?_
      refine s_icmp_ne hG 135 dX6_lookAt_128 (by decide) (fun c15 => ?_) (fun c15 => ?_)
      · replace hF := Eq.trans (if_pos c15).symm hF
        exact t_X6_lookAt_l10_j131 hsk hd h1 hG hK0 hK1 hF
      · replace hF := Eq.trans (if_neg c15).symm hF
        refine s_iconst hG dX6_lookAt_135 ⟨by decide, by decide⟩ ?_
        exact t_X6_lookAt_l10_j136 hsk hd h1 hG hK0 hK1 hF
  · replace hF := Eq.trans (if_neg c17).symm hF
    cases hF
    refine m_weak (ls1 := [some (.inr (.inr 58)), none, some (.inl a2), some (.inl a3), none, none, none, none, none, none]) hG ⟨rfl, ⟨rfl, ⟨rfl, trivial⟩⟩⟩ ?_
    exact hK1 _ rfl
theorem t_X6_lookAt_lp10 {d n0 s0 nF sF : Nat} {X : MX} {r1 : Nat} {Ω : Nat → MS → Prop} {N : NN} {a2 : Int} {a3 : Int} {a4 : Int} {a5 : Int} (hsk : m_Sk X) (hd : 4 ≤ d) (h1 : m_isW X r1) (hG : m_G d yX6_lookAt.cls yX6_lookAt.name cX6_lookAt 10 n0 s0 nF sF Ω) {t : (NN × Int × Int)} (hK1 : Ω 143 ([some (.inr (.inr 58)), none, some (.inl t.2.1), some (.inl t.2.2), none, none, none, none, none, none], [], t.1, X)) (hl : lp (fun s => b_X6_lookAt_10 X r1 s.1 s.2.1 s.2.2.1 s.2.2.2.1 s.2.2.2.2) (N, a2, a3, a4, a5) = some t) : Ω 10 ([some (.inr (.inr 58)), some (.inr (.inr r1)), some (.inl a2), some (.inl a3), some (.inl a4), some (.inl a5), none, none, none, none], [], N, X) := by
  refine lp_ok (P := fun s => Ω 10 ([some (.inr (.inr 58)), some (.inr (.inr r1)), some (.inl s.2.1), some (.inl s.2.2.1), some (.inl s.2.2.2.1), some (.inl s.2.2.2.2), none, none, none, none], [], s.1, X)) (K := fun t => Ω 143 ([some (.inr (.inr 58)), none, some (.inl t.2.1), some (.inl t.2.2), none, none, none, none, none, none], [], t.1, X)) (fun s out hF hK0 hK1 => ?_) hl hK1
  exact t_X6_lookAt_b10 hsk hd h1 hG (out := out) (fun s' e => hK0 s' e) (fun t' e => hK1 t' e) hF
theorem t_X6_lookAt_l176_j235 {d n0 s0 nF sF : Nat} {X : MX} {r1 : Nat} {Ω : Nat → MS → Prop} {N : NN} {a2 : Int} {a3 : Int} {a5 : Int} {a6 : Int} {a8 : Int} {z0 : Int} {z1 : Int} (hsk : m_Sk X) (hd : 4 ≤ d) (h1 : m_isW X r1) (hG : m_G d yX6_lookAt.cls yX6_lookAt.name cX6_lookAt 10 n0 s0 nF sF Ω) {out : ((NN × Int × Int × Int × Int × Int × Int) ⊕ (NN × Int × Int × Int × Int × Int))} (hK0 : ∀ s' : (NN × Int × Int × Int × Int × Int × Int), out = .inl s' → Ω 176 ([some (.inr (.inr 58)), none, some (.inl (s'.2.1)), some (.inl (s'.2.2.1)), none, some (.inl (s'.2.2.2.1)), some (.inl (s'.2.2.2.2.1)), some (.inl (s'.2.2.2.2.2.1)), some (.inl (s'.2.2.2.2.2.2)), none], [], s'.1, X)) (hK1 : ∀ t : (NN × Int × Int × Int × Int × Int), out = .inr t → Ω 244 ([some (.inr (.inr 58)), none, some (.inl t.2.1), some (.inl t.2.2.1), none, some (.inl t.2.2.2.1), some (.inl t.2.2.2.2.1), some (.inl t.2.2.2.2.2), none, none], [], t.1, X)) (hF : f_X6_lookAt_l176_j235 X r1 N a2 a3 a5 a6 a8 z0 z1 = some out) : Ω 235 ([some (.inr (.inr 58)), none, some (.inl a2), some (.inl a3), none, some (.inl a5), some (.inl a6), none, some (.inl a8), none], [(.inl z1), (.inl z0)], N, X) := by
  unfold f_X6_lookAt_l176_j235 at hF
  refine s_iadd hG dX6_lookAt_235 ?_
  refine s_istore hG dX6_lookAt_236 (by decide) rfl ?_
  refine s_iinc hG dX6_lookAt_238 (by decide) rfl rfl ?_
  refine s_goto hG 176 dX6_lookAt_241 (by decide) ?_
  cases hF
  exact hK0 _ rfl
theorem t_X6_lookAt_b176 {d n0 s0 nF sF : Nat} {X : MX} {r1 : Nat} {Ω : Nat → MS → Prop} {N : NN} {a2 : Int} {a3 : Int} {a5 : Int} {a6 : Int} {a7 : Int} {a8 : Int} (hsk : m_Sk X) (hd : 4 ≤ d) (h1 : m_isW X r1) (hG : m_G d yX6_lookAt.cls yX6_lookAt.name cX6_lookAt 10 n0 s0 nF sF Ω) {out : ((NN × Int × Int × Int × Int × Int × Int) ⊕ (NN × Int × Int × Int × Int × Int))} (hK0 : ∀ s' : (NN × Int × Int × Int × Int × Int × Int), out = .inl s' → Ω 176 ([some (.inr (.inr 58)), none, some (.inl (s'.2.1)), some (.inl (s'.2.2.1)), none, some (.inl (s'.2.2.2.1)), some (.inl (s'.2.2.2.2.1)), some (.inl (s'.2.2.2.2.2.1)), some (.inl (s'.2.2.2.2.2.2)), none], [], s'.1, X)) (hK1 : ∀ t : (NN × Int × Int × Int × Int × Int), out = .inr t → Ω 244 ([some (.inr (.inr 58)), none, some (.inl t.2.1), some (.inl t.2.2.1), none, some (.inl t.2.2.2.1), some (.inl t.2.2.2.2.1), some (.inl t.2.2.2.2.2), none, none], [], t.1, X)) (hF : b_X6_lookAt_176 X r1 N a2 a3 a5 a6 a7 a8 = some out) : Ω 176 ([some (.inr (.inr 58)), none, some (.inl a2), some (.inl a3), none, some (.inl a5), some (.inl a6), some (.inl a7), some (.inl a8), none], [], N, X) := by
  unfold b_X6_lookAt_176 at hF
  refine s_iload hG dX6_lookAt_176 rfl ?_
  refine s_aload_n hG dX6_lookAt_178 rfl ?_
  refine s_geti hG dX6_lookAt_179 fl_RX6_25 (sk_k hsk 58 rfl) rfl ?_
  refine s_icmp_ge hG 244 dX6_lookAt_182 (by decide) (fun c24 => ?_) (fun c24 => ?_)
  · replace hF := Eq.trans (if_pos c24).symm hF
    refine s_aload_n hG dX6_lookAt_185 rfl ?_
    refine s_getr (r := 59) hG dX6_lookAt_186 fl_RX6_11 (sk_k hsk 58 rfl) rfl (sk_R hsk 58 1 rfl) ?_
    refine s_iload_n hG dX6_lookAt_189 rfl ?_
    refine s_bipush hG dX6_lookAt_190 bp_36 ⟨by decide, by decide⟩ ?_
    refine s_imul hG dX6_lookAt_192 ?_
    refine s_iload hG dX6_lookAt_193 rfl ?_
    refine s_bipush hG dX6_lookAt_195 bp_6 ⟨by decide, by decide⟩ ?_
    refine s_imul hG dX6_lookAt_197 ?_
    refine s_iadd hG dX6_lookAt_198 ?_
    refine s_iload hG dX6_lookAt_199 rfl ?_
    refine s_iadd hG dX6_lookAt_201 ?_
    obtain ⟨g21, hF⟩ := gd_some hF
    refine s_zaldj (j := (m_w ((m_w ((m_w (a2 * 36)) + (m_w (a6 * 6)))) + a8)).toNat) hG dX6_lookAt_202 (sk_K hsk 59 rfl) g21 rfl ?_
    refine s_istore hG dX6_lookAt_203 (by decide) rfl ?_
    refine s_iload hG dX6_lookAt_205 rfl ?_
    refine s_iload hG dX6_lookAt_207 rfl ?_
    refine s_if_eq hG 234 dX6_lookAt_209 (by decide) (fun c23 => ?_) (fun c23 => ?_)
    · replace hF := Eq.trans (if_pos c23).symm hF
      refine s_iconst hG dX6_lookAt_234 ⟨by decide, by decide⟩ ?_
      refine m_weak (ls1 := [some (.inr (.inr 58)), none, some (.inl a2), some (.inl a3), none, some (.inl a5), some (.inl a6), none, some (.inl a8), none]) hG ⟨rfl, ⟨rfl, ⟨rfl, ⟨rfl, ⟨rfl, ⟨rfl, trivial⟩⟩⟩⟩⟩⟩ ?_
      exact t_X6_lookAt_l176_j235 hsk hd h1 hG hK0 hK1 hF
    · replace hF := Eq.trans (if_neg c23).symm hF
      refine s_aload_n hG dX6_lookAt_212 rfl ?_
      refine s_getr (r := 60) hG dX6_lookAt_213 fl_RX6_15 (sk_k hsk 58 rfl) rfl (sk_R hsk 58 2 rfl) ?_
      refine s_iload_n hG dX6_lookAt_216 rfl ?_
      refine s_bipush hG dX6_lookAt_217 bp_6 ⟨by decide, by decide⟩ ?_
      refine s_imul hG dX6_lookAt_219 ?_
      refine s_iload hG dX6_lookAt_220 rfl ?_
      refine s_iadd hG dX6_lookAt_222 ?_
      refine s_iconst hG dX6_lookAt_223 ⟨by decide, by decide⟩ ?_
      refine s_imul hG dX6_lookAt_224 ?_
      refine s_iload hG dX6_lookAt_225 rfl ?_
      refine s_iadd hG dX6_lookAt_227 ?_
      refine s_iconst hG dX6_lookAt_228 ⟨by decide, by decide⟩ ?_
      refine s_isub hG dX6_lookAt_229 ?_
      obtain ⟨g22, hF⟩ := gd_some hF
      refine s_ialdj (j := (m_w ((m_w ((m_w ((m_w ((m_w (a2 * 6)) + a8)) * 4)) + a5)) - 1)).toNat) hG dX6_lookAt_230 (sk_K hsk 60 rfl) g22 rfl ?_
      refine s_goto hG 235 dX6_lookAt_231 (by decide) ?_
      refine m_weak (ls1 := [some (.inr (.inr 58)), none, some (.inl a2), some (.inl a3), none, some (.inl a5), some (.inl a6), none, some (.inl a8), none]) hG ⟨rfl, ⟨rfl, ⟨rfl, ⟨rfl, ⟨rfl, ⟨rfl, trivial⟩⟩⟩⟩⟩⟩ ?_
      exact t_X6_lookAt_l176_j235 hsk hd h1 hG hK0 hK1 hF
  · replace hF := Eq.trans (if_neg c24).symm hF
    cases hF
    refine m_weak (ls1 := [some (.inr (.inr 58)), none, some (.inl a2), some (.inl a3), none, some (.inl a5), some (.inl a6), some (.inl a7), none, none]) hG ⟨rfl, ⟨rfl, ⟨rfl, ⟨rfl, ⟨rfl, ⟨rfl, trivial⟩⟩⟩⟩⟩⟩ ?_
    exact hK1 _ rfl
theorem t_X6_lookAt_lp176 {d n0 s0 nF sF : Nat} {X : MX} {r1 : Nat} {Ω : Nat → MS → Prop} {N : NN} {a2 : Int} {a3 : Int} {a5 : Int} {a6 : Int} {a7 : Int} {a8 : Int} (hsk : m_Sk X) (hd : 4 ≤ d) (h1 : m_isW X r1) (hG : m_G d yX6_lookAt.cls yX6_lookAt.name cX6_lookAt 10 n0 s0 nF sF Ω) {t : (NN × Int × Int × Int × Int × Int)} (hK1 : Ω 244 ([some (.inr (.inr 58)), none, some (.inl t.2.1), some (.inl t.2.2.1), none, some (.inl t.2.2.2.1), some (.inl t.2.2.2.2.1), some (.inl t.2.2.2.2.2), none, none], [], t.1, X)) (hl : lp (fun s => b_X6_lookAt_176 X r1 s.1 s.2.1 s.2.2.1 s.2.2.2.1 s.2.2.2.2.1 s.2.2.2.2.2.1 s.2.2.2.2.2.2) (N, a2, a3, a5, a6, a7, a8) = some t) : Ω 176 ([some (.inr (.inr 58)), none, some (.inl a2), some (.inl a3), none, some (.inl a5), some (.inl a6), some (.inl a7), some (.inl a8), none], [], N, X) := by
  refine lp_ok (P := fun s => Ω 176 ([some (.inr (.inr 58)), none, some (.inl s.2.1), some (.inl s.2.2.1), none, some (.inl s.2.2.2.1), some (.inl s.2.2.2.2.1), some (.inl s.2.2.2.2.2.1), some (.inl s.2.2.2.2.2.2), none], [], s.1, X)) (K := fun t => Ω 244 ([some (.inr (.inr 58)), none, some (.inl t.2.1), some (.inl t.2.2.1), none, some (.inl t.2.2.2.1), some (.inl t.2.2.2.2.1), some (.inl t.2.2.2.2.2), none, none], [], t.1, X)) (fun s out hF hK0 hK1 => ?_) hl hK1
  exact t_X6_lookAt_b176 hsk hd h1 hG (out := out) (fun s' e => hK0 s' e) (fun t' e => hK1 t' e) hF
theorem t_X6_lookAt_b161 {d n0 s0 nF sF : Nat} {X : MX} {r1 : Nat} {Ω : Nat → MS → Prop} {N : NN} {a2 : Int} {a3 : Int} {a5 : Int} {a6 : Int} (hsk : m_Sk X) (hd : 4 ≤ d) (h1 : m_isW X r1) (hG : m_G d yX6_lookAt.cls yX6_lookAt.name cX6_lookAt 10 n0 s0 nF sF Ω) {out : ((NN × Int × Int × Int × Int) ⊕ (NN × Int × Int × Int))} (hK0 : ∀ s' : (NN × Int × Int × Int × Int), out = .inl s' → Ω 161 ([some (.inr (.inr 58)), none, some (.inl (s'.2.1)), some (.inl (s'.2.2.1)), none, some (.inl (s'.2.2.2.1)), some (.inl (s'.2.2.2.2)), none, none, none], [], s'.1, X)) (hK1 : ∀ t : (NN × Int × Int × Int), out = .inr t → Ω 269 ([some (.inr (.inr 58)), none, some (.inl t.2.1), some (.inl t.2.2.1), none, some (.inl t.2.2.2), none, none, none, none], [], t.1, X)) (hF : b_X6_lookAt_161 X r1 N a2 a3 a5 a6 = some out) : Ω 161 ([some (.inr (.inr 58)), none, some (.inl a2), some (.inl a3), none, some (.inl a5), some (.inl a6), none, none, none], [], N, X) := by
  unfold b_X6_lookAt_161 at hF
  refine s_iload hG dX6_lookAt_161 rfl ?_
  refine s_aload_n hG dX6_lookAt_163 rfl ?_
  refine s_geti hG dX6_lookAt_164 fl_RX6_25 (sk_k hsk 58 rfl) rfl ?_
  refine s_icmp_ge hG 269 dX6_lookAt_167 (by decide) (fun c28 => ?_) (fun c28 => ?_)
  · replace hF := Eq.trans (if_pos c28).symm hF
    refine s_iconst hG dX6_lookAt_170 ⟨by decide, by decide⟩ ?_
    refine s_istore hG dX6_lookAt_171 (by decide) rfl ?_
    refine s_iconst hG dX6_lookAt_173 ⟨by decide, by decide⟩ ?_
    refine s_istore hG dX6_lookAt_174 (by decide) rfl ?_
    obtain ⟨o25, hlo25, hF⟩ := bd_some hF
    refine t_X6_lookAt_lp176 hsk hd h1 hG ?_ hlo25
    refine s_aload_n hG dX6_lookAt_244 rfl ?_
    refine s_getr (r := 60) hG dX6_lookAt_245 fl_RX6_15 (sk_k hsk 58 rfl) rfl (sk_R hsk 58 2 rfl) ?_
    refine s_iload_n hG dX6_lookAt_248 rfl ?_
    refine s_bipush hG dX6_lookAt_249 bp_6 ⟨by decide, by decide⟩ ?_
    refine s_imul hG dX6_lookAt_251 ?_
    refine s_iload hG dX6_lookAt_252 rfl ?_
    refine s_iadd hG dX6_lookAt_254 ?_
    refine s_iconst hG dX6_lookAt_255 ⟨by decide, by decide⟩ ?_
    refine s_imul hG dX6_lookAt_256 ?_
    refine s_iload hG dX6_lookAt_257 rfl ?_
    refine s_iadd hG dX6_lookAt_259 ?_
    refine s_iload hG dX6_lookAt_260 rfl ?_
    obtain ⟨g26, hF⟩ := gd_some hF
    refine s_iastj (j := (m_w ((m_w ((m_w ((m_w (o25.2.1 * 6)) + o25.2.2.2.2.1)) * 4)) + o25.2.2.2.1)).toNat) hG dX6_lookAt_262 (sk_K hsk 60 rfl) g26 rfl ?_
    refine s_iinc hG dX6_lookAt_263 (by decide) rfl rfl ?_
    refine s_goto hG 161 dX6_lookAt_266 (by decide) ?_
    cases hF
    refine m_weak (ls1 := [some (.inr (.inr 58)), none, some (.inl o25.2.1), some (.inl o25.2.2.1), none, some (.inl o25.2.2.2.1), some (.inl (m_w (o25.2.2.2.2.1 + 1))), none, none, none]) hG ⟨rfl, ⟨rfl, ⟨rfl, ⟨rfl, ⟨rfl, trivial⟩⟩⟩⟩⟩ ?_
    exact hK0 _ rfl
  · replace hF := Eq.trans (if_neg c28).symm hF
    cases hF
    refine m_weak (ls1 := [some (.inr (.inr 58)), none, some (.inl a2), some (.inl a3), none, some (.inl a5), none, none, none, none]) hG ⟨rfl, ⟨rfl, ⟨rfl, ⟨rfl, trivial⟩⟩⟩⟩ ?_
    exact hK1 _ rfl
theorem t_X6_lookAt_lp161 {d n0 s0 nF sF : Nat} {X : MX} {r1 : Nat} {Ω : Nat → MS → Prop} {N : NN} {a2 : Int} {a3 : Int} {a5 : Int} {a6 : Int} (hsk : m_Sk X) (hd : 4 ≤ d) (h1 : m_isW X r1) (hG : m_G d yX6_lookAt.cls yX6_lookAt.name cX6_lookAt 10 n0 s0 nF sF Ω) {t : (NN × Int × Int × Int)} (hK1 : Ω 269 ([some (.inr (.inr 58)), none, some (.inl t.2.1), some (.inl t.2.2.1), none, some (.inl t.2.2.2), none, none, none, none], [], t.1, X)) (hl : lp (fun s => b_X6_lookAt_161 X r1 s.1 s.2.1 s.2.2.1 s.2.2.2.1 s.2.2.2.2) (N, a2, a3, a5, a6) = some t) : Ω 161 ([some (.inr (.inr 58)), none, some (.inl a2), some (.inl a3), none, some (.inl a5), some (.inl a6), none, none, none], [], N, X) := by
  refine lp_ok (P := fun s => Ω 161 ([some (.inr (.inr 58)), none, some (.inl s.2.1), some (.inl s.2.2.1), none, some (.inl s.2.2.2.1), some (.inl s.2.2.2.2), none, none, none], [], s.1, X)) (K := fun t => Ω 269 ([some (.inr (.inr 58)), none, some (.inl t.2.1), some (.inl t.2.2.1), none, some (.inl t.2.2.2), none, none, none, none], [], t.1, X)) (fun s out hF hK0 hK1 => ?_) hl hK1
  exact t_X6_lookAt_b161 hsk hd h1 hG (out := out) (fun s' e => hK0 s' e) (fun t' e => hK1 t' e) hF
theorem t_X6_lookAt_b146 {d n0 s0 nF sF : Nat} {X : MX} {r1 : Nat} {Ω : Nat → MS → Prop} {N : NN} {a2 : Int} {a3 : Int} {a5 : Int} (hsk : m_Sk X) (hd : 4 ≤ d) (h1 : m_isW X r1) (hG : m_G d yX6_lookAt.cls yX6_lookAt.name cX6_lookAt 10 n0 s0 nF sF Ω) {out : ((NN × Int × Int × Int) ⊕ NN)} (hK0 : ∀ s' : (NN × Int × Int × Int), out = .inl s' → Ω 146 ([some (.inr (.inr 58)), none, some (.inl (s'.2.1)), some (.inl (s'.2.2.1)), none, some (.inl (s'.2.2.2)), none, none, none, none], [], s'.1, X)) (hK1 : ∀ t : NN, out = .inr t → Ω 275 ([none, none, none, none, none, none, none, none, none, none], [], t, X)) (hF : b_X6_lookAt_146 X r1 N a2 a3 a5 = some out) : Ω 146 ([some (.inr (.inr 58)), none, some (.inl a2), some (.inl a3), none, some (.inl a5), none, none, none, none], [], N, X) := by
  unfold b_X6_lookAt_146 at hF
  refine s_iload hG dX6_lookAt_146 rfl ?_
  refine s_iload_n hG dX6_lookAt_148 rfl ?_
  refine s_icmp_gt hG 275 dX6_lookAt_149 (by decide) (fun c31 => ?_) (fun c31 => ?_)
  · replace hF := Eq.trans (if_pos c31).symm hF
    cases hF
    refine m_weak (ls1 := [none, none, none, none, none, none, none, none, none, none]) hG trivial ?_
    exact hK1 _ rfl
  · replace hF := Eq.trans (if_neg c31).symm hF
    refine s_iload hG dX6_lookAt_152 rfl ?_
    refine s_iconst hG dX6_lookAt_154 ⟨by decide, by decide⟩ ?_
    refine s_icmp_ge hG 275 dX6_lookAt_155 (by decide) (fun c30 => ?_) (fun c30 => ?_)
    · replace hF := Eq.trans (if_pos c30).symm hF
      refine s_iconst hG dX6_lookAt_158 ⟨by decide, by decide⟩ ?_
      refine s_istore hG dX6_lookAt_159 (by decide) rfl ?_
      obtain ⟨o29, hlo29, hF⟩ := bd_some hF
      refine t_X6_lookAt_lp161 hsk hd h1 hG ?_ hlo29
      refine s_iinc hG dX6_lookAt_269 (by decide) rfl rfl ?_
      refine s_goto hG 146 dX6_lookAt_272 (by decide) ?_
      cases hF
      exact hK0 _ rfl
    · replace hF := Eq.trans (if_neg c30).symm hF
      cases hF
      refine m_weak (ls1 := [none, none, none, none, none, none, none, none, none, none]) hG trivial ?_
      exact hK1 _ rfl
theorem t_X6_lookAt_lp146 {d n0 s0 nF sF : Nat} {X : MX} {r1 : Nat} {Ω : Nat → MS → Prop} {N : NN} {a2 : Int} {a3 : Int} {a5 : Int} (hsk : m_Sk X) (hd : 4 ≤ d) (h1 : m_isW X r1) (hG : m_G d yX6_lookAt.cls yX6_lookAt.name cX6_lookAt 10 n0 s0 nF sF Ω) {t : NN} (hK1 : Ω 275 ([none, none, none, none, none, none, none, none, none, none], [], t, X)) (hl : lp (fun s => b_X6_lookAt_146 X r1 s.1 s.2.1 s.2.2.1 s.2.2.2) (N, a2, a3, a5) = some t) : Ω 146 ([some (.inr (.inr 58)), none, some (.inl a2), some (.inl a3), none, some (.inl a5), none, none, none, none], [], N, X) := by
  refine lp_ok (P := fun s => Ω 146 ([some (.inr (.inr 58)), none, some (.inl s.2.1), some (.inl s.2.2.1), none, some (.inl s.2.2.2), none, none, none, none], [], s.1, X)) (K := fun t => Ω 275 ([none, none, none, none, none, none, none, none, none, none], [], t, X)) (fun s out hF hK0 hK1 => ?_) hl hK1
  exact t_X6_lookAt_b146 hsk hd h1 hG (out := out) (fun s' e => hK0 s' e) (fun t' e => hK1 t' e) hF
theorem t_X6_lookAt {d : Nat} {X : MX} {r1 : Nat} {N : NN} {a2 : Int} {a3 : Int} {out : NN} (hsk : m_Sk X) (hd : 4 ≤ d) (h1 : m_isW X r1) (hF : f_X6_lookAt X r1 N a2 a3 = some out) : m_Call d yX6_lookAt cX6_lookAt 10 none [(.inr (.inr 58)), (.inr (.inr r1)), (.inl a2), (.inl a3)] N X none out X := by
  refine m_mk (ls0 := [some (.inr (.inr 58)), some (.inr (.inr r1)), some (.inl a2), some (.inl a3), none, none, none, none, none, none]) (by decide) rfl (Nat.le_of_ble_eq_true rfl) (Nat.le_refl _) (Nat.le_refl _) (fun Ω hE => ?_)
  have hG := hE.G
  unfold f_X6_lookAt at hF
  refine s_aload_n hG dX6_lookAt_0 rfl ?_
  refine s_iload_n hG dX6_lookAt_1 rfl ?_
  obtain ⟨o1, ho1, hF⟩ := bd_some hF
  refine s_callV (d' := d - 1) (ci := 10) (args := [.inl a2]) hG (by omega) dX6_lookAt_2 cv_RX6_68 cw_X10_toldHolder rfl rfl h1.1 (Nat.le_of_ble_eq_true rfl) rfl (t_X10_toldHolder hsk (by omega) h1 ho1) ?_
  refine s_istore hG dX6_lookAt_5 (by decide) rfl ?_
  refine s_iconst hG dX6_lookAt_7 ⟨by decide, by decide⟩ ?_
  refine s_istore hG dX6_lookAt_8 (by decide) rfl ?_
  obtain ⟨o20, hlo20, hF⟩ := bd_some hF
  refine t_X6_lookAt_lp10 hsk hd h1 hG ?_ hlo20
  refine s_iconst hG dX6_lookAt_143 ⟨by decide, by decide⟩ ?_
  refine s_istore hG dX6_lookAt_144 (by decide) rfl ?_
  obtain ⟨o32, hlo32, hF⟩ := bd_some hF
  refine t_X6_lookAt_lp146 hsk hd h1 hG ?_ hlo32
  cases hF
  exact s_vret hE dX6_lookAt_275 rfl
-- X6_chosen
theorem t_X6_chosen_j14 {d n0 s0 nF sF : Nat} {X : MX} {N : NN} {Ω : Nat → MS → Prop} {z0 : Int} (hsk : m_Sk X) (hd : 1 ≤ d) (hG : m_G d yX6_chosen.cls yX6_chosen.name cX6_chosen 2 n0 s0 nF sF Ω) {out : Int} (hE : m_Gd d yX6_chosen cX6_chosen 2 (some .int) X (some (.inl out)) N X Ω) (hF : f_X6_chosen_j14 X N z0 = some out) : Ω 14 ([none, none], [(.inl z0)], N, X) := by
  unfold f_X6_chosen_j14 at hF
  cases hF
  exact s_iret hE dX6_chosen_14 rfl
theorem t_X6_chosen_j9 {d n0 s0 nF sF : Nat} {X : MX} {N : NN} {Ω : Nat → MS → Prop} (hsk : m_Sk X) (hd : 1 ≤ d) (hG : m_G d yX6_chosen.cls yX6_chosen.name cX6_chosen 2 n0 s0 nF sF Ω) {out : Int} (hE : m_Gd d yX6_chosen cX6_chosen 2 (some .int) X (some (.inl out)) N X Ω) (hF : f_X6_chosen_j9 X N = some out) : Ω 9 ([none, none], [], N, X) := by
  unfold f_X6_chosen_j9 at hF
  refine s_iconst hG dX6_chosen_9 ⟨by decide, by decide⟩ ?_
  refine s_goto hG 14 dX6_chosen_10 (by decide) ?_
  exact t_X6_chosen_j14 hsk hd hG hE hF
theorem t_X6_chosen {d : Nat} {X : MX} {N : NN} {a0 : Int} {a1 : Int} {out : Int} (hsk : m_Sk X) (hd : 1 ≤ d) (hF : f_X6_chosen X N a0 a1 = some out) : m_Call d yX6_chosen cX6_chosen 2 (some .int) [(.inl a0), (.inl a1)] N X (some (.inl out)) N X := by
  refine m_mk (ls0 := [some (.inl a0), some (.inl a1)]) (by decide) rfl (Nat.le_of_ble_eq_true rfl) (Nat.le_refl _) (Nat.le_refl _) (fun Ω hE => ?_)
  have hG := hE.G
  unfold f_X6_chosen at hF
  refine s_iload_n hG dX6_chosen_0 rfl ?_
  refine s_if_eq hG 9 dX6_chosen_1 (by decide) (fun c2 => ?_) (fun c2 => ?_)
  · replace hF := Eq.trans (if_pos c2).symm hF
    refine m_weak (ls1 := [none, none]) hG trivial ?_
    exact t_X6_chosen_j9 hsk hd hG hE hF
  · replace hF := Eq.trans (if_neg c2).symm hF
    refine s_iload_n hG dX6_chosen_4 rfl ?_
    refine s_iload_n hG dX6_chosen_5 rfl ?_
    refine s_icmp_ne hG 13 dX6_chosen_6 (by decide) (fun c1 => ?_) (fun c1 => ?_)
    · replace hF := Eq.trans (if_pos c1).symm hF
      refine m_weak (ls1 := [none, none]) hG trivial ?_
      exact t_X6_chosen_j9 hsk hd hG hE hF
    · replace hF := Eq.trans (if_neg c1).symm hF
      refine s_iload_n hG dX6_chosen_13 rfl ?_
      refine m_weak (ls1 := [none, none]) hG trivial ?_
      exact t_X6_chosen_j14 hsk hd hG hE hF
-- X6_rows
theorem t_X6_rows_b57 {d n0 s0 nF sF : Nat} {X : MX} {Ω : Nat → MS → Prop} {N : NN} {a1 : Int} {a2 : Int} {a3 : Int} {a4 : Int} {a5 : Int} {a6 : Int} (hsk : m_Sk X) (hd : 2 ≤ d) (hG : m_G d yX6_rows.cls yX6_rows.name cX6_rows 7 n0 s0 nF sF Ω) {out : ((NN × Int × Int × Int × Int × Int × Int) ⊕ (NN × Int × Int × Int × Int × Int))} (hK0 : ∀ s' : (NN × Int × Int × Int × Int × Int × Int), out = .inl s' → Ω 57 ([some (.inr (.inr 58)), some (.inl (s'.2.1)), some (.inl (s'.2.2.1)), some (.inl (s'.2.2.2.1)), some (.inl (s'.2.2.2.2.1)), some (.inl (s'.2.2.2.2.2.1)), some (.inl (s'.2.2.2.2.2.2))], [], s'.1, X)) (hK1 : ∀ t : (NN × Int × Int × Int × Int × Int), out = .inr t → Ω 103 ([some (.inr (.inr 58)), some (.inl t.2.1), some (.inl t.2.2.1), some (.inl t.2.2.2.1), some (.inl t.2.2.2.2.1), some (.inl t.2.2.2.2.2), none], [], t.1, X)) (hF : b_X6_rows_57 X N a1 a2 a3 a4 a5 a6 = some out) : Ω 57 ([some (.inr (.inr 58)), some (.inl a1), some (.inl a2), some (.inl a3), some (.inl a4), some (.inl a5), some (.inl a6)], [], N, X) := by
  unfold b_X6_rows_57 at hF
  refine s_iload hG dX6_rows_57 rfl ?_
  refine s_iload hG dX6_rows_59 rfl ?_
  refine s_icmp_gt hG 103 dX6_rows_61 (by decide) (fun c7 => ?_) (fun c7 => ?_)
  · replace hF := Eq.trans (if_pos c7).symm hF
    cases hF
    refine m_weak (ls1 := [some (.inr (.inr 58)), some (.inl a1), some (.inl a2), some (.inl a3), some (.inl a4), some (.inl a5), none]) hG ⟨rfl, ⟨rfl, ⟨rfl, ⟨rfl, ⟨rfl, ⟨rfl, trivial⟩⟩⟩⟩⟩⟩ ?_
    exact hK1 _ rfl
  · replace hF := Eq.trans (if_neg c7).symm hF
    refine s_iload hG dX6_rows_64 rfl ?_
    refine s_iload hG dX6_rows_66 rfl ?_
    refine s_iload hG dX6_rows_68 rfl ?_
    obtain ⟨o4, ho4, hF⟩ := bd_some hF
    refine s_callS (d' := d - 1) (args := [.inl a4, .inl a6]) hG (by omega) dX6_rows_70 cs_RX6_86 cw_X6_chosen rfl (Nat.le_of_ble_eq_true rfl) rfl (t_X6_chosen hsk (by omega) ho4) ?_
    refine s_aload_n hG dX6_rows_73 rfl ?_
    refine s_getr (r := 62) hG dX6_rows_74 fl_RX6_22 (sk_k hsk 58 rfl) rfl (sk_R hsk 58 4 rfl) ?_
    refine s_iload hG dX6_rows_77 rfl ?_
    refine s_iload hG dX6_rows_79 rfl ?_
    refine s_isub hG dX6_rows_81 ?_
    obtain ⟨g5, hF⟩ := gd_some hF
    refine s_ialdj (j := (m_w (a4 - a6)).toNat) hG dX6_rows_82 (sk_K hsk 62 rfl) g5 rfl ?_
    refine s_imul hG dX6_rows_83 ?_
    refine s_aload_n hG dX6_rows_84 rfl ?_
    refine s_getr (r := 60) hG dX6_rows_85 fl_RX6_15 (sk_k hsk 58 rfl) rfl (sk_R hsk 58 2 rfl) ?_
    refine s_iload_n hG dX6_rows_88 rfl ?_
    refine s_iload hG dX6_rows_89 rfl ?_
    refine s_iadd hG dX6_rows_91 ?_
    obtain ⟨g6, hF⟩ := gd_some hF
    refine s_ialdj (j := (m_w (a3 + a6)).toNat) hG dX6_rows_92 (sk_K hsk 60 rfl) g6 rfl ?_
    refine s_imul hG dX6_rows_93 ?_
    refine s_iadd hG dX6_rows_94 ?_
    refine s_istore hG dX6_rows_95 (by decide) rfl ?_
    refine s_iinc hG dX6_rows_97 (by decide) rfl rfl ?_
    refine s_goto hG 57 dX6_rows_100 (by decide) ?_
    cases hF
    exact hK0 _ rfl
theorem t_X6_rows_lp57 {d n0 s0 nF sF : Nat} {X : MX} {Ω : Nat → MS → Prop} {N : NN} {a1 : Int} {a2 : Int} {a3 : Int} {a4 : Int} {a5 : Int} {a6 : Int} (hsk : m_Sk X) (hd : 2 ≤ d) (hG : m_G d yX6_rows.cls yX6_rows.name cX6_rows 7 n0 s0 nF sF Ω) {t : (NN × Int × Int × Int × Int × Int)} (hK1 : Ω 103 ([some (.inr (.inr 58)), some (.inl t.2.1), some (.inl t.2.2.1), some (.inl t.2.2.2.1), some (.inl t.2.2.2.2.1), some (.inl t.2.2.2.2.2), none], [], t.1, X)) (hl : lp (fun s => b_X6_rows_57 X s.1 s.2.1 s.2.2.1 s.2.2.2.1 s.2.2.2.2.1 s.2.2.2.2.2.1 s.2.2.2.2.2.2) (N, a1, a2, a3, a4, a5, a6) = some t) : Ω 57 ([some (.inr (.inr 58)), some (.inl a1), some (.inl a2), some (.inl a3), some (.inl a4), some (.inl a5), some (.inl a6)], [], N, X) := by
  refine lp_ok (P := fun s => Ω 57 ([some (.inr (.inr 58)), some (.inl s.2.1), some (.inl s.2.2.1), some (.inl s.2.2.2.1), some (.inl s.2.2.2.2.1), some (.inl s.2.2.2.2.2.1), some (.inl s.2.2.2.2.2.2)], [], s.1, X)) (K := fun t => Ω 103 ([some (.inr (.inr 58)), some (.inl t.2.1), some (.inl t.2.2.1), some (.inl t.2.2.2.1), some (.inl t.2.2.2.2.1), some (.inl t.2.2.2.2.2), none], [], t.1, X)) (fun s out hF hK0 hK1 => ?_) hl hK1
  exact t_X6_rows_b57 hsk hd hG (out := out) (fun s' e => hK0 s' e) (fun t' e => hK1 t' e) hF
theorem t_X6_rows_b46 {d n0 s0 nF sF : Nat} {X : MX} {Ω : Nat → MS → Prop} {N : NN} {a1 : Int} {a2 : Int} {a3 : Int} {a4 : Int} (hsk : m_Sk X) (hd : 2 ≤ d) (hG : m_G d yX6_rows.cls yX6_rows.name cX6_rows 7 n0 s0 nF sF Ω) {out : ((NN × Int × Int × Int × Int) ⊕ (NN × Int × Int))} (hK0 : ∀ s' : (NN × Int × Int × Int × Int), out = .inl s' → Ω 46 ([some (.inr (.inr 58)), some (.inl (s'.2.1)), some (.inl (s'.2.2.1)), some (.inl (s'.2.2.2.1)), some (.inl (s'.2.2.2.2)), none, none], [], s'.1, X)) (hK1 : ∀ t : (NN × Int × Int), out = .inr t → Ω 118 ([some (.inr (.inr 58)), some (.inl t.2.1), some (.inl t.2.2), none, none, none, none], [], t.1, X)) (hF : b_X6_rows_46 X N a1 a2 a3 a4 = some out) : Ω 46 ([some (.inr (.inr 58)), some (.inl a1), some (.inl a2), some (.inl a3), some (.inl a4), none, none], [], N, X) := by
  unfold b_X6_rows_46 at hF
  refine s_iload hG dX6_rows_46 rfl ?_
  refine s_if_lt hG 118 dX6_rows_48 (by decide) (fun c11 => ?_) (fun c11 => ?_)
  · replace hF := Eq.trans (if_pos c11).symm hF
    cases hF
    refine m_weak (ls1 := [some (.inr (.inr 58)), some (.inl a1), some (.inl a2), none, none, none, none]) hG ⟨rfl, ⟨rfl, ⟨rfl, trivial⟩⟩⟩ ?_
    exact hK1 _ rfl
  · replace hF := Eq.trans (if_neg c11).symm hF
    refine s_iconst hG dX6_rows_51 ⟨by decide, by decide⟩ ?_
    refine s_istore hG dX6_rows_52 (by decide) rfl ?_
    refine s_iconst hG dX6_rows_54 ⟨by decide, by decide⟩ ?_
    refine s_istore hG dX6_rows_55 (by decide) rfl ?_
    obtain ⟨o8, hlo8, hF⟩ := bd_some hF
    refine t_X6_rows_lp57 hsk hd hG ?_ hlo8
    refine s_aload_n hG dX6_rows_103 rfl ?_
    refine s_getr (r := 62) hG dX6_rows_104 fl_RX6_22 (sk_k hsk 58 rfl) rfl (sk_R hsk 58 4 rfl) ?_
    refine s_iload hG dX6_rows_107 rfl ?_
    refine s_iload hG dX6_rows_109 rfl ?_
    obtain ⟨g9, hF⟩ := gd_some hF
    refine s_iastj (j := o8.2.2.2.2.1.toNat) hG dX6_rows_111 (sk_K hsk 62 rfl) g9 rfl ?_
    refine s_iinc hG dX6_rows_112 (by decide) rfl rfl ?_
    refine s_goto hG 46 dX6_rows_115 (by decide) ?_
    cases hF
    refine m_weak (ls1 := [some (.inr (.inr 58)), some (.inl o8.2.1), some (.inl o8.2.2.1), some (.inl o8.2.2.2.1), some (.inl (m_w (o8.2.2.2.2.1 + (-1)))), none, none]) hG ⟨rfl, ⟨rfl, ⟨rfl, ⟨rfl, ⟨rfl, trivial⟩⟩⟩⟩⟩ ?_
    exact hK0 _ rfl
theorem t_X6_rows_lp46 {d n0 s0 nF sF : Nat} {X : MX} {Ω : Nat → MS → Prop} {N : NN} {a1 : Int} {a2 : Int} {a3 : Int} {a4 : Int} (hsk : m_Sk X) (hd : 2 ≤ d) (hG : m_G d yX6_rows.cls yX6_rows.name cX6_rows 7 n0 s0 nF sF Ω) {t : (NN × Int × Int)} (hK1 : Ω 118 ([some (.inr (.inr 58)), some (.inl t.2.1), some (.inl t.2.2), none, none, none, none], [], t.1, X)) (hl : lp (fun s => b_X6_rows_46 X s.1 s.2.1 s.2.2.1 s.2.2.2.1 s.2.2.2.2) (N, a1, a2, a3, a4) = some t) : Ω 46 ([some (.inr (.inr 58)), some (.inl a1), some (.inl a2), some (.inl a3), some (.inl a4), none, none], [], N, X) := by
  refine lp_ok (P := fun s => Ω 46 ([some (.inr (.inr 58)), some (.inl s.2.1), some (.inl s.2.2.1), some (.inl s.2.2.2.1), some (.inl s.2.2.2.2), none, none], [], s.1, X)) (K := fun t => Ω 118 ([some (.inr (.inr 58)), some (.inl t.2.1), some (.inl t.2.2), none, none, none, none], [], t.1, X)) (fun s out hF hK0 hK1 => ?_) hl hK1
  exact t_X6_rows_b46 hsk hd hG (out := out) (fun s' e => hK0 s' e) (fun t' e => hK1 t' e) hF
theorem t_X6_rows_b17 {d n0 s0 nF sF : Nat} {X : MX} {Ω : Nat → MS → Prop} {N : NN} {a1 : Int} {a2 : Int} (hsk : m_Sk X) (hd : 2 ≤ d) (hG : m_G d yX6_rows.cls yX6_rows.name cX6_rows 7 n0 s0 nF sF Ω) {out : ((NN × Int × Int) ⊕ (NN × Int))} (hK0 : ∀ s' : (NN × Int × Int), out = .inl s' → Ω 17 ([some (.inr (.inr 58)), some (.inl (s'.2.1)), some (.inl (s'.2.2)), none, none, none, none], [], s'.1, X)) (hK1 : ∀ t : (NN × Int), out = .inr t → Ω 124 ([some (.inr (.inr 58)), some (.inl t.2), none, none, none, none, none], [], t.1, X)) (hF : b_X6_rows_17 X N a1 a2 = some out) : Ω 17 ([some (.inr (.inr 58)), some (.inl a1), some (.inl a2), none, none, none, none], [], N, X) := by
  unfold b_X6_rows_17 at hF
  refine s_iload_n hG dX6_rows_17 rfl ?_
  refine s_aload_n hG dX6_rows_18 rfl ?_
  refine s_geti hG dX6_rows_19 fl_RX6_29 (sk_k hsk 58 rfl) rfl ?_
  refine s_icmp_ge hG 124 dX6_rows_22 (by decide) (fun c13 => ?_) (fun c13 => ?_)
  · replace hF := Eq.trans (if_pos c13).symm hF
    refine s_iload_n hG dX6_rows_25 rfl ?_
    refine s_bipush hG dX6_rows_26 bp_6 ⟨by decide, by decide⟩ ?_
    refine s_imul hG dX6_rows_28 ?_
    refine s_aload_n hG dX6_rows_29 rfl ?_
    refine s_getr (r := 61) hG dX6_rows_30 fl_RX6_19 (sk_k hsk 58 rfl) rfl (sk_R hsk 58 3 rfl) ?_
    refine s_iload_n hG dX6_rows_33 rfl ?_
    obtain ⟨g3, hF⟩ := gd_some hF
    refine s_ialdj (j := a2.toNat) hG dX6_rows_34 (sk_K hsk 61 rfl) g3 rfl ?_
    refine s_iadd hG dX6_rows_35 ?_
    refine s_iconst hG dX6_rows_36 ⟨by decide, by decide⟩ ?_
    refine s_imul hG dX6_rows_37 ?_
    refine s_istore_n hG dX6_rows_38 (by decide) rfl ?_
    refine s_iload_n hG dX6_rows_39 rfl ?_
    refine s_iconst hG dX6_rows_40 ⟨by decide, by decide⟩ ?_
    refine s_min hG (by omega) dX6_rows_41 ml_RX6_48 lk_min_s lk_math lk_min_c (Nat.le_of_ble_eq_true rfl) ?_
    refine s_istore hG dX6_rows_44 (by decide) rfl ?_
    obtain ⟨o12, hlo12, hF⟩ := bd_some hF
    refine t_X6_rows_lp46 hsk hd hG ?_ hlo12
    refine s_iinc hG dX6_rows_118 (by decide) rfl rfl ?_
    refine s_goto hG 17 dX6_rows_121 (by decide) ?_
    cases hF
    exact hK0 _ rfl
  · replace hF := Eq.trans (if_neg c13).symm hF
    cases hF
    refine m_weak (ls1 := [some (.inr (.inr 58)), some (.inl a1), none, none, none, none, none]) hG ⟨rfl, ⟨rfl, trivial⟩⟩ ?_
    exact hK1 _ rfl
theorem t_X6_rows_lp17 {d n0 s0 nF sF : Nat} {X : MX} {Ω : Nat → MS → Prop} {N : NN} {a1 : Int} {a2 : Int} (hsk : m_Sk X) (hd : 2 ≤ d) (hG : m_G d yX6_rows.cls yX6_rows.name cX6_rows 7 n0 s0 nF sF Ω) {t : (NN × Int)} (hK1 : Ω 124 ([some (.inr (.inr 58)), some (.inl t.2), none, none, none, none, none], [], t.1, X)) (hl : lp (fun s => b_X6_rows_17 X s.1 s.2.1 s.2.2) (N, a1, a2) = some t) : Ω 17 ([some (.inr (.inr 58)), some (.inl a1), some (.inl a2), none, none, none, none], [], N, X) := by
  refine lp_ok (P := fun s => Ω 17 ([some (.inr (.inr 58)), some (.inl s.2.1), some (.inl s.2.2), none, none, none, none], [], s.1, X)) (K := fun t => Ω 124 ([some (.inr (.inr 58)), some (.inl t.2), none, none, none, none, none], [], t.1, X)) (fun s out hF hK0 hK1 => ?_) hl hK1
  exact t_X6_rows_b17 hsk hd hG (out := out) (fun s' e => hK0 s' e) (fun t' e => hK1 t' e) hF
theorem t_X6_rows_j143 {d n0 s0 nF sF : Nat} {X : MX} {Ω : Nat → MS → Prop} {N : NN} {z0 : Int} (hsk : m_Sk X) (hd : 2 ≤ d) (hG : m_G d yX6_rows.cls yX6_rows.name cX6_rows 7 n0 s0 nF sF Ω) {out : (Int × NN)} (hE : m_Gd d yX6_rows cX6_rows 7 (some .int) X (some (.inl out.1)) out.2 X Ω) (hF : f_X6_rows_j143 X N z0 = some out) : Ω 143 ([none, none, none, none, none, none, none], [(.inl z0)], N, X) := by
  unfold f_X6_rows_j143 at hF
  cases hF
  exact s_iret hE dX6_rows_143 rfl
theorem t_X6_rows_j142 {d n0 s0 nF sF : Nat} {X : MX} {Ω : Nat → MS → Prop} {N : NN} (hsk : m_Sk X) (hd : 2 ≤ d) (hG : m_G d yX6_rows.cls yX6_rows.name cX6_rows 7 n0 s0 nF sF Ω) {out : (Int × NN)} (hE : m_Gd d yX6_rows cX6_rows 7 (some .int) X (some (.inl out.1)) out.2 X Ω) (hF : f_X6_rows_j142 X N = some out) : Ω 142 ([none, none, none, none, none, none, none], [], N, X) := by
  unfold f_X6_rows_j142 at hF
  refine s_iconst hG dX6_rows_142 ⟨by decide, by decide⟩ ?_
  exact t_X6_rows_j143 hsk hd hG hE hF
theorem t_X6_rows {d : Nat} {X : MX} {N : NN} {a1 : Int} {out : (Int × NN)} (hsk : m_Sk X) (hd : 2 ≤ d) (hF : f_X6_rows X N a1 = some out) : m_Call d yX6_rows cX6_rows 7 (some .int) [(.inr (.inr 58)), (.inl a1)] N X (some (.inl out.1)) out.2 X := by
  refine m_mk (ls0 := [some (.inr (.inr 58)), some (.inl a1), none, none, none, none, none]) (by decide) rfl (Nat.le_of_ble_eq_true rfl) (Nat.le_refl _) (Nat.le_refl _) (fun Ω hE => ?_)
  have hG := hE.G
  unfold f_X6_rows at hF
  refine s_aload_n hG dX6_rows_0 rfl ?_
  refine s_getr (r := 62) hG dX6_rows_1 fl_RX6_22 (sk_k hsk 58 rfl) rfl (sk_R hsk 58 4 rfl) ?_
  refine s_iconst hG dX6_rows_4 ⟨by decide, by decide⟩ ?_
  obtain ⟨o1, ho1, hF⟩ := bd_some hF
  refine s_callS (d' := d - 1) (args := [.inr (.inr 62), .inl 0]) hG (by omega) dX6_rows_5 cs_RX6_80 cw_J7_fill_53178 rfl (Nat.le_of_ble_eq_true rfl) rfl (t_J7_fill_53178 hsk (by omega) (m_k1f (sk_K hsk 62 rfl)) ho1) ?_
  refine s_aload_n hG dX6_rows_8 rfl ?_
  refine s_getr (r := 62) hG dX6_rows_9 fl_RX6_22 (sk_k hsk 58 rfl) rfl (sk_R hsk 58 4 rfl) ?_
  refine s_iconst hG dX6_rows_12 ⟨by decide, by decide⟩ ?_
  refine s_iconst hG dX6_rows_13 ⟨by decide, by decide⟩ ?_
  refine s_iastj (j := 0) hG dX6_rows_14 (sk_K hsk 62 rfl) ⟨by decide, by decide⟩ rfl ?_
  refine s_iconst hG dX6_rows_15 ⟨by decide, by decide⟩ ?_
  refine s_istore_n hG dX6_rows_16 (by decide) rfl ?_
  obtain ⟨o14, hlo14, hF⟩ := bd_some hF
  refine t_X6_rows_lp17 hsk hd hG ?_ hlo14
  refine s_iload_n hG dX6_rows_124 rfl ?_
  refine s_if_lt hG 142 dX6_rows_125 (by decide) (fun c17 => ?_) (fun c17 => ?_)
  · replace hF := Eq.trans (if_pos c17).symm hF
    refine m_weak (ls1 := [none, none, none, none, none, none, none]) hG trivial ?_
    exact t_X6_rows_j142 hsk hd hG hE hF
  · replace hF := Eq.trans (if_neg c17).symm hF
    refine s_iload_n hG dX6_rows_128 rfl ?_
    refine s_iconst hG dX6_rows_129 ⟨by decide, by decide⟩ ?_
    refine s_icmp_ge hG 142 dX6_rows_130 (by decide) (fun c16 => ?_) (fun c16 => ?_)
    · replace hF := Eq.trans (if_pos c16).symm hF
      refine s_aload_n hG dX6_rows_133 rfl ?_
      refine s_getr (r := 62) hG dX6_rows_134 fl_RX6_22 (sk_k hsk 58 rfl) rfl (sk_R hsk 58 4 rfl) ?_
      refine s_iload_n hG dX6_rows_137 rfl ?_
      obtain ⟨g15, hF⟩ := gd_some hF
      refine s_ialdj (j := o14.2.toNat) hG dX6_rows_138 (sk_K hsk 62 rfl) g15 rfl ?_
      refine s_goto hG 143 dX6_rows_139 (by decide) ?_
      refine m_weak (ls1 := [none, none, none, none, none, none, none]) hG trivial ?_
      exact t_X6_rows_j143 hsk hd hG hE hF
    · replace hF := Eq.trans (if_neg c16).symm hF
      refine m_weak (ls1 := [none, none, none, none, none, none, none]) hG trivial ?_
      exact t_X6_rows_j142 hsk hd hG hE hF
-- X6_takeFirst
theorem t_X6_takeFirst_l20_j78 {d n0 s0 nF sF : Nat} {X : MX} {Ω : Nat → MS → Prop} {N : NN} {a1 : Int} {a2 : Int} {a3 : Int} {a4 : Int} (hsk : m_Sk X) (hd : 3 ≤ d) (hG : m_G d yX6_takeFirst.cls yX6_takeFirst.name cX6_takeFirst 5 n0 s0 nF sF Ω) {out : ((NN × Int × Int × Int × Int) ⊕ ((NN × Int × Int × Int) ⊕ (NN × Int × Int)))} (hK0 : ∀ s' : (NN × Int × Int × Int × Int), out = .inl s' → Ω 20 ([some (.inr (.inr 58)), some (.inl (s'.2.1)), some (.inl (s'.2.2.1)), some (.inl (s'.2.2.2.1)), some (.inl (s'.2.2.2.2))], [], s'.1, X)) (hK1 : ∀ t : ((NN × Int × Int × Int) ⊕ (NN × Int × Int)), out = .inr t → match t with | .inl e => Ω 84 ([some (.inr (.inr 58)), some (.inl e.2.1), some (.inl e.2.2.1), some (.inl e.2.2.2), none], [], e.1, X) | .inr e => Ω 65 ([some (.inr (.inr 58)), none, some (.inl e.2.1), none, some (.inl e.2.2)], [], e.1, X)) (hF : f_X6_takeFirst_l20_j78 X N a1 a2 a3 a4 = some out) : Ω 78 ([some (.inr (.inr 58)), some (.inl a1), some (.inl a2), some (.inl a3), some (.inl a4)], [], N, X) := by
  unfold f_X6_takeFirst_l20_j78 at hF
  refine s_iinc hG dX6_takeFirst_78 (by decide) rfl rfl ?_
  refine s_goto hG 20 dX6_takeFirst_81 (by decide) ?_
  cases hF
  exact hK0 _ rfl
theorem t_X6_takeFirst_b20 {d n0 s0 nF sF : Nat} {X : MX} {Ω : Nat → MS → Prop} {N : NN} {a1 : Int} {a2 : Int} {a3 : Int} {a4 : Int} (hsk : m_Sk X) (hd : 3 ≤ d) (hG : m_G d yX6_takeFirst.cls yX6_takeFirst.name cX6_takeFirst 5 n0 s0 nF sF Ω) {out : ((NN × Int × Int × Int × Int) ⊕ ((NN × Int × Int × Int) ⊕ (NN × Int × Int)))} (hK0 : ∀ s' : (NN × Int × Int × Int × Int), out = .inl s' → Ω 20 ([some (.inr (.inr 58)), some (.inl (s'.2.1)), some (.inl (s'.2.2.1)), some (.inl (s'.2.2.2.1)), some (.inl (s'.2.2.2.2))], [], s'.1, X)) (hK1 : ∀ t : ((NN × Int × Int × Int) ⊕ (NN × Int × Int)), out = .inr t → match t with | .inl e => Ω 84 ([some (.inr (.inr 58)), some (.inl e.2.1), some (.inl e.2.2.1), some (.inl e.2.2.2), none], [], e.1, X) | .inr e => Ω 65 ([some (.inr (.inr 58)), none, some (.inl e.2.1), none, some (.inl e.2.2)], [], e.1, X)) (hF : b_X6_takeFirst_20 X N a1 a2 a3 a4 = some out) : Ω 20 ([some (.inr (.inr 58)), some (.inl a1), some (.inl a2), some (.inl a3), some (.inl a4)], [], N, X) := by
  unfold b_X6_takeFirst_20 at hF
  refine s_iload hG dX6_takeFirst_20 rfl ?_
  refine s_aload_n hG dX6_takeFirst_22 rfl ?_
  refine s_geti hG dX6_takeFirst_23 fl_RX6_25 (sk_k hsk 58 rfl) rfl ?_
  refine s_icmp_ge hG 84 dX6_takeFirst_26 (by decide) (fun c8 => ?_) (fun c8 => ?_)
  · replace hF := Eq.trans (if_pos c8).symm hF
    refine s_aload_n hG dX6_takeFirst_29 rfl ?_
    refine s_getr (r := 59) hG dX6_takeFirst_30 fl_RX6_11 (sk_k hsk 58 rfl) rfl (sk_R hsk 58 1 rfl) ?_
    refine s_iload_n hG dX6_takeFirst_33 rfl ?_
    refine s_bipush hG dX6_takeFirst_34 bp_36 ⟨by decide, by decide⟩ ?_
    refine s_imul hG dX6_takeFirst_36 ?_
    refine s_iload_n hG dX6_takeFirst_37 rfl ?_
    refine s_bipush hG dX6_takeFirst_38 bp_6 ⟨by decide, by decide⟩ ?_
    refine s_imul hG dX6_takeFirst_40 ?_
    refine s_iadd hG dX6_takeFirst_41 ?_
    refine s_iload hG dX6_takeFirst_42 rfl ?_
    refine s_iadd hG dX6_takeFirst_44 ?_
    obtain ⟨g2, hF⟩ := gd_some hF
    refine s_zaldj (j := (m_w ((m_w ((m_w (a2 * 36)) + (m_w (a3 * 6)))) + a4)).toNat) hG dX6_takeFirst_45 (sk_K hsk 59 rfl) g2 rfl ?_
    refine s_if_eq hG 78 dX6_takeFirst_46 (by decide) (fun c7 => ?_) (fun c7 => ?_)
    · replace hF := Eq.trans (if_pos c7).symm hF
      exact t_X6_takeFirst_l20_j78 hsk hd hG hK0 hK1 hF
    · replace hF := Eq.trans (if_neg c7).symm hF
      refine s_aload_n hG dX6_takeFirst_49 rfl ?_
      refine s_getr (r := 61) hG dX6_takeFirst_50 fl_RX6_19 (sk_k hsk 58 rfl) rfl (sk_R hsk 58 3 rfl) ?_
      refine s_iload_n hG dX6_takeFirst_53 rfl ?_
      refine s_iload hG dX6_takeFirst_54 rfl ?_
      obtain ⟨g3, hF⟩ := gd_some hF
      refine s_iastj (j := a2.toNat) hG dX6_takeFirst_56 (sk_K hsk 61 rfl) g3 rfl ?_
      refine s_aload_n hG dX6_takeFirst_57 rfl ?_
      refine s_iload_n hG dX6_takeFirst_58 rfl ?_
      obtain ⟨o5, ho5, hF⟩ := bd_some hF
      refine s_callV (d' := d - 1) (ci := 6) (args := [.inl a1]) hG (by omega) dX6_takeFirst_59 cv_RX6_61 cw_X6_rows rfl rfl (sk_k hsk 58 rfl) (Nat.le_of_ble_eq_true rfl) rfl (t_X6_rows hsk (by omega) ho5) ?_
      refine s_if_le hG 78 dX6_takeFirst_62 (by decide) (fun c6 => ?_) (fun c6 => ?_)
      · replace hF := Eq.trans (if_pos c6).symm hF
        cases hF
        refine m_weak (ls1 := [some (.inr (.inr 58)), none, some (.inl a2), none, some (.inl a4)]) hG ⟨rfl, ⟨rfl, ⟨rfl, trivial⟩⟩⟩ ?_
        exact hK1 _ rfl
      · replace hF := Eq.trans (if_neg c6).symm hF
        exact t_X6_takeFirst_l20_j78 hsk hd hG hK0 hK1 hF
  · replace hF := Eq.trans (if_neg c8).symm hF
    cases hF
    refine m_weak (ls1 := [some (.inr (.inr 58)), some (.inl a1), some (.inl a2), some (.inl a3), none]) hG ⟨rfl, ⟨rfl, ⟨rfl, ⟨rfl, trivial⟩⟩⟩⟩ ?_
    exact hK1 _ rfl
theorem t_X6_takeFirst_lp20 {d n0 s0 nF sF : Nat} {X : MX} {Ω : Nat → MS → Prop} {N : NN} {a1 : Int} {a2 : Int} {a3 : Int} {a4 : Int} (hsk : m_Sk X) (hd : 3 ≤ d) (hG : m_G d yX6_takeFirst.cls yX6_takeFirst.name cX6_takeFirst 5 n0 s0 nF sF Ω) {t : ((NN × Int × Int × Int) ⊕ (NN × Int × Int))} (hK1 : match t with | .inl e => Ω 84 ([some (.inr (.inr 58)), some (.inl e.2.1), some (.inl e.2.2.1), some (.inl e.2.2.2), none], [], e.1, X) | .inr e => Ω 65 ([some (.inr (.inr 58)), none, some (.inl e.2.1), none, some (.inl e.2.2)], [], e.1, X)) (hl : lp (fun s => b_X6_takeFirst_20 X s.1 s.2.1 s.2.2.1 s.2.2.2.1 s.2.2.2.2) (N, a1, a2, a3, a4) = some t) : Ω 20 ([some (.inr (.inr 58)), some (.inl a1), some (.inl a2), some (.inl a3), some (.inl a4)], [], N, X) := by
  refine lp_ok (P := fun s => Ω 20 ([some (.inr (.inr 58)), some (.inl s.2.1), some (.inl s.2.2.1), some (.inl s.2.2.2.1), some (.inl s.2.2.2.2)], [], s.1, X)) (K := fun t => match t with | .inl e => Ω 84 ([some (.inr (.inr 58)), some (.inl e.2.1), some (.inl e.2.2.1), some (.inl e.2.2.2), none], [], e.1, X) | .inr e => Ω 65 ([some (.inr (.inr 58)), none, some (.inl e.2.1), none, some (.inl e.2.2)], [], e.1, X)) (fun s out hF hK0 hK1 => ?_) hl hK1
  exact t_X6_takeFirst_b20 hsk hd hG (out := out) (fun s' e => hK0 s' e) (fun t' e => hK1 t' e) hF
theorem t_X6_takeFirst_b2 {d n0 s0 nF sF : Nat} {X : MX} {Ω : Nat → MS → Prop} {N : NN} {a1 : Int} {a2 : Int} (hsk : m_Sk X) (hd : 3 ≤ d) (hG : m_G d yX6_takeFirst.cls yX6_takeFirst.name cX6_takeFirst 5 n0 s0 nF sF Ω) {out : ((NN × Int × Int) ⊕ (NN ⊕ (NN × Int × Int)))} (hK0 : ∀ s' : (NN × Int × Int), out = .inl s' → Ω 2 ([some (.inr (.inr 58)), some (.inl (s'.2.1)), some (.inl (s'.2.2)), none, none], [], s'.1, X)) (hK1 : ∀ t : (NN ⊕ (NN × Int × Int)), out = .inr t → match t with | .inl e => Ω 97 ([none, none, none, none, none], [], e, X) | .inr e => Ω 65 ([some (.inr (.inr 58)), none, some (.inl e.2.1), none, some (.inl e.2.2)], [], e.1, X)) (hF : b_X6_takeFirst_2 X N a1 a2 = some out) : Ω 2 ([some (.inr (.inr 58)), some (.inl a1), some (.inl a2), none, none], [], N, X) := by
  unfold b_X6_takeFirst_2 at hF
  refine s_iload_n hG dX6_takeFirst_2 rfl ?_
  refine s_aload_n hG dX6_takeFirst_3 rfl ?_
  refine s_geti hG dX6_takeFirst_4 fl_RX6_29 (sk_k hsk 58 rfl) rfl ?_
  refine s_icmp_ge hG 97 dX6_takeFirst_7 (by decide) (fun c12 => ?_) (fun c12 => ?_)
  · replace hF := Eq.trans (if_pos c12).symm hF
    refine s_aload_n hG dX6_takeFirst_10 rfl ?_
    refine s_getr (r := 61) hG dX6_takeFirst_11 fl_RX6_19 (sk_k hsk 58 rfl) rfl (sk_R hsk 58 3 rfl) ?_
    refine s_iload_n hG dX6_takeFirst_14 rfl ?_
    obtain ⟨g1, hF⟩ := gd_some hF
    refine s_ialdj (j := a2.toNat) hG dX6_takeFirst_15 (sk_K hsk 61 rfl) g1 rfl ?_
    refine s_istore_n hG dX6_takeFirst_16 (by decide) rfl ?_
    refine s_iconst hG dX6_takeFirst_17 ⟨by decide, by decide⟩ ?_
    refine s_istore hG dX6_takeFirst_18 (by decide) rfl ?_
    obtain ⟨o9, hlo9, hF⟩ := bd_some hF
    refine t_X6_takeFirst_lp20 hsk hd hG ?_ hlo9
    match o9, hF with
    | .inl e9, hF =>
          try dsimp only at hF
          refine s_aload_n hG dX6_takeFirst_84 rfl ?_
          refine s_getr (r := 61) hG dX6_takeFirst_85 fl_RX6_19 (sk_k hsk 58 rfl) rfl (sk_R hsk 58 3 rfl) ?_
          refine s_iload_n hG dX6_takeFirst_88 rfl ?_
          refine s_iload_n hG dX6_takeFirst_89 rfl ?_
          obtain ⟨g10, hF⟩ := gd_some hF
          refine s_iastj (j := e9.2.2.1.toNat) hG dX6_takeFirst_90 (sk_K hsk 61 rfl) g10 rfl ?_
          refine s_iinc hG dX6_takeFirst_91 (by decide) rfl rfl ?_
          refine s_goto hG 2 dX6_takeFirst_94 (by decide) ?_
          cases hF
          refine m_weak (ls1 := [some (.inr (.inr 58)), some (.inl e9.2.1), some (.inl (m_w (e9.2.2.1 + 1))), none, none]) hG ⟨rfl, ⟨rfl, ⟨rfl, trivial⟩⟩⟩ ?_
          exact hK0 _ rfl
    | .inr e9, hF =>
          try dsimp only at hF
          cases hF
          exact hK1 _ rfl
  · replace hF := Eq.trans (if_neg c12).symm hF
    cases hF
    refine m_weak (ls1 := [none, none, none, none, none]) hG trivial ?_
    exact hK1 _ rfl
theorem t_X6_takeFirst_lp2 {d n0 s0 nF sF : Nat} {X : MX} {Ω : Nat → MS → Prop} {N : NN} {a1 : Int} {a2 : Int} (hsk : m_Sk X) (hd : 3 ≤ d) (hG : m_G d yX6_takeFirst.cls yX6_takeFirst.name cX6_takeFirst 5 n0 s0 nF sF Ω) {t : (NN ⊕ (NN × Int × Int))} (hK1 : match t with | .inl e => Ω 97 ([none, none, none, none, none], [], e, X) | .inr e => Ω 65 ([some (.inr (.inr 58)), none, some (.inl e.2.1), none, some (.inl e.2.2)], [], e.1, X)) (hl : lp (fun s => b_X6_takeFirst_2 X s.1 s.2.1 s.2.2) (N, a1, a2) = some t) : Ω 2 ([some (.inr (.inr 58)), some (.inl a1), some (.inl a2), none, none], [], N, X) := by
  refine lp_ok (P := fun s => Ω 2 ([some (.inr (.inr 58)), some (.inl s.2.1), some (.inl s.2.2), none, none], [], s.1, X)) (K := fun t => match t with | .inl e => Ω 97 ([none, none, none, none, none], [], e, X) | .inr e => Ω 65 ([some (.inr (.inr 58)), none, some (.inl e.2.1), none, some (.inl e.2.2)], [], e.1, X)) (fun s out hF hK0 hK1 => ?_) hl hK1
  exact t_X6_takeFirst_b2 hsk hd hG (out := out) (fun s' e => hK0 s' e) (fun t' e => hK1 t' e) hF
theorem t_X6_takeFirst {d : Nat} {X : MX} {N : NN} {a1 : Int} {out : (Int × NN)} (hsk : m_Sk X) (hd : 3 ≤ d) (hF : f_X6_takeFirst X N a1 = some out) : m_Call d yX6_takeFirst cX6_takeFirst 5 (some .boolean) [(.inr (.inr 58)), (.inl a1)] N X (some (.inl out.1)) out.2 X := by
  refine m_mk (ls0 := [some (.inr (.inr 58)), some (.inl a1), none, none, none]) (by decide) rfl (Nat.le_of_ble_eq_true rfl) (Nat.le_refl _) (Nat.le_refl _) (fun Ω hE => ?_)
  have hG := hE.G
  unfold f_X6_takeFirst at hF
  refine s_iconst hG dX6_takeFirst_0 ⟨by decide, by decide⟩ ?_
  refine s_istore_n hG dX6_takeFirst_1 (by decide) rfl ?_
  obtain ⟨o13, hlo13, hF⟩ := bd_some hF
  refine t_X6_takeFirst_lp2 hsk hd hG ?_ hlo13
  match o13, hF with
  | .inl e13, hF =>
        try dsimp only at hF
        refine s_iconst hG dX6_takeFirst_97 ⟨by decide, by decide⟩ ?_
        cases hF
        exact s_zret hE dX6_takeFirst_98 rfl ⟨by decide, by decide⟩
  | .inr e13, hF =>
        try dsimp only at hF
        refine s_aload_n hG dX6_takeFirst_65 rfl ?_
        refine s_iload_n hG dX6_takeFirst_66 rfl ?_
        refine s_puti hG dX6_takeFirst_67 fl_RX6_32 (fun h => by cases h) (sk_k hsk 58 rfl) rfl ?_
        refine s_aload_n hG dX6_takeFirst_70 rfl ?_
        refine s_iload hG dX6_takeFirst_71 rfl ?_
        refine s_puti hG dX6_takeFirst_73 fl_RX6_35 (fun h => by cases h) (sk_k hsk 58 rfl) rfl ?_
        refine s_iconst hG dX6_takeFirst_76 ⟨by decide, by decide⟩ ?_
        cases hF
        exact s_zret hE dX6_takeFirst_77 rfl ⟨by decide, by decide⟩
-- X6_answer
theorem t_X6_answer_b31 {d n0 s0 nF sF : Nat} {X : MX} {r1 : Nat} {Ω : Nat → MS → Prop} {N : NN} {a2 : Int} {a3 : Int} {a4 : Int} (hsk : m_Sk X) (hd : 5 ≤ d) (h1 : m_isW X r1) (hG : m_G d yX6_answer.cls yX6_answer.name cX6_answer 6 n0 s0 nF sF Ω) {out : ((NN × Int × Int × Int) ⊕ (NN × Int × Int))} (hK0 : ∀ s' : (NN × Int × Int × Int), out = .inl s' → Ω 31 ([some (.inr (.inr 58)), some (.inr (.inr r1)), some (.inl (s'.2.1)), some (.inl (s'.2.2.1)), some (.inl (s'.2.2.2)), none], [], s'.1, X)) (hK1 : ∀ t : (NN × Int × Int), out = .inr t → Ω 68 ([some (.inr (.inr 58)), none, some (.inl t.2.1), some (.inl t.2.2), none, none], [], t.1, X)) (hF : b_X6_answer_31 X r1 N a2 a3 a4 = some out) : Ω 31 ([some (.inr (.inr 58)), some (.inr (.inr r1)), some (.inl a2), some (.inl a3), some (.inl a4), none], [], N, X) := by
  unfold b_X6_answer_31 at hF
  refine s_iload hG dX6_answer_31 rfl ?_
  refine s_aload_n hG dX6_answer_33 rfl ?_
  refine s_geti hG dX6_answer_34 fl_RX6_29 (sk_k hsk 58 rfl) rfl ?_
  refine s_icmp_ge hG 68 dX6_answer_37 (by decide) (fun c9 => ?_) (fun c9 => ?_)
  · replace hF := Eq.trans (if_pos c9).symm hF
    refine s_aload_n hG dX6_answer_40 rfl ?_
    refine s_getr (r := 61) hG dX6_answer_41 fl_RX6_19 (sk_k hsk 58 rfl) rfl (sk_R hsk 58 3 rfl) ?_
    refine s_iload hG dX6_answer_44 rfl ?_
    refine s_aload_n hG dX6_answer_46 rfl ?_
    refine s_iload hG dX6_answer_47 rfl ?_
    refine s_iconst hG dX6_answer_49 ⟨by decide, by decide⟩ ?_
    obtain ⟨o5, ho5, hF⟩ := bd_some hF
    refine s_callV (d' := d - 1) (ci := 10) (args := [.inl a4, .inl 0]) hG (by omega) dX6_answer_50 cv_RX6_54 cw_X10_goodAt rfl rfl h1.1 (Nat.le_of_ble_eq_true rfl) rfl (t_X10_goodAt hsk (by omega) h1 ho5) ?_
    obtain ⟨g6, hF⟩ := gd_some hF
    refine s_iastj (j := a4.toNat) hG dX6_answer_53 (sk_K hsk 61 rfl) g6 rfl ?_
    refine s_aload_n hG dX6_answer_54 rfl ?_
    refine s_aload_n hG dX6_answer_55 rfl ?_
    refine s_iload hG dX6_answer_56 rfl ?_
    refine s_iload_n hG dX6_answer_58 rfl ?_
    obtain ⟨o8, ho8, hF⟩ := bd_some hF
    refine s_callV (d' := d - 1) (ci := 6) (args := [.inr (.inr r1), .inl a4, .inl a2]) hG (by omega) dX6_answer_59 cv_RX6_57 cw_X6_lookAt rfl rfl (sk_k hsk 58 rfl) (Nat.le_of_ble_eq_true rfl) rfl (t_X6_lookAt hsk (by omega) h1 ho8) ?_
    refine s_iinc hG dX6_answer_62 (by decide) rfl rfl ?_
    refine s_goto hG 31 dX6_answer_65 (by decide) ?_
    cases hF
    exact hK0 _ rfl
  · replace hF := Eq.trans (if_neg c9).symm hF
    cases hF
    refine m_weak (ls1 := [some (.inr (.inr 58)), none, some (.inl a2), some (.inl a3), none, none]) hG ⟨rfl, ⟨rfl, ⟨rfl, trivial⟩⟩⟩ ?_
    exact hK1 _ rfl
theorem t_X6_answer_lp31 {d n0 s0 nF sF : Nat} {X : MX} {r1 : Nat} {Ω : Nat → MS → Prop} {N : NN} {a2 : Int} {a3 : Int} {a4 : Int} (hsk : m_Sk X) (hd : 5 ≤ d) (h1 : m_isW X r1) (hG : m_G d yX6_answer.cls yX6_answer.name cX6_answer 6 n0 s0 nF sF Ω) {t : (NN × Int × Int)} (hK1 : Ω 68 ([some (.inr (.inr 58)), none, some (.inl t.2.1), some (.inl t.2.2), none, none], [], t.1, X)) (hl : lp (fun s => b_X6_answer_31 X r1 s.1 s.2.1 s.2.2.1 s.2.2.2) (N, a2, a3, a4) = some t) : Ω 31 ([some (.inr (.inr 58)), some (.inr (.inr r1)), some (.inl a2), some (.inl a3), some (.inl a4), none], [], N, X) := by
  refine lp_ok (P := fun s => Ω 31 ([some (.inr (.inr 58)), some (.inr (.inr r1)), some (.inl s.2.1), some (.inl s.2.2.1), some (.inl s.2.2.2), none], [], s.1, X)) (K := fun t => Ω 68 ([some (.inr (.inr 58)), none, some (.inl t.2.1), some (.inl t.2.2), none, none], [], t.1, X)) (fun s out hF hK0 hK1 => ?_) hl hK1
  exact t_X6_answer_b31 hsk hd h1 hG (out := out) (fun s' e => hK0 s' e) (fun t' e => hK1 t' e) hF
theorem t_X6_answer_b88 {d n0 s0 nF sF : Nat} {X : MX} {r1 : Nat} {Ω : Nat → MS → Prop} {N : NN} {a2 : Int} {a3 : Int} {a4 : Int} {a5 : Int} (hsk : m_Sk X) (hd : 5 ≤ d) (h1 : m_isW X r1) (hG : m_G d yX6_answer.cls yX6_answer.name cX6_answer 6 n0 s0 nF sF Ω) {out : ((NN × Int × Int × Int × Int) ⊕ ((NN × Int) ⊕ NN))} (hK0 : ∀ s' : (NN × Int × Int × Int × Int), out = .inl s' → Ω 88 ([some (.inr (.inr 58)), none, some (.inl (s'.2.1)), some (.inl (s'.2.2.1)), some (.inl (s'.2.2.2.1)), some (.inl (s'.2.2.2.2))], [], s'.1, X)) (hK1 : ∀ t : ((NN × Int) ⊕ NN), out = .inr t → match t with | .inl e => Ω 116 ([some (.inr (.inr 58)), none, none, some (.inl e.2), none, none], [], e.1, X) | .inr e => Ω 108 ([none, none, none, none, none, none], [], e, X)) (hF : b_X6_answer_88 X r1 N a2 a3 a4 a5 = some out) : Ω 88 ([some (.inr (.inr 58)), none, some (.inl a2), some (.inl a3), some (.inl a4), some (.inl a5)], [], N, X) := by
  unfold b_X6_answer_88 at hF
  refine s_iload hG dX6_answer_88 rfl ?_
  refine s_iload hG dX6_answer_90 rfl ?_
  refine s_icmp_gt hG 116 dX6_answer_92 (by decide) (fun c14 => ?_) (fun c14 => ?_)
  · replace hF := Eq.trans (if_pos c14).symm hF
    cases hF
    refine m_weak (ls1 := [some (.inr (.inr 58)), none, none, some (.inl a3), none, none]) hG ⟨rfl, ⟨rfl, trivial⟩⟩ ?_
    exact hK1 _ rfl
  · replace hF := Eq.trans (if_neg c14).symm hF
    refine s_aload_n hG dX6_answer_95 rfl ?_
    refine s_iload_n hG dX6_answer_96 rfl ?_
    refine s_iconst hG dX6_answer_97 ⟨by decide, by decide⟩ ?_
    refine s_isub hG dX6_answer_98 ?_
    refine s_iload hG dX6_answer_99 rfl ?_
    refine s_isub hG dX6_answer_101 ?_
    obtain ⟨o12, ho12, hF⟩ := bd_some hF
    refine s_callV (d' := d - 1) (ci := 6) (args := [.inl (m_w ((m_w (a2 - 1)) - a5))]) hG (by omega) dX6_answer_102 cv_RX6_64 cw_X6_takeFirst rfl rfl (sk_k hsk 58 rfl) (Nat.le_of_ble_eq_true rfl) rfl (t_X6_takeFirst hsk (by omega) ho12) ?_
    refine s_if_ne hG 110 dX6_answer_105 (by decide) (fun c13 => ?_) (fun c13 => ?_)
    · replace hF := Eq.trans (if_pos c13).symm hF
      cases hF
      refine m_weak (ls1 := [none, none, none, none, none, none]) hG trivial ?_
      exact hK1 _ rfl
    · replace hF := Eq.trans (if_neg c13).symm hF
      refine s_iinc hG dX6_answer_110 (by decide) rfl rfl ?_
      refine s_goto hG 88 dX6_answer_113 (by decide) ?_
      cases hF
      exact hK0 _ rfl
theorem t_X6_answer_lp88 {d n0 s0 nF sF : Nat} {X : MX} {r1 : Nat} {Ω : Nat → MS → Prop} {N : NN} {a2 : Int} {a3 : Int} {a4 : Int} {a5 : Int} (hsk : m_Sk X) (hd : 5 ≤ d) (h1 : m_isW X r1) (hG : m_G d yX6_answer.cls yX6_answer.name cX6_answer 6 n0 s0 nF sF Ω) {t : ((NN × Int) ⊕ NN)} (hK1 : match t with | .inl e => Ω 116 ([some (.inr (.inr 58)), none, none, some (.inl e.2), none, none], [], e.1, X) | .inr e => Ω 108 ([none, none, none, none, none, none], [], e, X)) (hl : lp (fun s => b_X6_answer_88 X r1 s.1 s.2.1 s.2.2.1 s.2.2.2.1 s.2.2.2.2) (N, a2, a3, a4, a5) = some t) : Ω 88 ([some (.inr (.inr 58)), none, some (.inl a2), some (.inl a3), some (.inl a4), some (.inl a5)], [], N, X) := by
  refine lp_ok (P := fun s => Ω 88 ([some (.inr (.inr 58)), none, some (.inl s.2.1), some (.inl s.2.2.1), some (.inl s.2.2.2.1), some (.inl s.2.2.2.2)], [], s.1, X)) (K := fun t => match t with | .inl e => Ω 116 ([some (.inr (.inr 58)), none, none, some (.inl e.2), none, none], [], e.1, X) | .inr e => Ω 108 ([none, none, none, none, none, none], [], e, X)) (fun s out hF hK0 hK1 => ?_) hl hK1
  exact t_X6_answer_b88 hsk hd h1 hG (out := out) (fun s' e => hK0 s' e) (fun t' e => hK1 t' e) hF
theorem t_X6_answer_j134 {d n0 s0 nF sF : Nat} {X : MX} {r1 : Nat} {Ω : Nat → MS → Prop} {N : NN} {z0 : Int} (hsk : m_Sk X) (hd : 5 ≤ d) (h1 : m_isW X r1) (hG : m_G d yX6_answer.cls yX6_answer.name cX6_answer 6 n0 s0 nF sF Ω) {out : (Int × NN)} (hE : m_Gd d yX6_answer cX6_answer 6 (some .int) X (some (.inl out.1)) out.2 X Ω) (hF : f_X6_answer_j134 X r1 N z0 = some out) : Ω 134 ([none, none, none, none, none, none], [(.inl z0)], N, X) := by
  unfold f_X6_answer_j134 at hF
  cases hF
  exact s_iret hE dX6_answer_134 rfl
theorem t_X6_answer {d : Nat} {X : MX} {r1 : Nat} {N : NN} {a2 : Int} {a3 : Int} {out : (Int × NN)} (hsk : m_Sk X) (hd : 5 ≤ d) (h1 : m_isW X r1) (hF : f_X6_answer X r1 N a2 a3 = some out) : m_Call d yX6_answer cX6_answer 6 (some .int) [(.inr (.inr 58)), (.inr (.inr r1)), (.inl a2), (.inl a3)] N X (some (.inl out.1)) out.2 X := by
  refine m_mk (ls0 := [some (.inr (.inr 58)), some (.inr (.inr r1)), some (.inl a2), some (.inl a3), none, none]) (by decide) rfl (Nat.le_of_ble_eq_true rfl) (Nat.le_refl _) (Nat.le_refl _) (fun Ω hE => ?_)
  have hG := hE.G
  unfold f_X6_answer at hF
  refine s_aload_n hG dX6_answer_0 rfl ?_
  refine s_aload_n hG dX6_answer_1 rfl ?_
  refine s_iconst hG dX6_answer_2 ⟨by decide, by decide⟩ ?_
  obtain ⟨o1, ho1, hF⟩ := bd_some hF
  refine s_callV (d' := d - 1) (ci := 10) (args := [.inl 0]) hG (by omega) dX6_answer_3 cv_RX6_44 cw_X10_many rfl rfl h1.1 (Nat.le_of_ble_eq_true rfl) rfl (t_X10_many hsk (by omega) h1 ho1) ?_
  refine s_bipush hG dX6_answer_6 bp_6 ⟨by decide, by decide⟩ ?_
  refine s_min hG (by omega) dX6_answer_8 ml_RX6_48 lk_min_s lk_math lk_min_c (Nat.le_of_ble_eq_true rfl) ?_
  refine s_puti hG dX6_answer_11 fl_RX6_25 (fun h => by cases h) (sk_k hsk 58 rfl) rfl ?_
  refine s_aload_n hG dX6_answer_14 rfl ?_
  refine s_aload_n hG dX6_answer_15 rfl ?_
  refine s_iconst hG dX6_answer_16 ⟨by decide, by decide⟩ ?_
  obtain ⟨o3, ho3, hF⟩ := bd_some hF
  refine s_callV (d' := d - 1) (ci := 10) (args := [.inl 1]) hG (by omega) dX6_answer_17 cv_RX6_44 cw_X10_many rfl rfl h1.1 (Nat.le_of_ble_eq_true rfl) rfl (t_X10_many hsk (by omega) h1 ho3) ?_
  refine s_bipush hG dX6_answer_20 bp_16 ⟨by decide, by decide⟩ ?_
  refine s_min hG (by omega) dX6_answer_22 ml_RX6_48 lk_min_s lk_math lk_min_c (Nat.le_of_ble_eq_true rfl) ?_
  refine s_puti hG dX6_answer_25 fl_RX6_29 (fun h => by cases h) (sk_k hsk 58 rfl) rfl ?_
  refine s_iconst hG dX6_answer_28 ⟨by decide, by decide⟩ ?_
  refine s_istore hG dX6_answer_29 (by decide) rfl ?_
  obtain ⟨o10, hlo10, hF⟩ := bd_some hF
  refine t_X6_answer_lp31 hsk hd h1 hG ?_ hlo10
  refine s_iload_n hG dX6_answer_68 rfl ?_
  refine s_if_ne hG 78 dX6_answer_69 (by decide) (fun c17 => ?_) (fun c17 => ?_)
  · replace hF := Eq.trans (if_pos c17).symm hF
    refine s_aload_n hG dX6_answer_72 rfl ?_
    refine s_iload_n hG dX6_answer_73 rfl ?_
    obtain ⟨o11, ho11, hF⟩ := bd_some hF
    refine s_callV (d' := d - 1) (ci := 6) (args := [.inl o10.2.1]) hG (by omega) dX6_answer_74 cv_RX6_61 cw_X6_rows rfl rfl (sk_k hsk 58 rfl) (Nat.le_of_ble_eq_true rfl) rfl (t_X6_rows hsk (by omega) ho11) ?_
    cases hF
    exact s_iret hE dX6_answer_77 rfl
  · replace hF := Eq.trans (if_neg c17).symm hF
    refine s_iload_n hG dX6_answer_78 rfl ?_
    refine s_iconst hG dX6_answer_79 ⟨by decide, by decide⟩ ?_
    refine s_isub hG dX6_answer_80 ?_
    refine s_iconst hG dX6_answer_81 ⟨by decide, by decide⟩ ?_
    refine s_idiv hG dX6_answer_82 (by decide) ?_
    refine s_istore hG dX6_answer_83 (by decide) rfl ?_
    refine s_iconst hG dX6_answer_85 ⟨by decide, by decide⟩ ?_
    refine s_istore hG dX6_answer_86 (by decide) rfl ?_
    obtain ⟨o15, hlo15, hF⟩ := bd_some hF
    refine t_X6_answer_lp88 hsk hd h1 hG ?_ hlo15
    match o15, hF with
    | .inl e15, hF =>
          try dsimp only at hF
          refine s_iload_n hG dX6_answer_116 rfl ?_
          refine s_iconst hG dX6_answer_117 ⟨by decide, by decide⟩ ?_
          refine s_irem hG dX6_answer_118 (by decide) ?_
          refine s_iconst hG dX6_answer_119 ⟨by decide, by decide⟩ ?_
          refine s_icmp_ne hG 130 dX6_answer_120 (by decide) (fun c16 => ?_) (fun c16 => ?_)
          · replace hF := Eq.trans (if_pos c16).symm hF
            refine s_aload_n hG dX6_answer_123 rfl ?_
            refine s_geti hG dX6_answer_124 fl_RX6_32 (sk_k hsk 58 rfl) rfl ?_
            refine s_goto hG 134 dX6_answer_127 (by decide) ?_
            refine m_weak (ls1 := [none, none, none, none, none, none]) hG trivial ?_
            exact t_X6_answer_j134 hsk hd h1 hG hE hF
          · replace hF := Eq.trans (if_neg c16).symm hF
            refine s_aload_n hG dX6_answer_130 rfl ?_
            refine s_geti hG dX6_answer_131 fl_RX6_35 (sk_k hsk 58 rfl) rfl ?_
            refine m_weak (ls1 := [none, none, none, none, none, none]) hG trivial ?_
            exact t_X6_answer_j134 hsk hd h1 hG hE hF
    | .inr e15, hF =>
          try dsimp only at hF
          refine s_iconst hG dX6_answer_108 ⟨by decide, by decide⟩ ?_
          cases hF
          exact s_iret hE dX6_answer_109 rfl
-- X11_found
theorem t_X11_found_j20 {d n0 s0 nF sF : Nat} {X : MX} {Ω : Nat → MS → Prop} {N : NN} (hsk : m_Sk X) (hd : 6 ≤ d) (hG : m_G d yX11_found.cls yX11_found.name cX11_found 3 n0 s0 nF sF Ω) {out : (Int × NN)} (hE : m_Gd d yX11_found cX11_found 3 (some .int) X (some (.inl out.1)) out.2 X Ω) (hF : f_X11_found_j20 X N = some out) : Ω 20 ([none, none, none], [], N, X) := by
  unfold f_X11_found_j20 at hF
  refine s_iconst hG dX11_found_20 ⟨by decide, by decide⟩ ?_
  cases hF
  exact s_iret hE dX11_found_21 rfl
theorem t_X11_found {d : Nat} {X : MX} {N : NN} {a1 : Int} {a2 : Int} {out : (Int × NN)} (hsk : m_Sk X) (hd : 6 ≤ d) (hF : f_X11_found X N a1 a2 = some out) : m_Call d yX11_found cX11_found 3 (some .int) [(.inr (.inr 3)), (.inl a1), (.inl a2)] N X (some (.inl out.1)) out.2 X := by
  refine m_mk (ls0 := [some (.inr (.inr 3)), some (.inl a1), some (.inl a2)]) (by decide) rfl (Nat.le_of_ble_eq_true rfl) (Nat.le_refl _) (Nat.le_refl _) (fun Ω hE => ?_)
  have hG := hE.G
  unfold f_X11_found at hF
  refine s_iload_n hG dX11_found_0 rfl ?_
  refine s_iconst hG dX11_found_1 ⟨by decide, by decide⟩ ?_
  refine s_iconst hG dX11_found_2 ⟨by decide, by decide⟩ ?_
  obtain ⟨o1, ho1, hF⟩ := bd_some hF
  refine s_callS (d' := d - 1) (args := [.inl a1, .inl 0, .inl 3]) hG (by omega) dX11_found_3 cs_RX11_100 cw_X11_within rfl (Nat.le_of_ble_eq_true rfl) rfl (t_X11_within hsk (by omega) ho1) ?_
  refine s_if_eq hG 20 dX11_found_6 (by decide) (fun c5 => ?_) (fun c5 => ?_)
  · replace hF := Eq.trans (if_pos c5).symm hF
    refine m_weak (ls1 := [none, none, none]) hG trivial ?_
    exact t_X11_found_j20 hsk hd hG hE hF
  · replace hF := Eq.trans (if_neg c5).symm hF
    refine s_iload_n hG dX11_found_9 rfl ?_
    refine s_iconst hG dX11_found_10 ⟨by decide, by decide⟩ ?_
    refine s_iconst hG dX11_found_11 ⟨by decide, by decide⟩ ?_
    refine s_iload_n hG dX11_found_12 rfl ?_
    refine s_imul hG dX11_found_13 ?_
    obtain ⟨o2, ho2, hF⟩ := bd_some hF
    refine s_callS (d' := d - 1) (args := [.inl a2, .inl 0, .inl (m_w (2 * a1))]) hG (by omega) dX11_found_14 cs_RX11_100 cw_X11_within rfl (Nat.le_of_ble_eq_true rfl) rfl (t_X11_within hsk (by omega) ho2) ?_
    refine s_if_ne hG 22 dX11_found_17 (by decide) (fun c4 => ?_) (fun c4 => ?_)
    · replace hF := Eq.trans (if_pos c4).symm hF
      refine m_weak (ls1 := [none, none, none]) hG trivial ?_
      exact t_X11_found_j20 hsk hd hG hE hF
    · replace hF := Eq.trans (if_neg c4).symm hF
      refine s_aload_n hG dX11_found_22 rfl ?_
      refine s_getr (r := 58) hG dX11_found_23 fl_RX11_85 (sk_k hsk 3 rfl) rfl (sk_R hsk 3 11 rfl) ?_
      refine s_aload_n hG dX11_found_26 rfl ?_
      refine s_getr (r := 4) hG dX11_found_27 fl_RX11_10 (sk_k hsk 3 rfl) rfl (sk_R hsk 3 0 rfl) ?_
      refine s_iload_n hG dX11_found_30 rfl ?_
      refine s_iload_n hG dX11_found_31 rfl ?_
      obtain ⟨o3, ho3, hF⟩ := bd_some hF
      refine s_callV (d' := d - 1) (ci := 6) (args := [.inr (.inr 4), .inl a1, .inl a2]) hG (by omega) dX11_found_32 cv_RX11_289 cw_X6_answer rfl rfl (sk_k hsk 58 rfl) (Nat.le_of_ble_eq_true rfl) rfl (t_X6_answer hsk (by omega) (sk_W4 hsk) ho3) ?_
      cases hF
      exact s_iret hE dX11_found_35 rfl
-- X11_generation
theorem t_X11_generation_j21 {d n0 s0 nF sF : Nat} {X : MX} {Ω : Nat → MS → Prop} {N : NN} (hsk : m_Sk X) (hd : 7 ≤ d) (hG : m_G d yX11_generation.cls yX11_generation.name cX11_generation 3 n0 s0 nF sF Ω) {out : (Int × NN)} (hE : m_Gd d yX11_generation cX11_generation 3 (some .int) X (some (.inl out.1)) out.2 X Ω) (hF : f_X11_generation_j21 X N = some out) : Ω 21 ([some (.inr (.inr 3)), none, none], [], N, X) := by
  unfold f_X11_generation_j21 at hF
  refine s_aload_n hG dX11_generation_21 rfl ?_
  refine s_iconst hG dX11_generation_22 ⟨by decide, by decide⟩ ?_
  obtain ⟨o10, ho10, hF⟩ := bd_some hF
  refine s_callV (d' := d - 1) (ci := 11) (args := [.inl (-1)]) hG (by omega) dX11_generation_23 cv_RX11_104 cw_X11_refuse rfl rfl (sk_k hsk 3 rfl) (Nat.le_of_ble_eq_true rfl) rfl (t_X11_refuse hsk (by omega) ho10) ?_
  cases hF
  exact s_iret hE dX11_generation_26 rfl
theorem t_X11_generation {d : Nat} {X : MX} {N : NN} {a1 : Int} {a2 : Int} {out : (Int × NN)} (hsk : m_Sk X) (hd : 7 ≤ d) (hF : f_X11_generation X N a1 a2 = some out) : m_Call d yX11_generation cX11_generation 3 (some .int) [(.inr (.inr 3)), (.inl a1), (.inl a2)] N X (some (.inl out.1)) out.2 X := by
  refine m_mk (ls0 := [some (.inr (.inr 3)), some (.inl a1), some (.inl a2)]) (by decide) rfl (Nat.le_of_ble_eq_true rfl) (Nat.le_refl _) (Nat.le_refl _) (fun Ω hE => ?_)
  have hG := hE.G
  unfold f_X11_generation at hF
  refine s_iload_n hG dX11_generation_0 rfl ?_
  refine s_iconst hG dX11_generation_1 ⟨by decide, by decide⟩ ?_
  refine s_ldcw hG dX11_generation_2 kc_RX11_294 ⟨by decide, by decide⟩ ?_
  obtain ⟨o1, ho1, hF⟩ := bd_some hF
  refine s_callS (d' := d - 1) (args := [.inl a1, .inl 0, .inl 1000000]) hG (by omega) dX11_generation_5 cs_RX11_100 cw_X11_within rfl (Nat.le_of_ble_eq_true rfl) rfl (t_X11_within hsk (by omega) ho1) ?_
  refine s_if_eq hG 21 dX11_generation_8 (by decide) (fun c9 => ?_) (fun c9 => ?_)
  · replace hF := Eq.trans (if_pos c9).symm hF
    refine m_weak (ls1 := [some (.inr (.inr 3)), none, none]) hG ⟨rfl, trivial⟩ ?_
    exact t_X11_generation_j21 hsk hd hG hE hF
  · replace hF := Eq.trans (if_neg c9).symm hF
    refine s_iload_n hG dX11_generation_11 rfl ?_
    refine s_iconst hG dX11_generation_12 ⟨by decide, by decide⟩ ?_
    refine s_bipush hG dX11_generation_13 bp_50 ⟨by decide, by decide⟩ ?_
    obtain ⟨o2, ho2, hF⟩ := bd_some hF
    refine s_callS (d' := d - 1) (args := [.inl a2, .inl 1, .inl 50]) hG (by omega) dX11_generation_15 cs_RX11_100 cw_X11_within rfl (Nat.le_of_ble_eq_true rfl) rfl (t_X11_within hsk (by omega) ho2) ?_
    refine s_if_ne hG 27 dX11_generation_18 (by decide) (fun c8 => ?_) (fun c8 => ?_)
    · replace hF := Eq.trans (if_pos c8).symm hF
      refine m_weak (ls1 := [some (.inr (.inr 3)), none, none]) hG ⟨rfl, trivial⟩ ?_
      exact t_X11_generation_j21 hsk hd hG hE hF
    · replace hF := Eq.trans (if_neg c8).symm hF
      refine s_aload_n hG dX11_generation_27 rfl ?_
      refine s_getr (r := 4) hG dX11_generation_28 fl_RX11_10 (sk_k hsk 3 rfl) rfl (sk_R hsk 3 0 rfl) ?_
      refine s_iconst hG dX11_generation_31 ⟨by decide, by decide⟩ ?_
      obtain ⟨o3, ho3, hF⟩ := bd_some hF
      refine s_callV (d' := d - 1) (ci := 10) (args := [.inl 0]) hG (by omega) dX11_generation_32 cv_RX11_108 cw_X10_many rfl rfl (sk_k hsk 4 rfl) (Nat.le_of_ble_eq_true rfl) rfl (t_X10_many hsk (by omega) (sk_W4 hsk) ho3) ?_
      refine s_if_ne hG 45 dX11_generation_35 (by decide) (fun c7 => ?_) (fun c7 => ?_)
      · replace hF := Eq.trans (if_pos c7).symm hF
        refine s_aload_n hG dX11_generation_38 rfl ?_
        refine s_bipush hG dX11_generation_39 bp_m3 ⟨by decide, by decide⟩ ?_
        obtain ⟨o4, ho4, hF⟩ := bd_some hF
        refine s_callV (d' := d - 1) (ci := 11) (args := [.inl (-3)]) hG (by omega) dX11_generation_41 cv_RX11_104 cw_X11_refuse rfl rfl (sk_k hsk 3 rfl) (Nat.le_of_ble_eq_true rfl) rfl (t_X11_refuse hsk (by omega) ho4) ?_
        cases hF
        exact s_iret hE dX11_generation_44 rfl
      · replace hF := Eq.trans (if_neg c7).symm hF
        refine s_aload_n hG dX11_generation_45 rfl ?_
        refine s_aload_n hG dX11_generation_46 rfl ?_
        refine s_getr (r := 29) hG dX11_generation_47 fl_RX11_48 (sk_k hsk 3 rfl) rfl (sk_R hsk 3 6 rfl) ?_
        refine s_aload_n hG dX11_generation_50 rfl ?_
        refine s_getr (r := 4) hG dX11_generation_51 fl_RX11_10 (sk_k hsk 3 rfl) rfl (sk_R hsk 3 0 rfl) ?_
        refine s_iload_n hG dX11_generation_54 rfl ?_
        refine s_iload_n hG dX11_generation_55 rfl ?_
        obtain ⟨o5, ho5, hF⟩ := bd_some hF
        refine s_callV (d' := d - 1) (ci := 0) (args := [.inr (.inr 4), .inl a1, .inl a2]) hG (by omega) dX11_generation_56 cv_RX11_295 cw_X0_playOut rfl rfl (sk_k hsk 29 rfl) (Nat.le_of_ble_eq_true rfl) rfl (t_X0_playOut hsk (by omega) (sk_W4 hsk) ho5) ?_
        obtain ⟨o6, ho6, hF⟩ := bd_some hF
        refine s_callV (d' := d - 1) (ci := 11) (args := [.inl o5.1]) hG (by omega) dX11_generation_59 cv_RX11_118 cw_X11_accept rfl rfl (sk_k hsk 3 rfl) (Nat.le_of_ble_eq_true rfl) rfl (t_X11_accept hsk (by omega) ho6) ?_
        cases hF
        exact s_iret hE dX11_generation_62 rfl
-- X11_give
theorem t_X11_give_j22 {d n0 s0 nF sF : Nat} {X : MX} {Ω : Nat → MS → Prop} {N : NN} (hsk : m_Sk X) (hd : 6 ≤ d) (hG : m_G d yX11_give.cls yX11_give.name cX11_give 3 n0 s0 nF sF Ω) {out : (Int × NN)} (hE : m_Gd d yX11_give cX11_give 3 (some .int) X (some (.inl out.1)) out.2 X Ω) (hF : f_X11_give_j22 X N = some out) : Ω 22 ([some (.inr (.inr 3)), none, none], [], N, X) := by
  unfold f_X11_give_j22 at hF
  refine s_aload_n hG dX11_give_22 rfl ?_
  refine s_bipush hG dX11_give_23 bp_m2 ⟨by decide, by decide⟩ ?_
  obtain ⟨o11, ho11, hF⟩ := bd_some hF
  refine s_callV (d' := d - 1) (ci := 11) (args := [.inl (-2)]) hG (by omega) dX11_give_25 cv_RX11_104 cw_X11_refuse rfl rfl (sk_k hsk 3 rfl) (Nat.le_of_ble_eq_true rfl) rfl (t_X11_refuse hsk (by omega) ho11) ?_
  cases hF
  exact s_iret hE dX11_give_28 rfl
theorem t_X11_give {d : Nat} {X : MX} {N : NN} {a1 : Int} {a2 : Int} {out : (Int × NN)} (hsk : m_Sk X) (hd : 6 ≤ d) (hF : f_X11_give X N a1 a2 = some out) : m_Call d yX11_give cX11_give 3 (some .int) [(.inr (.inr 3)), (.inl a1), (.inl a2)] N X (some (.inl out.1)) out.2 X := by
  refine m_mk (ls0 := [some (.inr (.inr 3)), some (.inl a1), some (.inl a2)]) (by decide) rfl (Nat.le_of_ble_eq_true rfl) (Nat.le_refl _) (Nat.le_refl _) (fun Ω hE => ?_)
  have hG := hE.G
  unfold f_X11_give at hF
  refine s_aload_n hG dX11_give_0 rfl ?_
  refine s_getr (r := 4) hG dX11_give_1 fl_RX11_10 (sk_k hsk 3 rfl) rfl (sk_R hsk 3 0 rfl) ?_
  refine s_iload_n hG dX11_give_4 rfl ?_
  obtain ⟨o1, ho1, hF⟩ := bd_some hF
  refine s_callV (d' := d - 1) (ci := 10) (args := [.inl a1]) hG (by omega) dX11_give_5 cv_RX11_146 cw_X10_isGood rfl rfl (sk_k hsk 4 rfl) (Nat.le_of_ble_eq_true rfl) rfl (t_X10_isGood hsk (by omega) (sk_W4 hsk) ho1) ?_
  refine s_if_eq hG 22 dX11_give_8 (by decide) (fun c10 => ?_) (fun c10 => ?_)
  · replace hF := Eq.trans (if_pos c10).symm hF
    refine m_weak (ls1 := [some (.inr (.inr 3)), none, none]) hG ⟨rfl, trivial⟩ ?_
    exact t_X11_give_j22 hsk hd hG hE hF
  · replace hF := Eq.trans (if_neg c10).symm hF
    refine s_aload_n hG dX11_give_11 rfl ?_
    refine s_getr (r := 4) hG dX11_give_12 fl_RX11_10 (sk_k hsk 3 rfl) rfl (sk_R hsk 3 0 rfl) ?_
    refine s_iload_n hG dX11_give_15 rfl ?_
    obtain ⟨o2, ho2, hF⟩ := bd_some hF
    refine s_callV (d' := d - 1) (ci := 10) (args := [.inl a2]) hG (by omega) dX11_give_16 cv_RX11_121 cw_X10_isLord rfl rfl (sk_k hsk 4 rfl) (Nat.le_of_ble_eq_true rfl) rfl (t_X10_isLord hsk (by omega) (sk_W4 hsk) ho2) ?_
    refine s_if_ne hG 29 dX11_give_19 (by decide) (fun c9 => ?_) (fun c9 => ?_)
    · replace hF := Eq.trans (if_pos c9).symm hF
      refine m_weak (ls1 := [some (.inr (.inr 3)), none, none]) hG ⟨rfl, trivial⟩ ?_
      exact t_X11_give_j22 hsk hd hG hE hF
    · replace hF := Eq.trans (if_neg c9).symm hF
      refine s_aload_n hG dX11_give_29 rfl ?_
      refine s_getr (r := 29) hG dX11_give_30 fl_RX11_48 (sk_k hsk 3 rfl) rfl (sk_R hsk 3 6 rfl) ?_
      refine s_aload_n hG dX11_give_33 rfl ?_
      refine s_getr (r := 4) hG dX11_give_34 fl_RX11_10 (sk_k hsk 3 rfl) rfl (sk_R hsk 3 0 rfl) ?_
      refine s_iload_n hG dX11_give_37 rfl ?_
      refine s_iload_n hG dX11_give_38 rfl ?_
      obtain ⟨o3, ho3, hF⟩ := bd_some hF
      refine s_callV (d' := d - 1) (ci := 0) (args := [.inr (.inr 4), .inl a1, .inl a2]) hG (by omega) dX11_give_39 cv_RX11_223 cw_X0_mayGive rfl rfl (sk_k hsk 29 rfl) (Nat.le_of_ble_eq_true rfl) rfl (t_X0_mayGive hsk (by omega) (sk_W4 hsk) ho3) ?_
      refine s_if_ne hG 52 dX11_give_42 (by decide) (fun c8 => ?_) (fun c8 => ?_)
      · replace hF := Eq.trans (if_pos c8).symm hF
        refine s_aload_n hG dX11_give_45 rfl ?_
        refine s_bipush hG dX11_give_46 bp_m3 ⟨by decide, by decide⟩ ?_
        obtain ⟨o4, ho4, hF⟩ := bd_some hF
        refine s_callV (d' := d - 1) (ci := 11) (args := [.inl (-3)]) hG (by omega) dX11_give_48 cv_RX11_104 cw_X11_refuse rfl rfl (sk_k hsk 3 rfl) (Nat.le_of_ble_eq_true rfl) rfl (t_X11_refuse hsk (by omega) ho4) ?_
        cases hF
        exact s_iret hE dX11_give_51 rfl
      · replace hF := Eq.trans (if_neg c8).symm hF
        refine s_aload_n hG dX11_give_52 rfl ?_
        refine s_getr (r := 13) hG dX11_give_53 fl_RX11_25 (sk_k hsk 3 rfl) rfl (sk_R hsk 3 3 rfl) ?_
        refine s_aload_n hG dX11_give_56 rfl ?_
        refine s_getr (r := 4) hG dX11_give_57 fl_RX11_10 (sk_k hsk 3 rfl) rfl (sk_R hsk 3 0 rfl) ?_
        refine s_iconst hG dX11_give_60 ⟨by decide, by decide⟩ ?_
        obtain ⟨o5, ho5, hF⟩ := bd_some hF
        refine s_callV (d' := d - 1) (ci := 4) (args := [.inr (.inr 4), .inl 0]) hG (by omega) dX11_give_61 cv_RX11_227 cw_X4_keep rfl rfl (sk_k hsk 13 rfl) (Nat.le_of_ble_eq_true rfl) rfl (t_X4_keep hsk (by omega) (sk_P13 hsk) (sk_W4 hsk) ho5) ?_
        refine s_aload_n hG dX11_give_64 rfl ?_
        refine s_aload_n hG dX11_give_65 rfl ?_
        refine s_getr (r := 29) hG dX11_give_66 fl_RX11_48 (sk_k hsk 3 rfl) rfl (sk_R hsk 3 6 rfl) ?_
        refine s_aload_n hG dX11_give_69 rfl ?_
        refine s_getr (r := 4) hG dX11_give_70 fl_RX11_10 (sk_k hsk 3 rfl) rfl (sk_R hsk 3 0 rfl) ?_
        refine s_iload_n hG dX11_give_73 rfl ?_
        refine s_iload_n hG dX11_give_74 rfl ?_
        obtain ⟨o6, ho6, hF⟩ := bd_some hF
        refine s_callV (d' := d - 1) (ci := 0) (args := [.inr (.inr 4), .inl a1, .inl a2]) hG (by omega) dX11_give_75 cv_RX11_231 cw_X0_hand rfl rfl (sk_k hsk 29 rfl) (Nat.le_of_ble_eq_true rfl) rfl (t_X0_hand hsk (by omega) (sk_W4 hsk) ho6) ?_
        obtain ⟨o7, ho7, hF⟩ := bd_some hF
        refine s_callV (d' := d - 1) (ci := 11) (args := [.inl o6.1]) hG (by omega) dX11_give_78 cv_RX11_118 cw_X11_accept rfl rfl (sk_k hsk 3 rfl) (Nat.le_of_ble_eq_true rfl) rfl (t_X11_accept hsk (by omega) ho7) ?_
        cases hF
        exact s_iret hE dX11_give_81 rfl
-- X11_good
theorem t_X11_good_j20 {d n0 s0 nF sF : Nat} {X : MX} {Ω : Nat → MS → Prop} {N : NN} (hsk : m_Sk X) (hd : 2 ≤ d) (hG : m_G d yX11_good.cls yX11_good.name cX11_good 4 n0 s0 nF sF Ω) {out : (Int × NN)} (hE : m_Gd d yX11_good cX11_good 4 (some .int) X (some (.inl out.1)) out.2 X Ω) (hF : f_X11_good_j20 X N = some out) : Ω 20 ([some (.inr (.inr 3)), none, none, none], [], N, X) := by
  unfold f_X11_good_j20 at hF
  refine s_aload_n hG dX11_good_20 rfl ?_
  refine s_iconst hG dX11_good_21 ⟨by decide, by decide⟩ ?_
  obtain ⟨o14, ho14, hF⟩ := bd_some hF
  refine s_callV (d' := d - 1) (ci := 11) (args := [.inl (-1)]) hG (by omega) dX11_good_22 cv_RX11_104 cw_X11_refuse rfl rfl (sk_k hsk 3 rfl) (Nat.le_of_ble_eq_true rfl) rfl (t_X11_refuse hsk (by omega) ho14) ?_
  cases hF
  exact s_iret hE dX11_good_25 rfl
theorem t_X11_good {d : Nat} {X : MX} {N : NN} {a1 : Int} {a2 : Int} {a3 : Int} {out : (Int × NN)} (hsk : m_Sk X) (hd : 2 ≤ d) (hF : f_X11_good X N a1 a2 a3 = some out) : m_Call d yX11_good cX11_good 4 (some .int) [(.inr (.inr 3)), (.inl a1), (.inl a2), (.inl a3)] N X (some (.inl out.1)) out.2 X := by
  refine m_mk (ls0 := [some (.inr (.inr 3)), some (.inl a1), some (.inl a2), some (.inl a3)]) (by decide) rfl (Nat.le_of_ble_eq_true rfl) (Nat.le_refl _) (Nat.le_refl _) (fun Ω hE => ?_)
  have hG := hE.G
  unfold f_X11_good at hF
  refine s_iload_n hG dX11_good_0 rfl ?_
  refine s_iconst hG dX11_good_1 ⟨by decide, by decide⟩ ?_
  refine s_bipush hG dX11_good_2 bp_99 ⟨by decide, by decide⟩ ?_
  obtain ⟨o1, ho1, hF⟩ := bd_some hF
  refine s_callS (d' := d - 1) (args := [.inl a2, .inl 0, .inl 99]) hG (by omega) dX11_good_4 cs_RX11_100 cw_X11_within rfl (Nat.le_of_ble_eq_true rfl) rfl (t_X11_within hsk (by omega) ho1) ?_
  refine s_if_eq hG 20 dX11_good_7 (by decide) (fun c13 => ?_) (fun c13 => ?_)
  · replace hF := Eq.trans (if_pos c13).symm hF
    refine m_weak (ls1 := [some (.inr (.inr 3)), none, none, none]) hG ⟨rfl, trivial⟩ ?_
    exact t_X11_good_j20 hsk hd hG hE hF
  · replace hF := Eq.trans (if_neg c13).symm hF
    refine s_iload_n hG dX11_good_10 rfl ?_
    refine s_iconst hG dX11_good_11 ⟨by decide, by decide⟩ ?_
    refine s_bipush hG dX11_good_12 bp_20 ⟨by decide, by decide⟩ ?_
    obtain ⟨o2, ho2, hF⟩ := bd_some hF
    refine s_callS (d' := d - 1) (args := [.inl a3, .inl 0, .inl 20]) hG (by omega) dX11_good_14 cs_RX11_100 cw_X11_within rfl (Nat.le_of_ble_eq_true rfl) rfl (t_X11_within hsk (by omega) ho2) ?_
    refine s_if_ne hG 26 dX11_good_17 (by decide) (fun c12 => ?_) (fun c12 => ?_)
    · replace hF := Eq.trans (if_pos c12).symm hF
      refine m_weak (ls1 := [some (.inr (.inr 3)), none, none, none]) hG ⟨rfl, trivial⟩ ?_
      exact t_X11_good_j20 hsk hd hG hE hF
    · replace hF := Eq.trans (if_neg c12).symm hF
      refine s_aload_n hG dX11_good_26 rfl ?_
      refine s_getr (r := 4) hG dX11_good_27 fl_RX11_10 (sk_k hsk 3 rfl) rfl (sk_R hsk 3 0 rfl) ?_
      refine s_iload_n hG dX11_good_30 rfl ?_
      obtain ⟨o3, ho3, hF⟩ := bd_some hF
      refine s_callV (d' := d - 1) (ci := 10) (args := [.inl a1]) hG (by omega) dX11_good_31 cv_RX11_121 cw_X10_isLord rfl rfl (sk_k hsk 4 rfl) (Nat.le_of_ble_eq_true rfl) rfl (t_X10_isLord hsk (by omega) (sk_W4 hsk) ho3) ?_
      refine s_if_ne hG 44 dX11_good_34 (by decide) (fun c11 => ?_) (fun c11 => ?_)
      · replace hF := Eq.trans (if_pos c11).symm hF
        refine s_aload_n hG dX11_good_37 rfl ?_
        refine s_bipush hG dX11_good_38 bp_m2 ⟨by decide, by decide⟩ ?_
        obtain ⟨o4, ho4, hF⟩ := bd_some hF
        refine s_callV (d' := d - 1) (ci := 11) (args := [.inl (-2)]) hG (by omega) dX11_good_40 cv_RX11_104 cw_X11_refuse rfl rfl (sk_k hsk 3 rfl) (Nat.le_of_ble_eq_true rfl) rfl (t_X11_refuse hsk (by omega) ho4) ?_
        cases hF
        exact s_iret hE dX11_good_43 rfl
      · replace hF := Eq.trans (if_neg c11).symm hF
        refine s_aload_n hG dX11_good_44 rfl ?_
        refine s_getr (r := 4) hG dX11_good_45 fl_RX11_10 (sk_k hsk 3 rfl) rfl (sk_R hsk 3 0 rfl) ?_
        refine s_iconst hG dX11_good_48 ⟨by decide, by decide⟩ ?_
        obtain ⟨o5, ho5, hF⟩ := bd_some hF
        refine s_callV (d' := d - 1) (ci := 10) (args := [.inl 1]) hG (by omega) dX11_good_49 cv_RX11_108 cw_X10_many rfl rfl (sk_k hsk 4 rfl) (Nat.le_of_ble_eq_true rfl) rfl (t_X10_many hsk (by omega) (sk_W4 hsk) ho5) ?_
        refine s_bipush hG dX11_good_52 bp_16 ⟨by decide, by decide⟩ ?_
        refine s_icmp_lt hG 64 dX11_good_54 (by decide) (fun c10 => ?_) (fun c10 => ?_)
        · replace hF := Eq.trans (if_pos c10).symm hF
          refine s_aload_n hG dX11_good_64 rfl ?_
          refine s_getr (r := 13) hG dX11_good_65 fl_RX11_25 (sk_k hsk 3 rfl) rfl (sk_R hsk 3 3 rfl) ?_
          obtain ⟨o6, ho6, hF⟩ := bd_some hF
          refine s_callV (d' := d - 1) (ci := 4) (args := []) hG (by omega) dX11_good_68 cv_RX11_111 cw_X4_clear rfl rfl (sk_k hsk 13 rfl) (Nat.le_of_ble_eq_true rfl) rfl (t_X4_clear hsk (by omega) (sk_P13 hsk) ho6) ?_
          refine s_aload_n hG dX11_good_71 rfl ?_
          refine s_aload_n hG dX11_good_72 rfl ?_
          refine s_getr (r := 4) hG dX11_good_73 fl_RX11_10 (sk_k hsk 3 rfl) rfl (sk_R hsk 3 0 rfl) ?_
          refine s_iload_n hG dX11_good_76 rfl ?_
          refine s_iload_n hG dX11_good_77 rfl ?_
          refine s_iload_n hG dX11_good_78 rfl ?_
          obtain ⟨o7, ho7, hF⟩ := bd_some hF
          refine s_callV (d' := d - 1) (ci := 10) (args := [.inl a1, .inl a2, .inl a3]) hG (by omega) dX11_good_79 cv_RX11_142 cw_X10_addGood rfl rfl (sk_k hsk 4 rfl) (Nat.le_of_ble_eq_true rfl) rfl (t_X10_addGood hsk (by omega) (sk_W4 hsk) ho7) ?_
          obtain ⟨o8, ho8, hF⟩ := bd_some hF
          refine s_callV (d' := d - 1) (ci := 11) (args := [.inl o7.1]) hG (by omega) dX11_good_82 cv_RX11_118 cw_X11_accept rfl rfl (sk_k hsk 3 rfl) (Nat.le_of_ble_eq_true rfl) rfl (t_X11_accept hsk (by omega) ho8) ?_
          cases hF
          exact s_iret hE dX11_good_85 rfl
        · replace hF := Eq.trans (if_neg c10).symm hF
          refine s_aload_n hG dX11_good_57 rfl ?_
          refine s_bipush hG dX11_good_58 bp_m5 ⟨by decide, by decide⟩ ?_
          obtain ⟨o9, ho9, hF⟩ := bd_some hF
          refine s_callV (d' := d - 1) (ci := 11) (args := [.inl (-5)]) hG (by omega) dX11_good_60 cv_RX11_104 cw_X11_refuse rfl rfl (sk_k hsk 3 rfl) (Nat.le_of_ble_eq_true rfl) rfl (t_X11_refuse hsk (by omega) ho9) ?_
          cases hF
          exact s_iret hE dX11_good_63 rfl
-- X11_herald
theorem t_X11_herald {d : Nat} {X : MX} {N : NN} {a1 : Int} {out : (Int × NN)} (hsk : m_Sk X) (hd : 2 ≤ d) (hF : f_X11_herald X N a1 = some out) : m_Call d yX11_herald cX11_herald 2 (some .int) [(.inr (.inr 3)), (.inl a1)] N X (some (.inl out.1)) out.2 X := by
  refine m_mk (ls0 := [some (.inr (.inr 3)), some (.inl a1)]) (by decide) rfl (Nat.le_of_ble_eq_true rfl) (Nat.le_refl _) (Nat.le_refl _) (fun Ω hE => ?_)
  have hG := hE.G
  unfold f_X11_herald at hF
  refine s_iload_n hG dX11_herald_0 rfl ?_
  refine s_iconst hG dX11_herald_1 ⟨by decide, by decide⟩ ?_
  refine s_bipush hG dX11_herald_2 bp_9 ⟨by decide, by decide⟩ ?_
  obtain ⟨o1, ho1, hF⟩ := bd_some hF
  refine s_callS (d' := d - 1) (args := [.inl a1, .inl 1, .inl 9]) hG (by omega) dX11_herald_4 cs_RX11_100 cw_X11_within rfl (Nat.le_of_ble_eq_true rfl) rfl (t_X11_within hsk (by omega) ho1) ?_
  refine s_if_ne hG 16 dX11_herald_7 (by decide) (fun c8 => ?_) (fun c8 => ?_)
  · replace hF := Eq.trans (if_pos c8).symm hF
    refine s_aload_n hG dX11_herald_10 rfl ?_
    refine s_iconst hG dX11_herald_11 ⟨by decide, by decide⟩ ?_
    obtain ⟨o2, ho2, hF⟩ := bd_some hF
    refine s_callV (d' := d - 1) (ci := 11) (args := [.inl (-1)]) hG (by omega) dX11_herald_12 cv_RX11_104 cw_X11_refuse rfl rfl (sk_k hsk 3 rfl) (Nat.le_of_ble_eq_true rfl) rfl (t_X11_refuse hsk (by omega) ho2) ?_
    cases hF
    exact s_iret hE dX11_herald_15 rfl
  · replace hF := Eq.trans (if_neg c8).symm hF
    refine s_aload_n hG dX11_herald_16 rfl ?_
    refine s_getr (r := 4) hG dX11_herald_17 fl_RX11_10 (sk_k hsk 3 rfl) rfl (sk_R hsk 3 0 rfl) ?_
    refine s_iconst hG dX11_herald_20 ⟨by decide, by decide⟩ ?_
    obtain ⟨o3, ho3, hF⟩ := bd_some hF
    refine s_callV (d' := d - 1) (ci := 10) (args := [.inl 2]) hG (by omega) dX11_herald_21 cv_RX11_108 cw_X10_many rfl rfl (sk_k hsk 4 rfl) (Nat.le_of_ble_eq_true rfl) rfl (t_X10_many hsk (by omega) (sk_W4 hsk) ho3) ?_
    refine s_iconst hG dX11_herald_24 ⟨by decide, by decide⟩ ?_
    refine s_icmp_lt hG 35 dX11_herald_25 (by decide) (fun c7 => ?_) (fun c7 => ?_)
    · replace hF := Eq.trans (if_pos c7).symm hF
      refine s_aload_n hG dX11_herald_35 rfl ?_
      refine s_aload_n hG dX11_herald_36 rfl ?_
      refine s_getr (r := 4) hG dX11_herald_37 fl_RX11_10 (sk_k hsk 3 rfl) rfl (sk_R hsk 3 0 rfl) ?_
      refine s_iload_n hG dX11_herald_40 rfl ?_
      obtain ⟨o4, ho4, hF⟩ := bd_some hF
      refine s_callV (d' := d - 1) (ci := 10) (args := [.inl a1]) hG (by omega) dX11_herald_41 cv_RX11_263 cw_X10_addHerald rfl rfl (sk_k hsk 4 rfl) (Nat.le_of_ble_eq_true rfl) rfl (t_X10_addHerald hsk (by omega) (sk_W4 hsk) ho4) ?_
      obtain ⟨o5, ho5, hF⟩ := bd_some hF
      refine s_callV (d' := d - 1) (ci := 11) (args := [.inl o4.1]) hG (by omega) dX11_herald_44 cv_RX11_118 cw_X11_accept rfl rfl (sk_k hsk 3 rfl) (Nat.le_of_ble_eq_true rfl) rfl (t_X11_accept hsk (by omega) ho5) ?_
      cases hF
      exact s_iret hE dX11_herald_47 rfl
    · replace hF := Eq.trans (if_neg c7).symm hF
      refine s_aload_n hG dX11_herald_28 rfl ?_
      refine s_bipush hG dX11_herald_29 bp_m5 ⟨by decide, by decide⟩ ?_
      obtain ⟨o6, ho6, hF⟩ := bd_some hF
      refine s_callV (d' := d - 1) (ci := 11) (args := [.inl (-5)]) hG (by omega) dX11_herald_31 cv_RX11_104 cw_X11_refuse rfl rfl (sk_k hsk 3 rfl) (Nat.le_of_ble_eq_true rfl) rfl (t_X11_refuse hsk (by omega) ho6) ?_
      cases hF
      exact s_iret hE dX11_herald_34 rfl
-- X11_image
theorem t_X11_image_j30 {d n0 s0 nF sF : Nat} {X : MX} {Ω : Nat → MS → Prop} {N : NN} {q0 : Nat} (hsk : m_Sk X) (hd : 2 ≤ d) (hG : m_G d yX11_image.cls yX11_image.name cX11_image 3 n0 s0 nF sF Ω) {out : (Int × NN)} (hE : m_Gd d yX11_image cX11_image 3 (some .int) X (some (.inl out.1)) out.2 X Ω) (hq0 : m_isW X q0) (hF : f_X11_image_j30 X N q0 = some out) : Ω 30 ([some (.inr (.inr 3)), none, none], [(.inr (.inr q0))], N, X) := by
  unfold f_X11_image_j30 at hF
  refine s_astore_n hG dX11_image_30 (by decide) rfl ?_
  refine s_aload_n hG dX11_image_31 rfl ?_
  refine s_aload_n hG dX11_image_32 rfl ?_
  refine s_getr (r := 4) hG dX11_image_33 fl_RX11_10 (sk_k hsk 3 rfl) rfl (sk_R hsk 3 0 rfl) ?_
  obtain ⟨o5, ho5, hF⟩ := bd_some hF
  refine s_callV (d' := d - 1) (ci := 10) (args := [.inr (.inr 4)]) hG (by omega) dX11_image_36 cv_RX11_302 cw_X10_copyFrom rfl rfl hq0.1 (Nat.le_of_ble_eq_true rfl) rfl (t_X10_copyFrom hsk (by omega) hq0 (sk_W4 hsk) ho5) ?_
  refine s_aload_n hG dX11_image_39 rfl ?_
  obtain ⟨o6, ho6, hF⟩ := bd_some hF
  refine s_callV (d' := d - 1) (ci := 10) (args := []) hG (by omega) dX11_image_40 cv_RX11_306 cw_X10_markKept rfl rfl hq0.1 (Nat.le_of_ble_eq_true rfl) rfl (t_X10_markKept hsk (by omega) hq0 ho6) ?_
  refine s_aload_n hG dX11_image_43 rfl ?_
  refine s_iconst hG dX11_image_44 ⟨by decide, by decide⟩ ?_
  obtain ⟨o7, ho7, hF⟩ := bd_some hF
  refine s_callV (d' := d - 1) (ci := 11) (args := [.inl 0]) hG (by omega) dX11_image_45 cv_RX11_118 cw_X11_accept rfl rfl (sk_k hsk 3 rfl) (Nat.le_of_ble_eq_true rfl) rfl (t_X11_accept hsk (by omega) ho7) ?_
  cases hF
  exact s_iret hE dX11_image_48 rfl
theorem t_X11_image {d : Nat} {X : MX} {N : NN} {a1 : Int} {out : (Int × NN)} (hsk : m_Sk X) (hd : 2 ≤ d) (hF : f_X11_image X N a1 = some out) : m_Call d yX11_image cX11_image 3 (some .int) [(.inr (.inr 3)), (.inl a1)] N X (some (.inl out.1)) out.2 X := by
  refine m_mk (ls0 := [some (.inr (.inr 3)), some (.inl a1), none]) (by decide) rfl (Nat.le_of_ble_eq_true rfl) (Nat.le_refl _) (Nat.le_refl _) (fun Ω hE => ?_)
  have hG := hE.G
  unfold f_X11_image at hF
  refine s_iload_n hG dX11_image_0 rfl ?_
  refine s_iconst hG dX11_image_1 ⟨by decide, by decide⟩ ?_
  refine s_iconst hG dX11_image_2 ⟨by decide, by decide⟩ ?_
  obtain ⟨o1, ho1, hF⟩ := bd_some hF
  refine s_callS (d' := d - 1) (args := [.inl a1, .inl 0, .inl 1]) hG (by omega) dX11_image_3 cs_RX11_100 cw_X11_within rfl (Nat.le_of_ble_eq_true rfl) rfl (t_X11_within hsk (by omega) ho1) ?_
  refine s_if_ne hG 15 dX11_image_6 (by decide) (fun c4 => ?_) (fun c4 => ?_)
  · replace hF := Eq.trans (if_pos c4).symm hF
    refine s_aload_n hG dX11_image_9 rfl ?_
    refine s_iconst hG dX11_image_10 ⟨by decide, by decide⟩ ?_
    obtain ⟨o2, ho2, hF⟩ := bd_some hF
    refine s_callV (d' := d - 1) (ci := 11) (args := [.inl (-1)]) hG (by omega) dX11_image_11 cv_RX11_104 cw_X11_refuse rfl rfl (sk_k hsk 3 rfl) (Nat.le_of_ble_eq_true rfl) rfl (t_X11_refuse hsk (by omega) ho2) ?_
    cases hF
    exact s_iret hE dX11_image_14 rfl
  · replace hF := Eq.trans (if_neg c4).symm hF
    refine s_iload_n hG dX11_image_15 rfl ?_
    refine s_if_ne hG 26 dX11_image_16 (by decide) (fun c3 => ?_) (fun c3 => ?_)
    · replace hF := Eq.trans (if_pos c3).symm hF
      refine s_aload_n hG dX11_image_19 rfl ?_
      refine s_getr (r := 7) hG dX11_image_20 fl_RX11_16 (sk_k hsk 3 rfl) rfl (sk_R hsk 3 1 rfl) ?_
      refine s_goto hG 30 dX11_image_23 (by decide) ?_
      refine m_weak (ls1 := [some (.inr (.inr 3)), none, none]) hG ⟨rfl, trivial⟩ ?_
      exact t_X11_image_j30 hsk hd hG hE (sk_W7 hsk) hF
    · replace hF := Eq.trans (if_neg c3).symm hF
      refine s_aload_n hG dX11_image_26 rfl ?_
      refine s_getr (r := 10) hG dX11_image_27 fl_RX11_19 (sk_k hsk 3 rfl) rfl (sk_R hsk 3 2 rfl) ?_
      refine m_weak (ls1 := [some (.inr (.inr 3)), none, none]) hG ⟨rfl, trivial⟩ ?_
      exact t_X11_image_j30 hsk hd hG hE (sk_W10 hsk) hF
-- X11_lord
theorem t_X11_lord_j21 {d n0 s0 nF sF : Nat} {X : MX} {Ω : Nat → MS → Prop} {N : NN} (hsk : m_Sk X) (hd : 4 ≤ d) (hG : m_G d yX11_lord.cls yX11_lord.name cX11_lord 3 n0 s0 nF sF Ω) {out : (Int × NN)} (hE : m_Gd d yX11_lord cX11_lord 3 (some .int) X (some (.inl out.1)) out.2 X Ω) (hF : f_X11_lord_j21 X N = some out) : Ω 21 ([some (.inr (.inr 3)), none, none], [], N, X) := by
  unfold f_X11_lord_j21 at hF
  refine s_aload_n hG dX11_lord_21 rfl ?_
  refine s_iconst hG dX11_lord_22 ⟨by decide, by decide⟩ ?_
  obtain ⟨o11, ho11, hF⟩ := bd_some hF
  refine s_callV (d' := d - 1) (ci := 11) (args := [.inl (-1)]) hG (by omega) dX11_lord_23 cv_RX11_104 cw_X11_refuse rfl rfl (sk_k hsk 3 rfl) (Nat.le_of_ble_eq_true rfl) rfl (t_X11_refuse hsk (by omega) ho11) ?_
  cases hF
  exact s_iret hE dX11_lord_26 rfl
theorem t_X11_lord {d : Nat} {X : MX} {N : NN} {a1 : Int} {a2 : Int} {out : (Int × NN)} (hsk : m_Sk X) (hd : 4 ≤ d) (hF : f_X11_lord X N a1 a2 = some out) : m_Call d yX11_lord cX11_lord 3 (some .int) [(.inr (.inr 3)), (.inl a1), (.inl a2)] N X (some (.inl out.1)) out.2 X := by
  refine m_mk (ls0 := [some (.inr (.inr 3)), some (.inl a1), some (.inl a2)]) (by decide) rfl (Nat.le_of_ble_eq_true rfl) (Nat.le_refl _) (Nat.le_refl _) (fun Ω hE => ?_)
  have hG := hE.G
  unfold f_X11_lord at hF
  refine s_iload_n hG dX11_lord_0 rfl ?_
  refine s_iconst hG dX11_lord_1 ⟨by decide, by decide⟩ ?_
  refine s_sipush hG dX11_lord_2 sp_9999 ⟨by decide, by decide⟩ ?_
  obtain ⟨o1, ho1, hF⟩ := bd_some hF
  refine s_callS (d' := d - 1) (args := [.inl a1, .inl 0, .inl 9999]) hG (by omega) dX11_lord_5 cs_RX11_100 cw_X11_within rfl (Nat.le_of_ble_eq_true rfl) rfl (t_X11_within hsk (by omega) ho1) ?_
  refine s_if_eq hG 21 dX11_lord_8 (by decide) (fun c10 => ?_) (fun c10 => ?_)
  · replace hF := Eq.trans (if_pos c10).symm hF
    refine m_weak (ls1 := [some (.inr (.inr 3)), none, none]) hG ⟨rfl, trivial⟩ ?_
    exact t_X11_lord_j21 hsk hd hG hE hF
  · replace hF := Eq.trans (if_neg c10).symm hF
    refine s_iload_n hG dX11_lord_11 rfl ?_
    refine s_iconst hG dX11_lord_12 ⟨by decide, by decide⟩ ?_
    refine s_bipush hG dX11_lord_13 bp_99 ⟨by decide, by decide⟩ ?_
    obtain ⟨o2, ho2, hF⟩ := bd_some hF
    refine s_callS (d' := d - 1) (args := [.inl a2, .inl 0, .inl 99]) hG (by omega) dX11_lord_15 cs_RX11_100 cw_X11_within rfl (Nat.le_of_ble_eq_true rfl) rfl (t_X11_within hsk (by omega) ho2) ?_
    refine s_if_ne hG 27 dX11_lord_18 (by decide) (fun c9 => ?_) (fun c9 => ?_)
    · replace hF := Eq.trans (if_pos c9).symm hF
      refine m_weak (ls1 := [some (.inr (.inr 3)), none, none]) hG ⟨rfl, trivial⟩ ?_
      exact t_X11_lord_j21 hsk hd hG hE hF
    · replace hF := Eq.trans (if_neg c9).symm hF
      refine s_aload_n hG dX11_lord_27 rfl ?_
      refine s_getr (r := 4) hG dX11_lord_28 fl_RX11_10 (sk_k hsk 3 rfl) rfl (sk_R hsk 3 0 rfl) ?_
      refine s_iconst hG dX11_lord_31 ⟨by decide, by decide⟩ ?_
      obtain ⟨o3, ho3, hF⟩ := bd_some hF
      refine s_callV (d' := d - 1) (ci := 10) (args := [.inl 0]) hG (by omega) dX11_lord_32 cv_RX11_108 cw_X10_many rfl rfl (sk_k hsk 4 rfl) (Nat.le_of_ble_eq_true rfl) rfl (t_X10_many hsk (by omega) (sk_W4 hsk) ho3) ?_
      refine s_bipush hG dX11_lord_35 bp_6 ⟨by decide, by decide⟩ ?_
      refine s_icmp_lt hG 47 dX11_lord_37 (by decide) (fun c8 => ?_) (fun c8 => ?_)
      · replace hF := Eq.trans (if_pos c8).symm hF
        refine s_aload_n hG dX11_lord_47 rfl ?_
        refine s_getr (r := 13) hG dX11_lord_48 fl_RX11_25 (sk_k hsk 3 rfl) rfl (sk_R hsk 3 3 rfl) ?_
        obtain ⟨o4, ho4, hF⟩ := bd_some hF
        refine s_callV (d' := d - 1) (ci := 4) (args := []) hG (by omega) dX11_lord_51 cv_RX11_111 cw_X4_clear rfl rfl (sk_k hsk 13 rfl) (Nat.le_of_ble_eq_true rfl) rfl (t_X4_clear hsk (by omega) (sk_P13 hsk) ho4) ?_
        refine s_aload_n hG dX11_lord_54 rfl ?_
        refine s_aload_n hG dX11_lord_55 rfl ?_
        refine s_getr (r := 4) hG dX11_lord_56 fl_RX11_10 (sk_k hsk 3 rfl) rfl (sk_R hsk 3 0 rfl) ?_
        refine s_iload_n hG dX11_lord_59 rfl ?_
        refine s_iload_n hG dX11_lord_60 rfl ?_
        obtain ⟨o5, ho5, hF⟩ := bd_some hF
        refine s_callV (d' := d - 1) (ci := 10) (args := [.inl a1, .inl a2]) hG (by omega) dX11_lord_61 cv_RX11_114 cw_X10_addLord rfl rfl (sk_k hsk 4 rfl) (Nat.le_of_ble_eq_true rfl) rfl (t_X10_addLord hsk (by omega) (sk_W4 hsk) ho5) ?_
        obtain ⟨o6, ho6, hF⟩ := bd_some hF
        refine s_callV (d' := d - 1) (ci := 11) (args := [.inl o5.1]) hG (by omega) dX11_lord_64 cv_RX11_118 cw_X11_accept rfl rfl (sk_k hsk 3 rfl) (Nat.le_of_ble_eq_true rfl) rfl (t_X11_accept hsk (by omega) ho6) ?_
        cases hF
        exact s_iret hE dX11_lord_67 rfl
      · replace hF := Eq.trans (if_neg c8).symm hF
        refine s_aload_n hG dX11_lord_40 rfl ?_
        refine s_bipush hG dX11_lord_41 bp_m5 ⟨by decide, by decide⟩ ?_
        obtain ⟨o7, ho7, hF⟩ := bd_some hF
        refine s_callV (d' := d - 1) (ci := 11) (args := [.inl (-5)]) hG (by omega) dX11_lord_43 cv_RX11_104 cw_X11_refuse rfl rfl (sk_k hsk 3 rfl) (Nat.le_of_ble_eq_true rfl) rfl (t_X11_refuse hsk (by omega) ho7) ?_
        cases hF
        exact s_iret hE dX11_lord_46 rfl
-- X11_of
theorem t_X11_of {d : Nat} {X : MX} {N : NN} {a1 : Int} {a2 : Int} {out : (Int × NN)} (hsk : m_Sk X) (hd : 5 ≤ d) (hF : f_X11_of X N a1 a2 = some out) : m_Call d yX11_of cX11_of 3 (some .int) [(.inr (.inr 3)), (.inl a1), (.inl a2)] N X (some (.inl out.1)) out.2 X := by
  refine m_mk (ls0 := [some (.inr (.inr 3)), some (.inl a1), some (.inl a2)]) (by decide) rfl (Nat.le_of_ble_eq_true rfl) (Nat.le_refl _) (Nat.le_refl _) (fun Ω hE => ?_)
  have hG := hE.G
  unfold f_X11_of at hF
  refine s_aload_n hG dX11_of_0 rfl ?_
  refine s_getr (r := 4) hG dX11_of_1 fl_RX11_10 (sk_k hsk 3 rfl) rfl (sk_R hsk 3 0 rfl) ?_
  refine s_iload_n hG dX11_of_4 rfl ?_
  obtain ⟨o1, ho1, hF⟩ := bd_some hF
  refine s_callV (d' := d - 1) (ci := 10) (args := [.inl a1]) hG (by omega) dX11_of_5 cv_RX11_121 cw_X10_isLord rfl rfl (sk_k hsk 4 rfl) (Nat.le_of_ble_eq_true rfl) rfl (t_X10_isLord hsk (by omega) (sk_W4 hsk) ho1) ?_
  refine s_if_ne hG 13 dX11_of_8 (by decide) (fun c6 => ?_) (fun c6 => ?_)
  · replace hF := Eq.trans (if_pos c6).symm hF
    refine s_iconst hG dX11_of_11 ⟨by decide, by decide⟩ ?_
    cases hF
    exact s_iret hE dX11_of_12 rfl
  · replace hF := Eq.trans (if_neg c6).symm hF
    refine s_iload_n hG dX11_of_13 rfl ?_
    refine s_bipush hG dX11_of_14 bp_7 ⟨by decide, by decide⟩ ?_
    refine s_icmp_ne hG 40 dX11_of_16 (by decide) (fun c5 => ?_) (fun c5 => ?_)
    · replace hF := Eq.trans (if_pos c5).symm hF
      refine s_aload_n hG dX11_of_19 rfl ?_
      refine s_getr (r := 25) hG dX11_of_20 fl_RX11_39 (sk_k hsk 3 rfl) rfl (sk_R hsk 3 5 rfl) ?_
      refine s_aload_n hG dX11_of_23 rfl ?_
      refine s_getr (r := 4) hG dX11_of_24 fl_RX11_10 (sk_k hsk 3 rfl) rfl (sk_R hsk 3 0 rfl) ?_
      refine s_iload_n hG dX11_of_27 rfl ?_
      refine s_aload_n hG dX11_of_28 rfl ?_
      refine s_getr (r := 4) hG dX11_of_29 fl_RX11_10 (sk_k hsk 3 rfl) rfl (sk_R hsk 3 0 rfl) ?_
      refine s_iconst hG dX11_of_32 ⟨by decide, by decide⟩ ?_
      obtain ⟨o2, ho2, hF⟩ := bd_some hF
      refine s_callV (d' := d - 1) (ci := 10) (args := [.inl 0]) hG (by omega) dX11_of_33 cv_RX11_125 cw_X10_term rfl rfl (sk_k hsk 4 rfl) (Nat.le_of_ble_eq_true rfl) rfl (t_X10_term hsk (by omega) (sk_W4 hsk) ho2) ?_
      obtain ⟨o3, ho3, hF⟩ := bd_some hF
      refine s_callV (d' := d - 1) (ci := 2) (args := [.inr (.inr 4), .inl a1, .inl o2]) hG (by omega) dX11_of_36 cv_RX11_128 cw_X2_upkeep rfl rfl (sk_k hsk 25 rfl) (Nat.le_of_ble_eq_true rfl) rfl (t_X2_upkeep hsk (by omega) (sk_W4 hsk) ho3) ?_
      cases hF
      exact s_iret hE dX11_of_39 rfl
    · replace hF := Eq.trans (if_neg c5).symm hF
      refine s_aload_n hG dX11_of_40 rfl ?_
      refine s_getr (r := 4) hG dX11_of_41 fl_RX11_10 (sk_k hsk 3 rfl) rfl (sk_R hsk 3 0 rfl) ?_
      refine s_iload_n hG dX11_of_44 rfl ?_
      refine s_iload_n hG dX11_of_45 rfl ?_
      obtain ⟨o4, ho4, hF⟩ := bd_some hF
      refine s_callV (d' := d - 1) (ci := 10) (args := [.inl a1, .inl a2]) hG (by omega) dX11_of_46 cv_RX11_132 cw_X10_seenOf rfl rfl (sk_k hsk 4 rfl) (Nat.le_of_ble_eq_true rfl) rfl (t_X10_seenOf hsk (by omega) (sk_W4 hsk) ho4) ?_
      cases hF
      exact s_iret hE dX11_of_49 rfl
-- X3_forget
theorem t_X3_forget {d : Nat} {X : MX} {N : NN} {out : NN} (hsk : m_Sk X) (hd : 1 ≤ d) (hF : f_X3_forget X N = some out) : m_Call d yX3_forget cX3_forget 1 none [(.inr (.inr 33))] N X none out X := by
  refine m_mk (ls0 := [some (.inr (.inr 33))]) (by decide) rfl (Nat.le_of_ble_eq_true rfl) (Nat.le_refl _) (Nat.le_refl _) (fun Ω hE => ?_)
  have hG := hE.G
  unfold f_X3_forget at hF
  refine s_aload_n hG dX3_forget_0 rfl ?_
  refine s_iconst hG dX3_forget_1 ⟨by decide, by decide⟩ ?_
  refine s_puti hG dX3_forget_2 fl_RX3_34 (fun h => by cases h) (sk_k hsk 33 rfl) rfl ?_
  cases hF
  exact s_vret hE dX3_forget_5 rfl
-- X3_look
theorem t_X3_look_l44_j99 {d n0 s0 nF sF : Nat} {X : MX} {r1 : Nat} {Ω : Nat → MS → Prop} {N : NN} {a2 : Int} {z1 : Int} {z2 : Int} (hsk : m_Sk X) (hd : 3 ≤ d) (h1 : m_isW X r1) (hG : m_G d yX3_look.cls yX3_look.name cX3_look 4 n0 s0 nF sF Ω) {out : ((NN × Int) ⊕ NN)} (hK0 : ∀ s' : (NN × Int), out = .inl s' → Ω 44 ([some (.inr (.inr 33)), some (.inr (.inr r1)), some (.inl (s'.2)), none], [], s'.1, X)) (hK1 : ∀ t : NN, out = .inr t → Ω 106 ([some (.inr (.inr 33)), some (.inr (.inr r1)), none, none], [], t, X)) (hF : f_X3_look_l44_j99 X r1 N a2 z1 z2 = some out) : Ω 99 ([some (.inr (.inr 33)), some (.inr (.inr r1)), some (.inl a2), none], [(.inl z2), (.inl z1), (.inr (.inr 40))], N, X) := by
  unfold f_X3_look_l44_j99 at hF
  obtain ⟨g15, hF⟩ := gd_some hF
  refine s_iastj (j := z1.toNat) hG dX3_look_99 (sk_K hsk 40 rfl) g15 rfl ?_
  refine s_iinc hG dX3_look_100 (by decide) rfl rfl ?_
  refine s_goto hG 44 dX3_look_103 (by decide) ?_
  cases hF
  exact hK0 _ rfl
theorem t_X3_look_l44_j77 {d n0 s0 nF sF : Nat} {X : MX} {r1 : Nat} {Ω : Nat → MS → Prop} {N : NN} {a2 : Int} {a3 : Int} {z1 : Int} {z2 : Int} (hsk : m_Sk X) (hd : 3 ≤ d) (h1 : m_isW X r1) (hG : m_G d yX3_look.cls yX3_look.name cX3_look 4 n0 s0 nF sF Ω) {out : ((NN × Int) ⊕ NN)} (hK0 : ∀ s' : (NN × Int), out = .inl s' → Ω 44 ([some (.inr (.inr 33)), some (.inr (.inr r1)), some (.inl (s'.2)), none], [], s'.1, X)) (hK1 : ∀ t : NN, out = .inr t → Ω 106 ([some (.inr (.inr 33)), some (.inr (.inr r1)), none, none], [], t, X)) (hF : f_X3_look_l44_j77 X r1 N a2 a3 z1 z2 = some out) : Ω 77 ([some (.inr (.inr 33)), some (.inr (.inr r1)), some (.inl a2), some (.inl a3)], [(.inl z2), (.inl z1), (.inr (.inr 40))], N, X) := by
  unfold f_X3_look_l44_j77 at hF
  obtain ⟨g11, hF⟩ := gd_some hF
  refine s_iastj (j := z1.toNat) hG dX3_look_77 (sk_K hsk 40 rfl) g11 rfl ?_
  refine s_aload_n hG dX3_look_78 rfl ?_
  refine s_getr (r := 40) hG dX3_look_79 fl_RX3_25 (sk_k hsk 33 rfl) rfl (sk_R hsk 33 3 rfl) ?_
  refine s_bipush hG dX3_look_82 bp_26 ⟨by decide, by decide⟩ ?_
  refine s_iload_n hG dX3_look_84 rfl ?_
  refine s_iadd hG dX3_look_85 ?_
  refine s_iload_n hG dX3_look_86 rfl ?_
  refine s_if_eq hG 98 dX3_look_87 (by decide) (fun c14 => ?_) (fun c14 => ?_)
  · replace hF := Eq.trans (if_pos c14).symm hF
    refine s_iconst hG dX3_look_98 ⟨by decide, by decide⟩ ?_
    refine m_weak (ls1 := [some (.inr (.inr 33)), some (.inr (.inr r1)), some (.inl a2), none]) hG ⟨rfl, ⟨rfl, ⟨rfl, trivial⟩⟩⟩ ?_
    exact t_X3_look_l44_j99 hsk hd h1 hG hK0 hK1 hF
  · replace hF := Eq.trans (if_neg c14).symm hF
    refine s_aload_n hG dX3_look_90 rfl ?_
    refine s_iload_n hG dX3_look_91 rfl ?_
    obtain ⟨o13, ho13, hF⟩ := bd_some hF
    refine s_callV (d' := d - 1) (ci := 10) (args := [.inl a2]) hG (by omega) dX3_look_92 cv_RX3_115 cw_X10_standingAgainst rfl rfl h1.1 (Nat.le_of_ble_eq_true rfl) rfl (t_X10_standingAgainst hsk (by omega) h1 ho13) ?_
    refine s_goto hG 99 dX3_look_95 (by decide) ?_
    refine m_weak (ls1 := [some (.inr (.inr 33)), some (.inr (.inr r1)), some (.inl a2), none]) hG ⟨rfl, ⟨rfl, ⟨rfl, trivial⟩⟩⟩ ?_
    exact t_X3_look_l44_j99 hsk hd h1 hG hK0 hK1 hF
theorem t_X3_look_b44 {d n0 s0 nF sF : Nat} {X : MX} {r1 : Nat} {Ω : Nat → MS → Prop} {N : NN} {a2 : Int} (hsk : m_Sk X) (hd : 3 ≤ d) (h1 : m_isW X r1) (hG : m_G d yX3_look.cls yX3_look.name cX3_look 4 n0 s0 nF sF Ω) {out : ((NN × Int) ⊕ NN)} (hK0 : ∀ s' : (NN × Int), out = .inl s' → Ω 44 ([some (.inr (.inr 33)), some (.inr (.inr r1)), some (.inl (s'.2)), none], [], s'.1, X)) (hK1 : ∀ t : NN, out = .inr t → Ω 106 ([some (.inr (.inr 33)), some (.inr (.inr r1)), none, none], [], t, X)) (hF : b_X3_look_44 X r1 N a2 = some out) : Ω 44 ([some (.inr (.inr 33)), some (.inr (.inr r1)), some (.inl a2), none], [], N, X) := by
  unfold b_X3_look_44 at hF
  refine s_iload_n hG dX3_look_44 rfl ?_
  refine s_bipush hG dX3_look_45 bp_6 ⟨by decide, by decide⟩ ?_
  refine s_icmp_ge hG 106 dX3_look_47 (by decide) (fun c10 => ?_) (fun c10 => ?_)
  · replace hF := Eq.trans (if_pos c10).symm hF
    refine s_aload_n hG dX3_look_50 rfl ?_
    refine s_iload_n hG dX3_look_51 rfl ?_
    obtain ⟨o7, ho7, hF⟩ := bd_some hF
    refine s_callV (d' := d - 1) (ci := 10) (args := [.inl a2]) hG (by omega) dX3_look_52 cv_RX3_98 cw_X10_isLord rfl rfl h1.1 (Nat.le_of_ble_eq_true rfl) rfl (t_X10_isLord hsk (by omega) h1 ho7) ?_
    refine s_istore_n hG dX3_look_55 (by decide) rfl ?_
    refine s_aload_n hG dX3_look_56 rfl ?_
    refine s_getr (r := 40) hG dX3_look_57 fl_RX3_25 (sk_k hsk 33 rfl) rfl (sk_R hsk 33 3 rfl) ?_
    refine s_iconst hG dX3_look_60 ⟨by decide, by decide⟩ ?_
    refine s_iload_n hG dX3_look_61 rfl ?_
    refine s_iadd hG dX3_look_62 ?_
    refine s_iload_n hG dX3_look_63 rfl ?_
    refine s_if_eq hG 76 dX3_look_64 (by decide) (fun c9 => ?_) (fun c9 => ?_)
    · replace hF := Eq.trans (if_pos c9).symm hF
      refine s_iconst hG dX3_look_76 ⟨by decide, by decide⟩ ?_
      exact t_X3_look_l44_j77 hsk hd h1 hG hK0 hK1 hF
    · replace hF := Eq.trans (if_neg c9).symm hF
      refine s_aload_n hG dX3_look_67 rfl ?_
      refine s_iload_n hG dX3_look_68 rfl ?_
      refine s_iconst hG dX3_look_69 ⟨by decide, by decide⟩ ?_
      obtain ⟨o8, ho8, hF⟩ := bd_some hF
      refine s_callV (d' := d - 1) (ci := 10) (args := [.inl a2, .inl 0]) hG (by omega) dX3_look_70 cv_RX3_112 cw_X10_lordAt rfl rfl h1.1 (Nat.le_of_ble_eq_true rfl) rfl (t_X10_lordAt hsk (by omega) h1 ho8) ?_
      refine s_goto hG 77 dX3_look_73 (by decide) ?_
      exact t_X3_look_l44_j77 hsk hd h1 hG hK0 hK1 hF
  · replace hF := Eq.trans (if_neg c10).symm hF
    cases hF
    refine m_weak (ls1 := [some (.inr (.inr 33)), some (.inr (.inr r1)), none, none]) hG ⟨rfl, ⟨rfl, trivial⟩⟩ ?_
    exact hK1 _ rfl
theorem t_X3_look_lp44 {d n0 s0 nF sF : Nat} {X : MX} {r1 : Nat} {Ω : Nat → MS → Prop} {N : NN} {a2 : Int} (hsk : m_Sk X) (hd : 3 ≤ d) (h1 : m_isW X r1) (hG : m_G d yX3_look.cls yX3_look.name cX3_look 4 n0 s0 nF sF Ω) {t : NN} (hK1 : Ω 106 ([some (.inr (.inr 33)), some (.inr (.inr r1)), none, none], [], t, X)) (hl : lp (fun s => b_X3_look_44 X r1 s.1 s.2) (N, a2) = some t) : Ω 44 ([some (.inr (.inr 33)), some (.inr (.inr r1)), some (.inl a2), none], [], N, X) := by
  refine lp_ok (P := fun s => Ω 44 ([some (.inr (.inr 33)), some (.inr (.inr r1)), some (.inl s.2), none], [], s.1, X)) (K := fun t => Ω 106 ([some (.inr (.inr 33)), some (.inr (.inr r1)), none, none], [], t, X)) (fun s out hF hK0 hK1 => ?_) hl hK1
  exact t_X3_look_b44 hsk hd h1 hG (out := out) (fun s' e => hK0 s' e) (fun t' e => hK1 t' e) hF
theorem t_X3_look_l108_j140 {d n0 s0 nF sF : Nat} {X : MX} {r1 : Nat} {Ω : Nat → MS → Prop} {N : NN} {a2 : Int} {z1 : Int} {z2 : Int} (hsk : m_Sk X) (hd : 3 ≤ d) (h1 : m_isW X r1) (hG : m_G d yX3_look.cls yX3_look.name cX3_look 4 n0 s0 nF sF Ω) {out : ((NN × Int) ⊕ NN)} (hK0 : ∀ s' : (NN × Int), out = .inl s' → Ω 108 ([some (.inr (.inr 33)), some (.inr (.inr r1)), some (.inl (s'.2)), none], [], s'.1, X)) (hK1 : ∀ t : NN, out = .inr t → Ω 147 ([none, none, none, none], [], t, X)) (hF : f_X3_look_l108_j140 X r1 N a2 z1 z2 = some out) : Ω 140 ([some (.inr (.inr 33)), some (.inr (.inr r1)), some (.inl a2), none], [(.inl z2), (.inl z1), (.inr (.inr 40))], N, X) := by
  unfold f_X3_look_l108_j140 at hF
  obtain ⟨g22, hF⟩ := gd_some hF
  refine s_iastj (j := z1.toNat) hG dX3_look_140 (sk_K hsk 40 rfl) g22 rfl ?_
  refine s_iinc hG dX3_look_141 (by decide) rfl rfl ?_
  refine s_goto hG 108 dX3_look_144 (by decide) ?_
  cases hF
  exact hK0 _ rfl
theorem t_X3_look_b108 {d n0 s0 nF sF : Nat} {X : MX} {r1 : Nat} {Ω : Nat → MS → Prop} {N : NN} {a2 : Int} (hsk : m_Sk X) (hd : 3 ≤ d) (h1 : m_isW X r1) (hG : m_G d yX3_look.cls yX3_look.name cX3_look 4 n0 s0 nF sF Ω) {out : ((NN × Int) ⊕ NN)} (hK0 : ∀ s' : (NN × Int), out = .inl s' → Ω 108 ([some (.inr (.inr 33)), some (.inr (.inr r1)), some (.inl (s'.2)), none], [], s'.1, X)) (hK1 : ∀ t : NN, out = .inr t → Ω 147 ([none, none, none, none], [], t, X)) (hF : b_X3_look_108 X r1 N a2 = some out) : Ω 108 ([some (.inr (.inr 33)), some (.inr (.inr r1)), some (.inl a2), none], [], N, X) := by
  unfold b_X3_look_108 at hF
  refine s_iload_n hG dX3_look_108 rfl ?_
  refine s_bipush hG dX3_look_109 bp_16 ⟨by decide, by decide⟩ ?_
  refine s_icmp_ge hG 147 dX3_look_111 (by decide) (fun c21 => ?_) (fun c21 => ?_)
  · replace hF := Eq.trans (if_pos c21).symm hF
    refine s_aload_n hG dX3_look_114 rfl ?_
    refine s_getr (r := 40) hG dX3_look_115 fl_RX3_25 (sk_k hsk 33 rfl) rfl (sk_R hsk 33 3 rfl) ?_
    refine s_bipush hG dX3_look_118 bp_10 ⟨by decide, by decide⟩ ?_
    refine s_iload_n hG dX3_look_120 rfl ?_
    refine s_iadd hG dX3_look_121 ?_
    refine s_aload_n hG dX3_look_122 rfl ?_
    refine s_iload_n hG dX3_look_123 rfl ?_
    obtain ⟨o18, ho18, hF⟩ := bd_some hF
    refine s_callV (d' := d - 1) (ci := 10) (args := [.inl a2]) hG (by omega) dX3_look_124 cv_RX3_94 cw_X10_isGood rfl rfl h1.1 (Nat.le_of_ble_eq_true rfl) rfl (t_X10_isGood hsk (by omega) h1 ho18) ?_
    refine s_if_eq hG 139 dX3_look_127 (by decide) (fun c20 => ?_) (fun c20 => ?_)
    · replace hF := Eq.trans (if_pos c20).symm hF
      refine s_iconst hG dX3_look_139 ⟨by decide, by decide⟩ ?_
      exact t_X3_look_l108_j140 hsk hd h1 hG hK0 hK1 hF
    · replace hF := Eq.trans (if_neg c20).symm hF
      refine s_aload_n hG dX3_look_130 rfl ?_
      refine s_iload_n hG dX3_look_131 rfl ?_
      refine s_iconst hG dX3_look_132 ⟨by decide, by decide⟩ ?_
      obtain ⟨o19, ho19, hF⟩ := bd_some hF
      refine s_callV (d' := d - 1) (ci := 10) (args := [.inl a2, .inl 0]) hG (by omega) dX3_look_133 cv_RX3_118 cw_X10_goodAt rfl rfl h1.1 (Nat.le_of_ble_eq_true rfl) rfl (t_X10_goodAt hsk (by omega) h1 ho19) ?_
      refine s_goto hG 140 dX3_look_136 (by decide) ?_
      exact t_X3_look_l108_j140 hsk hd h1 hG hK0 hK1 hF
  · replace hF := Eq.trans (if_neg c21).symm hF
    cases hF
    refine m_weak (ls1 := [none, none, none, none]) hG trivial ?_
    exact hK1 _ rfl
theorem t_X3_look_lp108 {d n0 s0 nF sF : Nat} {X : MX} {r1 : Nat} {Ω : Nat → MS → Prop} {N : NN} {a2 : Int} (hsk : m_Sk X) (hd : 3 ≤ d) (h1 : m_isW X r1) (hG : m_G d yX3_look.cls yX3_look.name cX3_look 4 n0 s0 nF sF Ω) {t : NN} (hK1 : Ω 147 ([none, none, none, none], [], t, X)) (hl : lp (fun s => b_X3_look_108 X r1 s.1 s.2) (N, a2) = some t) : Ω 108 ([some (.inr (.inr 33)), some (.inr (.inr r1)), some (.inl a2), none], [], N, X) := by
  refine lp_ok (P := fun s => Ω 108 ([some (.inr (.inr 33)), some (.inr (.inr r1)), some (.inl s.2), none], [], s.1, X)) (K := fun t => Ω 147 ([none, none, none, none], [], t, X)) (fun s out hF hK0 hK1 => ?_) hl hK1
  exact t_X3_look_b108 hsk hd h1 hG (out := out) (fun s' e => hK0 s' e) (fun t' e => hK1 t' e) hF
theorem t_X3_look {d : Nat} {X : MX} {r1 : Nat} {N : NN} {out : NN} (hsk : m_Sk X) (hd : 3 ≤ d) (h1 : m_isW X r1) (hF : f_X3_look X r1 N = some out) : m_Call d yX3_look cX3_look 4 none [(.inr (.inr 33)), (.inr (.inr r1))] N X none out X := by
  refine m_mk (ls0 := [some (.inr (.inr 33)), some (.inr (.inr r1)), none, none]) (by decide) rfl (Nat.le_of_ble_eq_true rfl) (Nat.le_refl _) (Nat.le_refl _) (fun Ω hE => ?_)
  have hG := hE.G
  unfold f_X3_look at hF
  refine s_aload_n hG dX3_look_0 rfl ?_
  refine s_getr (r := 40) hG dX3_look_1 fl_RX3_25 (sk_k hsk 33 rfl) rfl (sk_R hsk 33 3 rfl) ?_
  refine s_iconst hG dX3_look_4 ⟨by decide, by decide⟩ ?_
  refine s_aload_n hG dX3_look_5 rfl ?_
  refine s_iconst hG dX3_look_6 ⟨by decide, by decide⟩ ?_
  obtain ⟨o1, ho1, hF⟩ := bd_some hF
  refine s_callV (d' := d - 1) (ci := 10) (args := [.inl 0]) hG (by omega) dX3_look_7 cv_RX3_76 cw_X10_term rfl rfl h1.1 (Nat.le_of_ble_eq_true rfl) rfl (t_X10_term hsk (by omega) h1 ho1) ?_
  refine s_iastj (j := 0) hG dX3_look_10 (sk_K hsk 40 rfl) ⟨by decide, by decide⟩ rfl ?_
  refine s_aload_n hG dX3_look_11 rfl ?_
  refine s_getr (r := 40) hG dX3_look_12 fl_RX3_25 (sk_k hsk 33 rfl) rfl (sk_R hsk 33 3 rfl) ?_
  refine s_iconst hG dX3_look_15 ⟨by decide, by decide⟩ ?_
  refine s_aload_n hG dX3_look_16 rfl ?_
  refine s_iconst hG dX3_look_17 ⟨by decide, by decide⟩ ?_
  obtain ⟨o3, ho3, hF⟩ := bd_some hF
  refine s_callV (d' := d - 1) (ci := 10) (args := [.inl 1]) hG (by omega) dX3_look_18 cv_RX3_109 cw_X10_many rfl rfl h1.1 (Nat.le_of_ble_eq_true rfl) rfl (t_X10_many hsk (by omega) h1 ho3) ?_
  refine s_iastj (j := 1) hG dX3_look_21 (sk_K hsk 40 rfl) ⟨by decide, by decide⟩ rfl ?_
  refine s_aload_n hG dX3_look_22 rfl ?_
  refine s_getr (r := 40) hG dX3_look_23 fl_RX3_25 (sk_k hsk 33 rfl) rfl (sk_R hsk 33 3 rfl) ?_
  refine s_iconst hG dX3_look_26 ⟨by decide, by decide⟩ ?_
  refine s_aload_n hG dX3_look_27 rfl ?_
  refine s_geti hG dX3_look_28 fl_RX3_38 (sk_k hsk 33 rfl) rfl ?_
  refine s_iastj (j := 2) hG dX3_look_31 (sk_K hsk 40 rfl) ⟨by decide, by decide⟩ rfl ?_
  refine s_aload_n hG dX3_look_32 rfl ?_
  refine s_getr (r := 40) hG dX3_look_33 fl_RX3_25 (sk_k hsk 33 rfl) rfl (sk_R hsk 33 3 rfl) ?_
  refine s_iconst hG dX3_look_36 ⟨by decide, by decide⟩ ?_
  refine s_aload_n hG dX3_look_37 rfl ?_
  refine s_geti hG dX3_look_38 fl_RX3_41 (sk_k hsk 33 rfl) rfl ?_
  refine s_iastj (j := 3) hG dX3_look_41 (sk_K hsk 40 rfl) ⟨by decide, by decide⟩ rfl ?_
  refine s_iconst hG dX3_look_42 ⟨by decide, by decide⟩ ?_
  refine s_istore_n hG dX3_look_43 (by decide) rfl ?_
  obtain ⟨o17, hlo17, hF⟩ := bd_some hF
  refine t_X3_look_lp44 hsk hd h1 hG ?_ hlo17
  refine s_iconst hG dX3_look_106 ⟨by decide, by decide⟩ ?_
  refine s_istore_n hG dX3_look_107 (by decide) rfl ?_
  obtain ⟨o24, hlo24, hF⟩ := bd_some hF
  refine t_X3_look_lp108 hsk hd h1 hG ?_ hlo24
  cases hF
  exact s_vret hE dX3_look_147 rfl
-- X3_step
theorem t_X3_step_j134 {d n0 s0 nF sF : Nat} {X : MX} {r1 : Nat} {r3 : Nat} {r4 : Nat} {Ω : Nat → MS → Prop} {N : NN} (hsk : m_Sk X) (hd : 6 ≤ d) (h3 : m_isW X r3) (h4 : m_isP X r4) (hG : m_G d yX3_step.cls yX3_step.name cX3_step 7 n0 s0 nF sF Ω) {out : (Int × NN)} (hE : m_Gd d yX3_step cX3_step 7 (some .boolean) X (some (.inl out.1)) out.2 X Ω) (hF : f_X3_step_j134 X r1 r3 r4 N = some out) : Ω 134 ([none, none, none, none, none, none, none], [], N, X) := by
  unfold f_X3_step_j134 at hF
  refine s_iconst hG dX3_step_134 ⟨by decide, by decide⟩ ?_
  cases hF
  exact s_zret hE dX3_step_135 rfl ⟨by decide, by decide⟩
theorem t_X3_step_j159 {d n0 s0 nF sF : Nat} {X : MX} {r1 : Nat} {r3 : Nat} {r4 : Nat} {Ω : Nat → MS → Prop} {N : NN} (hsk : m_Sk X) (hd : 6 ≤ d) (h3 : m_isW X r3) (h4 : m_isP X r4) (hG : m_G d yX3_step.cls yX3_step.name cX3_step 7 n0 s0 nF sF Ω) {out : (Int × NN)} (hE : m_Gd d yX3_step cX3_step 7 (some .boolean) X (some (.inl out.1)) out.2 X Ω) (hF : f_X3_step_j159 X r1 r3 r4 N = some out) : Ω 159 ([some (.inr (.inr 33)), none, none, none, none, none, none], [], N, X) := by
  unfold f_X3_step_j159 at hF
  refine s_aload_n hG dX3_step_159 rfl ?_
  refine s_dup hG dX3_step_160 rfl ?_
  refine s_geti hG dX3_step_161 fl_RX3_38 (sk_k hsk 33 rfl) rfl ?_
  refine s_iconst hG dX3_step_164 ⟨by decide, by decide⟩ ?_
  refine s_iadd hG dX3_step_165 ?_
  refine s_puti hG dX3_step_166 fl_RX3_38 (fun h => by cases h) (sk_k hsk 33 rfl) rfl ?_
  refine s_iconst hG dX3_step_169 ⟨by decide, by decide⟩ ?_
  cases hF
  exact s_zret hE dX3_step_170 rfl ⟨by decide, by decide⟩
theorem t_X3_step {d : Nat} {X : MX} {r1 : Nat} {r3 : Nat} {r4 : Nat} {N : NN} {a2 : Int} {out : (Int × NN)} (hsk : m_Sk X) (hd : 6 ≤ d) (h3 : m_isW X r3) (h4 : m_isP X r4) (hF : f_X3_step X r1 r3 r4 N a2 = some out) : m_Call d yX3_step cX3_step 7 (some .boolean) [(.inr (.inr 33)), (.inr (.inr r1)), (.inl a2), (.inr (.inr r3)), (.inr (.inr r4))] N X (some (.inl out.1)) out.2 X := by
  refine m_mk (ls0 := [some (.inr (.inr 33)), some (.inr (.inr r1)), some (.inl a2), some (.inr (.inr r3)), some (.inr (.inr r4)), none, none]) (by decide) rfl (Nat.le_of_ble_eq_true rfl) (Nat.le_refl _) (Nat.le_refl _) (fun Ω hE => ?_)
  have hG := hE.G
  unfold f_X3_step at hF
  refine s_aload_n hG dX3_step_0 rfl ?_
  refine s_aload_n hG dX3_step_1 rfl ?_
  obtain ⟨o1, ho1, hF⟩ := bd_some hF
  refine s_callV (d' := d - 1) (ci := 3) (args := [.inr (.inr r3)]) hG (by omega) dX3_step_2 cv_RX3_67 cw_X3_look rfl rfl (sk_k hsk 33 rfl) (Nat.le_of_ble_eq_true rfl) rfl (t_X3_look hsk (by omega) h3 ho1) ?_
  refine s_aload_n hG dX3_step_5 rfl ?_
  refine s_iload_n hG dX3_step_6 rfl ?_
  refine s_aload_n hG dX3_step_7 rfl ?_
  refine s_getr (r := 40) hG dX3_step_8 fl_RX3_25 (sk_k hsk 33 rfl) rfl (sk_R hsk 33 3 rfl) ?_
  refine s_aload_n hG dX3_step_11 rfl ?_
  refine s_getr (r := 41) hG dX3_step_12 fl_RX3_31 (sk_k hsk 33 rfl) rfl (sk_R hsk 33 4 rfl) ?_
  obtain ⟨g2, hF⟩ := gd_some hF
  obtain ⟨o3, ho3, hF⟩ := bd_some hF
  refine s_callV (d' := d - 1) (ci := 8) (args := [.inl a2, .inr (.inr 40), .inr (.inr 41)]) hG (by omega) dX3_step_15 cv_RX3_70 cw_X8_isSo rfl rfl g2.1 (Nat.le_of_ble_eq_true rfl) rfl (t_X8_isSo hsk (by omega) g2 (m_k1f (sk_K hsk 40 rfl)) (m_k1f (sk_K hsk 41 rfl)) ho3) ?_
  refine s_if_ne hG 23 dX3_step_18 (by decide) (fun c24 => ?_) (fun c24 => ?_)
  · replace hF := Eq.trans (if_pos c24).symm hF
    refine s_iconst hG dX3_step_21 ⟨by decide, by decide⟩ ?_
    cases hF
    exact s_zret hE dX3_step_22 rfl ⟨by decide, by decide⟩
  · replace hF := Eq.trans (if_neg c24).symm hF
    refine s_aload_n hG dX3_step_23 rfl ?_
    refine s_iload_n hG dX3_step_24 rfl ?_
    refine s_iconst hG dX3_step_25 ⟨by decide, by decide⟩ ?_
    obtain ⟨g4, hF⟩ := gd_some hF
    obtain ⟨o5, ho5, hF⟩ := bd_some hF
    refine s_callV (d' := d - 1) (ci := 8) (args := [.inl a2, .inl 0]) hG (by omega) dX3_step_26 cv_RX3_59 cw_X8_part rfl rfl g4.1 (Nat.le_of_ble_eq_true rfl) rfl (t_X8_part hsk (by omega) g4 ho5) ?_
    refine s_sipush hG dX3_step_29 sp_265 ⟨by decide, by decide⟩ ?_
    refine s_icmp_ne hG 68 dX3_step_32 (by decide) (fun c23 => ?_) (fun c23 => ?_)
    · replace hF := Eq.trans (if_pos c23).symm hF
      refine s_aload_n hG dX3_step_35 rfl ?_
      refine s_iconst hG dX3_step_36 ⟨by decide, by decide⟩ ?_
      obtain ⟨o6, ho6, hF⟩ := bd_some hF
      refine s_callV (d' := d - 1) (ci := 10) (args := [.inl 0]) hG (by omega) dX3_step_37 cv_RX3_76 cw_X10_term rfl rfl h3.1 (Nat.le_of_ble_eq_true rfl) rfl (t_X10_term hsk (by omega) h3 ho6) ?_
      refine s_sipush hG dX3_step_40 sp_999 ⟨by decide, by decide⟩ ?_
      refine s_icmp_lt hG 48 dX3_step_43 (by decide) (fun c9 => ?_) (fun c9 => ?_)
      · replace hF := Eq.trans (if_pos c9).symm hF
        refine s_aload hG dX3_step_48 rfl ?_
        refine s_aload_n hG dX3_step_50 rfl ?_
        refine s_iconst hG dX3_step_51 ⟨by decide, by decide⟩ ?_
        obtain ⟨o7, ho7, hF⟩ := bd_some hF
        refine s_callV (d' := d - 1) (ci := 4) (args := [.inr (.inr r3), .inl 1]) hG (by omega) dX3_step_52 cv_RX3_80 cw_X4_keep rfl rfl h4.1 (Nat.le_of_ble_eq_true rfl) rfl (t_X4_keep hsk (by omega) h4 h3 ho7) ?_
        refine s_aload_n hG dX3_step_55 rfl ?_
        refine s_getr (r := 29) hG dX3_step_56 fl_RX3_44 (sk_k hsk 33 rfl) rfl (sk_R hsk 33 0 rfl) ?_
        refine s_aload_n hG dX3_step_59 rfl ?_
        refine s_iconst hG dX3_step_60 ⟨by decide, by decide⟩ ?_
        obtain ⟨o8, ho8, hF⟩ := bd_some hF
        refine s_callV (d' := d - 1) (ci := 0) (args := [.inr (.inr r3), .inl 0]) hG (by omega) dX3_step_61 cv_RX3_84 cw_X0_passYear rfl rfl (sk_k hsk 29 rfl) (Nat.le_of_ble_eq_true rfl) rfl (t_X0_passYear hsk (by omega) h3 ho8) ?_
        refine s_pop hG dX3_step_64 rfl ?_
        refine s_goto hG 159 dX3_step_65 (by decide) ?_
        refine m_weak (ls1 := [some (.inr (.inr 33)), none, none, none, none, none, none]) hG ⟨rfl, trivial⟩ ?_
        exact t_X3_step_j159 hsk hd h3 h4 hG hE hF
      · replace hF := Eq.trans (if_neg c9).symm hF
        refine s_iconst hG dX3_step_46 ⟨by decide, by decide⟩ ?_
        cases hF
        exact s_zret hE dX3_step_47 rfl ⟨by decide, by decide⟩
    · replace hF := Eq.trans (if_neg c23).symm hF
      refine s_aload_n hG dX3_step_68 rfl ?_
      refine s_iload_n hG dX3_step_69 rfl ?_
      refine s_iconst hG dX3_step_70 ⟨by decide, by decide⟩ ?_
      refine s_aload_n hG dX3_step_71 rfl ?_
      refine s_getr (r := 40) hG dX3_step_72 fl_RX3_25 (sk_k hsk 33 rfl) rfl (sk_R hsk 33 3 rfl) ?_
      refine s_aload_n hG dX3_step_75 rfl ?_
      refine s_getr (r := 41) hG dX3_step_76 fl_RX3_31 (sk_k hsk 33 rfl) rfl (sk_R hsk 33 4 rfl) ?_
      obtain ⟨g10, hF⟩ := gd_some hF
      obtain ⟨o11, ho11, hF⟩ := bd_some hF
      refine s_callV (d' := d - 1) (ci := 8) (args := [.inl a2, .inl 4, .inr (.inr 40), .inr (.inr 41)]) hG (by omega) dX3_step_79 cv_RX3_90 cw_X8_sum rfl rfl g10.1 (Nat.le_of_ble_eq_true rfl) rfl (t_X8_sum hsk (by omega) g10 (m_k1f (sk_K hsk 40 rfl)) (m_k1f (sk_K hsk 41 rfl)) ho11) ?_
      refine s_istore hG dX3_step_82 (by decide) rfl ?_
      refine s_aload_n hG dX3_step_84 rfl ?_
      refine s_iload_n hG dX3_step_85 rfl ?_
      refine s_bipush hG dX3_step_86 bp_6 ⟨by decide, by decide⟩ ?_
      refine s_aload_n hG dX3_step_88 rfl ?_
      refine s_getr (r := 40) hG dX3_step_89 fl_RX3_25 (sk_k hsk 33 rfl) rfl (sk_R hsk 33 3 rfl) ?_
      refine s_aload_n hG dX3_step_92 rfl ?_
      refine s_getr (r := 41) hG dX3_step_93 fl_RX3_31 (sk_k hsk 33 rfl) rfl (sk_R hsk 33 4 rfl) ?_
      obtain ⟨g12, hF⟩ := gd_some hF
      obtain ⟨o13, ho13, hF⟩ := bd_some hF
      refine s_callV (d' := d - 1) (ci := 8) (args := [.inl a2, .inl 6, .inr (.inr 40), .inr (.inr 41)]) hG (by omega) dX3_step_96 cv_RX3_90 cw_X8_sum rfl rfl g12.1 (Nat.le_of_ble_eq_true rfl) rfl (t_X8_sum hsk (by omega) g12 (m_k1f (sk_K hsk 40 rfl)) (m_k1f (sk_K hsk 41 rfl)) ho13) ?_
      refine s_istore hG dX3_step_99 (by decide) rfl ?_
      refine s_aload_n hG dX3_step_101 rfl ?_
      refine s_iload hG dX3_step_102 rfl ?_
      obtain ⟨o14, ho14, hF⟩ := bd_some hF
      refine s_callV (d' := d - 1) (ci := 10) (args := [.inl o11.1]) hG (by omega) dX3_step_104 cv_RX3_94 cw_X10_isGood rfl rfl h3.1 (Nat.le_of_ble_eq_true rfl) rfl (t_X10_isGood hsk (by omega) h3 ho14) ?_
      refine s_if_eq hG 134 dX3_step_107 (by decide) (fun c22 => ?_) (fun c22 => ?_)
      · replace hF := Eq.trans (if_pos c22).symm hF
        refine m_weak (ls1 := [none, none, none, none, none, none, none]) hG trivial ?_
        exact t_X3_step_j134 hsk hd h3 h4 hG hE hF
      · replace hF := Eq.trans (if_neg c22).symm hF
        refine s_aload_n hG dX3_step_110 rfl ?_
        refine s_iload hG dX3_step_111 rfl ?_
        obtain ⟨o15, ho15, hF⟩ := bd_some hF
        refine s_callV (d' := d - 1) (ci := 10) (args := [.inl o13.1]) hG (by omega) dX3_step_113 cv_RX3_98 cw_X10_isLord rfl rfl h3.1 (Nat.le_of_ble_eq_true rfl) rfl (t_X10_isLord hsk (by omega) h3 ho15) ?_
        refine s_if_eq hG 134 dX3_step_116 (by decide) (fun c21 => ?_) (fun c21 => ?_)
        · replace hF := Eq.trans (if_pos c21).symm hF
          refine m_weak (ls1 := [none, none, none, none, none, none, none]) hG trivial ?_
          exact t_X3_step_j134 hsk hd h3 h4 hG hE hF
        · replace hF := Eq.trans (if_neg c21).symm hF
          refine s_aload_n hG dX3_step_119 rfl ?_
          refine s_getr (r := 29) hG dX3_step_120 fl_RX3_44 (sk_k hsk 33 rfl) rfl (sk_R hsk 33 0 rfl) ?_
          refine s_aload_n hG dX3_step_123 rfl ?_
          refine s_iload hG dX3_step_124 rfl ?_
          refine s_iload hG dX3_step_126 rfl ?_
          obtain ⟨o16, ho16, hF⟩ := bd_some hF
          refine s_callV (d' := d - 1) (ci := 0) (args := [.inr (.inr r3), .inl o11.1, .inl o13.1]) hG (by omega) dX3_step_128 cv_RX3_101 cw_X0_mayGive rfl rfl (sk_k hsk 29 rfl) (Nat.le_of_ble_eq_true rfl) rfl (t_X0_mayGive hsk (by omega) h3 ho16) ?_
          refine s_if_ne hG 136 dX3_step_131 (by decide) (fun c20 => ?_) (fun c20 => ?_)
          · replace hF := Eq.trans (if_pos c20).symm hF
            refine m_weak (ls1 := [none, none, none, none, none, none, none]) hG trivial ?_
            exact t_X3_step_j134 hsk hd h3 h4 hG hE hF
          · replace hF := Eq.trans (if_neg c20).symm hF
            refine s_aload hG dX3_step_136 rfl ?_
            refine s_aload_n hG dX3_step_138 rfl ?_
            refine s_iconst hG dX3_step_139 ⟨by decide, by decide⟩ ?_
            obtain ⟨o17, ho17, hF⟩ := bd_some hF
            refine s_callV (d' := d - 1) (ci := 4) (args := [.inr (.inr r3), .inl 0]) hG (by omega) dX3_step_140 cv_RX3_80 cw_X4_keep rfl rfl h4.1 (Nat.le_of_ble_eq_true rfl) rfl (t_X4_keep hsk (by omega) h4 h3 ho17) ?_
            refine s_aload_n hG dX3_step_143 rfl ?_
            refine s_aload_n hG dX3_step_144 rfl ?_
            refine s_getr (r := 29) hG dX3_step_145 fl_RX3_44 (sk_k hsk 33 rfl) rfl (sk_R hsk 33 0 rfl) ?_
            refine s_aload_n hG dX3_step_148 rfl ?_
            refine s_iload hG dX3_step_149 rfl ?_
            refine s_iload hG dX3_step_151 rfl ?_
            obtain ⟨o18, ho18, hF⟩ := bd_some hF
            refine s_callV (d' := d - 1) (ci := 0) (args := [.inr (.inr r3), .inl o11.1, .inl o13.1]) hG (by omega) dX3_step_153 cv_RX3_105 cw_X0_hand rfl rfl (sk_k hsk 29 rfl) (Nat.le_of_ble_eq_true rfl) rfl (t_X0_hand hsk (by omega) h3 ho18) ?_
            refine s_puti hG dX3_step_156 fl_RX3_41 (fun h => by cases h) (sk_k hsk 33 rfl) rfl ?_
            refine m_weak (ls1 := [some (.inr (.inr 33)), none, none, none, none, none, none]) hG ⟨rfl, trivial⟩ ?_
            exact t_X3_step_j159 hsk hd h3 h4 hG hE hF
-- X4_copyFrom
theorem t_X4_copyFrom {d : Nat} {X : MX} {r0 : Nat} {r1 : Nat} {N : NN} {out : NN} (hsk : m_Sk X) (hd : 1 ≤ d) (h0 : m_isP X r0) (h1 : m_isP X r1) (hF : f_X4_copyFrom X r0 r1 N = some out) : m_Call d yX4_copyFrom cX4_copyFrom 2 none [(.inr (.inr r0)), (.inr (.inr r1))] N X none out X := by
  refine m_mk (ls0 := [some (.inr (.inr r0)), some (.inr (.inr r1))]) (by decide) rfl (Nat.le_of_ble_eq_true rfl) (Nat.le_refl _) (Nat.le_refl _) (fun Ω hE => ?_)
  have hG := hE.G
  unfold f_X4_copyFrom at hF
  refine s_aload_n hG dX4_copyFrom_0 rfl ?_
  refine s_getr (r := (r1 + 1)) hG dX4_copyFrom_1 fl_RX4_13 h1.1 rfl h1.2.1 ?_
  refine s_iconst hG dX4_copyFrom_4 ⟨by decide, by decide⟩ ?_
  refine s_aload_n hG dX4_copyFrom_5 rfl ?_
  refine s_getr (r := (r0 + 1)) hG dX4_copyFrom_6 fl_RX4_13 h0.1 rfl h0.2.1 ?_
  refine s_iconst hG dX4_copyFrom_9 ⟨by decide, by decide⟩ ?_
  refine s_aload_n hG dX4_copyFrom_10 rfl ?_
  refine s_getr (r := (r0 + 1)) hG dX4_copyFrom_11 fl_RX4_13 h0.1 rfl h0.2.1 ?_
  refine s_alen1j (v := 3056) hG dX4_copyFrom_14 h0.2.2.2.1 (by decide) rfl ?_
  obtain ⟨g1, hF⟩ := gd_some hF
  refine s_copy hG (by omega) dX4_copyFrom_15 ml_RX4_27 lk_cpy_n lk_cpy_s lk_sys (Nat.le_of_ble_eq_true rfl) h1.2.2.2.1 h0.2.2.2.1 g1 ?_
  refine s_aload_n hG dX4_copyFrom_18 rfl ?_
  refine s_getr (r := (r1 + 2)) hG dX4_copyFrom_19 fl_RX4_17 h1.1 rfl h1.2.2.1 ?_
  refine s_iconst hG dX4_copyFrom_22 ⟨by decide, by decide⟩ ?_
  refine s_aload_n hG dX4_copyFrom_23 rfl ?_
  refine s_getr (r := (r0 + 2)) hG dX4_copyFrom_24 fl_RX4_17 h0.1 rfl h0.2.2.1 ?_
  refine s_iconst hG dX4_copyFrom_27 ⟨by decide, by decide⟩ ?_
  refine s_aload_n hG dX4_copyFrom_28 rfl ?_
  refine s_getr (r := (r0 + 2)) hG dX4_copyFrom_29 fl_RX4_17 h0.1 rfl h0.2.2.1 ?_
  refine s_alen1j (v := 16) hG dX4_copyFrom_32 h0.2.2.2.2 (by decide) rfl ?_
  obtain ⟨g3, hF⟩ := gd_some hF
  refine s_copy hG (by omega) dX4_copyFrom_33 ml_RX4_27 lk_cpy_n lk_cpy_s lk_sys (Nat.le_of_ble_eq_true rfl) h1.2.2.2.2 h0.2.2.2.2 g3 ?_
  refine s_aload_n hG dX4_copyFrom_36 rfl ?_
  refine s_aload_n hG dX4_copyFrom_37 rfl ?_
  refine s_geti hG dX4_copyFrom_38 fl_RX4_20 h1.1 rfl ?_
  refine s_puti hG dX4_copyFrom_41 fl_RX4_20 (fun h => by cases h) h0.1 rfl ?_
  refine s_aload_n hG dX4_copyFrom_44 rfl ?_
  refine s_aload_n hG dX4_copyFrom_45 rfl ?_
  refine s_geti hG dX4_copyFrom_46 fl_RX4_24 h1.1 rfl ?_
  refine s_puti hG dX4_copyFrom_49 fl_RX4_24 (fun h => by cases h) h0.1 rfl ?_
  cases hF
  exact s_vret hE dX4_copyFrom_52 rfl
