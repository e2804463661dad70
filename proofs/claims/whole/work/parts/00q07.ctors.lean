/-! the constructors, each at its id -/
theorem kX10_init_4 : m_Call 3 yX10_init cX10_init 1 none [.inr (.inr 4)] Nc_0 (lX KLc_5 RLc_2 18) none Nc_4 (lX KLc_7 RLc_6 290) := by
  refine m_mk (ls0 := [some (.inr (.inr 4))]) (by decide) rfl (Nat.le_of_ble_eq_true rfl) (show KLc_5.length ≤ KLc_7.length by rw [kl_5, kl_7]; decide) (show 18 ≤ 290 by decide) (fun Ω hE => ?_)
  have hG := hE.G
  refine s_aload_n hG dX10_init_0 rfl ?_
  refine s_objInit hG (by omega) (by omega) dX10_init_1 ml_RX10_5 oi_i oi_c (Nat.le_of_ble_eq_true rfl) ?_
  refine s_aload_n hG dX10_init_4 rfl ?_
  refine s_sipush hG dX10_init_5 sp_266 ⟨by decide, by decide⟩ ?_
  refine n_newI hG 266 dX10_init_8 rfl (by decide) ac_I kl_5 rl_2 (fun _ => rfl) kc_6 rc_3 rfl ?_
  refine n_putr hG dX10_init_10 fl_RX10_11 (fun _ => rfl) (by decide +kernel) rfl (show 4 < RLc_3.length by decide +kernel) rc_4 ?_
  refine s_aload_n hG dX10_init_13 rfl ?_
  refine s_bipush hG dX10_init_14 bp_6 ⟨by decide, by decide⟩ ?_
  refine n_newT hG 6 dX10_init_16 rfl (by decide) wd_165 kl_6 rl_4 (fun _ => rfl) kc_7 rc_5 rfl ?_
  refine n_putr hG dX10_init_19 fl_RX10_17 (fun _ => rfl) (by decide +kernel) rfl (show 4 < RLc_5.length by decide +kernel) rc_6 ?_
  refine s_aload_n hG dX10_init_22 rfl ?_
  refine s_iconst hG dX10_init_23 ⟨by decide, by decide⟩ ?_
  refine n_put0z hG dX10_init_24 fl_RX10_21 (fun _ => rfl) (lX_k (by decide +kernel)) rfl rfl ?_
  refine s_aload_n hG dX10_init_27 rfl ?_
  refine s_getr (r := 5) hG dX10_init_28 fl_RX10_11 (lX_k (by decide +kernel)) rfl (lX_R (by decide +kernel)) ?_
  refine s_iconst hG dX10_init_31 ⟨by decide, by decide⟩ ?_
  refine s_iconst hG dX10_init_32 ⟨by decide, by decide⟩ ?_
  refine s_iastj (j := 1) hG dX10_init_33 (lX_K (v := (1, 266)) (by decide +kernel)) ⟨by decide, by decide⟩ rfl ?_
  refine n_N nc_1 ?_
  refine s_aload_n hG dX10_init_34 rfl ?_
  refine s_getr (r := 5) hG dX10_init_35 fl_RX10_11 (lX_k (by decide +kernel)) rfl (lX_R (by decide +kernel)) ?_
  refine s_sipush hG dX10_init_38 sp_196 ⟨by decide, by decide⟩ ?_
  refine s_iconst hG dX10_init_41 ⟨by decide, by decide⟩ ?_
  refine s_iastj (j := 196) hG dX10_init_42 (lX_K (v := (1, 266)) (by decide +kernel)) ⟨by decide, by decide⟩ rfl ?_
  refine n_N nc_2 ?_
  refine s_aload_n hG dX10_init_43 rfl ?_
  refine s_getr (r := 5) hG dX10_init_44 fl_RX10_11 (lX_k (by decide +kernel)) rfl (lX_R (by decide +kernel)) ?_
  refine s_bipush hG dX10_init_47 bp_119 ⟨by decide, by decide⟩ ?_
  refine s_sipush hG dX10_init_49 sp_155 ⟨by decide, by decide⟩ ?_
  refine s_iconst hG dX10_init_52 ⟨by decide, by decide⟩ ?_
  refine s_callS (d' := 2) (args := [.inr (.inr 5), .inl 119, .inl 155, .inl (-1)]) hG (by omega) dX10_init_53 cs_RX10_25 cw_J7_fill_fda19 rfl (Nat.le_of_ble_eq_true rfl) rfl (u_fill (lX_K (v := (1, 266)) (by decide +kernel)) (by decide) (by decide) (by decide) rfl rfl) ?_
  refine n_N nc_3 ?_
  refine s_aload_n hG dX10_init_56 rfl ?_
  refine s_getr (r := 5) hG dX10_init_57 fl_RX10_11 (lX_k (by decide +kernel)) rfl (lX_R (by decide +kernel)) ?_
  refine s_sipush hG dX10_init_60 sp_197 ⟨by decide, by decide⟩ ?_
  refine s_sipush hG dX10_init_63 sp_213 ⟨by decide, by decide⟩ ?_
  refine s_iconst hG dX10_init_66 ⟨by decide, by decide⟩ ?_
  refine s_callS (d' := 2) (args := [.inr (.inr 5), .inl 197, .inl 213, .inl (-1)]) hG (by omega) dX10_init_67 cs_RX10_25 cw_J7_fill_fda19 rfl (Nat.le_of_ble_eq_true rfl) rfl (u_fill (lX_K (v := (1, 266)) (by decide +kernel)) (by decide) (by decide) (by decide) rfl rfl) ?_
  refine n_N nc_4 ?_
  exact s_vret hE dX10_init_70 rfl
theorem kX10_init_7 : m_Call 3 yX10_init cX10_init 1 none [.inr (.inr 7)] Nc_4 (lX KLc_8 RLc_8 293) none Nc_8 (lX KLc_10 RLc_12 565) := by
  refine m_mk (ls0 := [some (.inr (.inr 7))]) (by decide) rfl (Nat.le_of_ble_eq_true rfl) (show KLc_8.length ≤ KLc_10.length by rw [kl_8, kl_10]; decide) (show 293 ≤ 565 by decide) (fun Ω hE => ?_)
  have hG := hE.G
  refine s_aload_n hG dX10_init_0 rfl ?_
  refine s_objInit hG (by omega) (by omega) dX10_init_1 ml_RX10_5 oi_i oi_c (Nat.le_of_ble_eq_true rfl) ?_
  refine s_aload_n hG dX10_init_4 rfl ?_
  refine s_sipush hG dX10_init_5 sp_266 ⟨by decide, by decide⟩ ?_
  refine n_newI hG 266 dX10_init_8 rfl (by decide) ac_I kl_8 rl_8 (fun _ => rfl) kc_9 rc_9 rfl ?_
  refine n_putr hG dX10_init_10 fl_RX10_11 (fun _ => rfl) (by decide +kernel) rfl (show 7 < RLc_9.length by decide +kernel) rc_10 ?_
  refine s_aload_n hG dX10_init_13 rfl ?_
  refine s_bipush hG dX10_init_14 bp_6 ⟨by decide, by decide⟩ ?_
  refine n_newT hG 6 dX10_init_16 rfl (by decide) wd_165 kl_9 rl_10 (fun _ => rfl) kc_10 rc_11 rfl ?_
  refine n_putr hG dX10_init_19 fl_RX10_17 (fun _ => rfl) (by decide +kernel) rfl (show 7 < RLc_11.length by decide +kernel) rc_12 ?_
  refine s_aload_n hG dX10_init_22 rfl ?_
  refine s_iconst hG dX10_init_23 ⟨by decide, by decide⟩ ?_
  refine n_put0z hG dX10_init_24 fl_RX10_21 (fun _ => rfl) (lX_k (by decide +kernel)) rfl rfl ?_
  refine s_aload_n hG dX10_init_27 rfl ?_
  refine s_getr (r := 8) hG dX10_init_28 fl_RX10_11 (lX_k (by decide +kernel)) rfl (lX_R (by decide +kernel)) ?_
  refine s_iconst hG dX10_init_31 ⟨by decide, by decide⟩ ?_
  refine s_iconst hG dX10_init_32 ⟨by decide, by decide⟩ ?_
  refine s_iastj (j := 1) hG dX10_init_33 (lX_K (v := (1, 266)) (by decide +kernel)) ⟨by decide, by decide⟩ rfl ?_
  refine n_N nc_5 ?_
  refine s_aload_n hG dX10_init_34 rfl ?_
  refine s_getr (r := 8) hG dX10_init_35 fl_RX10_11 (lX_k (by decide +kernel)) rfl (lX_R (by decide +kernel)) ?_
  refine s_sipush hG dX10_init_38 sp_196 ⟨by decide, by decide⟩ ?_
  refine s_iconst hG dX10_init_41 ⟨by decide, by decide⟩ ?_
  refine s_iastj (j := 196) hG dX10_init_42 (lX_K (v := (1, 266)) (by decide +kernel)) ⟨by decide, by decide⟩ rfl ?_
  refine n_N nc_6 ?_
  refine s_aload_n hG dX10_init_43 rfl ?_
  refine s_getr (r := 8) hG dX10_init_44 fl_RX10_11 (lX_k (by decide +kernel)) rfl (lX_R (by decide +kernel)) ?_
  refine s_bipush hG dX10_init_47 bp_119 ⟨by decide, by decide⟩ ?_
  refine s_sipush hG dX10_init_49 sp_155 ⟨by decide, by decide⟩ ?_
  refine s_iconst hG dX10_init_52 ⟨by decide, by decide⟩ ?_
  refine s_callS (d' := 2) (args := [.inr (.inr 8), .inl 119, .inl 155, .inl (-1)]) hG (by omega) dX10_init_53 cs_RX10_25 cw_J7_fill_fda19 rfl (Nat.le_of_ble_eq_true rfl) rfl (u_fill (lX_K (v := (1, 266)) (by decide +kernel)) (by decide) (by decide) (by decide) rfl rfl) ?_
  refine n_N nc_7 ?_
  refine s_aload_n hG dX10_init_56 rfl ?_
  refine s_getr (r := 8) hG dX10_init_57 fl_RX10_11 (lX_k (by decide +kernel)) rfl (lX_R (by decide +kernel)) ?_
  refine s_sipush hG dX10_init_60 sp_197 ⟨by decide, by decide⟩ ?_
  refine s_sipush hG dX10_init_63 sp_213 ⟨by decide, by decide⟩ ?_
  refine s_iconst hG dX10_init_66 ⟨by decide, by decide⟩ ?_
  refine s_callS (d' := 2) (args := [.inr (.inr 8), .inl 197, .inl 213, .inl (-1)]) hG (by omega) dX10_init_67 cs_RX10_25 cw_J7_fill_fda19 rfl (Nat.le_of_ble_eq_true rfl) rfl (u_fill (lX_K (v := (1, 266)) (by decide +kernel)) (by decide) (by decide) (by decide) rfl rfl) ?_
  refine n_N nc_8 ?_
  exact s_vret hE dX10_init_70 rfl
theorem kX10_init_10 : m_Call 3 yX10_init cX10_init 1 none [.inr (.inr 10)] Nc_8 (lX KLc_11 RLc_14 568) none Nc_12 (lX KLc_13 RLc_18 840) := by
  refine m_mk (ls0 := [some (.inr (.inr 10))]) (by decide) rfl (Nat.le_of_ble_eq_true rfl) (show KLc_11.length ≤ KLc_13.length by rw [kl_11, kl_13]; decide) (show 568 ≤ 840 by decide) (fun Ω hE => ?_)
  have hG := hE.G
  refine s_aload_n hG dX10_init_0 rfl ?_
  refine s_objInit hG (by omega) (by omega) dX10_init_1 ml_RX10_5 oi_i oi_c (Nat.le_of_ble_eq_true rfl) ?_
  refine s_aload_n hG dX10_init_4 rfl ?_
  refine s_sipush hG dX10_init_5 sp_266 ⟨by decide, by decide⟩ ?_
  refine n_newI hG 266 dX10_init_8 rfl (by decide) ac_I kl_11 rl_14 (fun _ => rfl) kc_12 rc_15 rfl ?_
  refine n_putr hG dX10_init_10 fl_RX10_11 (fun _ => rfl) (by decide +kernel) rfl (show 10 < RLc_15.length by decide +kernel) rc_16 ?_
  refine s_aload_n hG dX10_init_13 rfl ?_
  refine s_bipush hG dX10_init_14 bp_6 ⟨by decide, by decide⟩ ?_
  refine n_newT hG 6 dX10_init_16 rfl (by decide) wd_165 kl_12 rl_16 (fun _ => rfl) kc_13 rc_17 rfl ?_
  refine n_putr hG dX10_init_19 fl_RX10_17 (fun _ => rfl) (by decide +kernel) rfl (show 10 < RLc_17.length by decide +kernel) rc_18 ?_
  refine s_aload_n hG dX10_init_22 rfl ?_
  refine s_iconst hG dX10_init_23 ⟨by decide, by decide⟩ ?_
  refine n_put0z hG dX10_init_24 fl_RX10_21 (fun _ => rfl) (lX_k (by decide +kernel)) rfl rfl ?_
  refine s_aload_n hG dX10_init_27 rfl ?_
  refine s_getr (r := 11) hG dX10_init_28 fl_RX10_11 (lX_k (by decide +kernel)) rfl (lX_R (by decide +kernel)) ?_
  refine s_iconst hG dX10_init_31 ⟨by decide, by decide⟩ ?_
  refine s_iconst hG dX10_init_32 ⟨by decide, by decide⟩ ?_
  refine s_iastj (j := 1) hG dX10_init_33 (lX_K (v := (1, 266)) (by decide +kernel)) ⟨by decide, by decide⟩ rfl ?_
  refine n_N nc_9 ?_
  refine s_aload_n hG dX10_init_34 rfl ?_
  refine s_getr (r := 11) hG dX10_init_35 fl_RX10_11 (lX_k (by decide +kernel)) rfl (lX_R (by decide +kernel)) ?_
  refine s_sipush hG dX10_init_38 sp_196 ⟨by decide, by decide⟩ ?_
  refine s_iconst hG dX10_init_41 ⟨by decide, by decide⟩ ?_
  refine s_iastj (j := 196) hG dX10_init_42 (lX_K (v := (1, 266)) (by decide +kernel)) ⟨by decide, by decide⟩ rfl ?_
  refine n_N nc_10 ?_
  refine s_aload_n hG dX10_init_43 rfl ?_
  refine s_getr (r := 11) hG dX10_init_44 fl_RX10_11 (lX_k (by decide +kernel)) rfl (lX_R (by decide +kernel)) ?_
  refine s_bipush hG dX10_init_47 bp_119 ⟨by decide, by decide⟩ ?_
  refine s_sipush hG dX10_init_49 sp_155 ⟨by decide, by decide⟩ ?_
  refine s_iconst hG dX10_init_52 ⟨by decide, by decide⟩ ?_
  refine s_callS (d' := 2) (args := [.inr (.inr 11), .inl 119, .inl 155, .inl (-1)]) hG (by omega) dX10_init_53 cs_RX10_25 cw_J7_fill_fda19 rfl (Nat.le_of_ble_eq_true rfl) rfl (u_fill (lX_K (v := (1, 266)) (by decide +kernel)) (by decide) (by decide) (by decide) rfl rfl) ?_
  refine n_N nc_11 ?_
  refine s_aload_n hG dX10_init_56 rfl ?_
  refine s_getr (r := 11) hG dX10_init_57 fl_RX10_11 (lX_k (by decide +kernel)) rfl (lX_R (by decide +kernel)) ?_
  refine s_sipush hG dX10_init_60 sp_197 ⟨by decide, by decide⟩ ?_
  refine s_sipush hG dX10_init_63 sp_213 ⟨by decide, by decide⟩ ?_
  refine s_iconst hG dX10_init_66 ⟨by decide, by decide⟩ ?_
  refine s_callS (d' := 2) (args := [.inr (.inr 11), .inl 197, .inl 213, .inl (-1)]) hG (by omega) dX10_init_67 cs_RX10_25 cw_J7_fill_fda19 rfl (Nat.le_of_ble_eq_true rfl) rfl (u_fill (lX_K (v := (1, 266)) (by decide +kernel)) (by decide) (by decide) (by decide) rfl rfl) ?_
  refine n_N nc_12 ?_
  exact s_vret hE dX10_init_70 rfl
theorem kX4_init_13 : m_Call 1 yX4_init cX4_init 1 none [.inr (.inr 13)] Nc_12 (lX KLc_14 RLc_20 844) none Nc_12 (lX KLc_16 RLc_24 3916) := by
  refine m_mk (ls0 := [some (.inr (.inr 13))]) (by decide) rfl (Nat.le_of_ble_eq_true rfl) (show KLc_14.length ≤ KLc_16.length by rw [kl_14, kl_16]; decide) (show 844 ≤ 3916 by decide) (fun Ω hE => ?_)
  have hG := hE.G
  refine s_aload_n hG dX4_init_0 rfl ?_
  refine s_objInit hG (by omega) (by omega) dX4_init_1 ml_RX4_3 oi_i oi_c (Nat.le_of_ble_eq_true rfl) ?_
  refine s_aload_n hG dX4_init_4 rfl ?_
  refine s_sipush hG dX4_init_5 sp_3056 ⟨by decide, by decide⟩ ?_
  refine n_newI hG 3056 dX4_init_8 rfl (by decide) ac_I kl_14 rl_20 (fun _ => rfl) kc_15 rc_21 rfl ?_
  refine n_putr hG dX4_init_10 fl_RX4_13 (fun _ => rfl) (by decide +kernel) rfl (show 13 < RLc_21.length by decide +kernel) rc_22 ?_
  refine s_aload_n hG dX4_init_13 rfl ?_
  refine s_bipush hG dX4_init_14 bp_16 ⟨by decide, by decide⟩ ?_
  refine n_newI hG 16 dX4_init_16 rfl (by decide) ac_I kl_15 rl_22 (fun _ => rfl) kc_16 rc_23 rfl ?_
  refine n_putr hG dX4_init_18 fl_RX4_17 (fun _ => rfl) (by decide +kernel) rfl (show 13 < RLc_23.length by decide +kernel) rc_24 ?_
  refine s_aload_n hG dX4_init_21 rfl ?_
  refine s_iconst hG dX4_init_22 ⟨by decide, by decide⟩ ?_
  refine n_put0 hG dX4_init_23 fl_RX4_20 (fun _ => rfl) (lX_k (by decide +kernel)) rfl rfl ?_
  refine s_aload_n hG dX4_init_26 rfl ?_
  refine s_iconst hG dX4_init_27 ⟨by decide, by decide⟩ ?_
  refine n_put0 hG dX4_init_28 fl_RX4_24 (fun _ => rfl) (lX_k (by decide +kernel)) rfl rfl ?_
  exact s_vret hE dX4_init_31 rfl
theorem kX8_init_21 : m_Call 1 yX8_init cX8_init 3 none [.inr (.inr 21), .inl 400, .inl 12] Nc_12 (lX KLc_22 RLc_35 5535) none Nc_12 (lX KLc_25 RLc_41 6431) := by
  refine m_mk (ls0 := [some (.inr (.inr 21)), some (.inl 400), some (.inl 12)]) (by decide) rfl (Nat.le_of_ble_eq_true rfl) (show KLc_22.length ≤ KLc_25.length by rw [kl_22, kl_25]; decide) (show 5535 ≤ 6431 by decide) (fun Ω hE => ?_)
  have hG := hE.G
  refine s_aload_n hG dX8_init_0 rfl ?_
  refine s_objInit hG (by omega) (by omega) dX8_init_1 ml_RX8_1 oi_i oi_c (Nat.le_of_ble_eq_true rfl) ?_
  refine s_aload_n hG dX8_init_4 rfl ?_
  refine s_iload_n hG dX8_init_5 rfl ?_
  refine s_iconst hG dX8_init_6 ⟨by decide, by decide⟩ ?_
  refine s_max hG (by omega) dX8_init_7 ml_RX8_7 lk_max_s lk_math lk_max_c (Nat.le_of_ble_eq_true rfl) ?_
  refine n_newI hG 400 dX8_init_10 rfl (by decide) ac_I kl_22 rl_35 (fun _ => rfl) kc_23 rc_36 rfl ?_
  refine n_putr hG dX8_init_12 fl_RX8_13 (fun _ => rfl) (by decide +kernel) rfl (show 21 < RLc_36.length by decide +kernel) rc_37 ?_
  refine s_aload_n hG dX8_init_15 rfl ?_
  refine s_iload_n hG dX8_init_16 rfl ?_
  refine s_iconst hG dX8_init_17 ⟨by decide, by decide⟩ ?_
  refine s_max hG (by omega) dX8_init_18 ml_RX8_7 lk_max_s lk_math lk_max_c (Nat.le_of_ble_eq_true rfl) ?_
  refine n_newI hG 400 dX8_init_21 rfl (by decide) ac_I kl_23 rl_37 (fun _ => rfl) kc_24 rc_38 rfl ?_
  refine n_putr hG dX8_init_23 fl_RX8_19 (fun _ => rfl) (by decide +kernel) rfl (show 21 < RLc_38.length by decide +kernel) rc_39 ?_
  refine s_aload_n hG dX8_init_26 rfl ?_
  refine s_iload_n hG dX8_init_27 rfl ?_
  refine s_iconst hG dX8_init_28 ⟨by decide, by decide⟩ ?_
  refine s_max hG (by omega) dX8_init_29 ml_RX8_7 lk_max_s lk_math lk_max_c (Nat.le_of_ble_eq_true rfl) ?_
  refine s_bipush hG dX8_init_32 bp_8 ⟨by decide, by decide⟩ ?_
  refine n_imul hG dX8_init_34 (v := 96) (by decide +kernel) ?_
  refine n_newI hG 96 dX8_init_35 rfl (by decide) ac_I kl_24 rl_39 (fun _ => rfl) kc_25 rc_40 rfl ?_
  refine n_putr hG dX8_init_37 fl_RX8_22 (fun _ => rfl) (by decide +kernel) rfl (show 21 < RLc_40.length by decide +kernel) rc_41 ?_
  refine s_aload_n hG dX8_init_40 rfl ?_
  refine s_iconst hG dX8_init_41 ⟨by decide, by decide⟩ ?_
  refine n_put0 hG dX8_init_42 fl_RX8_25 (fun _ => rfl) (lX_k (by decide +kernel)) rfl rfl ?_
  refine s_aload_n hG dX8_init_45 rfl ?_
  refine s_iconst hG dX8_init_46 ⟨by decide, by decide⟩ ?_
  refine n_put0 hG dX8_init_47 fl_RX8_29 (fun _ => rfl) (lX_k (by decide +kernel)) rfl rfl ?_
  exact s_vret hE dX8_init_50 rfl
theorem kX5_init_16 : m_Call 2 yX5_init cX5_init 1 none [.inr (.inr 16)] Nc_12 (lX KLc_17 RLc_26 3927) none Nc_14 (lX KLc_25 RLc_42 6431) := by
  refine m_mk (ls0 := [some (.inr (.inr 16))]) (by decide) rfl (Nat.le_of_ble_eq_true rfl) (show KLc_17.length ≤ KLc_25.length by rw [kl_17, kl_25]; decide) (show 3927 ≤ 6431 by decide) (fun Ω hE => ?_)
  have hG := hE.G
  refine s_aload_n hG dX5_init_0 rfl ?_
  refine s_objInit hG (by omega) (by omega) dX5_init_1 ml_RX5_5 oi_i oi_c (Nat.le_of_ble_eq_true rfl) ?_
  refine s_aload_n hG dX5_init_4 rfl ?_
  refine s_sipush hG dX5_init_5 sp_400 ⟨by decide, by decide⟩ ?_
  refine n_newI hG 400 dX5_init_8 rfl (by decide) ac_I kl_17 rl_26 (fun _ => rfl) kc_18 rc_27 rfl ?_
  refine n_putr hG dX5_init_10 fl_RX5_11 (fun _ => rfl) (by decide +kernel) rfl (show 16 < RLc_27.length by decide +kernel) rc_28 ?_
  refine s_aload_n hG dX5_init_13 rfl ?_
  refine s_sipush hG dX5_init_14 sp_401 ⟨by decide, by decide⟩ ?_
  refine n_newI hG 401 dX5_init_17 rfl (by decide) ac_I kl_18 rl_28 (fun _ => rfl) kc_19 rc_29 rfl ?_
  refine n_putr hG dX5_init_19 fl_RX5_15 (fun _ => rfl) (by decide +kernel) rfl (show 16 < RLc_29.length by decide +kernel) rc_30 ?_
  refine s_aload_n hG dX5_init_22 rfl ?_
  refine s_sipush hG dX5_init_23 sp_401 ⟨by decide, by decide⟩ ?_
  refine n_newI hG 401 dX5_init_26 rfl (by decide) ac_I kl_19 rl_30 (fun _ => rfl) kc_20 rc_31 rfl ?_
  refine n_putr hG dX5_init_28 fl_RX5_18 (fun _ => rfl) (by decide +kernel) rfl (show 16 < RLc_31.length by decide +kernel) rc_32 ?_
  refine s_aload_n hG dX5_init_31 rfl ?_
  refine s_sipush hG dX5_init_32 sp_401 ⟨by decide, by decide⟩ ?_
  refine n_newI hG 401 dX5_init_35 rfl (by decide) ac_I kl_20 rl_32 (fun _ => rfl) kc_21 rc_33 rfl ?_
  refine n_putr hG dX5_init_37 fl_RX5_21 (fun _ => rfl) (by decide +kernel) rfl (show 16 < RLc_33.length by decide +kernel) rc_34 ?_
  refine s_aload_n hG dX5_init_40 rfl ?_
  refine n_new hG (ci := 8) (C := RX8) (T := TX8) dX5_init_41 rfl inX8 rfl tyX8_ok tkX8 wd_209 wd_210 wd_135 kl_21 rl_34 (fun _ => rfl) kc_22 rc_35 rfl ?_
  refine s_dup hG dX5_init_44 rfl ?_
  refine s_sipush hG dX5_init_45 sp_400 ⟨by decide, by decide⟩ ?_
  refine s_bipush hG dX5_init_48 bp_12 ⟨by decide, by decide⟩ ?_
  refine s_callI (d' := 1) (o := 21) (args := [.inl 400, .inl 12]) hG (by omega) (by omega) dX5_init_50 ci_RX5_26 cw_X8_init rfl (Nat.le_of_ble_eq_true rfl) rfl kX8_init_21 ?_
  refine n_putr hG dX5_init_53 fl_RX5_29 (fun _ => rfl) (by decide +kernel) rfl (show 16 < RLc_41.length by decide +kernel) rc_42 ?_
  refine s_aload_n hG dX5_init_56 rfl ?_
  refine s_iconst hG dX5_init_57 ⟨by decide, by decide⟩ ?_
  refine n_put0 hG dX5_init_58 fl_RX5_33 (fun _ => rfl) (lX_k (by decide +kernel)) rfl rfl ?_
  refine s_aload_n hG dX5_init_61 rfl ?_
  refine s_iconst hG dX5_init_62 ⟨by decide, by decide⟩ ?_
  refine s_puti hG dX5_init_63 fl_RX5_37 (fun _ => rfl) (lX_k (by decide +kernel)) rfl ?_
  refine n_N nc_13 ?_
  refine s_aload_n hG dX5_init_66 rfl ?_
  refine s_iconst hG dX5_init_67 ⟨by decide, by decide⟩ ?_
  refine n_put0z hG dX5_init_68 fl_RX5_40 (fun _ => rfl) (lX_k (by decide +kernel)) rfl rfl ?_
  refine s_aload_n hG dX5_init_71 rfl ?_
  refine s_iconst hG dX5_init_72 ⟨by decide, by decide⟩ ?_
  refine n_put0 hG dX5_init_73 fl_RX5_44 (fun _ => rfl) (lX_k (by decide +kernel)) rfl rfl ?_
  refine s_aload_n hG dX5_init_76 rfl ?_
  refine s_iconst hG dX5_init_77 ⟨by decide, by decide⟩ ?_
  refine n_put0 hG dX5_init_78 fl_RX5_47 (fun _ => rfl) (lX_k (by decide +kernel)) rfl rfl ?_
  refine s_aload_n hG dX5_init_81 rfl ?_
  refine s_iconst hG dX5_init_82 ⟨by decide, by decide⟩ ?_
  refine s_puti hG dX5_init_83 fl_RX5_50 (fun _ => rfl) (lX_k (by decide +kernel)) rfl ?_
  refine n_N nc_14 ?_
  exact s_vret hE dX5_init_86 rfl
theorem kX2_init_25 : m_Call 1 yX2_init cX2_init 1 none [.inr (.inr 25)] Nc_14 (lX KLc_26 RLc_44 6434) none Nc_14 (lX KLc_29 RLc_50 6480) := by
  refine m_mk (ls0 := [some (.inr (.inr 25))]) (by decide) rfl (Nat.le_of_ble_eq_true rfl) (show KLc_26.length ≤ KLc_29.length by rw [kl_26, kl_29]; decide) (show 6434 ≤ 6480 by decide) (fun Ω hE => ?_)
  have hG := hE.G
  refine s_aload_n hG dX2_init_0 rfl ?_
  refine s_objInit hG (by omega) (by omega) dX2_init_1 ml_RX2_3 oi_i oi_c (Nat.le_of_ble_eq_true rfl) ?_
  refine s_aload_n hG dX2_init_4 rfl ?_
  refine s_bipush hG dX2_init_5 bp_9 ⟨by decide, by decide⟩ ?_
  refine n_newI hG 9 dX2_init_7 rfl (by decide) ac_I kl_26 rl_44 (fun _ => rfl) kc_27 rc_45 rfl ?_
  refine n_putr hG dX2_init_9 fl_RX2_11 (fun _ => rfl) (by decide +kernel) rfl (show 25 < RLc_45.length by decide +kernel) rc_46 ?_
  refine s_aload_n hG dX2_init_12 rfl ?_
  refine s_bipush hG dX2_init_13 bp_32 ⟨by decide, by decide⟩ ?_
  refine n_newI hG 32 dX2_init_15 rfl (by decide) ac_I kl_27 rl_46 (fun _ => rfl) kc_28 rc_47 rfl ?_
  refine n_putr hG dX2_init_17 fl_RX2_17 (fun _ => rfl) (by decide +kernel) rfl (show 25 < RLc_47.length by decide +kernel) rc_48 ?_
  refine s_aload_n hG dX2_init_20 rfl ?_
  refine s_iconst hG dX2_init_21 ⟨by decide, by decide⟩ ?_
  refine n_newI hG 5 dX2_init_22 rfl (by decide) ac_I kl_28 rl_48 (fun _ => rfl) kc_29 rc_49 rfl ?_
  refine n_putr hG dX2_init_24 fl_RX2_20 (fun _ => rfl) (by decide +kernel) rfl (show 25 < RLc_49.length by decide +kernel) rc_50 ?_
  exact s_vret hE dX2_init_27 rfl
theorem kX10_init_30 : m_Call 3 yX10_init cX10_init 1 none [.inr (.inr 30)] Nc_14 (lX KLc_31 RLc_53 6486) none Nc_18 (lX KLc_33 RLc_57 6758) := by
  refine m_mk (ls0 := [some (.inr (.inr 30))]) (by decide) rfl (Nat.le_of_ble_eq_true rfl) (show KLc_31.length ≤ KLc_33.length by rw [kl_31, kl_33]; decide) (show 6486 ≤ 6758 by decide) (fun Ω hE => ?_)
  have hG := hE.G
  refine s_aload_n hG dX10_init_0 rfl ?_
  refine s_objInit hG (by omega) (by omega) dX10_init_1 ml_RX10_5 oi_i oi_c (Nat.le_of_ble_eq_true rfl) ?_
  refine s_aload_n hG dX10_init_4 rfl ?_
  refine s_sipush hG dX10_init_5 sp_266 ⟨by decide, by decide⟩ ?_
  refine n_newI hG 266 dX10_init_8 rfl (by decide) ac_I kl_31 rl_53 (fun _ => rfl) kc_32 rc_54 rfl ?_
  refine n_putr hG dX10_init_10 fl_RX10_11 (fun _ => rfl) (by decide +kernel) rfl (show 30 < RLc_54.length by decide +kernel) rc_55 ?_
  refine s_aload_n hG dX10_init_13 rfl ?_
  refine s_bipush hG dX10_init_14 bp_6 ⟨by decide, by decide⟩ ?_
  refine n_newT hG 6 dX10_init_16 rfl (by decide) wd_165 kl_32 rl_55 (fun _ => rfl) kc_33 rc_56 rfl ?_
  refine n_putr hG dX10_init_19 fl_RX10_17 (fun _ => rfl) (by decide +kernel) rfl (show 30 < RLc_56.length by decide +kernel) rc_57 ?_
  refine s_aload_n hG dX10_init_22 rfl ?_
  refine s_iconst hG dX10_init_23 ⟨by decide, by decide⟩ ?_
  refine n_put0z hG dX10_init_24 fl_RX10_21 (fun _ => rfl) (lX_k (by decide +kernel)) rfl rfl ?_
  refine s_aload_n hG dX10_init_27 rfl ?_
  refine s_getr (r := 31) hG dX10_init_28 fl_RX10_11 (lX_k (by decide +kernel)) rfl (lX_R (by decide +kernel)) ?_
  refine s_iconst hG dX10_init_31 ⟨by decide, by decide⟩ ?_
  refine s_iconst hG dX10_init_32 ⟨by decide, by decide⟩ ?_
  refine s_iastj (j := 1) hG dX10_init_33 (lX_K (v := (1, 266)) (by decide +kernel)) ⟨by decide, by decide⟩ rfl ?_
  refine n_N nc_15 ?_
  refine s_aload_n hG dX10_init_34 rfl ?_
  refine s_getr (r := 31) hG dX10_init_35 fl_RX10_11 (lX_k (by decide +kernel)) rfl (lX_R (by decide +kernel)) ?_
  refine s_sipush hG dX10_init_38 sp_196 ⟨by decide, by decide⟩ ?_
  refine s_iconst hG dX10_init_41 ⟨by decide, by decide⟩ ?_
  refine s_iastj (j := 196) hG dX10_init_42 (lX_K (v := (1, 266)) (by decide +kernel)) ⟨by decide, by decide⟩ rfl ?_
  refine n_N nc_16 ?_
  refine s_aload_n hG dX10_init_43 rfl ?_
  refine s_getr (r := 31) hG dX10_init_44 fl_RX10_11 (lX_k (by decide +kernel)) rfl (lX_R (by decide +kernel)) ?_
  refine s_bipush hG dX10_init_47 bp_119 ⟨by decide, by decide⟩ ?_
  refine s_sipush hG dX10_init_49 sp_155 ⟨by decide, by decide⟩ ?_
  refine s_iconst hG dX10_init_52 ⟨by decide, by decide⟩ ?_
  refine s_callS (d' := 2) (args := [.inr (.inr 31), .inl 119, .inl 155, .inl (-1)]) hG (by omega) dX10_init_53 cs_RX10_25 cw_J7_fill_fda19 rfl (Nat.le_of_ble_eq_true rfl) rfl (u_fill (lX_K (v := (1, 266)) (by decide +kernel)) (by decide) (by decide) (by decide) rfl rfl) ?_
  refine n_N nc_17 ?_
  refine s_aload_n hG dX10_init_56 rfl ?_
  refine s_getr (r := 31) hG dX10_init_57 fl_RX10_11 (lX_k (by decide +kernel)) rfl (lX_R (by decide +kernel)) ?_
  refine s_sipush hG dX10_init_60 sp_197 ⟨by decide, by decide⟩ ?_
  refine s_sipush hG dX10_init_63 sp_213 ⟨by decide, by decide⟩ ?_
  refine s_iconst hG dX10_init_66 ⟨by decide, by decide⟩ ?_
  refine s_callS (d' := 2) (args := [.inr (.inr 31), .inl 197, .inl 213, .inl (-1)]) hG (by omega) dX10_init_67 cs_RX10_25 cw_J7_fill_fda19 rfl (Nat.le_of_ble_eq_true rfl) rfl (u_fill (lX_K (v := (1, 266)) (by decide +kernel)) (by decide) (by decide) (by decide) rfl rfl) ?_
  refine n_N nc_18 ?_
  exact s_vret hE dX10_init_70 rfl
theorem kX0_init_29 : m_Call 4 yX0_init cX0_init 2 none [.inr (.inr 29), .inr (.inr 25)] Nc_14 (lX KLc_30 RLc_52 6483) none Nc_18 (lX KLc_33 RLc_59 6758) := by
  refine m_mk (ls0 := [some (.inr (.inr 29)), some (.inr (.inr 25))]) (by decide) rfl (Nat.le_of_ble_eq_true rfl) (show KLc_30.length ≤ KLc_33.length by rw [kl_30, kl_33]; decide) (show 6483 ≤ 6758 by decide) (fun Ω hE => ?_)
  have hG := hE.G
  refine s_aload_n hG dX0_init_0 rfl ?_
  refine s_objInit hG (by omega) (by omega) dX0_init_1 ml_RX0_3 oi_i oi_c (Nat.le_of_ble_eq_true rfl) ?_
  refine s_aload_n hG dX0_init_4 rfl ?_
  refine n_new hG (ci := 10) (C := RX10) (T := TX10) dX0_init_5 rfl inX10 rfl tyX10_ok tkX10 wd_290 wd_160 wd_131 kl_30 rl_52 (fun _ => rfl) kc_31 rc_53 rfl ?_
  refine s_dup hG dX0_init_8 rfl ?_
  refine s_callI (d' := 3) (o := 30) (args := []) hG (by omega) (by omega) dX0_init_9 ci_RX0_11 cw_X10_init rfl (Nat.le_of_ble_eq_true rfl) rfl kX10_init_30 ?_
  refine n_putr hG dX0_init_12 fl_RX0_12 (fun _ => rfl) (by decide +kernel) rfl (show 29 < RLc_57.length by decide +kernel) rc_58 ?_
  refine s_aload_n hG dX0_init_15 rfl ?_
  refine s_lconst (v := 0) hG dX0_init_16 rfl ⟨by decide, by decide⟩ ?_
  refine n_put0l hG dX0_init_17 fl_RX0_18 (fun _ => rfl) (lX_k (by decide +kernel)) rfl rfl ?_
  refine s_aload_n hG dX0_init_20 rfl ?_
  refine s_aload_n hG dX0_init_21 rfl ?_
  refine n_putr hG dX0_init_22 fl_RX0_22 (fun _ => rfl) (by decide +kernel) rfl (show 29 < RLc_58.length by decide +kernel) rc_59 ?_
  exact s_vret hE dX0_init_25 rfl
theorem kX10_init_34 : m_Call 3 yX10_init cX10_init 1 none [.inr (.inr 34)] Nc_18 (lX KLc_35 RLc_62 6769) none Nc_22 (lX KLc_37 RLc_66 7041) := by
  refine m_mk (ls0 := [some (.inr (.inr 34))]) (by decide) rfl (Nat.le_of_ble_eq_true rfl) (show KLc_35.length ≤ KLc_37.length by rw [kl_35, kl_37]; decide) (show 6769 ≤ 7041 by decide) (fun Ω hE => ?_)
  have hG := hE.G
  refine s_aload_n hG dX10_init_0 rfl ?_
  refine s_objInit hG (by omega) (by omega) dX10_init_1 ml_RX10_5 oi_i oi_c (Nat.le_of_ble_eq_true rfl) ?_
  refine s_aload_n hG dX10_init_4 rfl ?_
  refine s_sipush hG dX10_init_5 sp_266 ⟨by decide, by decide⟩ ?_
  refine n_newI hG 266 dX10_init_8 rfl (by decide) ac_I kl_35 rl_62 (fun _ => rfl) kc_36 rc_63 rfl ?_
  refine n_putr hG dX10_init_10 fl_RX10_11 (fun _ => rfl) (by decide +kernel) rfl (show 34 < RLc_63.length by decide +kernel) rc_64 ?_
  refine s_aload_n hG dX10_init_13 rfl ?_
  refine s_bipush hG dX10_init_14 bp_6 ⟨by decide, by decide⟩ ?_
  refine n_newT hG 6 dX10_init_16 rfl (by decide) wd_165 kl_36 rl_64 (fun _ => rfl) kc_37 rc_65 rfl ?_
  refine n_putr hG dX10_init_19 fl_RX10_17 (fun _ => rfl) (by decide +kernel) rfl (show 34 < RLc_65.length by decide +kernel) rc_66 ?_
  refine s_aload_n hG dX10_init_22 rfl ?_
  refine s_iconst hG dX10_init_23 ⟨by decide, by decide⟩ ?_
  refine n_put0z hG dX10_init_24 fl_RX10_21 (fun _ => rfl) (lX_k (by decide +kernel)) rfl rfl ?_
  refine s_aload_n hG dX10_init_27 rfl ?_
  refine s_getr (r := 35) hG dX10_init_28 fl_RX10_11 (lX_k (by decide +kernel)) rfl (lX_R (by decide +kernel)) ?_
  refine s_iconst hG dX10_init_31 ⟨by decide, by decide⟩ ?_
  refine s_iconst hG dX10_init_32 ⟨by decide, by decide⟩ ?_
  refine s_iastj (j := 1) hG dX10_init_33 (lX_K (v := (1, 266)) (by decide +kernel)) ⟨by decide, by decide⟩ rfl ?_
  refine n_N nc_19 ?_
  refine s_aload_n hG dX10_init_34 rfl ?_
  refine s_getr (r := 35) hG dX10_init_35 fl_RX10_11 (lX_k (by decide +kernel)) rfl (lX_R (by decide +kernel)) ?_
  refine s_sipush hG dX10_init_38 sp_196 ⟨by decide, by decide⟩ ?_
  refine s_iconst hG dX10_init_41 ⟨by decide, by decide⟩ ?_
  refine s_iastj (j := 196) hG dX10_init_42 (lX_K (v := (1, 266)) (by decide +kernel)) ⟨by decide, by decide⟩ rfl ?_
  refine n_N nc_20 ?_
  refine s_aload_n hG dX10_init_43 rfl ?_
  refine s_getr (r := 35) hG dX10_init_44 fl_RX10_11 (lX_k (by decide +kernel)) rfl (lX_R (by decide +kernel)) ?_
  refine s_bipush hG dX10_init_47 bp_119 ⟨by decide, by decide⟩ ?_
  refine s_sipush hG dX10_init_49 sp_155 ⟨by decide, by decide⟩ ?_
  refine s_iconst hG dX10_init_52 ⟨by decide, by decide⟩ ?_
  refine s_callS (d' := 2) (args := [.inr (.inr 35), .inl 119, .inl 155, .inl (-1)]) hG (by omega) dX10_init_53 cs_RX10_25 cw_J7_fill_fda19 rfl (Nat.le_of_ble_eq_true rfl) rfl (u_fill (lX_K (v := (1, 266)) (by decide +kernel)) (by decide) (by decide) (by decide) rfl rfl) ?_
  refine n_N nc_21 ?_
  refine s_aload_n hG dX10_init_56 rfl ?_
  refine s_getr (r := 35) hG dX10_init_57 fl_RX10_11 (lX_k (by decide +kernel)) rfl (lX_R (by decide +kernel)) ?_
  refine s_sipush hG dX10_init_60 sp_197 ⟨by decide, by decide⟩ ?_
  refine s_sipush hG dX10_init_63 sp_213 ⟨by decide, by decide⟩ ?_
  refine s_iconst hG dX10_init_66 ⟨by decide, by decide⟩ ?_
  refine s_callS (d' := 2) (args := [.inr (.inr 35), .inl 197, .inl 213, .inl (-1)]) hG (by omega) dX10_init_67 cs_RX10_25 cw_J7_fill_fda19 rfl (Nat.le_of_ble_eq_true rfl) rfl (u_fill (lX_K (v := (1, 266)) (by decide +kernel)) (by decide) (by decide) (by decide) rfl rfl) ?_
  refine n_N nc_22 ?_
  exact s_vret hE dX10_init_70 rfl
theorem kX4_init_37 : m_Call 1 yX4_init cX4_init 1 none [.inr (.inr 37)] Nc_22 (lX KLc_38 RLc_68 7045) none Nc_22 (lX KLc_40 RLc_72 10117) := by
  refine m_mk (ls0 := [some (.inr (.inr 37))]) (by decide) rfl (Nat.le_of_ble_eq_true rfl) (show KLc_38.length ≤ KLc_40.length by rw [kl_38, kl_40]; decide) (show 7045 ≤ 10117 by decide) (fun Ω hE => ?_)
  have hG := hE.G
  refine s_aload_n hG dX4_init_0 rfl ?_
  refine s_objInit hG (by omega) (by omega) dX4_init_1 ml_RX4_3 oi_i oi_c (Nat.le_of_ble_eq_true rfl) ?_
  refine s_aload_n hG dX4_init_4 rfl ?_
  refine s_sipush hG dX4_init_5 sp_3056 ⟨by decide, by decide⟩ ?_
  refine n_newI hG 3056 dX4_init_8 rfl (by decide) ac_I kl_38 rl_68 (fun _ => rfl) kc_39 rc_69 rfl ?_
  refine n_putr hG dX4_init_10 fl_RX4_13 (fun _ => rfl) (by decide +kernel) rfl (show 37 < RLc_69.length by decide +kernel) rc_70 ?_
  refine s_aload_n hG dX4_init_13 rfl ?_
  refine s_bipush hG dX4_init_14 bp_16 ⟨by decide, by decide⟩ ?_
  refine n_newI hG 16 dX4_init_16 rfl (by decide) ac_I kl_39 rl_70 (fun _ => rfl) kc_40 rc_71 rfl ?_
  refine n_putr hG dX4_init_18 fl_RX4_17 (fun _ => rfl) (by decide +kernel) rfl (show 37 < RLc_71.length by decide +kernel) rc_72 ?_
  refine s_aload_n hG dX4_init_21 rfl ?_
  refine s_iconst hG dX4_init_22 ⟨by decide, by decide⟩ ?_
  refine n_put0 hG dX4_init_23 fl_RX4_20 (fun _ => rfl) (lX_k (by decide +kernel)) rfl rfl ?_
  refine s_aload_n hG dX4_init_26 rfl ?_
  refine s_iconst hG dX4_init_27 ⟨by decide, by decide⟩ ?_
  refine n_put0 hG dX4_init_28 fl_RX4_24 (fun _ => rfl) (lX_k (by decide +kernel)) rfl rfl ?_
  exact s_vret hE dX4_init_31 rfl
theorem kX3_init_33 : m_Call 4 yX3_init cX3_init 2 none [.inr (.inr 33), .inr (.inr 29)] Nc_18 (lX KLc_34 RLc_61 6766) none Nc_24 (lX KLc_42 RLc_78 10181) := by
  refine m_mk (ls0 := [some (.inr (.inr 33)), some (.inr (.inr 29))]) (by decide) rfl (Nat.le_of_ble_eq_true rfl) (show KLc_34.length ≤ KLc_42.length by rw [kl_34, kl_42]; decide) (show 6766 ≤ 10181 by decide) (fun Ω hE => ?_)
  have hG := hE.G
  refine s_aload_n hG dX3_init_0 rfl ?_
  refine s_objInit hG (by omega) (by omega) dX3_init_1 ml_RX3_5 oi_i oi_c (Nat.le_of_ble_eq_true rfl) ?_
  refine s_aload_n hG dX3_init_4 rfl ?_
  refine n_new hG (ci := 10) (C := RX10) (T := TX10) dX3_init_5 rfl inX10 rfl tyX10_ok tkX10 wd_308 wd_160 wd_131 kl_34 rl_61 (fun _ => rfl) kc_35 rc_62 rfl ?_
  refine s_dup hG dX3_init_8 rfl ?_
  refine s_callI (d' := 3) (o := 34) (args := []) hG (by omega) (by omega) dX3_init_9 ci_RX3_13 cw_X10_init rfl (Nat.le_of_ble_eq_true rfl) rfl kX10_init_34 ?_
  refine n_putr hG dX3_init_12 fl_RX3_14 (fun _ => rfl) (by decide +kernel) rfl (show 33 < RLc_66.length by decide +kernel) rc_67 ?_
  refine s_aload_n hG dX3_init_15 rfl ?_
  refine n_new hG (ci := 4) (C := RX4) (T := TX4) dX3_init_16 rfl inX4 rfl tyX4_ok tkX4 wd_310 wd_185 wd_133 kl_37 rl_67 (fun _ => rfl) kc_38 rc_68 rfl ?_
  refine s_dup hG dX3_init_19 rfl ?_
  refine s_callIN (d' := 1) (o := 37) (args := []) hG (by omega) (by omega) dX3_init_20 ⟨List.mem_of_getElem? (i := 3) rfl, wd_187, rfl⟩ cw_X4_init rfl (Nat.le_of_ble_eq_true rfl) rfl kX4_init_37 ?_
  refine n_putr hG dX3_init_23 fl_RX3_21 (fun _ => rfl) (by decide +kernel) rfl (show 33 < RLc_72.length by decide +kernel) rc_73 ?_
  refine s_aload_n hG dX3_init_26 rfl ?_
  refine s_bipush hG dX3_init_27 bp_32 ⟨by decide, by decide⟩ ?_
  refine n_newI hG 32 dX3_init_29 rfl (by decide) ac_I kl_40 rl_73 (fun _ => rfl) kc_41 rc_74 rfl ?_
  refine n_putr hG dX3_init_31 fl_RX3_25 (fun _ => rfl) (by decide +kernel) rfl (show 33 < RLc_74.length by decide +kernel) rc_75 ?_
  refine s_aload_n hG dX3_init_34 rfl ?_
  refine s_bipush hG dX3_init_35 bp_32 ⟨by decide, by decide⟩ ?_
  refine n_newI hG 32 dX3_init_37 rfl (by decide) ac_I kl_41 rl_75 (fun _ => rfl) kc_42 rc_76 rfl ?_
  refine n_putr hG dX3_init_39 fl_RX3_31 (fun _ => rfl) (by decide +kernel) rfl (show 33 < RLc_76.length by decide +kernel) rc_77 ?_
  refine s_aload_n hG dX3_init_42 rfl ?_
  refine s_iconst hG dX3_init_43 ⟨by decide, by decide⟩ ?_
  refine s_puti hG dX3_init_44 fl_RX3_34 (fun _ => rfl) (lX_k (by decide +kernel)) rfl ?_
  refine n_N nc_23 ?_
  refine s_aload_n hG dX3_init_47 rfl ?_
  refine s_iconst hG dX3_init_48 ⟨by decide, by decide⟩ ?_
  refine n_put0 hG dX3_init_49 fl_RX3_38 (fun _ => rfl) (lX_k (by decide +kernel)) rfl rfl ?_
  refine s_aload_n hG dX3_init_52 rfl ?_
  refine s_iconst hG dX3_init_53 ⟨by decide, by decide⟩ ?_
  refine s_puti hG dX3_init_54 fl_RX3_41 (fun _ => rfl) (lX_k (by decide +kernel)) rfl ?_
  refine n_N nc_24 ?_
  refine s_aload_n hG dX3_init_57 rfl ?_
  refine s_aload_n hG dX3_init_58 rfl ?_
  refine n_putr hG dX3_init_59 fl_RX3_44 (fun _ => rfl) (by decide +kernel) rfl (show 33 < RLc_77.length by decide +kernel) rc_78 ?_
  exact s_vret hE dX3_init_62 rfl
theorem kX1_init_42 : m_Call 1 yX1_init cX1_init 2 none [.inr (.inr 42), .inr (.inr 25)] Nc_24 (lX KLc_43 RLc_80 10187) none Nc_24 (lX KLc_48 RLc_91 10227) := by
  refine m_mk (ls0 := [some (.inr (.inr 42)), some (.inr (.inr 25))]) (by decide) rfl (Nat.le_of_ble_eq_true rfl) (show KLc_43.length ≤ KLc_48.length by rw [kl_43, kl_48]; decide) (show 10187 ≤ 10227 by decide) (fun Ω hE => ?_)
  have hG := hE.G
  refine s_aload_n hG dX1_init_0 rfl ?_
  refine s_objInit hG (by omega) (by omega) dX1_init_1 ml_RX1_3 oi_i oi_c (Nat.le_of_ble_eq_true rfl) ?_
  refine s_aload_n hG dX1_init_4 rfl ?_
  refine s_bipush hG dX1_init_5 bp_12 ⟨by decide, by decide⟩ ?_
  refine n_newI hG 12 dX1_init_7 rfl (by decide) ac_I kl_43 rl_80 (fun _ => rfl) kc_44 rc_81 rfl ?_
  refine n_putr hG dX1_init_9 fl_RX1_11 (fun _ => rfl) (by decide +kernel) rfl (show 42 < RLc_81.length by decide +kernel) rc_82 ?_
  refine s_aload_n hG dX1_init_12 rfl ?_
  refine s_bipush hG dX1_init_13 bp_12 ⟨by decide, by decide⟩ ?_
  refine n_newI hG 12 dX1_init_15 rfl (by decide) ac_I kl_44 rl_82 (fun _ => rfl) kc_45 rc_83 rfl ?_
  refine n_putr hG dX1_init_17 fl_RX1_15 (fun _ => rfl) (by decide +kernel) rfl (show 42 < RLc_83.length by decide +kernel) rc_84 ?_
  refine s_aload_n hG dX1_init_20 rfl ?_
  refine s_bipush hG dX1_init_21 bp_12 ⟨by decide, by decide⟩ ?_
  refine n_newI hG 12 dX1_init_23 rfl (by decide) ac_I kl_45 rl_84 (fun _ => rfl) kc_46 rc_85 rfl ?_
  refine n_putr hG dX1_init_25 fl_RX1_18 (fun _ => rfl) (by decide +kernel) rfl (show 42 < RLc_85.length by decide +kernel) rc_86 ?_
  refine s_aload_n hG dX1_init_28 rfl ?_
  refine s_iconst hG dX1_init_29 ⟨by decide, by decide⟩ ?_
  refine n_newI hG 2 dX1_init_30 rfl (by decide) ac_I kl_46 rl_86 (fun _ => rfl) kc_47 rc_87 rfl ?_
  refine n_putr hG dX1_init_32 fl_RX1_21 (fun _ => rfl) (by decide +kernel) rfl (show 42 < RLc_87.length by decide +kernel) rc_88 ?_
  refine s_aload_n hG dX1_init_35 rfl ?_
  refine s_iconst hG dX1_init_36 ⟨by decide, by decide⟩ ?_
  refine n_newI hG 2 dX1_init_37 rfl (by decide) ac_I kl_47 rl_88 (fun _ => rfl) kc_48 rc_89 rfl ?_
  refine n_putr hG dX1_init_39 fl_RX1_24 (fun _ => rfl) (by decide +kernel) rfl (show 42 < RLc_89.length by decide +kernel) rc_90 ?_
  refine s_aload_n hG dX1_init_42 rfl ?_
  refine s_aload_n hG dX1_init_43 rfl ?_
  refine n_putr hG dX1_init_44 fl_RX1_27 (fun _ => rfl) (by decide +kernel) rfl (show 42 < RLc_90.length by decide +kernel) rc_91 ?_
  exact s_vret hE dX1_init_47 rfl
theorem kX7_init_48 : m_Call 1 yX7_init cX7_init 2 none [.inr (.inr 48), .inr (.inr 25)] Nc_24 (lX KLc_49 RLc_93 10235) none Nc_24 (lX KLc_53 RLc_102 10354) := by
  refine m_mk (ls0 := [some (.inr (.inr 48)), some (.inr (.inr 25))]) (by decide) rfl (Nat.le_of_ble_eq_true rfl) (show KLc_49.length ≤ KLc_53.length by rw [kl_49, kl_53]; decide) (show 10235 ≤ 10354 by decide) (fun Ω hE => ?_)
  have hG := hE.G
  refine s_aload_n hG dX7_init_0 rfl ?_
  refine s_objInit hG (by omega) (by omega) dX7_init_1 ml_RX7_3 oi_i oi_c (Nat.le_of_ble_eq_true rfl) ?_
  refine s_aload_n hG dX7_init_4 rfl ?_
  refine s_bipush hG dX7_init_5 bp_10 ⟨by decide, by decide⟩ ?_
  refine n_newI hG 10 dX7_init_7 rfl (by decide) ac_I kl_49 rl_93 (fun _ => rfl) kc_50 rc_94 rfl ?_
  refine n_putr hG dX7_init_9 fl_RX7_11 (fun _ => rfl) (by decide +kernel) rfl (show 48 < RLc_94.length by decide +kernel) rc_95 ?_
  refine s_aload_n hG dX7_init_12 rfl ?_
  refine s_bipush hG dX7_init_13 bp_10 ⟨by decide, by decide⟩ ?_
  refine n_newI hG 10 dX7_init_15 rfl (by decide) ac_I kl_50 rl_95 (fun _ => rfl) kc_51 rc_96 rfl ?_
  refine n_putr hG dX7_init_17 fl_RX7_15 (fun _ => rfl) (by decide +kernel) rfl (show 48 < RLc_96.length by decide +kernel) rc_97 ?_
  refine s_aload_n hG dX7_init_20 rfl ?_
  refine s_bipush hG dX7_init_21 bp_90 ⟨by decide, by decide⟩ ?_
  refine n_newI hG 90 dX7_init_23 rfl (by decide) ac_I kl_51 rl_97 (fun _ => rfl) kc_52 rc_98 rfl ?_
  refine n_putr hG dX7_init_25 fl_RX7_18 (fun _ => rfl) (by decide +kernel) rfl (show 48 < RLc_98.length by decide +kernel) rc_99 ?_
  refine s_aload_n hG dX7_init_28 rfl ?_
  refine s_bipush hG dX7_init_29 bp_9 ⟨by decide, by decide⟩ ?_
  refine n_newI hG 9 dX7_init_31 rfl (by decide) ac_I kl_52 rl_99 (fun _ => rfl) kc_53 rc_100 rfl ?_
  refine n_putr hG dX7_init_33 fl_RX7_21 (fun _ => rfl) (by decide +kernel) rfl (show 48 < RLc_100.length by decide +kernel) rc_101 ?_
  refine s_aload_n hG dX7_init_36 rfl ?_
  refine s_iconst hG dX7_init_37 ⟨by decide, by decide⟩ ?_
  refine n_put0 hG dX7_init_38 fl_RX7_24 (fun _ => rfl) (lX_k (by decide +kernel)) rfl rfl ?_
  refine s_aload_n hG dX7_init_41 rfl ?_
  refine s_iconst hG dX7_init_42 ⟨by decide, by decide⟩ ?_
  refine n_put0 hG dX7_init_43 fl_RX7_28 (fun _ => rfl) (lX_k (by decide +kernel)) rfl rfl ?_
  refine s_aload_n hG dX7_init_46 rfl ?_
  refine s_iconst hG dX7_init_47 ⟨by decide, by decide⟩ ?_
  refine n_put0 hG dX7_init_48 fl_RX7_31 (fun _ => rfl) (lX_k (by decide +kernel)) rfl rfl ?_
  refine s_aload_n hG dX7_init_51 rfl ?_
  refine s_aload_n hG dX7_init_52 rfl ?_
  refine n_putr hG dX7_init_53 fl_RX7_34 (fun _ => rfl) (by decide +kernel) rfl (show 48 < RLc_101.length by decide +kernel) rc_102 ?_
  exact s_vret hE dX7_init_56 rfl
theorem kX9_init_53 : m_Call 1 yX9_init cX9_init 1 none [.inr (.inr 53)] Nc_24 (lX KLc_54 RLc_104 10363) none Nc_25 (lX KLc_58 RLc_112 10447) := by
  refine m_mk (ls0 := [some (.inr (.inr 53))]) (by decide) rfl (Nat.le_of_ble_eq_true rfl) (show KLc_54.length ≤ KLc_58.length by rw [kl_54, kl_58]; decide) (show 10363 ≤ 10447 by decide) (fun Ω hE => ?_)
  have hG := hE.G
  refine s_aload_n hG dX9_init_0 rfl ?_
  refine s_objInit hG (by omega) (by omega) dX9_init_1 ml_RX9_3 oi_i oi_c (Nat.le_of_ble_eq_true rfl) ?_
  refine s_aload_n hG dX9_init_4 rfl ?_
  refine s_bipush hG dX9_init_5 bp_36 ⟨by decide, by decide⟩ ?_
  refine n_newI hG 36 dX9_init_7 rfl (by decide) ac_I kl_54 rl_104 (fun _ => rfl) kc_55 rc_105 rfl ?_
  refine n_putr hG dX9_init_9 fl_RX9_9 (fun _ => rfl) (by decide +kernel) rfl (show 53 < RLc_105.length by decide +kernel) rc_106 ?_
  refine s_aload_n hG dX9_init_12 rfl ?_
  refine s_bipush hG dX9_init_13 bp_36 ⟨by decide, by decide⟩ ?_
  refine n_newI hG 36 dX9_init_15 rfl (by decide) ac_I kl_55 rl_106 (fun _ => rfl) kc_56 rc_107 rfl ?_
  refine n_putr hG dX9_init_17 fl_RX9_15 (fun _ => rfl) (by decide +kernel) rfl (show 53 < RLc_107.length by decide +kernel) rc_108 ?_
  refine s_aload_n hG dX9_init_20 rfl ?_
  refine s_bipush hG dX9_init_21 bp_6 ⟨by decide, by decide⟩ ?_
  refine n_newI hG 6 dX9_init_23 rfl (by decide) ac_I kl_56 rl_108 (fun _ => rfl) kc_57 rc_109 rfl ?_
  refine n_putr hG dX9_init_25 fl_RX9_18 (fun _ => rfl) (by decide +kernel) rfl (show 53 < RLc_109.length by decide +kernel) rc_110 ?_
  refine s_aload_n hG dX9_init_28 rfl ?_
  refine s_bipush hG dX9_init_29 bp_6 ⟨by decide, by decide⟩ ?_
  refine n_newI hG 6 dX9_init_31 rfl (by decide) ac_I kl_57 rl_110 (fun _ => rfl) kc_58 rc_111 rfl ?_
  refine n_putr hG dX9_init_33 fl_RX9_21 (fun _ => rfl) (by decide +kernel) rfl (show 53 < RLc_111.length by decide +kernel) rc_112 ?_
  refine s_aload_n hG dX9_init_36 rfl ?_
  refine s_iconst hG dX9_init_37 ⟨by decide, by decide⟩ ?_
  refine n_put0 hG dX9_init_38 fl_RX9_24 (fun _ => rfl) (lX_k (by decide +kernel)) rfl rfl ?_
  refine s_aload_n hG dX9_init_41 rfl ?_
  refine s_iconst hG dX9_init_42 ⟨by decide, by decide⟩ ?_
  refine n_put0 hG dX9_init_43 fl_RX9_28 (fun _ => rfl) (lX_k (by decide +kernel)) rfl rfl ?_
  refine s_aload_n hG dX9_init_46 rfl ?_
  refine s_iconst hG dX9_init_47 ⟨by decide, by decide⟩ ?_
  refine n_put0 hG dX9_init_48 fl_RX9_31 (fun _ => rfl) (lX_k (by decide +kernel)) rfl rfl ?_
  refine s_aload_n hG dX9_init_51 rfl ?_
  refine s_iconst hG dX9_init_52 ⟨by decide, by decide⟩ ?_
  refine n_put0 hG dX9_init_53 fl_RX9_34 (fun _ => rfl) (lX_k (by decide +kernel)) rfl rfl ?_
  refine s_aload_n hG dX9_init_56 rfl ?_
  refine s_iconst hG dX9_init_57 ⟨by decide, by decide⟩ ?_
  refine s_puti hG dX9_init_58 fl_RX9_37 (fun _ => rfl) (lX_k (by decide +kernel)) rfl ?_
  refine n_N nc_25 ?_
  exact s_vret hE dX9_init_61 rfl
theorem kX6_init_58 : m_Call 1 yX6_init cX6_init 2 none [.inr (.inr 58), .inr (.inr 25)] Nc_25 (lX KLc_59 RLc_114 10456) none Nc_27 (lX KLc_63 RLc_123 11436) := by
  refine m_mk (ls0 := [some (.inr (.inr 58)), some (.inr (.inr 25))]) (by decide) rfl (Nat.le_of_ble_eq_true rfl) (show KLc_59.length ≤ KLc_63.length by rw [kl_59, kl_63]; decide) (show 10456 ≤ 11436 by decide) (fun Ω hE => ?_)
  have hG := hE.G
  refine s_aload_n hG dX6_init_0 rfl ?_
  refine s_objInit hG (by omega) (by omega) dX6_init_1 ml_RX6_5 oi_i oi_c (Nat.le_of_ble_eq_true rfl) ?_
  refine s_aload_n hG dX6_init_4 rfl ?_
  refine s_sipush hG dX6_init_5 sp_576 ⟨by decide, by decide⟩ ?_
  refine n_newZ hG 576 dX6_init_8 rfl (by decide) ac_Z kl_59 rl_114 (fun _ => rfl) kc_60 rc_115 rfl ?_
  refine n_putr hG dX6_init_10 fl_RX6_11 (fun _ => rfl) (by decide +kernel) rfl (show 58 < RLc_115.length by decide +kernel) rc_116 ?_
  refine s_aload_n hG dX6_init_13 rfl ?_
  refine s_sipush hG dX6_init_14 sp_384 ⟨by decide, by decide⟩ ?_
  refine n_newI hG 384 dX6_init_17 rfl (by decide) ac_I kl_60 rl_116 (fun _ => rfl) kc_61 rc_117 rfl ?_
  refine n_putr hG dX6_init_19 fl_RX6_15 (fun _ => rfl) (by decide +kernel) rfl (show 58 < RLc_117.length by decide +kernel) rc_118 ?_
  refine s_aload_n hG dX6_init_22 rfl ?_
  refine s_bipush hG dX6_init_23 bp_16 ⟨by decide, by decide⟩ ?_
  refine n_newI hG 16 dX6_init_25 rfl (by decide) ac_I kl_61 rl_118 (fun _ => rfl) kc_62 rc_119 rfl ?_
  refine n_putr hG dX6_init_27 fl_RX6_19 (fun _ => rfl) (by decide +kernel) rfl (show 58 < RLc_119.length by decide +kernel) rc_120 ?_
  refine s_aload_n hG dX6_init_30 rfl ?_
  refine s_iconst hG dX6_init_31 ⟨by decide, by decide⟩ ?_
  refine n_newI hG 4 dX6_init_32 rfl (by decide) ac_I kl_62 rl_120 (fun _ => rfl) kc_63 rc_121 rfl ?_
  refine n_putr hG dX6_init_34 fl_RX6_22 (fun _ => rfl) (by decide +kernel) rfl (show 58 < RLc_121.length by decide +kernel) rc_122 ?_
  refine s_aload_n hG dX6_init_37 rfl ?_
  refine s_iconst hG dX6_init_38 ⟨by decide, by decide⟩ ?_
  refine n_put0 hG dX6_init_39 fl_RX6_25 (fun _ => rfl) (lX_k (by decide +kernel)) rfl rfl ?_
  refine s_aload_n hG dX6_init_42 rfl ?_
  refine s_iconst hG dX6_init_43 ⟨by decide, by decide⟩ ?_
  refine n_put0 hG dX6_init_44 fl_RX6_29 (fun _ => rfl) (lX_k (by decide +kernel)) rfl rfl ?_
  refine s_aload_n hG dX6_init_47 rfl ?_
  refine s_iconst hG dX6_init_48 ⟨by decide, by decide⟩ ?_
  refine s_puti hG dX6_init_49 fl_RX6_32 (fun _ => rfl) (lX_k (by decide +kernel)) rfl ?_
  refine n_N nc_26 ?_
  refine s_aload_n hG dX6_init_52 rfl ?_
  refine s_iconst hG dX6_init_53 ⟨by decide, by decide⟩ ?_
  refine s_puti hG dX6_init_54 fl_RX6_35 (fun _ => rfl) (lX_k (by decide +kernel)) rfl ?_
  refine n_N nc_27 ?_
  refine s_aload_n hG dX6_init_57 rfl ?_
  refine s_aload_n hG dX6_init_58 rfl ?_
  refine n_putr hG dX6_init_59 fl_RX6_38 (fun _ => rfl) (by decide +kernel) rfl (show 58 < RLc_122.length by decide +kernel) rc_123 ?_
  exact s_vret hE dX6_init_62 rfl
theorem kX11_init_3 : m_Call 5 yX11_init cX11_init 1 none [.inr (.inr 3)] Nc_0 (lX KLc_4 RLc_1 15) none Nc_27 (lX KLc_64 RLc_126 11443) := by
  refine m_mk (ls0 := [some (.inr (.inr 3))]) (by decide) rfl (Nat.le_of_ble_eq_true rfl) (show KLc_4.length ≤ KLc_64.length by rw [kl_4, kl_64]; decide) (show 15 ≤ 11443 by decide) (fun Ω hE => ?_)
  have hG := hE.G
  refine s_aload_n hG dX11_init_0 rfl ?_
  refine s_objInit hG (by omega) (by omega) dX11_init_1 ml_RX11_1 oi_i oi_c (Nat.le_of_ble_eq_true rfl) ?_
  refine s_aload_n hG dX11_init_4 rfl ?_
  refine n_new hG (ci := 10) (C := RX10) (T := TX10) dX11_init_5 rfl inX10 rfl tyX10_ok tkX10 wd_159 wd_160 wd_131 kl_4 rl_1 (fun _ => rfl) kc_5 rc_2 rfl ?_
  refine s_dup hG dX11_init_8 rfl ?_
  refine s_callI (d' := 3) (o := 4) (args := []) hG (by omega) (by omega) dX11_init_9 ci_RX11_9 cw_X10_init rfl (Nat.le_of_ble_eq_true rfl) rfl kX10_init_4 ?_
  refine n_putr hG dX11_init_12 fl_RX11_10 (fun _ => rfl) (by decide +kernel) rfl (show 3 < RLc_6.length by decide +kernel) rc_7 ?_
  refine s_aload_n hG dX11_init_15 rfl ?_
  refine n_new hG (ci := 10) (C := RX10) (T := TX10) dX11_init_16 rfl inX10 rfl tyX10_ok tkX10 wd_159 wd_160 wd_131 kl_7 rl_7 (fun _ => rfl) kc_8 rc_8 rfl ?_
  refine s_dup hG dX11_init_19 rfl ?_
  refine s_callI (d' := 3) (o := 7) (args := []) hG (by omega) (by omega) dX11_init_20 ci_RX11_9 cw_X10_init rfl (Nat.le_of_ble_eq_true rfl) rfl kX10_init_7 ?_
  refine n_putr hG dX11_init_23 fl_RX11_16 (fun _ => rfl) (by decide +kernel) rfl (show 3 < RLc_12.length by decide +kernel) rc_13 ?_
  refine s_aload_n hG dX11_init_26 rfl ?_
  refine n_new hG (ci := 10) (C := RX10) (T := TX10) dX11_init_27 rfl inX10 rfl tyX10_ok tkX10 wd_159 wd_160 wd_131 kl_10 rl_13 (fun _ => rfl) kc_11 rc_14 rfl ?_
  refine s_dup hG dX11_init_30 rfl ?_
  refine s_callI (d' := 3) (o := 10) (args := []) hG (by omega) (by omega) dX11_init_31 ci_RX11_9 cw_X10_init rfl (Nat.le_of_ble_eq_true rfl) rfl kX10_init_10 ?_
  refine n_putr hG dX11_init_34 fl_RX11_19 (fun _ => rfl) (by decide +kernel) rfl (show 3 < RLc_18.length by decide +kernel) rc_19 ?_
  refine s_aload_n hG dX11_init_37 rfl ?_
  refine n_new hG (ci := 4) (C := RX4) (T := TX4) dX11_init_38 rfl inX4 rfl tyX4_ok tkX4 wd_184 wd_185 wd_133 kl_13 rl_19 (fun _ => rfl) kc_14 rc_20 rfl ?_
  refine s_dup hG dX11_init_41 rfl ?_
  refine s_callIN (d' := 1) (o := 13) (args := []) hG (by omega) (by omega) dX11_init_42 ⟨List.mem_of_getElem? (i := 0) rfl, wd_187, rfl⟩ cw_X4_init rfl (Nat.le_of_ble_eq_true rfl) rfl kX4_init_13 ?_
  refine n_putr hG dX11_init_45 fl_RX11_25 (fun _ => rfl) (by decide +kernel) rfl (show 3 < RLc_24.length by decide +kernel) rc_25 ?_
  refine s_aload_n hG dX11_init_48 rfl ?_
  refine n_new hG (ci := 5) (C := RX5) (T := TX5) dX11_init_49 rfl inX5 rfl tyX5_ok tkX5 wd_203 wd_204 wd_134 kl_16 rl_25 (fun _ => rfl) kc_17 rc_26 rfl ?_
  refine s_dup hG dX11_init_52 rfl ?_
  refine s_callIN (d' := 2) (o := 16) (args := []) hG (by omega) (by omega) dX11_init_53 ⟨List.mem_of_getElem? (i := 1) rfl, wd_206, rfl⟩ cw_X5_init rfl (Nat.le_of_ble_eq_true rfl) rfl kX5_init_16 ?_
  refine n_putr hG dX11_init_56 fl_RX11_32 (fun _ => rfl) (by decide +kernel) rfl (show 3 < RLc_42.length by decide +kernel) rc_43 ?_
  refine s_aload_n hG dX11_init_59 rfl ?_
  refine n_new hG (ci := 2) (C := RX2) (T := TX2) dX11_init_60 rfl inX2 rfl tyX2_ok tkX2 wd_268 wd_269 wd_137 kl_25 rl_43 (fun _ => rfl) kc_26 rc_44 rfl ?_
  refine s_dup hG dX11_init_63 rfl ?_
  refine s_callIN (d' := 1) (o := 25) (args := []) hG (by omega) (by omega) dX11_init_64 ⟨List.mem_of_getElem? (i := 2) rfl, wd_271, rfl⟩ cw_X2_init rfl (Nat.le_of_ble_eq_true rfl) rfl kX2_init_25 ?_
  refine n_putr hG dX11_init_67 fl_RX11_39 (fun _ => rfl) (by decide +kernel) rfl (show 3 < RLc_50.length by decide +kernel) rc_51 ?_
  refine s_aload_n hG dX11_init_70 rfl ?_
  refine n_new hG (ci := 0) (C := RX0) (T := TX0) dX11_init_71 rfl inX0 rfl tyX0_ok tkX0 wd_284 wd_285 wd_138 kl_29 rl_51 (fun _ => rfl) kc_30 rc_52 rfl ?_
  refine s_dup hG dX11_init_74 rfl ?_
  refine s_aload_n hG dX11_init_75 rfl ?_
  refine s_getr (r := 25) hG dX11_init_76 fl_RX11_39 (lX_k (by decide +kernel)) rfl (lX_R (by decide +kernel)) ?_
  refine s_callI (d' := 4) (o := 29) (args := [.inr (.inr 25)]) hG (by omega) (by omega) dX11_init_79 ci_RX11_45 cw_X0_init rfl (Nat.le_of_ble_eq_true rfl) rfl kX0_init_29 ?_
  refine n_putr hG dX11_init_82 fl_RX11_48 (fun _ => rfl) (by decide +kernel) rfl (show 3 < RLc_59.length by decide +kernel) rc_60 ?_
  refine s_aload_n hG dX11_init_85 rfl ?_
  refine n_new hG (ci := 3) (C := RX3) (T := TX3) dX11_init_86 rfl inX3 rfl tyX3_ok tkX3 wd_302 wd_303 wd_139 kl_33 rl_60 (fun _ => rfl) kc_34 rc_61 rfl ?_
  refine s_dup hG dX11_init_89 rfl ?_
  refine s_aload_n hG dX11_init_90 rfl ?_
  refine s_getr (r := 29) hG dX11_init_91 fl_RX11_48 (lX_k (by decide +kernel)) rfl (lX_R (by decide +kernel)) ?_
  refine s_callI (d' := 4) (o := 33) (args := [.inr (.inr 29)]) hG (by omega) (by omega) dX11_init_94 ci_RX11_54 cw_X3_init rfl (Nat.le_of_ble_eq_true rfl) rfl kX3_init_33 ?_
  refine n_putr hG dX11_init_97 fl_RX11_57 (fun _ => rfl) (by decide +kernel) rfl (show 3 < RLc_78.length by decide +kernel) rc_79 ?_
  refine s_aload_n hG dX11_init_100 rfl ?_
  refine n_new hG (ci := 1) (C := RX1) (T := TX1) dX11_init_101 rfl inX1 rfl tyX1_ok tkX1 wd_337 wd_338 wd_140 kl_42 rl_79 (fun _ => rfl) kc_43 rc_80 rfl ?_
  refine s_dup hG dX11_init_104 rfl ?_
  refine s_aload_n hG dX11_init_105 rfl ?_
  refine s_getr (r := 25) hG dX11_init_106 fl_RX11_39 (lX_k (by decide +kernel)) rfl (lX_R (by decide +kernel)) ?_
  refine s_callI (d' := 1) (o := 42) (args := [.inr (.inr 25)]) hG (by omega) (by omega) dX11_init_109 ci_RX11_63 cw_X1_init rfl (Nat.le_of_ble_eq_true rfl) rfl kX1_init_42 ?_
  refine n_putr hG dX11_init_112 fl_RX11_64 (fun _ => rfl) (by decide +kernel) rfl (show 3 < RLc_91.length by decide +kernel) rc_92 ?_
  refine s_aload_n hG dX11_init_115 rfl ?_
  refine n_new hG (ci := 7) (C := RX7) (T := TX7) dX11_init_116 rfl inX7 rfl tyX7_ok tkX7 wd_362 wd_363 wd_141 kl_48 rl_92 (fun _ => rfl) kc_49 rc_93 rfl ?_
  refine s_dup hG dX11_init_119 rfl ?_
  refine s_aload_n hG dX11_init_120 rfl ?_
  refine s_getr (r := 25) hG dX11_init_121 fl_RX11_39 (lX_k (by decide +kernel)) rfl (lX_R (by decide +kernel)) ?_
  refine s_callI (d' := 1) (o := 48) (args := [.inr (.inr 25)]) hG (by omega) (by omega) dX11_init_124 ci_RX11_70 cw_X7_init rfl (Nat.le_of_ble_eq_true rfl) rfl kX7_init_48 ?_
  refine n_putr hG dX11_init_127 fl_RX11_71 (fun _ => rfl) (by decide +kernel) rfl (show 3 < RLc_102.length by decide +kernel) rc_103 ?_
  refine s_aload_n hG dX11_init_130 rfl ?_
  refine n_new hG (ci := 9) (C := RX9) (T := TX9) dX11_init_131 rfl inX9 rfl tyX9_ok tkX9 wd_393 wd_394 wd_142 kl_53 rl_103 (fun _ => rfl) kc_54 rc_104 rfl ?_
  refine s_dup hG dX11_init_134 rfl ?_
  refine s_callIN (d' := 1) (o := 53) (args := []) hG (by omega) (by omega) dX11_init_135 ⟨List.mem_of_getElem? (i := 4) rfl, wd_396, rfl⟩ cw_X9_init rfl (Nat.le_of_ble_eq_true rfl) rfl kX9_init_53 ?_
  refine n_putr hG dX11_init_138 fl_RX11_78 (fun _ => rfl) (by decide +kernel) rfl (show 3 < RLc_112.length by decide +kernel) rc_113 ?_
  refine s_aload_n hG dX11_init_141 rfl ?_
  refine n_new hG (ci := 6) (C := RX6) (T := TX6) dX11_init_142 rfl inX6 rfl tyX6_ok tkX6 wd_427 wd_428 wd_143 kl_58 rl_113 (fun _ => rfl) kc_59 rc_114 rfl ?_
  refine s_dup hG dX11_init_145 rfl ?_
  refine s_aload_n hG dX11_init_146 rfl ?_
  refine s_getr (r := 25) hG dX11_init_147 fl_RX11_39 (lX_k (by decide +kernel)) rfl (lX_R (by decide +kernel)) ?_
  refine s_callI (d' := 1) (o := 58) (args := [.inr (.inr 25)]) hG (by omega) (by omega) dX11_init_150 ci_RX11_84 cw_X6_init rfl (Nat.le_of_ble_eq_true rfl) rfl kX6_init_58 ?_
  refine n_putr hG dX11_init_153 fl_RX11_85 (fun _ => rfl) (by decide +kernel) rfl (show 3 < RLc_123.length by decide +kernel) rc_124 ?_
  refine s_aload_n hG dX11_init_156 rfl ?_
  refine s_bipush hG dX11_init_157 bp_7 ⟨by decide, by decide⟩ ?_
  refine n_newI hG 7 dX11_init_159 rfl (by decide) ac_I kl_63 rl_124 (fun _ => rfl) kc_64 rc_125 rfl ?_
  refine n_putr hG dX11_init_161 fl_RX11_89 (fun _ => rfl) (by decide +kernel) rfl (show 3 < RLc_125.length by decide +kernel) rc_126 ?_
  refine s_aload_n hG dX11_init_164 rfl ?_
  refine s_iconst hG dX11_init_165 ⟨by decide, by decide⟩ ?_
  refine n_put0 hG dX11_init_166 fl_RX11_93 (fun _ => rfl) (lX_k (by decide +kernel)) rfl rfl ?_
  refine s_aload_n hG dX11_init_169 rfl ?_
  refine s_iconst hG dX11_init_170 ⟨by decide, by decide⟩ ?_
  refine n_put0 hG dX11_init_171 fl_RX11_97 (fun _ => rfl) (lX_k (by decide +kernel)) rfl rfl ?_
  exact s_vret hE dX11_init_174 rfl
def Nl (i : Nat) : NN := fun a b => if a = 66 then (if 141 ≤ b ∧ b < 141 + 2 * i ∧ (b - 141) % 2 = 0 then -1 else Nc_47 a b) else Nc_47 a b
theorem nl_0 : Nc_47 = Nl 0 := by
  funext a b
  unfold Nl
  by_cases ha : a = 66
  · rw [if_pos ha, if_neg (by omega)]
  · rw [if_neg ha]
theorem X12_loop {d n0 s0 nF sF : Nat} {Ω : Nat → MS → Prop} (hG : m_G d yX12_init.cls yX12_init.name cX12_init 2 n0 s0 nF sF Ω) (k : Ω 474 ([some (.inr (.inr 64)), some (.inl 36)], [], Nc_48, (lX KLc_104 RLc_205 45387))) : ∀ j i : Nat, i + j = 36 → Ω 449 ([some (.inr (.inr 64)), some (.inl (i : Int))], [], Nl i, (lX KLc_104 RLc_205 45387))
  | 0, i, h => by
    have hi : i = 36 := by omega
    subst hi
    refine s_iload_n hG dX12_init_449 rfl ?_
    refine s_bipush hG dX12_init_450 bp_36 ⟨by decide, by decide⟩ ?_
    exact s_icmp_ge hG 474 dX12_init_452 (by decide) (fun c => absurd c (by decide)) (fun _ => k)
  | j + 1, i, h => by
    have hi : i < 36 := by omega
    refine s_iload_n hG dX12_init_449 rfl ?_
    refine s_bipush hG dX12_init_450 bp_36 ⟨by decide, by decide⟩ ?_
    refine s_icmp_ge hG 474 dX12_init_452 (by decide) (fun _ => ?_) (fun c => absurd (show (i : Int) < 36 by omega) c)
    refine s_aload_n hG dX12_init_455 rfl ?_
    refine s_getr (r := 66) hG dX12_init_456 fl_RX12_13 (lX_k (by decide +kernel)) rfl (lX_R (by decide +kernel)) ?_
    refine s_sipush hG dX12_init_459 sp_141 ⟨by decide, by decide⟩ ?_
    refine s_iconst hG dX12_init_462 ⟨by decide, by decide⟩ ?_
    refine s_iload_n hG dX12_init_463 rfl ?_
    refine n_imul hG dX12_init_464 (v := 2 * (i : Int)) (w_id (by omega) (by omega)) ?_
    refine n_iadd hG dX12_init_465 (v := 141 + 2 * (i : Int)) (w_id (by omega) (by omega)) ?_
    refine s_iconst hG dX12_init_466 ⟨by decide, by decide⟩ ?_
    refine s_iastj (j := 141 + 2 * i) hG dX12_init_467 (lX_K (v := (1, 5670)) (by decide +kernel)) ⟨by omega, by omega⟩ (by omega) ?_
    refine n_N (N' := Nl (i + 1)) ?_ ?_
    · funext a b
      unfold m_up Nl
      by_cases ha : a = 66
      · rw [if_pos ha, if_pos ha, if_pos ha]
        by_cases hb : b = 141 + 2 * i
        · rw [if_pos hb, if_pos (by omega)]
        · rw [if_neg hb]
          by_cases hc : 141 ≤ b ∧ b < 141 + 2 * i ∧ (b - 141) % 2 = 0
          · rw [if_pos hc, if_pos (by omega)]
          · rw [if_neg hc, if_neg (by omega)]
      · rw [if_neg ha, if_neg ha, if_neg ha]
    · refine s_iinc (a := (i : Int)) hG dX12_init_468 (by decide) rfl (congrArg (fun v => [some (Sum.inr (Sum.inr 64)), some (Sum.inl v)]) (show m_w ((i : Int) + 1) = ((i + 1 : Nat) : Int) by rw [w_id (by omega) (by omega)]; rfl)) ?_
      refine s_goto hG 449 dX12_init_471 (by decide) ?_
      exact X12_loop hG k j (i + 1) (by omega)
theorem kX12_init_64 : m_Call 1 yX12_init cX12_init 2 none [.inr (.inr 64)] Nc_27 (lX KLc_65 RLc_127 11516) none Nc_48 (lX KLc_104 RLc_205 45387) := by
  refine m_mk (ls0 := [some (.inr (.inr 64)), none]) (by decide) rfl (Nat.le_of_ble_eq_true rfl) (show KLc_65.length ≤ KLc_104.length by rw [kl_65, kl_104]; decide) (show 11516 ≤ 45387 by decide) (fun Ω hE => ?_)
  have hG := hE.G
  refine s_aload_n hG dX12_init_0 rfl ?_
  refine s_objInit hG (by omega) (by omega) dX12_init_1 ml_RX12_1 oi_i oi_c (Nat.le_of_ble_eq_true rfl) ?_
  refine s_aload_n hG dX12_init_4 rfl ?_
  refine s_bipush hG dX12_init_5 bp_7 ⟨by decide, by decide⟩ ?_
  refine n_newI hG 7 dX12_init_7 rfl (by decide) ac_I kl_65 rl_127 (fun _ => rfl) kc_66 rc_128 rfl ?_
  refine n_putr hG dX12_init_9 fl_RX12_7 (fun _ => rfl) (by decide +kernel) rfl (show 64 < RLc_128.length by decide +kernel) rc_129 ?_
  refine s_aload_n hG dX12_init_12 rfl ?_
  refine s_sipush hG dX12_init_13 sp_5670 ⟨by decide, by decide⟩ ?_
  refine n_newI hG 5670 dX12_init_16 rfl (by decide) ac_I kl_66 rl_129 (fun _ => rfl) kc_67 rc_130 rfl ?_
  refine n_putr hG dX12_init_18 fl_RX12_13 (fun _ => rfl) (by decide +kernel) rfl (show 64 < RLc_130.length by decide +kernel) rc_131 ?_
  refine s_aload_n hG dX12_init_21 rfl ?_
  refine s_sipush hG dX12_init_22 sp_11340 ⟨by decide, by decide⟩ ?_
  refine n_newI hG 11340 dX12_init_25 rfl (by decide) ac_I kl_67 rl_131 (fun _ => rfl) kc_68 rc_132 rfl ?_
  refine n_putr hG dX12_init_27 fl_RX12_16 (fun _ => rfl) (by decide +kernel) rfl (show 64 < RLc_132.length by decide +kernel) rc_133 ?_
  refine s_aload_n hG dX12_init_30 rfl ?_
  refine s_iconst hG dX12_init_31 ⟨by decide, by decide⟩ ?_
  refine n_newZ hG 2 dX12_init_32 rfl (by decide) ac_Z kl_68 rl_133 (fun _ => rfl) kc_69 rc_134 rfl ?_
  refine n_putr hG dX12_init_34 fl_RX12_19 (fun _ => rfl) (by decide +kernel) rfl (show 64 < RLc_134.length by decide +kernel) rc_135 ?_
  refine s_aload_n hG dX12_init_37 rfl ?_
  refine s_sipush hG dX12_init_38 sp_4860 ⟨by decide, by decide⟩ ?_
  refine n_newI hG 4860 dX12_init_41 rfl (by decide) ac_I kl_69 rl_135 (fun _ => rfl) kc_70 rc_136 rfl ?_
  refine n_putr hG dX12_init_43 fl_RX12_23 (fun _ => rfl) (by decide +kernel) rfl (show 64 < RLc_136.length by decide +kernel) rc_137 ?_
  refine s_aload_n hG dX12_init_46 rfl ?_
  refine s_bipush hG dX12_init_47 bp_16 ⟨by decide, by decide⟩ ?_
  refine n_newI hG 16 dX12_init_49 rfl (by decide) ac_I kl_70 rl_137 (fun _ => rfl) kc_71 rc_138 rfl ?_
  refine n_putr hG dX12_init_51 fl_RX12_26 (fun _ => rfl) (by decide +kernel) rfl (show 64 < RLc_138.length by decide +kernel) rc_139 ?_
  refine s_aload_n hG dX12_init_54 rfl ?_
  refine s_sipush hG dX12_init_55 sp_4320 ⟨by decide, by decide⟩ ?_
  refine n_newI hG 4320 dX12_init_58 rfl (by decide) ac_I kl_71 rl_139 (fun _ => rfl) kc_72 rc_140 rfl ?_
  refine n_putr hG dX12_init_60 fl_RX12_29 (fun _ => rfl) (by decide +kernel) rfl (show 64 < RLc_140.length by decide +kernel) rc_141 ?_
  refine s_aload_n hG dX12_init_63 rfl ?_
  refine s_bipush hG dX12_init_64 bp_16 ⟨by decide, by decide⟩ ?_
  refine n_newI hG 16 dX12_init_66 rfl (by decide) ac_I kl_72 rl_141 (fun _ => rfl) kc_73 rc_142 rfl ?_
  refine n_putr hG dX12_init_68 fl_RX12_32 (fun _ => rfl) (by decide +kernel) rfl (show 64 < RLc_142.length by decide +kernel) rc_143 ?_
  refine s_aload_n hG dX12_init_71 rfl ?_
  refine s_sipush hG dX12_init_72 sp_400 ⟨by decide, by decide⟩ ?_
  refine n_newI hG 400 dX12_init_75 rfl (by decide) ac_I kl_73 rl_143 (fun _ => rfl) kc_74 rc_144 rfl ?_
  refine n_putr hG dX12_init_77 fl_RX12_35 (fun _ => rfl) (by decide +kernel) rfl (show 64 < RLc_144.length by decide +kernel) rc_145 ?_
  refine s_aload_n hG dX12_init_80 rfl ?_
  refine s_iconst hG dX12_init_81 ⟨by decide, by decide⟩ ?_
  refine s_puti hG dX12_init_82 fl_RX12_38 (fun _ => rfl) (lX_k (by decide +kernel)) rfl ?_
  refine n_N nc_28 ?_
  refine s_aload_n hG dX12_init_85 rfl ?_
  refine s_bipush hG dX12_init_86 bp_96 ⟨by decide, by decide⟩ ?_
  refine n_newI hG 96 dX12_init_88 rfl (by decide) ac_I kl_74 rl_145 (fun _ => rfl) kc_75 rc_146 rfl ?_
  refine n_putr hG dX12_init_90 fl_RX12_42 (fun _ => rfl) (by decide +kernel) rfl (show 64 < RLc_146.length by decide +kernel) rc_147 ?_
  refine s_aload_n hG dX12_init_93 rfl ?_
  refine s_sipush hG dX12_init_94 sp_400 ⟨by decide, by decide⟩ ?_
  refine n_newI hG 400 dX12_init_97 rfl (by decide) ac_I kl_75 rl_147 (fun _ => rfl) kc_76 rc_148 rfl ?_
  refine n_putr hG dX12_init_99 fl_RX12_45 (fun _ => rfl) (by decide +kernel) rfl (show 64 < RLc_148.length by decide +kernel) rc_149 ?_
  refine s_aload_n hG dX12_init_102 rfl ?_
  refine s_sipush hG dX12_init_103 sp_400 ⟨by decide, by decide⟩ ?_
  refine n_newI hG 400 dX12_init_106 rfl (by decide) ac_I kl_76 rl_149 (fun _ => rfl) kc_77 rc_150 rfl ?_
  refine n_putr hG dX12_init_108 fl_RX12_48 (fun _ => rfl) (by decide +kernel) rfl (show 64 < RLc_150.length by decide +kernel) rc_151 ?_
  refine s_aload_n hG dX12_init_111 rfl ?_
  refine s_sipush hG dX12_init_112 sp_400 ⟨by decide, by decide⟩ ?_
  refine n_newI hG 400 dX12_init_115 rfl (by decide) ac_I kl_77 rl_151 (fun _ => rfl) kc_78 rc_152 rfl ?_
  refine n_putr hG dX12_init_117 fl_RX12_51 (fun _ => rfl) (by decide +kernel) rfl (show 64 < RLc_152.length by decide +kernel) rc_153 ?_
  refine s_aload_n hG dX12_init_120 rfl ?_
  refine s_sipush hG dX12_init_121 sp_400 ⟨by decide, by decide⟩ ?_
  refine n_newI hG 400 dX12_init_124 rfl (by decide) ac_I kl_78 rl_153 (fun _ => rfl) kc_79 rc_154 rfl ?_
  refine n_putr hG dX12_init_126 fl_RX12_54 (fun _ => rfl) (by decide +kernel) rfl (show 64 < RLc_154.length by decide +kernel) rc_155 ?_
  refine s_aload_n hG dX12_init_129 rfl ?_
  refine s_bipush hG dX12_init_130 bp_9 ⟨by decide, by decide⟩ ?_
  refine n_newJ hG 9 dX12_init_132 rfl (by decide) ac_J kl_79 rl_155 (fun _ => rfl) kc_80 rc_156 rfl ?_
  refine s_dup hG dX12_init_134 rfl ?_
  refine s_iconst hG dX12_init_135 ⟨by decide, by decide⟩ ?_
  refine s_ldc2 hG dX12_init_136 kc_RX12_57 ⟨by decide, by decide⟩ ?_
  refine s_lastj (j := 0) hG dX12_init_139 (lX_K (v := (2, 9)) (by decide +kernel)) ⟨by decide, by decide⟩ rfl ?_
  refine n_N nc_29 ?_
  refine s_dup hG dX12_init_140 rfl ?_
  refine s_iconst hG dX12_init_141 ⟨by decide, by decide⟩ ?_
  refine s_ldc2 hG dX12_init_142 kc_RX12_59 ⟨by decide, by decide⟩ ?_
  refine s_lastj (j := 1) hG dX12_init_145 (lX_K (v := (2, 9)) (by decide +kernel)) ⟨by decide, by decide⟩ rfl ?_
  refine n_N nc_30 ?_
  refine s_dup hG dX12_init_146 rfl ?_
  refine s_iconst hG dX12_init_147 ⟨by decide, by decide⟩ ?_
  refine s_ldc2 hG dX12_init_148 kc_RX12_61 ⟨by decide, by decide⟩ ?_
  refine s_lastj (j := 2) hG dX12_init_151 (lX_K (v := (2, 9)) (by decide +kernel)) ⟨by decide, by decide⟩ rfl ?_
  refine n_N nc_31 ?_
  refine s_dup hG dX12_init_152 rfl ?_
  refine s_iconst hG dX12_init_153 ⟨by decide, by decide⟩ ?_
  refine s_ldc2 hG dX12_init_154 kc_RX12_63 ⟨by decide, by decide⟩ ?_
  refine s_lastj (j := 3) hG dX12_init_157 (lX_K (v := (2, 9)) (by decide +kernel)) ⟨by decide, by decide⟩ rfl ?_
  refine n_N nc_32 ?_
  refine s_dup hG dX12_init_158 rfl ?_
  refine s_iconst hG dX12_init_159 ⟨by decide, by decide⟩ ?_
  refine s_ldc2 hG dX12_init_160 kc_RX12_65 ⟨by decide, by decide⟩ ?_
  refine s_lastj (j := 4) hG dX12_init_163 (lX_K (v := (2, 9)) (by decide +kernel)) ⟨by decide, by decide⟩ rfl ?_
  refine n_N nc_33 ?_
  refine s_dup hG dX12_init_164 rfl ?_
  refine s_iconst hG dX12_init_165 ⟨by decide, by decide⟩ ?_
  refine s_ldc2 hG dX12_init_166 kc_RX12_67 ⟨by decide, by decide⟩ ?_
  refine s_lastj (j := 5) hG dX12_init_169 (lX_K (v := (2, 9)) (by decide +kernel)) ⟨by decide, by decide⟩ rfl ?_
  refine n_N nc_34 ?_
  refine s_dup hG dX12_init_170 rfl ?_
  refine s_bipush hG dX12_init_171 bp_6 ⟨by decide, by decide⟩ ?_
  refine s_ldc2 hG dX12_init_173 kc_RX12_69 ⟨by decide, by decide⟩ ?_
  refine s_lastj (j := 6) hG dX12_init_176 (lX_K (v := (2, 9)) (by decide +kernel)) ⟨by decide, by decide⟩ rfl ?_
  refine n_N nc_35 ?_
  refine s_dup hG dX12_init_177 rfl ?_
  refine s_bipush hG dX12_init_178 bp_7 ⟨by decide, by decide⟩ ?_
  refine s_ldc2 hG dX12_init_180 kc_RX12_71 ⟨by decide, by decide⟩ ?_
  refine s_lastj (j := 7) hG dX12_init_183 (lX_K (v := (2, 9)) (by decide +kernel)) ⟨by decide, by decide⟩ rfl ?_
  refine n_N nc_36 ?_
  refine s_dup hG dX12_init_184 rfl ?_
  refine s_bipush hG dX12_init_185 bp_8 ⟨by decide, by decide⟩ ?_
  refine s_ldc2 hG dX12_init_187 kc_RX12_73 ⟨by decide, by decide⟩ ?_
  refine s_lastj (j := 8) hG dX12_init_190 (lX_K (v := (2, 9)) (by decide +kernel)) ⟨by decide, by decide⟩ rfl ?_
  refine n_N nc_37 ?_
  refine n_putr hG dX12_init_191 fl_RX12_75 (fun _ => rfl) (by decide +kernel) rfl (show 64 < RLc_156.length by decide +kernel) rc_157 ?_
  refine s_aload_n hG dX12_init_194 rfl ?_
  refine s_bipush hG dX12_init_195 bp_7 ⟨by decide, by decide⟩ ?_
  refine n_newJ hG 7 dX12_init_197 rfl (by decide) ac_J kl_80 rl_157 (fun _ => rfl) kc_81 rc_158 rfl ?_
  refine s_dup hG dX12_init_199 rfl ?_
  refine s_iconst hG dX12_init_200 ⟨by decide, by decide⟩ ?_
  refine s_ldc2 hG dX12_init_201 kc_RX12_69 ⟨by decide, by decide⟩ ?_
  refine s_lastj (j := 0) hG dX12_init_204 (lX_K (v := (2, 7)) (by decide +kernel)) ⟨by decide, by decide⟩ rfl ?_
  refine n_N nc_38 ?_
  refine s_dup hG dX12_init_205 rfl ?_
  refine s_iconst hG dX12_init_206 ⟨by decide, by decide⟩ ?_
  refine s_ldc2 hG dX12_init_207 kc_RX12_79 ⟨by decide, by decide⟩ ?_
  refine s_lastj (j := 1) hG dX12_init_210 (lX_K (v := (2, 7)) (by decide +kernel)) ⟨by decide, by decide⟩ rfl ?_
  refine n_N nc_39 ?_
  refine s_dup hG dX12_init_211 rfl ?_
  refine s_iconst hG dX12_init_212 ⟨by decide, by decide⟩ ?_
  refine s_ldc2 hG dX12_init_213 kc_RX12_81 ⟨by decide, by decide⟩ ?_
  refine s_lastj (j := 2) hG dX12_init_216 (lX_K (v := (2, 7)) (by decide +kernel)) ⟨by decide, by decide⟩ rfl ?_
  refine n_N nc_40 ?_
  refine s_dup hG dX12_init_217 rfl ?_
  refine s_iconst hG dX12_init_218 ⟨by decide, by decide⟩ ?_
  refine s_ldc2 hG dX12_init_219 kc_RX12_83 ⟨by decide, by decide⟩ ?_
  refine s_lastj (j := 3) hG dX12_init_222 (lX_K (v := (2, 7)) (by decide +kernel)) ⟨by decide, by decide⟩ rfl ?_
  refine n_N nc_41 ?_
  refine s_dup hG dX12_init_223 rfl ?_
  refine s_iconst hG dX12_init_224 ⟨by decide, by decide⟩ ?_
  refine s_ldc2 hG dX12_init_225 kc_RX12_85 ⟨by decide, by decide⟩ ?_
  refine s_lastj (j := 4) hG dX12_init_228 (lX_K (v := (2, 7)) (by decide +kernel)) ⟨by decide, by decide⟩ rfl ?_
  refine n_N nc_42 ?_
  refine s_dup hG dX12_init_229 rfl ?_
  refine s_iconst hG dX12_init_230 ⟨by decide, by decide⟩ ?_
  refine s_ldc2 hG dX12_init_231 kc_RX12_87 ⟨by decide, by decide⟩ ?_
  refine s_lastj (j := 5) hG dX12_init_234 (lX_K (v := (2, 7)) (by decide +kernel)) ⟨by decide, by decide⟩ rfl ?_
  refine n_N nc_43 ?_
  refine s_dup hG dX12_init_235 rfl ?_
  refine s_bipush hG dX12_init_236 bp_6 ⟨by decide, by decide⟩ ?_
  refine s_ldc2 hG dX12_init_238 kc_RX12_89 ⟨by decide, by decide⟩ ?_
  refine s_lastj (j := 6) hG dX12_init_241 (lX_K (v := (2, 7)) (by decide +kernel)) ⟨by decide, by decide⟩ rfl ?_
  refine n_N nc_44 ?_
  refine n_putr hG dX12_init_242 fl_RX12_91 (fun _ => rfl) (by decide +kernel) rfl (show 64 < RLc_158.length by decide +kernel) rc_159 ?_
  refine s_aload_n hG dX12_init_245 rfl ?_
  refine s_bipush hG dX12_init_246 bp_13 ⟨by decide, by decide⟩ ?_
  refine n_newJ hG 13 dX12_init_248 rfl (by decide) ac_J kl_81 rl_159 (fun _ => rfl) kc_82 rc_160 rfl ?_
  refine n_putr hG dX12_init_250 fl_RX12_94 (fun _ => rfl) (by decide +kernel) rfl (show 64 < RLc_160.length by decide +kernel) rc_161 ?_
  refine s_aload_n hG dX12_init_253 rfl ?_
  refine s_bipush hG dX12_init_254 bp_13 ⟨by decide, by decide⟩ ?_
  refine n_newJ hG 13 dX12_init_256 rfl (by decide) ac_J kl_82 rl_161 (fun _ => rfl) kc_83 rc_162 rfl ?_
  refine n_putr hG dX12_init_258 fl_RX12_97 (fun _ => rfl) (by decide +kernel) rfl (show 64 < RLc_162.length by decide +kernel) rc_163 ?_
  refine s_aload_n hG dX12_init_261 rfl ?_
  refine s_sipush hG dX12_init_262 sp_400 ⟨by decide, by decide⟩ ?_
  refine n_newJ hG 400 dX12_init_265 rfl (by decide) ac_J kl_83 rl_163 (fun _ => rfl) kc_84 rc_164 rfl ?_
  refine n_putr hG dX12_init_267 fl_RX12_100 (fun _ => rfl) (by decide +kernel) rfl (show 64 < RLc_164.length by decide +kernel) rc_165 ?_
  refine s_aload_n hG dX12_init_270 rfl ?_
  refine s_bipush hG dX12_init_271 bp_12 ⟨by decide, by decide⟩ ?_
  refine n_newI hG 12 dX12_init_273 rfl (by decide) ac_I kl_84 rl_165 (fun _ => rfl) kc_85 rc_166 rfl ?_
  refine n_putr hG dX12_init_275 fl_RX12_103 (fun _ => rfl) (by decide +kernel) rfl (show 64 < RLc_166.length by decide +kernel) rc_167 ?_
  refine s_aload_n hG dX12_init_278 rfl ?_
  refine s_bipush hG dX12_init_279 bp_12 ⟨by decide, by decide⟩ ?_
  refine n_newI hG 12 dX12_init_281 rfl (by decide) ac_I kl_85 rl_167 (fun _ => rfl) kc_86 rc_168 rfl ?_
  refine n_putr hG dX12_init_283 fl_RX12_106 (fun _ => rfl) (by decide +kernel) rfl (show 64 < RLc_168.length by decide +kernel) rc_169 ?_
  refine s_aload_n hG dX12_init_286 rfl ?_
  refine s_bipush hG dX12_init_287 bp_12 ⟨by decide, by decide⟩ ?_
  refine n_newI hG 12 dX12_init_289 rfl (by decide) ac_I kl_86 rl_169 (fun _ => rfl) kc_87 rc_170 rfl ?_
  refine n_putr hG dX12_init_291 fl_RX12_109 (fun _ => rfl) (by decide +kernel) rfl (show 64 < RLc_170.length by decide +kernel) rc_171 ?_
  refine s_aload_n hG dX12_init_294 rfl ?_
  refine s_sipush hG dX12_init_295 sp_4096 ⟨by decide, by decide⟩ ?_
  refine n_newZ hG 4096 dX12_init_298 rfl (by decide) ac_Z kl_87 rl_171 (fun _ => rfl) kc_88 rc_172 rfl ?_
  refine n_putr hG dX12_init_300 fl_RX12_112 (fun _ => rfl) (by decide +kernel) rfl (show 64 < RLc_172.length by decide +kernel) rc_173 ?_
  refine s_aload_n hG dX12_init_303 rfl ?_
  refine s_iconst hG dX12_init_304 ⟨by decide, by decide⟩ ?_
  refine n_newI hG 2 dX12_init_305 rfl (by decide) ac_I kl_88 rl_173 (fun _ => rfl) kc_89 rc_174 rfl ?_
  refine n_putr hG dX12_init_307 fl_RX12_115 (fun _ => rfl) (by decide +kernel) rfl (show 64 < RLc_174.length by decide +kernel) rc_175 ?_
  refine s_aload_n hG dX12_init_310 rfl ?_
  refine s_bipush hG dX12_init_311 bp_100 ⟨by decide, by decide⟩ ?_
  refine n_newI hG 100 dX12_init_313 rfl (by decide) ac_I kl_89 rl_175 (fun _ => rfl) kc_90 rc_176 rfl ?_
  refine n_putr hG dX12_init_315 fl_RX12_118 (fun _ => rfl) (by decide +kernel) rfl (show 64 < RLc_176.length by decide +kernel) rc_177 ?_
  refine s_aload_n hG dX12_init_318 rfl ?_
  refine s_bipush hG dX12_init_319 bp_10 ⟨by decide, by decide⟩ ?_
  refine n_newI hG 10 dX12_init_321 rfl (by decide) ac_I kl_90 rl_177 (fun _ => rfl) kc_91 rc_178 rfl ?_
  refine n_putr hG dX12_init_323 fl_RX12_121 (fun _ => rfl) (by decide +kernel) rfl (show 64 < RLc_178.length by decide +kernel) rc_179 ?_
  refine s_aload_n hG dX12_init_326 rfl ?_
  refine s_bipush hG dX12_init_327 bp_90 ⟨by decide, by decide⟩ ?_
  refine n_newI hG 90 dX12_init_329 rfl (by decide) ac_I kl_91 rl_179 (fun _ => rfl) kc_92 rc_180 rfl ?_
  refine n_putr hG dX12_init_331 fl_RX12_124 (fun _ => rfl) (by decide +kernel) rfl (show 64 < RLc_180.length by decide +kernel) rc_181 ?_
  refine s_aload_n hG dX12_init_334 rfl ?_
  refine s_iconst hG dX12_init_335 ⟨by decide, by decide⟩ ?_
  refine n_newI hG 5 dX12_init_336 rfl (by decide) ac_I kl_92 rl_181 (fun _ => rfl) kc_93 rc_182 rfl ?_
  refine n_putr hG dX12_init_338 fl_RX12_127 (fun _ => rfl) (by decide +kernel) rfl (show 64 < RLc_182.length by decide +kernel) rc_183 ?_
  refine s_aload_n hG dX12_init_341 rfl ?_
  refine s_bipush hG dX12_init_342 bp_6 ⟨by decide, by decide⟩ ?_
  refine n_newI hG 6 dX12_init_344 rfl (by decide) ac_I kl_93 rl_183 (fun _ => rfl) kc_94 rc_184 rfl ?_
  refine n_putr hG dX12_init_346 fl_RX12_130 (fun _ => rfl) (by decide +kernel) rfl (show 64 < RLc_184.length by decide +kernel) rc_185 ?_
  refine s_aload_n hG dX12_init_349 rfl ?_
  refine s_bipush hG dX12_init_350 bp_6 ⟨by decide, by decide⟩ ?_
  refine n_newI hG 6 dX12_init_352 rfl (by decide) ac_I kl_94 rl_185 (fun _ => rfl) kc_95 rc_186 rfl ?_
  refine n_putr hG dX12_init_354 fl_RX12_133 (fun _ => rfl) (by decide +kernel) rfl (show 64 < RLc_186.length by decide +kernel) rc_187 ?_
  refine s_aload_n hG dX12_init_357 rfl ?_
  refine s_bipush hG dX12_init_358 bp_6 ⟨by decide, by decide⟩ ?_
  refine n_newI hG 6 dX12_init_360 rfl (by decide) ac_I kl_95 rl_187 (fun _ => rfl) kc_96 rc_188 rfl ?_
  refine n_putr hG dX12_init_362 fl_RX12_136 (fun _ => rfl) (by decide +kernel) rfl (show 64 < RLc_188.length by decide +kernel) rc_189 ?_
  refine s_aload_n hG dX12_init_365 rfl ?_
  refine s_bipush hG dX12_init_366 bp_6 ⟨by decide, by decide⟩ ?_
  refine n_newI hG 6 dX12_init_368 rfl (by decide) ac_I kl_96 rl_189 (fun _ => rfl) kc_97 rc_190 rfl ?_
  refine n_putr hG dX12_init_370 fl_RX12_139 (fun _ => rfl) (by decide +kernel) rfl (show 64 < RLc_190.length by decide +kernel) rc_191 ?_
  refine s_aload_n hG dX12_init_373 rfl ?_
  refine s_sipush hG dX12_init_374 sp_576 ⟨by decide, by decide⟩ ?_
  refine n_newZ hG 576 dX12_init_377 rfl (by decide) ac_Z kl_97 rl_191 (fun _ => rfl) kc_98 rc_192 rfl ?_
  refine n_putr hG dX12_init_379 fl_RX12_142 (fun _ => rfl) (by decide +kernel) rfl (show 64 < RLc_192.length by decide +kernel) rc_193 ?_
  refine s_aload_n hG dX12_init_382 rfl ?_
  refine s_bipush hG dX12_init_383 bp_16 ⟨by decide, by decide⟩ ?_
  refine n_newI hG 16 dX12_init_385 rfl (by decide) ac_I kl_98 rl_193 (fun _ => rfl) kc_99 rc_194 rfl ?_
  refine n_putr hG dX12_init_387 fl_RX12_145 (fun _ => rfl) (by decide +kernel) rfl (show 64 < RLc_194.length by decide +kernel) rc_195 ?_
  refine s_aload_n hG dX12_init_390 rfl ?_
  refine s_iconst hG dX12_init_391 ⟨by decide, by decide⟩ ?_
  refine n_newI hG 3 dX12_init_392 rfl (by decide) ac_I kl_99 rl_195 (fun _ => rfl) kc_100 rc_196 rfl ?_
  refine n_putr hG dX12_init_394 fl_RX12_148 (fun _ => rfl) (by decide +kernel) rfl (show 64 < RLc_196.length by decide +kernel) rc_197 ?_
  refine s_aload_n hG dX12_init_397 rfl ?_
  refine s_iconst hG dX12_init_398 ⟨by decide, by decide⟩ ?_
  refine n_newI hG 3 dX12_init_399 rfl (by decide) ac_I kl_100 rl_197 (fun _ => rfl) kc_101 rc_198 rfl ?_
  refine n_putr hG dX12_init_401 fl_RX12_151 (fun _ => rfl) (by decide +kernel) rfl (show 64 < RLc_198.length by decide +kernel) rc_199 ?_
  refine s_aload_n hG dX12_init_404 rfl ?_
  refine s_iconst hG dX12_init_405 ⟨by decide, by decide⟩ ?_
  refine n_newI hG 3 dX12_init_406 rfl (by decide) ac_I kl_101 rl_199 (fun _ => rfl) kc_102 rc_200 rfl ?_
  refine n_putr hG dX12_init_408 fl_RX12_154 (fun _ => rfl) (by decide +kernel) rfl (show 64 < RLc_200.length by decide +kernel) rc_201 ?_
  refine s_aload_n hG dX12_init_411 rfl ?_
  refine s_bipush hG dX12_init_412 bp_96 ⟨by decide, by decide⟩ ?_
  refine n_newI hG 96 dX12_init_414 rfl (by decide) ac_I kl_102 rl_201 (fun _ => rfl) kc_103 rc_202 rfl ?_
  refine n_putr hG dX12_init_416 fl_RX12_157 (fun _ => rfl) (by decide +kernel) rfl (show 64 < RLc_202.length by decide +kernel) rc_203 ?_
  refine s_aload_n hG dX12_init_419 rfl ?_
  refine s_iconst hG dX12_init_420 ⟨by decide, by decide⟩ ?_
  refine s_puti hG dX12_init_421 fl_RX12_160 (fun _ => rfl) (lX_k (by decide +kernel)) rfl ?_
  refine n_N nc_45 ?_
  refine s_aload_n hG dX12_init_424 rfl ?_
  refine s_bipush hG dX12_init_425 bp_42 ⟨by decide, by decide⟩ ?_
  refine n_newI hG 42 dX12_init_427 rfl (by decide) ac_I kl_103 rl_203 (fun _ => rfl) kc_104 rc_204 rfl ?_
  refine n_putr hG dX12_init_429 fl_RX12_163 (fun _ => rfl) (by decide +kernel) rfl (show 64 < RLc_204.length by decide +kernel) rc_205 ?_
  refine s_aload_n hG dX12_init_432 rfl ?_
  refine s_getr (r := 66) hG dX12_init_433 fl_RX12_13 (lX_k (by decide +kernel)) rfl (lX_R (by decide +kernel)) ?_
  refine s_iconst hG dX12_init_436 ⟨by decide, by decide⟩ ?_
  refine s_iconst hG dX12_init_437 ⟨by decide, by decide⟩ ?_
  refine s_iastj (j := 5) hG dX12_init_438 (lX_K (v := (1, 5670)) (by decide +kernel)) ⟨by decide, by decide⟩ rfl ?_
  refine n_N nc_46 ?_
  refine s_aload_n hG dX12_init_439 rfl ?_
  refine s_getr (r := 66) hG dX12_init_440 fl_RX12_13 (lX_k (by decide +kernel)) rfl (lX_R (by decide +kernel)) ?_
  refine s_bipush hG dX12_init_443 bp_7 ⟨by decide, by decide⟩ ?_
  refine s_iconst hG dX12_init_445 ⟨by decide, by decide⟩ ?_
  refine s_iastj (j := 7) hG dX12_init_446 (lX_K (v := (1, 5670)) (by decide +kernel)) ⟨by decide, by decide⟩ rfl ?_
  refine n_N nc_47 ?_
  refine s_iconst hG dX12_init_447 ⟨by decide, by decide⟩ ?_
  refine s_istore_n hG dX12_init_448 (by decide) rfl ?_
  refine n_N nl_0 ?_
  exact X12_loop hG (s_vret hE dX12_init_474 rfl) 36 0 rfl
