/-! the call law: the class over the machine (a new text), the reference on paper, alike -/
theorem xok_sk {X : MX} (h : m_Sk X) : XOK X := ⟨sk_K h 26 rfl, sk_K h 27 rfl, sk_K h 40 rfl, sk_K h 41 rfl, sk_T21 h, sk_K h 22 rfl, sk_K h 23 rfl, sk_K h 24 rfl, sk_K h 5 rfl, sk_K h 54 rfl, sk_K h 55 rfl, sk_K h 62 rfl, sk_K h 14 rfl, sk_K h 38 rfl⟩
section LW1
variable {X : MX} {N N1 N4 : NN}
theorem many4 : f_X10_many X N 4 4 = some (N 5 195) := by
  unfold f_X10_many
  rw [w_id (x := 191 + 4) (by omega) (by omega), if_pos (by omega)]
  rfl
theorem mc_law6 {out : Int × NN} (hsk : m_Sk X) (h : N 5 195 = 6) (hF : f_X11_refuse X (m_up N 16 5 0) (-5) = some out) : m_Call 120 yX11_law cX11_law 2 (some .int) [.inr (.inr 3)] N X (some (.inl out.1)) out.2 X := by
  refine m_mk (ls0 := [some (.inr (.inr 3)), none]) (by decide) rfl (Nat.le_of_ble_eq_true rfl) (Nat.le_refl _) (Nat.le_refl _) (fun Ω hE => ?_)
  have hG := hE.G
  refine s_aload_n hG dX11_law_0 rfl ?_
  refine s_getr (r := 4) hG dX11_law_1 fl_RX11_10 (sk_k hsk 3 rfl) rfl (sk_R hsk 3 0 rfl) ?_
  refine s_iconst hG dX11_law_4 ⟨by decide, by decide⟩ ?_
  refine s_callV (d' := 1) (o := 4) (ci := 10) (args := [.inl 4]) hG (by omega) dX11_law_5 cv_RX11_108 cw_X10_many rfl rfl (sk_k hsk 4 rfl) (Nat.le_of_ble_eq_true rfl) rfl (t_X10_many hsk (Nat.le_refl _) (sk_W4 hsk) many4) ?_
  refine s_bipush hG dX11_law_8 bp_6 ⟨by decide, by decide⟩ ?_
  refine s_icmp_lt hG 28 dX11_law_10 (by decide) (fun c => ?_) (fun _ => ?_)
  · exact absurd c (by omega)
  refine s_aload_n hG dX11_law_13 rfl ?_
  refine s_getr (r := 16) hG dX11_law_14 fl_RX11_32 (sk_k hsk 3 rfl) rfl (sk_R hsk 3 4 rfl) ?_
  refine s_iconst hG dX11_law_17 ⟨by decide, by decide⟩ ?_
  refine s_callV (d' := 1) (o := 16) (ci := 5) (args := [.inl 0]) hG (by omega) dX11_law_18 cv_RX11_171 cw_X5_cut rfl rfl (sk_k hsk 16 rfl) (Nat.le_of_ble_eq_true rfl) rfl (t_X5_cut (out := m_up N 16 5 0) hsk (Nat.le_refl _) rfl) ?_
  refine s_aload_n hG dX11_law_21 rfl ?_
  refine s_bipush hG dX11_law_22 bp_m5 ⟨by decide, by decide⟩ ?_
  refine s_callV (d' := 1) (o := 3) (ci := 11) (args := [.inl (-5)]) hG (by omega) dX11_law_24 cv_RX11_104 cw_X11_refuse rfl rfl (sk_k hsk 3 rfl) (Nat.le_of_ble_eq_true rfl) rfl (t_X11_refuse hsk (Nat.le_refl _) hF) ?_
  exact s_iret hE dX11_law_27 rfl
theorem mc_lawF {out : Int × NN} (hsk : m_Sk X) (h : N 5 195 < 6) (hR : f_X5_reads X N 1 = some (0, N1)) (hF : f_X11_refuse X (m_up N1 16 5 0) (-6) = some out) : m_Call 120 yX11_law cX11_law 2 (some .int) [.inr (.inr 3)] N X (some (.inl out.1)) out.2 X := by
  refine m_mk (ls0 := [some (.inr (.inr 3)), none]) (by decide) rfl (Nat.le_of_ble_eq_true rfl) (Nat.le_refl _) (Nat.le_refl _) (fun Ω hE => ?_)
  have hG := hE.G
  refine s_aload_n hG dX11_law_0 rfl ?_
  refine s_getr (r := 4) hG dX11_law_1 fl_RX11_10 (sk_k hsk 3 rfl) rfl (sk_R hsk 3 0 rfl) ?_
  refine s_iconst hG dX11_law_4 ⟨by decide, by decide⟩ ?_
  refine s_callV (d' := 1) (o := 4) (ci := 10) (args := [.inl 4]) hG (by omega) dX11_law_5 cv_RX11_108 cw_X10_many rfl rfl (sk_k hsk 4 rfl) (Nat.le_of_ble_eq_true rfl) rfl (t_X10_many hsk (Nat.le_refl _) (sk_W4 hsk) many4) ?_
  refine s_bipush hG dX11_law_8 bp_6 ⟨by decide, by decide⟩ ?_
  refine s_icmp_lt hG 28 dX11_law_10 (by decide) (fun _ => ?_) (fun c => absurd h c)
  refine s_aload_n hG dX11_law_28 rfl ?_
  refine s_getr (r := 16) hG dX11_law_29 fl_RX11_32 (sk_k hsk 3 rfl) rfl (sk_R hsk 3 4 rfl) ?_
  refine s_iconst hG dX11_law_32 ⟨by decide, by decide⟩ ?_
  refine s_callV (d' := 119) (o := 16) (ci := 5) (args := [.inl 1]) hG (by omega) dX11_law_33 cv_RX11_180 cw_X5_reads rfl rfl (sk_k hsk 16 rfl) (Nat.le_of_ble_eq_true rfl) rfl (t_X5_reads hsk (Nat.le_refl _) hR) ?_
  refine s_istore_n (a := 0) hG dX11_law_36 (by decide) rfl ?_
  refine s_aload_n hG dX11_law_37 rfl ?_
  refine s_getr (r := 16) hG dX11_law_38 fl_RX11_32 (sk_k hsk 3 rfl) rfl (sk_R hsk 3 4 rfl) ?_
  refine s_iconst hG dX11_law_41 ⟨by decide, by decide⟩ ?_
  refine s_callV (d' := 1) (o := 16) (ci := 5) (args := [.inl 0]) hG (by omega) dX11_law_42 cv_RX11_171 cw_X5_cut rfl rfl (sk_k hsk 16 rfl) (Nat.le_of_ble_eq_true rfl) rfl (t_X5_cut (out := m_up N1 16 5 0) hsk (Nat.le_refl _) rfl) ?_
  refine s_iload_n hG dX11_law_45 rfl ?_
  refine s_if_eq hG 73 dX11_law_46 (by decide) (fun _ => ?_) (fun c => absurd rfl c)
  refine s_aload_n hG dX11_law_73 rfl ?_
  refine s_bipush hG dX11_law_74 bp_m6 ⟨by decide, by decide⟩ ?_
  refine s_callV (d' := 1) (o := 3) (ci := 11) (args := [.inl (-6)]) hG (by omega) dX11_law_76 cv_RX11_104 cw_X11_refuse rfl rfl (sk_k hsk 3 rfl) (Nat.le_of_ble_eq_true rfl) rfl (t_X11_refuse hsk (Nat.le_refl _) hF) ?_
  exact s_iret hE dX11_law_79 rfl
theorem mc_lawT {out ov : Int × NN} {a b : Nat} (hsk : m_Sk X) (h : N 5 195 < 6) (hR : f_X5_reads X N 1 = some (1, N1)) (ha : N1 21 3 = (a : Int)) (hb : N1 21 4 = (b : Int)) (ha4 : a ≤ 400) (hb4 : b ≤ 12) (hA : f_X10_addLaw (tX7 X a (b * 8)) 4 (xn X) (tN (m_up N1 16 5 0) (xn X) a b) = some ov) (hF : f_X11_accept (tX7 X a (b * 8)) ov.2 ov.1 = some out) : m_Call 120 yX11_law cX11_law 2 (some .int) [.inr (.inr 3)] N X (some (.inl out.1)) out.2 (tX7 X a (b * 8)) := by
  have hsk7 : m_Sk (tX7 X a (b * 8)) := tX7_Sk hsk
  refine m_mk (ls0 := [some (.inr (.inr 3)), none]) (by decide) rfl (Nat.le_of_ble_eq_true rfl) (show xn X ≤ xn X + 4 by omega) (show xs X ≤ xs X + 5 + a + a + b * 8 by omega) (fun Ω hE => ?_)
  have hG := hE.G
  refine s_aload_n hG dX11_law_0 rfl ?_
  refine s_getr (r := 4) hG dX11_law_1 fl_RX11_10 (sk_k hsk 3 rfl) rfl (sk_R hsk 3 0 rfl) ?_
  refine s_iconst hG dX11_law_4 ⟨by decide, by decide⟩ ?_
  refine s_callV (d' := 1) (o := 4) (ci := 10) (args := [.inl 4]) hG (by omega) dX11_law_5 cv_RX11_108 cw_X10_many rfl rfl (sk_k hsk 4 rfl) (Nat.le_of_ble_eq_true rfl) rfl (t_X10_many hsk (Nat.le_refl _) (sk_W4 hsk) many4) ?_
  refine s_bipush hG dX11_law_8 bp_6 ⟨by decide, by decide⟩ ?_
  refine s_icmp_lt hG 28 dX11_law_10 (by decide) (fun _ => ?_) (fun c => absurd h c)
  refine s_aload_n hG dX11_law_28 rfl ?_
  refine s_getr (r := 16) hG dX11_law_29 fl_RX11_32 (sk_k hsk 3 rfl) rfl (sk_R hsk 3 4 rfl) ?_
  refine s_iconst hG dX11_law_32 ⟨by decide, by decide⟩ ?_
  refine s_callV (d' := 119) (o := 16) (ci := 5) (args := [.inl 1]) hG (by omega) dX11_law_33 cv_RX11_180 cw_X5_reads rfl rfl (sk_k hsk 16 rfl) (Nat.le_of_ble_eq_true rfl) rfl (t_X5_reads hsk (Nat.le_refl _) hR) ?_
  refine s_istore_n (a := 1) hG dX11_law_36 (by decide) rfl ?_
  refine s_aload_n hG dX11_law_37 rfl ?_
  refine s_getr (r := 16) hG dX11_law_38 fl_RX11_32 (sk_k hsk 3 rfl) rfl (sk_R hsk 3 4 rfl) ?_
  refine s_iconst hG dX11_law_41 ⟨by decide, by decide⟩ ?_
  refine s_callV (d' := 1) (o := 16) (ci := 5) (args := [.inl 0]) hG (by omega) dX11_law_42 cv_RX11_171 cw_X5_cut rfl rfl (sk_k hsk 16 rfl) (Nat.le_of_ble_eq_true rfl) rfl (t_X5_cut (out := m_up N1 16 5 0) hsk (Nat.le_refl _) rfl) ?_
  refine s_iload_n hG dX11_law_45 rfl ?_
  refine s_if_eq hG 73 dX11_law_46 (by decide) (fun c => absurd c (by decide)) (fun _ => ?_)
  refine s_aload_n hG dX11_law_49 rfl ?_
  refine s_aload_n hG dX11_law_50 rfl ?_
  refine s_getr (r := 4) hG dX11_law_51 fl_RX11_10 (sk_k hsk 3 rfl) rfl (sk_R hsk 3 0 rfl) ?_
  refine s_aload_n hG dX11_law_54 rfl ?_
  refine s_getr (r := 16) hG dX11_law_55 fl_RX11_32 (sk_k hsk 3 rfl) rfl (sk_R hsk 3 4 rfl) ?_
  refine s_callV (d' := 1) (o := 16) (ci := 5) (args := []) hG (by omega) dX11_law_58 cv_RX11_184 cw_X5_text rfl rfl (sk_k hsk 16 rfl) (Nat.le_of_ble_eq_true rfl) rfl (t_X5_text (out := 21) hsk (Nat.le_refl _) rfl) ?_
  refine s_callV (d' := 2) (o := 21) (ci := 8) (args := []) hG (by omega) dX11_law_61 cv_RX11_188 cw_X8_trimmed rfl rfl (sk_k hsk 21 rfl) (Nat.le_of_ble_eq_true rfl) rfl (i_trim hsk ((m_up_ne (by decide)).trans ha) ((m_up_ne (by decide)).trans hb) ha4 hb4) ?_
  refine s_callV (d' := 1) (o := 4) (ci := 10) (args := [.inr (.inr (xn X))]) hG (by omega) dX11_law_64 cv_RX11_193 cw_X10_addLaw rfl rfl (sk_k hsk7 4 rfl) (Nat.le_of_ble_eq_true rfl) rfl (t_X10_addLaw hsk7 (Nat.le_refl _) (sk_W4 hsk7) hA) ?_
  refine s_callV (d' := 1) (o := 3) (ci := 11) (args := [.inl ov.1]) hG (by omega) dX11_law_67 cv_RX11_118 cw_X11_accept rfl rfl (sk_k hsk7 3 rfl) (Nat.le_of_ble_eq_true rfl) rfl (t_X11_accept hsk7 (Nat.le_refl _) hF) ?_
  refine s_goto hG 79 dX11_law_70 (by decide) ?_
  exact s_iret hE dX11_law_79 rfl
end LW1
/-! the pictures -/
def lawU (lw : Nat → Law) (c : Int) (L : Law) : Nat → Law := fun i => if (i : Int) = c then L else lw i
section LW2
variable {X X' : MX} {N N' M : NN} {B : Int} {r : Nat → Int} {lw : Nat → Law} {q : Wd} {im : Nat → Option Wd} {un : Un} {tp : Tp} {cn rp : Nat → Int}
theorem ts_lt {t : Nat} {L : Law} (hX : XOK X) (hz : ∀ o, xn X ≤ o → (xK X o).1 = 0) (h : TS X N t L) : t + 3 < xn X := by
  obtain ⟨m, -⟩ := h.2.2 X (fun o _ _ => ⟨rfl, rfl⟩) hX.1 hX.2.1
  have m6 := m.2.2.2.2.2.2
  refine Nat.lt_of_not_le fun q => ?_
  have := hz _ q
  omega
theorem ts_13 {t : Nat} {L : Law} (hX : XOK X) (h : TS X N t L) : (xK X t).1 = 13 := (h.2.2 X (fun o _ _ => ⟨rfl, rfl⟩) hX.1 hX.2.1).1.1
theorem cinv_grow (hX : XOK X) (hz : ∀ o, xn X ≤ o → (xK X o).1 = 0) (h104 : 104 ≤ xn X) (hk : ∀ o, o < xn X → xK X' o = xK X o ∧ xR X' o = xR X o) (hN : ∀ o, o < xn X → N' o = N o) (hC : CInv X N B q im un tp cn rp) : CInv X' N' B q im un tp cn rp := by
  obtain ⟨a, b, c, d, e, f, g⟩ := hC
  have hw : ∀ w r lw, w + 2 < 104 → CW X N w B r lw → CW X' N' w B r lw := fun w r lw hw h => by
    refine ⟨by rw [hN _ (by omega)]; exact h.1, h.2.1, h.2.2.1, fun i hi => ?_⟩
    rw [hN (w + 2) (by omega)]
    have z := h.2.2.2 i hi
    have l := ts_lt hX hz z
    exact ts_mono z (fun o p q => hk o (by omega)) (fun o p q => hN o (by omega))
  have hl : ∀ w, w + 2 < 104 → LWF X N w → LWF X' N' w := fun w hw h i hi => by
    rw [hN (w + 2) (by omega)]
    rcases h i hi with q | q
    · exact Or.inl q
    · refine Or.inr ?_
      have : (N (w + 2) i).toNat < xn X := Nat.lt_of_not_le fun z => by have := hz _ z; omega
      rw [(hk _ this).1]; exact q
  have z : ∀ o, o < 104 → N' o = N o := fun o p => hN o (by omega)
  refine ⟨hw 4 _ _ (by omega) a, hl 4 (by omega) b, fun k hk2 => ?_, cun_eq d (z _ (by omega)) (z _ (by omega)) (z _ (by omega)), ctp_eq e (by rw [z 16 (by omega)]) (z _ (by omega)), ccn_eq f (z _ (by omega)) (z _ (by omega)) (by rw [z 16 (by omega)]) (by rw [z 33 (by omega)]), cdr_eq g (z _ (by omega))⟩
  have y := c k hk2
  cases hi : im k with
  | none => rw [hi] at y; exact (congrFun (z _ (by omega)) 2).trans y
  | some p =>
    rw [hi] at y
    exact ⟨(congrFun (z _ (by omega)) 2).trans y.1, hw _ _ _ (by omega) y.2.1, hl _ (by omega) y.2.2⟩
theorem c_addLaw {t : Nat} {c : Int} (hc : N 5 195 = c) (h0 : 0 ≤ c) (h6 : c < 6) (ht : (xK X t).1 = 13) : f_X10_addLaw X 4 t N = some (c, m_up (m_up N 5 195 (c + 1)) 6 c.toNat (t : Int)) := by
  unfold f_X10_addLaw
  rw [hc, w_id (x := c + 1) (by omega) (by omega)]
  dsimp only
  rw [if_pos ⟨h0, h6⟩, if_pos (Or.inr ht)]
theorem cinv_law {t : Nat} {c : Int} {L : Law} (hX : XOK X) (hC : CInv X N B (r, lw) im un tp cn rp) (hc : r 4 = c) (h0 : 0 ≤ c) (h6 : c < 6) (hT : TS X N t L) : CInv X (m_up (m_up N 5 195 (c + 1)) 6 c.toNat (t : Int)) B (ru r 4 (c + 1), lawU lw c L) im un tp cn rp := by
  obtain ⟨a, b, cc, d, e, f, g⟩ := hC
  obtain ⟨M, hM⟩ : ∃ M, M = m_up (m_up N 5 195 (c + 1)) 6 c.toNat (t : Int) := ⟨_, rfl⟩
  rw [← hM]
  have z : ∀ o, o ≠ 5 → o ≠ 6 → M o = N o := fun o p p' => by rw [hM, up_of p', up_of p]
  have m5 : ∀ j, M 5 j = ru (N 5) (191 + 4) (c + 1) j := fun j => by
    rw [hM, up_o (by omega)]
    by_cases hj : j = 195
    · rw [hj, up_s, ru_eq (by omega)]
    · rw [up_k hj, ru_ne (by omega)]
  have m6 : ∀ j, M 6 j = if j = c.toNat then (t : Int) else N 6 j := fun j => by
    rw [hM]
    by_cases hj : j = c.toNat
    · rw [if_pos hj, hj, up_s]
    · rw [if_neg hj, up_k hj, up_o (by omega)]
  have h13 := ts_13 hX hT
  refine ⟨⟨rw_ext (rw_many (k := 4) a.1 (by omega) (by omega) (by omega)) fun j _ => m5 j, vr_4 a.2.1 (by omega) (by omega), a.2.2.1, fun i hi => ?_⟩, fun i hi => ?_, cim_eq cc (fun o p p' => z o (by omega) (by omega)) (fun o p => z o (by omega) (by omega)), cun_eq d (z _ (by omega) (by omega)) (z _ (by omega) (by omega)) (z _ (by omega) (by omega)), ctp_eq e (by rw [z 16 (by omega) (by omega)]) (z _ (by omega) (by omega)), ccn_eq f (z _ (by omega) (by omega)) (z _ (by omega) (by omega)) (by rw [z 16 (by omega) (by omega)]) (by rw [z 33 (by omega) (by omega)]), cdr_eq g (z _ (by omega) (by omega))⟩
  · dsimp only at hi
    rw [ru_eq (by omega)] at hi
    show TS X M (M 6 i).toNat (lawU lw c L i)
    rw [m6 i]
    unfold lawU
    by_cases e : (i : Int) = c
    · rw [if_pos (by omega), if_pos e, Int.toNat_natCast]
      have := hT.1
      exact ts_mono hT (fun o _ _ => ⟨rfl, rfl⟩) (fun o p _ => z o (by omega) (by omega))
    · rw [if_neg (by omega), if_neg e]
      have y : TS X N (N 6 i).toNat (lw i) := a.2.2.2 i (by show (i : Int) < r 4; omega)
      have := y.1
      exact ts_mono y (fun o _ _ => ⟨rfl, rfl⟩) (fun o p _ => z o (by omega) (by omega))
  · show (M 6 i).toNat = 0 ∨ (xK X (M 6 i).toNat).1 = 13
    rw [m6 i]
    by_cases e : i = c.toNat
    · rw [if_pos e, Int.toNat_natCast]; exact Or.inr h13
    · rw [if_neg e]; exact b i hi
theorem minv_lw {f : Int} {c : Nat} {r' : Nat → Int} {lw' : Nat → Law} (hM : MInv N B (r, lw) im un tp cn rp) (hW : MW M B r' lw') (h0 : r' 0 = r 0) (h1 : r' 1 = r 1) (h7 : r' 7 = r 7) (h8 : r' 8 = r 8) (hf : Fr (frLw c) N M) (h13 : M 64 13 = 0) (h18 : M 64 18 = f) : MInv M B (r', lw') im un (0, tp.2) (ru cn 8 f) rp := by
  obtain ⟨a, b, cc, d, e, g, k, u, t⟩ := hM
  have z : ∀ o, o = 65 ∨ o = 67 ∨ o = 68 ∨ o = 69 ∨ o = 70 ∨ o = 79 ∨ o = 80 ∨ o = 103 → M o = N o := fun o p => fr_of hf o fun k => by unfold frLw frTm; omega
  have y : ∀ k, (k = 1 ∨ k = 8 ∨ k = 11 ∨ k = 68 ∨ k = 72) → M 64 k = N 64 k := fun k p => hf 64 k (by unfold frLw frTm; omega)
  refine ⟨hW, mim_eq b (z _ (by omega)) (z _ (by omega)), mun_eq u.1 cc (y _ (by omega)) (fun k hk => by rw [z 69 (by omega)]) (z _ (by omega)), ⟨h13, fun j hj => by cases hj⟩, ?_, mdr_eq g (y _ (by omega)) (z _ (by omega)), mkn_eq k (z _ (by omega)) (z _ (by omega)), uv_r u h0 h1 h7 h8, ⟨by show 0 ≤ 400; omega, fun j hj => by cases hj⟩⟩
  obtain ⟨e1, e2, e3, e4, e5⟩ := e
  refine ⟨?_, fun k k1 k2 => ?_, ?_, ?_, ?_⟩
  · rw [y 1 (by omega), ru_ne (by omega)]; exact e1
  · rw [z 65 (by omega), ru_ne (by omega)]; exact e2 k k1 k2
  · rw [y 11 (by omega), ru_ne (by omega)]; exact e3
  · rw [ru_eq (by omega)]; exact h18
  · rw [y 68 (by omega), ru_ne (by omega)]; exact e5
theorem nC_lw {c : Nat} (h : Fr (frLw c) N M) : Fr notC N M := fr_mono h fun o k z => by unfold frLw frTm at z; unfold notC pC; omega
theorem tell_get {v : Int} {o : Int × NN} {P : Int × NN → Prop} (h : Ok (Option.bind (f_X12_tell X M v) (fun o => some (o.1, o.2))) P) (e : f_X12_tell X M v = some o) : P o := by
  rw [e, Option.bind_some] at h
  obtain ⟨a, ea, q⟩ := h
  cases ea
  exact q
theorem r_lawI (hM : MInv N B (r, lw) im un tp cn rp) : Ok (f_X12_law X N) (fun p => Fr notC N p.2 ∧ ((r 4 = 6 ∧ p.1 = -5 ∧ MInv p.2 B (r, lw) im un (0, tp.2) (rfu (ru cn 8 (cn 8)) (-5)) rp) ∨ (r 4 < 6 ∧ ∃ f, pTx tp.2 tp.1 = .inl f ∧ p.1 = -6 ∧ MInv p.2 B (r, lw) im un (0, tp.2) (rfu (ru cn 8 (tkS tp.2 tp.1 f : Int)) (-6)) rp) ∨ (r 4 < 6 ∧ ∃ L, pTx tp.2 tp.1 = .inr L ∧ p.1 = r 4 ∧ MInv p.2 B (ru r 4 (r 4 + 1), lawU lw (r 4) (lawO L)) im un (0, tp.2) (ru (ru cn 8 (-1)) 0 0) rp))) := by
  have hW : MW N B r lw := hM.1
  have hV := hW.2.1
  have v4 := hV.2.2.2.2.1
  have e4 : N 66 4 = r 4 := hW.1 4 (by omega)
  by_cases c6 : r 4 = 6
  · unfold f_X12_law
    dsimp only
    rw [up_o (by omega), e4, if_pos c6]
    obtain ⟨M, hMM⟩ : ∃ M, M = m_up (m_up N 64 0 0) 64 13 0 := ⟨_, rfl⟩
    rw [← hMM]
    have f1 : Fr (frLw 0) N M := by rw [hMM]; exact fr_up (fr_up fr_rfl (by unfold frLw frTm; omega)) (by unfold frLw frTm; omega)
    have f2 : Fr (fun o k => o = 64 ∧ (k = 0 ∨ k = 13)) N M := by rw [hMM]; exact fr_up (fr_up fr_rfl (by omega)) (by omega)
    have i1 := minv_lw (M := M) (f := cn 8) hM (mw_eq hW (fr_of f2 66 fun k => by omega) (f2 64 20 (by omega))) rfl rfl rfl rfl f1 (by rw [hMM, up_s]) (by rw [f2 64 18 (by omega)]; exact hM.2.2.2.2.1.2.2.2.1)
    refine ok_mono (ms_refuse (X := X) (v := -5) i1 (by omega) (by omega)) ?_
    rintro p ⟨p1, p2, p3⟩
    exact ⟨fr_tr (nC_lw f1) p3, Or.inl ⟨c6, p1, p2⟩⟩
  obtain ⟨c, hc⟩ := Int.eq_ofNat_of_zero_le v4.1
  refine ok_mono (r_law (X := X) (tp := tp.2) (n := tp.1) (c := c) hM.2.2.2.2.2.2.2.2.1 hM.2.2.2.1 hM.2.2.2.2.2.2.2.2.2 hM.2.2.2.2.2.2.1 (e4.trans hc) (by omega)) ?_
  rintro p (⟨f, M, p1, p2, p3, p4, p5, p6⟩ | ⟨L, M, p1, p2, p3, p4, p5, p6, p7, p8⟩)
  · have f1 : Fr (frLw 0) N M := fr_mono p6 fun o k q => by
      unfold frLw
      rcases q with q | q
      · exact Or.inl q
      · exact Or.inr (Or.inl q)
    have i1 := minv_lw (M := M) (f := (tkS tp.2 tp.1 f : Int)) hM (mw_eq hW (fr_of p6 66 fun k => by unfold frTm; omega) (p4.trans hW.2.2.2.1.symm)) rfl rfl rfl rfl f1 p5 p3
    obtain ⟨q1, q2, q3⟩ := tell_get (ms_refuse (X := X) (v := -6) i1 (by omega) (by omega)) p2
    exact ⟨fr_tr (nC_lw f1) q3, Or.inr (Or.inl ⟨by omega, f, p1, q1, q2⟩)⟩
  · have hW' : MW M B (ru r 4 (r 4 + 1)) (lawU lw (r 4) (lawO L)) := by
      refine ⟨fun i hi => ?_, vr_4 hV (by omega) (by omega), hW.2.2.1, p4, fun i hi => ?_⟩
      · by_cases e : i = 4
        · rw [e, p6, ru_eq (by omega), hc]
        · rw [p8 66 i (by unfold frLw frTm; omega), ru_ne (by omega)]; exact hW.1 i hi
      · rw [ru_eq (by omega)] at hi
        unfold lawU
        by_cases e : (i : Int) = r 4
        · rw [if_pos e]
          have e' : i = c := by omega
          rw [e']; exact p7
        · rw [if_neg e]
          exact rs_ext (hW.2.2.2.2 i (by omega)) fun j hj => p8 66 _ (by unfold frLw frTm; omega)
    have i1 := minv_lw (M := M) (f := -1) hM hW' (ru_ne (by omega)) (ru_ne (by omega)) (ru_ne (by omega)) (ru_ne (by omega)) p8 p5 p3
    rw [ref_tellP i1.2.2.2.2.1 (by omega)] at p2
    cases p2
    exact ⟨nC_64 (nC_lw p8), Or.inr (Or.inr ⟨by omega, L, p1, hc.symm, minv_1 i1⟩)⟩
theorem law_fin {v : Int} {q' : Wd} {tp' : Tp} {cn' : Nat → Int} (hX : XOK X) (hC : CInv X N B q' im un tp' cn' rp) {p : Int × NN} (e : f_X12_law X N = some p) (f : Fr notC N p.2) (h1 : p.1 = v) (h2 : MInv p.2 B q' im un tp' cn' rp) : ∃ N2, f_X12_law X N = some (v, N2) ∧ Inv X N2 B := by
  obtain ⟨p1, p2⟩ := p
  subst h1
  exact ⟨p2, e, hX, q', im, un, tp', cn', rp, cinv_eq hC fun o k z => f o k fun y => y z, h2⟩
theorem sim_law (hsk : m_Sk X) (hz : ∀ o, xn X ≤ o → (xK X o).1 = 0) (h : Inv X N B) : ∃ (v : Int) (N1 : NN) (X1 : MX) (N2 : NN), m_Call 120 yX11_law cX11_law 2 (some .int) [.inr (.inr 3)] N X (some (.inl v)) N1 X1 ∧ m_Sk X1 ∧ (∀ o, xn X1 ≤ o → (xK X1 o).1 = 0) ∧ f_X12_law X1 N1 = some (v, N2) ∧ Inv X1 N2 B ∧ xn X ≤ xn X1 ∧ xn X1 ≤ xn X + 4 ∧ xs X1 ≤ xs X + 901 := by
  obtain ⟨hX, ⟨r, lw⟩, im, un, tp, cn, rp, hC, hM⟩ := h
  have hW : CW X N 4 B r lw := hC.1
  have hV := hW.2.1
  have v4 := hV.2.2.2.2.1
  have e4 : N 5 195 = r 4 := hW.1.2.2.2.2.2.1 4 (by omega) (by omega)
  have hX1 := xok_sk hsk
  have hT := hC.2.2.2.2.1
  have hTV := hM.2.2.2.2.2.2.2.2
  have hRead := c_reads (X := X) (N := N) (tp := tp.2) (n := tp.1) hTV.1 hT.2 hT.1 hTV.2 hX
  by_cases c6 : r 4 = 6
  · have c1 : CInv X (m_up N 16 5 0) B (r, lw) im un (0, tp.2) (ru cn 8 (cn 8)) rp := cinv_tx hC fr_rfl hC.2.2.2.2.2.1.2.2.2.1
    obtain ⟨⟨v, N1⟩, eo, o1, o2, o3⟩ := c_refuse (X := X) (v := -5) c1.2.2.2.2.2.1 (by omega) (by omega)
    dsimp only at o1 o2 o3
    have c2 := cinv_cn c1 o2 o3
    have m1 : MInv N1 B (r, lw) im un tp cn rp := minv_eq hM fun o k p => fr_tr (nM_tx fr_rfl) (nM_C o3) o k fun z => z p
    obtain ⟨p, ep, f, R⟩ := r_lawI (X := X) m1
    rcases R with ⟨_, p1, p2⟩ | ⟨q, _⟩ | ⟨q, _⟩
    · obtain ⟨N2, y1, y2⟩ := law_fin (v := v) hX c2 ep f (p1.trans o1.symm) p2
      exact ⟨v, N1, X, N2, mc_law6 hsk (e4.trans c6) eo, hsk, hz, y1, y2, Nat.le_refl _, by omega, by omega⟩
    · omega
    · omega
  obtain ⟨⟨b, M⟩, er, hR, fR⟩ := hRead
  cases hp : pTx tp.2 tp.1 with
  | inl f =>
    rw [hp] at hR
    obtain ⟨r1, r2⟩ := hR
    dsimp only at r1 r2 fR
    subst r1
    have c1 := cinv_tx hC fR r2
    obtain ⟨⟨v, N1⟩, eo, o1, o2, o3⟩ := c_refuse (X := X) (v := -6) c1.2.2.2.2.2.1 (by omega) (by omega)
    dsimp only at o1 o2 o3
    have c2 := cinv_cn c1 o2 o3
    have m1 : MInv N1 B (r, lw) im un tp cn rp := minv_eq hM fun o k p => fr_tr (nM_tx fR) (nM_C o3) o k fun z => z p
    obtain ⟨p, ep, g, R⟩ := r_lawI (X := X) m1
    rcases R with ⟨q, _⟩ | ⟨_, f', q1, p1, p2⟩ | ⟨_, L, q1, _⟩
    · omega
    · rw [hp] at q1
      cases q1
      obtain ⟨N2, y1, y2⟩ := law_fin (v := v) hX c2 ep g (p1.trans o1.symm) p2
      exact ⟨v, N1, X, N2, mc_lawF hsk (by omega) er eo, hsk, hz, y1, y2, Nat.le_refl _, by omega, by omega⟩
    · rw [hp] at q1; cases q1
  | inr L =>
    rw [hp] at hR
    obtain ⟨r1, z, z4, l12, r4, r3, r6, rc⟩ := hR
    dsimp only at r1 r4 r3 r6 rc fR
    subst r1
    have h104 := hsk.1
    have c1 := cinv_tx hC fR r6
    obtain ⟨X1, hX1e⟩ : ∃ X1, X1 = tX7 X z (L.length * 8) := ⟨_, rfl⟩
    have hsk7 : m_Sk X1 := by rw [hX1e]; exact tX7_Sk hsk
    have xk1 := xok_sk hsk7
    obtain ⟨M3, hM3⟩ : ∃ M3, M3 = tN (m_up M 16 5 0) (xn X) z L.length := ⟨_, rfl⟩
    have g3 : ∀ o, o < xn X → M3 o = m_up M 16 5 0 o := fun o ho => by rw [hM3]; exact funext fun k => tN_o ho
    have c3 : CInv X1 M3 B (r, lw) im un (0, tp.2) (ru cn 8 (-1)) rp := cinv_grow hX hz h104 (fun o ho => by rw [hX1e]; exact ⟨tK7_o ho, funext fun k => tR7_o ho⟩) g3 c1
    have up2 : ∀ o j, (o = 22 ∨ o = 23 ∨ o = 24) → m_up M 16 5 0 o j = M o j := fun o j h => up_o (by omega)
    have hTS : TS X1 M3 (xn X) (lawO L) := by
      refine ts_of (z := z) h104 z4 l12 (by rw [hM3]; exact tN_3) (by rw [hM3]; exact tN_4) (fun X2 ha => ?_) (by rw [hX1e, tK7_1]; exact Nat.le_refl _) (by rw [hX1e, tK7_2]; exact Nat.le_refl _) (by rw [hX1e, tK7_3]; show 8 * L.length ≤ L.length * 8; omega) (fun i c hc => ?_)
      · have q := tX7_isT (X := X) (a := z) (b := L.length * 8)
        rw [← hX1e] at q
        obtain ⟨q1, q2, q3, q4, q5, q6, q7⟩ := q
        have k0 := ha (xn X) (by omega) (by omega)
        have k1 := ha (xn X + 1) (by omega) (by omega)
        have k2 := ha (xn X + 2) (by omega) (by omega)
        have k3 := ha (xn X + 3) (by omega) (by omega)
        exact ⟨by rw [k0.1]; exact q1, by rw [k0.2]; exact q2, by rw [k0.2]; exact q3, by rw [k0.2]; exact q4, by rw [k1.1]; exact q5, by rw [k2.1]; exact q6, by rw [k3.1]; exact q7⟩
      · have hi : i < L.length := (List.getElem?_eq_some_iff.mp hc).1
        refine cc_to (rc i c hc) (fun k hk => ?_) (fun k hk => ?_)
        · rw [hM3, tN_r3 h104 (by omega), up2 24 k (by omega)]
        · rw [hM3, tN_r1 h104 hk, tN_r2 h104 hk, up2 22 k (by omega), up2 23 k (by omega)]
          exact ⟨rfl, rfl⟩
    have e195 : M3 5 195 = r 4 := by
      have y := c3.1.1.2.2.2.2.2.1 4 (by omega) (by omega)
      exact y
    have eA := c_addLaw (X := X1) (t := xn X) e195 v4.1 (by omega) (ts_13 xk1 hTS)
    have c4 := cinv_law xk1 c3 rfl v4.1 (by omega) hTS
    obtain ⟨⟨v, N1⟩, eo, o1, o2, o3⟩ := c_accept (X := X1) (v := r 4) c4.2.2.2.2.2.1
    dsimp only at o1 o2 o3
    have c5 := cinv_cn c4 o2 o3
    have m1 : MInv N1 B (r, lw) im un tp cn rp := by
      refine minv_eq hM fun o k p => ?_
      have ho : o < 104 ∧ o ≠ 5 ∧ o ≠ 6 := by unfold pM at p; omega
      rw [nM_C o3 o k fun z => z p, up_o (by omega), up_o (by omega), g3 o (by omega)]
      exact nM_tx fR o k fun z => z p
    obtain ⟨p, ep, g, R⟩ := r_lawI (X := X1) m1
    rcases R with ⟨q, _⟩ | ⟨_, f', q1, _⟩ | ⟨_, L', q1, p1, p2⟩
    · omega
    · rw [hp] at q1; cases q1
    · rw [hp] at q1
      cases q1
      obtain ⟨N2, y1, y2⟩ := law_fin (v := v) xk1 c5 ep g (p1.trans o1.symm) p2
      refine ⟨v, N1, X1, N2, ?_, hsk7, fun o ho => ?_, y1, y2, ?_, ?_, ?_⟩
      · rw [hX1e] at eA eo ⊢
        rw [hM3] at eA eo
        exact mc_lawT (ov := (r 4, _)) hsk (by omega) er r3 r4 z4 l12 eA eo
      · have ho' : xn X + 4 ≤ o := by rw [hX1e] at ho; exact ho
        rw [hX1e]
        show (xK (tX7 X z (L.length * 8)) o).1 = 0
        rw [show xK (tX7 X z (L.length * 8)) o = xK X o from (nK_n (X := tX5 X z) (show o ≠ xn X + 3 by omega)).trans ((nK_n (X := tX3 X z) (show o ≠ xn X + 2 by omega)).trans ((nK_n (X := tX1 X) (show o ≠ xn X + 1 by omega)).trans (nK_n (X := X) (show o ≠ xn X by omega))))]
        exact hz o (by omega)
      · rw [hX1e]; show xn X ≤ xn X + 4; omega
      · rw [hX1e]; show xn X + 4 ≤ xn X + 4; omega
      · rw [hX1e]; show xs X + 5 + z + z + L.length * 8 ≤ xs X + 901; omega
end LW2
