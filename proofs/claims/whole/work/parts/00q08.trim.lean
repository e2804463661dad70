/-! Text.trimmed: a new text, as large as it must be -/
theorem wd_862 : Cond.methodLink "GiftDuel" 188 ⟨"GiftDuel$Text", "trimmed", "()LGiftDuel$Text;"⟩ ∈ lw_g := lw_g4 13 rfl rfl
theorem wd_863 : Cond.instanceMethod ⟨"GiftDuel$Text", "trimmed", "()LGiftDuel$Text;"⟩ ∈ lw_g := lw_g4 14 rfl rfl
theorem wd_864 : Cond.selects "GiftDuel$Text" ⟨"GiftDuel$Text", "trimmed", "()LGiftDuel$Text;"⟩ ⟨"GiftDuel$Text", "trimmed", "()LGiftDuel$Text;"⟩ ∈ lw_g := lw_g4 15 rfl rfl
theorem wd_865 : Cond.code ⟨"GiftDuel$Text", "trimmed", "()LGiftDuel$Text;"⟩ prog_10_method_10_code 2 (some (.object "GiftDuel$Text")) ∈ lw_g := lw_g4 16 rfl rfl
theorem wd_866 : Cond.classLink "GiftDuel$Text" 14 "GiftDuel$Text" ∈ lw_g := lw_g4 17 rfl rfl
theorem wd_867 : Cond.methodLink "GiftDuel$Text" 38 ⟨"GiftDuel$Text", "<init>", "(II)V"⟩ ∈ lw_g := lw_g4 18 rfl rfl
theorem wd_868 : Cond.methodLink "GiftDuel$Text" 41 ⟨"java/lang/System", "arraycopy", "(Ljava/lang/Object;ILjava/lang/Object;II)V"⟩ ∈ lw_g := lw_g4 19 rfl rfl
theorem wd_871 : Cond.methodLink "GiftDuel" 193 ⟨"GiftDuel$World", "addLaw", "(LGiftDuel$Text;)I"⟩ ∈ lw_g := lw_g4 22 rfl rfl
theorem wd_872 : Cond.instanceMethod ⟨"GiftDuel$World", "addLaw", "(LGiftDuel$Text;)I"⟩ ∈ lw_g := lw_g4 23 rfl rfl
theorem wd_873 : Cond.selects "GiftDuel$World" ⟨"GiftDuel$World", "addLaw", "(LGiftDuel$Text;)I"⟩ ⟨"GiftDuel$World", "addLaw", "(LGiftDuel$Text;)I"⟩ ∈ lw_g := lw_g4 24 rfl rfl
theorem wd_874 : Cond.code ⟨"GiftDuel$World", "addLaw", "(LGiftDuel$Text;)I"⟩ prog_12_method_30_code 3 (some .int) ∈ lw_g := lw_g4 25 rfl rfl
theorem ci_RX8_38 : m_CI RX8 38 yX8_init := ⟨wd_867, wd_212, rfl⟩
theorem cv_RX11_188 : m_CV RX11 188 yX8_trimmed := ⟨wd_862, wd_863, wd_864⟩
theorem cv_RX11_193 : m_CV RX11 193 yX10_addLaw := ⟨wd_871, wd_872, wd_873⟩
theorem cw_X10_addLaw : m_CW yX10_addLaw cX10_addLaw 3 (some .int) 1 := ⟨wd_131, wd_874, by decide +kernel, by decide⟩
theorem cw_X8_trimmed : m_CW yX8_trimmed cX8_trimmed 2 (some (.object "GiftDuel$Text")) 0 := ⟨wd_135, wd_865, by decide +kernel, by decide⟩
theorem ml_RX8_41 : Cond.methodLink RX8 41 arraycopyName ∈ lw_g := wd_868
section GR
variable {d : Nat} {own nm : String} {cc : ByteArray} {nL n0 s0 nF sF : Nat} {Ω : Nat → MS → Prop} {pc : Nat} {ls : ML} {st : List MV} {N N' : NN} {X X' : MX}
theorem n_X (h : X = X') (k : Ω pc (ls, st, N, X')) : Ω pc (ls, st, N, X) := by rw [h]; exact k
theorem n_max (hΩ : m_G d own nm cc nL n0 s0 nF sF Ω) {idx : Nat} {a b v : Int} (hd1 : 1 ≤ d) (hd : decode cc pc = .ok (.invokestatic idx, 3)) (h1 : Cond.methodLink own idx Lib.Math.max.name ∈ lw_g) (hcs : m_cs st ≤ 8) (hv : m_max a b = v) (kk : Ω (pc + 3) (ls, .inl v :: st, N, X)) : Ω pc (ls, .inl b :: .inl a :: st, N, X) := by
  refine s_max hΩ hd1 hd h1 lk_max_s lk_math lk_max_c hcs ?_
  rw [hv]; exact kk
theorem n_geti (hΩ : m_G d own nm cc nL n0 s0 nF sF Ω) {o idx ci k : Nat} {v : Int} {fin : Bool} (hd : decode cc pc = .ok (.getfield idx, 3)) (hf : m_FL own idx ci k fin) (hK : (xK X o).1 = ci + 5) (ht : m_ty ci k = .int) (hv : N o k = v) (kk : Ω (pc + 3) (ls, .inl v :: st, N, X)) : Ω pc (ls, .inr (.inr o) :: st, N, X) := by
  refine s_geti hΩ hd hf hK ht ?_
  rw [hv]; exact kk
theorem g_newI (hΩ : m_G d own nm cc nL n0 s0 nF sF Ω) {kI : Int} (k : Nat) {n : Nat} (hd : decode cc pc = .ok (.newarray .int, 2)) (hkI : kI = (k : Int)) (hk : k ≤ 20000) (h1 : Cond.arrayClass .int ∈ lw_g) (hn : xn X = n) (hN : m_nN N n = N') (hX : m_nX X (1, k) k = X') (kk : Ω (pc + 2) (ls, .inr (.inr n) :: st, N', X')) : Ω pc (ls, .inl kI :: st, N, X) := by
  subst hkI; subst hn; subst hN; subst hX
  refine s_newI hΩ hd ⟨by omega, by omega⟩ h1 ?_
  rw [show ((k : Int)).toNat = k from Int.toNat_natCast k]
  exact kk
end GR
theorem nK_s {X : MX} {kd : Nat × Nat} {sz : Nat} : xK (m_nX X kd sz) (xn X) = kd := if_pos rfl
theorem nK_n {X : MX} {kd : Nat × Nat} {sz o : Nat} (h : o ≠ xn X) : xK (m_nX X kd sz) o = xK X o := if_neg h
theorem nR_n {X : MX} {kd : Nat × Nat} {sz o k : Nat} (h : o ≠ xn X) : xR (m_nX X kd sz) o k = xR X o k := if_neg h
theorem nN_n {N : NN} {n a b : Nat} (h : a ≠ n) : m_nN N n a b = N a b := if_neg h
theorem nN_s {N : NN} {n b : Nat} : m_nN N n n b = 0 := if_pos rfl
theorem uR_s {R : Nat → Nat → Nat} {o k r : Nat} : m_upR R o k r o k = r := by unfold m_upR; rw [if_pos rfl, if_pos rfl]
theorem uR_k {R : Nat → Nat → Nat} {o k r b : Nat} (h : b ≠ k) : m_upR R o k r o b = R o b := by unfold m_upR; rw [if_pos rfl, if_neg h]
theorem uR_o {R : Nat → Nat → Nat} {o k r a b : Nat} (h : a ≠ o) : m_upR R o k r a b = R a b := if_neg h
theorem cp_n {N : NN} {src sp dst dp n a b : Nat} (h : a ≠ dst) : m_cpy N src sp dst dp n a b = N a b := if_neg h
def tX1 (X : MX) : MX := m_nX X (13, 0) 5
def tX2 (X : MX) (a : Nat) : MX := m_nX (tX1 X) (1, a) a
def tX3 (X : MX) (a : Nat) : MX := (m_upR (tX2 X a).1 (xn X) 0 (xn X + 1), (tX2 X a).2)
def tX4 (X : MX) (a : Nat) : MX := m_nX (tX3 X a) (1, a) a
def tX5 (X : MX) (a : Nat) : MX := (m_upR (tX4 X a).1 (xn X) 1 (xn X + 2), (tX4 X a).2)
def tX6 (X : MX) (a b : Nat) : MX := m_nX (tX5 X a) (1, b) b
def tX7 (X : MX) (a b : Nat) : MX := (m_upR (tX6 X a b).1 (xn X) 2 (xn X + 3), (tX6 X a b).2)
section TX
variable {X : MX} {a b : Nat}
theorem tX7_n : xn (tX7 X a b) = xn X + 4 := rfl
theorem tX7_s : xs (tX7 X a b) = xs X + 5 + a + a + b := rfl
theorem tK1 : xK (tX1 X) (xn X) = (13, 0) := nK_s
theorem tK2 : xK (tX2 X a) (xn X) = (13, 0) := (nK_n (show xn X ≠ xn X + 1 by omega)).trans tK1
theorem tK4 : xK (tX4 X a) (xn X) = (13, 0) := (nK_n (X := tX3 X a) (show xn X ≠ xn X + 2 by omega)).trans tK2
theorem tK6 : xK (tX6 X a b) (xn X) = (13, 0) := (nK_n (X := tX5 X a) (show xn X ≠ xn X + 3 by omega)).trans tK4
theorem tK7_t : xK (tX7 X a b) (xn X) = (13, 0) := tK6
theorem tK7_1 : xK (tX7 X a b) (xn X + 1) = (1, a) := (nK_n (X := tX5 X a) (show xn X + 1 ≠ xn X + 3 by omega)).trans ((nK_n (X := tX3 X a) (show xn X + 1 ≠ xn X + 2 by omega)).trans (nK_s (X := tX1 X)))
theorem tK7_2 : xK (tX7 X a b) (xn X + 2) = (1, a) := (nK_n (X := tX5 X a) (show xn X + 2 ≠ xn X + 3 by omega)).trans (nK_s (X := tX3 X a))
theorem tK7_3 : xK (tX7 X a b) (xn X + 3) = (1, b) := nK_s (X := tX5 X a)
theorem tK7_o {o : Nat} (h : o < xn X) : xK (tX7 X a b) o = xK X o := (nK_n (X := tX5 X a) (show o ≠ xn X + 3 by omega)).trans ((nK_n (X := tX3 X a) (show o ≠ xn X + 2 by omega)).trans ((nK_n (X := tX1 X) (show o ≠ xn X + 1 by omega)).trans (nK_n (X := X) (show o ≠ xn X by omega))))
theorem tR7_o {o k : Nat} (h : o < xn X) : xR (tX7 X a b) o k = xR X o k := by
  refine (uR_o (show o ≠ xn X by omega)).trans ((nR_n (X := tX5 X a) (show o ≠ xn X + 3 by omega)).trans ?_)
  refine (uR_o (show o ≠ xn X by omega)).trans ((nR_n (X := tX3 X a) (show o ≠ xn X + 2 by omega)).trans ?_)
  exact (uR_o (show o ≠ xn X by omega)).trans ((nR_n (X := tX1 X) (show o ≠ xn X + 1 by omega)).trans (nR_n (X := X) (show o ≠ xn X by omega)))
theorem tR7_2 : xR (tX7 X a b) (xn X) 2 = xn X + 3 := uR_s
theorem tR7_1 : xR (tX7 X a b) (xn X) 1 = xn X + 2 := (uR_k (by decide)).trans ((nR_n (X := tX5 X a) (show xn X ≠ xn X + 3 by omega)).trans uR_s)
theorem tR7_0 : xR (tX7 X a b) (xn X) 0 = xn X + 1 := (uR_k (by decide)).trans ((nR_n (X := tX5 X a) (show xn X ≠ xn X + 3 by omega)).trans ((uR_k (by decide)).trans ((nR_n (X := tX3 X a) (show xn X ≠ xn X + 2 by omega)).trans uR_s)))
theorem tX7_isT : m_isT (tX7 X a b) (xn X) := ⟨congrArg (fun q => q.1) tK7_t, tR7_0, tR7_1, tR7_2, congrArg (fun q => q.1) tK7_1, congrArg (fun q => q.1) tK7_2, congrArg (fun q => q.1) tK7_3⟩
theorem tX7_Sk (h : m_Sk X) : m_Sk (tX7 X a b) := ⟨by rw [tX7_n]; have := h.1; omega, fun o ho => by rw [tK7_o (by have := h.1; omega)]; exact h.2.1 o ho, fun o k ho => by rw [tR7_o (by have := h.1; omega)]; exact h.2.2 o k ho⟩
end TX
theorem i_text {X : MX} {N : NN} {a b : Nat} (ha : a ≤ 400) (hb : b ≤ 12) (h3 : 3 ≤ xn X) (hz3 : N (xn X) 3 = 0) (hz4 : N (xn X) 4 = 0) : m_Call 1 yX8_init cX8_init 3 none [.inr (.inr (xn X)), .inl (a : Int), .inl (b : Int)] N (tX1 X) none (m_nN (m_nN (m_nN N (xn X + 1)) (xn X + 2)) (xn X + 3)) (tX7 X a (b * 8)) := by
  refine m_mk (ls0 := [some (.inr (.inr (xn X))), some (.inl (a : Int)), some (.inl (b : Int))]) (by decide) rfl (Nat.le_of_ble_eq_true rfl) (show xn X + 1 ≤ xn X + 4 by omega) (show xs X + 5 ≤ xs X + 5 + a + a + b * 8 by omega) (fun Ω hE => ?_)
  have hG := hE.G
  refine s_aload_n hG dX8_init_0 rfl ?_
  refine s_objInit hG (by omega) h3 dX8_init_1 ml_RX8_1 oi_i oi_c (Nat.le_of_ble_eq_true rfl) ?_
  refine s_aload_n hG dX8_init_4 rfl ?_
  refine s_iload_n hG dX8_init_5 rfl ?_
  refine s_iconst hG dX8_init_6 ⟨by decide, by decide⟩ ?_
  refine n_max (v := (a : Int)) hG (by omega) dX8_init_7 ml_RX8_7 (Nat.le_of_ble_eq_true rfl) (by unfold m_max; split <;> omega) ?_
  refine g_newI hG a (n := xn X + 1) dX8_init_10 rfl (by omega) ac_I rfl rfl (show m_nX (tX1 X) (1, a) a = tX2 X a from rfl) ?_
  refine s_putr hG dX8_init_12 fl_RX8_13 (fun _ => rfl) (congrArg (fun q => q.1) tK2) rfl ?_
  refine n_X (show _ = tX3 X a from rfl) ?_
  refine s_aload_n hG dX8_init_15 rfl ?_
  refine s_iload_n hG dX8_init_16 rfl ?_
  refine s_iconst hG dX8_init_17 ⟨by decide, by decide⟩ ?_
  refine n_max (v := (a : Int)) hG (by omega) dX8_init_18 ml_RX8_7 (Nat.le_of_ble_eq_true rfl) (by unfold m_max; split <;> omega) ?_
  refine g_newI hG a (n := xn X + 2) dX8_init_21 rfl (by omega) ac_I rfl rfl (show m_nX (tX3 X a) (1, a) a = tX4 X a from rfl) ?_
  refine s_putr hG dX8_init_23 fl_RX8_19 (fun _ => rfl) (congrArg (fun q => q.1) tK4) rfl ?_
  refine n_X (show _ = tX5 X a from rfl) ?_
  refine s_aload_n hG dX8_init_26 rfl ?_
  refine s_iload_n hG dX8_init_27 rfl ?_
  refine s_iconst hG dX8_init_28 ⟨by decide, by decide⟩ ?_
  refine n_max (v := (b : Int)) hG (by omega) dX8_init_29 ml_RX8_7 (Nat.le_of_ble_eq_true rfl) (by unfold m_max; split <;> omega) ?_
  refine s_bipush hG dX8_init_32 bp_8 ⟨by decide, by decide⟩ ?_
  refine n_imul hG dX8_init_34 (v := ((b * 8 : Nat) : Int)) (by rw [w_id (by omega) (by omega)]; omega) ?_
  refine g_newI hG (b * 8) (n := xn X + 3) dX8_init_35 rfl (by omega) ac_I rfl rfl (show m_nX (tX5 X a) (1, b * 8) (b * 8) = tX6 X a (b * 8) from rfl) ?_
  refine s_putr hG dX8_init_37 fl_RX8_22 (fun _ => rfl) (congrArg (fun q => q.1) tK6) rfl ?_
  refine n_X (show _ = tX7 X a (b * 8) from rfl) ?_
  have q3 : (m_nN (m_nN (m_nN N (xn X + 1)) (xn X + 2)) (xn X + 3)) (xn X) 3 = 0 := (nN_n (by omega)).trans ((nN_n (by omega)).trans ((nN_n (by omega)).trans hz3))
  have q4 : (m_nN (m_nN (m_nN N (xn X + 1)) (xn X + 2)) (xn X + 3)) (xn X) 4 = 0 := (nN_n (by omega)).trans ((nN_n (by omega)).trans ((nN_n (by omega)).trans hz4))
  refine s_aload_n hG dX8_init_40 rfl ?_
  refine s_iconst hG dX8_init_41 ⟨by decide, by decide⟩ ?_
  refine n_put0 hG dX8_init_42 fl_RX8_25 (fun h => by cases h) (congrArg (fun q => q.1) tK7_t) rfl q3 ?_
  refine s_aload_n hG dX8_init_45 rfl ?_
  refine s_iconst hG dX8_init_46 ⟨by decide, by decide⟩ ?_
  refine n_put0 hG dX8_init_47 fl_RX8_29 (fun h => by cases h) (congrArg (fun q => q.1) tK7_t) rfl q4 ?_
  exact s_vret hE dX8_init_50 rfl
def tN4 (N : NN) (t : Nat) : NN := m_nN (m_nN (m_nN (m_nN N t) (t + 1)) (t + 2)) (t + 3)
def tN7 (N : NN) (t a b : Nat) : NN := m_cpy (m_cpy (m_cpy (tN4 N t) 22 0 (t + 1) 0 a) 23 0 (t + 2) 0 a) 24 0 (t + 3) 0 (b * 8)
def tN (N : NN) (t a b : Nat) : NN := m_up (m_up (tN7 N t a b) t 3 (a : Int)) t 4 (b : Int)
section TN
variable {N : NN} {t a b : Nat}
theorem tN4_o {o k : Nat} (h : o < t) : tN4 N t o k = N o k := (nN_n (by omega)).trans ((nN_n (by omega)).trans ((nN_n (by omega)).trans (nN_n (by omega))))
theorem tN7_o {o k : Nat} (h : o < t) : tN7 N t a b o k = N o k := (cp_n (by omega)).trans ((cp_n (by omega)).trans ((cp_n (by omega)).trans (tN4_o h)))
theorem tN_o {o k : Nat} (h : o < t) : tN N t a b o k = N o k := (m_up_ne (by omega)).trans ((m_up_ne (by omega)).trans (tN7_o h))
theorem tN_4 : tN N t a b t 4 = (b : Int) := m_up_same _ _ _ _
theorem tN_3 : tN N t a b t 3 = (a : Int) := (m_up_off (by decide)).trans (m_up_same _ _ _ _)
theorem tN_r1 {j : Nat} (ht : 104 ≤ t) (h : j < a) : tN N t a b (t + 1) j = N 22 j := by
  refine (m_up_ne (by omega)).trans ((m_up_ne (by omega)).trans ((cp_n (by omega)).trans ((cp_n (by omega)).trans ?_)))
  unfold m_cpy
  rw [if_pos rfl, if_pos (by omega), show 0 + (j - 0) = j by omega]
  exact tN4_o (by omega)
theorem tN_r2 {j : Nat} (ht : 104 ≤ t) (h : j < a) : tN N t a b (t + 2) j = N 23 j := by
  refine (m_up_ne (by omega)).trans ((m_up_ne (by omega)).trans ((cp_n (by omega)).trans ?_))
  unfold m_cpy
  rw [if_pos rfl, if_pos (by omega), show 0 + (j - 0) = j by omega]
  exact (if_neg (show ¬ (23 = t + 1) by omega)).trans (tN4_o (by omega))
theorem tN_r3 {j : Nat} (ht : 104 ≤ t) (h : j < b * 8) : tN N t a b (t + 3) j = N 24 j := by
  refine (m_up_ne (by omega)).trans ((m_up_ne (by omega)).trans ?_)
  show m_cpy _ _ _ _ _ _ _ _ = _
  unfold m_cpy
  rw [if_pos rfl, if_pos (by omega), show 0 + (j - 0) = j by omega]
  exact (if_neg (show ¬ (24 = t + 2) by omega)).trans ((if_neg (show ¬ (24 = t + 1) by omega)).trans (tN4_o (by omega)))
end TN
theorem i_trim {X : MX} {N : NN} {a b : Nat} (hsk : m_Sk X) (ha : N 21 3 = (a : Int)) (hb : N 21 4 = (b : Int)) (ha4 : a ≤ 400) (hb4 : b ≤ 12) : m_Call 2 yX8_trimmed cX8_trimmed 2 (some (.object "GiftDuel$Text")) [.inr (.inr 21)] N X (some (.inr (.inr (xn X)))) (tN N (xn X) a b) (tX7 X a (b * 8)) := by
  have h104 := hsk.1
  have hsk7 : m_Sk (tX7 X a (b * 8)) := tX7_Sk hsk
  refine m_mk (ls0 := [some (.inr (.inr 21)), none]) (by decide) rfl (Nat.le_of_ble_eq_true rfl) (show xn X ≤ xn X + 4 by omega) (show xs X ≤ xs X + 5 + a + a + b * 8 by omega) (fun Ω hE => ?_)
  have hG := hE.G
  refine s_new hG (ci := 8) (C := RX8) (T := TX8) dX8_trimmed_0 rfl inX8 rfl tyX8_ok tkX8 wd_866 wd_210 wd_135 ?_
  refine n_X (show _ = tX1 X from rfl) ?_
  refine s_dup hG dX8_trimmed_3 rfl ?_
  refine s_aload_n hG dX8_trimmed_4 rfl ?_
  have k21 : (xK (tX1 X) 21).1 = 8 + 5 := (congrArg (fun q => q.1) (nK_n (X := X) (show 21 ≠ xn X by omega))).trans (sk_k hsk 21 rfl)
  refine n_geti (v := (a : Int)) hG dX8_trimmed_5 fl_RX8_25 k21 rfl ((nN_n (by omega)).trans ha) ?_
  refine s_aload_n hG dX8_trimmed_8 rfl ?_
  refine n_geti (v := (b : Int)) hG dX8_trimmed_9 fl_RX8_29 k21 rfl ((nN_n (by omega)).trans hb) ?_
  refine s_callI (d' := 1) (o := xn X) (args := [.inl (a : Int), .inl (b : Int)]) hG (by omega) (by omega) dX8_trimmed_12 ci_RX8_38 cw_X8_init rfl (Nat.le_of_ble_eq_true rfl) rfl (i_text ha4 hb4 (by omega) nN_s nN_s) ?_
  refine n_N (show _ = tN4 N (xn X) from rfl) ?_
  refine s_astore_n (r := xn X) hG dX8_trimmed_15 (by decide) rfl ?_
  have k21' : (xK (tX7 X a (b * 8)) 21).1 = 8 + 5 := sk_k hsk7 21 rfl
  have kt : (xK (tX7 X a (b * 8)) (xn X)).1 = 8 + 5 := congrArg (fun q => q.1) tK7_t
  refine s_aload_n hG dX8_trimmed_16 rfl ?_
  refine s_getr (r := 22) hG dX8_trimmed_17 fl_RX8_13 k21' rfl (sk_R hsk7 21 0 rfl) ?_
  refine s_iconst hG dX8_trimmed_20 ⟨by decide, by decide⟩ ?_
  refine s_aload_n (r := xn X) hG dX8_trimmed_21 rfl ?_
  refine s_getr (r := xn X + 1) hG dX8_trimmed_22 fl_RX8_13 kt rfl tR7_0 ?_
  refine s_iconst hG dX8_trimmed_25 ⟨by decide, by decide⟩ ?_
  refine s_aload_n hG dX8_trimmed_26 rfl ?_
  refine n_geti (v := (a : Int)) hG dX8_trimmed_27 fl_RX8_25 k21' rfl ((tN4_o (by omega)).trans ha) ?_
  refine s_copy hG (by omega) dX8_trimmed_30 ml_RX8_41 lk_cpy_n lk_cpy_s lk_sys (Nat.le_of_ble_eq_true rfl) (sk_K hsk7 22 rfl) tK7_1 ⟨by decide, by decide, by omega, by omega, by omega⟩ ?_
  refine n_N (N' := m_cpy (tN4 N (xn X)) 22 0 (xn X + 1) 0 a) (by rw [show ((a : Int)).toNat = a from Int.toNat_natCast a]; rfl) ?_
  refine s_aload_n hG dX8_trimmed_33 rfl ?_
  refine s_getr (r := 23) hG dX8_trimmed_34 fl_RX8_19 k21' rfl (sk_R hsk7 21 1 rfl) ?_
  refine s_iconst hG dX8_trimmed_37 ⟨by decide, by decide⟩ ?_
  refine s_aload_n (r := xn X) hG dX8_trimmed_38 rfl ?_
  refine s_getr (r := xn X + 2) hG dX8_trimmed_39 fl_RX8_19 kt rfl tR7_1 ?_
  refine s_iconst hG dX8_trimmed_42 ⟨by decide, by decide⟩ ?_
  refine s_aload_n hG dX8_trimmed_43 rfl ?_
  refine n_geti (v := (a : Int)) hG dX8_trimmed_44 fl_RX8_25 k21' rfl ((cp_n (by omega)).trans ((tN4_o (by omega)).trans ha)) ?_
  refine s_copy hG (by omega) dX8_trimmed_47 ml_RX8_41 lk_cpy_n lk_cpy_s lk_sys (Nat.le_of_ble_eq_true rfl) (sk_K hsk7 23 rfl) tK7_2 ⟨by decide, by decide, by omega, by omega, by omega⟩ ?_
  refine n_N (N' := m_cpy (m_cpy (tN4 N (xn X)) 22 0 (xn X + 1) 0 a) 23 0 (xn X + 2) 0 a) (by rw [show ((a : Int)).toNat = a from Int.toNat_natCast a]; rfl) ?_
  refine s_aload_n hG dX8_trimmed_50 rfl ?_
  refine s_getr (r := 24) hG dX8_trimmed_51 fl_RX8_22 k21' rfl (sk_R hsk7 21 2 rfl) ?_
  refine s_iconst hG dX8_trimmed_54 ⟨by decide, by decide⟩ ?_
  refine s_aload_n (r := xn X) hG dX8_trimmed_55 rfl ?_
  refine s_getr (r := xn X + 3) hG dX8_trimmed_56 fl_RX8_22 kt rfl tR7_2 ?_
  refine s_iconst hG dX8_trimmed_59 ⟨by decide, by decide⟩ ?_
  refine s_aload_n hG dX8_trimmed_60 rfl ?_
  refine n_geti (v := (b : Int)) hG dX8_trimmed_61 fl_RX8_29 k21' rfl ((cp_n (by omega)).trans ((cp_n (by omega)).trans ((tN4_o (by omega)).trans hb))) ?_
  refine s_bipush hG dX8_trimmed_64 bp_8 ⟨by decide, by decide⟩ ?_
  refine n_imul hG dX8_trimmed_66 (v := ((b * 8 : Nat) : Int)) (by rw [w_id (by omega) (by omega)]; omega) ?_
  refine s_copy hG (by omega) dX8_trimmed_67 ml_RX8_41 lk_cpy_n lk_cpy_s lk_sys (Nat.le_of_ble_eq_true rfl) (sk_K hsk7 24 rfl) tK7_3 ⟨by decide, by decide, by omega, by omega, by omega⟩ ?_
  refine n_N (N' := tN7 N (xn X) a b) (by rw [show (((b * 8 : Nat) : Int)).toNat = b * 8 from Int.toNat_natCast _]; rfl) ?_
  refine s_aload_n (r := xn X) hG dX8_trimmed_70 rfl ?_
  refine s_aload_n hG dX8_trimmed_71 rfl ?_
  refine n_geti (v := (a : Int)) hG dX8_trimmed_72 fl_RX8_25 k21' rfl ((tN7_o (by omega)).trans ha) ?_
  refine s_puti hG dX8_trimmed_75 fl_RX8_25 (fun h => by cases h) kt rfl ?_
  refine s_aload_n (r := xn X) hG dX8_trimmed_78 rfl ?_
  refine s_aload_n hG dX8_trimmed_79 rfl ?_
  refine n_geti (v := (b : Int)) hG dX8_trimmed_80 fl_RX8_29 k21' rfl ((m_up_ne (by omega)).trans ((tN7_o (by omega)).trans hb)) ?_
  refine s_puti hG dX8_trimmed_83 fl_RX8_29 (fun h => by cases h) kt rfl ?_
  refine n_N (N' := tN N (xn X) a b) rfl ?_
  refine s_aload_n (r := xn X) hG dX8_trimmed_86 rfl ?_
  exact s_aret hE dX8_trimmed_87 rfl
