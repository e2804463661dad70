/-! constructors: what is still lacking -/
section NS
variable {d : Nat} {own nm : String} {cc : ByteArray} {nL n0 s0 nF sF : Nat} {Ω : Nat → MS → Prop} {pc : Nat} {ls : ML} {st : List MV} {N N' : NN} {X : MX}
theorem n_N (h : N = N') (k : Ω pc (ls, st, N', X)) : Ω pc (ls, st, N, X) := by rw [h]; exact k
theorem n_imul (hΩ : m_G d own nm cc nL n0 s0 nF sF Ω) {a b v : Int} (hd : decode cc pc = .ok (.imul, 1)) (hv : m_w (a * b) = v) (k : Ω (pc + 1) (ls, .inl v :: st, N, X)) : Ω pc (ls, .inl b :: .inl a :: st, N, X) := by
  refine s_imul hΩ hd ?_
  rw [hv]; exact k
theorem n_iadd (hΩ : m_G d own nm cc nL n0 s0 nF sF Ω) {a b v : Int} (hd : decode cc pc = .ok (.iadd, 1)) (hv : m_w (a + b) = v) (k : Ω (pc + 1) (ls, .inl v :: st, N, X)) : Ω pc (ls, .inl b :: .inl a :: st, N, X) := by
  refine s_iadd hΩ hd ?_
  rw [hv]; exact k
end NS
def m_fl (N : NN) (o lo hi : Nat) (v : Int) : NN := fun a b => if a = o then (if lo ≤ b ∧ b < hi then v else N a b) else N a b
theorem u_J7_rangeCheck_23922 {d : Nat} {X : MX} {N : NN} {a0 : Int} {a1 : Int} {a2 : Int} {out : Unit} (hd : 1 ≤ d) (hF : f_J7_rangeCheck_23922 X N a0 a1 a2 = some out) : m_Call d yJ7_rangeCheck_23922 cJ7_rangeCheck_23922 3 none [(.inl a0), (.inl a1), (.inl a2)] N X none N X := by
  refine m_mk (ls0 := [some (.inl a0), some (.inl a1), some (.inl a2)]) (by decide) rfl (Nat.le_of_ble_eq_true rfl) (Nat.le_refl _) (Nat.le_refl _) (fun Ω hE => ?_)
  have hG := hE.G
  unfold f_J7_rangeCheck_23922 at hF
  refine s_iload_n hG dJ7_rangeCheck_23922_0 rfl ?_
  refine s_iload_n hG dJ7_rangeCheck_23922_1 rfl ?_
  refine s_icmp_le hG 46 dJ7_rangeCheck_23922_2 (by decide) (fun c3 => ?_) (fun c3 => ?_)
  · replace hF := Eq.trans (if_pos c3).symm hF
    cases hF
  · replace hF := Eq.trans (if_neg c3).symm hF
    refine s_iload_n hG dJ7_rangeCheck_23922_46 rfl ?_
    refine s_if_ge hG 59 dJ7_rangeCheck_23922_47 (by decide) (fun c2 => ?_) (fun c2 => ?_)
    · replace hF := Eq.trans (if_pos c2).symm hF
      cases hF
    · replace hF := Eq.trans (if_neg c2).symm hF
      refine s_iload_n hG dJ7_rangeCheck_23922_59 rfl ?_
      refine s_iload_n hG dJ7_rangeCheck_23922_60 rfl ?_
      refine s_icmp_le hG 73 dJ7_rangeCheck_23922_61 (by decide) (fun c1 => ?_) (fun c1 => ?_)
      · replace hF := Eq.trans (if_pos c1).symm hF
        cases hF
      · replace hF := Eq.trans (if_neg c1).symm hF
        cases hF
        exact s_vret hE dJ7_rangeCheck_23922_73 rfl
theorem u_J7_fill_fda19_b10 {d n0 s0 nF sF : Nat} {X : MX} {r0 : Nat} {Ω : Nat → MS → Prop} {N : NN} {a2 : Int} {a3 : Int} {a4 : Int} (hd : 2 ≤ d) (h0 : (xK X r0).1 = 1) (hG : m_G d yJ7_fill_fda19.cls yJ7_fill_fda19.name cJ7_fill_fda19 5 n0 s0 nF sF Ω) {out : ((NN × Int × Int × Int) ⊕ NN)} (hK0 : ∀ s' : (NN × Int × Int × Int), out = .inl s' → Ω 10 ([some (.inr (.inr r0)), none, some (.inl (s'.2.1)), some (.inl (s'.2.2.1)), some (.inl (s'.2.2.2))], [], s'.1, X)) (hK1 : ∀ t : NN, out = .inr t → Ω 27 ([none, none, none, none, none], [], t, X)) (hF : b_J7_fill_fda19_10 X r0 N a2 a3 a4 = some out) : Ω 10 ([some (.inr (.inr r0)), none, some (.inl a2), some (.inl a3), some (.inl a4)], [], N, X) := by
  unfold b_J7_fill_fda19_10 at hF
  refine s_iload hG dJ7_fill_fda19_10 rfl ?_
  refine s_iload_n hG dJ7_fill_fda19_12 rfl ?_
  refine s_icmp_ge hG 27 dJ7_fill_fda19_13 (by decide) (fun c5 => ?_) (fun c5 => ?_)
  · replace hF := Eq.trans (if_pos c5).symm hF
    refine s_aload_n hG dJ7_fill_fda19_16 rfl ?_
    refine s_iload hG dJ7_fill_fda19_17 rfl ?_
    refine s_iload_n hG dJ7_fill_fda19_19 rfl ?_
    obtain ⟨g3, hF⟩ := gd_some hF
    refine s_iastj (j := a4.toNat) hG dJ7_fill_fda19_20 (m_k1 h0) g3 rfl ?_
    refine s_iinc hG dJ7_fill_fda19_21 (by decide) rfl rfl ?_
    refine s_goto hG 10 dJ7_fill_fda19_24 (by decide) ?_
    cases hF
    exact hK0 _ rfl
  · replace hF := Eq.trans (if_neg c5).symm hF
    cases hF
    refine m_weak (ls1 := [none, none, none, none, none]) hG trivial ?_
    exact hK1 _ rfl
theorem u_J7_fill_fda19_lp10 {d n0 s0 nF sF : Nat} {X : MX} {r0 : Nat} {Ω : Nat → MS → Prop} {N : NN} {a2 : Int} {a3 : Int} {a4 : Int} (hd : 2 ≤ d) (h0 : (xK X r0).1 = 1) (hG : m_G d yJ7_fill_fda19.cls yJ7_fill_fda19.name cJ7_fill_fda19 5 n0 s0 nF sF Ω) {t : NN} (hK1 : Ω 27 ([none, none, none, none, none], [], t, X)) (hl : lp (fun s => b_J7_fill_fda19_10 X r0 s.1 s.2.1 s.2.2.1 s.2.2.2) (N, a2, a3, a4) = some t) : Ω 10 ([some (.inr (.inr r0)), none, some (.inl a2), some (.inl a3), some (.inl a4)], [], N, X) := by
  refine lp_ok (P := fun s => Ω 10 ([some (.inr (.inr r0)), none, some (.inl s.2.1), some (.inl s.2.2.1), some (.inl s.2.2.2)], [], s.1, X)) (K := fun t => Ω 27 ([none, none, none, none, none], [], t, X)) (fun s out hF hK0 hK1 => ?_) hl hK1
  exact u_J7_fill_fda19_b10 hd h0 hG (out := out) (fun s' e => hK0 s' e) (fun t' e => hK1 t' e) hF
theorem u_J7_fill_fda19 {d : Nat} {X : MX} {r0 : Nat} {N : NN} {a1 : Int} {a2 : Int} {a3 : Int} {out : NN} (hd : 2 ≤ d) (h0 : (xK X r0).1 = 1) (hF : f_J7_fill_fda19 X r0 N a1 a2 a3 = some out) : m_Call d yJ7_fill_fda19 cJ7_fill_fda19 5 none [(.inr (.inr r0)), (.inl a1), (.inl a2), (.inl a3)] N X none out X := by
  refine m_mk (ls0 := [some (.inr (.inr r0)), some (.inl a1), some (.inl a2), some (.inl a3), none]) (by decide) rfl (Nat.le_of_ble_eq_true rfl) (Nat.le_refl _) (Nat.le_refl _) (fun Ω hE => ?_)
  have hG := hE.G
  unfold f_J7_fill_fda19 at hF
  refine s_aload_n hG dJ7_fill_fda19_0 rfl ?_
  obtain ⟨g1, hF⟩ := gd_some hF
  refine s_alen1j (v := ((xK X r0).2 : Int)) hG dJ7_fill_fda19_1 (m_k1 h0) g1 rfl ?_
  refine s_iload_n hG dJ7_fill_fda19_2 rfl ?_
  refine s_iload_n hG dJ7_fill_fda19_3 rfl ?_
  obtain ⟨o2, ho2, hF⟩ := bd_some hF
  refine s_callS (d' := d - 1) (args := [.inl ((xK X r0).2 : Int), .inl a1, .inl a2]) hG (by omega) dJ7_fill_fda19_4 cs_RJ7_13 cw_J7_rangeCheck_23922 rfl (Nat.le_of_ble_eq_true rfl) rfl (u_J7_rangeCheck_23922 (by omega) ho2) ?_
  refine s_iload_n hG dJ7_fill_fda19_7 rfl ?_
  refine s_istore hG dJ7_fill_fda19_8 (by decide) rfl ?_
  obtain ⟨o6, hlo6, hF⟩ := bd_some hF
  refine m_weak (ls1 := [some (.inr (.inr r0)), none, some (.inl a2), some (.inl a3), some (.inl a1)]) hG ⟨rfl, ⟨rfl, ⟨rfl, ⟨rfl, trivial⟩⟩⟩⟩ ?_
  refine u_J7_fill_fda19_lp10 hd h0 hG ?_ hlo6
  cases hF
  exact s_vret hE dJ7_fill_fda19_27 rfl
theorem u_fill {X : MX} {N : NN} {o n lo hi : Nat} {v : Int} (hk : xK X o = (1, n)) (hn : n ≤ 1000000) (h1 : lo ≤ hi) (h2 : hi ≤ n) {a b : Int} (ha : a = (lo : Int)) (hb : b = (hi : Int)) : m_Call 2 yJ7_fill_fda19 cJ7_fill_fda19 5 none [.inr (.inr o), .inl a, .inl b, .inl v] N X none (m_fl N o lo hi v) X := by
  subst ha; subst hb
  obtain ⟨N', e, hv, hfr⟩ := c_fill (N := N) (v := v) hk hn (show (0 : Int) ≤ (lo : Int) by omega) (show (lo : Int) ≤ (hi : Int) by omega) (show (hi : Int) ≤ (n : Int) by omega)
  have hN : N' = m_fl N o lo hi v := by
    funext x y
    unfold m_fl
    by_cases hx : x = o
    · rw [if_pos hx, hx, hv y]
      by_cases hy : lo ≤ y ∧ y < hi
      · rw [if_pos hy, if_pos (by omega)]
      · rw [if_neg hy, if_neg (by omega)]
    · rw [if_neg hx]
      exact hfr x y hx
  rw [← hN]
  exact u_J7_fill_fda19 (Nat.le_refl _) (m_k1f hk) e
theorem lX_k {KL : List (Nat × Nat)} {RL : List (List Nat)} {s o v : Nat} (h : (KL.getD o (0, 0)).1 = v) : (xK (lX KL RL s) o).1 = v := h
theorem lX_K {KL : List (Nat × Nat)} {RL : List (List Nat)} {s o : Nat} {v : Nat × Nat} (h : KL.getD o (0, 0) = v) : xK (lX KL RL s) o = v := h
theorem lX_R {KL : List (Nat × Nat)} {RL : List (List Nat)} {s o k v : Nat} (h : (RL.getD o []).getD k 0 = v) : xR (lX KL RL s) o k = v := h
