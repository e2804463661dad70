/-! way, whole -/
def wyV (b : Option Cd) (k : Int) : Int := match b with
  | none => -1
  | some x => if k = 0 then x.1 else if k = 1 then x.2.1 else if k = 2 then (x.2.2.length : Int) - 1 else if k < 3 then -1 else if (x.2.2.length : Int) - 1 < k - 3 then -1 else ((x.2.2[(k - 3).toNat]?.getD 0 : Nat) : Int)
noncomputable def wyB (r : Nat → Int) (f t : Nat) : Option Cd := (wyN (edM r) t 5 f [f] 1 0).foldl upU none
section WW
variable {X : MX} {N : NN} {B : Int} {r : Nat → Int} {lw : Nat → Law}
theorem wy_same {M : NN} {f t : Nat} (hV : Vr B r) (hR : RDn M r (r 3).toNat) : (wyN (fun h => edC (fun a b => if a < 6 ∧ b < 6 then tbT M a b else 10) (tbD M) h (r 0).toNat) t 5 f [f] 1 0).foldl upC none = wyB r f t := by
  have v0 := hV.1
  have v3 := hV.2.2.2.1
  obtain ⟨R1, R2, R3⟩ := hR
  have vr := hV.2.2.2.2.2.2.2.2.2.2.2.2.2
  rw [fold_srt _ none (wy_srt (fun h => edC_srt _ _ _ _) _ _ _ _ _) (fun y e => by cases e)]
  unfold wyB
  refine fold_eq (fun c hc => wy_sub (fun h x hx => ?_) _ _ _ _ _ c hc) (fun c hc c0 => wy_dom (fun h x hx => ?_) _ _ _ _ _ _ _ c (by omega) (Or.inr ⟨rfl, Int.le_refl _⟩) hc c0)
  · unfold edC at hx
    obtain ⟨L, hL, rfl⟩ := List.mem_map.1 hx
    obtain ⟨hL1, hL2⟩ := List.mem_filter.1 hL
    have hL1 := List.mem_range.1 hL1
    have hL2 := of_decide_eq_true hL2
    dsimp only at hL2 ⊢
    by_cases q : h < 6 ∧ L < 6
    case neg => rw [if_neg q] at hL2; omega
    rw [if_pos q] at hL2 ⊢
    obtain ⟨j, hj, hc, e3, e2⟩ := R2 h L q.1 q.2 hL2
    unfold edM
    rw [edF_mem]
    refine ⟨j, by omega, by omega, ?_, ?_⟩
    · unfold cnn at hc; omega
    · rw [← e3, ← e2]
      have : toR r h j = L := by unfold toR; unfold cnn at hc; omega
      rw [this]
  · unfold edM at hx
    rw [edF_mem] at hx
    obtain ⟨j, _, hj, hc, rfl⟩ := hx
    have v := vr j (by omega) (by omega)
    dsimp only
    refine ⟨by omega, fun hpos => ?_⟩
    have ht : (toR r h j : Int) = rr r j 0 + rr r j 1 - (h : Int) := by unfold toR; omega
    have c2 : cnn r j h (toR r h j) := by unfold cnn; omega
    have q : h < 6 ∧ toR r h j < 6 := by omega
    have z := R3 j h (toR r h j) (by omega) q.1 q.2 c2 (by omega)
    refine ⟨(toR r h j, 10 - tbT M h (toR r h j), tbD M h (toR r h j)), ?_, rfl, ?_⟩
    · unfold edC
      refine List.mem_map.2 ⟨toR r h j, List.mem_filter.2 ⟨List.mem_range.2 (by omega), decide_eq_true ?_⟩, ?_⟩
      · dsimp only; rw [if_pos q]; omega
      · dsimp only; rw [if_pos q]
    · dsimp only; omega
theorem c_wyAnswer {f t : Nat} {k : Int} (hX : XOK X) (hW : CW X N 4 B r lw) (f1 : (f : Int) < r 0) (t1 : (t : Int) < r 0) (hk : k ≤ 2147483647) : Ok (f_X9_answer X 4 N (f : Int) (t : Int) k) (fun o => o.1 = wyV (wyB r f t) k ∧ Fr npr N o.2) := by
  have hV := hW.2.1
  have v0 := hV.1
  unfold f_X9_answer f_X9_answer_j124 f_X9_answer_j125
  refine ok_bind (c_wyDraw hX hW) ?_
  rintro M ⟨m4, mR, mF⟩
  dsimp only
  have fM : Fr npr N M := fr_mono mF fun o k q => by unfold frDw at q; unfold npr pC pM; omega
  obtain ⟨M6, h6⟩ : ∃ M6, M6 = m_up (m_up (m_up (m_up (m_up M 53 5 (t : Int)) 53 6 0) 53 7 0) 53 8 (-1)) 56 0 (f : Int) := ⟨_, rfl⟩
  rw [← h6]
  have f6 : Fr (fun o k => (o = 53 ∧ (k = 5 ∨ k = 6 ∨ k = 7 ∨ k = 8)) ∨ o = 56) M M6 := by
    rw [h6]
    exact fr_up (fr_up (fr_up (fr_up (fr_up fr_rfl (by omega)) (by omega)) (by omega)) (by omega)) (by omega)
  have W := c_walk (X := X) (th := fun a b => if a < 6 ∧ b < 6 then tbT M a b else 10) (dy := tbD M) (n := (r 0).toNat) (g := t) (by omega) (by omega) (fun a b ha hb => by
    have := mR.1 a b ha hb
    rw [if_pos ⟨ha, hb⟩]
    omega) 5 8 f 0 (2 ^ f) [f] 1 0 none M6 rfl rfl (by omega) rfl (fun i v q => by
      cases i with
      | zero => rw [List.getElem?_cons_zero] at q; cases q; rw [h6, up_s]; exact ⟨rfl, by omega⟩
      | succ i => cases q) ⟨by have : 2 ^ f < 2 ^ 6 := Nat.pow_lt_pow_right (by omega) (by omega); omega, fun v hv => by
        have := bit_or 0 f v
        rw [Nat.zero_or] at this
        rw [this, List.mem_singleton]
        by_cases c : v = f
        · rw [if_pos c]; exact ⟨fun _ => c, fun _ => by omega⟩
        · rw [if_neg c, show bit ((0 : Nat) : Int) (v : Int) = 0 by rw [bit_n]; simp]; exact ⟨fun q => absurd rfl q, fun q => absurd q c⟩⟩ (by omega) (by decide) (by omega) (by omega) (by rw [f6 53 4 (by omega), m4]; omega) (by rw [h6, up_o (by omega), up_k (by omega), up_k (by omega), up_k (by omega), up_s]) (fun a b ha hb => by
        unfold tbT tbD
        rw [f6 54 _ (by omega), f6 55 _ (by omega)]
        rw [if_pos ⟨ha, hb⟩]
        exact ⟨rfl, rfl⟩) ⟨by rw [h6, up_o (by omega), up_k (by omega), up_k (by omega), up_s], by rw [h6, up_o (by omega), up_k (by omega), up_s], by rw [h6, up_o (by omega), up_s]⟩
  rw [wy_same hV mR] at W
  rw [shl1_id (by omega) (by omega), Int.toNat_natCast]
  refine ok_bind (show Ok (f_X9_walk X 8 M6 0 ((2 ^ f : Nat) : Int) 100000 0) _ from W) ?_
  rintro M7 ⟨w1, w2, w3⟩
  have f7 : Fr npr N M7 := fr_tr fM (fr_tr (fr_mono f6 fun o k q => by unfold npr pC pM; omega) (fr_mono w2 fun o k q => by unfold frWk at q; unfold npr pC pM; omega))
  generalize wyB r f t = b at *
  cases b with
  | none =>
    rw [if_pos w1.2.2]
    exact ok_ret ⟨rfl, f7⟩
  | some x =>
    obtain ⟨a1, a2, a3, a4, a5, a6⟩ := w1
    rw [if_neg (by omega)]
    unfold wyV
    dsimp only
    by_cases k0 : k = 0
    · rw [if_pos k0, if_pos k0]; exact ok_ret ⟨a1, f7⟩
    rw [if_neg k0, if_neg k0]
    by_cases k1 : k = 1
    · rw [if_pos k1, if_pos k1]; exact ok_ret ⟨a2, f7⟩
    rw [if_neg k1, if_neg k1]
    by_cases k2 : k = 2
    · rw [if_pos k2, if_pos k2]; exact ok_ret ⟨a3, f7⟩
    rw [if_neg k2, if_neg k2]
    by_cases k3 : k < 3
    · rw [if_pos k3, if_pos k3]; exact ok_ret ⟨rfl, f7⟩
    rw [if_neg k3, if_neg k3]
    by_cases kb : 100 < k
    · rw [w_id (x := k - 3) (by omega) (by omega), if_pos (by omega), if_pos (by omega)]; exact ok_ret ⟨rfl, f7⟩
    rw [w_id (x := k - 3) (by omega) (by omega)]
    by_cases k4 : (x.2.2.length : Int) - 1 < k - 3
    · rw [if_pos (by omega), if_pos k4]; exact ok_ret ⟨rfl, f7⟩
    rw [if_neg (by omega), if_neg k4, if_pos (by omega)]
    refine ok_ret ⟨?_, f7⟩
    have hi : (k - 3).toNat < x.2.2.length := by omega
    have eg := List.getElem?_eq_getElem hi
    show M7 57 (k - 3).toNat = _
    rw [a6 _ _ eg, eg]
    rfl
theorem ref_findWay {f t : Nat} (hM : MW N B r lw) (f1 : (f : Int) < r 0) (t1 : (t : Int) < r 0) : Ok (f_X12_findWay X N (f : Int) (t : Int)) (fun M => WBm M (wyB r f t) ∧ Fr npr N M) := by
  have hV := hM.2.1
  have v0 := hV.1
  have v3 := hV.2.2.2.1
  unfold f_X12_findWay
  dsimp only
  obtain ⟨M4, h4⟩ : ∃ M4, M4 = m_up (m_up (m_up (m_up N 64 53 0) 64 54 0) 64 55 0) 93 0 (f : Int) := ⟨_, rfl⟩
  rw [← h4]
  have f4 : Fr npr N M4 := by rw [h4]; exact fr_up (fr_up (fr_up (fr_up fr_rfl (by unfold npr pC pM; omega)) (by unfold npr pC pM; omega)) (by unfold npr pC pM; omega)) (by unfold npr pC pM; omega)
  have hM4 : MW M4 B r lw := mw_fr hM f4 (fun k q => by unfold npr pC pM at q; omega) (by unfold npr pC pM; omega)
  have e93 : M4 93 0 = (f : Int) := by rw [h4, up_s]
  have w4 : WBm M4 none := ⟨by rw [h4, up_o (by omega), up_k (by omega), up_k (by omega), up_s], by rw [h4, up_o (by omega), up_k (by omega), up_s], by rw [h4, up_o (by omega), up_s]⟩
  have P4 : PTm M4 [f] := fun i v q => by
    cases i with
    | zero => rw [List.getElem?_cons_zero] at q; cases q; rw [e93]; exact ⟨rfl, by omega⟩
    | succ i => cases q
  by_cases c : f = t
  · subst c
    rw [if_pos rfl]
    have W := ref_weigh (X := X) (n := 0) hM4 rfl (by omega) P4 (fun i hi => by omega) w4
    refine ok_bind W ?_
    rintro M5 ⟨w1, w2⟩
    refine ok_ret ⟨?_, fr_tr f4 (fr_mono w2 fun o k q => by unfold frWw at q; unfold npr pC pM; omega)⟩
    unfold wyB
    rw [wyN_g]
    exact w1
  rw [if_neg (by omega)]
  obtain ⟨m0, hm0⟩ := Int.eq_ofNat_of_zero_le v3.1
  obtain ⟨M6, r1, r2, r3⟩ := ref_wyLoop (X := X) (g := t) 4 m0 0 f 0 [f] none (m_up M4 95 0 (-1)) rfl rfl rfl c (fun i v q => by rw [up_o (by omega)]; exact P4 i v q) (mw_fr hM4 (p := fun o _ => o = 95) (fr_up fr_rfl rfl) (fun k q => by omega) (by omega)) (fun i hi => by omega) (by rw [up_s]; omega) (by omega) (wbm_fr w4 (up_o (by omega)) (up_o (by omega)) (up_o (by omega)) (up_of (by omega)))
  have ee : lp (fun s => b_X12_findWay_42 X s.1 s.2.1 s.2.2) (M6, (t : Int), ((0 : Nat) : Int) - 1) = some M6 := by
    refine lp_end ?_
    dsimp only
    unfold b_X12_findWay_42
    rw [if_pos (by omega)]
  have r1' : lp (fun s => b_X12_findWay_42 X s.1 s.2.1 s.2.2) (m_up M4 95 0 (-1), (t : Int), 0) = some M6 := by rw [← ee]; exact r1
  rw [r1', Option.bind_some]
  refine ok_ret ⟨?_, fr_tr f4 (fr_tr (fr_up fr_rfl (by unfold npr pC pM; omega)) (fr_mono r3 fun o k q => by unfold frWr frWw at q; unfold npr pC pM; omega))⟩
  unfold wyB
  rw [wyN_n _ _ _ c]
  rw [show m0 = (r 3).toNat by omega] at r2
  exact r2
theorem sim_way (h : Inv X N B) (f t k : Int) (hk : -2147483648 ≤ k ∧ k ≤ 2147483647) : Sim X N B (f_X11_way X N f t k) (fun M => f_X12_way X M f t k) := by
  have h' := h
  obtain ⟨hX, ⟨r, lw⟩, im, un, tp, cn, rp, hC, hM⟩ := h'
  have hW : CW X N 4 B r lw := hC.1
  have hV := hW.2.1
  have v0 := hV.1
  refine sim_ro (v := if (0 ≤ f ∧ f < r 0) ∧ (0 ≤ t ∧ t < r 0) then wyV (wyB r f.toNat t.toNat) k else -1) h ?_ ?_
  · unfold f_X11_way f_X11_way_j22
    refine ok_bd (c_isLord hW.1) ?_
    by_cases d : 0 ≤ f ∧ f < r 0
    case neg =>
      rw [if_neg d, i00, if_neg (fun z => d z.1)]
      exact ok_ret ⟨rfl, fr_rfl⟩
    rw [if_pos d, i10]
    refine ok_bd (c_isLord hW.1) ?_
    by_cases d2 : 0 ≤ t ∧ t < r 0
    case neg =>
      rw [if_neg d2, i00, if_neg (fun z => d2 z.2)]
      exact ok_ret ⟨rfl, fr_rfl⟩
    rw [if_pos d2, i10, if_pos ⟨d, d2⟩]
    obtain ⟨ff, rfl⟩ := Int.eq_ofNat_of_zero_le d.1
    obtain ⟨tt, rfl⟩ := Int.eq_ofNat_of_zero_le d2.1
    refine ok_bind (c_wyAnswer hX hW d.2 d2.2 hk.2) ?_
    rintro ⟨z, N1⟩ ⟨p1, p2⟩
    exact ok_ret ⟨p1, p2⟩
  · intro M hf
    have hM1 : MW (m_up M 64 0 0) B r lw := (minv_npr hM (fr_tr hf npr_0)).1
    unfold f_X12_way f_X12_way_j33 f_X12_way_j58 f_X12_way_j103
    try dsimp only
    refine ok_bd (ref_isLord hM1.1 hV) ?_
    by_cases d : 0 ≤ f ∧ f < r 0
    case neg =>
      rw [if_neg d, i00, if_neg (fun z => d z.1)]
      exact ok_ret ⟨rfl, npr_0⟩
    rw [if_pos d, i10]
    refine ok_bd (ref_isLord hM1.1 hV) ?_
    by_cases d2 : 0 ≤ t ∧ t < r 0
    case neg =>
      rw [if_neg d2, i00, if_neg (fun z => d2 z.2)]
      exact ok_ret ⟨rfl, npr_0⟩
    rw [if_pos d2, i10, if_pos (show (0 ≤ f ∧ f < r 0) ∧ (0 ≤ t ∧ t < r 0) from ⟨d, d2⟩)]
    obtain ⟨ff, rfl⟩ := Int.eq_ofNat_of_zero_le d.1
    obtain ⟨tt, rfl⟩ := Int.eq_ofNat_of_zero_le d2.1
    rw [Int.toNat_natCast, Int.toNat_natCast]
    have hlen : ∀ x, wyB r ff tt = some x → x.2.2.length ≤ 6 ∧ 1 ≤ x.2.2.length := by
      obtain ⟨M5, _, w5, _⟩ := ref_findWay (X := X) hM1 d.2 d2.2
      intro x e
      rw [e] at w5
      exact ⟨w5.2.2.2.2.1, w5.2.2.2.1⟩
    refine ok_bd ref_in ?_
    by_cases c : 0 ≤ k ∧ k ≤ 8
    case neg =>
      rw [if_neg c, i00]
      refine ok_ret ⟨?_, npr_0⟩
      cases hb : wyB r ff tt with
      | none => rfl
      | some x =>
        have := hlen x hb
        unfold wyV
        dsimp only
        rw [if_neg (by omega), if_neg (by omega), if_neg (by omega)]
        by_cases k3 : k < 3
        · rw [if_pos k3]
        · rw [if_neg k3, if_pos (by omega)]
    rw [if_pos c, i10]
    refine ok_bind (ref_findWay hM1 d.2 d2.2) ?_
    rintro M5 ⟨w5, f5⟩
    have f5' : Fr npr M M5 := fr_tr npr_0 f5
    generalize wyB r ff tt = b at *
    cases b with
    | none =>
      rw [if_pos w5.1]
      exact ok_ret ⟨rfl, f5'⟩
    | some x =>
      obtain ⟨a1, a2, a3, a4, a5, a6, a7⟩ := w5
      rw [if_neg (show ¬ M5 64 53 = 0 by omega), a3, w_id (x := 3 + ((x.2.2.length : Int) - 1)) (by omega) (by omega)]
      unfold wyV
      dsimp only
      by_cases kk : 3 + ((x.2.2.length : Int) - 1) < k
      · rw [if_pos kk, if_neg (show ¬ k = 0 by omega), if_neg (show ¬ k = 1 by omega), if_neg (show ¬ k = 2 by omega), if_neg (show ¬ k < 3 by omega), if_pos (by omega)]
        exact ok_ret ⟨rfl, f5'⟩
      rw [if_neg kk]
      by_cases k0 : k = 0
      · rw [if_pos k0, if_pos k0]; exact ok_ret ⟨a1, f5'⟩
      rw [if_neg k0, if_neg k0]
      by_cases k1 : k = 1
      · rw [if_pos k1, if_pos k1]; exact ok_ret ⟨a2, f5'⟩
      rw [if_neg k1, if_neg k1]
      by_cases k2 : k = 2
      · rw [if_pos k2, if_pos k2]; exact ok_ret ⟨rfl, f5'⟩
      rw [if_neg k2, if_neg k2, w_id (x := k - 3) (by omega) (by omega), if_pos (by omega), if_neg (show ¬ k < 3 by omega), if_neg (by omega)]
      refine ok_ret ⟨?_, f5'⟩
      have hi : (k - 3).toNat < x.2.2.length := by omega
      have eg := List.getElem?_eq_getElem hi
      show M5 94 (k - 3).toNat = _
      rw [a6 _ _ eg, eg]
      rfl
end WW
