/-! the tape: feed, end (the rows of bits are the kit's, pasted) -/
def bt (x : Int32) (i : Nat) : Bool := x.toBitVec.getLsbD i
theorem b_ext {x y : Int32} (h : ∀ i, i < 32 → bt x i = bt y i) : x = y := Int32.toBitVec_inj.mp (BitVec.eq_of_getLsbD_eq (fun i hi => h i hi))
theorem b_and (x y : Int32) (i : Nat) : bt (x &&& y) i = (bt x i && bt y i) := by unfold bt; rw [Int32.toBitVec_and, BitVec.getLsbD_and]
theorem b_or (x y : Int32) (i : Nat) : bt (x ||| y) i = (bt x i || bt y i) := by unfold bt; rw [Int32.toBitVec_or, BitVec.getLsbD_or]
theorem b_big {x : Int32} {i : Nat} (h : 32 ≤ i) : bt x i = false := BitVec.getLsbD_of_ge _ _ h
theorem b_255 (i : Nat) : bt 255 i = decide (i < 8) := by
  rcases Nat.lt_or_ge i 32 with h | h
  · exact (by decide +kernel : ∀ i, i < 32 → bt 255 i = decide (i < 8)) i h
  · rw [b_big h, decide_eq_false (by omega)]
theorem s_l : ∀ n, n < 32 → ((nI n &&& 31).toBitVec.smod 32).toNat = n := by decide +kernel
theorem s_u : ∀ n, n < 32 → (((nI n).toUInt32 &&& Int32.toUInt32 31).toBitVec % 32).toNat = n := by decide +kernel
theorem b_ushr (n : Nat) (hn : n < 32) (x : Int32) (i : Nat) : bt ((x.toUInt32 >>> ((nI n).toUInt32 &&& Int32.toUInt32 31)).toInt32) i = bt x (n + i) := by
  show (x.toUInt32 >>> ((nI n).toUInt32 &&& Int32.toUInt32 31)).toBitVec.getLsbD i = x.toUInt32.toBitVec.getLsbD (n + i)
  rw [UInt32.toBitVec_shiftRight]
  show (x.toUInt32.toBitVec >>> (((nI n).toUInt32 &&& Int32.toUInt32 31).toBitVec % 32).toNat).getLsbD i = _
  rw [s_u n hn, BitVec.getLsbD_ushiftRight]
theorem b_sshr (n : Nat) (hn : n < 32) (x : Int32) {i : Nat} (hi : i < 32) : bt (x >>> (nI n &&& 31)) i = if n + i < 32 then bt x (n + i) else bt x 31 := by
  unfold bt
  rw [Int32.toBitVec_shiftRight]
  show (x.toBitVec.sshiftRight ((nI n &&& 31).toBitVec.smod 32).toNat).getLsbD i = _
  rw [s_l n hn, BitVec.getLsbD_sshiftRight, BitVec.msb_eq_getLsbD_last]
  simp [hi]
theorem byte_eq (v : Int) {s : Int} (h0 : 0 ≤ s) (h1 : s ≤ 24) : m_and (m_ushr v s) 255 = m_and (m_shr v s) 255 := by
  obtain ⟨n, rfl⟩ := Int.eq_ofNat_of_zero_le h0
  unfold m_and m_ushr m_shr
  rw [Int32.ofInt_toInt, Int32.ofInt_toInt, oI_n]
  congr 1
  apply b_ext
  intro i hi
  rw [b_and, b_and, show Int32.ofInt 255 = (255 : Int32) from rfl, b_255, b_ushr n (by omega), b_sshr n (by omega) _ hi]
  by_cases c : i < 8
  · rw [if_pos (by omega)]
  · rw [decide_eq_false c, Bool.and_false, Bool.and_false]
theorem and255_b (x : Int) : 0 ≤ m_and x 255 ∧ m_and x 255 ≤ 255 := by
  unfold m_and
  rw [show Int32.ofInt 255 = (255 : Int32) from rfl, pk_and (Int32.ofInt x) (m := 255) 8 (by decide)]
  have := Nat.mod_lt (Int32.ofInt x).toBitVec.toNat (show 0 < 2 ^ 8 by decide)
  rw [nI_toInt (by omega)]
  omega
/-- four bytes more -/
def tp1 (t : Tp) (x : Int) : Tp := (t.1 + 1, fun j => if j = t.1 then x else t.2 j)
def tp4 (t : Tp) (v : Int) : Tp := tp1 (tp1 (tp1 (tp1 t (m_and (m_shr v 24) 255)) (m_and (m_shr v 16) 255)) (m_and (m_shr v 8) 255)) (m_and (m_shr v 0) 255)
def fr17 (o k : Nat) : Prop := o = 17 ∨ (o = 16 ∧ k = 5)
def fr73 (o k : Nat) : Prop := o = 73 ∨ (o = 64 ∧ k = 13)
section TA
variable {X : MX} {N : NN} {t : Tp}
theorem c_app1 {v s : Int} (h : CTp N t) (ht : t.1 < 400) (h0 : 0 ≤ s) (h1 : s ≤ 24) : Ok (b_X5_append_3 X N v s) (fun o => ∃ N', o = .inl (N', v, s - 8) ∧ CTp N' (tp1 t (m_and (m_shr v s) 255)) ∧ Fr fr17 N N') := by
  unfold b_X5_append_3
  rw [if_neg (by omega), h.1, if_pos (by omega), gdp (by omega), byte_eq v h0 h1]
  refine ok_ret ⟨_, by rw [w_id (x := s + (-8)) (by omega) (by omega)]; rfl, ⟨?_, fun j hj => ?_⟩, fr_up (fr_up fr_rfl (Or.inl rfl)) (Or.inr ⟨rfl, rfl⟩)⟩
  · rw [up_s, up_o (by omega), h.1, w_id (by omega) (by omega)]
    show (t.1 : Int) + 1 = ((t.1 + 1 : Nat) : Int)
    omega
  · rw [up_o (by omega), up_a]
    show _ = if j = t.1 then _ else t.2 j
    have hj' : j < t.1 + 1 := hj
    by_cases e : j = t.1
    · rw [if_pos (by omega), if_pos e]
    · rw [if_neg (by omega), if_neg e]; exact h.2 j (by omega)
theorem c_append {v : Int} (h : CTp N t) (ht : t.1 ≤ 396) : Ok (f_X5_append X N v) (fun N' => CTp N' (tp4 t v) ∧ Fr fr17 N N') := by
  unfold f_X5_append
  obtain ⟨o1, e1, N1, rfl, p1, q1⟩ := c_app1 (X := X) (v := v) (s := 24) h (by omega) (by omega) (by omega)
  obtain ⟨o2, e2, N2, rfl, p2, q2⟩ := c_app1 (X := X) (v := v) (s := 16) p1 (by show t.1 + 1 < 400; omega) (by omega) (by omega)
  obtain ⟨o3, e3, N3, rfl, p3, q3⟩ := c_app1 (X := X) (v := v) (s := 8) p2 (by show t.1 + 1 + 1 < 400; omega) (by omega) (by omega)
  obtain ⟨o4, e4, N4, rfl, p4, q4⟩ := c_app1 (X := X) (v := v) (s := 0) p3 (by show t.1 + 1 + 1 + 1 < 400; omega) (by omega) (by omega)
  have e5 : b_X5_append_3 X N4 v (0 - 8) = some (.inr N4) := by unfold b_X5_append_3; rw [if_pos (by omega)]
  rw [lp_next (s := (N, v, 24)) e1, lp_next (s := (N1, v, 24 - 8)) e2, lp_next (s := (N2, v, 16 - 8)) e3, lp_next (s := (N3, v, 8 - 8)) e4, lp_end (s := (N4, v, 0 - 8)) e5]
  exact ok_ret ⟨p4, fr_tr q1 (fr_tr q2 (fr_tr q3 q4))⟩
theorem ref_four1 {v s : Int} (h : MTp N t) (ht : t.1 < 400) (h0 : 0 ≤ s) (h1 : s ≤ 24) : Ok (b_X12_four_3 X N v s) (fun o => ∃ N', o = .inl (N', v, s - 8) ∧ MTp N' (tp1 t (m_and (m_shr v s) 255)) ∧ Fr fr73 N N') := by
  unfold b_X12_four_3
  rw [if_neg (by omega), h.1, gdp (by omega)]
  refine ok_ret ⟨_, by rw [w_id (x := s + (-8)) (by omega) (by omega)]; rfl, ⟨?_, fun j hj => ?_⟩, fr_up (fr_up fr_rfl (Or.inl rfl)) (Or.inr ⟨rfl, rfl⟩)⟩
  · rw [up_s, up_o (by omega), h.1, w_id (by omega) (by omega)]
    show (t.1 : Int) + 1 = ((t.1 + 1 : Nat) : Int)
    omega
  · rw [up_o (by omega), up_a]
    show _ = if j = t.1 then _ else t.2 j
    have hj' : j < t.1 + 1 := hj
    by_cases e : j = t.1
    · rw [if_pos (by omega), if_pos e]
    · rw [if_neg (by omega), if_neg e]; exact h.2 j (by omega)
theorem ref_four {v : Int} (h : MTp N t) (ht : t.1 ≤ 396) : Ok (f_X12_four X N v) (fun N' => MTp N' (tp4 t v) ∧ Fr fr73 N N') := by
  unfold f_X12_four
  obtain ⟨o1, e1, N1, rfl, p1, q1⟩ := ref_four1 (X := X) (v := v) (s := 24) h (by omega) (by omega) (by omega)
  obtain ⟨o2, e2, N2, rfl, p2, q2⟩ := ref_four1 (X := X) (v := v) (s := 16) p1 (by show t.1 + 1 < 400; omega) (by omega) (by omega)
  obtain ⟨o3, e3, N3, rfl, p3, q3⟩ := ref_four1 (X := X) (v := v) (s := 8) p2 (by show t.1 + 1 + 1 < 400; omega) (by omega) (by omega)
  obtain ⟨o4, e4, N4, rfl, p4, q4⟩ := ref_four1 (X := X) (v := v) (s := 0) p3 (by show t.1 + 1 + 1 + 1 < 400; omega) (by omega) (by omega)
  have e5 : b_X12_four_3 X N4 v (0 - 8) = some (.inr N4) := by unfold b_X12_four_3; rw [if_pos (by omega)]
  rw [lp_next (s := (N, v, 24)) e1, lp_next (s := (N1, v, 24 - 8)) e2, lp_next (s := (N2, v, 16 - 8)) e3, lp_next (s := (N3, v, 8 - 8)) e4, lp_end (s := (N4, v, 0 - 8)) e5]
  exact ok_ret ⟨p4, fr_tr q1 (fr_tr q2 (fr_tr q3 q4))⟩
theorem tv_1 {x : Int} (h : TV t) (ht : t.1 < 400) (hx : 0 ≤ x ∧ x ≤ 255) : TV (tp1 t x) := by
  refine ⟨by show t.1 + 1 ≤ 400; omega, fun j hj => ?_⟩
  have hj' : j < t.1 + 1 := hj
  show 0 ≤ (if j = t.1 then x else t.2 j) ∧ (if j = t.1 then x else t.2 j) ≤ 255
  by_cases e : j = t.1
  · rw [if_pos e]; exact hx
  · rw [if_neg e]; exact h.2 j (by omega)
theorem tv_4 {v : Int} (h : TV t) (ht : t.1 ≤ 396) : TV (tp4 t v) := by
  refine tv_1 (tv_1 (tv_1 (tv_1 h (by omega) (and255_b _)) ?_ (and255_b _)) ?_ (and255_b _)) ?_ (and255_b _)
  · show t.1 + 1 < 400; omega
  · show t.1 + 1 + 1 < 400; omega
  · show t.1 + 1 + 1 + 1 < 400; omega
end TA
section TB
variable {X : MX} {N N1 : NN} {B : Int} {q : Wd} {im : Nat → Option Wd} {un : Un} {tp tp' : Tp} {cn rp : Nat → Int}
theorem cinv_tp (hC : CInv X N B q im un tp cn rp) (h : CTp N1 tp') (hf : Fr fr17 N N1) : CInv X N1 B q im un tp' cn rp := by
  obtain ⟨a, b, c, d, e, f, g⟩ := hC
  have z : ∀ o, o ≠ 16 → o ≠ 17 → N1 o = N o := fun o p p' => fr_of hf o fun k => by unfold fr17; omega
  exact ⟨cw_eq a (z _ (by omega) (by omega)) (z _ (by omega) (by omega)) (fun o p => z o (by omega) (by omega)), lwf_eq b (z _ (by omega) (by omega)), cim_eq c (fun o p p' => z o (by omega) (by omega)) (fun o p => z o (by omega) (by omega)), cun_eq d (z _ (by omega) (by omega)) (z _ (by omega) (by omega)) (z _ (by omega) (by omega)), h, ccn_eq f (z _ (by omega) (by omega)) (z _ (by omega) (by omega)) (hf 16 6 (by unfold fr17; omega)) (by rw [z 33 (by omega) (by omega)]), cdr_eq g (z _ (by omega) (by omega))⟩
theorem minv_tp (hM : MInv N B q im un tp cn rp) (h : MTp N1 tp') (ht : TV tp') (hf : Fr fr73 N N1) : MInv N1 B q im un tp' cn rp := by
  obtain ⟨a, b, c, d, e, f, g, u, t⟩ := hM
  have z : ∀ o, o ≠ 64 → o ≠ 73 → N1 o = N o := fun o p p' => fr_of hf o fun k => by unfold fr73; omega
  have y : ∀ k, k ≠ 13 → N1 64 k = N 64 k := fun k p => hf 64 k (by unfold fr73; omega)
  exact ⟨mw_eq a (z _ (by omega) (by omega)) (y _ (by omega)), mim_eq b (z _ (by omega) (by omega)) (z _ (by omega) (by omega)), mun_eq u.1 c (y _ (by omega)) (fun k _ => by rw [z 69 (by omega) (by omega)]) (z _ (by omega) (by omega)), h, mcn_eq e (y _ (by omega)) (z _ (by omega) (by omega)) (y _ (by omega)) (y _ (by omega)) (y _ (by omega)), mdr_eq f (y _ (by omega)) (z _ (by omega) (by omega)), mkn_eq g (z _ (by omega) (by omega)) (z _ (by omega) (by omega)), u, ht⟩
theorem nM_17 (h : Fr fr17 N N1) : Fr notM N N1 := fr_mono h fun o k z => by unfold fr17 at z; unfold notM pM; omega
theorem nC_73 (h : Fr fr73 N N1) : Fr notC N N1 := fr_mono h fun o k z => by unfold fr73 at z; unfold notC pC; omega
theorem sim_feed (h : Inv X N B) (a b c d e : Int) : Sim X N B (f_X11_feed X N a b c d e) (fun M => f_X12_feed X M a b c d e) := by
  obtain ⟨hX, q, im, un, tp, cn, rp, hC, hM⟩ := h
  have hT : CTp N tp := hC.2.2.2.2.1
  have hV : TV tp := hM.2.2.2.2.2.2.2.2
  unfold f_X11_feed f_X5_hasRoom f_X5_hasRoom_j17 f_X12_feed
  have v := hV.1
  rw [hT.1, w_id (x := (tp.1 : Int) + 20) (by omega) (by omega)]
  by_cases r : 400 < (tp.1 : Int) + 20
  · refine sim_mk (v := -1) hX hM (B' := B) ?_ (fun M hM => ?_) (q' := q) (im' := im) (un' := un) (tp' := tp) (cn' := cn) (rp' := rp)
    · rw [if_pos r]
      exact ok_ret ⟨rfl, hC, fr_rfl⟩
    · have hM1 := minv_0 (x := 0) hM
      try dsimp only
      rw [hM1.2.2.2.1.1, w_id (x := (tp.1 : Int) + 20) (by omega) (by omega), if_pos r]
      exact ok_ret ⟨rfl, hM1, nC_0⟩
  have hv : tp.1 ≤ 380 := by omega
  refine sim_mk (v := (tp.1 : Int) + 20) hX hM (B' := B) ?_ (fun M hM => ?_) (q' := q) (im' := im) (un' := un) (tp' := tp4 (tp4 (tp4 (tp4 (tp4 tp a) b) c) d) e) (cn' := cn) (rp' := rp)
  · rw [if_neg r]
    refine ok_bd (a := 1) rfl ?_
    rw [i10]
    refine ok_bind (c_append hT (by omega)) ?_
    intro N1 ⟨p1, q1⟩
    refine ok_bind (c_append p1 (by show tp.1 + 1 + 1 + 1 + 1 ≤ 396; omega)) ?_
    intro N2 ⟨p2, q2⟩
    refine ok_bind (c_append p2 (by show tp.1 + 1 + 1 + 1 + 1 + 1 + 1 + 1 + 1 ≤ 396; omega)) ?_
    intro N3 ⟨p3, q3⟩
    refine ok_bind (c_append p3 (by show tp.1 + 1 + 1 + 1 + 1 + 1 + 1 + 1 + 1 + 1 + 1 + 1 + 1 ≤ 396; omega)) ?_
    intro N4 ⟨p4, q4⟩
    refine ok_bind (c_append p4 (by show tp.1 + 1 + 1 + 1 + 1 + 1 + 1 + 1 + 1 + 1 + 1 + 1 + 1 + 1 + 1 + 1 + 1 ≤ 396; omega)) ?_
    intro N5 ⟨p5, q5⟩
    have f := fr_tr q1 (fr_tr q2 (fr_tr q3 (fr_tr q4 q5)))
    refine ok_bd (a := (tp.1 : Int) + 20) ?_ (ok_ret ⟨rfl, cinv_tp hC p5 f, nM_17 f⟩)
    show some (N5 16 5) = _
    rw [p5.1]
    show some ((tp.1 + 1 + 1 + 1 + 1 + 1 + 1 + 1 + 1 + 1 + 1 + 1 + 1 + 1 + 1 + 1 + 1 + 1 + 1 + 1 + 1 : Nat) : Int) = _
    congr 1
  · have hM1 := minv_0 (x := 0) hM
    have hT1 := hM1.2.2.2.1
    try dsimp only
    rw [hT1.1, w_id (x := (tp.1 : Int) + 20) (by omega) (by omega), if_neg r]
    refine ok_bind (ref_four hT1 (by omega)) ?_
    intro N1 ⟨p1, q1⟩
    refine ok_bind (ref_four p1 (by show tp.1 + 1 + 1 + 1 + 1 ≤ 396; omega)) ?_
    intro N2 ⟨p2, q2⟩
    refine ok_bind (ref_four p2 (by show tp.1 + 1 + 1 + 1 + 1 + 1 + 1 + 1 + 1 ≤ 396; omega)) ?_
    intro N3 ⟨p3, q3⟩
    refine ok_bind (ref_four p3 (by show tp.1 + 1 + 1 + 1 + 1 + 1 + 1 + 1 + 1 + 1 + 1 + 1 + 1 ≤ 396; omega)) ?_
    intro N4 ⟨p4, q4⟩
    refine ok_bind (ref_four p4 (by show tp.1 + 1 + 1 + 1 + 1 + 1 + 1 + 1 + 1 + 1 + 1 + 1 + 1 + 1 + 1 + 1 + 1 ≤ 396; omega)) ?_
    intro N5 ⟨p5, q5⟩
    have f := fr_tr q1 (fr_tr q2 (fr_tr q3 (fr_tr q4 q5)))
    have tv : TV (tp4 (tp4 (tp4 (tp4 (tp4 tp a) b) c) d) e) := by
      refine tv_4 (tv_4 (tv_4 (tv_4 (tv_4 hV (by omega)) ?_) ?_) ?_) ?_
      · show tp.1 + 1 + 1 + 1 + 1 ≤ 396; omega
      · show tp.1 + 1 + 1 + 1 + 1 + 1 + 1 + 1 + 1 ≤ 396; omega
      · show tp.1 + 1 + 1 + 1 + 1 + 1 + 1 + 1 + 1 + 1 + 1 + 1 + 1 ≤ 396; omega
      · show tp.1 + 1 + 1 + 1 + 1 + 1 + 1 + 1 + 1 + 1 + 1 + 1 + 1 + 1 + 1 + 1 + 1 ≤ 396; omega
    refine ok_ret ⟨?_, minv_tp hM1 p5 tv f, fr_tr nC_0 (nC_73 f)⟩
    show N5 64 13 = _
    rw [p5.1]
    show ((tp.1 + 1 + 1 + 1 + 1 + 1 + 1 + 1 + 1 + 1 + 1 + 1 + 1 + 1 + 1 + 1 + 1 + 1 + 1 + 1 + 1 : Nat) : Int) = _
    omega
theorem ctp_cut {n : Nat} (h : CTp N tp) (hn : n ≤ tp.1) : CTp (m_up N 16 5 (n : Int)) (n, tp.2) := ⟨up_s, fun j hj => by rw [up_o (by omega)]; exact h.2 j (Nat.lt_of_lt_of_le hj hn)⟩
theorem mtp_cut {n : Nat} (h : MTp N tp) (hn : n ≤ tp.1) : MTp (m_up N 64 13 (n : Int)) (n, tp.2) := ⟨up_s, fun j hj => by rw [up_o (by omega)]; exact h.2 j (Nat.lt_of_lt_of_le hj hn)⟩
theorem tv_cut {n : Nat} (h : TV tp) (hn : n ≤ tp.1) : TV (n, tp.2) := ⟨Nat.le_trans hn h.1, fun j hj => h.2 j (Nat.lt_of_lt_of_le hj hn)⟩
theorem sim_end (h : Inv X N B) (a : Int) : Sim X N B (f_X11_end X N a) (fun M => f_X12_end X M a) := by
  obtain ⟨hX, q, im, un, tp, cn, rp, hC, hM⟩ := h
  have hT : CTp N tp := hC.2.2.2.2.1
  have hV : TV tp := hM.2.2.2.2.2.2.2.2
  unfold f_X11_end f_X5_length f_X5_cut f_X12_end f_X12_end_j17
  rw [hT.1, Option.bind_some, c_within, Option.bind_some]
  by_cases c : 0 ≤ a ∧ a ≤ (tp.1 : Int)
  case neg =>
    refine sim_mk (v := -1) hX hM (B' := B) ?_ (fun M hM => ?_) (q' := q) (im' := im) (un' := un) (tp' := tp) (cn' := cn) (rp' := rp)
    · rw [if_neg c, i00]
      exact ok_ret ⟨rfl, hC, fr_rfl⟩
    · have hM1 := minv_0 (x := 0) hM
      try dsimp only
      rw [hM1.2.2.2.1.1]
      by_cases a0 : a < 0
      · rw [if_pos a0]; exact ok_ret ⟨rfl, hM1, nC_0⟩
      · rw [if_neg a0, if_pos (by omega)]; exact ok_ret ⟨rfl, hM1, nC_0⟩
  obtain ⟨n, rfl⟩ := Int.eq_ofNat_of_zero_le c.1
  refine sim_mk (v := (n : Int)) hX hM (B' := B) ?_ (fun M hM => ?_) (q' := q) (im' := im) (un' := un) (tp' := (n, tp.2)) (cn' := cn) (rp' := rp)
  · rw [if_pos c, i10]
    have f : Fr fr17 N (m_up N 16 5 (n : Int)) := fr_up fr_rfl (Or.inr ⟨rfl, rfl⟩)
    exact ok_ret ⟨rfl, cinv_tp hC (ctp_cut hT (by omega)) f, nM_17 f⟩
  · have hM1 := minv_0 (x := 0) hM
    try dsimp only
    rw [hM1.2.2.2.1.1, if_neg (by omega), if_neg (by omega)]
    have f : Fr fr73 (m_up M 64 0 0) (m_up (m_up M 64 0 0) 64 13 (n : Int)) := fr_up fr_rfl (Or.inr ⟨rfl, rfl⟩)
    exact ok_ret ⟨rfl, minv_tp hM1 (mtp_cut hM1.2.2.2.1 (by omega)) (tv_cut hV (by omega)) f, fr_tr nC_0 (nC_73 f)⟩
end TB
