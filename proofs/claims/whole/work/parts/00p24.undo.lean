/-! undo -/
def undoS (r u : Nat → Int) : Nat → Int := fun j => if (9 ≤ j ∧ j < 213 ∧ ¬ (45 ≤ j ∧ j < 141 ∧ (j - 45) % 6 = 5)) ∨ j = 6 then u j else r j
section UD
variable {X : MX} {N : NN} {B : Int} {r u c : Nat → Int} {lw : Nat → Law} {un : Un}
theorem us_in {j : Nat} (h : (9 ≤ j ∧ j < 213 ∧ ¬ (45 ≤ j ∧ j < 141 ∧ (j - 45) % 6 = 5)) ∨ j = 6) : undoS r u j = u j := if_pos h
theorem us_out {j : Nat} (h : ¬ ((9 ≤ j ∧ j < 213 ∧ ¬ (45 ≤ j ∧ j < 141 ∧ (j - 45) % 6 = 5)) ∨ j = 6)) : undoS r u j = r j := if_neg h
theorem us_l {l k : Int} (h0 : 0 ≤ l) (h1 : l ≤ 5) (h2 : 0 ≤ k) (h3 : k ≤ 5) : rl (undoS r u) l k = rl u l k := us_in (by omega)
theorem us_g {g k : Int} (h0 : 0 ≤ g) (h1 : g ≤ 15) (h2 : 0 ≤ k) (h3 : k ≤ 4) : rg (undoS r u) g k = rg u g k := us_in (by omega)
theorem us_g5 {g : Int} (h0 : 0 ≤ g) (h1 : g ≤ 15) : rg (undoS r u) g 5 = rg r g 5 := us_out (by omega)
theorem us_d {a f : Int} (h0 : 0 ≤ a) (h1 : a ≤ 5) (h2 : 0 ≤ f) (h3 : f ≤ 5) : rd (undoS r u) a f = rd u a f := us_in (by omega)
theorem us_s {a f : Int} (h0 : 0 ≤ a) (h1 : a ≤ 5) (h2 : 0 ≤ f) (h3 : f ≤ 5) : rs (undoS r u) a f = rs u a f := us_in (by omega)
theorem us_r {i k : Int} (h0 : 0 ≤ i) (h2 : 0 ≤ k) : rr (undoS r u) i k = rr r i k := us_out (by omega)
theorem us_h {i : Int} (h0 : 0 ≤ i) : rh (undoS r u) i = rh r i := us_out (by omega)
theorem us_vr (hr : Vr B r) (hu : Vr B u) (e0 : u 0 = r 0) (e1 : u 1 = r 1) : Vr B (undoS r u) := by
  obtain ⟨a0, a1, a2, a3, a4, a5, a6, a7, a8, b1, b2, b3, b4, b5⟩ := hr
  obtain ⟨c0, c1, c2, c3, c4, c5, c6, c7, c8, d1, d2, d3, d4, d5⟩ := hu
  have z0 : undoS r u 0 = r 0 := us_out (by omega)
  have z1 : undoS r u 1 = r 1 := us_out (by omega)
  have z2 : undoS r u 2 = r 2 := us_out (by omega)
  have z3 : undoS r u 3 = r 3 := us_out (by omega)
  have z4 : undoS r u 4 = r 4 := us_out (by omega)
  have z5 : undoS r u 5 = r 5 := us_out (by omega)
  have z6 : undoS r u 6 = u 6 := us_in (by omega)
  have z7 : undoS r u 7 = r 7 := us_out (by omega)
  have z8 : undoS r u 8 = r 8 := us_out (by omega)
  refine ⟨by rw [z0]; exact a0, by rw [z1]; exact a1, by rw [z2]; exact a2, by rw [z3]; exact a3, by rw [z4]; exact a4, by rw [z5, z4]; exact a5, by rw [z6]; exact c6, by rw [z7]; exact a7, by rw [z8]; exact a8, fun x p q => ?_, fun x p q => ?_, fun x y p q p' q' => ?_, fun x p q => ?_, fun x p q => ?_⟩
  · rw [us_l p q (by omega) (by omega), us_l p q (by omega) (by omega), us_l p q (by omega) (by omega)]; exact d1 x p q
  · rw [z1] at q
    rw [us_g p (by omega) (by omega) (by omega), us_g p (by omega) (by omega) (by omega), us_g p (by omega) (by omega) (by omega), us_g p (by omega) (by omega) (by omega), us_g p (by omega) (by omega) (by omega), us_g5 p (by omega), z0]
    have y1 := d2 x p (by omega)
    have y2 := b2 x p q
    rw [e0] at y1
    omega
  · rw [us_d p q p' q', us_s p q p' q', z0]
    have y := d3 x y p q p' q'
    rw [e0] at y
    exact y
  · rw [z2] at q
    rw [us_h p]; exact b4 x p q
  · rw [z3] at q
    rw [us_r p (by omega), us_r p (by omega), us_r p (by omega), us_r p (by omega), z0]; exact b5 x p q
theorem us_rw {c' c2 : Nat → Int} (h : Rw c r) (h2 : Ru c2 u) (e7 : u 7 = r 7) (e8 : u 8 = r 8) (hi : ∀ j, j < 191 → c' j = c2 j) (ho : ∀ j, 191 ≤ j → c' j = c j) : Rw c' (undoS r u) := by
  obtain ⟨a1, a2, a3, a4, a5, a6, a7, a8, a9, a10⟩ := h
  obtain ⟨d1, d2, d3, d4, d5⟩ := h2
  have z1 : undoS r u 1 = r 1 := us_out (by omega)
  refine ⟨fun x p q => ?_, fun x y p q p' q' => ?_, fun x y p q p' q' => ?_, fun x y p q p' q' => ?_, fun x y p q p' q' => ?_, fun x p q => ?_, ?_, fun x p q => ?_, fun x p q => ?_, fun x y p q p' q' => ?_⟩
  · rw [hi _ (by omega), d1 x p q]
    rcases (show x = 0 ∨ x = 1 ∨ x = 2 by omega) with e | e | e <;> subst e
    · exact (us_in (by omega)).symm
    · exact e7.trans (us_out (r := r) (u := u) (j := 7) (by omega)).symm
    · exact e8.trans (us_out (r := r) (u := u) (j := 8) (by omega)).symm
  · rw [hi _ (by omega), us_l p q p' q']; exact d2 x y p q p' q'
  · rw [hi _ (by omega), us_g p q p' q']; exact d3 x y p q p' q'
  · rw [hi _ (by omega), us_d p q p' q']; exact d4 x y p q p' q'
  · rw [hi _ (by omega), us_s p q p' q']; exact d5 x y p q p' q'
  · rw [ho _ (by omega), a6 x p q]; exact (us_out (by omega)).symm
  · rw [ho _ (by omega), a7]; exact (us_out (by omega)).symm
  · rw [ho _ (by omega), a8 x p q, z1, us_g5 p q]
  · rw [ho _ (by omega), a9 x p q, us_h p]
  · rw [ho _ (by omega), a10 x y p q p' q', us_r p p']
theorem c_takeBack (hX : XOK X) (hW : CW X N 4 B r lw) (h : CUn N un) (hU : UV B r un) (hn : 0 < un.1) : Ok (f_X4_takeBack X 13 4 N) (fun o => o.1 = un.2.2 (un.1 - 1) ∧ CW X o.2 4 B (undoS r (un.2.1 (un.1 - 1))) lw ∧ CUn o.2 (un.1 - 1, un.2) ∧ Fr frK N o.2) := by
  obtain ⟨h1, h2, h3, h4⟩ := h
  obtain ⟨x, hx⟩ := Int.eq_ofNat_of_zero_le h2
  rw [hx] at h3 h4
  have hk : xK X 14 = (1, 3056) := hX.2.2.2.2.2.2.2.2.2.2.2.2.1
  have hn16 := hU.1
  obtain ⟨u1, u2, u3, u4, u5, u6, u7⟩ := hU.2 (un.1 - 1) (by omega)
  obtain ⟨g1, g2⟩ := h4 (un.1 - 1) (by omega)
  have hs : slot (x : Int) un.1 (un.1 - 1) = (x + 15) % 16 := by unfold slot; omega
  rw [hs] at g1 g2
  unfold f_X4_takeBack f_X10_restoreFrom
  rw [h1, if_pos (by omega)]
  dsimp only
  rw [up_s, up_k (by omega), hx, w_id (x := (x : Int) + 16) (by omega) (by omega), w_id (x := (x : Int) + 16 - 1) (by omega) (by omega), rem16 (by omega) (by omega), w_id (x := ((x : Int) + 16 - 1) % 16 * 191) (by omega) (by omega), hk, w_id (x := (un.1 : Int) - 1) (by omega) (by omega)]
  rw [gdp (by omega), Option.bind_some]
  generalize hM2 : m_up (m_up N 13 3 ((un.1 : Int) - 1)) 13 2 (((x : Int) + 16 - 1) % 16) = M2
  have k13 : M2 13 2 = ((x + 15) % 16 : Nat) := by rw [← hM2, up_s]; omega
  have k133 : M2 13 3 = (un.1 : Int) - 1 := by rw [← hM2, up_k (by omega), up_s]
  have ko : ∀ o, o ≠ 13 → M2 o = N o := fun o p => by rw [← hM2, up_of p, up_of p]
  generalize hM : m_cpy M2 (13 + 1) (((x : Int) + 16 - 1) % 16 * 191).toNat (4 + 1) (0 : Int).toNat (191 : Int).toNat = M
  have mo : ∀ o, o ≠ 5 → M o = M2 o := fun o p => by rw [← hM]; exact cpy_o p
  have m5 : ∀ j, j < 191 → M 5 j = N 14 (191 * ((x + 15) % 16) + j) := by
    intro j hj
    rw [← hM, cpy_in (by omega), ko _ (by omega)]
    show N 14 _ = N 14 _
    congr 1
    omega
  have m5' : ∀ j, 191 ≤ j → M 5 j = N 5 j := by
    intro j hj
    rw [← hM, cpy_out (by omega), ko _ (by omega)]
  have f2 : Fr frK N M := by
    intro o j z
    have q : o ≠ 5 ∧ o ≠ 13 := by unfold frK at z; omega
    rw [mo o q.1, ko o q.2]
  rw [mo 13 (by omega), k13, gdp (by omega)]
  refine ok_ret ⟨?_, ?_, ⟨?_, ?_, ?_, fun i hi => ?_⟩, f2⟩
  · show M (13 + 2) _ = _
    rw [mo _ (by omega), ko _ (by omega), Int.toNat_natCast]; exact g2
  · refine ⟨us_rw hW.1 g1 u4 u5 m5 m5', us_vr hW.2.1 u1 u2 u3, hW.2.2.1, fun i hi => ?_⟩
    rw [us_out (by omega)] at hi
    show TS X M (M (4 + 2) i).toNat (lw i)
    rw [mo _ (by omega), ko _ (by omega)]
    have q := hW.2.2.2 i hi
    exact ts_mono q (fun o _ _ => ⟨rfl, rfl⟩) (fun o p _ => by have := q.1; rw [mo o (by omega), ko o (by omega)])
  · show M 13 3 = _
    rw [mo 13 (by omega), k133]; dsimp only; omega
  · show 0 ≤ M 13 2
    rw [mo 13 (by omega), k13]; omega
  · show M 13 2 ≤ 15
    rw [mo 13 (by omega), k13]; omega
  · dsimp only at hi ⊢
    rw [mo 13 (by omega), k13, mo 14 (by omega), ko 14 (by omega), mo 15 (by omega), ko 15 (by omega)]
    have he : slot (((x + 15) % 16 : Nat) : Int) (un.1 - 1) i = slot (x : Int) un.1 i := by unfold slot; omega
    rw [he]
    exact h4 i (by omega)
theorem ref_undoRow {n : Nat} (hn : n ≤ 15) (hr : ∀ j, j < 270 → N 66 j = r j) (hu : ∀ j, j < 270 → N 69 (270 * n + j) = u j) : Ok (f_X12_undoRow X N (n : Int)) (fun N' => (∀ j, j < 270 → N' 66 j = undoS r u j) ∧ Fr (fun o k => o = 66 ∧ k < 270) N N') := by
  have H : Ok (lp (fun s : NN × Int × Int => b_X12_undoRow_3 X s.1 s.2.1 s.2.2) (N, (n : Int), 9)) (fun o => o.2 = (n : Int) ∧ (∀ j, j < 270 → j ≠ 6 → o.1 66 j = undoS r u j) ∧ o.1 66 6 = r 6 ∧ Fr (fun o k => o = 66 ∧ k < 270) N o.1) := by
    refine ok_up (fun i s => ∃ M, s = (M, (n : Int), i) ∧ (∀ j : Nat, j < 270 → M 66 j = if (j : Int) < i ∧ j ≠ 6 then undoS r u j else r j) ∧ Fr (fun o k => o = 66 ∧ k < 270) N M) 213 (i0 := 9) ?_ ?_ (by omega) ⟨N, rfl, fun j hj => ?_, fr_rfl⟩
    · rintro i s a0 a1 ⟨M, rfl, hM, hf⟩
      obtain ⟨m, rfl⟩ := Int.eq_ofNat_of_zero_le (show 0 ≤ i by omega)
      have e69 : M 69 (270 * n + m) = u m := (hf 69 _ (by omega)).trans (hu m (by omega))
      have e66 : M 66 m = r m := by rw [hM m (by omega), if_neg (by omega)]
      have K : ∀ v : Int, v = undoS r u m → Ok (some (Sum.inl (α := NN × Int × Int) (β := NN × Int) (m_up M 66 m v, (n : Int), (m : Int) + 1))) (fun o => ∃ M', o = .inl (M', (n : Int), (m : Int) + 1) ∧ (∀ j : Nat, j < 270 → M' 66 j = if (j : Int) < (m : Int) + 1 ∧ j ≠ 6 then undoS r u j else r j) ∧ Fr (fun o k => o = 66 ∧ k < 270) N M') := by
        intro v hv
        refine ok_ret ⟨_, rfl, fun j hj => ?_, fr_up hf ⟨rfl, by omega⟩⟩
        rw [up_a]
        by_cases e : j = m
        · rw [if_pos e, if_pos (by omega), hv, e]
        · rw [if_neg e, hM j hj]
          by_cases d : (j : Int) < (m : Int) ∧ j ≠ 6
          · rw [if_pos d, if_pos (by omega)]
          · rw [if_neg d, if_neg (by omega)]
      dsimp only
      unfold b_X12_undoRow_3 f_X12_undoRow_l3_j38 f_X12_undoRow_l3_j39 f_X12_undoRow_l3_j70
      simp (disch := omega) only [w_id (x := 270 * (n : Int)), w_id (x := 270 * (n : Int) + (m : Int)), w_id (x := (m : Int) + 1), gdp]
      rw [if_pos a1, show (270 * (n : Int) + (m : Int)).toNat = 270 * n + m by omega, Int.toNat_natCast, e69, e66]
      by_cases c1 : (m : Int) < 45
      · rw [if_pos c1, if_pos trivial]; exact ok_mono (K _ (us_in (by omega)).symm) (by rintro o ⟨M', rfl, g1, g2⟩; exact ⟨M', rfl, g1, g2⟩)
      rw [if_neg c1]
      by_cases c2 : (m : Int) < 141
      · rw [if_pos c2, w_id (x := (m : Int) - 45) (by omega) (by omega), rem_id (by omega) (by omega) (by omega) (by omega)]
        by_cases c3 : ((m : Int) - 45) % 6 = 5
        · rw [if_pos c3, if_neg (by omega)]; exact ok_mono (K _ (us_out (by omega)).symm) (by rintro o ⟨M', rfl, g1, g2⟩; exact ⟨M', rfl, g1, g2⟩)
        · rw [if_neg c3, if_pos trivial]; exact ok_mono (K _ (us_in (by omega)).symm) (by rintro o ⟨M', rfl, g1, g2⟩; exact ⟨M', rfl, g1, g2⟩)
      · rw [if_neg c2, if_pos trivial]; exact ok_mono (K _ (us_in (by omega)).symm) (by rintro o ⟨M', rfl, g1, g2⟩; exact ⟨M', rfl, g1, g2⟩)
    · rintro s ⟨M, rfl, hM, hf⟩
      dsimp only
      unfold b_X12_undoRow_3
      rw [if_neg (by omega)]
      refine ok_ret ⟨rfl, fun j hj h6 => ?_, ?_, hf⟩
      · show M 66 j = _
        rw [hM j hj]
        by_cases d : (j : Int) < 213
        · rw [if_pos ⟨d, h6⟩]
        · rw [if_neg (fun z => d z.1), us_out (by omega)]
      · show M 66 6 = _
        rw [hM 6 (by omega), if_neg (by omega)]
    · rw [hr j hj]
      by_cases d : (j : Int) < 9 ∧ j ≠ 6
      · rw [if_pos d, us_out (by omega)]
      · rw [if_neg d]
  unfold f_X12_undoRow
  refine ok_bind H ?_
  rintro ⟨M, a⟩ ⟨p1, p2, p3, p4⟩
  dsimp only at p1 p2 p3 p4 ⊢
  subst p1
  simp (disch := omega) only [w_id, gdp]
  rw [show (270 * (n : Int) + 6 + 0).toNat = 270 * n + 6 by omega, p4 69 _ (by omega), hu 6 (by omega)]
  refine ok_ret ⟨fun j hj => ?_, fr_up p4 ⟨rfl, by omega⟩⟩
  rw [up_a]
  by_cases e : j = 6
  · rw [if_pos e, e, us_in (by omega)]
  · rw [if_neg e]; exact p2 j hj e
theorem sim_undo (h : Inv X N B) : Sim X N B (f_X11_undo X N) (fun M => f_X12_undo X M) := by
  obtain ⟨hX, ⟨r, lw⟩, im, un, tp, cn, rp, hC, hM⟩ := h
  have hW : CW X N 4 B r lw := hC.1
  have hV := hW.2.1
  have hU : UV B r un := hM.2.2.2.2.2.2.2.1
  have hn16 := hU.1
  unfold f_X11_undo f_X11_undo_j31 f_X12_undo
  by_cases c : un.1 = 0
  · refine sim_mk (v := -3) hX hM (B' := B) ?_ (fun M hM => ?_) (q' := (r, lw)) (im' := im) (un' := un) (tp' := tp) (cn' := rfu cn (-3)) (rp' := rp)
    · have e : f_X4_takeBack X 13 4 N = some (-1, N) := by
        unfold f_X4_takeBack
        rw [hC.2.2.2.1.1, if_neg (by omega)]
      rw [e, Option.bind_some, if_pos rfl]
      exact cs_refuse hC (by omega) (by omega)
    · have hM1 := minv_0 (x := 0) hM
      try dsimp only
      rw [hM1.2.2.1.1, if_pos (by omega)]
      exact ms_ref0 hM (by omega) (by omega)
  obtain ⟨u1, u2, u3, u4, u5, u6, u7⟩ := hU.2 (un.1 - 1) (by omega)
  have hU' : UV B (undoS r (un.2.1 (un.1 - 1))) (un.1 - 1, un.2) := by
    refine ⟨by show un.1 - 1 ≤ 16; omega, fun i hi => ?_⟩
    have hi' : i < un.1 - 1 := hi
    rw [us_out (j := 0) (by omega), us_out (j := 1) (by omega), us_out (j := 7) (by omega), us_out (j := 8) (by omega)]
    exact hU.2 i (by omega)
  refine sim_mk (v := un.2.2 (un.1 - 1)) hX hM (B' := B) ?_ (fun M hM => ?_) (q' := (undoS r (un.2.1 (un.1 - 1)), lw)) (im' := im) (un' := (un.1 - 1, un.2)) (tp' := tp) (cn' := ru cn 0 0) (rp' := rp)
  · refine ok_bind (c_takeBack hX hW hC.2.2.2.1 hU (by omega)) ?_
    rintro ⟨v, N1⟩ ⟨p1, p2, p3, p4⟩
    dsimp only at p1 p2 p3 p4 ⊢
    subst p1
    rw [if_neg (by omega)]
    refine ok_mono (cs_accept (cinv_g hC p2 p3 (Int.le_refl _) p4)) ?_
    rintro o ⟨o1, o2, o3⟩
    exact ⟨o1, o2, fr_tr (nM_K p4) o3⟩
  · have hM1 := minv_0 (x := 0) hM
    have hMU := hM1.2.2.1
    have hW1 : MW (m_up M 64 0 0) B r lw := hM1.1
    try dsimp only
    rw [hMU.1, if_neg (by omega), up_s, w_id (by omega) (by omega), show (un.1 : Int) - 1 = ((un.1 - 1 : Nat) : Int) by omega]
    have f1 : Fr frG (m_up M 64 0 0) (m_up (m_up M 64 0 0) 64 8 ((un.1 - 1 : Nat) : Int)) := fr_up fr_rfl (by unfold frG; omega)
    refine ok_bind (ref_undoRow (r := r) (u := un.2.1 (un.1 - 1)) (n := un.1 - 1) (by omega) (fun j hj => by rw [up_o (by omega)]; exact hW1.1 j hj) (fun j hj => by rw [up_o (by omega)]; exact (hMU.2 _ (by omega)).1 j hj)) ?_
    intro M2 ⟨p1, p2⟩
    have e8 : M2 64 8 = ((un.1 - 1 : Nat) : Int) := by rw [p2 64 8 (by omega), up_s]
    rw [e8, gdp (by omega), Int.toNat_natCast]
    have f2 : Fr frG (m_up M 64 0 0) M2 := fr_tr f1 (fr_mono p2 fun o k z => by unfold frG frN; omega)
    have w2 : MW M2 B (undoS r (un.2.1 (un.1 - 1))) lw := by
      refine mw_cells hW1 p1 (us_vr hV u1 u2 u3) hW.2.2.1 (us_out (by omega)) ?_ (fun j hj => ?_)
      · rw [p2 64 20 (by omega), up_k (by omega)]
      · rw [p2 66 j (by omega), up_o (by omega)]
    have m2 : MUn M2 (un.1 - 1, un.2) := by
      refine ⟨e8, fun i hi => ?_⟩
      have hi' : i < un.1 - 1 := hi
      have := hMU.2 i (by omega)
      refine ⟨fun j hj => ?_, ?_⟩
      · rw [p2 69 _ (by omega), up_o (by omega)]; exact this.1 j hj
      · rw [p2 70 _ (by omega), up_o (by omega)]; exact this.2
    have i1 := minv_g hM1 w2 m2 hU' f2
    have e70 : M2 70 (un.1 - 1) = un.2.2 (un.1 - 1) := by rw [p2 70 _ (by omega), up_o (by omega)]; exact (hMU.2 _ (by omega)).2
    rw [e70, ref_tellP i1.2.2.2.2.1 u6, Option.bind_some]
    exact ok_ret ⟨rfl, minv_1 i1, nC_64 (fr_tr nC_0 (nC_G f2))⟩
end UD
