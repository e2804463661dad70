/-! reading: the class's TERMS, SUMS, TESTS (printed by p83.py) -/
section CL
variable {X : MX} {tp : Nat → Int} {n : Nat} {ord : Bool} {W : Int}
theorem cst_ff {N M : NN} {t np z : Nat} (h : CSt N tp n ord t np z) (h1 : M 16 9 = N 16 9) (h2 : M 16 10 = N 16 10) (h3 : M 16 8 = N 16 8) (h4 : M 16 7 = N 16 7) (h5 : M 21 3 = N 21 3) (h6 : M 16 6 = N 16 6) : CSt M tp n ord t np z := ⟨h1.trans h.1, h2.trans h.2.1, h3.trans h.2.2.1, h4.trans h.2.2.2.1, h5.trans h.2.2.2.2.1, h.2.2.2.2.2.1, h.2.2.2.2.2.2.1, h.2.2.2.2.2.2.2.1, h6.trans h.2.2.2.2.2.2.2.2⟩
theorem c_rdtermL {fr : NN → Int → Int → Int → Option (Int × NN)} {dep : Int} {d : Nat} {elm : Nat → Nat → PR} {N : NN} {t z : Nat} (hn : n ≤ 400) (hb : ∀ j, j < n → 0 ≤ tp j ∧ tp j ≤ 255) (hX : XOK X) (hA : KAc N tp n)
    (hel : ∀ (N : NN) (t np z : Nat), KAc N tp n → CSt N tp n ord t np z → z < t → Ok (f_X5_part fr X N dep) (PCq W tp n ord N t z d false (elm t np))) :
    ∀ (f i : Nat) (M : NN) (t1 np1 z1 : Nat) (D : Den), f + i = 400 → Fr frRd N M → CSt M tp n ord t1 np1 z1 → Seg W (M 22) (M 23) z z1 (d + 1) D → (∀ k, k < z → M 22 k = N 22 k ∧ M 23 k = N 23 k) → t < t1 → z1 + t ≤ z + t1 → DBd D → tkS tp n (t1 - 1) < n →
    Ok (lp (fun s => b_X5_term_8 fr X s.1 s.2.1 s.2.2.1 s.2.2.2) (M, dep, 1, (i : Int))) (fun o => PCq W tp n ord N t z (d + 1) false (pTmL (kdT tp n) elm f t1 np1 D) (o.2, o.1)) := by
  intro f
  induction f with
  | zero =>
    intro i M t1 np1 z1 D hfi hf hC hS hk h1 h2 hD hl
    rw [lp_end (t := (M, 1)) (by dsimp only; unfold b_X5_term_8; rw [if_neg (by omega)])]
    exact ok_ret (pcq_j hf hC hS hk h1 h2 (by rw [if_neg (by decide)]; exact hD) hl)
  | succ f ih =>
    intro i M t1 np1 z1 D hfi hf hC hS hk h1 h2 hD hl
    have hAM := kac_fr hA hf
    have hz1 := hC.2.2.2.2.2.2.1
    rw [pTmL]
    by_cases c : tkK tp n t1 = 42 ∨ tkK tp n t1 = 47 ∨ tkK tp n t1 = 37
    case neg =>
      rw [if_neg (show ¬ (kdT tp n t1 = 42 ∨ kdT tp n t1 = 47 ∨ kdT tp n t1 = 37) from c)]
      rw [lp_end (t := (M, 1)) (by dsimp only; unfold b_X5_term_8; rw [if_pos (by omega), if_neg (by omega), hC.2.1, if_neg (show ¬ tkK tp n t1 = 42 by omega), if_neg (show ¬ tkK tp n t1 = 47 by omega), if_neg (show ¬ tkK tp n t1 = 37 by omega)])]
      exact ok_ret (pcq_j hf hC hS hk h1 h2 (by rw [if_neg (by decide)]; exact hD) hl)
    rw [if_pos (show kdT tp n t1 = 42 ∨ kdT tp n t1 = 47 ∨ kdT tp n t1 = 37 from c)]
    obtain ⟨a, ha⟩ : ∃ a : Int, a = (if tkK tp n t1 = 42 then 4 else if tkK tp n t1 = 47 then 5 else 6) := ⟨_, rfl⟩
    have ha' : (if kdT tp n t1 = 42 then 4 else if kdT tp n t1 = 47 then 5 else 6 : Int) = a := ha.symm
    rw [ha']
    have ab : 2 ≤ a ∧ a ≤ 9 := by
      rw [ha]
      split
      · omega
      · split <;> omega
    obtain ⟨ad, C2⟩ := c_advance hn hb hAM hC (by omega)
    obtain ⟨M2, hM2⟩ : ∃ M2, M2 = m_up (m_up M 16 9 ((t1 : Int) + 1)) 16 10 (tkK tp n (t1 + 1)) := ⟨_, rfl⟩
    rw [← hM2] at ad C2
    have f2 : Fr frRd M M2 := by rw [hM2]; exact fr_adv
    have s2 : ∀ k, M2 22 k = M 22 k ∧ M2 23 k = M 23 k := fun k => by rw [hM2, up_o (by omega), up_o (by omega), up_o (by omega), up_o (by omega)]; exact ⟨rfl, rfl⟩
    have lt1' : tkS tp n t1 < n := Classical.byContradiction fun q => by have := (tk_end hb t1).2 q; omega
    have BB : b_X5_term_8 fr X M dep 1 (i : Int) = f_X5_term_l8_j74 fr X M dep (i : Int) a := by
      unfold b_X5_term_8 f_X5_term_l8_j46
      rw [if_pos (by omega), if_neg (by omega), hC.2.1]
      by_cases e1 : tkK tp n t1 = 42
      · rw [if_pos e1, if_pos e1, ha, if_pos e1]
      rw [if_neg e1, if_neg e1, ha, if_neg e1]
      by_cases e2 : tkK tp n t1 = 47
      · rw [if_pos e2, if_pos e2, if_pos e2]
      rw [if_neg e2, if_neg e2, if_neg e2, if_pos (show tkK tp n t1 = 37 by omega)]
    have hE := hel M2 (t1 + 1) np1 z1 (kac_fr hAM f2) C2 (by omega)
    obtain ⟨⟨v, M3⟩, e3, q3⟩ := hE
    cases hr : elm (t1 + 1) np1 with
    | inl x =>
      rw [hr] at q3
      obtain ⟨v0, q1, q2, q4, q5⟩ := pcq_0 q3
      dsimp only at v0 q1 q2 q4 q5
      subst v0
      obtain ⟨w, M4, e4, ⟨g1, g2, g3, g4⟩, _⟩ := c_addF (X := X) (a := a) (b := 0) hX q2 q4
      have B2 : b_X5_term_8 fr X M dep 1 (i : Int) = some (.inl (M4, dep, 0, (i : Int) + 1)) := by
        rw [BB]
        unfold f_X5_term_l8_j74
        rw [ad, Option.bind_some, e3, Option.bind_some]
        dsimp only
        rw [e4, Option.bind_some, w_id (by omega) (by omega)]
      rw [lp_next (f := fun s => b_X5_term_8 fr X s.1 s.2.1 s.2.2.1 s.2.2.2) (s := (M, dep, 1, (i : Int))) (s' := (M4, dep, 0, (i : Int) + 1)) B2]
      have B3 : b_X5_term_8 fr X M4 dep 0 ((i : Int) + 1) = some (.inr (M4, 0)) := by
        unfold b_X5_term_8
        by_cases z : (i : Int) + 1 < 400
        · rw [if_pos z, if_pos rfl]
        · rw [if_neg z]
      rw [lp_end (f := fun s => b_X5_term_8 fr X s.1 s.2.1 s.2.2.1 s.2.2.2) (s := (M4, dep, 0, (i : Int) + 1)) (t := (M4, 0)) B3]
      exact ok_ret (pcq_i (g1.trans q1) g2 g3 (fr_tr hf (fr_tr f2 (fr_tr q5 g4))))
    | inr q =>
      rw [hr] at q3
      obtain ⟨v1, q5, z2, C3, S3, k3, l3, l4, b3, l5⟩ := pcq_1 q3
      dsimp only at v1 q5 C3 S3 k3
      subst v1
      rw [if_neg (by decide)] at b3
      obtain ⟨M4, e4, C4, a22, a23, ao, fo⟩ := c_addS (a := a) (b := 0) hn hX C3 (by omega)
      have B2 : b_X5_term_8 fr X M dep 1 (i : Int) = some (.inl (M4, dep, 1, (i : Int) + 1)) := by
        rw [BB]
        unfold f_X5_term_l8_j74
        rw [ad, Option.bind_some, e3, Option.bind_some]
        dsimp only
        rw [e4, Option.bind_some, w_id (by omega) (by omega)]
      rw [lp_next (f := fun s => b_X5_term_8 fr X s.1 s.2.1 s.2.2.1 s.2.2.2) (s := (M, dep, 1, (i : Int))) (s' := (M4, dep, 1, (i : Int) + 1)) B2]
      have Sa : Seg W (M4 22) (M4 23) z z1 (d + 1) D := seg_c hS fun k k1 k2 => by
        have p1 := ao k (by have := S3.1; omega)
        have p2 := k3 k (by omega)
        have p3 := s2 k
        exact ⟨p1.1.trans (p2.1.trans p3.1), p1.2.trans (p2.2.trans p3.2)⟩
      have Sb : Seg W (M4 22) (M4 23) z1 z2 d q.2.2 := seg_c S3 fun k k1 k2 => ao k (by omega)
      have R := ih (i + 1) M4 q.1 q.2.1 (z2 + 1) (dBin a D q.2.2) (by omega) (fr_tr hf (fr_tr f2 (fr_tr q5 fo))) C4 (seg_bin Sa Sb a22 ab.1 ab.2 (Nat.le_refl _) (Nat.le_refl _)) (fun k hk' => by
        have p1 := ao k (by have := S3.1; have := hS.1; omega)
        have p2 := k3 k (by have := hS.1; omega)
        have p3 := s2 k
        have p4 := hk k hk'
        exact ⟨p1.1.trans (p2.1.trans (p3.1.trans p4.1)), p1.2.trans (p2.2.trans (p3.2.trans p4.2))⟩) (by omega) (by omega) dbd_bin l5
      rw [show ((i + 1 : Nat) : Int) = (i : Int) + 1 by omega] at R
      exact R
theorem c_rdterm {fr : NN → Int → Int → Int → Option (Int × NN)} {dep : Int} {d : Nat} {elm : Nat → Nat → PR} {N : NN} {t np z : Nat} (hn : n ≤ 400) (hb : ∀ j, j < n → 0 ≤ tp j ∧ tp j ≤ 255) (hX : XOK X) (hA : KAc N tp n)
    (hel : ∀ (N : NN) (t np z : Nat), KAc N tp n → CSt N tp n ord t np z → z < t → Ok (f_X5_part fr X N dep) (PCq W tp n ord N t z d false (elm t np))) (h : CSt N tp n ord t np z) (hzt : z < t) : Ok (f_X5_term fr X N dep) (PCq W tp n ord N t z (d + 1) false (pTm (kdT tp n) elm t np)) := by
  unfold f_X5_term pTm
  obtain ⟨⟨v, M⟩, e3, q3⟩ := hel N t np z hA h hzt
  rw [e3, Option.bind_some]
  cases hr : elm t np with
  | inl x =>
    rw [hr] at q3
    obtain ⟨v0, q1, q2, q4, q5⟩ := pcq_0 q3
    dsimp only at v0 q1 q2 q4 q5 ⊢
    subst v0
    rw [lp_end (t := (M, 0)) (by dsimp only; unfold b_X5_term_8; rw [if_pos (by omega), if_pos rfl]), Option.bind_some]
    dsimp only
    rw [if_pos (by omega)]
    exact ok_ret (pcq_i q1 q2 q4 q5)
  | inr q =>
    rw [hr] at q3
    obtain ⟨v1, q5, z2, C3, S3, k3, l3, l4, b3, l5⟩ := pcq_1 q3
    dsimp only at v1 q5 C3 S3 k3 ⊢
    subst v1
    rw [if_neg (by decide)] at b3
    have R := c_rdtermL hn hb hX hA hel 400 0 M q.1 q.2.1 z2 q.2.2 rfl q5 C3 (seg_d S3 (by omega)) k3 l3 l4 b3 l5
    obtain ⟨⟨M4, v4⟩, e4, q4⟩ := R
    rw [show ((0 : Nat) : Int) = 0 from rfl] at e4
    rw [e4, Option.bind_some]
    dsimp only at q4 ⊢
    have hv : 0 ≤ v4 ∧ v4 ≤ 1 := by
      cases hz : pTmL (kdT tp n) elm 400 q.1 q.2.1 q.2.2 with
      | inl x => rw [hz] at q4; have := (pcq_0 q4).1; dsimp only at this; omega
      | inr x => rw [hz] at q4; have := (pcq_1 q4).1; dsimp only at this; omega
    rw [if_pos hv]
    exact ok_ret q4
theorem c_rdsumL {fr : NN → Int → Int → Int → Option (Int × NN)} {dep : Int} {d : Nat} {elm : Nat → Nat → PR} {N : NN} {t z : Nat} (hn : n ≤ 400) (hb : ∀ j, j < n → 0 ≤ tp j ∧ tp j ≤ 255) (hX : XOK X) (hA : KAc N tp n)
    (hel : ∀ (N : NN) (t np z : Nat), KAc N tp n → CSt N tp n ord t np z → z < t → Ok (f_X5_term fr X N dep) (PCq W tp n ord N t z d false (elm t np))) :
    ∀ (f i : Nat) (M : NN) (t1 np1 z1 : Nat) (D : Den), f + i = 400 → Fr frRd N M → CSt M tp n ord t1 np1 z1 → Seg W (M 22) (M 23) z z1 (d + 1) D → (∀ k, k < z → M 22 k = N 22 k ∧ M 23 k = N 23 k) → t < t1 → z1 + t ≤ z + t1 → DBd D → tkS tp n (t1 - 1) < n →
    Ok (lp (fun s => b_X5_sum_8 fr X s.1 s.2.1 s.2.2.1 s.2.2.2) (M, dep, 1, (i : Int))) (fun o => PCq W tp n ord N t z (d + 1) false (pSmL (kdT tp n) elm f t1 np1 D) (o.2, o.1)) := by
  intro f
  induction f with
  | zero =>
    intro i M t1 np1 z1 D hfi hf hC hS hk h1 h2 hD hl
    rw [lp_end (t := (M, 1)) (by dsimp only; unfold b_X5_sum_8; rw [if_neg (by omega)])]
    exact ok_ret (pcq_j hf hC hS hk h1 h2 (by rw [if_neg (by decide)]; exact hD) hl)
  | succ f ih =>
    intro i M t1 np1 z1 D hfi hf hC hS hk h1 h2 hD hl
    have hAM := kac_fr hA hf
    have hz1 := hC.2.2.2.2.2.2.1
    rw [pSmL]
    by_cases c : tkK tp n t1 = 43 ∨ tkK tp n t1 = 45
    case neg =>
      rw [if_neg (show ¬ (kdT tp n t1 = 43 ∨ kdT tp n t1 = 45) from c)]
      rw [lp_end (t := (M, 1)) (by dsimp only; unfold b_X5_sum_8; rw [if_pos (by omega), if_neg (by omega), hC.2.1, if_neg (show ¬ tkK tp n t1 = 43 by omega), if_neg (show ¬ tkK tp n t1 = 45 by omega)])]
      exact ok_ret (pcq_j hf hC hS hk h1 h2 (by rw [if_neg (by decide)]; exact hD) hl)
    rw [if_pos (show kdT tp n t1 = 43 ∨ kdT tp n t1 = 45 from c)]
    obtain ⟨a, ha⟩ : ∃ a : Int, a = (if tkK tp n t1 = 43 then 2 else 3) := ⟨_, rfl⟩
    have ha' : (if kdT tp n t1 = 43 then 2 else 3 : Int) = a := ha.symm
    rw [ha']
    have ab : 2 ≤ a ∧ a ≤ 9 := by
      rw [ha]
      split
      · omega
      · omega
    obtain ⟨ad, C2⟩ := c_advance hn hb hAM hC (by omega)
    obtain ⟨M2, hM2⟩ : ∃ M2, M2 = m_up (m_up M 16 9 ((t1 : Int) + 1)) 16 10 (tkK tp n (t1 + 1)) := ⟨_, rfl⟩
    rw [← hM2] at ad C2
    have f2 : Fr frRd M M2 := by rw [hM2]; exact fr_adv
    have s2 : ∀ k, M2 22 k = M 22 k ∧ M2 23 k = M 23 k := fun k => by rw [hM2, up_o (by omega), up_o (by omega), up_o (by omega), up_o (by omega)]; exact ⟨rfl, rfl⟩
    have lt1' : tkS tp n t1 < n := Classical.byContradiction fun q => by have := (tk_end hb t1).2 q; omega
    have BB : b_X5_sum_8 fr X M dep 1 (i : Int) = f_X5_sum_l8_j51 fr X M dep (i : Int) a := by
      unfold b_X5_sum_8 f_X5_sum_l8_j37
      rw [if_pos (by omega), if_neg (by omega), hC.2.1]
      by_cases e1 : tkK tp n t1 = 43
      · rw [if_pos e1, if_pos e1, ha, if_pos e1]
      rw [if_neg e1, if_neg e1, ha, if_neg e1]
      rw [if_pos (show tkK tp n t1 = 45 by omega)]
    have hE := hel M2 (t1 + 1) np1 z1 (kac_fr hAM f2) C2 (by omega)
    obtain ⟨⟨v, M3⟩, e3, q3⟩ := hE
    cases hr : elm (t1 + 1) np1 with
    | inl x =>
      rw [hr] at q3
      obtain ⟨v0, q1, q2, q4, q5⟩ := pcq_0 q3
      dsimp only at v0 q1 q2 q4 q5
      subst v0
      obtain ⟨w, M4, e4, ⟨g1, g2, g3, g4⟩, _⟩ := c_addF (X := X) (a := a) (b := 0) hX q2 q4
      have B2 : b_X5_sum_8 fr X M dep 1 (i : Int) = some (.inl (M4, dep, 0, (i : Int) + 1)) := by
        rw [BB]
        unfold f_X5_sum_l8_j51
        rw [ad, Option.bind_some, e3, Option.bind_some]
        dsimp only
        rw [e4, Option.bind_some, w_id (by omega) (by omega)]
      rw [lp_next (f := fun s => b_X5_sum_8 fr X s.1 s.2.1 s.2.2.1 s.2.2.2) (s := (M, dep, 1, (i : Int))) (s' := (M4, dep, 0, (i : Int) + 1)) B2]
      have B3 : b_X5_sum_8 fr X M4 dep 0 ((i : Int) + 1) = some (.inr (M4, 0)) := by
        unfold b_X5_sum_8
        by_cases z : (i : Int) + 1 < 400
        · rw [if_pos z, if_pos rfl]
        · rw [if_neg z]
      rw [lp_end (f := fun s => b_X5_sum_8 fr X s.1 s.2.1 s.2.2.1 s.2.2.2) (s := (M4, dep, 0, (i : Int) + 1)) (t := (M4, 0)) B3]
      exact ok_ret (pcq_i (g1.trans q1) g2 g3 (fr_tr hf (fr_tr f2 (fr_tr q5 g4))))
    | inr q =>
      rw [hr] at q3
      obtain ⟨v1, q5, z2, C3, S3, k3, l3, l4, b3, l5⟩ := pcq_1 q3
      dsimp only at v1 q5 C3 S3 k3
      subst v1
      rw [if_neg (by decide)] at b3
      obtain ⟨M4, e4, C4, a22, a23, ao, fo⟩ := c_addS (a := a) (b := 0) hn hX C3 (by omega)
      have B2 : b_X5_sum_8 fr X M dep 1 (i : Int) = some (.inl (M4, dep, 1, (i : Int) + 1)) := by
        rw [BB]
        unfold f_X5_sum_l8_j51
        rw [ad, Option.bind_some, e3, Option.bind_some]
        dsimp only
        rw [e4, Option.bind_some, w_id (by omega) (by omega)]
      rw [lp_next (f := fun s => b_X5_sum_8 fr X s.1 s.2.1 s.2.2.1 s.2.2.2) (s := (M, dep, 1, (i : Int))) (s' := (M4, dep, 1, (i : Int) + 1)) B2]
      have Sa : Seg W (M4 22) (M4 23) z z1 (d + 1) D := seg_c hS fun k k1 k2 => by
        have p1 := ao k (by have := S3.1; omega)
        have p2 := k3 k (by omega)
        have p3 := s2 k
        exact ⟨p1.1.trans (p2.1.trans p3.1), p1.2.trans (p2.2.trans p3.2)⟩
      have Sb : Seg W (M4 22) (M4 23) z1 z2 d q.2.2 := seg_c S3 fun k k1 k2 => ao k (by omega)
      have R := ih (i + 1) M4 q.1 q.2.1 (z2 + 1) (dBin a D q.2.2) (by omega) (fr_tr hf (fr_tr f2 (fr_tr q5 fo))) C4 (seg_bin Sa Sb a22 ab.1 ab.2 (Nat.le_refl _) (Nat.le_refl _)) (fun k hk' => by
        have p1 := ao k (by have := S3.1; have := hS.1; omega)
        have p2 := k3 k (by have := hS.1; omega)
        have p3 := s2 k
        have p4 := hk k hk'
        exact ⟨p1.1.trans (p2.1.trans (p3.1.trans p4.1)), p1.2.trans (p2.2.trans (p3.2.trans p4.2))⟩) (by omega) (by omega) dbd_bin l5
      rw [show ((i + 1 : Nat) : Int) = (i : Int) + 1 by omega] at R
      exact R
theorem c_rdsum {fr : NN → Int → Int → Int → Option (Int × NN)} {dep : Int} {d : Nat} {elm : Nat → Nat → PR} {N : NN} {t np z : Nat} (hn : n ≤ 400) (hb : ∀ j, j < n → 0 ≤ tp j ∧ tp j ≤ 255) (hX : XOK X) (hA : KAc N tp n)
    (hel : ∀ (N : NN) (t np z : Nat), KAc N tp n → CSt N tp n ord t np z → z < t → Ok (f_X5_term fr X N dep) (PCq W tp n ord N t z d false (elm t np))) (h : CSt N tp n ord t np z) (hzt : z < t) : Ok (f_X5_sum fr X N dep) (PCq W tp n ord N t z (d + 1) false (pSm' (kdT tp n) elm t np)) := by
  unfold f_X5_sum pSm'
  obtain ⟨⟨v, M⟩, e3, q3⟩ := hel N t np z hA h hzt
  rw [e3, Option.bind_some]
  cases hr : elm t np with
  | inl x =>
    rw [hr] at q3
    obtain ⟨v0, q1, q2, q4, q5⟩ := pcq_0 q3
    dsimp only at v0 q1 q2 q4 q5 ⊢
    subst v0
    rw [lp_end (t := (M, 0)) (by dsimp only; unfold b_X5_sum_8; rw [if_pos (by omega), if_pos rfl]), Option.bind_some]
    dsimp only
    rw [if_pos (by omega)]
    exact ok_ret (pcq_i q1 q2 q4 q5)
  | inr q =>
    rw [hr] at q3
    obtain ⟨v1, q5, z2, C3, S3, k3, l3, l4, b3, l5⟩ := pcq_1 q3
    dsimp only at v1 q5 C3 S3 k3 ⊢
    subst v1
    rw [if_neg (by decide)] at b3
    have R := c_rdsumL hn hb hX hA hel 400 0 M q.1 q.2.1 z2 q.2.2 rfl q5 C3 (seg_d S3 (by omega)) k3 l3 l4 b3 l5
    obtain ⟨⟨M4, v4⟩, e4, q4⟩ := R
    rw [show ((0 : Nat) : Int) = 0 from rfl] at e4
    rw [e4, Option.bind_some]
    dsimp only at q4 ⊢
    have hv : 0 ≤ v4 ∧ v4 ≤ 1 := by
      cases hz : pSmL (kdT tp n) elm 400 q.1 q.2.1 q.2.2 with
      | inl x => rw [hz] at q4; have := (pcq_0 q4).1; dsimp only at this; omega
      | inr x => rw [hz] at q4; have := (pcq_1 q4).1; dsimp only at this; omega
    rw [if_pos hv]
    exact ok_ret q4
theorem c_rdbothL {fr : NN → Int → Int → Int → Option (Int × NN)} {dep : Int} {d : Nat} {elm : Nat → Nat → PR} {N : NN} {t z : Nat} (hn : n ≤ 400) (hb : ∀ j, j < n → 0 ≤ tp j ∧ tp j ≤ 255) (hX : XOK X) (hzt : z < t) (hA : KAc N tp n)
    (hel : ∀ (N : NN) (t np z : Nat), KAc N tp n → CSt N tp n ord t np z → z < t → Ok (f_X5_plain fr X N dep) (PCq W tp n ord N t z d true (elm t np))) :
    ∀ (f i : Nat) (M : NN) (t1 np1 z1 : Nat) (D : Den), f + i = 400 → Fr frRd N M → CSt M tp n ord t1 np1 z1 → Seg W (M 22) (M 23) z z1 d D → (∀ k, k < z → M 22 k = N 22 k ∧ M 23 k = N 23 k) → t < t1 → z1 + t ≤ z + t1 → DBo D → tkS tp n (t1 - 1) < n →
    Ok (lp (fun s => b_X5_both_8 fr X s.1 s.2.1 s.2.2.1 s.2.2.2) (M, dep, 1, (i : Int))) (fun o => PCq W tp n ord N t z d true (pJmL (kdT tp n) 261 dAnd elm f t1 np1 D) (o.2, o.1)) := by
  intro f
  induction f with
  | zero =>
    intro i M t1 np1 z1 D hfi hf hC hS hk h1 h2 hD hl
    rw [lp_end (t := (M, 1)) (by dsimp only; unfold b_X5_both_8; rw [if_neg (by omega)])]
    exact ok_ret (pcq_j hf hC hS hk h1 h2 (by rw [if_pos rfl]; exact hD) hl)
  | succ f ih =>
    intro i M t1 np1 z1 D hfi hf hC hS hk h1 h2 hD hl
    have hAM := kac_fr hA hf
    have hz1 := hC.2.2.2.2.2.2.1
    rw [pJmL]
    by_cases c : tkK tp n t1 = 261
    case neg =>
      rw [if_neg (show ¬ kdT tp n t1 = 261 from c)]
      rw [lp_end (t := (M, 1)) (by dsimp only; unfold b_X5_both_8; rw [if_pos (by omega), if_neg (by omega), hC.2.1, if_neg c])]
      exact ok_ret (pcq_j hf hC hS hk h1 h2 (by rw [if_pos rfl]; exact hD) hl)
    rw [if_pos (show kdT tp n t1 = 261 from c)]
    have lt1' : tkS tp n t1 < n := Classical.byContradiction fun q => by have := (tk_end hb t1).2 q; omega
    have hlz := hS.1
    obtain ⟨M1, e1, C1, b22, b23, bo, f1⟩ := c_addS (a := 11) (b := 0) hn hX (show CSt M tp n ord t1 np1 z1 from hC) (show z1 < t1 by omega)
    have A1 := kac_fr hAM f1
    obtain ⟨ad, C2⟩ := c_advance hn hb A1 C1 (by omega)
    obtain ⟨M2, hM2⟩ : ∃ M2, M2 = m_up (m_up M1 16 9 ((t1 : Int) + 1)) 16 10 (tkK tp n (t1 + 1)) := ⟨_, rfl⟩
    rw [← hM2] at ad C2
    have f2 : Fr frRd M1 M2 := by rw [hM2]; exact fr_adv
    have s2 : ∀ k, M2 22 k = M1 22 k ∧ M2 23 k = M1 23 k := fun k => by rw [hM2, up_o (by omega), up_o (by omega), up_o (by omega), up_o (by omega)]; exact ⟨rfl, rfl⟩
    have BB : b_X5_both_8 fr X M dep 1 (i : Int) = Option.bind (f_X5_plain fr X M2 dep) (fun o4 => Option.bind (f_X8_landHere X 21 o4.2 (z1 : Int)) (fun o5 => some (.inl (o5, dep, o4.1, (i : Int) + 1)))) := by
      unfold b_X5_both_8
      rw [if_pos (by omega), if_neg (by omega), hC.2.1, if_pos c, e1, Option.bind_some]
      dsimp only
      rw [ad, Option.bind_some, w_id (by omega) (by omega)]
    obtain ⟨⟨v, M3⟩, e3, q3⟩ := hel M2 (t1 + 1) np1 (z1 + 1) (kac_fr A1 f2) C2 (by omega)
    cases hr : elm (t1 + 1) np1 with
    | inl x =>
      rw [hr] at q3
      obtain ⟨v0, q1, q2, q4, q5⟩ := pcq_0 q3
      dsimp only at v0 q1 q2 q4 q5
      subst v0
      obtain ⟨M4, e4, g1, g2, g3, g4⟩ := c_landF (X := X) (a := (z1 : Int)) hX q2 q4
      have B2 : b_X5_both_8 fr X M dep 1 (i : Int) = some (.inl (M4, dep, 0, (i : Int) + 1)) := by
        rw [BB, e3, Option.bind_some]
        dsimp only
        rw [e4, Option.bind_some]
      rw [lp_next (f := fun s => b_X5_both_8 fr X s.1 s.2.1 s.2.2.1 s.2.2.2) (s := (M, dep, 1, (i : Int))) (s' := (M4, dep, 0, (i : Int) + 1)) B2]
      have B3 : b_X5_both_8 fr X M4 dep 0 ((i : Int) + 1) = some (.inr (M4, 0)) := by
        unfold b_X5_both_8
        by_cases z : (i : Int) + 1 < 400
        · rw [if_pos z, if_pos rfl]
        · rw [if_neg z]
      rw [lp_end (f := fun s => b_X5_both_8 fr X s.1 s.2.1 s.2.2.1 s.2.2.2) (s := (M4, dep, 0, (i : Int) + 1)) (t := (M4, 0)) B3]
      exact ok_ret (pcq_i (g1.trans q1) g2 g3 (fr_tr hf (fr_tr f1 (fr_tr f2 (fr_tr q5 g4)))))
    | inr q =>
      rw [hr] at q3
      obtain ⟨v1, q5, z2, C3, S3, k3, l3, l4, b3, l5⟩ := pcq_1 q3
      dsimp only at v1 q5 C3 S3 k3
      subst v1
      rw [if_pos rfl] at b3
      have l3' := kak_le hn C3.2.2.2.2.2.1
      have z2b := C3.2.2.2.2.2.2.1
      have e2 : (((xK X (21 + 2)).2 : Nat) : Int) = 400 := by rw [hX.2.2.2.2.2.2.1]; rfl
      have sz := S3.1
      have e4 : f_X8_landHere X 21 M3 (z1 : Int) = some (m_up M3 23 z1 (z2 : Int)) := by
        unfold f_X8_landHere
        rw [if_neg (by omega), C3.2.2.2.2.1, if_pos (by omega), e2, if_pos (by omega), Int.toNat_natCast]
      have B2 : b_X5_both_8 fr X M dep 1 (i : Int) = some (.inl (m_up M3 23 z1 (z2 : Int), dep, 1, (i : Int) + 1)) := by
        rw [BB, e3, Option.bind_some]
        dsimp only
        rw [e4, Option.bind_some]
      rw [lp_next (f := fun s => b_X5_both_8 fr X s.1 s.2.1 s.2.2.1 s.2.2.2) (s := (M, dep, 1, (i : Int))) (s' := (m_up M3 23 z1 (z2 : Int), dep, 1, (i : Int) + 1)) B2]
      have old : ∀ k, k ≤ z1 → M3 22 k = M1 22 k ∧ M3 23 k = M1 23 k := fun k hk' => by
        have p2 := k3 k (by omega)
        have p3 := s2 k
        exact ⟨p2.1.trans p3.1, p2.2.trans p3.2⟩
      have Sa : Seg W ((m_up M3 23 z1 (z2 : Int)) 22) ((m_up M3 23 z1 (z2 : Int)) 23) z z1 d D := seg_c hS fun k k1 k2 => by
        have p1 := bo k (by omega)
        have p2 := old k (by omega)
        exact ⟨by rw [up_o (by omega)]; exact p2.1.trans p1.1, by rw [up_k (by omega)]; exact p2.2.trans p1.2⟩
      have Sb : Seg W ((m_up M3 23 z1 (z2 : Int)) 22) ((m_up M3 23 z1 (z2 : Int)) 23) (z1 + 1) z2 d q.2.2 := seg_c S3 fun k k1 k2 => ⟨up_o (by omega), up_k (by omega)⟩
      have aq : (m_up M3 23 z1 (z2 : Int)) 22 z1 = 11 := by rw [up_o (by omega)]; exact (old z1 (Nat.le_refl _)).1.trans b22
      have R := ih (i + 1) (m_up M3 23 z1 (z2 : Int)) q.1 q.2.1 z2 (dAnd D q.2.2) (by omega) (fr_up (fr_tr hf (fr_tr f1 (fr_tr f2 q5))) (by unfold frRd; omega)) (cst_ff C3 (up_o (by omega)) (up_o (by omega)) (up_o (by omega)) (up_o (by omega)) (up_o (by omega)) (up_o (by omega))) (by
        have J := seg_jmp (d := d) Sa hD Sb aq (by omega) up_s (Nat.le_refl _) (Nat.le_refl _)
        rw [if_neg (by omega)] at J
        exact J) (fun k hk' => by
        have p1 := bo k (by omega)
        have p2 := old k (by omega)
        have p4 := hk k hk'
        exact ⟨by rw [up_o (by omega)]; exact p2.1.trans (p1.1.trans p4.1), by rw [up_k (by omega)]; exact p2.2.trans (p1.2.trans p4.2)⟩) (by omega) (by omega) (dbo_and b3) l5
      rw [show ((i + 1 : Nat) : Int) = (i : Int) + 1 by omega] at R
      exact R
theorem c_rdboth {fr : NN → Int → Int → Int → Option (Int × NN)} {dep : Int} {d : Nat} {elm : Nat → Nat → PR} {N : NN} {t np z : Nat} (hn : n ≤ 400) (hb : ∀ j, j < n → 0 ≤ tp j ∧ tp j ≤ 255) (hX : XOK X) (hA : KAc N tp n)
    (hel : ∀ (N : NN) (t np z : Nat), KAc N tp n → CSt N tp n ord t np z → z < t → Ok (f_X5_plain fr X N dep) (PCq W tp n ord N t z d true (elm t np))) (h : CSt N tp n ord t np z) (hzt : z < t) : Ok (f_X5_both fr X N dep) (PCq W tp n ord N t z d true (pJm (kdT tp n) 261 dAnd elm t np)) := by
  unfold f_X5_both pJm
  obtain ⟨⟨v, M⟩, e3, q3⟩ := hel N t np z hA h hzt
  rw [e3, Option.bind_some]
  cases hr : elm t np with
  | inl x =>
    rw [hr] at q3
    obtain ⟨v0, q1, q2, q4, q5⟩ := pcq_0 q3
    dsimp only at v0 q1 q2 q4 q5 ⊢
    subst v0
    rw [lp_end (t := (M, 0)) (by dsimp only; unfold b_X5_both_8; rw [if_pos (by omega), if_pos rfl]), Option.bind_some]
    dsimp only
    rw [if_pos (by omega)]
    exact ok_ret (pcq_i q1 q2 q4 q5)
  | inr q =>
    rw [hr] at q3
    obtain ⟨v1, q5, z2, C3, S3, k3, l3, l4, b3, l5⟩ := pcq_1 q3
    dsimp only at v1 q5 C3 S3 k3 ⊢
    subst v1
    rw [if_pos rfl] at b3
    have R := c_rdbothL hn hb hX hzt hA hel 400 0 M q.1 q.2.1 z2 q.2.2 rfl q5 C3 S3 k3 l3 l4 b3 l5
    obtain ⟨⟨M4, v4⟩, e4, q4⟩ := R
    rw [show ((0 : Nat) : Int) = 0 from rfl] at e4
    rw [e4, Option.bind_some]
    dsimp only at q4 ⊢
    have hv : 0 ≤ v4 ∧ v4 ≤ 1 := by
      cases hz : pJmL (kdT tp n) 261 dAnd elm 400 q.1 q.2.1 q.2.2 with
      | inl x => rw [hz] at q4; have := (pcq_0 q4).1; dsimp only at this; omega
      | inr x => rw [hz] at q4; have := (pcq_1 q4).1; dsimp only at this; omega
    rw [if_pos hv]
    exact ok_ret q4
theorem c_rdtestL {fr : NN → Int → Int → Int → Option (Int × NN)} {dep : Int} {d : Nat} {elm : Nat → Nat → PR} {N : NN} {t z : Nat} (hn : n ≤ 400) (hb : ∀ j, j < n → 0 ≤ tp j ∧ tp j ≤ 255) (hX : XOK X) (hzt : z < t) (hA : KAc N tp n)
    (hel : ∀ (N : NN) (t np z : Nat), KAc N tp n → CSt N tp n ord t np z → z < t → Ok (f_X5_both fr X N dep) (PCq W tp n ord N t z d true (elm t np))) :
    ∀ (f i : Nat) (M : NN) (t1 np1 z1 : Nat) (D : Den), f + i = 400 → Fr frRd N M → CSt M tp n ord t1 np1 z1 → Seg W (M 22) (M 23) z z1 d D → (∀ k, k < z → M 22 k = N 22 k ∧ M 23 k = N 23 k) → t < t1 → z1 + t ≤ z + t1 → DBo D → tkS tp n (t1 - 1) < n →
    Ok (lp (fun s => b_X5_test_8 fr X s.1 s.2.1 s.2.2.1 s.2.2.2) (M, dep, 1, (i : Int))) (fun o => PCq W tp n ord N t z d true (pJmL (kdT tp n) 260 dOr elm f t1 np1 D) (o.2, o.1)) := by
  intro f
  induction f with
  | zero =>
    intro i M t1 np1 z1 D hfi hf hC hS hk h1 h2 hD hl
    rw [lp_end (t := (M, 1)) (by dsimp only; unfold b_X5_test_8; rw [if_neg (by omega)])]
    exact ok_ret (pcq_j hf hC hS hk h1 h2 (by rw [if_pos rfl]; exact hD) hl)
  | succ f ih =>
    intro i M t1 np1 z1 D hfi hf hC hS hk h1 h2 hD hl
    have hAM := kac_fr hA hf
    have hz1 := hC.2.2.2.2.2.2.1
    rw [pJmL]
    by_cases c : tkK tp n t1 = 260
    case neg =>
      rw [if_neg (show ¬ kdT tp n t1 = 260 from c)]
      rw [lp_end (t := (M, 1)) (by dsimp only; unfold b_X5_test_8; rw [if_pos (by omega), if_neg (by omega), hC.2.1, if_neg c])]
      exact ok_ret (pcq_j hf hC hS hk h1 h2 (by rw [if_pos rfl]; exact hD) hl)
    rw [if_pos (show kdT tp n t1 = 260 from c)]
    have lt1' : tkS tp n t1 < n := Classical.byContradiction fun q => by have := (tk_end hb t1).2 q; omega
    have hlz := hS.1
    obtain ⟨M1, e1, C1, b22, b23, bo, f1⟩ := c_addS (a := 12) (b := 0) hn hX (show CSt M tp n ord t1 np1 z1 from hC) (show z1 < t1 by omega)
    have A1 := kac_fr hAM f1
    obtain ⟨ad, C2⟩ := c_advance hn hb A1 C1 (by omega)
    obtain ⟨M2, hM2⟩ : ∃ M2, M2 = m_up (m_up M1 16 9 ((t1 : Int) + 1)) 16 10 (tkK tp n (t1 + 1)) := ⟨_, rfl⟩
    rw [← hM2] at ad C2
    have f2 : Fr frRd M1 M2 := by rw [hM2]; exact fr_adv
    have s2 : ∀ k, M2 22 k = M1 22 k ∧ M2 23 k = M1 23 k := fun k => by rw [hM2, up_o (by omega), up_o (by omega), up_o (by omega), up_o (by omega)]; exact ⟨rfl, rfl⟩
    have BB : b_X5_test_8 fr X M dep 1 (i : Int) = Option.bind (f_X5_both fr X M2 dep) (fun o4 => Option.bind (f_X8_landHere X 21 o4.2 (z1 : Int)) (fun o5 => some (.inl (o5, dep, o4.1, (i : Int) + 1)))) := by
      unfold b_X5_test_8
      rw [if_pos (by omega), if_neg (by omega), hC.2.1, if_pos c, e1, Option.bind_some]
      dsimp only
      rw [ad, Option.bind_some, w_id (by omega) (by omega)]
    obtain ⟨⟨v, M3⟩, e3, q3⟩ := hel M2 (t1 + 1) np1 (z1 + 1) (kac_fr A1 f2) C2 (by omega)
    cases hr : elm (t1 + 1) np1 with
    | inl x =>
      rw [hr] at q3
      obtain ⟨v0, q1, q2, q4, q5⟩ := pcq_0 q3
      dsimp only at v0 q1 q2 q4 q5
      subst v0
      obtain ⟨M4, e4, g1, g2, g3, g4⟩ := c_landF (X := X) (a := (z1 : Int)) hX q2 q4
      have B2 : b_X5_test_8 fr X M dep 1 (i : Int) = some (.inl (M4, dep, 0, (i : Int) + 1)) := by
        rw [BB, e3, Option.bind_some]
        dsimp only
        rw [e4, Option.bind_some]
      rw [lp_next (f := fun s => b_X5_test_8 fr X s.1 s.2.1 s.2.2.1 s.2.2.2) (s := (M, dep, 1, (i : Int))) (s' := (M4, dep, 0, (i : Int) + 1)) B2]
      have B3 : b_X5_test_8 fr X M4 dep 0 ((i : Int) + 1) = some (.inr (M4, 0)) := by
        unfold b_X5_test_8
        by_cases z : (i : Int) + 1 < 400
        · rw [if_pos z, if_pos rfl]
        · rw [if_neg z]
      rw [lp_end (f := fun s => b_X5_test_8 fr X s.1 s.2.1 s.2.2.1 s.2.2.2) (s := (M4, dep, 0, (i : Int) + 1)) (t := (M4, 0)) B3]
      exact ok_ret (pcq_i (g1.trans q1) g2 g3 (fr_tr hf (fr_tr f1 (fr_tr f2 (fr_tr q5 g4)))))
    | inr q =>
      rw [hr] at q3
      obtain ⟨v1, q5, z2, C3, S3, k3, l3, l4, b3, l5⟩ := pcq_1 q3
      dsimp only at v1 q5 C3 S3 k3
      subst v1
      rw [if_pos rfl] at b3
      have l3' := kak_le hn C3.2.2.2.2.2.1
      have z2b := C3.2.2.2.2.2.2.1
      have e2 : (((xK X (21 + 2)).2 : Nat) : Int) = 400 := by rw [hX.2.2.2.2.2.2.1]; rfl
      have sz := S3.1
      have e4 : f_X8_landHere X 21 M3 (z1 : Int) = some (m_up M3 23 z1 (z2 : Int)) := by
        unfold f_X8_landHere
        rw [if_neg (by omega), C3.2.2.2.2.1, if_pos (by omega), e2, if_pos (by omega), Int.toNat_natCast]
      have B2 : b_X5_test_8 fr X M dep 1 (i : Int) = some (.inl (m_up M3 23 z1 (z2 : Int), dep, 1, (i : Int) + 1)) := by
        rw [BB, e3, Option.bind_some]
        dsimp only
        rw [e4, Option.bind_some]
      rw [lp_next (f := fun s => b_X5_test_8 fr X s.1 s.2.1 s.2.2.1 s.2.2.2) (s := (M, dep, 1, (i : Int))) (s' := (m_up M3 23 z1 (z2 : Int), dep, 1, (i : Int) + 1)) B2]
      have old : ∀ k, k ≤ z1 → M3 22 k = M1 22 k ∧ M3 23 k = M1 23 k := fun k hk' => by
        have p2 := k3 k (by omega)
        have p3 := s2 k
        exact ⟨p2.1.trans p3.1, p2.2.trans p3.2⟩
      have Sa : Seg W ((m_up M3 23 z1 (z2 : Int)) 22) ((m_up M3 23 z1 (z2 : Int)) 23) z z1 d D := seg_c hS fun k k1 k2 => by
        have p1 := bo k (by omega)
        have p2 := old k (by omega)
        exact ⟨by rw [up_o (by omega)]; exact p2.1.trans p1.1, by rw [up_k (by omega)]; exact p2.2.trans p1.2⟩
      have Sb : Seg W ((m_up M3 23 z1 (z2 : Int)) 22) ((m_up M3 23 z1 (z2 : Int)) 23) (z1 + 1) z2 d q.2.2 := seg_c S3 fun k k1 k2 => ⟨up_o (by omega), up_k (by omega)⟩
      have aq : (m_up M3 23 z1 (z2 : Int)) 22 z1 = 12 := by rw [up_o (by omega)]; exact (old z1 (Nat.le_refl _)).1.trans b22
      have R := ih (i + 1) (m_up M3 23 z1 (z2 : Int)) q.1 q.2.1 z2 (dOr D q.2.2) (by omega) (fr_up (fr_tr hf (fr_tr f1 (fr_tr f2 q5))) (by unfold frRd; omega)) (cst_ff C3 (up_o (by omega)) (up_o (by omega)) (up_o (by omega)) (up_o (by omega)) (up_o (by omega)) (up_o (by omega))) (by
        have J := seg_jmp (d := d) Sa hD Sb aq (by omega) up_s (Nat.le_refl _) (Nat.le_refl _)
        rw [if_pos rfl] at J
        exact J) (fun k hk' => by
        have p1 := bo k (by omega)
        have p2 := old k (by omega)
        have p4 := hk k hk'
        exact ⟨by rw [up_o (by omega)]; exact p2.1.trans (p1.1.trans p4.1), by rw [up_k (by omega)]; exact p2.2.trans (p1.2.trans p4.2)⟩) (by omega) (by omega) (dbo_or b3) l5
      rw [show ((i + 1 : Nat) : Int) = (i : Int) + 1 by omega] at R
      exact R
theorem c_rdtest {fr : NN → Int → Int → Int → Option (Int × NN)} {dep : Int} {d : Nat} {elm : Nat → Nat → PR} {N : NN} {t np z : Nat} (hn : n ≤ 400) (hb : ∀ j, j < n → 0 ≤ tp j ∧ tp j ≤ 255) (hX : XOK X) (hA : KAc N tp n)
    (hel : ∀ (N : NN) (t np z : Nat), KAc N tp n → CSt N tp n ord t np z → z < t → Ok (f_X5_both fr X N dep) (PCq W tp n ord N t z d true (elm t np))) (h : CSt N tp n ord t np z) (hzt : z < t) : Ok (f_X5_test fr X N dep) (PCq W tp n ord N t z d true (pJm (kdT tp n) 260 dOr elm t np)) := by
  unfold f_X5_test pJm
  obtain ⟨⟨v, M⟩, e3, q3⟩ := hel N t np z hA h hzt
  rw [e3, Option.bind_some]
  cases hr : elm t np with
  | inl x =>
    rw [hr] at q3
    obtain ⟨v0, q1, q2, q4, q5⟩ := pcq_0 q3
    dsimp only at v0 q1 q2 q4 q5 ⊢
    subst v0
    rw [lp_end (t := (M, 0)) (by dsimp only; unfold b_X5_test_8; rw [if_pos (by omega), if_pos rfl]), Option.bind_some]
    dsimp only
    rw [if_pos (by omega)]
    exact ok_ret (pcq_i q1 q2 q4 q5)
  | inr q =>
    rw [hr] at q3
    obtain ⟨v1, q5, z2, C3, S3, k3, l3, l4, b3, l5⟩ := pcq_1 q3
    dsimp only at v1 q5 C3 S3 k3 ⊢
    subst v1
    rw [if_pos rfl] at b3
    have R := c_rdtestL hn hb hX hzt hA hel 400 0 M q.1 q.2.1 z2 q.2.2 rfl q5 C3 S3 k3 l3 l4 b3 l5
    obtain ⟨⟨M4, v4⟩, e4, q4⟩ := R
    rw [show ((0 : Nat) : Int) = 0 from rfl] at e4
    rw [e4, Option.bind_some]
    dsimp only at q4 ⊢
    have hv : 0 ≤ v4 ∧ v4 ≤ 1 := by
      cases hz : pJmL (kdT tp n) 260 dOr elm 400 q.1 q.2.1 q.2.2 with
      | inl x => rw [hz] at q4; have := (pcq_0 q4).1; dsimp only at this; omega
      | inr x => rw [hz] at q4; have := (pcq_1 q4).1; dsimp only at this; omega
    rw [if_pos hv]
    exact ok_ret q4
end CL
