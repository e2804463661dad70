/-! reading: the class's comparisons, PLAIN ones, brackets -/
section CM
variable {X : MX} {tp : Nat → Int} {n : Nat} {ord : Bool} {W : Int}
theorem pcq_d {N : NN} {t z d d' : Nat} {bo : Bool} {r : PR} {o : Int × NN} (h : PCq W tp n ord N t z d bo r o) (hd : d ≤ d') : PCq W tp n ord N t z d' bo r o := by
  cases r with
  | inl f => exact h
  | inr q =>
    obtain ⟨h1, h2, z', h3, h4, h5⟩ := h
    exact ⟨h1, h2, z', h3, seg_d h4 hd, h5⟩
theorem pcq_flag {N : NN} {t z d : Nat} {bo : Bool} {r : PR} {o : Int × NN} (h : PCq W tp n ord N t z d bo r o) : 0 ≤ o.1 ∧ o.1 ≤ 1 := by
  cases r with
  | inl f => have := (pcq_0 h).1; omega
  | inr q => have := (pcq_1 h).1; omega
/-- the same seen from an earlier place, nothing written since -/
theorem pcq_fr {N N1 : NN} {t t1 z d : Nat} {bo : Bool} {r : PR} {o : Int × NN} (h : PCq W tp n ord N1 t1 z d bo r o) (hf : Fr frRd N N1) (hs : ∀ k, N1 22 k = N 22 k ∧ N1 23 k = N 23 k) (ht : t ≤ t1) : PCq W tp n ord N t z d bo r o := by
  cases r with
  | inl f =>
    obtain ⟨v0, q1, q2, q4, q5⟩ := pcq_0 h
    exact ⟨fr_tr hf q5, v0, q1, q2, q4⟩
  | inr q =>
    obtain ⟨v1, q5, z2, C3, S3, k3, l3, l4, b3, l5⟩ := pcq_1 h
    exact ⟨fr_tr hf q5, v1, z2, C3, S3, fun k hk => ⟨(k3 k hk).1.trans (hs k).1, (k3 k hk).2.trans (hs k).2⟩, by omega, by omega, b3, l5⟩
theorem c_rdcmp {fr : NN → Int → Int → Int → Option (Int × NN)} {dep : Int} {d : Nat} {br : Bool → Nat → Nat → PR} {N : NN} {t np z : Nat} (hn : n ≤ 400) (hb : ∀ j, j < n → 0 ≤ tp j ∧ tp j ≤ 255) (hX : XOK X) (hA : KAc N tp n)
    (hsm : ∀ (N : NN) (t np z : Nat), KAc N tp n → CSt N tp n ord t np z → z < t → Ok (f_X5_sum fr X N dep) (PCq W tp n ord N t z d false (pSm (kdT tp n) (nmT tp n) ord br t np))) (h : CSt N tp n ord t np z) (hzt : z < t) : Ok (f_X5_comparison fr X N dep) (PCq W tp n ord N t z (d + 1) true (pCmp (kdT tp n) (nmT tp n) ord br t np)) := by
  unfold f_X5_comparison pCmp
  obtain ⟨⟨v, M⟩, e3, q3⟩ := hsm N t np z hA h hzt
  rw [e3, Option.bind_some]
  cases hr : pSm (kdT tp n) (nmT tp n) ord br t np with
  | inl x =>
    rw [hr] at q3
    obtain ⟨v0, q1, q2, q4, q5⟩ := pcq_0 q3
    dsimp only at v0 q1 q2 q4 q5 ⊢
    subst v0
    rw [if_pos rfl]
    exact ok_ret (pcq_i q1 q2 q4 q5)
  | inr q =>
    rw [hr] at q3
    obtain ⟨v1, q5, z2, C3, S3, k3, l3, l4, b3, l5⟩ := pcq_1 q3
    dsimp only at v1 q5 C3 S3 k3 ⊢
    subst v1
    rw [if_neg (by decide)] at b3
    have A3 := kac_fr hA q5
    have zq : z2 < q.1 := by omega
    rw [if_neg (show ¬ (1 : Int) = 0 by omega)]
    have ck := C3.2.1
    have run : ∀ a : Int, 7 ≤ a → a ≤ 9 → tkK tp n q.1 ≠ -1 → Ok (f_X5_comparison_j61 fr X M dep a) (PCq W tp n ord N t z (d + 1) true (match pSm (kdT tp n) (nmT tp n) ord br (q.1 + 1) q.2.1 with | .inl x => .inl x | .inr p => .inr (p.1, p.2.1, dBin a q.2.2 p.2.2))) := by
      intro a a7 a9 hk
      obtain ⟨ad, C2⟩ := c_advance hn hb A3 C3 hk
      obtain ⟨M2, hM2⟩ : ∃ M2, M2 = m_up (m_up M 16 9 ((q.1 : Int) + 1)) 16 10 (tkK tp n (q.1 + 1)) := ⟨_, rfl⟩
      rw [← hM2] at ad C2
      have f2 : Fr frRd M M2 := by rw [hM2]; exact fr_adv
      have s2 : ∀ k, M2 22 k = M 22 k ∧ M2 23 k = M 23 k := fun k => by rw [hM2, up_o (by omega), up_o (by omega), up_o (by omega), up_o (by omega)]; exact ⟨rfl, rfl⟩
      unfold f_X5_comparison_j61
      rw [ad, Option.bind_some]
      obtain ⟨⟨v', M5⟩, e5, p3⟩ := hsm M2 (q.1 + 1) q.2.1 z2 (kac_fr A3 f2) C2 (by omega)
      rw [e5, Option.bind_some]
      cases hp : pSm (kdT tp n) (nmT tp n) ord br (q.1 + 1) q.2.1 with
      | inl x =>
        rw [hp] at p3
        obtain ⟨v0, g1, g2, g4, g5⟩ := pcq_0 p3
        dsimp only at v0 g1 g2 g4 g5 ⊢
        subst v0
        obtain ⟨w, M6, e6, ⟨y1, y2, y3, y4⟩, _⟩ := c_addF (X := X) (a := a) (b := 0) hX g2 g4
        rw [e6, Option.bind_some, if_pos (by omega)]
        exact ok_ret (pcq_i (y1.trans g1) y2 y3 (fr_tr q5 (fr_tr f2 (fr_tr g5 y4))))
      | inr p =>
        rw [hp] at p3
        obtain ⟨v1, p5, z4, C5, S5, k5, m3, m4, b5, m5⟩ := pcq_1 p3
        dsimp only at v1 p5 C5 S5 k5 ⊢
        subst v1
        obtain ⟨M6, e6, C6, a22, a23, ao, fo⟩ := c_addS (a := a) (b := 0) hn hX C5 (by omega)
        rw [e6, Option.bind_some, if_pos (by omega)]
        have Sa : Seg W (M6 22) (M6 23) z z2 (d + 1) q.2.2 := seg_d (seg_c S3 fun k k1 k2 => by
          have p1 := ao k (by have := S5.1; omega)
          have p2 := k5 k (by omega)
          have p4 := s2 k
          exact ⟨p1.1.trans (p2.1.trans p4.1), p1.2.trans (p2.2.trans p4.2)⟩) (by omega)
        have Sb : Seg W (M6 22) (M6 23) z2 z4 d p.2.2 := seg_c S5 fun k k1 k2 => ao k (by omega)
        refine ok_ret (pcq_j (fr_tr q5 (fr_tr f2 (fr_tr p5 fo))) C6 (seg_bin Sa Sb a22 (by omega) a9 (Nat.le_refl _) (Nat.le_refl _)) (fun k hk' => ?_) (by dsimp only; omega) (by dsimp only; omega) (by rw [if_pos rfl]; exact dbo_bin a7) m5)
        have p1 := ao k (by have := S5.1; have := S3.1; omega)
        have p2 := k5 k (by have := S3.1; omega)
        have p4 := s2 k
        have p6 := k3 k hk'
        exact ⟨p1.1.trans (p2.1.trans (p4.1.trans p6.1)), p1.2.trans (p2.2.trans (p4.2.trans p6.2))⟩
    by_cases c1 : tkK tp n q.1 = 60
    · rw [if_pos (show M 16 10 = 60 by rw [ck]; exact c1), if_pos (show kdT tp n q.1 = 60 ∨ kdT tp n q.1 = 62 ∨ kdT tp n q.1 = 61 from Or.inl c1), if_pos (show kdT tp n q.1 = 60 from c1)]
      unfold f_X5_comparison_j40
      rw [if_neg (by omega)]
      exact run 7 (by omega) (by omega) (by omega)
    rw [if_neg (show ¬ M 16 10 = 60 by rw [ck]; exact c1)]
    by_cases c2 : tkK tp n q.1 = 62
    · rw [if_pos (show M 16 10 = 62 by rw [ck]; exact c2), if_pos (show kdT tp n q.1 = 60 ∨ kdT tp n q.1 = 62 ∨ kdT tp n q.1 = 61 from Or.inr (Or.inl c2)), if_neg (show ¬ kdT tp n q.1 = 60 from c1), if_pos (show kdT tp n q.1 = 62 from c2)]
      unfold f_X5_comparison_j40
      rw [if_neg (by omega)]
      exact run 8 (by omega) (by omega) (by omega)
    rw [if_neg (show ¬ M 16 10 = 62 by rw [ck]; exact c2)]
    unfold f_X5_comparison_j40
    rw [if_pos rfl]
    by_cases c3 : tkK tp n q.1 = 61
    · rw [if_pos (show M 16 10 = 61 by rw [ck]; exact c3), if_pos (show kdT tp n q.1 = 60 ∨ kdT tp n q.1 = 62 ∨ kdT tp n q.1 = 61 from Or.inr (Or.inr c3)), if_neg (show ¬ kdT tp n q.1 = 60 from c1), if_neg (show ¬ kdT tp n q.1 = 62 from c2)]
      exact run 9 (by omega) (by omega) (by omega)
    · rw [if_neg (show ¬ M 16 10 = 61 by rw [ck]; exact c3), if_neg (show ¬ (kdT tp n q.1 = 60 ∨ kdT tp n q.1 = 62 ∨ kdT tp n q.1 = 61) from fun z => by rcases z with z | z | z; exact c1 z; exact c2 z; exact c3 z)]
      rw [c_wrong hn A3 C3, Option.bind_some, if_pos (by omega)]
      exact ok_ret (c_wrongP hn C3 q5)
theorem pNt_le {kd : Nat → Int} : ∀ f t, t ≤ pNt kd f t
  | 0, t => Nat.le_refl _
  | f + 1, t => by
    rw [pNt]
    split
    · have := pNt_le (kd := kd) f (t + 1); omega
    · exact Nat.le_refl _
theorem c_nots {fr : NN → Int → Int → Int → Option (Int × NN)} {dep : Int} (hn : n ≤ 400) (hb : ∀ j, j < n → 0 ≤ tp j ∧ tp j ≤ 255) : ∀ (f i : Nat) (N : NN) (t np z : Nat) (b : Int), f + i = 400 → KAc N tp n → CSt N tp n ord t np z → (b = 0 ∨ b = 1) →
    Ok (lp (fun s => b_X5_plain_4 fr X s.1 s.2.1 s.2.2.1 s.2.2.2) (N, dep, b, (i : Int))) (fun o => ∃ M, o = (M, dep, if (pNt (kdT tp n) f t - t) % 2 = 1 then 1 - b else b) ∧ CSt M tp n ord (pNt (kdT tp n) f t) np z ∧ Fr frRd N M ∧ (∀ k, M 22 k = N 22 k ∧ M 23 k = N 23 k) ∧ (t < pNt (kdT tp n) f t → tkS tp n (pNt (kdT tp n) f t - 1) < n))
  | 0, i, N, t, np, z, b, hfi, hA, h, hbb => by
    rw [lp_end (t := (N, dep, b)) (by dsimp only; unfold b_X5_plain_4; rw [if_neg (by omega)])]
    exact ok_ret ⟨N, by rw [pNt, Nat.sub_self]; rfl, h, fr_rfl, fun k => ⟨rfl, rfl⟩, fun z => by rw [pNt] at z; omega⟩
  | f + 1, i, N, t, np, z, b, hfi, hA, h, hbb => by
    rw [pNt]
    by_cases c : tkK tp n t = 262
    case neg =>
      rw [if_neg (show ¬ kdT tp n t = 262 from c)]
      rw [lp_end (t := (N, dep, b)) (by dsimp only; unfold b_X5_plain_4; rw [if_pos (by omega), h.2.1, if_neg c])]
      exact ok_ret ⟨N, by rw [Nat.sub_self]; rfl, h, fr_rfl, fun k => ⟨rfl, rfl⟩, fun z => by omega⟩
    rw [if_pos (show kdT tp n t = 262 from c)]
    obtain ⟨ad, C2⟩ := c_advance hn hb hA h (by omega)
    obtain ⟨M2, hM2⟩ : ∃ M2, M2 = m_up (m_up N 16 9 ((t : Int) + 1)) 16 10 (tkK tp n (t + 1)) := ⟨_, rfl⟩
    rw [← hM2] at ad C2
    have f2 : Fr frRd N M2 := by rw [hM2]; exact fr_adv
    have s2 : ∀ k, M2 22 k = N 22 k ∧ M2 23 k = N 23 k := fun k => by rw [hM2, up_o (by omega), up_o (by omega), up_o (by omega), up_o (by omega)]; exact ⟨rfl, rfl⟩
    have B2 : b_X5_plain_4 fr X N dep b (i : Int) = some (.inl (M2, dep, 1 - b, (i : Int) + 1)) := by
      unfold b_X5_plain_4 f_X5_plain_l4_j30
      rw [if_pos (by omega), h.2.1, if_pos c, ad, Option.bind_some, Option.bind_some, w_id (by omega) (by omega)]
      rcases hbb with e | e
      · rw [if_pos e, e]; rfl
      · rw [if_neg (by omega), e]; rfl
    rw [lp_next (f := fun s => b_X5_plain_4 fr X s.1 s.2.1 s.2.2.1 s.2.2.2) (s := (N, dep, b, (i : Int))) (s' := (M2, dep, 1 - b, (i : Int) + 1)) B2]
    have R := c_nots hn hb f (i + 1) M2 (t + 1) np z (1 - b) (by omega) (kac_fr hA f2) C2 (by omega) (fr := fr) (dep := dep)
    rw [show ((i + 1 : Nat) : Int) = (i : Int) + 1 by omega] at R
    have le := pNt_le (kd := kdT tp n) f (t + 1)
    refine ok_mono R ?_
    rintro o ⟨M, rfl, g1, g2, g3, g4⟩
    refine ⟨M, ?_, g1, fr_tr f2 g2, fun k => ⟨(g3 k).1.trans (s2 k).1, (g3 k).2.trans (s2 k).2⟩, fun _ => ?_⟩
    · have ee : (if (pNt (kdT tp n) f (t + 1) - (t + 1)) % 2 = 1 then 1 - (1 - b) else 1 - b) = (if (pNt (kdT tp n) f (t + 1) - t) % 2 = 1 then 1 - b else b) := by
        by_cases p : (pNt (kdT tp n) f (t + 1) - (t + 1)) % 2 = 1
        · rw [if_pos p, if_neg (show ¬ (pNt (kdT tp n) f (t + 1) - t) % 2 = 1 by omega)]; omega
        · rw [if_neg p, if_pos (show (pNt (kdT tp n) f (t + 1) - t) % 2 = 1 by omega)]
      rw [ee]
    · by_cases e : t + 1 < pNt (kdT tp n) f (t + 1)
      · exact g4 e
      · rw [show pNt (kdT tp n) f (t + 1) = t + 1 by omega, Nat.add_sub_cancel]
        exact Classical.byContradiction fun q => by have := (tk_end hb t).2 q; omega
theorem c_rdplain {fr : NN → Int → Int → Int → Option (Int × NN)} {dep : Int} {d : Nat} {br : Bool → Nat → Nat → PR} {N : NN} {t np z : Nat} (hn : n ≤ 400) (hb : ∀ j, j < n → 0 ≤ tp j ∧ tp j ≤ 255) (hX : XOK X) (hA : KAc N tp n)
    (hcm : ∀ (N : NN) (t np z : Nat), KAc N tp n → CSt N tp n ord t np z → z < t → Ok (f_X5_comparison fr X N dep) (PCq W tp n ord N t z d true (pCmp (kdT tp n) (nmT tp n) ord br t np))) (hbr : HBr X tp n ord W fr dep d br) (h : CSt N tp n ord t np z) (hzt : z < t) : Ok (f_X5_plain fr X N dep) (PCq W tp n ord N t z d true (pPl (kdT tp n) (nmT tp n) ord br t np)) := by
  unfold f_X5_plain pPl
  obtain ⟨o1, e1, M, rfl, C1, f1, s1, g4⟩ := c_nots (X := X) (fr := fr) (dep := dep) hn hb 400 0 N t np z 0 rfl hA h (Or.inl rfl)
  rw [show ((0 : Nat) : Int) = 0 from rfl] at e1
  rw [e1, Option.bind_some]
  dsimp only
  have le := pNt_le (kd := kdT tp n) 400 t
  obtain ⟨t1, ht1⟩ : ∃ t1, t1 = pNt (kdT tp n) 400 t := ⟨_, rfl⟩
  rw [← ht1] at C1 g4 le ⊢
  have A1 := kac_fr hA f1
  obtain ⟨tb, htb⟩ : ∃ tb : Int, tb = (if (t1 - t) % 2 = 1 then 1 - 0 else 0) := ⟨_, rfl⟩
  rw [← htb]
  have fin : ∀ (r : PR) (o : Int × NN), PCq W tp n ord M t1 z d true r o → Ok (f_X5_plain_j67 fr X o.2 tb o.1) (PCq W tp n ord N t z d true (match r with | .inl x => .inl x | .inr q => .inr (q.1, q.2.1, if (t1 - t) % 2 = 1 then dNot q.2.2 else q.2.2))) := by
    intro r o hq
    have hq' := pcq_fr hq f1 s1 le
    obtain ⟨v, M3⟩ := o
    unfold f_X5_plain_j67 f_X5_plain_j87
    cases r with
    | inl x =>
      obtain ⟨v0, q1, q2, q4, q5⟩ := pcq_0 hq'
      dsimp only at v0 q1 q2 q4 q5 ⊢
      subst v0
      rw [if_pos rfl, if_pos (by omega)]
      exact ok_ret (pcq_i q1 q2 q4 q5)
    | inr q =>
      obtain ⟨v1, q5, z2, C3, S3, k3, l3, l4, b3, l5⟩ := pcq_1 hq
      have k3' := (pcq_1 hq').2.2
      obtain ⟨_, q5', z2', C3', S3', kk, _, _, _, _⟩ := pcq_1 hq'
      dsimp only at v1 q5 C3 S3 k3 q5' kk ⊢
      subst v1
      rw [if_pos rfl] at b3
      rw [if_neg (show ¬ (1 : Int) = 0 by omega), if_pos (show (0 : Int) ≤ 1 ∧ (1 : Int) ≤ 1 by omega)]
      by_cases p : (t1 - t) % 2 = 1
      · rw [if_pos p] at htb
        rw [if_neg (show ¬ tb = 0 by omega), if_pos p]
        obtain ⟨M4, e4, C4, a22, a23, ao, fo⟩ := c_addS (a := 10) (b := 0) hn hX C3 (by omega)
        rw [e4, Option.bind_some, if_pos (by omega)]
        have Sa : Seg W (M4 22) (M4 23) z z2 d q.2.2 := seg_c S3 fun k k1 k2 => ao k (by omega)
        refine ok_ret (pcq_j (fr_tr q5' fo) C4 (seg_not Sa b3 a22) (fun k hk => ?_) (by dsimp only; omega) (by dsimp only; omega) (by rw [if_pos rfl]; exact dbo_not b3) l5)
        have p1 := ao k (by have := S3.1; omega)
        have p2 := kk k hk
        exact ⟨p1.1.trans p2.1, p1.2.trans p2.2⟩
      · rw [if_neg p] at htb
        rw [if_pos htb, if_neg p]
        exact ok_ret (pcq_j q5' C3 S3 kk (by dsimp only; omega) (by dsimp only; omega) (by rw [if_pos rfl]; exact b3) l5)
  by_cases c : tkK tp n t1 = 40
  · rw [if_pos (show M 16 10 = 40 by rw [C1.2.1]; exact c), if_pos (show kdT tp n t1 = 40 from c)]
    refine ok_bind (hbr false M t1 np z A1 C1 (by rw [if_neg (by decide)]; exact c) (by omega)) ?_
    intro o hq
    exact fin _ o hq
  · rw [if_neg (show ¬ M 16 10 = 40 by rw [C1.2.1]; exact c), if_neg (show ¬ kdT tp n t1 = 40 from c)]
    refine ok_bind (hcm M t1 np z A1 C1 (by omega)) ?_
    intro o hq
    exact fin _ o hq
theorem c_rdAll {fr : NN → Int → Int → Int → Option (Int × NN)} {dep : Int} {d : Nat} {br : Bool → Nat → Nat → PR} (hn : n ≤ 400) (hb : ∀ j, j < n → 0 ≤ tp j ∧ tp j ≤ 255) (hX : XOK X) (hW : W = (if ord = true then 32 else 9)) (hd : 1 ≤ d) (hbr : HBr X tp n ord W fr dep d br) :
    (∀ (N : NN) (t np z : Nat), KAc N tp n → CSt N tp n ord t np z → z < t → Ok (f_X5_sum fr X N dep) (PCq W tp n ord N t z (d + 2) false (pSm (kdT tp n) (nmT tp n) ord br t np))) ∧
    (∀ (N : NN) (t np z : Nat), KAc N tp n → CSt N tp n ord t np z → z < t → Ok (f_X5_test fr X N dep) (PCq W tp n ord N t z (d + 3) true (pTe (kdT tp n) (nmT tp n) ord br t np))) := by
  have h1 := fun (N : NN) (t np z : Nat) (a : KAc N tp n) (b : CSt N tp n ord t np z) (c : z < t) => c_part (dep := dep) hn hb hX hW hd hbr a b c
  have h2 := fun (N : NN) (t np z : Nat) (a : KAc N tp n) (b : CSt N tp n ord t np z) (c : z < t) => c_rdterm hn hb hX a h1 b c
  have h3 := fun (N : NN) (t np z : Nat) (a : KAc N tp n) (b : CSt N tp n ord t np z) (c : z < t) => c_rdsum hn hb hX a h2 b c
  have h4 := fun (N : NN) (t np z : Nat) (a : KAc N tp n) (b : CSt N tp n ord t np z) (c : z < t) => c_rdcmp (br := br) hn hb hX a h3 b c
  have hbr' : HBr X tp n ord W fr dep (d + 2 + 1) br := fun sq N t np z a b c e => ok_mono (hbr sq N t np z a b c e) fun o h => pcq_d h (by omega)
  have h5 := fun (N : NN) (t np z : Nat) (a : KAc N tp n) (b : CSt N tp n ord t np z) (c : z < t) => c_rdplain hn hb hX a h4 hbr' b c
  have h6 := fun (N : NN) (t np z : Nat) (a : KAc N tp n) (b : CSt N tp n ord t np z) (c : z < t) => c_rdboth hn hb hX a h5 b c
  exact ⟨h3, fun N t np z a b c => c_rdtest hn hb hX a h6 b c⟩
theorem c_brk (hn : n ≤ 400) (hb : ∀ j, j < n → 0 ≤ tp j ∧ tp j ≤ 255) (hX : XOK X) (hW : W = (if ord = true then 32 else 9)) : ∀ (e m : Nat), e ≤ 8 → e + 1 ≤ m → HBr X tp n ord W (f_X5_bracketed X m) (8 - (e : Int)) (3 * e + 1) (pBr (kdT tp n) (nmT tp n) ord e) := by
  intro e
  induction e with
  | zero =>
    intro m he hm sq N t np z hA h hk hzt
    obtain ⟨m', rfl⟩ : ∃ m', m = m' + 1 := ⟨m - 1, by omega⟩
    rw [f_X5_bracketed]
    unfold f_X5_bracketed_step f_X5_bracketed_j14
    dsimp only
    rw [h.2.1, if_pos hk, if_neg (by omega), c_wrong hn hA h, Option.bind_some, if_pos (by omega), pBr]
    exact ok_ret (c_wrongP hn h fr_rfl)
  | succ e ih =>
    intro m he hm sq N t np z hA h hk hzt
    obtain ⟨m', rfl⟩ : ∃ m', m = m' + 1 := ⟨m - 1, by omega⟩
    obtain ⟨rs, rt⟩ := c_rdAll (dep := 8 - (e : Int)) hn hb hX hW (show 1 ≤ 3 * e + 1 by omega) (ih m' (by omega) (by omega))
    have kne : tkK tp n t ≠ -1 := by rw [hk]; split <;> omega
    obtain ⟨ad, C2⟩ := c_advance hn hb hA h kne
    obtain ⟨M2, hM2⟩ : ∃ M2, M2 = m_up (m_up N 16 9 ((t : Int) + 1)) 16 10 (tkK tp n (t + 1)) := ⟨_, rfl⟩
    rw [← hM2] at ad C2
    have f2 : Fr frRd N M2 := by rw [hM2]; exact fr_adv
    have s2 : ∀ k, M2 22 k = N 22 k ∧ M2 23 k = N 23 k := fun k => by rw [hM2, up_o (by omega), up_o (by omega), up_o (by omega), up_o (by omega)]; exact ⟨rfl, rfl⟩
    have A2 := kac_fr hA f2
    rw [f_X5_bracketed]
    unfold f_X5_bracketed_step
    dsimp only
    rw [h.2.1, if_pos hk, if_pos (by omega), ad, Option.bind_some, w_id (by omega) (by omega), show 8 - ((e + 1 : Nat) : Int) + 1 = 8 - (e : Int) by omega, pBr]
    have fin : ∀ (r : PR) (o : Int × NN), PCq W tp n ord M2 (t + 1) z (3 * e + 1 + 3) (!sq) r o → Ok (f_X5_bracketed_j46 (f_X5_bracketed X m') X o.2 (if sq = true then 93 else 41) o.1) (PCq W tp n ord N t z (3 * (e + 1) + 1) (!sq) (match r with | .inl x => .inl x | .inr q => if kdT tp n q.1 = (if sq = true then 93 else 41) then .inr (q.1 + 1, q.2) else .inl q.1)) := by
      intro r o hq
      obtain ⟨v, M3⟩ := o
      unfold f_X5_bracketed_j46
      cases r with
      | inl x =>
        obtain ⟨v0, q1, q2, q4, q5⟩ := pcq_0 hq
        dsimp only at v0 q1 q2 q4 q5 ⊢
        subst v0
        rw [if_pos rfl]
        exact ok_ret (pcq_i q1 q2 q4 (fr_tr f2 q5))
      | inr q =>
        obtain ⟨v1, q5, z2, C3, S3, k3, l3, l4, b3, l5⟩ := pcq_1 hq
        dsimp only at v1 q5 C3 S3 k3 ⊢
        subst v1
        have A3 := kac_fr A2 q5
        rw [if_neg (show ¬ (1 : Int) = 0 by omega)]
        by_cases c : tkK tp n q.1 = (if sq = true then 93 else 41)
        · have kq : tkK tp n q.1 ≠ -1 := by rw [c]; split <;> omega
          obtain ⟨ad3, C4⟩ := c_advance hn hb A3 C3 kq
          rw [if_pos (show M3 16 10 = (if sq = true then 93 else 41) by rw [C3.2.1]; exact c), if_pos (show kdT tp n q.1 = (if sq = true then 93 else 41) from c), ad3, Option.bind_some]
          refine ok_ret (pcq_j (fr_tr f2 (fr_tr q5 fr_adv)) C4 (seg_c (seg_d S3 (by omega)) fun k _ _ => ⟨by rw [up_o (by omega), up_o (by omega)], by rw [up_o (by omega), up_o (by omega)]⟩) (fun k hk' => ?_) (by dsimp only; omega) (by dsimp only; omega) b3 ?_)
          · rw [up_o (by omega), up_o (by omega), up_o (by omega), up_o (by omega)]
            exact ⟨(k3 k hk').1.trans (s2 k).1, (k3 k hk').2.trans (s2 k).2⟩
          · dsimp only
            rw [Nat.add_sub_cancel]
            exact Classical.byContradiction fun y => kq ((tk_end hb q.1).2 y)
        · rw [if_neg (show ¬ M3 16 10 = (if sq = true then 93 else 41) by rw [C3.2.1]; exact c), if_neg (show ¬ kdT tp n q.1 = (if sq = true then 93 else 41) from c), c_wrong hn A3 C3, Option.bind_some, if_pos (by omega)]
          exact ok_ret (c_wrongP hn C3 (fr_tr f2 q5))
    cases sq with
    | true =>
      rw [if_neg (show ¬ (if true = true then (91 : Int) else 40) = 40 by decide), if_pos rfl]
      refine ok_bind (rs M2 (t + 1) np z A2 C2 (by omega)) ?_
      intro o hq
      exact fin _ o (pcq_d hq (by omega))
    | false =>
      rw [if_pos (show (if false = true then (91 : Int) else 40) = 40 by decide), if_neg (show ¬ false = true by decide)]
      refine ok_bind (rt M2 (t + 1) np z A2 C2 (by omega)) ?_
      intro o hq
      exact fin _ o hq
end CM
