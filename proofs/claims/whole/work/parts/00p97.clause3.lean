section LT
variable {X : MX} {N : NN} {tp : Nat → Int} {n : Nat} {W : Int}
theorem r_lawfin {M1 : NN} {t t1 np1 z z1 i : Nat} {k : Int} {ds : Option Den} (hn : n ≤ 400) (hb : ∀ j, j < n → 0 ≤ tp j ∧ tp j ≤ 255) (hW : W = 9) (hi : i < 12) (b : RB M1 tp n false t1 np1) (hz : RZ M1 t1 z1) (hk : M1 74 (8 * i) = k) (hk2 : 0 ≤ k ∧ k ≤ 2) (h3 : M1 74 (8 * i + 3) = (z : Int)) (h21 : M1 64 21 = (i : Int) + 1) (hlo : ∀ k, k < 8 * i → M1 74 k = N 74 k) (hcl : ∀ k, k < z → M1 75 k = N 75 k ∧ M1 76 k = N 76 k) (hf : Fr frRl N M1) (ht : t < t1) (hzz : z ≤ z1) (hd : k = 2 ↔ ds = none) (hs : ∀ D, ds = some D → SgR W false M1 z z1 28 D ∧ DBd D) : Ok (f_X12_readLaw_j145 X M1 (8 * i : Int)) (LRq W tp n N t z i (match pCl2 tp n t1 np1 with | .inl x => .inl x | .inr q => .inr (q.1, q.2.1, (k, q.2.2, ds)))) := by
  refine ok_mono (r_j145 (X := X) hn hb hW hi b hz) ?_
  intro M R
  cases he : pCl2 tp n t1 np1 with
  | inl x =>
    rw [he] at R
    exact ⟨fr_tr hf R.1, R.2⟩
  | inr q =>
    rw [he] at R
    obtain ⟨q1, z', q2, q3, q4, q5, q6, q7, q8, q9, q10, q11, q12, q13⟩ := R
    refine ⟨fr_tr hf q1, z', q2, q3, by omega, q12.trans h21, ⟨?_, hk2, z, z1, z1, z', ?_, q5, q6, q7, q4, Nat.le_refl _, hd, fun D e => ?_, q8, q9⟩, fun k hk' => ?_, fun k hk' => ?_, by dsimp only; omega⟩
    · rw [q11 _ (by omega) (by omega) (by omega)]; exact hk
    · rw [q11 _ (by omega) (by omega) (by omega)]; exact h3
    · obtain ⟨y1, y2⟩ := hs D e
      exact ⟨sg_c y1 fun k _ a2 => q10 k a2, y2⟩
    · have y := q10 k (by omega)
      have y2 := hcl k hk'
      exact ⟨y.1.trans y2.1, y.2.trans y2.2⟩
    · rw [q11 _ (by omega) (by omega) (by omega)]; exact hlo k hk'
theorem r_readLaw {t np z i : Nat} (hn : n ≤ 400) (hb : ∀ j, j < n → 0 ≤ tp j ∧ tp j ≤ 255) (hW : W = 9) (hi : i ≤ 12) (h : RB N tp n false t np) (hz : RZ N t z) (h21 : N 64 21 = (i : Int)) : Ok (f_X12_readLaw X N) (LRq W tp n N t z i (if i < 12 then pCl tp n t np else .inl t)) := by
  have e0 : wC 0 = 24627848 := wC_tab ⟨0, by decide⟩
  have e1 : wC 1 = 11703827 := wC_tab ⟨1, by decide⟩
  have e2 : wC 2 = 67155 := wC_tab ⟨2, by decide⟩
  have hA : f_X12_readLaw X N = f_X12_readLaw_j43 X N (if tkK tp n t < 256 ∨ 258 < tkK tp n t then -1 else tkK tp n t - 256) := by
    unfold f_X12_readLaw
    rw [← e0, ref_isWord (by decide) hb h.1, Option.bind_some]
    by_cases c0 : tkK tp n t = 256
    · rw [if_pos (show tkK tp n t = 256 + ((0 : Nat) : Int) from c0), i10, if_neg (by omega), c0]; rfl
    rw [if_neg (show ¬ tkK tp n t = 256 + ((0 : Nat) : Int) from c0), i00, ← e1, ref_isWord (by decide) hb h.1, Option.bind_some]
    by_cases c1 : tkK tp n t = 257
    · rw [if_pos (show tkK tp n t = 256 + ((1 : Nat) : Int) from c1), i10, if_neg (by omega), c1]; rfl
    rw [if_neg (show ¬ tkK tp n t = 256 + ((1 : Nat) : Int) from c1), i00, ← e2, ref_isWord (by decide) hb h.1, Option.bind_some]
    by_cases c2 : tkK tp n t = 258
    · rw [if_pos (show tkK tp n t = 256 + ((2 : Nat) : Int) from c2), i10, if_neg (by omega), c2]; rfl
    · rw [if_neg (show ¬ tkK tp n t = 256 + ((2 : Nat) : Int) from c2), i00, if_pos (by omega)]
  have hB : ∀ z0 : Int, f_X12_readLaw_j43 X N z0 = f_X12_readLaw_j64 X N z0 (if z0 ≠ -1 ∧ i < 12 then 1 else 0) := by
    intro z0
    unfold f_X12_readLaw_j43 f_X12_readLaw_j63
    by_cases c : z0 = -1
    · rw [if_pos c, if_neg (show ¬ (z0 ≠ -1 ∧ i < 12) from fun y => y.1 c)]
    · rw [if_neg c, h21]
      by_cases g : i < 12
      · rw [if_pos (by omega), if_pos (show z0 ≠ -1 ∧ i < 12 from ⟨c, g⟩)]
      · rw [if_neg (by omega), if_neg (show ¬ (z0 ≠ -1 ∧ i < 12) from fun y => g y.2)]
  have bad : ∀ z0 : Int, Ok (f_X12_readLaw_j64 X N z0 0) (LRq W tp n N t z i (.inl t)) := by
    intro z0
    obtain ⟨M, x1, x2, x3⟩ := rb_must0 (X := X) h
    unfold f_X12_readLaw_j64
    rw [x1, Option.bind_some, if_neg (show ¬ M 64 19 = 0 by rw [x2.1]; omega)]
    exact ok_ret (lr_i (fr_xl x3) x2)
  rw [hA, hB]
  unfold pCl
  by_cases cb : tkK tp n t < 256 ∨ 258 < tkK tp n t
  · rw [if_pos cb, if_pos cb, if_neg (show ¬ ((-1 : Int) ≠ -1 ∧ i < 12) from fun y => y.1 rfl)]
    have e : (if i < 12 then (.inl t : Nat ⊕ (Nat × Nat × LC)) else .inl t) = .inl t := by split <;> rfl
    rw [e]
    exact bad _
  rw [if_neg cb, if_neg cb]
  by_cases ci : i < 12
  case neg =>
    rw [if_neg (show ¬ (tkK tp n t - 256 ≠ -1 ∧ i < 12) from fun y => ci y.2), if_neg ci]
    exact bad _
  rw [if_pos (show tkK tp n t - 256 ≠ -1 ∧ i < 12 from ⟨by omega, ci⟩), if_pos ci]
  obtain ⟨k, hk⟩ : ∃ k : Int, k = tkK tp n t - 256 := ⟨_, rfl⟩
  rw [← hk]
  unfold f_X12_readLaw_j64
  refine ok_bind (rb_must1 hn hb h (by omega) (show (1 : Int) ≠ 0 by omega)) ?_
  rintro M9 ⟨b9, f9⟩
  have m21 : M9 64 21 = (i : Int) := by rw [f9 64 21 (by unfold frNx; omega)]; exact h21
  have z9 := rz_t (rz_ag hz (ag_nx f9)) (show t ≤ t + 1 by omega)
  rw [if_pos b9.2.2.1, m21, w_id (x := 8 * (i : Int)) (by omega) (by omega)]
  refine ok_bind (lr_wipe (X := X) (N := M9) (k := k) ci) ?_
  rintro o ⟨M13, rfl, f13⟩
  dsimp only
  obtain ⟨N18, hN⟩ : ∃ N18, N18 = m_up (m_up (m_up M13 74 (8 * i) k) 64 21 ((i : Int) + 1)) 74 (8 * i + 3) (z : Int) := ⟨_, rfl⟩
  have f13' : Fr fr74 M9 M13 := fr_mono f13 fun o k q => Or.inl q.1
  have g18 : Fr fr74 M13 N18 := by rw [hN]; exact fr_up (fr_up (fr_up fr_rfl (Or.inl rfl)) (Or.inr ⟨rfl, rfl⟩)) (Or.inl rfl)
  have f18 : Fr fr74 M9 N18 := fr_tr f13' g18
  have n21 : (m_up M13 74 (8 * i) k) 64 21 = (i : Int) := by rw [up_o (by omega), f13 64 21 (by omega)]; exact m21
  have n23 : (m_up (m_up M13 74 (8 * i) k) 64 21 ((i : Int) + 1)) 64 23 = (z : Int) := by rw [up_k (by omega), up_o (by omega), f13 64 23 (by omega)]; exact z9.1
  rw [if_pos (show 0 ≤ 8 * (i : Int) ∧ 8 * (i : Int) < 96 by omega), show (8 * (i : Int)).toNat = 8 * i by omega, n21, w_id (x := (i : Int) + 1) (by omega) (by omega), n23, w_id (x := 8 * (i : Int) + 3) (by omega) (by omega), if_pos (show 0 ≤ 8 * (i : Int) + 3 ∧ 8 * (i : Int) + 3 < 96 by omega), show (8 * (i : Int) + 3).toNat = 8 * i + 3 by omega, ← hN]
  have b18 := rb_74 b9 f18
  have z18 := rz_ag z9 (ag_74 f18)
  have k18 : N18 74 (8 * i) = k := by rw [hN, up_k (by omega), up_o (by omega), up_s]
  have s18 : N18 74 (8 * i + 3) = (z : Int) := by rw [hN, up_s]
  have c18 : N18 64 21 = (i : Int) + 1 := by rw [hN, up_o (by omega), up_s]
  have l18 : ∀ k, k < 8 * i → N18 74 k = N 74 k := fun k hk' => by rw [hN, up_k (by omega), up_o (by omega), up_k (by omega), f13 74 k (by omega), f9 74 k (by unfold frNx; omega)]
  have d18 : ∀ k, k < z → N18 75 k = N 75 k ∧ N18 76 k = N 76 k := fun k _ => by
    have y := (ag_74 f18).1 k
    have y2 := (ag_nx f9).1 k
    exact ⟨y.1.trans y2.1, y.2.1.trans y2.2.1⟩
  have f018 : Fr frRl N N18 := fr_tr (fr_xl (fr_nx f9)) (fr_7l f18)
  unfold pCl1
  by_cases c2 : tkK tp n t = 258
  · rw [if_pos c2, if_pos (show k = 2 by omega)]
    exact r_lawfin hn hb hW ci b18 z18 k18 (by omega) s18 c18 l18 d18 f018 (by omega) (Nat.le_refl _) (by constructor; intro _; rfl; intro _; omega) (fun D e => by cases e)
  rw [if_neg c2, if_neg (show ¬ k = 2 by omega)]
  refine ok_bind (r_exp (X := X) (a := 0) (bo := false) (W := W) hn hb (by rw [hW]; rfl) rfl b18 z18) ?_
  intro M19 R
  cases he : xpS tp n false false (t + 1) np with
  | inl x =>
    rw [he] at R
    obtain ⟨q1, q2⟩ := rx_0 R
    obtain ⟨M, x1, x2, x3⟩ := r_j145f (X := X) ci (fst_fs2 q2)
    rw [x1]
    exact ok_ret (lr_i (fr_tr f018 (fr_tr (fr_xl q1) (fr_7l x3))) x2)
  | inr q =>
    rw [he] at R
    obtain ⟨q1, z', q2, q3, q4, q5, q6, q7, q8⟩ := rx_1 R
    rw [if_neg (show ¬ (false = true) by decide)] at q8
    have g74 : ∀ k, M19 74 k = N18 74 k := fun k => q1 74 k (by unfold frRx; omega)
    exact r_lawfin hn hb hW ci q2 q3 (by rw [g74]; exact k18) (by omega) (by rw [g74]; exact s18) (by rw [q1 64 21 (by unfold frRx; omega)]; exact c18) (fun k hk' => by rw [g74]; exact l18 k hk') (fun k hk' => ⟨(q5 k hk').1.trans (d18 k hk').1, (q5 k hk').2.trans (d18 k hk').2⟩) (fr_tr f018 (fr_xl q1)) (by omega) (by omega) (by constructor; intro y; omega; intro y; cases y) (fun D e => by
      have e' : q.2.2 = D := Option.some.inj e
      subst e'
      exact ⟨q4, q8⟩)
end LT
