/-! reading: the clauses of a law; the class's -/
def frCl (o k : Nat) : Prop := frRd o k ∨ o = 24 ∨ (o = 21 ∧ k = 4)
def fr24 (o k : Nat) : Prop := o = 24 ∨ (o = 21 ∧ k = 4)
/-- a clause as the class keeps it -/
def CC1 (W : Int) (N : NN) (i : Nat) (c : LC) (z : Nat) : Prop := N 24 (8 * i) = 256 + c.1 ∧ (0 ≤ c.1 ∧ c.1 ≤ 2) ∧ ∃ s0 s1 c0 c1 : Nat, N 24 (8 * i + 4) = (s0 : Int) ∧ N 24 (8 * i + 5) = (s1 : Int) ∧ N 24 (8 * i + 2) = (c0 : Int) ∧ N 24 (8 * i + 3) = (c1 : Int) ∧ s1 ≤ z ∧ c1 ≤ z ∧ (c.1 = 2 ↔ c.2.2 = none) ∧ (∀ D, c.2.2 = some D → Seg W (N 22) (N 23) s0 s1 28 D ∧ DBd D) ∧ (c.2.1 = none → c0 = 0 ∧ c1 = 0) ∧ ∀ D, c.2.1 = some D → Seg W (N 22) (N 23) c0 c1 28 D ∧ DBo D
def XCq (W : Int) (tp : Nat → Int) (n : Nat) (ord : Bool) (N : NN) (t z m : Nat) (bo : Bool) (r : PR) (o : Int × NN) : Prop := Fr frCl N o.2 ∧ match r with
  | .inl f => o.1 = 0 ∧ o.2 16 6 = (tkS tp n f : Int)
  | .inr q => o.1 = 1 ∧ ∃ z', CSt o.2 tp n ord q.1 q.2.1 z' ∧ Seg W (o.2 22) (o.2 23) z z' 28 q.2.2 ∧ (if bo = true then DBo q.2.2 else DBd q.2.2) ∧ o.2 24 m = (z : Int) ∧ o.2 24 (m + 1) = (z' : Int) ∧ (∀ k, k ≠ m → k ≠ m + 1 → o.2 24 k = N 24 k) ∧ (∀ k, k < z → o.2 22 k = N 22 k ∧ o.2 23 k = N 23 k) ∧ o.2 21 4 = N 21 4 ∧ t < q.1
def LCq (W : Int) (tp : Nat → Int) (n : Nat) (N : NN) (t z i : Nat) (r : Nat ⊕ (Nat × Nat × LC)) (o : Int × NN) : Prop := Fr frCl N o.2 ∧ match r with
  | .inl f => o.1 = 0 ∧ o.2 16 6 = (tkS tp n f : Int)
  | .inr q => o.1 = 1 ∧ ∃ z', CSt o.2 tp n false q.1 q.2.1 z' ∧ z ≤ z' ∧ CC1 W o.2 i q.2.2 z' ∧ o.2 21 4 = (i : Int) + 1 ∧ (∀ k, k < z → o.2 22 k = N 22 k ∧ o.2 23 k = N 23 k) ∧ (∀ k, k < 8 * i → o.2 24 k = N 24 k) ∧ t < q.1
section CL
variable {X : MX} {N : NN} {tp : Nat → Int} {n : Nat} {ord : Bool} {W : Int}
theorem cst_24 {M : NN} {t np z : Nat} (h : CSt N tp n ord t np z) (f : Fr fr24 N M) : CSt M tp n ord t np z := by
  obtain ⟨h1, h2, h3, h4, h5, h6⟩ := h
  exact ⟨(f 16 9 (by unfold fr24; omega)).trans h1, (f 16 10 (by unfold fr24; omega)).trans h2, (f 16 8 (by unfold fr24; omega)).trans h3, (f 16 7 (by unfold fr24; omega)).trans h4, (f 21 3 (by unfold fr24; omega)).trans h5, h6.1, h6.2.1, h6.2.2.1, (f 16 6 (by unfold fr24; omega)).trans h6.2.2.2⟩
theorem kac_cl {M : NN} (h : KAc N tp n) (hf : Fr frCl N M) : KAc M tp n := fun m hm => by
  obtain ⟨a, b, c⟩ := h m hm
  exact ⟨by rw [hf 18 m (by unfold frCl frRd; omega)]; exact a, by rw [hf 20 m (by unfold frCl frRd; omega)]; exact b, fun q => by rw [hf 19 m (by unfold frCl frRd; omega)]; exact c q⟩
theorem fr_dc {M : NN} (h : Fr frRd N M) : Fr frCl N M := fr_mono h fun o k q => Or.inl q
theorem fr_4c {M : NN} (h : Fr fr24 N M) : Fr frCl N M := fr_mono h fun o k q => Or.inr q
theorem c_setPart {i : Nat} {a : Nat} {v : Int} (hX : XOK X) (hi : i < 12) (ha : a < 8) : f_X8_setPart X 21 N (i : Int) (a : Int) v = some (m_up N 24 (8 * i + a) v) := by
  have e : (((xK X (21 + 3)).2 : Nat) : Int) = 96 := by rw [hX.2.2.2.2.2.2.2.1]; rfl
  unfold f_X8_setPart
  rw [e, w_id (x := (i : Int) * 8) (by omega) (by omega), w_id (x := (i : Int) * 8 + (a : Int)) (by omega) (by omega), if_pos (by omega), show ((i : Int) * 8 + (a : Int)).toNat = 8 * i + a by omega]
theorem c_expTop (hn : n ≤ 400) (hb : ∀ j, j < n → 0 ≤ tp j ∧ tp j ≤ 255) (hX : XOK X) (hW : W = (if ord = true then 32 else 9)) {t np z : Nat} (hA : KAc N tp n) (h : CSt N tp n ord t np z) (hz : z < t) : Ok (f_X5_sum (f_X5_bracketed X 12) X N 0) (PCq W tp n ord N t z 28 false (xpS tp n ord false t np)) ∧ Ok (f_X5_test (f_X5_bracketed X 12) X N 0) (PCq W tp n ord N t z 28 true (xpS tp n ord true t np)) := by
  have hbr := c_brk (X := X) (tp := tp) (ord := ord) (W := W) hn hb hX hW 8 12 (by omega) (by omega)
  obtain ⟨rs, rt⟩ := c_rdAll (dep := 8 - ((8 : Nat) : Int)) hn hb hX hW (show 1 ≤ 3 * 8 + 1 by omega) hbr
  unfold xpS
  rw [if_neg (show ¬ (false = true) by decide), if_pos rfl]
  exact ⟨ok_mono (rs N t np z hA h hz) fun o q => pcq_d q (by omega), ok_mono (rt N t np z hA h hz) fun o q => pcq_d q (by omega)⟩
/-- a SUM or a TEST and where it stands -/
theorem c_xc {bo : Bool} {t np z i a : Nat} {x : NN → Option (Int × NN)} (hX : XOK X) (hi : i < 12) (ha : a < 7) (h : CSt N tp n ord t np z)
    (hx : ∀ M, Fr fr24 N M → CSt M tp n ord t np z → Ok (x M) (PCq W tp n ord M t z 28 bo (xpS tp n ord bo t np))) :
    Ok (Option.bind (f_X8_setPart X 21 N (i : Int) (a : Int) (z : Int)) (fun o2 => Option.bind (x o2) (fun o3 => Option.bind (f_X8_size X o3.2 21) (fun o4 => Option.bind (f_X8_setPart X 21 o3.2 (i : Int) ((a : Int) + 1) o4) (fun o5 => if 0 ≤ o3.1 ∧ o3.1 ≤ 1 then some (o3.1, o5) else none))))) (XCq W tp n ord N t z (8 * i + a) bo (xpS tp n ord bo t np)) := by
  rw [c_setPart hX hi (by omega), Option.bind_some]
  have f1 : Fr fr24 N (m_up N 24 (8 * i + a) (z : Int)) := fr_up fr_rfl (Or.inl rfl)
  refine ok_bind (hx _ f1 (cst_24 h f1)) ?_
  rintro ⟨v, M⟩ hq
  unfold f_X8_size
  rw [Option.bind_some, show (a : Int) + 1 = ((a + 1 : Nat) : Int) by omega, c_setPart hX hi (by omega), Option.bind_some]
  dsimp only
  have f3 : Fr fr24 M (m_up M 24 (8 * i + (a + 1)) (M 21 3)) := fr_up fr_rfl (Or.inl rfl)
  cases hr : xpS tp n ord bo t np with
  | inl x =>
    rw [hr] at hq
    obtain ⟨v0, q1, q2, q4, q5⟩ := pcq_0 hq
    dsimp only at v0 q1 q2 q4 q5
    subst v0
    rw [if_pos (by omega)]
    exact ok_ret ⟨fr_tr (fr_4c f1) (fr_tr (fr_dc q5) (fr_4c f3)), rfl, by dsimp only; rw [up_o (by omega)]; exact q1⟩
  | inr q =>
    rw [hr] at hq
    obtain ⟨v1, q5, z2, C3, S3, k3, l3, l4, b3, l5⟩ := pcq_1 hq
    dsimp only at v1 q5 C3 S3 k3
    subst v1
    rw [if_pos (by omega)]
    refine ok_ret ⟨fr_tr (fr_4c f1) (fr_tr (fr_dc q5) (fr_4c f3)), rfl, z2, cst_24 C3 f3, ?_, b3, ?_, ?_, fun k a1 a2 => ?_, fun k hk => ?_, ?_, l3⟩
    · dsimp only
      rw [up_of (by omega), up_of (by omega)]
      exact S3
    · dsimp only
      rw [up_k (by omega), q5 24 _ (by unfold frRd; omega), up_s]
    · dsimp only
      rw [show 8 * i + a + 1 = 8 * i + (a + 1) by omega, up_s, C3.2.2.2.2.1]
    · dsimp only
      rw [up_k (by omega), q5 24 _ (by unfold frRd; omega), up_k a1]
    · dsimp only
      rw [up_o (by omega), up_o (by omega)]
      have y := k3 k hk
      rw [up_o (by omega), up_o (by omega)] at y
      exact y
    · dsimp only
      rw [up_o (by omega), q5 21 4 (by unfold frRd; omega), up_o (by omega)]
theorem xc_0 {t z m f : Nat} {bo : Bool} {o : Int × NN} (h : XCq W tp n ord N t z m bo (.inl f) o) : Fr frCl N o.2 ∧ o.1 = 0 ∧ o.2 16 6 = (tkS tp n f : Int) := h
theorem xc_1 {t z m : Nat} {bo : Bool} {q : Nat × Nat × Den} {o : Int × NN} (h : XCq W tp n ord N t z m bo (.inr q) o) : Fr frCl N o.2 ∧ o.1 = 1 ∧ ∃ z', CSt o.2 tp n ord q.1 q.2.1 z' ∧ Seg W (o.2 22) (o.2 23) z z' 28 q.2.2 ∧ (if bo = true then DBo q.2.2 else DBd q.2.2) ∧ o.2 24 m = (z : Int) ∧ o.2 24 (m + 1) = (z' : Int) ∧ (∀ k, k ≠ m → k ≠ m + 1 → o.2 24 k = N 24 k) ∧ (∀ k, k < z → o.2 22 k = N 22 k ∧ o.2 23 k = N 23 k) ∧ o.2 21 4 = N 21 4 ∧ t < q.1 := h
theorem c_sumOf {t np z i a : Nat} (hn : n ≤ 400) (hb : ∀ j, j < n → 0 ≤ tp j ∧ tp j ≤ 255) (hX : XOK X) (hW : W = (if ord = true then 32 else 9)) (hA : KAc N tp n) (hi : i < 12) (ha : a < 7) (h : CSt N tp n ord t np z) (hz : z < t) : Ok (f_X5_sumOf X N (i : Int) (a : Int)) (XCq W tp n ord N t z (8 * i + a) false (xpS tp n ord false t np)) := by
  unfold f_X5_sumOf
  rw [w_id (x := (a : Int) + 1) (by omega) (by omega)]
  have e : f_X8_size X N 21 = some (z : Int) := by unfold f_X8_size; rw [h.2.2.2.2.1]
  rw [e, Option.bind_some]
  exact c_xc (x := fun o => f_X5_sum (f_X5_bracketed X 12) X o 0) hX hi ha h fun M f c => (c_expTop hn hb hX hW (kac_cl hA (fr_4c f)) c hz).1
/-- a condition, if there is one -/
theorem c_cond {t np z i : Nat} (hn : n ≤ 400) (hb : ∀ j, j < n → 0 ≤ tp j ∧ tp j ≤ 255) (hX : XOK X) (hW : W = (if ord = true then 32 else 9)) (hA : KAc N tp n) (hi : i < 12) (h : CSt N tp n ord t np z) (hk : tkK tp n t = 259) : Ok (f_X5_condition X N (i : Int)) (XCq W tp n ord N t z (8 * i + 2) true (xpS tp n ord true (t + 1) np)) := by
  have hz := h.2.2.2.2.2.2.1
  obtain ⟨ad, C2⟩ := c_advance hn hb hA h (by omega)
  obtain ⟨M2, hM2⟩ : ∃ M2, M2 = m_up (m_up N 16 9 ((t : Int) + 1)) 16 10 (tkK tp n (t + 1)) := ⟨_, rfl⟩
  rw [← hM2] at ad C2
  have f2 : Fr (fun o k => o = 16 ∧ (k = 9 ∨ k = 10)) N M2 := by rw [hM2]; exact fr_up (fr_up fr_rfl (by omega)) (by omega)
  have f2d : Fr frRd N M2 := fr_mono f2 fun o k q => by unfold frRd; omega
  have A2 := kac_fr hA f2d
  unfold f_X5_condition
  have e : f_X8_size X M2 21 = some (z : Int) := by unfold f_X8_size; rw [C2.2.2.2.2.1]
  rw [h.2.1, if_pos hk, ad, Option.bind_some, e, Option.bind_some]
  have R := c_xc (bo := true) (a := 2) (W := W) (x := fun o => f_X5_test (f_X5_bracketed X 12) X o 0) hX hi (by omega) C2 fun M f c => (c_expTop (W := W) hn hb hX hW (kac_cl A2 (fr_4c f)) c (by omega)).2
  refine ok_mono R ?_
  intro o hq
  cases hr : xpS tp n ord true (t + 1) np with
  | inl x =>
    rw [hr] at hq
    exact ⟨fr_tr (fr_dc f2d) hq.1, hq.2⟩
  | inr q =>
    rw [hr] at hq
    obtain ⟨q1, q2, z', q3, q4, q5, q6, q7, q8, q9, q10, q11⟩ := xc_1 hq
    exact ⟨fr_tr (fr_dc f2d) q1, q2, z', q3, q4, q5, q6, q7, fun k a1 a2 => (q8 k a1 a2).trans (f2 24 k (by omega)), fun k hk => ⟨(q9 k hk).1.trans (f2 22 k (by omega)), (q9 k hk).2.trans (f2 23 k (by omega))⟩, q10.trans (f2 21 4 (by omega)), by omega⟩
end CL
