/-! reading: the clauses of a law; the reference's -/
abbrev LC : Type := Int × Option Den × Option Den
noncomputable def pCl1 (tp : Nat → Int) (n t np : Nat) : Nat ⊕ (Nat × Nat × Option Den) := if tkK tp n t = 258 then .inr (t + 1, np, none) else match xpS tp n false false (t + 1) np with
  | .inl x => .inl x
  | .inr q => .inr (q.1, q.2.1, some q.2.2)
noncomputable def pCl2 (tp : Nat → Int) (n t np : Nat) : Nat ⊕ (Nat × Nat × Option Den) := if tkK tp n t = 259 then (match xpS tp n false true (t + 1) np with
  | .inl x => .inl x
  | .inr q => .inr (q.1, q.2.1, some q.2.2)) else .inr (t, np, none)
noncomputable def pCl (tp : Nat → Int) (n t np : Nat) : Nat ⊕ (Nat × Nat × LC) := if tkK tp n t < 256 ∨ 258 < tkK tp n t then .inl t else match pCl1 tp n t np with
  | .inl x => .inl x
  | .inr s => match pCl2 tp n s.1 s.2.1 with
    | .inl x => .inl x
    | .inr q => .inr (q.1, q.2.1, (tkK tp n t - 256, q.2.2, s.2.2))
def FS2 (N : NN) (tp : Nat → Int) (n f : Nat) : Prop := N 64 19 = 1 ∧ N 64 18 = (tkS tp n f : Int)
def frRl (o k : Nat) : Prop := frRx o k ∨ o = 74 ∨ (o = 64 ∧ k = 21)
/-- a clause as the reference keeps it -/
def RC1 (W : Int) (N : NN) (i : Nat) (c : LC) (z : Nat) : Prop := N 74 (8 * i) = c.1 ∧ (0 ≤ c.1 ∧ c.1 ≤ 2) ∧ ∃ s0 s1 c0 c1 : Nat, N 74 (8 * i + 3) = (s0 : Int) ∧ N 74 (8 * i + 4) = (s1 : Int) ∧ N 74 (8 * i + 5) = (c0 : Int) ∧ N 74 (8 * i + 6) = (c1 : Int) ∧ s1 ≤ z ∧ c1 ≤ z ∧ (c.1 = 2 ↔ c.2.2 = none) ∧ (∀ D, c.2.2 = some D → SgR W false N s0 s1 28 D ∧ DBd D) ∧ (c.2.1 = none → c0 = c1) ∧ ∀ D, c.2.1 = some D → SgR W false N c0 c1 28 D ∧ DBo D
def LRq (W : Int) (tp : Nat → Int) (n : Nat) (N : NN) (t z i : Nat) (r : Nat ⊕ (Nat × Nat × LC)) (M : NN) : Prop := Fr frRl N M ∧ match r with
  | .inl f => FS2 M tp n f
  | .inr q => ∃ z', RB M tp n false q.1 q.2.1 ∧ RZ M q.1 z' ∧ z ≤ z' ∧ M 64 21 = (i : Int) + 1 ∧ RC1 W M i q.2.2 z' ∧ (∀ k, k < z → M 75 k = N 75 k ∧ M 76 k = N 76 k) ∧ (∀ k, k < 8 * i → M 74 k = N 74 k) ∧ t < q.1
section LR
variable {X : MX} {N : NN} {tp : Nat → Int} {n : Nat} {ord : Bool} {W : Int}
def fr74 (o k : Nat) : Prop := o = 74 ∨ (o = 64 ∧ k = 21)
theorem wtb_c {M : NN} (h : WTb N) (h1 : ∀ k, M 79 k = N 79 k) (h2 : ∀ k, M 80 k = N 80 k) (h3 : M 64 18 = N 64 18) : WTb M := ⟨fun k hk => (h1 k).trans (h.1 k hk), fun k hk => (h2 k).trans (h.2.1 k hk), h3.trans h.2.2⟩
theorem rb_74 {M : NN} {t np : Nat} (h : RB N tp n ord t np) (f : Fr fr74 N M) : RB M tp n ord t np := by
  obtain ⟨h1, h2, h3, h4, h5, h6, h7, h8⟩ := h
  have e : ∀ k, k ≠ 21 → M 64 k = N 64 k := fun k a => f 64 k (by unfold fr74; omega)
  refine ⟨?_, ⟨(e 13 (by omega)).trans h2.1, fun j hj => (f 73 j (by unfold fr74; omega)).trans (h2.2 j hj)⟩, (e 19 (by omega)).trans h3, (e 20 (by omega)).trans h4, (e 26 (by omega)).trans h5, h6, h7, wtb_c h8 (fun k => f 79 k (by unfold fr74; omega)) (fun k => f 80 k (by unfold fr74; omega)) (e 18 (by omega))⟩
  unfold TKm LXm at h1 ⊢
  rw [e 14 (by omega), e 15 (by omega), e 16 (by omega), e 17 (by omega)]
  exact h1
theorem ag_74 {M : NN} (f : Fr fr74 N M) : Ag N M := ag_fr f fun o k q => by unfold fr74 at q; omega
theorem rz_ag {M : NN} {t z : Nat} (h : RZ N t z) (a : Ag N M) : RZ M t z := ⟨a.2.1.trans h.1, h.2.1, fun k hk => by rw [(a.1 k).1]; exact h.2.2 k hk⟩
theorem rz_t {t t' z : Nat} (h : RZ N t z) (q : t ≤ t') : RZ N t' z := ⟨h.1, by have := h.2.1; omega, h.2.2⟩
theorem fs2_74 {M : NN} {f : Nat} (h : FS2 N tp n f) (g : Fr fr74 N M) : FS2 M tp n f := ⟨(g 64 19 (by unfold fr74; omega)).trans h.1, (g 64 18 (by unfold fr74; omega)).trans h.2⟩
theorem fst_fs2 {f : Nat} (h : FSt N tp n f) : FS2 N tp n f := ⟨h.1, h.2.1⟩
theorem rb_next {t np : Nat} (hn : n ≤ 400) (hb : ∀ j, j < n → 0 ≤ tp j ∧ tp j ≤ 255) (h : RB N tp n ord t np) (hk : tkK tp n t ≠ -1) : Ok (f_X12_next X N) (fun M => RB M tp n ord (t + 1) np ∧ Fr frNx N M) := by
  obtain ⟨h1, h2, h3, h4, h5, h6, h7, h8⟩ := h
  refine ok_mono (ref_next hn h2 h1) ?_
  rintro M ⟨q1, _, q3⟩
  have lt : tkS tp n t < n := Classical.byContradiction fun c => hk ((tk_end hb t).2 c)
  have e : ∀ k, 18 ≤ k → M 64 k = N 64 k := fun k a => q3 64 k (by unfold frNx; omega)
  exact ⟨⟨q1, tpm_fr h2 q3, by rw [e 19 (by omega)]; exact h3, by rw [e 20 (by omega)]; exact h4, by rw [e 26 (by omega)]; exact h5, Or.inr (by rw [Nat.add_sub_cancel]; exact lt), h7, wtb_fr h8 (fr_nw q3)⟩, q3⟩
theorem rb_must1 {t np : Nat} {v : Int} (hn : n ≤ 400) (hb : ∀ j, j < n → 0 ≤ tp j ∧ tp j ≤ 255) (h : RB N tp n ord t np) (hk : tkK tp n t ≠ -1) (hv : v ≠ 0) : Ok (f_X12_must X N v) (fun M => RB M tp n ord (t + 1) np ∧ Fr frNx N M) := by
  unfold f_X12_must f_X12_must_j24
  rw [if_pos h.2.2.1, if_neg hv, if_pos h.2.2.1]
  refine ok_bind (rb_next hn hb h hk) ?_
  rintro M q
  exact ok_ret q
theorem rb_must0 {t np : Nat} (h : RB N tp n ord t np) : ∃ M, f_X12_must X N 0 = some M ∧ FS2 M tp n t ∧ Fr frRx N M := by
  have e : m_up N 64 19 1 64 14 = (tkS tp n t : Int) := by rw [up_k (by omega)]; exact h.1.1
  have f : Fr (fun o k => o = 64 ∧ (k = 18 ∨ k = 19)) N (m_up (m_up N 64 19 1) 64 18 (tkS tp n t : Int)) := fr_up (fr_up fr_rfl (by omega)) (by omega)
  refine ⟨m_up (m_up N 64 19 1) 64 18 (tkS tp n t : Int), ?_, ⟨by rw [up_k (by omega), up_s], up_s⟩, fr_mono f fun o k q => by unfold frRx; omega⟩
  unfold f_X12_must f_X12_must_j24
  rw [if_pos h.2.2.1, if_pos rfl]
  dsimp only
  rw [e, if_neg (show ¬ m_up (m_up N 64 19 1) 64 18 (tkS tp n t : Int) 64 19 = 0 by rw [up_k (by omega), up_s]; omega)]
theorem fr_xl {M : NN} (h : Fr frRx N M) : Fr frRl N M := fr_mono h fun o k q => Or.inl q
theorem fr_7l {M : NN} (h : Fr fr74 N M) : Fr frRl N M := fr_mono h fun o k q => Or.inr q
theorem fr_u74 {k : Nat} {v : Int} : Fr fr74 N (m_up N 74 k v) := fr_up fr_rfl (Or.inl rfl)
theorem lr_i {N' : NN} {t z i f : Nat} (h1 : Fr frRl N N') (h2 : FS2 N' tp n f) : LRq W tp n N t z i (.inl f) N' := ⟨h1, h2⟩
theorem lr_wipe {i : Nat} {k : Int} (hi : i < 12) : Ok (lp (fun s => b_X12_readLaw_85 X s.1 s.2.1 s.2.2.1 s.2.2.2) (N, k, (8 * i : Int), 0)) (fun o => ∃ M, o = (M, k, (8 * i : Int)) ∧ Fr (fun o k => o = 74 ∧ 8 * i ≤ k) N M) := by
  have K : ∀ (j c : Nat) (M : NN), c + j = 8 → Fr (fun o k => o = 74 ∧ 8 * i ≤ k) N M → Ok (lp (fun s => b_X12_readLaw_85 X s.1 s.2.1 s.2.2.1 s.2.2.2) (M, k, (8 * i : Int), (c : Int))) (fun o => ∃ M, o = (M, k, (8 * i : Int)) ∧ Fr (fun o k => o = 74 ∧ 8 * i ≤ k) N M) := by
    intro j
    induction j with
    | zero =>
      intro c M hc hf
      rw [lp_end (t := (M, k, (8 * i : Int))) (by dsimp only; unfold b_X12_readLaw_85; rw [if_neg (by omega)])]
      exact ok_ret ⟨M, rfl, hf⟩
    | succ j ih =>
      intro c M hc hf
      have B : b_X12_readLaw_85 X M k (8 * i : Int) (c : Int) = some (.inl (m_up M 74 ((8 * i : Int) + c).toNat 0, k, (8 * i : Int), ((c + 1 : Nat) : Int))) := by
        unfold b_X12_readLaw_85
        rw [if_pos (by omega), w_id (x := (8 * i : Int) + c) (by omega) (by omega), if_pos (by omega), w_id (x := (c : Int) + 1) (by omega) (by omega)]
        rfl
      rw [lp_next (f := fun s => b_X12_readLaw_85 X s.1 s.2.1 s.2.2.1 s.2.2.2) (s := (M, k, (8 * i : Int), (c : Int))) B]
      exact ih (c + 1) _ (by omega) (fr_up hf ⟨rfl, by omega⟩)
  exact K 8 0 N (by omega) fr_rfl
end LR
