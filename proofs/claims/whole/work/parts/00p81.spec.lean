/-! reading: what both languages' SUMS and TESTS are, token by token -/
abbrev PR : Type := Nat ⊕ (Nat × Nat × Den)
def lwW (ord : Bool) (k : Int) : Int := if ord = true then (if 275 ≤ k ∧ k ≤ 277 then k - 274 else if k = 272 then 0 else if k = 278 then 4 else if k = 279 then 10 else if k = 280 then 26 else -1) else (if 267 ≤ k ∧ k ≤ 271 then k - 267 else if 272 ≤ k ∧ k ≤ 274 then k - 266 else if k = 264 then 5 else -1)
section PS
variable (kd nm : Nat → Int) (ord : Bool)
def pLeaf (t np : Nat) : PR :=
  if np < 50 ∧ ((kd t = -2 ∧ nm t ≤ 1000) ∨ lwW ord (kd t) ≠ -1) then
    (if kd t = -2 then .inr (t + 1, np + 1, dNum (nm t))
     else if ord = true ∧ 278 ≤ kd t then (if kd (t + 1) = -2 ∧ nm (t + 1) ≤ (if kd t = 279 then 15 else 5) then .inr (t + 2, np + 1, dWord (lwW ord (kd t) + nm (t + 1))) else .inl (t + 1))
     else .inr (t + 1, np + 1, dWord (lwW ord (kd t))))
  else .inl t
def pPart (br : Bool → Nat → Nat → PR) (t np : Nat) : PR := if kd t = 91 then br true t np else pLeaf kd nm ord t np
def pTmL (el : Nat → Nat → PR) : Nat → Nat → Nat → Den → PR
  | 0, t, np, D => .inr (t, np, D)
  | f + 1, t, np, D => if kd t = 42 ∨ kd t = 47 ∨ kd t = 37 then (match el (t + 1) np with
    | .inl x => .inl x
    | .inr q => pTmL el f q.1 q.2.1 (dBin (if kd t = 42 then 4 else if kd t = 47 then 5 else 6) D q.2.2)) else .inr (t, np, D)
def pTm (el : Nat → Nat → PR) (t np : Nat) : PR := match el t np with
  | .inl x => .inl x
  | .inr q => pTmL kd el 400 q.1 q.2.1 q.2.2
def pSmL (el : Nat → Nat → PR) : Nat → Nat → Nat → Den → PR
  | 0, t, np, D => .inr (t, np, D)
  | f + 1, t, np, D => if kd t = 43 ∨ kd t = 45 then (match el (t + 1) np with
    | .inl x => .inl x
    | .inr q => pSmL el f q.1 q.2.1 (dBin (if kd t = 43 then 2 else 3) D q.2.2)) else .inr (t, np, D)
def pSm' (el : Nat → Nat → PR) (t np : Nat) : PR := match el t np with
  | .inl x => .inl x
  | .inr q => pSmL kd el 400 q.1 q.2.1 q.2.2
def pSm (br : Bool → Nat → Nat → PR) (t np : Nat) : PR := pSm' kd (pTm kd (pPart kd nm ord br)) t np
def pCmp (br : Bool → Nat → Nat → PR) (t np : Nat) : PR := match pSm kd nm ord br t np with
  | .inl x => .inl x
  | .inr q => if kd q.1 = 60 ∨ kd q.1 = 62 ∨ kd q.1 = 61 then (match pSm kd nm ord br (q.1 + 1) q.2.1 with
    | .inl x => .inl x
    | .inr p => .inr (p.1, p.2.1, dBin (if kd q.1 = 60 then 7 else if kd q.1 = 62 then 8 else 9) q.2.2 p.2.2)) else .inl q.1
def pNt : Nat → Nat → Nat
  | 0, t => t
  | f + 1, t => if kd t = 262 then pNt f (t + 1) else t
def pPl (br : Bool → Nat → Nat → PR) (t np : Nat) : PR := match (if kd (pNt kd 400 t) = 40 then br false (pNt kd 400 t) np else pCmp kd nm ord br (pNt kd 400 t) np) with
  | .inl x => .inl x
  | .inr q => .inr (q.1, q.2.1, if (pNt kd 400 t - t) % 2 = 1 then dNot q.2.2 else q.2.2)
def pJmL (w : Int) (cmb : Den → Den → Den) (el : Nat → Nat → PR) : Nat → Nat → Nat → Den → PR
  | 0, t, np, D => .inr (t, np, D)
  | f + 1, t, np, D => if kd t = w then (match el (t + 1) np with
    | .inl x => .inl x
    | .inr q => pJmL w cmb el f q.1 q.2.1 (cmb D q.2.2)) else .inr (t, np, D)
def pJm (w : Int) (cmb : Den → Den → Den) (el : Nat → Nat → PR) (t np : Nat) : PR := match el t np with
  | .inl x => .inl x
  | .inr q => pJmL kd w cmb el 400 q.1 q.2.1 q.2.2
def pBo (br : Bool → Nat → Nat → PR) (t np : Nat) : PR := pJm kd 261 dAnd (pPl kd nm ord br) t np
def pTe (br : Bool → Nat → Nat → PR) (t np : Nat) : PR := pJm kd 260 dOr (pBo kd nm ord br) t np
def pBr : Nat → Bool → Nat → Nat → PR
  | 0, _, t, _ => .inl t
  | e + 1, sq, t, np => match (if sq = true then pSm kd nm ord (pBr e) (t + 1) np else pTe kd nm ord (pBr e) (t + 1) np) with
    | .inl x => .inl x
    | .inr q => if kd q.1 = (if sq = true then 93 else 41) then .inr (q.1 + 1, q.2) else .inl q.1
end PS
theorem lw_b {ord : Bool} {k : Int} (h : lwW ord k ≠ -1) : (0 ≤ lwW ord k ∧ lwW ord k ≤ 26) ∧ (ord = false → lwW ord k ≤ 8) ∧ 264 ≤ k ∧ k ≤ 280 ∧ (ord = true → k < 278 → lwW ord k ≤ 3) ∧ (ord = false → k ≤ 274) := by
  unfold lwW at h ⊢
  cases ord with
  | true =>
    rw [if_pos rfl] at h ⊢
    refine ⟨?_, fun z => by (cases z), ?_⟩
    · split
      · omega
      · split
        · omega
        · split
          · omega
          · split
            · omega
            · split
              · omega
              · rename_i a b c d e; rw [if_neg a, if_neg b, if_neg c, if_neg d, if_neg e] at h; omega
    · split at h
      · rename_i a; rw [if_pos a]; exact ⟨by omega, by omega, fun _ _ => by omega, fun z => by (cases z)⟩
      · split at h
        · rename_i a b; rw [if_neg a, if_pos b]; exact ⟨by omega, by omega, fun _ _ => by omega, fun z => by (cases z)⟩
        · split at h
          · rename_i a b c; rw [if_neg a, if_neg b, if_pos c]; exact ⟨by omega, by omega, fun _ _ => by omega, fun z => by (cases z)⟩
          · split at h
            · rename_i a b c d; rw [if_neg a, if_neg b, if_neg c, if_pos d]; exact ⟨by omega, by omega, fun _ _ => by omega, fun z => by (cases z)⟩
            · split at h
              · rename_i a b c d e; rw [if_neg a, if_neg b, if_neg c, if_neg d, if_pos e]; exact ⟨by omega, by omega, fun _ _ => by omega, fun z => by (cases z)⟩
              · exact absurd rfl h
  | false =>
    rw [if_neg (by decide)] at h ⊢
    split at h
    · rename_i a; rw [if_pos a]; exact ⟨by omega, fun _ => by omega, by omega, by omega, fun z => by (cases z), fun _ => by omega⟩
    · split at h
      · rename_i a b; rw [if_neg a, if_pos b]; exact ⟨by omega, fun _ => by omega, by omega, by omega, fun z => by (cases z), fun _ => by omega⟩
      · split at h
        · rename_i a b c; rw [if_neg a, if_neg b, if_pos c]; exact ⟨by omega, fun _ => by omega, by omega, by omega, fun z => by (cases z), fun _ => by omega⟩
        · exact absurd rfl h
/-! the class's state while it reads -/
noncomputable def CSt (N : NN) (tp : Nat → Int) (n : Nat) (ord : Bool) (t np z : Nat) : Prop := N 16 9 = (t : Int) ∧ N 16 10 = tkK tp n t ∧ N 16 8 = (np : Int) ∧ N 16 7 = (if ord = true then 0 else 1) ∧ N 21 3 = (z : Int) ∧ KAk tp n t ∧ z ≤ t ∧ np ≤ 50 ∧ N 16 6 = -1
def frRd (o k : Nat) : Prop := (o = 16 ∧ (k = 6 ∨ k = 8 ∨ k = 9 ∨ k = 10)) ∨ (o = 21 ∧ k = 3) ∨ o = 22 ∨ o = 23
def PCq (W : Int) (tp : Nat → Int) (n : Nat) (ord : Bool) (N : NN) (t z d : Nat) (bo : Bool) (r : PR) (o : Int × NN) : Prop := Fr frRd N o.2 ∧ match r with
  | .inl f => o.1 = 0 ∧ o.2 16 6 = (tkS tp n f : Int) ∧ 0 ≤ o.2 21 3 ∧ o.2 21 3 ≤ 400
  | .inr q => o.1 = 1 ∧ ∃ z', CSt o.2 tp n ord q.1 q.2.1 z' ∧ Seg W (o.2 22) (o.2 23) z z' d q.2.2 ∧ (∀ k, k < z → o.2 22 k = N 22 k ∧ o.2 23 k = N 23 k) ∧ t < q.1 ∧ z' + t ≤ z + q.1 ∧ (if bo = true then DBo q.2.2 else DBd q.2.2) ∧ (tkS tp n (q.1 - 1) < n)
section CR
variable {X : MX} {N : NN} {tp : Nat → Int} {n : Nat} {ord : Bool} {W : Int}
theorem kak_le (hn : n ≤ 400) {t : Nat} (h : KAk tp n t) : t ≤ 400 := by
  rcases h with h | h
  · omega
  · have := tkS_ge (tp := tp) (n := n) (t - 1)
    omega
theorem tk_end (hb : ∀ j, j < n → 0 ≤ tp j ∧ tp j ≤ 255) (t : Nat) : tkK tp n t = -1 ↔ ¬ tkS tp n t < n := by
  unfold tkK
  by_cases d : tkS tp n t < n
  · rw [if_pos d]
    have q := wKd_b (tp := tp) (i := tkS tp n t) (len := tkE tp n (tkS tp n t) - tkS tp n t)
    have := hb _ d
    constructor
    · intro z
      split at z
      · omega
      · split at z <;> omega
    · intro z; exact absurd d z
  · rw [if_neg d]; exact ⟨fun _ => d, fun _ => rfl⟩
theorem kac_fr {N' : NN} (h : KAc N tp n) (hf : Fr frRd N N') : KAc N' tp n := fun m hm => by
  obtain ⟨a, b, c⟩ := h m hm
  exact ⟨by rw [hf 18 m (by unfold frRd; omega)]; exact a, by rw [hf 20 m (by unfold frRd; omega)]; exact b, fun q => by rw [hf 19 m (by unfold frRd; omega)]; exact c q⟩
theorem c_advance {t np z : Nat} (hn : n ≤ 400) (hb : ∀ j, j < n → 0 ≤ tp j ∧ tp j ≤ 255) (hA : KAc N tp n) (h : CSt N tp n ord t np z) (hk : tkK tp n t ≠ -1) : f_X5_advance X N = some (m_up (m_up N 16 9 ((t : Int) + 1)) 16 10 (tkK tp n (t + 1))) ∧ CSt (m_up (m_up N 16 9 ((t : Int) + 1)) 16 10 (tkK tp n (t + 1))) tp n ord (t + 1) np z := by
  obtain ⟨h1, h2, h3, h4, h5, h6, h7, h8⟩ := h
  have lt : tkS tp n t < n := Classical.byContradiction fun c => hk ((tk_end hb t).2 c)
  have k1 : KAk tp n (t + 1) := Or.inr (by rw [Nat.add_sub_cancel]; exact lt)
  have l1 := kak_le hn k1
  have a1 := hA (t + 1) k1
  refine ⟨?_, ?_, up_s, ?_, ?_, ?_, k1, by omega, h8.1, by rw [up_k (by omega), up_k (by omega)]; exact h8.2⟩
  · unfold f_X5_advance
    rw [h2, if_neg hk, h1, if_pos (by omega), w_id (by omega) (by omega)]
    dsimp only
    rw [if_pos (by rw [up_s]; omega), up_s, show ((t : Int) + 1).toNat = t + 1 by omega, up_o (by omega), a1.1]
  · rw [up_k (by omega), up_s]; omega
  · rw [up_k (by omega), up_k (by omega)]; exact h3
  · rw [up_k (by omega), up_k (by omega)]; exact h4
  · rw [up_o (by omega), up_o (by omega)]; exact h5
theorem fr_adv {a b : Int} : Fr frRd N (m_up (m_up N 16 9 a) 16 10 b) := fr_up (fr_up fr_rfl (by unfold frRd; omega)) (by unfold frRd; omega)
theorem c_wrong {t np z : Nat} (hn : n ≤ 400) (hA : KAc N tp n) (h : CSt N tp n ord t np z) : f_X5_wrong X N = some (0, m_up N 16 6 (tkS tp n t : Int)) := by
  have l := kak_le hn h.2.2.2.2.2.1
  unfold f_X5_wrong
  rw [h.1, if_pos (by omega), Int.toNat_natCast, (hA t h.2.2.2.2.2.1).2.1]
theorem c_wrongP {t np z : Nat} {d : Nat} {bo : Bool} {t0 z0 : Nat} {N0 : NN} (hn : n ≤ 400) (h : CSt N tp n ord t np z) (hf : Fr frRd N0 N) : PCq W tp n ord N0 t0 z0 d bo (.inl t) (0, m_up N 16 6 (tkS tp n t : Int)) := by
  have l := kak_le hn h.2.2.2.2.2.1
  have hz := h.2.2.2.2.2.2.1
  refine ⟨fr_up hf (by unfold frRd; omega), ?_⟩
  show (0 : Int) = 0 ∧ m_up N 16 6 (tkS tp n t : Int) 16 6 = (tkS tp n t : Int) ∧ 0 ≤ m_up N 16 6 (tkS tp n t : Int) 21 3 ∧ m_up N 16 6 (tkS tp n t : Int) 21 3 ≤ 400
  rw [up_s, up_o (by omega), h.2.2.2.2.1]
  omega
theorem c_addN {z : Int} {a b : Int} (hX : XOK X) (hz : N 21 3 = z) (z0 : 0 ≤ z) (z1 : z < 400) : f_X8_add X 21 N a b = some (z, m_up (m_up (m_up N 22 z.toNat a) 23 z.toNat b) 21 3 (z + 1)) := by
  have e1 : (((xK X (21 + 1)).2 : Nat) : Int) = 400 := by rw [hX.2.2.2.2.2.1]; rfl
  have e2 : (((xK X (21 + 2)).2 : Nat) : Int) = 400 := by rw [hX.2.2.2.2.2.2.1]; rfl
  unfold f_X8_add f_X8_add_j42
  rw [e1, e2, if_pos (by omega), hz, if_pos z1, if_pos ⟨z0, z1⟩]
  dsimp only
  have e3 : (m_up N (21 + 1) z.toNat a) 21 3 = z := by rw [up_o (by omega)]; exact hz
  rw [e3, if_pos ⟨z0, z1⟩]
  have e4 : (m_up (m_up N (21 + 1) z.toNat a) (21 + 2) z.toNat b) 21 3 = z := by rw [up_o (by omega)]; exact e3
  rw [e4, up_s, w_id (x := z + 1) (by omega) (by omega), w_id (x := z + 1 - 1) (by omega) (by omega), show z + 1 - 1 = z by omega]
theorem c_addF {a b : Int} (hX : XOK X) (z0 : 0 ≤ N 21 3) (z1 : N 21 3 ≤ 400) : ∃ v M, f_X8_add X 21 N a b = some (v, M) ∧ (M 16 6 = N 16 6 ∧ 0 ≤ M 21 3 ∧ M 21 3 ≤ 400 ∧ Fr frRd N M) ∧ -1 ≤ v := by
  by_cases c : N 21 3 < 400
  · refine ⟨_, _, c_addN hX rfl z0 c, ⟨by rw [up_o (by omega), up_o (by omega), up_o (by omega)], by rw [up_s]; omega, by rw [up_s]; omega, fr_up (fr_up (fr_up fr_rfl (by unfold frRd; omega)) (by unfold frRd; omega)) (by unfold frRd; omega)⟩, by omega⟩
  · have e1 : (((xK X (21 + 1)).2 : Nat) : Int) = 400 := by rw [hX.2.2.2.2.2.1]; rfl
    refine ⟨m_w (N 21 3 - 1), N, ?_, ⟨rfl, z0, z1, fr_rfl⟩, by rw [w_id (by omega) (by omega)]; omega⟩
    unfold f_X8_add f_X8_add_j42
    rw [e1, if_pos (by omega), if_neg (by omega)]
theorem c_landF {a : Int} (hX : XOK X) (z0 : 0 ≤ N 21 3) (z1 : N 21 3 ≤ 400) : ∃ M, f_X8_landHere X 21 N a = some M ∧ M 16 6 = N 16 6 ∧ 0 ≤ M 21 3 ∧ M 21 3 ≤ 400 ∧ Fr frRd N M := by
  have e2 : (((xK X (21 + 2)).2 : Nat) : Int) = 400 := by rw [hX.2.2.2.2.2.2.1]; rfl
  unfold f_X8_landHere
  by_cases a0 : a < 0
  · rw [if_pos a0]; exact ⟨N, rfl, rfl, z0, z1, fr_rfl⟩
  · rw [if_neg a0]
    by_cases a1 : a < N 21 3
    · rw [if_pos a1, e2, if_pos (by omega)]
      exact ⟨_, rfl, up_o (by omega), by rw [up_o (by omega)]; exact z0, by rw [up_o (by omega)]; exact z1, fr_up fr_rfl (by unfold frRd; omega)⟩
    · rw [if_neg a1]; exact ⟨N, rfl, rfl, z0, z1, fr_rfl⟩
end CR
