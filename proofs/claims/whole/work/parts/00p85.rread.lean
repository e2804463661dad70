/-! reading: the reference's pile -/
def bdP (o : Int) : Int := if o < 31 then (if o = 30 then 1 else if o = 29 then 2 else if o = 28 then 3 else if o < 25 then (if o < 22 then 5 else 6) else 4) else 0
def naP (f : Nat → Int) : Nat → Nat
  | 0 => 0
  | p + 1 => naP f p + (if f p = 29 ∨ f p = 30 then 0 else 1)
def innP (f : Nat → Int) : Nat → Int
  | 0 => -1
  | p + 1 => if f p < 31 then innP f p else f p
def frSe (o k : Nat) : Prop := o = 75 ∨ o = 76 ∨ (o = 64 ∧ (k = 23 ∨ k = 29))
def PW (N : NN) (t z p : Nat) : Prop := N 64 23 = (z : Int) ∧ N 64 29 = (p : Int) ∧ z + naP (N 77) p ≤ t ∧ p ≤ t ∧ (∀ k, k < p → (0 ≤ N 78 k ∧ N 78 k < 400) ∧ 20 ≤ N 77 k ∧ N 77 k ≤ 32) ∧ ∀ k, k < z → 0 ≤ N 75 k ∧ N 75 k ≤ 30
def SgR (W : Int) (ord : Bool) (N : NN) (i j d : Nat) (D : Den) : Prop := Seg W (fun k => nA (N 75 k)) (fun k => nR ord (N 75 k) (N 76 k)) i j d D
section RP
variable {X : MX} {N : NN} {ord : Bool} {W : Int}
theorem ref_binds {o : Int} : f_X12_binds X N o = some (bdP o) := by
  unfold f_X12_binds f_X12_binds_j62 bdP
  split
  · split
    · rfl
    · split
      · rfl
      · split
        · rfl
        · split
          · split <;> rfl
          · rfl
  · rfl
theorem na_c {f g : Nat → Int} : ∀ p, (∀ k, k < p → f k = g k) → naP f p = naP g p
  | 0, _ => rfl
  | p + 1, h => by rw [naP, naP, na_c p fun k hk => h k (by omega), h p (by omega)]
theorem inn_c {f g : Nat → Int} : ∀ p, (∀ k, k < p → f k = g k) → innP f p = innP g p
  | 0, _ => rfl
  | p + 1, h => by rw [innP, innP, inn_c p fun k hk => h k (by omega), h p (by omega)]
theorem inn_up {f : Nat → Int} {p : Nat} : ∀ j, (∀ k, p ≤ k → k < p + j → f k < 31) → innP f (p + j) = innP f p
  | 0, _ => rfl
  | j + 1, h => by
    rw [show p + (j + 1) = (p + j) + 1 by omega, innP, if_pos (h (p + j) (by omega) (by omega))]
    exact inn_up j fun k a b => h k a (by omega)
theorem st_stop {p : Nat} {l : Int} (h : N 64 29 = (p : Int)) (hp : p ≤ 400) (hs : p = 0 ∨ bdP (N 77 (p - 1)) < l) : f_X12_settle X N l = some N := by
  unfold f_X12_settle
  rw [lp_end (t := N) ?_]
  · rfl
  · dsimp only
    unfold b_X12_settle_0
    rw [h]
    by_cases c : p = 0
    · rw [if_neg (by omega)]
    · rw [if_pos (by omega), w_id (by omega) (by omega), if_pos (by omega), show ((p : Int) - 1).toNat = p - 1 by omega, ref_binds, Option.bind_some, if_pos (by rcases hs with q | q; exact absurd q c; exact q)]
theorem st_pop {p z : Nat} {l : Int} (h : N 64 29 = (p : Int) + 1) (h2 : N 64 23 = (z : Int)) (hp : p < 400) (hz : z < 400) (hl : l ≤ bdP (N 77 p)) (n1 : N 77 p ≠ 29) (n2 : N 77 p ≠ 30) : f_X12_settle X N l = f_X12_settle X (m_up (m_up (m_up (m_up N 64 29 (p : Int)) 75 z (N 77 p)) 76 z 0) 64 23 ((z : Int) + 1)) l := by
  unfold f_X12_settle
  rw [lp_next (f := fun s => b_X12_settle_0 X s.1 s.2) (s := (N, l)) (s' := (m_up (m_up (m_up (m_up N 64 29 (p : Int)) 75 z (N 77 p)) 76 z 0) 64 23 ((z : Int) + 1), l))]
  dsimp only
  unfold b_X12_settle_0 f_X12_emit
  have e : ((p : Int) + 1 - 1) = (p : Int) := by omega
  rw [h, if_pos (by omega), e, w_id (x := (p : Int)) (by omega) (by omega), if_pos (by omega), Int.toNat_natCast, ref_binds, Option.bind_some, if_neg (by omega)]
  dsimp only
  have a1 : m_up N 64 29 (p : Int) 64 29 = (p : Int) := up_s
  have a2 : m_up N 64 29 (p : Int) 77 p = N 77 p := up_o (by omega)
  have a3 : m_up N 64 29 (p : Int) 64 23 = (z : Int) := by rw [up_k (by omega)]; exact h2
  rw [a1, Int.toNat_natCast, a2, if_pos (by omega), if_neg n1, if_pos (by omega), if_neg n2, if_pos (by omega), a3, if_pos (by omega), Int.toNat_natCast]
  have a4 : ∀ v, m_up (m_up N 64 29 (p : Int)) 75 z v 64 23 = (z : Int) := fun v => by rw [up_o (by omega)]; exact a3
  rw [a4, if_pos (by omega), Int.toNat_natCast]
  have a5 : ∀ v, m_up (m_up (m_up N 64 29 (p : Int)) 75 z v) 76 z 0 64 23 = (z : Int) := fun v => by rw [up_o (by omega)]; exact a4 v
  rw [a5, w_id (x := (z : Int) + 1) (by omega) (by omega)]
  rfl
theorem st_popj {p : Nat} {l : Int} (h : N 64 29 = (p : Int) + 1) (hp : p < 400) (h78 : 0 ≤ N 78 p ∧ N 78 p < 400) (hl : l ≤ bdP (N 77 p)) (n1 : N 77 p = 29 ∨ N 77 p = 30) : f_X12_settle X N l = f_X12_settle X (m_up (m_up N 64 29 (p : Int)) 76 (N 78 p).toNat (N 64 23)) l := by
  unfold f_X12_settle
  rw [lp_next (f := fun s => b_X12_settle_0 X s.1 s.2) (s := (N, l)) (s' := (m_up (m_up N 64 29 (p : Int)) 76 (N 78 p).toNat (N 64 23), l))]
  dsimp only
  unfold b_X12_settle_0 f_X12_settle_l0_j63
  have e : ((p : Int) + 1 - 1) = (p : Int) := by omega
  rw [h, if_pos (by omega), e, w_id (x := (p : Int)) (by omega) (by omega), if_pos (by omega), Int.toNat_natCast, ref_binds, Option.bind_some, if_neg (by omega)]
  dsimp only
  have a1 : m_up N 64 29 (p : Int) 64 29 = (p : Int) := up_s
  have a2 : m_up N 64 29 (p : Int) 77 p = N 77 p := up_o (by omega)
  have a4 : m_up N 64 29 (p : Int) 78 p = N 78 p := up_o (by omega)
  have a3 : m_up N 64 29 (p : Int) 64 23 = N 64 23 := up_k (by omega)
  rw [a1, Int.toNat_natCast, a2, a3, a4, if_pos (by omega)]
  by_cases c : N 77 p = 29
  · rw [if_pos c, if_pos (by omega), if_pos h78]
  · rw [if_neg c, if_pos (by omega), if_pos (show N 77 p = 30 by omega), if_pos (by omega), if_pos h78]
theorem st_ok : ∀ (p z t : Nat) (N : NN) (l m : Int), 1 ≤ l → l ≤ m → t ≤ 400 → PW N t z p → ∃ M z' p', f_X12_settle X N m = some M ∧ f_X12_settle X N l = f_X12_settle X M l ∧ PW M t z' p' ∧ p' ≤ p ∧ z ≤ z' ∧ (p' = 0 ∨ bdP (N 77 (p' - 1)) < m) ∧ Fr frSe N M ∧ (∀ k, p' ≤ k → k < p → m ≤ bdP (N 77 k))
  | 0, z, t, N, l, m, hl, hlm, ht, h => ⟨N, z, 0, st_stop h.2.1 (by omega) (Or.inl rfl), rfl, h, Nat.le_refl _, Nat.le_refl _, Or.inl rfl, fr_rfl, fun k a b => by omega⟩
  | p + 1, z, t, N, l, m, hl, hlm, ht, h => by
    obtain ⟨h1, h2, h3, h4, h5, h6⟩ := h
    by_cases c : bdP (N 77 p) < m
    · exact ⟨N, z, p + 1, st_stop h2 (by omega) (Or.inr c), rfl, ⟨h1, h2, h3, h4, h5, h6⟩, Nat.le_refl _, Nat.le_refl _, Or.inr c, fr_rfl, fun k a b => by omega⟩
    have hp := h5 p (by omega)
    have e2 : N 64 29 = (p : Int) + 1 := by rw [h2]; omega
    have fin : ∀ M1 z1, f_X12_settle X N m = f_X12_settle X M1 m → f_X12_settle X N l = f_X12_settle X M1 l → PW M1 t z1 p → Fr frSe N M1 → z ≤ z1 → ∃ M z' p', f_X12_settle X N m = some M ∧ f_X12_settle X N l = f_X12_settle X M l ∧ PW M t z' p' ∧ p' ≤ p + 1 ∧ z ≤ z' ∧ (p' = 0 ∨ bdP (N 77 (p' - 1)) < m) ∧ Fr frSe N M ∧ (∀ k, p' ≤ k → k < p + 1 → m ≤ bdP (N 77 k)) := by
      intro M1 z1 q1 q2 q3 q4 q5
      obtain ⟨M, z', p', r1, r2, r3, r4, r5, r6, r7, r8⟩ := st_ok p z1 t M1 l m hl hlm ht q3
      have e7 : ∀ k, M1 77 k = N 77 k := fun k => q4 77 k (by unfold frSe; omega)
      refine ⟨M, z', p', by rw [q1]; exact r1, by rw [q2]; exact r2, r3, by omega, by omega, by rw [e7] at r6; exact r6, fr_tr q4 r7, fun k a b => ?_⟩
      by_cases d : k = p
      · rw [d]; omega
      · have := r8 k a (by omega); rw [e7] at this; exact this
    by_cases j : N 77 p = 29 ∨ N 77 p = 30
    · refine fin (m_up (m_up N 64 29 (p : Int)) 76 (N 78 p).toNat (N 64 23)) z (st_popj e2 (by omega) hp.1 (by omega) j) (st_popj e2 (by omega) hp.1 (by omega) j) ⟨?_, ?_, ?_, by omega, ?_, ?_⟩ (fr_up (fr_up fr_rfl (by unfold frSe; omega)) (by unfold frSe; omega)) (Nat.le_refl _)
      · rw [up_o (by omega), up_k (by omega)]; exact h1
      · rw [up_o (by omega), up_s]
      · rw [naP, if_pos j] at h3
        rw [up_of (by omega), up_of (by omega)]; omega
      · intro k hk
        rw [up_o (by omega), up_o (by omega), up_o (by omega), up_o (by omega)]; exact h5 k (by omega)
      · intro k hk
        rw [up_o (by omega), up_o (by omega)]; exact h6 k hk
    · rw [naP, if_neg j] at h3
      have b31 : N 77 p < 31 := Classical.byContradiction fun y => by unfold bdP at c; rw [if_neg y] at c; omega
      refine fin (m_up (m_up (m_up (m_up N 64 29 (p : Int)) 75 z (N 77 p)) 76 z 0) 64 23 ((z : Int) + 1)) (z + 1) (st_pop e2 h1 (by omega) (by omega) (by omega) (fun y => j (Or.inl y)) (fun y => j (Or.inr y))) (st_pop e2 h1 (by omega) (by omega) (by omega) (fun y => j (Or.inl y)) (fun y => j (Or.inr y))) ⟨?_, ?_, ?_, by omega, ?_, ?_⟩ (fr_up (fr_up (fr_up (fr_up fr_rfl (by unfold frSe; omega)) (by unfold frSe; omega)) (by unfold frSe; omega)) (by unfold frSe; omega)) (by omega)
      · rw [up_s]; omega
      · rw [up_k (by omega), up_o (by omega), up_o (by omega), up_s]
      · rw [up_of (by omega), up_of (by omega), up_of (by omega), up_of (by omega)]; omega
      · intro k hk
        rw [up_o (by omega), up_o (by omega), up_o (by omega), up_o (by omega), up_o (by omega), up_o (by omega), up_o (by omega), up_o (by omega)]; exact h5 k (by omega)
      · intro k hk
        rw [up_o (by omega), up_o (by omega)]
        by_cases d : k = z
        · rw [d, up_s]; omega
        · rw [up_k d, up_o (by omega)]; exact h6 k (by omega)
theorem ref_inner {p : Nat} (h : N 64 29 = (p : Int)) (hp : p ≤ 400) : f_X12_inner X N = some (innP (N 77) p) := by
  unfold f_X12_inner
  have K : ∀ j i : Nat, i + j = p → lp (fun s => b_X12_inner_4 X N s.1 s.2) (innP (N 77) i, (i : Int)) = some (innP (N 77) p) := by
    intro j
    induction j with
    | zero =>
      intro i hi
      rw [lp_end (t := innP (N 77) i)]
      · rw [show i = p by omega]
      · dsimp only; unfold b_X12_inner_4; rw [h, if_neg (by omega)]
    | succ j ih =>
      intro i hi
      have B : b_X12_inner_4 X N (innP (N 77) i) (i : Int) = some (.inl (innP (N 77) (i + 1), ((i + 1 : Nat) : Int))) := by
        unfold b_X12_inner_4 f_X12_inner_l4_j33
        rw [h, if_pos (by omega), if_pos (by omega), Int.toNat_natCast, w_id (by omega) (by omega), innP, show ((i + 1 : Nat) : Int) = (i : Int) + 1 by omega]
        by_cases c : N 77 i < 31
        · rw [if_pos c, if_pos c]
        · rw [if_neg c, if_neg c, if_pos (by omega)]
      rw [lp_next (f := fun s => b_X12_inner_4 X N s.1 s.2) (s := (innP (N 77) i, (i : Int))) B]
      exact ih (i + 1) (by omega)
  have := K p 0 (by omega)
  rw [show innP (N 77) 0 = -1 from rfl, show ((0 : Nat) : Int) = 0 from rfl] at this
  rw [this]
  rfl
/-- between p0 and p only arithmetic: then the entry below decides -/
theorem ref_isCompared {p p0 : Nat} (h : N 64 29 = (p : Int)) (hp : p ≤ 400) (h0 : p0 ≤ p) (ha : ∀ k, p0 ≤ k → k < p → 20 ≤ N 77 k ∧ N 77 k ≤ 24) (hb : p0 = 0 ∨ ¬ (20 ≤ N 77 (p0 - 1) ∧ N 77 (p0 - 1) ≤ 24)) : f_X12_isCompared X N = some (if 0 < p0 ∧ 25 ≤ N 77 (p0 - 1) ∧ N 77 (p0 - 1) ≤ 27 then 1 else 0) := by
  unfold f_X12_isCompared f_X12_isCompared_j63 f_X12_isCompared_j64
  have K : ∀ j : Nat, p0 + j ≤ p → lp (fun s => b_X12_isCompared_7 X N s) (((p0 + j : Nat) : Int) - 1) = some ((p0 : Int) - 1) := by
    intro j
    induction j with
    | zero =>
      intro _
      rw [lp_end (t := ((p0 : Int) - 1))]
      unfold b_X12_isCompared_7
      by_cases c : p0 = 0
      · rw [if_pos (by omega)]; rfl
      · rw [if_neg (by omega), if_pos (by omega), show (((p0 + 0 : Nat) : Int) - 1).toNat = p0 - 1 by omega, ref_in, Option.bind_some, if_neg (show ¬ (20 ≤ N 77 (p0 - 1) ∧ N 77 (p0 - 1) ≤ 24) by rcases hb with q | q; exact absurd q c; exact q), i00]; rfl
    | succ j ih =>
      intro hj
      have B : b_X12_isCompared_7 X N (((p0 + (j + 1) : Nat) : Int) - 1) = some (.inl (((p0 + j : Nat) : Int) - 1)) := by
        unfold b_X12_isCompared_7
        rw [if_neg (by omega), if_pos (by omega), show (((p0 + (j + 1) : Nat) : Int) - 1).toNat = p0 + j by omega, ref_in, Option.bind_some, if_pos (ha (p0 + j) (by omega) (by omega)), i10, w_id (by omega) (by omega)]
        congr 2
        omega
      rw [lp_next B]
      exact ih (by omega)
  have := K (p - p0) (by omega)
  rw [h, w_id (by omega) (by omega), show (p : Int) - 1 = ((p0 + (p - p0) : Nat) : Int) - 1 by omega, this, Option.bind_some]
  by_cases c : p0 = 0
  · rw [if_pos (by omega), if_pos (by omega), if_neg (by omega)]
  · rw [if_neg (by omega), if_pos (by omega), show ((p0 : Int) - 1).toNat = p0 - 1 by omega, ref_in, Option.bind_some]
    by_cases d : 25 ≤ N 77 (p0 - 1) ∧ N 77 (p0 - 1) ≤ 27
    · rw [if_pos d, i10, if_pos (by omega), if_pos ⟨by omega, d⟩]
    · rw [if_neg d, i00, if_pos (by omega), if_neg (fun y => d y.2)]
end RP
