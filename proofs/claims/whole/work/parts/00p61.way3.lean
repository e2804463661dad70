/-! way: the class's walk -/
def edC (th dy : Nat → Nat → Int) (h n : Nat) : List Ed := ((List.range n).filter fun L => decide (th h L < 10)).map fun L => (L, 10 - th h L, dy h L)
theorem edC_s (th dy : Nat → Nat → Int) (h n : Nat) : edC th dy h (n + 1) = edC th dy h n ++ (if th h n < 10 then [(n, 10 - th h n, dy h n)] else []) := by
  unfold edC
  rw [List.range_succ, List.filter_append, List.map_append]
  congr 1
  by_cases c : th h n < 10
  · rw [if_pos c]; simp [c]
  · rw [if_neg c]; simp [c]
theorem edC_srt (th dy : Nat → Nat → Int) (h n : Nat) : (edC th dy h n).Pairwise (fun a b => a.1 < b.1) := by
  unfold edC
  rw [List.pairwise_map]
  exact List.Pairwise.filter _ List.pairwise_lt_range
theorem wyN_g {E : Nat → List Ed} {g : Nat} (e : Nat) (P : List Nat) (z d : Int) : wyN E g e g P z d = [(m_tens e * z, d, P)] := by
  cases e with
  | zero => rw [wyN, if_pos rfl]
  | succ e => rw [wyN, if_pos rfl]
theorem wyN_n {E : Nat → List Ed} {g e h : Nat} (P : List Nat) (z d : Int) (hh : h ≠ g) : wyN E g (e + 1) h P z d = (E h).flatMap fun x => if x.1 ∈ P then [] else wyN E g e x.1 (P ++ [x.1]) (z * x.2.1) (d + x.2.2) := by rw [wyN, if_neg hh]
theorem tens_s {e : Nat} (h : e ≤ 4) : m_tens (e + 1) = 10 * m_tens e := by
  have t : ∀ i : Fin 5, m_tens (i.val + 1) = 10 * m_tens i.val := by decide
  exact t ⟨e, by omega⟩
def WBc (N : NN) (b : Option Cd) : Prop := match b with
  | none => N 53 6 = 0 ∧ N 53 7 = 0 ∧ N 53 8 = -1
  | some x => N 53 6 = x.1 ∧ N 53 7 = x.2.1 ∧ N 53 8 = (x.2.2.length : Int) - 1 ∧ 1 ≤ x.2.2.length ∧ x.2.2.length ≤ 6 ∧ ∀ i v : Nat, x.2.2[i]? = some v → N 57 i = (v : Int)
def PTc (N : NN) (P : List Nat) : Prop := ∀ i v : Nat, P[i]? = some v → N 56 i = (v : Int) ∧ v < 6
def frWk (o k : Nat) : Prop := (o = 53 ∧ (k = 6 ∨ k = 7 ∨ k = 8)) ∨ o = 56 ∨ o = 57
theorem wbc_fr {N N' : NN} {b : Option Cd} (h : WBc N b) (h1 : N' 53 6 = N 53 6) (h2 : N' 53 7 = N 53 7) (h3 : N' 53 8 = N 53 8) (h4 : N' 57 = N 57) : WBc N' b := by
  cases b with
  | none => exact ⟨h1.trans h.1, h2.trans h.2.1, h3.trans h.2.2⟩
  | some x => exact ⟨h1.trans h.1, h2.trans h.2.1, h3.trans h.2.2.1, h.2.2.2.1, h.2.2.2.2.1, fun i v q => by rw [h4]; exact h.2.2.2.2.2 i v q⟩
section WK
variable {X : MX}
theorem c_wyEnd {fr : NN → Int → Int → Int → Int → Option NN} {N : NN} {P : List Nat} {k : Nat} {l d : Int} (hl : P.length = k + 1) (hk : k ≤ 5) (hP : PTc N P) : Ok (f_X9_walk_j42 fr X N (k : Int) l d) (fun N' => WBc N' (some (l, d, P)) ∧ Fr frWk N N' ∧ ∀ i, N' 56 i = N 56 i) := by
  unfold f_X9_walk_j42
  rw [w_id (x := (k : Int) + 1) (by omega) (by omega)]
  dsimp only
  rw [if_pos (by omega), show ((k : Int) + 1).toNat = k + 1 by omega, show (0 : Int).toNat = 0 from rfl]
  have ec : ∀ o j, m_cpy (m_up (m_up (m_up N 53 6 l) 53 7 d) 53 8 (k : Int)) 56 0 57 0 (k + 1) o j = if o = 57 then (if j < k + 1 then N 56 j else N 57 j) else (m_up (m_up (m_up N 53 6 l) 53 7 d) 53 8 (k : Int)) o j := by
    intro o j
    unfold m_cpy
    by_cases c : o = 57
    · rw [if_pos c, if_pos c]
      by_cases c2 : j < k + 1
      · rw [if_pos c2, if_pos (by omega), up_o (by omega), up_o (by omega), up_o (by omega), show 0 + (j - 0) = j by omega]
      · rw [if_neg c2, if_neg (by omega), c, up_o (by omega), up_o (by omega), up_o (by omega)]
    · rw [if_neg c, if_neg c]
  refine ok_ret ⟨⟨?_, ?_, ?_, by show 1 ≤ P.length; omega, by show P.length ≤ 6; omega, fun i v q => ?_⟩, fun o j n => ?_, fun i => ?_⟩
  · rw [ec, if_neg (by omega), up_k (by omega), up_k (by omega), up_s]
  · rw [ec, if_neg (by omega), up_k (by omega), up_s]
  · rw [ec, if_neg (by omega), up_s]; show (k : Int) = (P.length : Int) - 1; omega
  · rw [ec, if_pos rfl, if_pos (by have z : i < P.length := get_lt q; omega)]; exact (hP i v q).1
  · rw [ec]
    unfold frWk at n
    by_cases c : o = 57
    · omega
    · rw [if_neg c]
      by_cases c2 : o = 53
      · subst c2
        rw [up_k (by omega), up_k (by omega), up_k (by omega)]
      · rw [up_o c2, up_o c2, up_o c2]
  · rw [ec, if_neg (by omega), up_o (by omega), up_o (by omega), up_o (by omega)]
theorem c_walk {th dy : Nat → Nat → Int} {n g : Nat} (hn : n ≤ 6) (hg : g < 6) (hT : ∀ a b : Nat, a < 6 → b < 6 → 0 ≤ th a b ∧ th a b ≤ 10 ∧ 0 ≤ dy a b ∧ dy a b ≤ 30) :
    ∀ (e f h k S : Nat) (P : List Nat) (z d : Int) (b : Option Cd) (N : NN), P.length = k + 1 → k + e = 5 → e + 1 ≤ f → P[k]? = some h → PTc N P → (S < 64 ∧ ∀ v : Nat, v < 6 → (bit (S : Int) (v : Int) ≠ 0 ↔ v ∈ P)) → 0 ≤ z → m_tens e * z ≤ 100000 → 0 ≤ d → d ≤ 30 * (k : Int) →
    N 53 4 = (n : Int) → N 53 5 = (g : Int) → (∀ a b : Nat, a < 6 → b < 6 → tbT N a b = th a b ∧ tbD N a b = dy a b) → WBc N b →
    Ok (f_X9_walk X f N (k : Int) (S : Int) (m_tens e * z) d) (fun N' => WBc N' ((wyN (fun h => edC th dy h n) g e h P z d).foldl upC b) ∧ Fr frWk N N' ∧ ∀ i, i ≤ k → N' 56 i = N 56 i) := by
  intro e
  induction e with
  | zero =>
    intro f h k S P z d b N hl hk hf hP hPT hS z0 z1 d0 d1 e4 e5 eT hb
    obtain ⟨f', rfl⟩ : ∃ f', f = f' + 1 := ⟨f - 1, by omega⟩
    have hp := hPT k h hP
    have lz : 0 ≤ m_tens 0 * z := Int.mul_nonneg (Int.le_of_lt (tens_p 0)) z0
    rw [f_X9_walk]
    unfold f_X9_walk_step
    dsimp only
    rw [gdp (by omega), Int.toNat_natCast, hp.1, e5]
    by_cases c : h = g
    · subst c
      rw [if_pos rfl, wyN_g]
      show Ok _ (fun N' => WBc N' (upC b (m_tens 0 * z, d, P)) ∧ _)
      cases b with
      | none =>
        obtain ⟨b1, b2, b3⟩ := hb
        by_cases q : 0 < m_tens 0 * z
        · rw [b1, if_pos q]
          have : upC none (m_tens 0 * z, d, P) = some (m_tens 0 * z, d, P) := if_pos q
          rw [this]
          refine ok_mono (c_wyEnd hl (by omega) hPT) ?_
          rintro o ⟨q1, q2, q3⟩
          exact ⟨q1, q2, fun i _ => q3 i⟩
        · rw [b1, if_neg q, if_pos (by omega), b2, if_neg (by omega)]
          have : upC none (m_tens 0 * z, d, P) = none := if_neg q
          rw [this]
          exact ok_ret ⟨⟨b1, b2, b3⟩, fr_rfl, fun i _ => rfl⟩
      | some x =>
        have hb' := hb
        obtain ⟨b1, b2, b3⟩ := hb'
        have K : (x.1 < m_tens 0 * z ∨ (m_tens 0 * z = x.1 ∧ d < x.2.1)) → Ok (f_X9_walk_j42 (f_X9_walk X f') X N (k : Int) (m_tens 0 * z) d) (fun N' => WBc N' (upC (some x) (m_tens 0 * z, d, P)) ∧ Fr frWk N N' ∧ ∀ i, i ≤ k → N' 56 i = N 56 i) := by
          intro q
          have : upC (some x) (m_tens 0 * z, d, P) = some (m_tens 0 * z, d, P) := if_pos q
          rw [this]
          refine ok_mono (c_wyEnd hl (by omega) hPT) ?_
          rintro o ⟨q1, q2, q3⟩
          exact ⟨q1, q2, fun i _ => q3 i⟩
        have K2 : ¬ (x.1 < m_tens 0 * z ∨ (m_tens 0 * z = x.1 ∧ d < x.2.1)) → Ok (some N) (fun N' => WBc N' (upC (some x) (m_tens 0 * z, d, P)) ∧ Fr frWk N N' ∧ ∀ i, i ≤ k → N' 56 i = N 56 i) := by
          intro q
          have : upC (some x) (m_tens 0 * z, d, P) = some x := if_neg q
          rw [this]
          exact ok_ret ⟨hb, fr_rfl, fun i _ => rfl⟩
        rw [b1, b2]
        by_cases q1 : x.1 < m_tens 0 * z
        · rw [if_pos q1]; exact K (Or.inl q1)
        rw [if_neg q1]
        by_cases q2 : m_tens 0 * z = x.1
        · rw [if_pos q2]
          by_cases q3 : d < x.2.1
          · rw [if_pos q3]; exact K (Or.inr ⟨q2, q3⟩)
          · rw [if_neg q3]; exact K2 (by omega)
        · rw [if_neg q2]; exact K2 (by omega)
    · rw [if_neg (by omega)]
      have : wyN (fun h => edC th dy h n) g 0 h P z d = [] := by rw [wyN, if_neg c]
      rw [this]
      have H : lp (fun s => b_X9_walk_78 (f_X9_walk X f') X s.1 s.2.1 s.2.2.1 s.2.2.2.1 s.2.2.2.2.1 s.2.2.2.2.2.1 s.2.2.2.2.2.2) (N, (k : Int), (S : Int), m_tens 0 * z, d, (h : Int), 0) = some N := by
        refine lp_end ?_
        dsimp only
        unfold b_X9_walk_78
        rw [e4]
        by_cases q : (0 : Int) < (n : Int)
        · rw [if_pos q, if_neg (by omega)]
        · rw [if_neg q]
      rw [H]
      exact ok_ret ⟨hb, fr_rfl, fun i _ => rfl⟩
  | succ e ih =>
    intro f h k S P z d b N hl hk hf hP hPT hS z0 z1 d0 d1 e4 e5 eT hb
    obtain ⟨f', rfl⟩ : ∃ f', f = f' + 1 := ⟨f - 1, by omega⟩
    have hp := hPT k h hP
    have lz : 0 ≤ m_tens (e + 1) * z := Int.mul_nonneg (Int.le_of_lt (tens_p (e + 1))) z0
    rw [f_X9_walk]
    unfold f_X9_walk_step
    dsimp only
    rw [gdp (by omega), Int.toNat_natCast, hp.1, e5]
    by_cases c : h = g
    · subst c
      rw [if_pos rfl, wyN_g]
      show Ok _ (fun N' => WBc N' (upC b (m_tens (e + 1) * z, d, P)) ∧ _)
      cases b with
      | none =>
        obtain ⟨b1, b2, b3⟩ := hb
        by_cases q : 0 < m_tens (e + 1) * z
        · rw [b1, if_pos q]
          have : upC none (m_tens (e + 1) * z, d, P) = some (m_tens (e + 1) * z, d, P) := if_pos q
          rw [this]
          refine ok_mono (c_wyEnd hl (by omega) hPT) ?_
          rintro o ⟨q1, q2, q3⟩
          exact ⟨q1, q2, fun i _ => q3 i⟩
        · rw [b1, if_neg q, if_pos (by omega), b2, if_neg (by omega)]
          have : upC none (m_tens (e + 1) * z, d, P) = none := if_neg q
          rw [this]
          exact ok_ret ⟨⟨b1, b2, b3⟩, fr_rfl, fun i _ => rfl⟩
      | some x =>
        have hb' := hb
        obtain ⟨b1, b2, b3⟩ := hb'
        have K : (x.1 < m_tens (e + 1) * z ∨ (m_tens (e + 1) * z = x.1 ∧ d < x.2.1)) → Ok (f_X9_walk_j42 (f_X9_walk X f') X N (k : Int) (m_tens (e + 1) * z) d) (fun N' => WBc N' (upC (some x) (m_tens (e + 1) * z, d, P)) ∧ Fr frWk N N' ∧ ∀ i, i ≤ k → N' 56 i = N 56 i) := by
          intro q
          have : upC (some x) (m_tens (e + 1) * z, d, P) = some (m_tens (e + 1) * z, d, P) := if_pos q
          rw [this]
          refine ok_mono (c_wyEnd hl (by omega) hPT) ?_
          rintro o ⟨q1, q2, q3⟩
          exact ⟨q1, q2, fun i _ => q3 i⟩
        have K2 : ¬ (x.1 < m_tens (e + 1) * z ∨ (m_tens (e + 1) * z = x.1 ∧ d < x.2.1)) → Ok (some N) (fun N' => WBc N' (upC (some x) (m_tens (e + 1) * z, d, P)) ∧ Fr frWk N N' ∧ ∀ i, i ≤ k → N' 56 i = N 56 i) := by
          intro q
          have : upC (some x) (m_tens (e + 1) * z, d, P) = some x := if_neg q
          rw [this]
          exact ok_ret ⟨hb, fr_rfl, fun i _ => rfl⟩
        rw [b1, b2]
        by_cases q1 : x.1 < m_tens (e + 1) * z
        · rw [if_pos q1]; exact K (Or.inl q1)
        rw [if_neg q1]
        by_cases q2 : m_tens (e + 1) * z = x.1
        · rw [if_pos q2]
          by_cases q3 : d < x.2.1
          · rw [if_pos q3]; exact K (Or.inr ⟨q2, q3⟩)
          · rw [if_neg q3]; exact K2 (by omega)
        · rw [if_neg q2]; exact K2 (by omega)
    · rw [if_neg (by omega), wyN_n P z d c]
      have et := tens_s (e := e) (by omega)
      have tp := tens_p e
      have zt : 0 ≤ m_tens e * z := Int.mul_nonneg (Int.le_of_lt tp) z0
      have el : m_tens (e + 1) * z = 10 * (m_tens e * z) := by rw [et, Int.mul_assoc]
      obtain ⟨ch, hch⟩ : ∃ ch : Ed → List Cd, ch = fun x => if x.1 ∈ P then [] else wyN (fun h => edC th dy h n) g e x.1 (P ++ [x.1]) (z * x.2.1) (d + x.2.2) := ⟨_, rfl⟩
      rw [← hch]
      have H : Ok (lp (fun s => b_X9_walk_78 (f_X9_walk X f') X s.1 s.2.1 s.2.2.1 s.2.2.2.1 s.2.2.2.2.1 s.2.2.2.2.2.1 s.2.2.2.2.2.2) (N, (k : Int), (S : Int), m_tens (e + 1) * z, d, (h : Int), 0)) (fun N' => WBc N' (((edC th dy h n).flatMap ch).foldl upC b) ∧ Fr frWk N N' ∧ ∀ i, i ≤ k → N' 56 i = N 56 i) := by
        refine ok_up (fun i s => ∃ M, s = (M, (k : Int), (S : Int), m_tens (e + 1) * z, d, (h : Int), i) ∧ WBc M (((edC th dy h i.toNat).flatMap ch).foldl upC b) ∧ Fr frWk N M ∧ ∀ i, i ≤ k → M 56 i = N 56 i) (n : Int) (i0 := 0) ?_ ?_ (by omega) ⟨N, rfl, hb, fr_rfl, fun i _ => rfl⟩
        · rintro i s a0 a1 ⟨M, rfl, hB, hfr, hpr⟩
          obtain ⟨L, rfl⟩ := Int.eq_ofNat_of_zero_le a0
          rw [Int.toNat_natCast] at hB
          rw [show ((L : Int) + 1).toNat = L + 1 by omega, edC_s, List.flatMap_append, List.foldl_append]
          have hTL := hT h L hp.2 (by omega)
          have mT : ∀ a b : Nat, a < 6 → b < 6 → tbT M a b = th a b ∧ tbD M a b = dy a b := fun a b ha hb => by
            unfold tbT tbD
            rw [hfr 54 _ (by unfold frWk; omega), hfr 55 _ (by unfold frWk; omega)]
            exact eT a b ha hb
          have m4 : M 53 4 = (n : Int) := by rw [hfr 53 4 (by unfold frWk; omega)]; exact e4
          have m5 : M 53 5 = (g : Int) := by rw [hfr 53 5 (by unfold frWk; omega)]; exact e5
          have skip : (if th h L < 10 then [(L, 10 - th h L, dy h L)] else []).flatMap ch = [] → Ok (some (.inl (M, (k : Int), (S : Int), m_tens (e + 1) * z, d, (h : Int), (L : Int) + 1)) : Option ((NN × Int × Int × Int × Int × Int × Int) ⊕ NN)) (fun o => ∃ M, o = .inl (M, (k : Int), (S : Int), m_tens (e + 1) * z, d, (h : Int), (L : Int) + 1) ∧ WBc M (((if th h L < 10 then [(L, 10 - th h L, dy h L)] else []).flatMap ch).foldl upC (((edC th dy h L).flatMap ch).foldl upC b)) ∧ Fr frWk N M ∧ ∀ i, i ≤ k → M 56 i = N 56 i) := by
            intro q
            rw [q]
            exact ok_ret ⟨M, rfl, hB, hfr, hpr⟩
          have G : Ok (b_X9_walk_78 (f_X9_walk X f') X M (k : Int) (S : Int) (m_tens (e + 1) * z) d (h : Int) (L : Int)) (fun o => ∃ M, o = .inl (M, (k : Int), (S : Int), m_tens (e + 1) * z, d, (h : Int), (L : Int) + 1) ∧ WBc M (((if th h L < 10 then [(L, 10 - th h L, dy h L)] else []).flatMap ch).foldl upC (((edC th dy h L).flatMap ch).foldl upC b)) ∧ Fr frWk N M ∧ ∀ i, i ≤ k → M 56 i = N 56 i) := by
            unfold b_X9_walk_78 f_X9_walk_l78_j171
            rw [m4, if_pos a1, if_pos (show (k : Int) < 5 by omega), bit_id (by omega) (by omega) (by omega) (by omega), w_id (x := (L : Int) + 1) (by omega) (by omega)]
            by_cases cL : L ∈ P
            · rw [if_neg ((hS.2 L (by omega)).2 cL)]
              refine skip ?_
              by_cases q : th h L < 10
              · rw [if_pos q, List.flatMap_cons, List.flatMap_nil, List.append_nil, hch]
                exact if_pos cL
              · rw [if_neg q]; rfl
            have bz : bit (S : Int) (L : Int) = 0 := Classical.byContradiction fun q => cL ((hS.2 L (by omega)).1 q)
            rw [if_pos bz]
            simp (disch := omega) only [w_id (x := (h : Int) * 6), w_id (x := (h : Int) * 6 + (L : Int)), w_id (x := (k : Int) + 1), gdp]
            rw [show ((h : Int) * 6 + (L : Int)).toNat = 6 * h + L by omega, show ((k : Int) + 1).toNat = k + 1 by omega]
            have q1 : M 54 (6 * h + L) = th h L := (mT h L hp.2 (by omega)).1
            rw [q1]
            by_cases q : th h L < 10
            case neg =>
              rw [if_neg q]
              exact skip (by rw [if_neg q]; rfl)
            rw [if_pos q]
            have q2 : (m_up M 56 (k + 1) (L : Int)) 54 (6 * h + L) = th h L := by rw [up_o (by omega)]; exact q1
            have q3 : (m_up M 56 (k + 1) (L : Int)) 55 (6 * h + L) = dy h L := by rw [up_o (by omega)]; exact (mT h L hp.2 (by omega)).2
            rw [q2, q3]
            have zf : m_tens e * z * (10 - th h L) ≤ m_tens e * z * 10 := Int.mul_le_mul_of_nonneg_left (by omega) zt
            have zf0 : 0 ≤ m_tens e * z * (10 - th h L) := Int.mul_nonneg zt (by omega)
            rw [el, div_id (by omega) (by omega) (by omega) (by omega), Int.mul_ediv_cancel_left _ (by omega), w_id (x := 10 - th h L) (by omega) (by omega), w_id (x := m_tens e * z * (10 - th h L)) (by omega) (by omega), w_id (x := d + dy h L) (by omega) (by omega), Int.mul_assoc, shl1_id (by omega) (by omega), Int.toNat_natCast]
            have pL : 2 ^ L < 2 ^ 6 := Nat.pow_lt_pow_right (by omega) (by omega)
            rw [or_id (by omega) (by omega)]
            have eP : (if th h L < 10 then [(L, 10 - th h L, dy h L)] else []).flatMap ch = wyN (fun h => edC th dy h n) g e L (P ++ [L]) (z * (10 - th h L)) (d + dy h L) := by
              rw [if_pos q, List.flatMap_cons, List.flatMap_nil, List.append_nil, hch]
              exact if_neg cL
            rw [eP]
            have I := ih f' L (k + 1) (S ||| 2 ^ L) (P ++ [L]) (z * (10 - th h L)) (d + dy h L) (((edC th dy h L).flatMap ch).foldl upC b) (m_up M 56 (k + 1) (L : Int)) (by rw [List.length_append, hl]; rfl) (by omega) (by omega)
              (by rw [← hl, List.getElem?_append_right (Nat.le_refl _), Nat.sub_self]; rfl)
              (by
                intro i v hv
                rcases app_g hv with hv' | ⟨hv1, hv2⟩
                · have := get_lt hv'
                  rw [up_k (by omega), hpr i (by omega)]
                  exact hPT i v hv'
                · subst hv2
                  rw [hv1, hl, up_s]
                  exact ⟨rfl, by omega⟩)
              ⟨Nat.or_lt_two_pow (n := 6) hS.1 pL, fun v hv => by
                rw [bit_or, List.mem_append, List.mem_singleton]
                by_cases w : v = L
                · rw [if_pos w]; exact ⟨fun _ => Or.inr w, fun _ => by omega⟩
                · rw [if_neg w]
                  constructor
                  · intro y; exact Or.inl ((hS.2 v hv).1 y)
                  · rintro (y | y)
                    · exact (hS.2 v hv).2 y
                    · exact absurd y w⟩
              (Int.mul_nonneg z0 (by omega)) (by rw [← Int.mul_assoc]; omega) (by omega) (by omega)
              (by rw [up_o (by omega)]; exact m4) (by rw [up_o (by omega)]; exact m5)
              (fun a b ha hb => by unfold tbT tbD; rw [up_o (by omega), up_o (by omega)]; exact mT a b ha hb)
              (wbc_fr hB (up_o (by omega)) (up_o (by omega)) (up_o (by omega)) (up_of (by omega)))
            rw [show ((k + 1 : Nat) : Int) = (k : Int) + 1 by omega] at I
            refine ok_bind I ?_
            rintro M8 ⟨r1, r2, r3⟩
            refine ok_ret ⟨M8, rfl, r1, fr_tr hfr (fr_tr (fr_up fr_rfl (by unfold frWk; omega)) r2), fun i hi => ?_⟩
            rw [r3 i (by omega), up_k (by omega)]
            exact hpr i hi
          refine ok_mono G ?_
          rintro o ⟨M9, rfl, s1, s2⟩
          exact ⟨M9, rfl, s1, s2⟩
        · rintro s ⟨M, rfl, hB, hfr, hpr⟩
          have m4 : M 53 4 = (n : Int) := by rw [hfr 53 4 (by unfold frWk; omega)]; exact e4
          rw [Int.toNat_natCast] at hB
          dsimp only
          unfold b_X9_walk_78
          rw [m4, if_neg (by omega)]
          exact ok_ret ⟨hB, hfr, hpr⟩
      refine ok_bind H ?_
      intro o q
      exact ok_ret q
end WK
