/-! ring: the reference; ring whole -/
def WBr (N : NN) (b : Option Cd) : Prop := match b with
  | none => N 64 57 = 100000000 ∧ N 64 56 = 0
  | some x => N 64 57 = (x.2.2.length : Int) ∧ N 64 56 = x.2.1 ∧ x.1 = 100 - (x.2.2.length : Int) ∧ x.2.2.length ≤ 6 ∧ ∀ i v : Nat, x.2.2[i]? = some v → N 96 i = (v : Int)
def frRw (o k : Nat) : Prop := (o = 64 ∧ (k = 56 ∨ k = 57)) ∨ o = 96
def frRr (k o i : Nat) : Prop := frRw o i ∨ (o = 93 ∧ k ≤ i)
theorem wbr_fr {N N' : NN} {b : Option Cd} (h : WBr N b) (h1 : N' 64 57 = N 64 57) (h2 : N' 64 56 = N 64 56) (h4 : N' 96 = N 96) : WBr N' b := by
  cases b with
  | none => exact ⟨h1.trans h.1, h2.trans h.2⟩
  | some x => exact ⟨h1.trans h.1, h2.trans h.2.1, h.2.2.1, h.2.2.2.1, fun i v q => by rw [h4]; exact h.2.2.2.2 i v q⟩
section RR
variable {X : MX} {N : NN} {B : Int} {r : Nat → Int} {lw : Nat → Law}
theorem ref_weighRing {n : Nat} {P : List Nat} {b : Option Cd} (hl : P.length = n) (hn : n ≤ 6) (hP : PTm N P) (hb : WBr N b) : Ok (f_X12_weighRing X N (n : Int)) (fun N' => WBr N' (upC b (cnd P)) ∧ Fr frRw N N') := by
  have hP6 : ∀ v, v ∈ P → v < 6 := fun v hv => by
    obtain ⟨i, hi⟩ := List.mem_iff_getElem?.1 hv
    exact (hP i v hi).2
  unfold f_X12_weighRing
  have H : Ok (lp (fun s => b_X12_weighRing_4 X s.1 s.2.1 s.2.2.1 s.2.2.2) (N, (n : Int), 0, 0)) (fun o => o = (N, (n : Int), (setA 0 P : Int))) := by
    refine ok_up (fun i z => z = (N, (n : Int), (setA 0 (P.take i.toNat) : Int), i)) (n : Int) (i0 := 0) ?_ ?_ (by omega) rfl
    · rintro i z a0 a1 rfl
      obtain ⟨k, rfl⟩ := Int.eq_ofNat_of_zero_le a0
      rw [Int.toNat_natCast, show ((k : Int) + 1).toNat = k + 1 by omega]
      have lt : setA 0 (P.take k) < 64 := setA_lt _ 0 (by omega) fun v hv => hP6 v (List.mem_of_mem_take hv)
      have gm := hP k _ (List.getElem?_eq_getElem (show k < P.length by omega))
      have pL : 2 ^ P[k]'(by omega) < 2 ^ 6 := Nat.pow_lt_pow_right (by omega) gm.2
      dsimp only
      unfold b_X12_weighRing_4
      rw [if_pos a1, gdp (by omega), Int.toNat_natCast, gm.1, shl1_id (by omega) (by omega), Int.toNat_natCast, or_id (by omega) (by omega), w_id (x := (k : Int) + 1) (by omega) (by omega), List.take_succ_eq_append_getElem (show k < P.length by omega), setA_app]
      exact ok_ret rfl
    · rintro z rfl
      dsimp only
      unfold b_X12_weighRing_4
      rw [if_neg (by omega), Int.toNat_natCast, show P.take n = P by rw [← hl, List.take_length]]
      exact ok_ret rfl
  refine ok_bind H ?_
  rintro o rfl
  dsimp only
  unfold f_X12_weighRing_j50
  have hs : setA 0 P < 64 := setA_lt P 0 (by omega) hP6
  have take : Ok (Option.bind (lp (fun s => b_X12_weighRing_62 X s.1 s.2.1 s.2.2) (m_up (m_up N 64 57 (n : Int)) 64 56 (setA 0 P : Int), (n : Int), 0)) (fun o13 => some o13)) (fun N' => WBr N' (some (cnd P)) ∧ Fr frRw N N') := by
    have H2 : Ok (lp (fun s => b_X12_weighRing_62 X s.1 s.2.1 s.2.2) (m_up (m_up N 64 57 (n : Int)) 64 56 (setA 0 P : Int), (n : Int), 0)) (fun N' => WBr N' (some (cnd P)) ∧ Fr frRw N N') := by
      refine ok_up (fun i z => ∃ M, z = (M, (n : Int), i) ∧ M 64 57 = (n : Int) ∧ M 64 56 = (setA 0 P : Int) ∧ (∀ j : Nat, (j : Int) < i → M 96 j = N 93 j) ∧ Fr frRw N M) (n : Int) (i0 := 0) ?_ ?_ (by omega) ⟨_, rfl, by rw [up_k (by omega), up_s], up_s, fun j h => by omega, fr_up (fr_up fr_rfl (by unfold frRw; omega)) (by unfold frRw; omega)⟩
      · rintro i z a0 a1 ⟨M, rfl, m3, m4, mj, mf⟩
        obtain ⟨k, rfl⟩ := Int.eq_ofNat_of_zero_le a0
        dsimp only
        unfold b_X12_weighRing_62
        rw [if_pos a1, gdp (by omega), gdp (by omega), Int.toNat_natCast, w_id (x := (k : Int) + 1) (by omega) (by omega)]
        refine ok_ret ⟨_, rfl, by rw [up_o (by omega)]; exact m3, by rw [up_o (by omega)]; exact m4, fun j hj => ?_, fr_up mf (by unfold frRw; omega)⟩
        rw [up_a]
        by_cases c : j = k
        · rw [if_pos c, c, mf 93 k (by unfold frRw; omega)]
        · rw [if_neg c]; exact mj j (by omega)
      · rintro z ⟨M, rfl, m3, m4, mj, mf⟩
        dsimp only
        unfold b_X12_weighRing_62
        rw [if_neg (by omega)]
        refine ok_ret ⟨⟨?_, m4, rfl, by show P.length ≤ 6; omega, fun i v q => ?_⟩, mf⟩
        · rw [m3]; show (n : Int) = (P.length : Int); omega
        · rw [mj i (by have z : i < P.length := get_lt q; omega)]
          exact (hP i v q).1
    refine ok_bind H2 ?_
    intro o q
    exact ok_ret q
  have e1 : (cnd P).1 = 100 - (n : Int) := by rw [← hl]; rfl
  have e2 : (cnd P).2.1 = (setA 0 P : Int) := rfl
  cases b with
  | none =>
    obtain ⟨b1, b2⟩ := hb
    rw [if_pos (show (n : Int) < N 64 57 by omega)]
    have : upC none (cnd P) = some (cnd P) := if_pos (by omega)
    rw [this]
    exact take
  | some x =>
    have hb' := hb
    obtain ⟨b1, b2, b3, b4, b5⟩ := hb'
    have keep : ¬ (x.1 < (cnd P).1 ∨ ((cnd P).1 = x.1 ∧ (cnd P).2.1 < x.2.1)) → Ok (some N) (fun N' => WBr N' (upC (some x) (cnd P)) ∧ Fr frRw N N') := fun q => by
      have : upC (some x) (cnd P) = some x := if_neg q
      rw [this]
      exact ok_ret ⟨hb, fr_rfl⟩
    have go : (x.1 < (cnd P).1 ∨ ((cnd P).1 = x.1 ∧ (cnd P).2.1 < x.2.1)) → upC (some x) (cnd P) = some (cnd P) := fun q => if_pos q
    by_cases c1 : (n : Int) < N 64 57
    · rw [if_pos c1, go (Or.inl (by omega))]
      exact take
    rw [if_neg c1]
    by_cases c2 : (n : Int) = N 64 57
    · rw [if_pos c2]
      by_cases c3 : (setA 0 P : Int) < N 64 56
      · rw [if_pos c3, go (Or.inr ⟨by omega, by omega⟩)]
        exact take
      · rw [if_neg c3]
        exact keep (by omega)
    · rw [if_neg c2]
      exact keep (by omega)
theorem ref_isFresh {k j p : Nat} {P : List Nat} (hl : P.length = k) (hk0 : 1 ≤ k) (hk : k ≤ 5) (hP : PTm N P) (hp : P[0]? = some p) (hj : N 93 k = (j : Int)) : f_X12_isFresh X N (k : Int) = some (if p < j ∧ j ∉ P then 1 else 0) := by
  have h0 := hP 0 p hp
  have H : ∀ fl : Int, (fl = 0 ∨ fl = 1) → Ok (lp (fun s => b_X12_isFresh_23 X N s.1 s.2.1 s.2.2) ((k : Int), fl, 0)) (fun o => o = if fl = 1 ∧ j ∉ P then 1 else 0) := by
    intro fl hfl
    refine ok_up (fun i z => z = ((k : Int), (if fl = 1 ∧ j ∉ P.take i.toNat then 1 else 0), i)) (k : Int) (i0 := 0) ?_ ?_ (by omega) ?_
    · rintro i z a0 a1 rfl
      obtain ⟨m, rfl⟩ := Int.eq_ofNat_of_zero_le a0
      rw [Int.toNat_natCast, show ((m : Int) + 1).toNat = m + 1 by omega]
      have gm := hP m _ (List.getElem?_eq_getElem (show m < P.length by omega))
      have mt : j ∈ P.take (m + 1) ↔ j ∈ P.take m ∨ j = P[m]'(by omega) := by
        rw [List.take_succ_eq_append_getElem (show m < P.length by omega), List.mem_append, List.mem_singleton]
      dsimp only
      unfold b_X12_isFresh_23 f_X12_isFresh_l23_j51 f_X12_isFresh_l23_j52
      rw [if_pos a1, w_id (x := (m : Int) + 1) (by omega) (by omega)]
      by_cases c : fl = 1 ∧ j ∉ P.take m
      · rw [if_pos c, i10, gdp (by omega), gdp (by omega), Int.toNat_natCast, Int.toNat_natCast, gm.1, hj]
        by_cases c2 : ((P[m]'(by omega) : Nat) : Int) = (j : Int)
        · rw [if_pos c2, if_neg (fun z => z.2 (mt.2 (Or.inr (by omega))))]
          exact ok_ret rfl
        · rw [if_neg c2, if_pos ⟨c.1, fun z => by rcases mt.1 z with z | z; exact c.2 z; exact c2 (by omega)⟩]
          exact ok_ret rfl
      · rw [if_neg c, i00, if_neg (fun z => c ⟨z.1, fun y => z.2 (mt.2 (Or.inl y))⟩)]
        exact ok_ret rfl
    · rintro z rfl
      dsimp only
      unfold b_X12_isFresh_23
      rw [if_neg (by omega), Int.toNat_natCast, show P.take k = P by rw [← hl, List.take_length]]
      exact ok_ret rfl
    · rw [show (0 : Int).toNat = 0 from rfl, List.take_zero]
      rcases hfl with h | h
      · rw [h, if_neg (by omega)]
      · rw [h, if_pos ⟨rfl, by simp⟩]
  unfold f_X12_isFresh f_X12_isFresh_j20
  rw [gdp (by omega), h0.1, Int.toNat_natCast, hj]
  by_cases c : p < j
  · rw [if_pos (by omega)]
    obtain ⟨o, eo, po⟩ := H 1 (Or.inr rfl)
    rw [eo, Option.bind_some]
    by_cases c2 : j ∉ P
    · rw [if_pos ⟨rfl, c2⟩] at po
      rw [po, if_pos (show p < j ∧ j ∉ P from ⟨c, c2⟩), if_pos (by omega)]
    · rw [if_neg (fun z => c2 z.2)] at po
      rw [po, if_neg (show ¬ (p < j ∧ j ∉ P) from fun z => c2 z.2), if_pos (by omega)]
  · rw [if_neg (by omega)]
    obtain ⟨o, eo, po⟩ := H 0 (Or.inl rfl)
    rw [if_neg (fun z => by omega)] at po
    rw [eo, Option.bind_some, po, if_neg (show ¬ (p < j ∧ j ∉ P) from fun z => c z.1), if_pos (by omega)]
theorem mw_Rr {N N' : NN} {k : Nat} (h : MW N B r lw) (hf : Fr (frRr k) N N') : MW N' B r lw := mw_fr h hf (fun k q => by unfold frRr frRw at q; omega) (by unfold frRr frRw; omega)
noncomputable def rgC (D : Nat → Nat → Prop) (n p e h : Nat) (P : List Nat) : Nat → List Cd := fun L => @ite _ (p < L ∧ L ∉ P ∧ D h L) (Classical.propDecidable _) ((@ite _ (D L p) (Classical.propDecidable _) [cnd (P ++ [L])] []) ++ rgT D n p e L (P ++ [L])) []
theorem ref_rgLoop {n p : Nat} (hn : r 0 = (n : Int)) (hn6 : n ≤ 6) : ∀ (e m k h j : Nat) (P : List Nat) (b : Option Cd) (N : NN), k + e = 5 → 1 ≤ k → P.length = k → P[k - 1]? = some h → P[0]? = some p → (∀ v, v ∈ P → v < n) → PTm N P → MW N B r lw → N 93 k = (j : Int) - 1 → j + m = n → WBr N b →
    ∃ N', lp (fun s => b_X12_findRing_40 X s.1 s.2.1 s.2.2) (N, (p : Int), (k : Int)) = lp (fun s => b_X12_findRing_40 X s.1 s.2.1 s.2.2) (N', (p : Int), (k : Int) - 1) ∧ WBr N' (((List.range' j m).flatMap (rgC (rgD r) n p e h P)).foldl upC b) ∧ Fr (frRr k) N N' := by
  intro e
  induction e with
  | zero =>
    intro m
    induction m with
    | zero =>
      intro k h j P b N hke hk hl hh hp hPn hP hM ej hm hb
      refine ⟨m_up N 93 k (j : Int), ?_, wbr_fr hb (up_o (by omega)) (up_o (by omega)) (up_of (by omega)), fr_up fr_rfl (Or.inr ⟨rfl, Nat.le_refl _⟩)⟩
      refine lp_next ?_
      dsimp only
      unfold b_X12_findRing_40
      rw [if_pos (by omega), if_pos (by omega), if_pos (by omega), Int.toNat_natCast, ej, w_id (x := (j : Int) - 1 + 1) (by omega) (by omega), show (j : Int) - 1 + 1 = (j : Int) by omega]
      dsimp only
      rw [if_pos (by omega), if_pos (by rw [up_s, up_o (by omega), hM.1 0 (by omega)]; omega), w_id (by omega) (by omega)]
      rfl
    | succ m ihm =>
      intro k h j P b N hke hk hl hh hp hPn hP hM ej hm hb
      have f9 : Fr (frRr k) N (m_up N 93 k (j : Int)) := fr_up fr_rfl (Or.inr ⟨rfl, Nat.le_refl _⟩)
      obtain ⟨N7, h7⟩ : ∃ N7, N7 = m_up N 93 k (j : Int) := ⟨_, rfl⟩
      rw [← h7] at f9
      have n7 : N7 93 k = (j : Int) := by rw [h7, up_s]
      have hM7 : MW N7 B r lw := mw_Rr hM f9
      have hP7 : PTm N7 P := fun i v q => by rw [h7, up_k (by have := get_lt q; omega)]; exact hP i v q
      have w7 : WBr N7 b := wbr_fr hb (by rw [h7, up_o (by omega)]) (by rw [h7, up_o (by omega)]) (by rw [h7, up_of (by omega)])
      have hh7 := hP7 (k - 1) h hh
      have h07 := hP7 0 p hp
      have fre := ref_isFresh (X := X) (N := N7) hl hk (by omega) hP7 hp n7
      have step : ∀ s' : NN × Int × Int, ((if p < j ∧ j ∉ P then (if rd r h j = -1 then some (.inl (N7, (p : Int), (k : Int))) else if rd r j p = -1 then f_X12_findRing_l40_j135 X N7 (p : Int) (k : Int) else Option.bind (f_X12_weighRing X N7 ((k : Int) + 1)) (fun o17 => f_X12_findRing_l40_j135 X o17 (p : Int) (k : Int))) else some (.inl (N7, (p : Int), (k : Int)))) : Option ((NN × Int × Int) ⊕ (NN × Int))) = some (.inl s') → lp (fun s => b_X12_findRing_40 X s.1 s.2.1 s.2.2) (N, (p : Int), (k : Int)) = lp (fun s => b_X12_findRing_40 X s.1 s.2.1 s.2.2) s' := by
        intro s' hs
        refine lp_next ?_
        dsimp only
        unfold b_X12_findRing_40
        rw [if_pos (by omega), if_pos (by omega), if_pos (by omega), Int.toNat_natCast, ej, w_id (x := (j : Int) - 1 + 1) (by omega) (by omega), show (j : Int) - 1 + 1 = (j : Int) by omega, ← h7]
        dsimp only
        rw [if_pos (by omega), if_neg (by rw [n7, hM7.1 0 (by omega)]; omega), fre, Option.bind_some, w_id (x := (k : Int) - 1) (by omega) (by omega), show ((k : Int) - 1).toNat = k - 1 by omega, hh7.1, n7, w_id (x := (k : Int) + 1) (by omega) (by omega), ref_debtAt (by omega) (by omega) (by omega) (by omega), ref_debtAt (by omega) (by omega) (by omega) (by omega), Option.bind_some, Option.bind_some]
        by_cases c : p < j ∧ j ∉ P
        · rw [if_pos c] at hs
          rw [if_pos c, i10, if_pos (by omega), if_pos (by omega), if_pos (by omega)]
          have e1 : N7 66 (141 + 2 * (6 * (h : Int) + (j : Int))).toNat = rd r h j := hM7.1 _ (by omega)
          have e2 : N7 66 (141 + 2 * (6 * (j : Int) + (p : Int))).toNat = rd r j p := hM7.1 _ (by omega)
          by_cases c2 : rd r h j = -1
          · rw [if_pos c2] at hs
            rw [if_pos (by rw [e1]; exact c2)]
            exact hs
          · rw [if_neg c2] at hs
            rw [if_neg (by rw [e1]; exact c2), if_pos (by omega), if_pos (by omega)]
            by_cases c3 : rd r j p = -1
            · rw [if_pos c3] at hs
              rw [if_pos (by rw [e2]; exact c3)]
              exact hs
            · rw [if_neg c3] at hs
              rw [if_neg (by rw [e2]; exact c3)]
              exact hs
        · rw [if_neg c] at hs
          rw [if_neg c, i00]
          exact hs
      have rest : ∀ (M : NN) (b' : Option Cd), Fr (frRr k) N M → M 93 k = (j : Int) → (∀ i, i < k → M 93 i = N 93 i) → WBr M b' → ∃ N', lp (fun s => b_X12_findRing_40 X s.1 s.2.1 s.2.2) (M, (p : Int), (k : Int)) = lp (fun s => b_X12_findRing_40 X s.1 s.2.1 s.2.2) (N', (p : Int), (k : Int) - 1) ∧ WBr N' (((List.range' (j + 1) m).flatMap (rgC (rgD r) n p 0 h P)).foldl upC b') ∧ Fr (frRr k) N N' := by
        intro M b' fM jM pM wM
        obtain ⟨N', r1, r2, r3⟩ := ihm k h (j + 1) P b' M hke hk hl hh hp hPn (fun i v q => by rw [pM i (by have := get_lt q; omega)]; exact hP i v q) (mw_Rr hM fM) (by rw [jM]; omega) (by omega) wM
        exact ⟨N', r1, r2, fr_tr fM r3⟩
      have p7 : ∀ i, i < k → N7 93 i = N 93 i := fun i hi => by rw [h7, up_k (by omega)]
      rw [List.range'_succ, List.flatMap_cons, List.foldl_append]
      by_cases c : p < j ∧ j ∉ P ∧ rgD r h j
      case neg =>
        have e0 : rgC (rgD r) n p 0 h P j = [] := if_neg c
        rw [e0]
        have s1 := step (N7, (p : Int), (k : Int)) (by
          by_cases c2 : p < j ∧ j ∉ P
          · rw [if_pos c2, if_pos (Classical.byContradiction fun z => c ⟨c2.1, c2.2, z⟩)]
          · rw [if_neg c2])
        rw [s1]
        exact rest N7 b f9 n7 p7 w7
      have eC : rgC (rgD r) n p 0 h P j = (@ite _ (rgD r j p) (Classical.propDecidable _) [cnd (P ++ [j])] []) := by
        have : rgC (rgD r) n p 0 h P j = (@ite _ (rgD r j p) (Classical.propDecidable _) [cnd (P ++ [j])] []) ++ [] := if_pos c
        rw [this, List.append_nil]
      rw [eC]
      have hP7' : PTm N7 (P ++ [j]) := by
        intro i v q
        rcases app_g q with q' | ⟨q', q''⟩
        · exact hP7 i v q'
        · subst q''
          rw [q', hl, n7]
          exact ⟨rfl, by omega⟩
      have jend : ∀ M, f_X12_findRing_l40_j135 X M (p : Int) (k : Int) = some (.inl (M, (p : Int), (k : Int))) := fun M => by
        unfold f_X12_findRing_l40_j135
        rw [if_neg (by omega)]
      by_cases cd : rgD r j p
      · rw [if_pos cd]
        have W := ref_weighRing (X := X) (n := k + 1) (by rw [List.length_append, hl]; rfl) (by omega) hP7' w7
        obtain ⟨N14, e14, w14, f14⟩ := W
        rw [show ((k + 1 : Nat) : Int) = (k : Int) + 1 by omega] at e14
        have s1 := step (N14, (p : Int), (k : Int)) (by rw [if_pos ⟨c.1, c.2.1⟩, if_neg c.2.2, if_neg cd, e14, Option.bind_some, jend])
        rw [s1]
        exact rest N14 _ (fr_tr f9 (fr_mono f14 fun o i q => Or.inl q)) (by rw [f14 93 k (by unfold frRw; omega)]; exact n7) (fun i hi => by rw [f14 93 i (by unfold frRw; omega)]; exact p7 i hi) w14
      · rw [if_neg cd]
        have s1 := step (N7, (p : Int), (k : Int)) (by rw [if_pos ⟨c.1, c.2.1⟩, if_neg c.2.2, if_pos (Classical.byContradiction fun z => cd z), jend])
        rw [s1]
        exact rest N7 b f9 n7 p7 w7
  | succ e ih =>
    intro m
    induction m with
    | zero =>
      intro k h j P b N hke hk hl hh hp hPn hP hM ej hm hb
      refine ⟨m_up N 93 k (j : Int), ?_, wbr_fr hb (up_o (by omega)) (up_o (by omega)) (up_of (by omega)), fr_up fr_rfl (Or.inr ⟨rfl, Nat.le_refl _⟩)⟩
      refine lp_next ?_
      dsimp only
      unfold b_X12_findRing_40
      rw [if_pos (by omega), if_pos (by omega), if_pos (by omega), Int.toNat_natCast, ej, w_id (x := (j : Int) - 1 + 1) (by omega) (by omega), show (j : Int) - 1 + 1 = (j : Int) by omega]
      dsimp only
      rw [if_pos (by omega), if_pos (by rw [up_s, up_o (by omega), hM.1 0 (by omega)]; omega), w_id (by omega) (by omega)]
      rfl
    | succ m ihm =>
      intro k h j P b N hke hk hl hh hp hPn hP hM ej hm hb
      have f9 : Fr (frRr k) N (m_up N 93 k (j : Int)) := fr_up fr_rfl (Or.inr ⟨rfl, Nat.le_refl _⟩)
      obtain ⟨N7, h7⟩ : ∃ N7, N7 = m_up N 93 k (j : Int) := ⟨_, rfl⟩
      rw [← h7] at f9
      have n7 : N7 93 k = (j : Int) := by rw [h7, up_s]
      have hM7 : MW N7 B r lw := mw_Rr hM f9
      have hP7 : PTm N7 P := fun i v q => by rw [h7, up_k (by have := get_lt q; omega)]; exact hP i v q
      have w7 : WBr N7 b := wbr_fr hb (by rw [h7, up_o (by omega)]) (by rw [h7, up_o (by omega)]) (by rw [h7, up_of (by omega)])
      have hh7 := hP7 (k - 1) h hh
      have h07 := hP7 0 p hp
      have fre := ref_isFresh (X := X) (N := N7) hl hk (by omega) hP7 hp n7
      have step : ∀ s' : NN × Int × Int, ((if p < j ∧ j ∉ P then (if rd r h j = -1 then some (.inl (N7, (p : Int), (k : Int))) else if rd r j p = -1 then f_X12_findRing_l40_j135 X N7 (p : Int) (k : Int) else Option.bind (f_X12_weighRing X N7 ((k : Int) + 1)) (fun o17 => f_X12_findRing_l40_j135 X o17 (p : Int) (k : Int))) else some (.inl (N7, (p : Int), (k : Int)))) : Option ((NN × Int × Int) ⊕ (NN × Int))) = some (.inl s') → lp (fun s => b_X12_findRing_40 X s.1 s.2.1 s.2.2) (N, (p : Int), (k : Int)) = lp (fun s => b_X12_findRing_40 X s.1 s.2.1 s.2.2) s' := by
        intro s' hs
        refine lp_next ?_
        dsimp only
        unfold b_X12_findRing_40
        rw [if_pos (by omega), if_pos (by omega), if_pos (by omega), Int.toNat_natCast, ej, w_id (x := (j : Int) - 1 + 1) (by omega) (by omega), show (j : Int) - 1 + 1 = (j : Int) by omega, ← h7]
        dsimp only
        rw [if_pos (by omega), if_neg (by rw [n7, hM7.1 0 (by omega)]; omega), fre, Option.bind_some, w_id (x := (k : Int) - 1) (by omega) (by omega), show ((k : Int) - 1).toNat = k - 1 by omega, hh7.1, n7, w_id (x := (k : Int) + 1) (by omega) (by omega), ref_debtAt (by omega) (by omega) (by omega) (by omega), ref_debtAt (by omega) (by omega) (by omega) (by omega), Option.bind_some, Option.bind_some]
        by_cases c : p < j ∧ j ∉ P
        · rw [if_pos c] at hs
          rw [if_pos c, i10, if_pos (by omega), if_pos (by omega), if_pos (by omega)]
          have e1 : N7 66 (141 + 2 * (6 * (h : Int) + (j : Int))).toNat = rd r h j := hM7.1 _ (by omega)
          have e2 : N7 66 (141 + 2 * (6 * (j : Int) + (p : Int))).toNat = rd r j p := hM7.1 _ (by omega)
          by_cases c2 : rd r h j = -1
          · rw [if_pos c2] at hs
            rw [if_pos (by rw [e1]; exact c2)]
            exact hs
          · rw [if_neg c2] at hs
            rw [if_neg (by rw [e1]; exact c2), if_pos (by omega), if_pos (by omega)]
            by_cases c3 : rd r j p = -1
            · rw [if_pos c3] at hs
              rw [if_pos (by rw [e2]; exact c3)]
              exact hs
            · rw [if_neg c3] at hs
              rw [if_neg (by rw [e2]; exact c3)]
              exact hs
        · rw [if_neg c] at hs
          rw [if_neg c, i00]
          exact hs
      have rest : ∀ (M : NN) (b' : Option Cd), Fr (frRr k) N M → M 93 k = (j : Int) → (∀ i, i < k → M 93 i = N 93 i) → WBr M b' → ∃ N', lp (fun s => b_X12_findRing_40 X s.1 s.2.1 s.2.2) (M, (p : Int), (k : Int)) = lp (fun s => b_X12_findRing_40 X s.1 s.2.1 s.2.2) (N', (p : Int), (k : Int) - 1) ∧ WBr N' (((List.range' (j + 1) m).flatMap (rgC (rgD r) n p (e + 1) h P)).foldl upC b') ∧ Fr (frRr k) N N' := by
        intro M b' fM jM pM wM
        obtain ⟨N', r1, r2, r3⟩ := ihm k h (j + 1) P b' M hke hk hl hh hp hPn (fun i v q => by rw [pM i (by have := get_lt q; omega)]; exact hP i v q) (mw_Rr hM fM) (by rw [jM]; omega) (by omega) wM
        exact ⟨N', r1, r2, fr_tr fM r3⟩
      have p7 : ∀ i, i < k → N7 93 i = N 93 i := fun i hi => by rw [h7, up_k (by omega)]
      rw [List.range'_succ, List.flatMap_cons, List.foldl_append]
      by_cases c : p < j ∧ j ∉ P ∧ rgD r h j
      case neg =>
        have e0 : rgC (rgD r) n p (e + 1) h P j = [] := if_neg c
        rw [e0]
        have s1 := step (N7, (p : Int), (k : Int)) (by
          by_cases c2 : p < j ∧ j ∉ P
          · rw [if_pos c2, if_pos (Classical.byContradiction fun z => c ⟨c2.1, c2.2, z⟩)]
          · rw [if_neg c2])
        rw [s1]
        exact rest N7 b f9 n7 p7 w7
      have eC : rgC (rgD r) n p (e + 1) h P j = (@ite _ (rgD r j p) (Classical.propDecidable _) [cnd (P ++ [j])] []) ++ (List.range' 0 n).flatMap (rgC (rgD r) n p e j (P ++ [j])) := if_pos c
      rw [eC, List.foldl_append]
      have hP7' : PTm N7 (P ++ [j]) := by
        intro i v q
        rcases app_g q with q' | ⟨q', q''⟩
        · exact hP7 i v q'
        · subst q''
          rw [q', hl, n7]
          exact ⟨rfl, by omega⟩
      have jend : ∀ M, f_X12_findRing_l40_j135 X M (p : Int) (k : Int) = some (.inl (m_up M 93 (k + 1) (-1), (p : Int), (k : Int) + 1)) := fun M => by
        unfold f_X12_findRing_l40_j135
        rw [if_pos (by omega), w_id (x := (k : Int) + 1) (by omega) (by omega), if_pos (by omega), show ((k : Int) + 1).toNat = k + 1 by omega]
      have down : ∀ (M : NN) (b' : Option Cd), Fr (frRr k) N M → M 93 k = (j : Int) → (∀ i, i < k → M 93 i = N 93 i) → PTm M (P ++ [j]) → WBr M b' → ∃ N', lp (fun s => b_X12_findRing_40 X s.1 s.2.1 s.2.2) (m_up M 93 (k + 1) (-1), (p : Int), (k : Int) + 1) = lp (fun s => b_X12_findRing_40 X s.1 s.2.1 s.2.2) (N', (p : Int), (k : Int) - 1) ∧ WBr N' (((List.range' (j + 1) m).flatMap (rgC (rgD r) n p (e + 1) h P)).foldl upC (((List.range' 0 n).flatMap (rgC (rgD r) n p e j (P ++ [j]))).foldl upC b')) ∧ Fr (frRr k) N N' := by
        intro M b' fM jM pM tM wM
        have f16 : Fr (frRr k) N (m_up M 93 (k + 1) (-1)) := fr_up fM (Or.inr ⟨rfl, by omega⟩)
        obtain ⟨N17, r1, r2, r3⟩ := ih n (k + 1) j 0 (P ++ [j]) b' (m_up M 93 (k + 1) (-1)) (by omega) (by omega) (by rw [List.length_append, hl]; rfl) (by rw [show k + 1 - 1 = P.length by omega, List.getElem?_append_right (Nat.le_refl _), Nat.sub_self]; rfl) (by rw [List.getElem?_append_left (by omega)]; exact hp) (fun v hv => by
            rcases List.mem_append.1 hv with hv | hv
            · exact hPn v hv
            · have := List.mem_singleton.1 hv; omega) (fun i v q => by rw [up_k (by have := get_lt q; rw [List.length_append, hl] at this; simp at this; omega)]; exact tM i v q) (mw_Rr hM f16) (by rw [up_s]; omega) (by omega) (wbr_fr wM (up_o (by omega)) (up_o (by omega)) (up_of (by omega)))
        rw [show ((k + 1 : Nat) : Int) = (k : Int) + 1 by omega, show (k : Int) + 1 - 1 = (k : Int) by omega] at r1
        rw [r1]
        exact rest N17 _ (fr_tr f16 (fr_mono r3 fun o i q => by rcases q with q | q; exact Or.inl q; exact Or.inr (by omega))) (by rw [r3 93 k (by unfold frRr frRw; omega), up_k (by omega)]; exact jM) (fun i hi => by rw [r3 93 i (by unfold frRr frRw; omega), up_k (by omega)]; exact pM i hi) r2
      by_cases cd : rgD r j p
      · rw [if_pos cd]
        have W := ref_weighRing (X := X) (n := k + 1) (by rw [List.length_append, hl]; rfl) (by omega) hP7' w7
        obtain ⟨N14, e14, w14, f14⟩ := W
        rw [show ((k + 1 : Nat) : Int) = (k : Int) + 1 by omega] at e14
        have s1 := step (m_up N14 93 (k + 1) (-1), (p : Int), (k : Int) + 1) (by rw [if_pos ⟨c.1, c.2.1⟩, if_neg c.2.2, if_neg cd, e14, Option.bind_some, jend])
        rw [s1]
        exact down N14 _ (fr_tr f9 (fr_mono f14 fun o i q => Or.inl q)) (by rw [f14 93 k (by unfold frRw; omega)]; exact n7) (fun i hi => by rw [f14 93 i (by unfold frRw; omega)]; exact p7 i hi) (fun i v q => by rw [f14 93 i (by unfold frRw; omega)]; exact hP7' i v q) w14
      · rw [if_neg cd]
        have s1 := step (m_up N7 93 (k + 1) (-1), (p : Int), (k : Int) + 1) (by rw [if_pos ⟨c.1, c.2.1⟩, if_neg c.2.2, if_pos (Classical.byContradiction fun z => cd z), jend])
        rw [s1]
        exact down N7 b f9 n7 p7 hP7' w7
theorem ref_findRing (hM : MW N B r lw) : Ok (f_X12_findRing X N) (fun M => WBr M (rgB r) ∧ Fr npr N M) := by
  have hV := hM.2.1
  have v0 := hV.1
  obtain ⟨n, hn⟩ := Int.eq_ofNat_of_zero_le v0.1
  have eB : rgB r = (rgA (rgD r) n).foldl upC none := by
    unfold rgB
    rw [hn, Int.toNat_natCast]
    exact (fold_srt _ none rgA_srt (fun y e => by cases e)).symm
  rw [eB]
  unfold f_X12_findRing
  dsimp only
  have f2 : Fr (frRr 0) N (m_up (m_up N 64 57 100000000) 64 56 0) := fr_up (fr_up fr_rfl (Or.inl (Or.inl ⟨rfl, Or.inr rfl⟩))) (Or.inl (Or.inl ⟨rfl, Or.inl rfl⟩))
  have H : Ok (lp (fun s => b_X12_findRing_14 X s.1 s.2) (m_up (m_up N 64 57 100000000) 64 56 0, 0)) (fun M => WBr M ((rgA (rgD r) n).foldl upC none) ∧ Fr (frRr 0) N M) := by
    refine ok_up (fun i z => ∃ M, z = (M, i) ∧ WBr M (((List.range' 0 i.toNat).flatMap fun p => rgT (rgD r) n p 5 p [p]).foldl upC none) ∧ Fr (frRr 0) N M) (n : Int) (i0 := 0) ?_ ?_ (by omega) ⟨_, rfl, ⟨by rw [up_k (by omega), up_s], up_s⟩, f2⟩
    · rintro i z a0 a1 ⟨M, rfl, hw, hf⟩
      obtain ⟨p, rfl⟩ := Int.eq_ofNat_of_zero_le a0
      rw [Int.toNat_natCast] at hw
      rw [show ((p : Int) + 1).toNat = p + 1 by omega]
      have hMM := mw_Rr hM hf
      dsimp only
      unfold b_X12_findRing_14
      rw [hMM.1 0 (by omega), hn, if_pos a1]
      dsimp only
      have f4 : Fr (frRr 0) N (m_up (m_up M 93 0 (p : Int)) 93 1 (-1)) := fr_up (fr_up hf (Or.inr ⟨rfl, by omega⟩)) (Or.inr ⟨rfl, by omega⟩)
      obtain ⟨N', r1, r2, r3⟩ := ref_rgLoop (X := X) (p := p) hn (by omega) 4 n 1 p 0 [p] (((List.range' 0 p).flatMap fun p => rgT (rgD r) n p 5 p [p]).foldl upC none) (m_up (m_up M 93 0 (p : Int)) 93 1 (-1)) rfl (by omega) rfl rfl rfl (fun v hv => by have := List.mem_singleton.1 hv; omega) (fun i v q => by
        cases i with
        | zero => rw [List.getElem?_cons_zero] at q; cases q; rw [up_k (by omega), up_s]; exact ⟨rfl, by omega⟩
        | succ i => cases q) (mw_Rr hM f4) (by rw [up_s]; omega) (by omega) (wbr_fr hw (by rw [up_o (by omega), up_o (by omega)]) (by rw [up_o (by omega), up_o (by omega)]) (by rw [up_of (by omega), up_of (by omega)]))
      have ee : lp (fun s => b_X12_findRing_40 X s.1 s.2.1 s.2.2) (N', (p : Int), ((1 : Nat) : Int) - 1) = some (N', (p : Int)) := by
        refine lp_end ?_
        dsimp only
        unfold b_X12_findRing_40
        rw [if_neg (by omega)]
      have r1' : lp (fun s => b_X12_findRing_40 X s.1 s.2.1 s.2.2) (m_up (m_up M 93 0 (p : Int)) 93 1 (-1), (p : Int), 1) = some (N', (p : Int)) := by rw [← ee]; exact r1
      rw [r1', Option.bind_some, w_id (x := (p : Int) + 1) (by omega) (by omega)]
      refine ok_ret ⟨N', rfl, ?_, fr_tr f4 (fr_mono r3 fun o i q => by rcases q with q | q; exact Or.inl q; exact Or.inr (by omega))⟩
      rw [List.range'_1_concat, List.flatMap_append, List.foldl_append, List.flatMap_cons, List.flatMap_nil, List.append_nil, Nat.zero_add]
      exact r2
    · rintro z ⟨M, rfl, hw, hf⟩
      rw [Int.toNat_natCast] at hw
      dsimp only
      unfold b_X12_findRing_14
      rw [(mw_Rr hM hf).1 0 (by omega), hn, if_neg (by omega)]
      exact ok_ret ⟨hw, hf⟩
  refine ok_bind H ?_
  rintro M ⟨w, f⟩
  exact ok_ret ⟨w, fr_mono f fun o k q => by unfold frRr frRw at q; unfold npr pC pM; omega⟩
theorem sim_ring (h : Inv X N B) (i : Int) : Sim X N B (f_X11_ring X N i) (fun M => f_X12_ring X M i) := by
  have h' := h
  obtain ⟨hX, ⟨r, lw⟩, im, un, tp, cn, rp, hC, hM⟩ := h'
  have hW : CW X N 4 B r lw := hC.1
  have hV := hW.2.1
  have v0 := hV.1
  refine sim_ro (v := rgV (rgB r) i) h ?_ ?_
  · unfold f_X11_ring
    refine ok_bind (c_ofRing hW) ?_
    rintro ⟨z, N1⟩ ⟨p1, p2⟩
    exact ok_ret ⟨p1, p2⟩
  · intro M hf
    have hM1 : MW (m_up M 64 0 0) B r lw := (minv_npr hM (fr_tr hf npr_0)).1
    unfold f_X12_ring f_X12_ring_j59
    try dsimp only
    refine ok_bind (ref_findRing hM1) ?_
    rintro M5 ⟨w5, f5⟩
    have f5' : Fr npr M M5 := fr_tr npr_0 f5
    have hlen : ∀ x, rgB r = some x → 2 ≤ x.2.2.length ∧ x.2.2.length ≤ 6 := fun x e => by have := rgB_len hV e; omega
    generalize rgB r = b at *
    cases b with
    | none =>
      rw [if_pos w5.1]
      exact ok_ret ⟨rfl, f5'⟩
    | some x =>
      obtain ⟨a1, a2, a3, a4, a5⟩ := w5
      have ln := hlen x rfl
      rw [if_neg (show ¬ M5 64 57 = 100000000 by omega), a1]
      unfold rgV
      dsimp only
      by_cases e1 : i = -1
      · rw [if_pos e1, if_pos e1]; exact ok_ret ⟨rfl, f5'⟩
      rw [if_neg e1, if_neg e1, wl_id (by omega) (by omega)]
      refine ok_bd ref_in ?_
      by_cases e2 : 0 ≤ i ∧ i ≤ (x.2.2.length : Int) - 1
      · rw [if_pos e2, i10, if_pos (by omega), if_pos (show 0 ≤ i ∧ i < (x.2.2.length : Int) by omega)]
        have hi : i.toNat < x.2.2.length := by omega
        have eg := List.getElem?_eq_getElem hi
        refine ok_ret ⟨?_, f5'⟩
        show M5 96 i.toNat = _
        rw [a5 _ _ eg, eg]
        rfl
      · rw [if_neg e2, i00, if_neg (by omega)]
        exact ok_ret ⟨rfl, f5'⟩
end RR
