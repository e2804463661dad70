/-! texts: SUMS and TESTS in postfix order, what a piece of them tells -/
abbrev Den : Type := Env → Option Int
def bnV (a x y : Int) : Int := if a = 2 then x + y else if a = 3 then x - y else if a = 4 then x * y else if a = 5 then m_ldiv x y else if a = 6 then m_lrem x y else if a = 7 then (if x < y then 1 else 0) else if a = 8 then (if y < x then 1 else 0) else if x = y then 1 else 0
def bnO (a x y : Int) : Option Int := if (a = 5 ∨ a = 6) ∧ y = 0 then none else if -1000000000 ≤ bnV a x y ∧ bnV a x y ≤ 1000000000 then some (bnV a x y) else none
def stp (W : Int) (A R : Nat → Int) (e : Env) (k : Nat) (st : List Int) : Option (Option (Nat × List Int)) :=
  if A k = 0 then (if st.length ≤ 30 ∧ -1000000000 ≤ R k ∧ R k ≤ 1000000000 then some (some (k + 1, R k :: st)) else none)
  else if A k = 1 then (if st.length ≤ 30 ∧ (0 ≤ R k ∧ R k < W) ∧ -1000000000 ≤ e (R k).toNat ∧ e (R k).toNat ≤ 1000000000 then some (some (k + 1, e (R k).toNat :: st)) else none)
  else if 2 ≤ A k ∧ A k ≤ 9 then match st with
    | y :: x :: t => some ((bnO (A k) x y).map fun v => (k + 1, v :: t))
    | _ => none
  else if A k = 10 then match st with
    | x :: t => if x = 0 ∨ x = 1 then some (some (k + 1, (1 - x) :: t)) else none
    | _ => none
  else if A k = 11 ∨ A k = 12 then match st with
    | x :: t => if (x = 0 ∨ x = 1) ∧ (k : Int) + 1 ≤ R k then (if x = (if A k = 12 then 1 else 0) then some (some ((R k).toNat, x :: t)) else some (some (k + 1, t))) else none
    | _ => none
  else none
def rch (W : Int) (A R : Nat → Int) (e : Env) : Nat → Nat → Nat → List Int → Option (Option (List Int))
  | 0, _, _, _ => none
  | n + 1, j, k, st => if k = j then some (some st) else if j < k then none else match stp W A R e k st with
    | none => none
    | some none => some none
    | some (some s) => rch W A R e n j s.1 s.2
section SG
variable {W : Int} {A R : Nat → Int} {e : Env}
theorem rch_app {j l : Nat} (hjl : j ≤ l) : ∀ (n m k : Nat) (st st1 : List Int) (o : Option (List Int)), rch W A R e n j k st = some (some st1) → rch W A R e m l j st1 = some o → ∃ q, rch W A R e q l k st = some o
  | 0, m, k, st, st1, o, h, _ => by cases h
  | n + 1, m, k, st, st1, o, h, h2 => by
    rw [rch] at h
    by_cases c : k = j
    · rw [if_pos c] at h
      cases h
      exact ⟨m, by rw [c]; exact h2⟩
    · rw [if_neg c] at h
      by_cases c2 : j < k
      · rw [if_pos c2] at h; cases h
      · rw [if_neg c2] at h
        cases hs : stp W A R e k st with
        | none => rw [hs] at h; cases h
        | some o1 =>
          rw [hs] at h
          cases o1 with
          | none => cases h
          | some s =>
            obtain ⟨q, hq⟩ := rch_app hjl n m s.1 s.2 st1 o h h2
            exact ⟨q + 1, by rw [rch, if_neg (by omega), if_neg (by omega), hs]; exact hq⟩
theorem rch_brk {j l : Nat} (hjl : j ≤ l) : ∀ (n k : Nat) (st : List Int), rch W A R e n j k st = some none → ∃ q, rch W A R e q l k st = some none
  | 0, k, st, h => by cases h
  | n + 1, k, st, h => by
    rw [rch] at h
    by_cases c : k = j
    · rw [if_pos c] at h; cases h
    · rw [if_neg c] at h
      by_cases c2 : j < k
      · rw [if_pos c2] at h; cases h
      · rw [if_neg c2] at h
        cases hs : stp W A R e k st with
        | none => rw [hs] at h; cases h
        | some o1 =>
          rw [hs] at h
          cases o1 with
          | none => exact ⟨1, by rw [rch, if_neg (by omega), if_neg (by omega), hs]⟩
          | some s =>
            obtain ⟨q, hq⟩ := rch_brk hjl n s.1 s.2 h
            exact ⟨q + 1, by rw [rch, if_neg (by omega), if_neg (by omega), hs]; exact hq⟩
theorem rch_1 {k : Nat} {st : List Int} {st1 : List Int} (h : stp W A R e k st = some (some (k + 1, st1))) : ∃ q, rch W A R e q (k + 1) k st = some (some st1) := by
  refine ⟨2, ?_⟩
  rw [rch, if_neg (by omega), if_neg (by omega), h]
  show rch W A R e 1 (k + 1) (k + 1) st1 = _
  rw [rch, if_pos rfl]
end SG
def Seg (W : Int) (A R : Nat → Int) (i j d : Nat) (D : Den) : Prop := i < j ∧ ∀ e, EnvOK e → ∀ st : List Int, st.length + d ≤ 31 → ∃ n, rch W A R e n j i st = some ((D e).map fun v => v :: st)
def DBd (D : Den) : Prop := ∀ e, EnvOK e → ∀ v, D e = some v → -1000000000 ≤ v ∧ v ≤ 1000000000
def DBo (D : Den) : Prop := ∀ e, EnvOK e → ∀ v, D e = some v → v = 0 ∨ v = 1
def dNum (v : Int) : Den := fun _ => some v
def dWord (w : Int) : Den := fun e => some (e w.toNat)
def dBin (a : Int) (D1 D2 : Den) : Den := fun e => Option.bind (D1 e) fun x => Option.bind (D2 e) fun y => bnO a x y
def dNot (D : Den) : Den := fun e => (D e).map fun x => 1 - x
def dAnd (D1 D2 : Den) : Den := fun e => Option.bind (D1 e) fun x => if x = 0 then some 0 else D2 e
def dOr (D1 D2 : Den) : Den := fun e => Option.bind (D1 e) fun x => if x = 1 then some 1 else D2 e
theorem bnO_b {a x y v : Int} (h : bnO a x y = some v) : -1000000000 ≤ v ∧ v ≤ 1000000000 := by
  unfold bnO at h
  split at h
  · cases h
  · split at h
    · rename_i q; cases h; exact q
    · cases h
theorem bnO_t {a x y v : Int} (ha : 7 ≤ a) (h : bnO a x y = some v) : v = 0 ∨ v = 1 := by
  unfold bnO at h
  rw [if_neg (by omega)] at h
  split at h
  · cases h
    unfold bnV
    rw [if_neg (by omega), if_neg (by omega), if_neg (by omega), if_neg (by omega), if_neg (by omega)]
    split
    · split <;> omega
    · split
      · split <;> omega
      · split <;> omega
  · cases h
theorem dbd_num {v : Int} (h : -1000000000 ≤ v ∧ v ≤ 1000000000) : DBd (dNum v) := fun e _ w q => by cases q; exact h
theorem dbd_word (w : Int) : DBd (dWord w) := fun e he v q => by
  have := he w.toNat
  have q' : e w.toNat = v := Option.some.inj q
  omega
theorem dbd_bin {a : Int} {D1 D2 : Den} : DBd (dBin a D1 D2) := fun e _ v q => by
  unfold dBin at q
  cases h1 : D1 e with
  | none => rw [h1] at q; cases q
  | some x =>
    cases h2 : D2 e with
    | none => rw [h1, h2] at q; cases q
    | some y => rw [h1, h2] at q; exact bnO_b q
theorem dbo_bin {a : Int} {D1 D2 : Den} (ha : 7 ≤ a) : DBo (dBin a D1 D2) := fun e _ v q => by
  unfold dBin at q
  cases h1 : D1 e with
  | none => rw [h1] at q; cases q
  | some x =>
    cases h2 : D2 e with
    | none => rw [h1, h2] at q; cases q
    | some y => rw [h1, h2] at q; exact bnO_t ha q
theorem dbo_not {D : Den} (h : DBo D) : DBo (dNot D) := fun e he v q => by
  unfold dNot at q
  cases h1 : D e with
  | none => rw [h1] at q; cases q
  | some x =>
    rw [h1] at q
    have := h e he x h1
    have q' : 1 - x = v := Option.some.inj q
    omega
theorem dbo_and {D1 D2 : Den} (h2 : DBo D2) : DBo (dAnd D1 D2) := fun e he v q => by
  unfold dAnd at q
  cases h1 : D1 e with
  | none => rw [h1] at q; cases q
  | some x =>
    rw [h1, Option.bind_some] at q
    by_cases c : x = 0
    · rw [if_pos c] at q; cases q; exact Or.inl rfl
    · rw [if_neg c] at q; exact h2 e he v q
theorem dbo_or {D1 D2 : Den} (h2 : DBo D2) : DBo (dOr D1 D2) := fun e he v q => by
  unfold dOr at q
  cases h1 : D1 e with
  | none => rw [h1] at q; cases q
  | some x =>
    rw [h1, Option.bind_some] at q
    by_cases c : x = 1
    · rw [if_pos c] at q; cases q; exact Or.inr rfl
    · rw [if_neg c] at q; exact h2 e he v q
theorem dbo_bd {D : Den} (h : DBo D) : DBd D := fun e he v q => by have := h e he v q; omega
theorem dnot2 (D : Den) : dNot (dNot D) = D := by
  funext e
  unfold dNot
  cases D e with
  | none => rfl
  | some x => show some (1 - (1 - x)) = some x; congr 1; omega
section SH
variable {W : Int} {A R : Nat → Int}
theorem seg_num {i : Nat} {v : Int} (ha : A i = 0) (hr : R i = v) (hv : -1000000000 ≤ v ∧ v ≤ 1000000000) : Seg W A R i (i + 1) 1 (dNum v) := by
  refine ⟨by omega, fun e he st hd => rch_1 ?_⟩
  unfold stp
  rw [if_pos ha, hr, if_pos ⟨by omega, hv.1, hv.2⟩]
theorem seg_word {i : Nat} {w : Int} (ha : A i = 1) (hr : R i = w) (h0 : 0 ≤ w) (h1 : w < W) : Seg W A R i (i + 1) 1 (dWord w) := by
  refine ⟨by omega, fun e he st hd => rch_1 ?_⟩
  have := he w.toNat
  unfold stp
  rw [if_neg (by omega), if_pos ha, hr, if_pos ⟨by omega, ⟨h0, h1⟩, by omega, by omega⟩]
theorem seg_bin {i m j d1 d2 d : Nat} {a : Int} {D1 D2 : Den} (h1 : Seg W A R i m d1 D1) (h2 : Seg W A R m j d2 D2) (ha : A j = a) (a1 : 2 ≤ a) (a2 : a ≤ 9) (hd1 : d1 ≤ d) (hd2 : d2 + 1 ≤ d) : Seg W A R i (j + 1) d (dBin a D1 D2) := by
  obtain ⟨l1, h1⟩ := h1
  obtain ⟨l2, h2⟩ := h2
  refine ⟨by omega, fun e he st hd => ?_⟩
  obtain ⟨n1, e1⟩ := h1 e he st (by omega)
  unfold dBin
  cases v1 : D1 e with
  | none =>
    rw [v1] at e1
    exact rch_brk (by omega) n1 i st e1
  | some x =>
    rw [v1] at e1
    obtain ⟨n2, e2⟩ := h2 e he (x :: st) (by rw [List.length_cons]; omega)
    rw [Option.bind_some]
    cases v2 : D2 e with
    | none =>
      rw [v2] at e2
      obtain ⟨q, hq⟩ := rch_app (show m ≤ j by omega) n1 n2 i st _ _ e1 e2
      exact rch_brk (by omega) q i st hq
    | some y =>
      rw [v2] at e2
      obtain ⟨q, hq⟩ := rch_app (show m ≤ j by omega) n1 n2 i st _ _ e1 e2
      rw [Option.bind_some]
      have hs : stp W A R e j (y :: x :: st) = some ((bnO a x y).map fun v => (j + 1, v :: st)) := by
        unfold stp
        rw [if_neg (by omega), if_neg (by omega), if_pos (by omega), ha]
      have hz : ∃ q, rch W A R e q (j + 1) j (y :: x :: st) = some ((bnO a x y).map fun v => v :: st) := by
        cases hb : bnO a x y with
        | none =>
          rw [hb] at hs
          exact ⟨1, by rw [rch, if_neg (by omega), if_neg (by omega), hs]; rfl⟩
        | some v =>
          rw [hb] at hs
          exact rch_1 hs
      obtain ⟨q2, hq2⟩ := hz
      exact rch_app (by omega) q q2 i st _ _ hq hq2
theorem seg_not {i j d : Nat} {D : Den} (h : Seg W A R i j d D) (hb : DBo D) (ha : A j = 10) : Seg W A R i (j + 1) d (dNot D) := by
  obtain ⟨l, h⟩ := h
  refine ⟨by omega, fun e he st hd => ?_⟩
  obtain ⟨n1, e1⟩ := h e he st hd
  unfold dNot
  cases v1 : D e with
  | none =>
    rw [v1] at e1
    exact rch_brk (by omega) n1 i st e1
  | some x =>
    rw [v1] at e1
    have hx := hb e he x v1
    have hs : stp W A R e j (x :: st) = some (some (j + 1, (1 - x) :: st)) := by
      unfold stp
      rw [if_neg (by omega), if_neg (by omega), if_neg (by omega), if_pos ha]
      dsimp only
      rw [if_pos hx]
    obtain ⟨q2, hq2⟩ := rch_1 hs
    exact rch_app (by omega) n1 q2 i st _ _ e1 hq2
theorem seg_jmp {i p j d1 d2 d : Nat} {a : Int} {D1 D2 : Den} (h1 : Seg W A R i p d1 D1) (hb : DBo D1) (h2 : Seg W A R (p + 1) j d2 D2) (ha : A p = a) (ha2 : a = 11 ∨ a = 12) (hr : R p = (j : Int)) (hd1 : d1 ≤ d) (hd2 : d2 ≤ d) : Seg W A R i j d (if a = 12 then dOr D1 D2 else dAnd D1 D2) := by
  obtain ⟨l1, h1⟩ := h1
  obtain ⟨l2, h2⟩ := h2
  refine ⟨by omega, fun e he st hd => ?_⟩
  obtain ⟨n1, e1⟩ := h1 e he st (by omega)
  have ed : (if a = 12 then dOr D1 D2 else dAnd D1 D2) e = Option.bind (D1 e) fun x => if x = (if a = 12 then 1 else 0) then some x else D2 e := by
    rcases ha2 with c | c
    · rw [if_neg (by omega), if_neg (by omega)]
      unfold dAnd
      congr 1
      funext x
      by_cases q : x = 0
      · rw [if_pos q, if_pos q, q]
      · rw [if_neg q, if_neg q]
    · rw [if_pos c, if_pos c]
      unfold dOr
      congr 1
      funext x
      by_cases q : x = 1
      · rw [if_pos q, if_pos q, q]
      · rw [if_neg q, if_neg q]
  rw [ed]
  cases v1 : D1 e with
  | none =>
    rw [v1] at e1
    exact rch_brk (by omega) n1 i st e1
  | some x =>
    rw [v1] at e1
    have hx := hb e he x v1
    rw [Option.bind_some]
    by_cases c : x = (if a = 12 then 1 else 0)
    · rw [if_pos c]
      have hs : stp W A R e p (x :: st) = some (some (j, x :: st)) := by
        unfold stp
        rw [if_neg (by omega), if_neg (by omega), if_neg (by omega), if_neg (by omega), if_pos (by omega)]
        dsimp only
        rw [if_pos ⟨hx, by omega⟩, ha, if_pos c, hr, Int.toNat_natCast]
      have hz : rch W A R e 2 j p (x :: st) = some (some (x :: st)) := by
        rw [rch, if_neg (by omega), if_neg (by omega), hs]
        show rch W A R e 1 j j (x :: st) = _
        rw [rch, if_pos rfl]
      exact rch_app (by omega) n1 2 i st _ _ e1 hz
    · rw [if_neg c]
      have hs : stp W A R e p (x :: st) = some (some (p + 1, st)) := by
        unfold stp
        rw [if_neg (by omega), if_neg (by omega), if_neg (by omega), if_neg (by omega), if_pos (by omega)]
        dsimp only
        rw [if_pos ⟨hx, by omega⟩, ha, if_neg c]
      obtain ⟨q2, hq2⟩ := rch_1 hs
      obtain ⟨n2, e2⟩ := h2 e he st (by omega)
      obtain ⟨q3, hq3⟩ := rch_app (by omega) n1 q2 i st _ _ e1 hq2
      exact rch_app (by omega) q3 n2 i st _ _ hq3 e2
theorem seg_d {i j d d' : Nat} {D : Den} (h : Seg W A R i j d D) (hd : d ≤ d') : Seg W A R i j d' D := ⟨h.1, fun e he st q => h.2 e he st (by omega)⟩
theorem seg_c {A' R' : Nat → Int} {i j d : Nat} {D : Den} (h : Seg W A R i j d D) (hc : ∀ k, i ≤ k → k < j → A' k = A k ∧ R' k = R k) : Seg W A' R' i j d D := by
  have K : ∀ (e : Env) (n k : Nat) (st : List Int) (o : Option (List Int)), i ≤ k → rch W A R e n j k st = some o → rch W A' R' e n j k st = some o := by
    intro e n
    induction n with
    | zero => intro k st o _ q; cases q
    | succ n ih =>
      intro k st o hk q
      rw [rch] at q ⊢
      by_cases c : k = j
      · rw [if_pos c] at q ⊢; exact q
      · rw [if_neg c] at q ⊢
        by_cases c2 : j < k
        · rw [if_pos c2] at q; cases q
        · rw [if_neg c2] at q ⊢
          obtain ⟨ea, er⟩ := hc k hk (by omega)
          have es : stp W A' R' e k st = stp W A R e k st := by unfold stp; rw [ea, er]
          rw [es]
          cases hs : stp W A R e k st with
          | none => rw [hs] at q; cases q
          | some o1 =>
            rw [hs] at q
            cases o1 with
            | none => exact q
            | some s =>
              have sk : k < s.1 := by
                unfold stp at hs
                split at hs
                · split at hs
                  · cases hs; exact Nat.lt_succ_self _
                  · cases hs
                · split at hs
                  · split at hs
                    · cases hs; exact Nat.lt_succ_self _
                    · cases hs
                  · split at hs
                    · split at hs
                      · rename_i y x t
                        cases hb : bnO (A k) x y with
                        | none => rw [hb] at hs; cases hs
                        | some v => rw [hb] at hs; cases hs; exact Nat.lt_succ_self _
                      · cases hs
                    · split at hs
                      · split at hs
                        · split at hs
                          · cases hs; exact Nat.lt_succ_self _
                          · cases hs
                        · cases hs
                      · split at hs
                        · split at hs
                          · split at hs
                            · rename_i z
                              have z2 := z.2
                              split at hs <;> split at hs <;> (injection hs with hs; injection hs with hs; subst hs; first | exact Nat.lt_succ_self _ | (show k < (R k).toNat; omega))
                            · cases hs
                          · cases hs
                        · cases hs
              exact ih s.1 s.2 o (by omega) q
  refine ⟨h.1, fun e he st q => ?_⟩
  obtain ⟨n, hn⟩ := h.2 e he st q
  exact ⟨n, K e n i st _ (Nat.le_refl _) hn⟩
end SH
