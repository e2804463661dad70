/-! reading: the reference's leaves and openings -/
def ixW (ord : Bool) (k : Int) : Int := if ord = true then (if 275 ≤ k ∧ k ≤ 280 then k - 274 else if k = 272 then 0 else -1) else (if 267 ≤ k ∧ k ≤ 271 then k - 267 else if 272 ≤ k ∧ k ≤ 274 then k - 266 else if k = 264 then 5 else -1)
def RR (X : MX) (W : Int) (tp : Nat → Int) (n : Nat) (ord : Bool) (N : NN) (t z p o d : Nat) (l tn : Int) (bo : Bool) (r : PR) (N' : NN) (tu : Int) : Prop := Fr frRx N N' ∧ match r with
  | .inl f => FSt N' tp n f
  | .inr q => tu = tn ∧ ∃ z' p', RK N' tp n ord q.1 q.2.1 o ∧ PW N' q.1 z' p' ∧ Pend X W ord N' l p z d q.2.2 ∧ p ≤ p' ∧ z < z' ∧ (∀ k, k < z → N' 75 k = N 75 k ∧ N' 76 k = N 76 k) ∧ (∀ k, k < p → N' 77 k = N 77 k ∧ N' 78 k = N 78 k) ∧ (∀ k, p ≤ k → k < p' → l ≤ bdP (N' 77 k)) ∧ t < q.1 ∧ (if bo = true then DBo q.2.2 else DBd q.2.2)
section RL
variable {X : MX} {N : NN} {tp : Nat → Int} {n : Nat} {ord : Bool} {W : Int}
theorem rr_i {N' : NN} {t z p o d : Nat} {l tn tu : Int} {bo : Bool} {f : Nat} (h1 : Fr frRx N N') (h2 : FSt N' tp n f) : RR X W tp n ord N t z p o d l tn bo (.inl f) N' tu := ⟨h1, h2⟩
theorem rr_j {N' : NN} {t z p o d : Nat} {l tn : Int} {bo : Bool} {q : Nat × Nat × Den} {z' p' : Nat} (h1 : Fr frRx N N') (h2 : RK N' tp n ord q.1 q.2.1 o) (h3 : PW N' q.1 z' p') (h4 : Pend X W ord N' l p z d q.2.2) (h5 : p ≤ p') (h6 : z < z') (h7 : ∀ k, k < z → N' 75 k = N 75 k ∧ N' 76 k = N 76 k) (h8 : ∀ k, k < p → N' 77 k = N 77 k ∧ N' 78 k = N 78 k) (h9 : ∀ k, p ≤ k → k < p' → l ≤ bdP (N' 77 k)) (h10 : t < q.1) (h11 : if bo = true then DBo q.2.2 else DBd q.2.2) : RR X W tp n ord N t z p o d l tn bo (.inr q) N' tn := ⟨h1, rfl, z', p', h2, h3, h4, h5, h6, h7, h8, h9, h10, h11⟩
theorem ixl {i : Nat} {k : Int} (h : i < 9) : k = 256 + ((lwI i : Nat) : Int) ↔ ixW false k = (i : Int) := by
  unfold lwI ixW
  rw [if_neg (show ¬ (false = true) by decide)]
  repeat' split
  all_goals omega
theorem ixo {i : Nat} {k : Int} (h : i < 7) : k = 256 + ((owI i : Nat) : Int) ↔ ixW true k = (i : Int) := by
  unfold owI ixW
  rw [if_pos (show true = true from rfl)]
  repeat' split
  all_goals omega
theorem lwI_b {i : Nat} (h : i < 9) : lwI i < 25 := by unfold lwI; split <;> (try split) <;> omega
theorem owI_b {i : Nat} (h : i < 7) : owI i < 25 := by unfold owI; split <;> omega
theorem ix_b {k : Int} : -1 ≤ ixW ord k ∧ ixW ord k ≤ 8 ∧ (ord = true → ixW ord k ≤ 6) ∧ (ixW ord k ≠ -1 → 264 ≤ k) ∧ (ixW ord k = -1 ↔ lwW ord k = -1) ∧ (ord = true → (5 ≤ ixW ord k + 1 ↔ 278 ≤ k ∧ k ≤ 280)) ∧ (ord = true → 278 ≤ k → ixW ord k ≠ -1 → ixW ord k = k - 274) := by
  unfold ixW lwW
  cases ord with
  | true =>
    rw [if_pos (show true = true from rfl), if_pos (show true = true from rfl)]
    refine ⟨?_, ?_, fun _ => ?_, ?_, ?_, fun _ => ?_, fun _ => ?_⟩
    all_goals (repeat' split)
    all_goals omega
  | false =>
    rw [if_neg (show ¬ (false = true) by decide), if_neg (show ¬ (false = true) by decide)]
    refine ⟨?_, ?_, fun z => (by cases z), ?_, ?_, fun z => (by cases z), fun z => (by cases z)⟩
    all_goals (repeat' split)
    all_goals omega
theorem nr_ix {k p : Int} (h : ixW ord k ≠ -1) (hp : ord = true → 278 ≤ k → 0 ≤ p ∧ p ≤ (if k = 279 then 15 else 5)) : (1 ≤ ixW ord k + 1 ∧ ixW ord k + 1 ≤ 9) ∧ nR ord (ixW ord k + 1) p = lwW ord k + (if ord = true ∧ 278 ≤ k then p else 0) := by
  unfold nR
  have b := ix_b (ord := ord) (k := k)
  refine ⟨by omega, ?_⟩
  rw [if_neg (by omega), if_pos (by omega)]
  unfold ixW at h ⊢
  unfold lwW
  cases ord with
  | true =>
    rw [if_pos (show true = true from rfl)] at h
    rw [if_pos (show true = true from rfl), if_pos (show true = true from rfl), if_pos (show true = true from rfl)]
    by_cases g : 278 ≤ k
    · rw [if_pos (show true = true ∧ 278 ≤ k from ⟨rfl, g⟩)]
      have hp' := hp rfl g
      have k280 : k ≤ 280 := by
        rcases Int.lt_or_le 280 k with y | y
        · exfalso
          rw [if_neg (show ¬ (275 ≤ k ∧ k ≤ 280) by omega), if_neg (show ¬ k = 272 by omega)] at h
          exact h rfl
        · exact y
      rw [if_pos (show 275 ≤ k ∧ k ≤ 280 by omega), if_neg (show ¬ (k - 274 + 1 ≤ 4) by omega), if_neg (show ¬ (275 ≤ k ∧ k ≤ 277) by omega), if_neg (show ¬ k = 272 by omega)]
      by_cases k8 : k = 278
      · rw [if_neg (show ¬ k = 279 by omega)] at hp'
        rw [if_pos (show k - 274 + 1 = 5 by omega), if_pos hp', if_pos k8]
      rw [if_neg (show ¬ k - 274 + 1 = 5 by omega), if_neg k8]
      by_cases k9 : k = 279
      · rw [if_pos k9] at hp'
        rw [if_pos (show k - 274 + 1 = 6 by omega), if_pos hp', if_pos k9]
      rw [if_neg k9] at hp'
      rw [if_neg (show ¬ k - 274 + 1 = 6 by omega), if_pos hp', if_neg k9, if_pos (show k = 280 by omega)]
    · rw [if_neg (show ¬ (true = true ∧ 278 ≤ k) from fun z => g z.2)]
      repeat' split
      all_goals (first | omega | skip)
      all_goals (split at h <;> (try split at h) <;> omega)
  | false =>
    rw [if_neg (show ¬ (false = true) by decide), if_neg (show ¬ (false = true) by decide), if_neg (show ¬ (false = true) by decide), if_neg (show ¬ (false = true ∧ 278 ≤ k) from fun z => by cases z.1)]
    omega
theorem ref_partAt {t : Nat} (hb : ∀ j, j < n → 0 ≤ tp j ∧ tp j ≤ 255) (hw : WTb N) (h : TKm N tp n t) : f_X12_partAt X N = some (if ixW false (tkK tp n t) = -1 then -1 else ixW false (tkK tp n t) + 1) := by
  unfold f_X12_partAt
  have b := ix_b (ord := false) (k := tkK tp n t)
  have K : ∀ j i : Nat, i + j = 9 → lp (fun s => b_X12_partAt_4 X N s.1 s.2) (if 0 ≤ ixW false (tkK tp n t) ∧ ixW false (tkK tp n t) < (i : Int) then ixW false (tkK tp n t) + 1 else -1, (i : Int)) = some (if ixW false (tkK tp n t) = -1 then -1 else ixW false (tkK tp n t) + 1) := by
    intro j
    induction j with
    | zero =>
      intro i hi
      rw [lp_end (t := if 0 ≤ ixW false (tkK tp n t) ∧ ixW false (tkK tp n t) < (i : Int) then ixW false (tkK tp n t) + 1 else -1)]
      · congr 1
        by_cases c : ixW false (tkK tp n t) = -1
        · rw [if_pos c, if_neg (by omega)]
        · rw [if_neg c, if_pos (by omega)]
      · dsimp only; unfold b_X12_partAt_4; rw [if_neg (by omega)]
    | succ j ih =>
      intro i hi
      have B : b_X12_partAt_4 X N (if 0 ≤ ixW false (tkK tp n t) ∧ ixW false (tkK tp n t) < (i : Int) then ixW false (tkK tp n t) + 1 else -1) (i : Int) = some (.inl (if 0 ≤ ixW false (tkK tp n t) ∧ ixW false (tkK tp n t) < ((i + 1 : Nat) : Int) then ixW false (tkK tp n t) + 1 else -1, ((i + 1 : Nat) : Int))) := by
        unfold b_X12_partAt_4 f_X12_partAt_l4_j30
        have q := ixl (i := i) (k := tkK tp n t) (by omega)
        rw [if_pos (show (i : Int) < 9 by omega), if_pos (show 0 ≤ (i : Int) ∧ (i : Int) < 9 by omega), Int.toNat_natCast, hw.1 i (by omega), ref_isWord (lwI_b (by omega)) hb h, Option.bind_some, w_id (x := (i : Int) + 1) (by omega) (by omega), show ((i + 1 : Nat) : Int) = (i : Int) + 1 by omega]
        by_cases c : tkK tp n t = 256 + ((lwI i : Nat) : Int)
        · have e := q.1 c
          rw [if_pos c, i10, e, if_pos (show 0 ≤ (i : Int) ∧ (i : Int) < (i : Int) + 1 by omega)]
        · rw [if_neg c, i00]
          have e : ixW false (tkK tp n t) ≠ (i : Int) := fun z => c (q.2 z)
          by_cases g : 0 ≤ ixW false (tkK tp n t) ∧ ixW false (tkK tp n t) < (i : Int)
          · rw [if_pos g, if_pos (show 0 ≤ ixW false (tkK tp n t) ∧ ixW false (tkK tp n t) < (i : Int) + 1 by omega)]
          · rw [if_neg g, if_neg (show ¬ (0 ≤ ixW false (tkK tp n t) ∧ ixW false (tkK tp n t) < (i : Int) + 1) by omega)]
      rw [lp_next (f := fun s => b_X12_partAt_4 X N s.1 s.2) (s := (if 0 ≤ ixW false (tkK tp n t) ∧ ixW false (tkK tp n t) < (i : Int) then ixW false (tkK tp n t) + 1 else -1, (i : Int))) B]
      exact ih (i + 1) (by omega)
  have := K 9 0 (by omega)
  rw [show ((0 : Nat) : Int) = 0 from rfl, if_neg (by omega)] at this
  rw [this]
  rfl
theorem ref_orderPartAt {t : Nat} (hb : ∀ j, j < n → 0 ≤ tp j ∧ tp j ≤ 255) (hw : WTb N) (h : TKm N tp n t) : f_X12_orderPartAt X N = some (if ixW true (tkK tp n t) = -1 then -1 else ixW true (tkK tp n t) + 1) := by
  unfold f_X12_orderPartAt
  have b := ix_b (ord := true) (k := tkK tp n t)
  have b6 := b.2.2.1 rfl
  have K : ∀ j i : Nat, i + j = 7 → lp (fun s => b_X12_orderPartAt_4 X N s.1 s.2) (if 0 ≤ ixW true (tkK tp n t) ∧ ixW true (tkK tp n t) < (i : Int) then ixW true (tkK tp n t) + 1 else -1, (i : Int)) = some (if ixW true (tkK tp n t) = -1 then -1 else ixW true (tkK tp n t) + 1) := by
    intro j
    induction j with
    | zero =>
      intro i hi
      rw [lp_end (t := if 0 ≤ ixW true (tkK tp n t) ∧ ixW true (tkK tp n t) < (i : Int) then ixW true (tkK tp n t) + 1 else -1)]
      · congr 1
        by_cases c : ixW true (tkK tp n t) = -1
        · rw [if_pos c, if_neg (by omega)]
        · rw [if_neg c, if_pos (by omega)]
      · dsimp only; unfold b_X12_orderPartAt_4; rw [if_neg (by omega)]
    | succ j ih =>
      intro i hi
      have B : b_X12_orderPartAt_4 X N (if 0 ≤ ixW true (tkK tp n t) ∧ ixW true (tkK tp n t) < (i : Int) then ixW true (tkK tp n t) + 1 else -1) (i : Int) = some (.inl (if 0 ≤ ixW true (tkK tp n t) ∧ ixW true (tkK tp n t) < ((i + 1 : Nat) : Int) then ixW true (tkK tp n t) + 1 else -1, ((i + 1 : Nat) : Int))) := by
        unfold b_X12_orderPartAt_4 f_X12_orderPartAt_l4_j30
        have q := ixo (i := i) (k := tkK tp n t) (by omega)
        rw [if_pos (show (i : Int) < 7 by omega), if_pos (show 0 ≤ (i : Int) ∧ (i : Int) < 7 by omega), Int.toNat_natCast, hw.2.1 i (by omega), ref_isWord (owI_b (by omega)) hb h, Option.bind_some, w_id (x := (i : Int) + 1) (by omega) (by omega), show ((i + 1 : Nat) : Int) = (i : Int) + 1 by omega]
        by_cases c : tkK tp n t = 256 + ((owI i : Nat) : Int)
        · have e := q.1 c
          rw [if_pos c, i10, e, if_pos (show 0 ≤ (i : Int) ∧ (i : Int) < (i : Int) + 1 by omega)]
        · rw [if_neg c, i00]
          have e : ixW true (tkK tp n t) ≠ (i : Int) := fun z => c (q.2 z)
          by_cases g : 0 ≤ ixW true (tkK tp n t) ∧ ixW true (tkK tp n t) < (i : Int)
          · rw [if_pos g, if_pos (show 0 ≤ ixW true (tkK tp n t) ∧ ixW true (tkK tp n t) < (i : Int) + 1 by omega)]
          · rw [if_neg g, if_neg (show ¬ (0 ≤ ixW true (tkK tp n t) ∧ ixW true (tkK tp n t) < (i : Int) + 1) by omega)]
      rw [lp_next (f := fun s => b_X12_orderPartAt_4 X N s.1 s.2) (s := (if 0 ≤ ixW true (tkK tp n t) ∧ ixW true (tkK tp n t) < (i : Int) then ixW true (tkK tp n t) + 1 else -1, (i : Int))) B]
      exact ih (i + 1) (by omega)
  have := K 7 0 (by omega)
  rw [show ((0 : Nat) : Int) = 0 from rfl, if_neg (by omega)] at this
  rw [this]
  rfl
end RL
