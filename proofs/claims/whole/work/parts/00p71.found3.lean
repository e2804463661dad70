/-! found: the class counts, and takes the first -/
def FTc (N : NN) (r : Nat → Int) (lw : Nat → Law) (n : Nat) : Prop := N 58 5 = r 0 ∧ N 58 6 = r 1 ∧ ∀ g : Nat, (g : Int) < r 1 → LKc N r lw n g
def HDc (N : NN) (r : Nat → Int) (H : Nat → Nat) : Prop := ∀ g : Nat, (g : Int) < r 1 → N 61 g = (H g : Int) ∧ (H g : Int) < r 0
def chN (all i : Nat) : Int := if i = 0 ∨ i = all then 1 else (all : Int)
def psN (A W : Nat → Int) (all : Nat) : Nat → Int := sm (fun i => chN all i * A (all - i) * W i)
theorem ftc_fr {N N' : NN} {r : Nat → Int} {lw : Nat → Law} {n : Nat} (h : FTc N r lw n) (h1 : N' 58 5 = N 58 5) (h2 : N' 58 6 = N 58 6) (h3 : N' 59 = N 59) (h4 : N' 60 = N 60) : FTc N' r lw n := by
  obtain ⟨a, b, c⟩ := h
  refine ⟨h1.trans a, h2.trans b, fun g hg => ?_⟩
  have := c g hg
  unfold LKc at this ⊢
  rw [h3, h4]
  exact this
theorem ps_b {A W : Nat → Int} (hA : ∀ i, i ≤ 3 → 0 ≤ A i ∧ A i ≤ ((96 ^ i : Nat) : Int)) (hW : ∀ i, i ≤ 3 → 0 ≤ W i ∧ W i ≤ ((6 ^ i : Nat) : Int)) {all i : Nat} (ha : all ≤ 3) (hi : i ≤ all) : 0 ≤ chN all i * A (all - i) ∧ chN all i * A (all - i) ≤ 2654208 ∧ 0 ≤ chN all i * A (all - i) * W i ∧ chN all i * A (all - i) * W i ≤ 2654208 := by
  have a := hA (all - i) (by omega)
  have w := hW i (by omega)
  have c : 0 ≤ chN all i ∧ chN all i ≤ 3 := by unfold chN; split <;> omega
  have p96 : 96 ^ (all - i) ≤ 96 ^ 3 := Nat.pow_le_pow_right (by omega) (by omega)
  have t : ∀ all : Fin 4, ∀ i : Fin 4, i.val ≤ all.val → (((3 * 96 ^ (all.val - i.val) * 6 ^ i.val : Nat)) : Int) ≤ 2654208 := by decide
  have t' := t ⟨all, by omega⟩ ⟨i, by omega⟩ hi
  dsimp only at t'
  have m0 : 0 ≤ chN all i * A (all - i) := Int.mul_nonneg c.1 a.1
  have m1 : chN all i * A (all - i) ≤ 3 * A (all - i) := Int.mul_le_mul_of_nonneg_right c.2 a.1
  have m2 : 3 * A (all - i) ≤ ((3 * 96 ^ (all - i) : Nat) : Int) := by omega
  have m3 : chN all i * A (all - i) ≤ ((3 * 96 ^ (all - i) : Nat) : Int) := Int.le_trans m1 m2
  refine ⟨m0, by omega, Int.mul_nonneg m0 w.1, ?_⟩
  have m4 : chN all i * A (all - i) * W i ≤ ((3 * 96 ^ (all - i) : Nat) : Int) * W i := Int.mul_le_mul_of_nonneg_right m3 w.1
  have m5 : ((3 * 96 ^ (all - i) : Nat) : Int) * W i ≤ ((3 * 96 ^ (all - i) : Nat) : Int) * ((6 ^ i : Nat) : Int) := Int.mul_le_mul_of_nonneg_left w.2 (Int.natCast_nonneg _)
  rw [← Int.natCast_mul] at m5
  exact Int.le_trans m4 (Int.le_trans m5 t')
theorem ps_all {op : Nat → Nat → Nat → Bool} {td : Nat → Int} {j : Nat} {H : Nat → Nat} : ∀ all, all ≤ 3 → psN (fun i => ccS op td j i H) (fun i => wkS op td i j (H j)) all (all + 1) = ccS op td (j + 1) all H
  | 0, _ => by
    rw [cc_0]
    show 0 + 1 * ccS op td j 0 H * wkS op td 0 j (H j) = _
    rw [Int.one_mul, Int.zero_add]
  | 1, _ => by
    rw [cc_1]
    show 0 + 1 * ccS op td j 1 H * wkS op td 0 j (H j) + 1 * ccS op td j 0 H * wkS op td 1 j (H j) = _
    rw [Int.one_mul, Int.one_mul]
    omega
  | 2, _ => by
    rw [cc_2]
    show 0 + 1 * ccS op td j 2 H * wkS op td 0 j (H j) + 2 * ccS op td j 1 H * wkS op td 1 j (H j) + 1 * ccS op td j 0 H * wkS op td 2 j (H j) = _
    rw [Int.one_mul, Int.one_mul, Int.mul_assoc 2]
    omega
  | 3, _ => by
    rw [cc_3]
    show 0 + 1 * ccS op td j 3 H * wkS op td 0 j (H j) + 3 * ccS op td j 2 H * wkS op td 1 j (H j) + 3 * ccS op td j 1 H * wkS op td 2 j (H j) + 1 * ccS op td j 0 H * wkS op td 3 j (H j) = _
    rw [Int.one_mul, Int.one_mul, Int.mul_assoc 3, Int.mul_assoc 3]
    omega
  | n + 4, h => by omega
section FR
variable {X : MX} {N : NN} {B : Int} {r : Nat → Int} {lw : Nat → Law}
theorem c_chosen {all i : Nat} : f_X6_chosen X N (all : Int) (i : Int) = some (chN all i) := by
  unfold f_X6_chosen f_X6_chosen_j9 f_X6_chosen_j14 chN
  by_cases c : i = 0
  · rw [if_pos (by omega), if_pos (Or.inl c)]
  · rw [if_neg (by omega)]
    by_cases d : i = all
    · rw [if_pos (by omega), if_pos (Or.inr d)]
    · rw [if_neg (by omega), if_neg (by omega)]
theorem c_fill4 {o : Nat} {v : Int} (hx : xK X o = (1, 4)) : Ok (f_J7_fill_53178 X o N v) (fun N' => (∀ k, k < 4 → N' o k = v) ∧ Fr (fun o' _ => o' = o) N N') := by
  have e : (((xK X o).2 : Nat) : Int) = 4 := by rw [hx]; rfl
  unfold f_J7_fill_53178
  rw [e, if_pos (by omega)]
  have H : Ok (lp (fun s => b_J7_fill_53178_5 X o s.1 s.2.1 s.2.2.1 s.2.2.2) (N, v, 0, 4)) (fun N' => (∀ k, k < 4 → N' o k = v) ∧ Fr (fun o' _ => o' = o) N N') := by
    refine ok_up (fun i z => ∃ M, z = (M, v, i, 4) ∧ (∀ k : Nat, (k : Int) < i → M o k = v) ∧ Fr (fun o' _ => o' = o) N M) 4 (i0 := 0) ?_ ?_ (by omega) ⟨N, rfl, fun k h => by omega, fr_rfl⟩
    · rintro i z a0 a1 ⟨M, rfl, hj, hf⟩
      obtain ⟨k, rfl⟩ := Int.eq_ofNat_of_zero_le a0
      dsimp only
      unfold b_J7_fill_53178_5
      rw [if_pos a1, e, gdp (by omega), Int.toNat_natCast, w_id (by omega) (by omega)]
      refine ok_ret ⟨_, rfl, fun j hj' => ?_, fr_up hf rfl⟩
      rw [up_a]
      by_cases c : j = k
      · rw [if_pos c]
      · rw [if_neg c]; exact hj j (by omega)
    · rintro z ⟨M, rfl, hj, hf⟩
      dsimp only
      unfold b_J7_fill_53178_5
      rw [if_neg (by omega)]
      exact ok_ret ⟨fun k h => hj k (by omega), hf⟩
  refine ok_bind H ?_
  intro o5 h
  exact ok_ret h
theorem c_fdRows {n k : Nat} {H : Nat → Nat} (hX : XOK X) (hV : Vr B r) (hT : FTc N r lw n) (hH : HDc N r H) (hk : k ≤ n) (hn : n ≤ 3) : Ok (f_X6_rows X N (k : Int)) (fun o => o.1 = ccS (opF r lw) (tdF r) (r 1).toNat k H ∧ Fr (fun o _ => o = 62) N o.2) := by
  have v0 := hV.1
  have v1 := hV.2.1
  unfold f_X6_rows f_X6_rows_j142 f_X6_rows_j143
  refine ok_bind (c_fill4 hX.2.2.2.2.2.2.2.2.2.2.2.1) ?_
  rintro M1 ⟨m1, m2⟩
  dsimp only
  have f2 : Fr (fun o _ => o = 62) N (m_up M1 62 0 1) := fr_up m2 rfl
  have L : Ok (lp (fun s => b_X6_rows_17 X s.1 s.2.1 s.2.2) (m_up M1 62 0 1, (k : Int), 0)) (fun o => ∃ M, o = (M, (k : Int)) ∧ (∀ i, i ≤ k → M 62 i = ccS (opF r lw) (tdF r) (r 1).toNat i H) ∧ Fr (fun o _ => o = 62) N M) := by
    refine ok_up (fun i z => ∃ M, z = (M, (k : Int), i) ∧ (∀ i', i' ≤ k → M 62 i' = ccS (opF r lw) (tdF r) i.toNat i' H) ∧ Fr (fun o _ => o = 62) N M) (r 1) (i0 := 0) ?_ ?_ (by omega) ⟨_, rfl, fun i hi => ?_, f2⟩
    · rintro i z a0 a1 ⟨M, rfl, hA, hf⟩
      obtain ⟨j, rfl⟩ := Int.eq_ofNat_of_zero_le a0
      rw [Int.toNat_natCast] at hA
      rw [show ((j : Int) + 1).toNat = j + 1 by omega]
      have e6 : M 58 6 = r 1 := by rw [hf 58 6 (by omega)]; exact hT.2.1
      have e61 := hH j a1
      have e61' : M 61 j = (H j : Int) := by rw [hf 61 j (by omega)]; exact e61.1
      have hw : ∀ s, s ≤ k → M 60 ((j * 6 + H j) * 4 + s) = wkS (opF r lw) (tdF r) s j (H j) := fun s hs => by
        rw [hf 60 _ (by omega)]
        exact (hT.2.2 j a1).2 (H j) s e61.2 (by omega)
      have bA : ∀ i, i ≤ 3 → 0 ≤ ccS (opF r lw) (tdF r) j i H ∧ ccS (opF r lw) (tdF r) j i H ≤ ((96 ^ i : Nat) : Int) := fun i _ => cc_b (by omega) i H
      have bW : ∀ i, i ≤ 3 → 0 ≤ wkS (opF r lw) (tdF r) i j (H j) ∧ wkS (opF r lw) (tdF r) i j (H j) ≤ ((6 ^ i : Nat) : Int) := fun i hi => wk_b i j (H j) hi
      have pall := fun all h => ps_all (op := opF r lw) (td := tdF r) (j := j) (H := H) all h
      obtain ⟨A, hAe⟩ : ∃ A : Nat → Int, A = fun i => ccS (opF r lw) (tdF r) j i H := ⟨_, rfl⟩
      obtain ⟨W, hWe⟩ : ∃ W : Nat → Int, W = fun i => wkS (opF r lw) (tdF r) i j (H j) := ⟨_, rfl⟩
      have bps := fun {all i : Nat} (ha : all ≤ 3) (hi : i ≤ all) => ps_b (A := A) (W := W) (by rw [hAe]; exact bA) (by rw [hWe]; exact bW) ha hi
      rw [← hAe, ← hWe] at pall
      have hA' : ∀ i', i' ≤ k → M 62 i' = A i' := by rw [hAe]; exact hA
      have hw' : ∀ s, s ≤ k → M 60 ((j * 6 + H j) * 4 + s) = W s := by rw [hWe]; exact hw
      have bs : ∀ (all i : Nat), all ≤ 3 → i ≤ all + 1 → 0 ≤ psN A W all i ∧ psN A W all i ≤ i * 2654208 := fun all i ha hi => sm_b fun t ht => ⟨(bps ha (by omega)).2.2.1, (bps ha (by omega)).2.2.2⟩
      -- the loop over all, downwards
      have D : Ok (lp (fun s => b_X6_rows_46 X s.1 s.2.1 s.2.2.1 s.2.2.2.1 s.2.2.2.2) (M, (k : Int), (j : Int), (((j * 6 + H j) * 4 : Nat) : Int), (k : Int))) (fun o => ∃ M', o = (M', (k : Int), (j : Int)) ∧ (∀ i', i' ≤ k → M' 62 i' = ccS (opF r lw) (tdF r) (j + 1) i' H) ∧ Fr (fun o _ => o = 62) M M') := by
        refine ok_up (fun c z => ∃ M', z = (M', (k : Int), (j : Int), (((j * 6 + H j) * 4 : Nat) : Int), (k : Int) - c) ∧ (∀ i' : Nat, (i' : Int) ≤ (k : Int) - c → M' 62 i' = A i') ∧ (∀ i' : Nat, (k : Int) - c < (i' : Int) → i' ≤ k → M' 62 i' = ccS (opF r lw) (tdF r) (j + 1) i' H) ∧ Fr (fun o _ => o = 62) M M') ((k : Int) + 1) (i0 := 0) ?_ ?_ (by omega) ⟨M, by rw [Int.sub_zero], fun i' hi' => hA' i' (by omega), fun i' h1 h2 => by omega, fr_rfl⟩
        · rintro c z b0 b1 ⟨M', rfl, q1, q2, q3⟩
          obtain ⟨all, hall⟩ : ∃ all : Nat, (k : Int) - c = (all : Int) := ⟨((k : Int) - c).toNat, by omega⟩
          rw [hall] at q1 q2 ⊢
          have IN : Ok (lp (fun s => b_X6_rows_57 X s.1 s.2.1 s.2.2.1 s.2.2.2.1 s.2.2.2.2.1 s.2.2.2.2.2.1 s.2.2.2.2.2.2) (M', (k : Int), (j : Int), (((j * 6 + H j) * 4 : Nat) : Int), (all : Int), 0, 0)) (fun o => o = (M', (k : Int), (j : Int), (((j * 6 + H j) * 4 : Nat) : Int), (all : Int), psN A W all (all + 1))) := by
            refine ok_up (fun i z => z = (M', (k : Int), (j : Int), (((j * 6 + H j) * 4 : Nat) : Int), (all : Int), psN A W all i.toNat, i)) ((all : Int) + 1) (i0 := 0) ?_ ?_ (by omega) rfl
            · rintro i z c0 c1 rfl
              obtain ⟨own, rfl⟩ := Int.eq_ofNat_of_zero_le c0
              have bb := bps (all := all) (i := own) (by omega) (by omega)
              have b1' := bs all own (by omega) (by omega)
              rw [Int.toNat_natCast, show ((own : Int) + 1).toNat = own + 1 by omega, show psN A W all (own + 1) = psN A W all own + chN all own * A (all - own) * W own from rfl]
              dsimp only
              unfold b_X6_rows_57
              rw [if_neg (by omega), c_chosen, Option.bind_some, w_id (x := (all : Int) - (own : Int)) (by omega) (by omega), if_pos (by omega), w_id (x := (((j * 6 + H j) * 4 : Nat) : Int) + (own : Int)) (by omega) (by omega), if_pos (by omega), show ((all : Int) - (own : Int)).toNat = all - own by omega, q1 (all - own) (by omega), show ((((j * 6 + H j) * 4 : Nat) : Int) + (own : Int)).toNat = (j * 6 + H j) * 4 + own by omega, q3 60 _ (by omega), hw' own (by omega), w_id (x := chN all own * A (all - own)) (by omega) (by omega), w_id (x := chN all own * A (all - own) * W own) (by omega) (by omega), w_id (x := psN A W all own + chN all own * A (all - own) * W own) (by omega) (by omega), w_id (x := (own : Int) + 1) (by omega) (by omega)]
              exact ok_ret rfl
            · rintro z rfl
              dsimp only
              unfold b_X6_rows_57
              rw [if_pos (by omega), show ((all : Int) + 1).toNat = all + 1 by omega]
              exact ok_ret rfl
          dsimp only
          unfold b_X6_rows_46
          rw [if_neg (by omega)]
          refine ok_bind IN ?_
          rintro o rfl
          dsimp only
          rw [if_pos (by omega), Int.toNat_natCast, w_id (x := (all : Int) + -1) (by omega) (by omega), pall all (by omega)]
          refine ok_ret ⟨_, by rw [show (k : Int) - (c + 1) = (all : Int) + -1 by omega], fun i' h => ?_, fun i' h h' => ?_, fr_up q3 rfl⟩
          · rw [up_k (by omega)]; exact q1 i' (by omega)
          · rw [up_a]
            by_cases e : i' = all
            · rw [if_pos e, e]
            · rw [if_neg e]; exact q2 i' (by omega) h'
        · rintro z ⟨M', rfl, q1, q2, q3⟩
          dsimp only
          unfold b_X6_rows_46
          rw [if_pos (by omega)]
          exact ok_ret ⟨M', rfl, fun i' hi' => q2 i' (by omega) hi', q3⟩
      dsimp only
      unfold b_X6_rows_17
      rw [e6, if_pos a1, if_pos (by omega), Int.toNat_natCast, e61', w_id (x := (j : Int) * 6) (by omega) (by omega), w_id (x := (j : Int) * 6 + (H j : Int)) (by omega) (by omega), w_id (x := ((j : Int) * 6 + (H j : Int)) * 4) (by omega) (by omega), min_id, show min (k : Int) 3 = (k : Int) by omega, show ((j : Int) * 6 + (H j : Int)) * 4 = (((j * 6 + H j) * 4 : Nat) : Int) by omega]
      refine ok_bind D ?_
      rintro o ⟨M', rfl, q1, q2⟩
      dsimp only
      rw [w_id (x := (j : Int) + 1) (by omega) (by omega)]
      exact ok_ret ⟨M', rfl, q1, fr_tr hf q2⟩
    · rintro z ⟨M, rfl, hA, hf⟩
      have e6 : M 58 6 = r 1 := by rw [hf 58 6 (by omega)]; exact hT.2.1
      dsimp only
      unfold b_X6_rows_17
      rw [e6, if_neg (by omega)]
      exact ok_ret ⟨M, rfl, hA, hf⟩
    · rw [show (0 : Int).toNat = 0 from rfl, up_a]
      cases i with
      | zero => rw [if_pos rfl]; rfl
      | succ i => rw [if_neg (by omega), m1 _ (by omega)]; rfl
  refine ok_bind L ?_
  rintro o ⟨M, rfl, q1, q2⟩
  dsimp only
  rw [if_neg (by omega), if_pos (by omega), if_pos (by omega), Int.toNat_natCast]
  exact ok_ret ⟨q1 k (Nat.le_refl _), q2⟩
theorem ftc_62 {N' : NN} {n : Nat} (h : FTc N r lw n) (hf : Fr (fun o k => o = 61 ∨ o = 62 ∨ (o = 58 ∧ (k = 7 ∨ k = 8))) N N') : FTc N' r lw n := ftc_fr h (hf 58 5 (by omega)) (hf 58 6 (by omega)) (fr_of hf 59 fun k => by omega) (fr_of hf 60 fun k => by omega)
def frTk (o k : Nat) : Prop := o = 61 ∨ o = 62 ∨ (o = 58 ∧ (k = 7 ∨ k = 8))
theorem c_takeFirst {n k : Nat} {H : Nat → Nat} (hX : XOK X) (hV : Vr B r) (hT : FTc N r lw n) (hH : HDc N r H) (hk : k + 1 ≤ n) (hn : n ≤ 3) :
    Ok (f_X6_takeFirst X N (k : Int)) (fun o => ((o.1 = 1 ∧ ∃ x, x < 6 * (r 1).toNat ∧ opF r lw (x / 6) (H (x / 6)) (x % 6) = true ∧ (∀ y, y < x → opF r lw (y / 6) (H (y / 6)) (y % 6) = true → ¬ 0 < ccS (opF r lw) (tdF r) (r 1).toNat k (uph H (y / 6) (y % 6))) ∧ 0 < ccS (opF r lw) (tdF r) (r 1).toNat k (uph H (x / 6) (x % 6)) ∧ o.2 58 7 = ((x / 6 : Nat) : Int) ∧ o.2 58 8 = ((x % 6 : Nat) : Int) ∧ HDc o.2 r (uph H (x / 6) (x % 6))) ∨
      (o.1 = 0 ∧ ∀ y, y < 6 * (r 1).toNat → opF r lw (y / 6) (H (y / 6)) (y % 6) = true → ¬ 0 < ccS (opF r lw) (tdF r) (r 1).toNat k (uph H (y / 6) (y % 6)))) ∧ Fr frTk N o.2) := by
  have v0 := hV.1
  have v1 := hV.2.1
  obtain ⟨G, hG⟩ : ∃ G, G = (r 1).toNat := ⟨_, rfl⟩
  rw [← hG]
  have opL : ∀ g a t, opF r lw g a t = true → t < (r 0).toNat := fun g a t h => by
    unfold opF at h
    exact of_decide_eq_true ((Bool.and_eq_true _ _).mp h).1
  obtain ⟨bad, hbad⟩ : ∃ bad : Nat → Prop, bad = fun y => opF r lw (y / 6) (H (y / 6)) (y % 6) = true → ¬ 0 < ccS (opF r lw) (tdF r) G k (uph H (y / 6) (y % 6)) := ⟨_, rfl⟩
  have M0 : Ok (lp (fun s => b_X6_takeFirst_2 X s.1 s.2.1 s.2.2) (N, (k : Int), 0)) (fun o => (∃ M, o = .inl M ∧ (∀ y, y < 6 * G → bad y) ∧ Fr frTk N M) ∨ (∃ M, ∃ g t : Nat, o = .inr (M, (g : Int), (t : Int)) ∧ g < G ∧ t < 6 ∧ opF r lw g (H g) t = true ∧ (∀ y, y < 6 * g + t → bad y) ∧ 0 < ccS (opF r lw) (tdF r) G k (uph H g t) ∧ HDc M r (uph H g t) ∧ Fr frTk N M)) := by
    refine ok_up (fun i z => ∃ M, z = (M, (k : Int), i) ∧ (∀ y : Nat, (y : Int) < 6 * i → bad y) ∧ HDc M r H ∧ Fr frTk N M) (r 1) (i0 := 0) ?_ ?_ (by omega) ⟨N, rfl, fun y h => by omega, hH, fr_rfl⟩
    · rintro i z a0 a1 ⟨M, rfl, hb, hHM, hf⟩
      obtain ⟨g, rfl⟩ := Int.eq_ofNat_of_zero_le a0
      have hTM := ftc_62 hT hf
      have hg := hHM g a1
      have IN : Ok (lp (fun s => b_X6_takeFirst_20 X s.1 s.2.1 s.2.2.1 s.2.2.2.1 s.2.2.2.2) (M, (k : Int), (g : Int), (H g : Int), 0)) (fun o => (∃ M', o = .inl (M', (k : Int), (g : Int), (H g : Int)) ∧ (∀ y : Nat, y < 6 * g + 6 → bad y) ∧ (∀ g' : Nat, g' ≠ g → M' 61 g' = M 61 g') ∧ Fr frTk M M') ∨ (∃ M', ∃ t : Nat, o = .inr (M', (g : Int), (t : Int)) ∧ t < 6 ∧ opF r lw g (H g) t = true ∧ (∀ y, y < 6 * g + t → bad y) ∧ 0 < ccS (opF r lw) (tdF r) G k (uph H g t) ∧ HDc M' r (uph H g t) ∧ Fr frTk M M')) := by
        refine ok_up (fun i z => ∃ M', z = (M', (k : Int), (g : Int), (H g : Int), i) ∧ (∀ y : Nat, (y : Int) < 6 * (g : Int) + i → bad y) ∧ (∀ g' : Nat, g' ≠ g → M' 61 g' = M 61 g') ∧ Fr frTk M M') (r 0) (i0 := 0) ?_ ?_ (by omega) ⟨M, rfl, fun y h => hb y (by omega), fun g' _ => rfl, fr_rfl⟩
        · rintro i z b0 b1 ⟨M', rfl, q1, q2, q3⟩
          obtain ⟨t, rfl⟩ := Int.eq_ofNat_of_zero_le b0
          have hTM' := ftc_62 hTM q3
          have e59 : M' 59 (36 * g + 6 * H g + t) = if 0 < n ∧ opF r lw g (H g) t = true then 1 else 0 := (hTM'.2.2 g a1).1 (H g) t hg.2 b1
          have xd : (6 * g + t) / 6 = g := by omega
          have xm : (6 * g + t) % 6 = t := by omega
          have skip : ∀ M2, bad (6 * g + t) → (∀ g' : Nat, g' ≠ g → M2 61 g' = M 61 g') → Fr frTk M M2 → Ok (some (.inl (M2, (k : Int), (g : Int), (H g : Int), (t : Int) + 1)) : Option ((NN × Int × Int × Int × Int) ⊕ ((NN × Int × Int × Int) ⊕ (NN × Int × Int)))) (fun o => (∃ M', o = .inl (M', (k : Int), (g : Int), (H g : Int), (t : Int) + 1) ∧ (∀ y : Nat, (y : Int) < 6 * (g : Int) + ((t : Int) + 1) → bad y) ∧ (∀ g' : Nat, g' ≠ g → M' 61 g' = M 61 g') ∧ Fr frTk M M') ∨ (∃ M', ∃ t : Nat, o = .inr (.inr (M', (g : Int), (t : Int))) ∧ t < 6 ∧ opF r lw g (H g) t = true ∧ (∀ y, y < 6 * g + t → bad y) ∧ 0 < ccS (opF r lw) (tdF r) G k (uph H g t) ∧ HDc M' r (uph H g t) ∧ Fr frTk M M')) := by
            intro M2 h1 h2 h3
            refine ok_ret (Or.inl ⟨M2, rfl, fun y hy => ?_, h2, h3⟩)
            by_cases e : y = 6 * g + t
            · rw [e]; exact h1
            · exact q1 y (by omega)
          have GG : Ok (b_X6_takeFirst_20 X M' (k : Int) (g : Int) (H g : Int) (t : Int)) (fun o => (∃ M', o = .inl (M', (k : Int), (g : Int), (H g : Int), (t : Int) + 1) ∧ (∀ y : Nat, (y : Int) < 6 * (g : Int) + ((t : Int) + 1) → bad y) ∧ (∀ g' : Nat, g' ≠ g → M' 61 g' = M 61 g') ∧ Fr frTk M M') ∨ (∃ M', ∃ t : Nat, o = .inr (.inr (M', (g : Int), (t : Int))) ∧ t < 6 ∧ opF r lw g (H g) t = true ∧ (∀ y, y < 6 * g + t → bad y) ∧ 0 < ccS (opF r lw) (tdF r) G k (uph H g t) ∧ HDc M' r (uph H g t) ∧ Fr frTk M M')) := by
            unfold b_X6_takeFirst_20 f_X6_takeFirst_l20_j78
            rw [hTM'.1, if_pos b1, w_id (x := (g : Int) * 36) (by omega) (by omega), w_id (x := (H g : Int) * 6) (by omega) (by omega), w_id (x := (g : Int) * 36 + (H g : Int) * 6) (by omega) (by omega), w_id (x := (g : Int) * 36 + (H g : Int) * 6 + (t : Int)) (by omega) (by omega), if_pos (by omega), show ((g : Int) * 36 + (H g : Int) * 6 + (t : Int)).toNat = 36 * g + 6 * H g + t by omega, w_id (x := (t : Int) + 1) (by omega) (by omega)]
            by_cases c : opF r lw g (H g) t = true
            case neg =>
              rw [show M' 59 (36 * g + 6 * H g + t) = 0 by rw [e59]; exact if_neg (fun z => c z.2), i00]
              refine skip M' ?_ q2 q3
              rw [hbad]
              dsimp only
              rw [xd, xm]
              exact fun z => absurd z c
            rw [show M' 59 (36 * g + 6 * H g + t) = 1 by rw [e59]; exact if_pos ⟨by omega, c⟩, i10, if_pos (by omega)]
            dsimp only
            rw [Int.toNat_natCast]
            have f4 : Fr frTk M (m_up M' 61 g (t : Int)) := fr_up q3 (Or.inl rfl)
            have h4 : HDc (m_up M' 61 g (t : Int)) r (uph H g t) := fun g' hg' => by
              rw [up_a]
              unfold uph
              by_cases e : g' = g
              · rw [if_pos e, if_pos e]; exact ⟨rfl, b1⟩
              · rw [if_neg e, if_neg e, q2 g' e]; exact hHM g' hg'
            refine ok_bind (c_fdRows hX hV (ftc_62 hTM f4) h4 (show k ≤ n by omega) hn) ?_
            rintro ⟨v, M5⟩ ⟨p1, p2⟩
            dsimp only at p1 p2 ⊢
            rw [← hG] at p1
            have f5 : Fr frTk M M5 := fr_tr f4 (fr_mono p2 fun o k q => Or.inr (Or.inl q))
            by_cases pos : 0 < v
            · rw [if_pos pos]
              refine ok_ret (Or.inr ⟨M5, t, rfl, by omega, c, fun y hy => q1 y (by omega), by rw [← p1]; exact pos, fun g' hg' => by rw [p2 61 _ (by omega)]; exact h4 g' hg', f5⟩)
            · rw [if_neg pos]
              refine skip M5 ?_ (fun g' hg' => by rw [p2 61 _ (by omega), up_k hg']; exact q2 g' hg') f5
              rw [hbad]
              dsimp only
              rw [xd, xm, ← p1]
              exact fun _ => pos
          refine ok_mono GG ?_
          rintro o (⟨M9, rfl, h⟩ | ⟨M9, t9, rfl, h⟩)
          · exact ⟨M9, rfl, h⟩
          · exact Or.inr ⟨M9, t9, rfl, h⟩
        · rintro z ⟨M', rfl, q1, q2, q3⟩
          dsimp only
          unfold b_X6_takeFirst_20
          rw [(ftc_62 hTM q3).1, if_neg (by omega)]
          refine ok_ret (Or.inl ⟨M', rfl, fun y hy => ?_, q2, q3⟩)
          by_cases e : (y : Int) < 6 * (g : Int) + r 0
          · exact q1 y e
          · rw [hbad]
            dsimp only
            intro z
            have := opL _ _ _ z
            omega
      have GG : Ok (b_X6_takeFirst_2 X M (k : Int) (g : Int)) (fun o => (∃ M', o = .inl (M', (k : Int), (g : Int) + 1) ∧ (∀ y : Nat, (y : Int) < 6 * ((g : Int) + 1) → bad y) ∧ HDc M' r H ∧ Fr frTk N M') ∨ (∃ M', ∃ t : Nat, o = .inr (.inr (M', (g : Int), (t : Int))) ∧ t < 6 ∧ opF r lw g (H g) t = true ∧ (∀ y, y < 6 * g + t → bad y) ∧ 0 < ccS (opF r lw) (tdF r) G k (uph H g t) ∧ HDc M' r (uph H g t) ∧ Fr frTk N M')) := by
        unfold b_X6_takeFirst_2
        rw [hTM.2.1, if_pos a1, if_pos (by omega), Int.toNat_natCast, hg.1]
        refine ok_bind IN ?_
        rintro o (⟨M', rfl, q1, q2, q3⟩ | ⟨M', t, rfl, q1, q2, q3, q4, q5, q6⟩)
        · dsimp only
          rw [if_pos (by omega), Int.toNat_natCast, w_id (x := (g : Int) + 1) (by omega) (by omega)]
          refine ok_ret (Or.inl ⟨_, rfl, fun y hy => q1 y (by omega), fun g' hg' => ?_, fr_up (fr_tr hf q3) (Or.inl rfl)⟩)
          rw [up_a]
          by_cases e : g' = g
          · rw [if_pos e, e]; exact ⟨rfl, hg.2⟩
          · rw [if_neg e, q2 g' e]; exact hHM g' hg'
        · dsimp only
          exact ok_ret (Or.inr ⟨M', t, rfl, q1, q2, q3, q4, q5, fr_tr hf q6⟩)
      refine ok_mono GG ?_
      rintro o (⟨M9, rfl, h⟩ | ⟨M9, t9, rfl, h⟩)
      · exact ⟨M9, rfl, h⟩
      · exact Or.inr ⟨M9, g, t9, rfl, by omega, h⟩
    · rintro z ⟨M, rfl, hb, hHM, hf⟩
      dsimp only
      unfold b_X6_takeFirst_2
      rw [(ftc_62 hT hf).2.1, if_neg (by omega)]
      exact ok_ret (Or.inl ⟨M, rfl, fun y hy => hb y (by omega), hf⟩)
  unfold f_X6_takeFirst
  rw [hbad] at M0
  refine ok_bind M0 ?_
  rintro o (⟨M, rfl, q1, q2⟩ | ⟨M, g, t, rfl, q0, q1, q2, q3, q4, q5, q6⟩)
  · dsimp only
    exact ok_ret ⟨Or.inr ⟨rfl, q1⟩, q2⟩
  · dsimp only
    have xd : (6 * g + t) / 6 = g := by omega
    have xm : (6 * g + t) % 6 = t := by omega
    refine ok_ret ⟨Or.inl ⟨rfl, 6 * g + t, by omega, by rw [xd, xm]; exact q2, q3, by rw [xd, xm]; exact q4, by rw [xd]; dsimp only; rw [up_k (by omega), up_s], by rw [xm]; dsimp only; rw [up_s], ?_⟩, fr_up (fr_up q6 (Or.inr (Or.inr ⟨rfl, Or.inl rfl⟩))) (Or.inr (Or.inr ⟨rfl, Or.inr rfl⟩))⟩
    rw [xd, xm]
    intro g' hg'
    dsimp only
    rw [up_o (by omega), up_o (by omega)]
    exact q5 g' hg'
end FR
