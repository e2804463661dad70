/-! found: the reference's loop; found whole -/
noncomputable def fdC (r : Nat → Int) (lw : Nat → Law) (e : Nat) (P : List Nat) (H : Nat → Nat) : Nat → List (List Nat) := fun x => if opF r lw (x / 6) (H (x / 6)) (x % 6) = true then (sqS (opF r lw) (tdF r) (r 1).toNat e (uph H (x / 6) (x % 6))).map (fun s => P ++ x :: s) else []
section FG
variable {X : MX} {B : Int} {r : Nat → Int} {lw : Nat → Law}
theorem fg_exit {N : NN} {n k : Nat} {P : List Nat} {H : Nat → Nat} (hM : MW N B r lw) (hk : k < n) (hn : n ≤ 3) (hl : P.length = k) (hP : ∀ i v : Nat, P[i]? = some v → N 99 i = (v : Int) ∧ v < 6 * (r 1).toNat) (hH : HDm N r H) (ej : N 99 k = 6 * r 1 - 1) : ∃ N', lp (fun s => b_X12_findGifts_152 X s.1 s.2.1 s.2.2) (N, (n : Int), (k : Int)) = lp (fun s => b_X12_findGifts_152 X s.1 s.2.1 s.2.2) (N', (n : Int), (k : Int) - 1) ∧ (∀ g : Nat, (g : Int) < r 1 → N' 98 g = if 1 ≤ k ∧ ∃ p, P[k - 1]? = some p ∧ g = p / 6 then N 100 (k - 1) else (H g : Int)) ∧ Fr (fun o i => (o = 99 ∧ i = k) ∨ o = 98) N N' := by
  have hV := hM.2.1
  have v1 := hV.2.1
  obtain ⟨N27, h27⟩ : ∃ N27, N27 = m_up N 99 k (6 * r 1) := ⟨_, rfl⟩
  have e66 : N27 66 1 = r 1 := by rw [h27, up_o (by omega), hM.1 1 (by omega)]
  by_cases k0 : k = 0
  · refine ⟨N27, ?_, fun g hg => ?_, by rw [h27]; exact fr_up fr_rfl (Or.inl ⟨rfl, rfl⟩)⟩
    · refine lp_next ?_
      dsimp only
      unfold b_X12_findGifts_152
      rw [if_neg (by omega), if_pos (by omega), if_pos (by omega), Int.toNat_natCast, ej, w_id (x := 6 * r 1 - 1 + 1) (by omega) (by omega), show 6 * r 1 - 1 + 1 = 6 * r 1 by omega, ← h27]
      dsimp only
      rw [if_pos (by omega), if_pos (by rw [e66, w_id (by omega) (by omega), h27, up_s]), w_id (x := (k : Int) + -1) (by omega) (by omega), if_pos (by omega)]
      rfl
    · rw [if_neg (by omega), h27, up_o (by omega)]; exact (hH g hg).1
  · obtain ⟨p, hp⟩ : ∃ p, P[k - 1]? = some p := ⟨P[k - 1]'(by omega), List.getElem?_eq_getElem (by omega)⟩
    have hpp := hP (k - 1) p hp
    have e99 : N27 99 (k - 1) = (p : Int) := by rw [h27, up_k (by omega)]; exact hpp.1
    refine ⟨m_up N27 98 (p / 6) (N 100 (k - 1)), ?_, fun g hg => ?_, fr_up (by rw [h27]; exact fr_up fr_rfl (Or.inl ⟨rfl, rfl⟩)) (Or.inr rfl)⟩
    · refine lp_next ?_
      dsimp only
      unfold b_X12_findGifts_152
      rw [if_neg (by omega), if_pos (by omega), if_pos (by omega), Int.toNat_natCast, ej, w_id (x := 6 * r 1 - 1 + 1) (by omega) (by omega), show 6 * r 1 - 1 + 1 = 6 * r 1 by omega, ← h27]
      dsimp only
      rw [if_pos (by omega), if_pos (by rw [e66, w_id (by omega) (by omega), h27, up_s]), w_id (x := (k : Int) + -1) (by omega) (by omega), if_neg (by omega), if_pos (by omega), if_pos (by omega), show ((k : Int) + -1).toNat = k - 1 by omega, e99, div_id (by omega) (by omega) (by omega) (by omega), if_pos (by omega), show ((p : Int) / 6).toNat = p / 6 by omega, show N27 100 (k - 1) = N 100 (k - 1) by rw [h27, up_o (by omega)]]
      rfl
    · rw [up_a]
      by_cases c : g = p / 6
      · rw [if_pos c, if_pos ⟨by omega, p, hp, c⟩]
      · rw [if_neg c, if_neg (fun z => by obtain ⟨_, q, q1, q2⟩ := z; rw [hp] at q1; cases q1; exact c q2), h27, up_o (by omega)]
        exact (hH g hg).1
theorem fg_step {N : NN} {n k x : Nat} {H : Nat → Nat} (hM : MW N B r lw) (hB : BTm N r lw) (hk : k < n) (hn : n ≤ 3) (hH : HDm N r H) (hx : x < 6 * (r 1).toNat) (ej : N 99 k = (x : Int) - 1) : ∀ s', ((if opF r lw (x / 6) (H (x / 6)) (x % 6) = true then
      (if (k : Int) < (n : Int) - 1 then some (.inl (m_up (m_up (m_up (m_up N 99 k (x : Int)) 100 k (H (x / 6) : Int)) 98 (x / 6) ((x % 6 : Nat) : Int)) 99 (k + 1) (-1), (n : Int), (k : Int) + 1))
       else Option.bind (f_X12_isTold X (m_up (m_up (m_up N 99 k (x : Int)) 100 k (H (x / 6) : Int)) 98 (x / 6) ((x % 6 : Nat) : Int))) (fun o45 => if o45 = 0 then f_X12_findGifts_l152_j296 X (m_up (m_up (m_up N 99 k (x : Int)) 100 k (H (x / 6) : Int)) 98 (x / 6) ((x % 6 : Nat) : Int)) (n : Int) (k : Int) ((x / 6 : Nat) : Int) else Option.bind (f_X12_keepGifts X (m_up (m_up (m_up N 99 k (x : Int)) 100 k (H (x / 6) : Int)) 98 (x / 6) ((x % 6 : Nat) : Int)) (n : Int)) (fun o46 => f_X12_findGifts_l152_j296 X o46 (n : Int) (k : Int) ((x / 6 : Nat) : Int))))
      else some (.inl (m_up N 99 k (x : Int), (n : Int), (k : Int)))) : Option ((NN × Int × Int) ⊕ NN)) = some (.inl s') → lp (fun s => b_X12_findGifts_152 X s.1 s.2.1 s.2.2) (N, (n : Int), (k : Int)) = lp (fun s => b_X12_findGifts_152 X s.1 s.2.1 s.2.2) s' := by
  intro s' hs
  have hV := hM.2.1
  have v1 := hV.2.1
  obtain ⟨N27, h27⟩ : ∃ N27, N27 = m_up N 99 k (x : Int) := ⟨_, rfl⟩
  rw [← h27] at hs
  have f27 : Fr (fun o _ => o = 99) N N27 := by rw [h27]; exact fr_up fr_rfl rfl
  have hM27 : MW N27 B r lw := mw_fr hM f27 (fun k q => by omega) (by omega)
  have hB27 : BTm N27 r lw := fun g a t h1 h2 h3 h4 => by rw [f27 97 _ (by omega)]; exact hB g a t h1 h2 h3 h4
  have hH27 : HDm N27 r H := fun g hg => by rw [f27 98 _ (by omega)]; exact hH g hg
  have e99 : N27 99 k = (x : Int) := by rw [h27, up_s]
  have e98 : N27 98 (x / 6) = (H (x / 6) : Int) := (hH27 (x / 6) (by omega)).1
  refine lp_next ?_
  dsimp only
  unfold b_X12_findGifts_152
  rw [if_neg (by omega), if_pos (by omega), if_pos (by omega), Int.toNat_natCast, ej, w_id (x := (x : Int) - 1 + 1) (by omega) (by omega), show (x : Int) - 1 + 1 = (x : Int) by omega, ← h27]
  dsimp only
  rw [if_pos (by omega), if_neg (by rw [e99, hM27.1 1 (by omega), w_id (by omega) (by omega)]; omega), if_pos (by omega), e99, ref_canBe hM27 hB27 hH27 hx, Option.bind_some]
  by_cases c : opF r lw (x / 6) (H (x / 6)) (x % 6) = true
  case neg =>
    rw [if_neg c, i00]
    rw [if_neg c] at hs
    exact hs
  rw [if_pos c, i10]
  rw [if_pos c] at hs
  have d6 : m_div (x : Int) 6 = ((x / 6 : Nat) : Int) := by rw [div_id (by omega) (by omega) (by omega) (by omega)]; omega
  rw [d6, if_pos (by omega), if_pos (by omega), if_pos (by omega), Int.toNat_natCast, e98]
  try dsimp only
  rw [if_pos (by omega), if_pos (by omega)]
  rw [show (m_up N27 100 k (H (x / 6) : Int)) 99 k = (x : Int) by rw [up_o (by omega)]; exact e99, rem_id (by omega) (by omega) (by omega) (by omega), show (x : Int) % 6 = ((x % 6 : Nat) : Int) by omega, w_id (x := (n : Int) - 1) (by omega) (by omega)]
  rw [← hs]
  by_cases c2 : (k : Int) < (n : Int) - 1
  · rw [if_pos c2, if_pos c2, w_id (x := (k : Int) + 1) (by omega) (by omega), if_pos (by omega), show ((k : Int) + 1).toNat = k + 1 by omega]
  · rw [if_neg c2, if_neg c2]
theorem ref_fdLoop {n : Nat} (hn : n ≤ 3) : ∀ (e m k x : Nat) (P : List Nat) (H : Nat → Nat) (R : List (List Nat)) (N : NN), k + e + 1 = n → P.length = k → x + m = 6 * (r 1).toNat → N 99 k = (x : Int) - 1 → (∀ i v : Nat, P[i]? = some v → N 99 i = (v : Int) ∧ v < 6 * (r 1).toNat) → HDm N r H → MW N B r lw → BTm N r lw → FBm N R → (R ++ (List.range' x m).flatMap (fdC r lw e P H)).length ≤ 1000000 →
    ∃ N', lp (fun s => b_X12_findGifts_152 X s.1 s.2.1 s.2.2) (N, (n : Int), (k : Int)) = lp (fun s => b_X12_findGifts_152 X s.1 s.2.1 s.2.2) (N', (n : Int), (k : Int) - 1) ∧ FBm N' (R ++ (List.range' x m).flatMap (fdC r lw e P H)) ∧ (∀ g : Nat, (g : Int) < r 1 → N' 98 g = if 1 ≤ k ∧ ∃ p, P[k - 1]? = some p ∧ g = p / 6 then N 100 (k - 1) else (H g : Int)) ∧ Fr (frFm k) N N' := by
  intro e
  induction e with
  | zero =>
    intro m
    induction m with
    | zero =>
      intro k x P H R N hke hl hxm ej hP hH hM hB hR hb
      have v1 := hM.2.1.2.1
      obtain ⟨N', r1, r2, r3⟩ := fg_exit (X := X) hM (by omega) hn hl hP hH (show N 99 k = 6 * r 1 - 1 by omega)
      refine ⟨N', r1, ?_, r2, fr_mono r3 fun o i q => by unfold frFm; omega⟩
      show FBm N' (R ++ [])
      rw [List.append_nil]
      exact fbm_fr hR (r3 64 64 (by omega)) (fr_of r3 101 fun i => by omega)
    | succ m ihm =>
      intro k x P H R N hke hl hxm ej hP hH hM hB hR hb
      have hV := hM.2.1
      have v0 := hV.1
      have v1 := hV.2.1
      have step := fg_step (X := X) hM hB (show k < n by omega) hn hH (show x < 6 * (r 1).toNat by omega) ej
      have rest : ∀ (M : NN) (R' : List (List Nat)), Fr (frFm k) N M → M 99 k = (x : Int) → HDm M r H → FBm M R' → (R' ++ (List.range' (x + 1) m).flatMap (fdC r lw 0 P H)).length ≤ 1000000 → (∀ i, i < k → M 100 i = N 100 i) → ∃ N', lp (fun s => b_X12_findGifts_152 X s.1 s.2.1 s.2.2) (M, (n : Int), (k : Int)) = lp (fun s => b_X12_findGifts_152 X s.1 s.2.1 s.2.2) (N', (n : Int), (k : Int) - 1) ∧ FBm N' (R' ++ (List.range' (x + 1) m).flatMap (fdC r lw 0 P H)) ∧ (∀ g : Nat, (g : Int) < r 1 → N' 98 g = if 1 ≤ k ∧ ∃ p, P[k - 1]? = some p ∧ g = p / 6 then N 100 (k - 1) else (H g : Int)) ∧ Fr (frFm k) N N' := by
        intro M R' fM jM hHM hRM hbM e100
        obtain ⟨N', r1, r2, r3, r4⟩ := ihm k (x + 1) P H R' M hke hl (by omega) (by rw [jM]; omega) (fun i v q => by rw [fM 99 i (by have := get_lt q; unfold frFm; omega)]; exact hP i v q) hHM (mw_Fm hM fM) (fun g a t h1 h2 h3 h4 => by rw [fM 97 _ (by unfold frFm; omega)]; exact hB g a t h1 h2 h3 h4) hRM hbM
        refine ⟨N', r1, r2, fun g hg => ?_, fr_tr fM r4⟩
        rw [r3 g hg]
        by_cases c : 1 ≤ k ∧ ∃ p, P[k - 1]? = some p ∧ g = p / 6
        · rw [if_pos c, if_pos c, e100 (k - 1) (by omega)]
        · rw [if_neg c, if_neg c]
      have f27 : Fr (frFm k) N (m_up N 99 k (x : Int)) := fr_up fr_rfl (by unfold frFm; omega)
      rw [List.range'_succ, List.flatMap_cons, ← List.append_assoc] at hb
      rw [List.range'_succ, List.flatMap_cons, ← List.append_assoc]
      by_cases c : opF r lw (x / 6) (H (x / 6)) (x % 6) = true
      case neg =>
        have e0 : fdC r lw 0 P H x = [] := if_neg c
        rw [e0, List.append_nil] at hb ⊢
        have s1 := step (m_up N 99 k (x : Int), (n : Int), (k : Int)) (by rw [if_neg c])
        rw [s1]
        exact rest _ R f27 up_s (fun g hg => by rw [up_o (by omega)]; exact hH g hg) (fbm_fr hR (up_o (by omega)) (up_of (by omega))) hb (fun i hi => up_o (by omega))
      have hg := hH (x / 6) (by omega)
      obtain ⟨N42, h42⟩ : ∃ N42, N42 = m_up (m_up (m_up N 99 k (x : Int)) 100 k (H (x / 6) : Int)) 98 (x / 6) ((x % 6 : Nat) : Int) := ⟨_, rfl⟩
      have f42 : Fr (frFm k) N N42 := by rw [h42]; exact fr_up (fr_up f27 (by unfold frFm; omega)) (by unfold frFm; omega)
      have opL : x % 6 < (r 0).toNat := by unfold opF at c; exact of_decide_eq_true ((Bool.and_eq_true _ _).mp c).1
      have hH42 : HDm N42 r (uph H (x / 6) (x % 6)) := fun g hg' => by
        rw [h42, up_a]
        unfold uph
        by_cases e : g = x / 6
        · rw [if_pos e, if_pos e]; exact ⟨rfl, by omega⟩
        · rw [if_neg e, if_neg e, up_o (by omega), up_o (by omega)]; exact hH g hg'
      have hM42 := mw_Fm hM f42
      have e42 : N42 99 k = (x : Int) := by rw [h42, up_o (by omega), up_o (by omega), up_s]
      have e42' : N42 100 k = (H (x / 6) : Int) := by rw [h42, up_o (by omega), up_s]
      have hR42 : FBm N42 R := fbm_fr hR (by rw [h42, up_o (by omega), up_o (by omega), up_o (by omega)]) (by rw [h42, up_of (by omega), up_of (by omega), up_of (by omega)])
      have back : ∀ M, Fr (fun o i => (o = 64 ∧ i = 64) ∨ o = 101) N42 M → f_X12_findGifts_l152_j296 X M (n : Int) (k : Int) ((x / 6 : Nat) : Int) = some (.inl (m_up M 98 (x / 6) (H (x / 6) : Int), (n : Int), (k : Int))) ∧ Fr (frFm k) N (m_up M 98 (x / 6) (H (x / 6) : Int)) ∧ (m_up M 98 (x / 6) (H (x / 6) : Int)) 99 k = (x : Int) ∧ HDm (m_up M 98 (x / 6) (H (x / 6) : Int)) r H ∧ ∀ i, i < k → (m_up M 98 (x / 6) (H (x / 6) : Int)) 100 i = N 100 i := by
        intro M hf
        refine ⟨?_, fr_up (fr_tr f42 (fr_mono hf fun o i q => by unfold frFm; omega)) (by unfold frFm; omega), by rw [up_o (by omega), hf 99 k (by omega)]; exact e42, fun g hg' => ?_, fun i hi => by rw [up_o (by omega), hf 100 i (by omega), h42, up_o (by omega), up_k (by omega), up_o (by omega)]⟩
        · unfold f_X12_findGifts_l152_j296
          rw [if_pos (by omega), if_pos (by omega), Int.toNat_natCast, Int.toNat_natCast, hf 100 k (by omega), e42']
        · rw [up_a]
          by_cases e : g = x / 6
          · rw [if_pos e, e]; exact ⟨rfl, hg.2⟩
          · rw [if_neg e, hf 98 g (by omega), h42, up_k e, up_o (by omega), up_o (by omega)]; exact hH g hg'
      have told := ref_isTold (X := X) hM42 hH42
      by_cases t1 : tdN (tdF r) (uph H (x / 6) (x % 6)) (r 1).toNat = 1
      · have eC : fdC r lw 0 P H x = [P ++ [x]] := by
          unfold fdC
          rw [if_pos c, sqS, if_pos t1]; rfl
        rw [eC] at hb ⊢
        have hbl : R.length ≤ 1000000 := by rw [List.length_append, List.length_append] at hb; omega
        obtain ⟨M46, k1, k2, k3⟩ := ref_keepGifts (X := X) (n := n) (R := R) (P := P ++ [x]) (N := N42) hn (by rw [List.length_append, hl]; show k + 1 = n; omega) (fun i v q => by
          rcases app_g q with q' | ⟨q', q''⟩
          · rw [h42, up_o (by omega), up_o (by omega), up_k (by have := get_lt q'; omega)]; exact (hP i v q').1
          · subst q''
            rw [q', hl]; exact e42) hR42 hbl
        obtain ⟨b1, b2, b3, b4, b5⟩ := back M46 k3
        have s1 := step (m_up M46 98 (x / 6) (H (x / 6) : Int), (n : Int), (k : Int)) (by rw [if_pos c, if_neg (by omega), ← h42, told, Option.bind_some, if_pos t1, i10, k1, Option.bind_some, b1])
        rw [s1]
        exact rest _ (R ++ [P ++ [x]]) b2 b3 b4 (fbm_fr k2 (up_o (by omega)) (up_of (by omega))) hb b5
      · have eC : fdC r lw 0 P H x = [] := by
          unfold fdC
          rw [if_pos c, sqS, if_neg t1]; rfl
        rw [eC, List.append_nil] at hb ⊢
        obtain ⟨b1, b2, b3, b4, b5⟩ := back N42 fr_rfl
        have s1 := step (m_up N42 98 (x / 6) (H (x / 6) : Int), (n : Int), (k : Int)) (by rw [if_pos c, if_neg (by omega), ← h42, told, Option.bind_some, if_neg t1, i00, b1])
        rw [s1]
        exact rest _ R b2 b3 b4 (fbm_fr hR42 (up_o (by omega)) (up_of (by omega))) hb b5
  | succ e ih =>
    intro m
    induction m with
    | zero =>
      intro k x P H R N hke hl hxm ej hP hH hM hB hR hb
      have v1 := hM.2.1.2.1
      obtain ⟨N', r1, r2, r3⟩ := fg_exit (X := X) hM (by omega) hn hl hP hH (show N 99 k = 6 * r 1 - 1 by omega)
      refine ⟨N', r1, ?_, r2, fr_mono r3 fun o i q => by unfold frFm; omega⟩
      show FBm N' (R ++ [])
      rw [List.append_nil]
      exact fbm_fr hR (r3 64 64 (by omega)) (fr_of r3 101 fun i => by omega)
    | succ m ihm =>
      intro k x P H R N hke hl hxm ej hP hH hM hB hR hb
      have hV := hM.2.1
      have v0 := hV.1
      have v1 := hV.2.1
      have step := fg_step (X := X) hM hB (show k < n by omega) hn hH (show x < 6 * (r 1).toNat by omega) ej
      have rest : ∀ (M : NN) (R' : List (List Nat)), Fr (frFm k) N M → M 99 k = (x : Int) → HDm M r H → FBm M R' → (R' ++ (List.range' (x + 1) m).flatMap (fdC r lw (e + 1) P H)).length ≤ 1000000 → (∀ i, i < k → M 100 i = N 100 i) → ∃ N', lp (fun s => b_X12_findGifts_152 X s.1 s.2.1 s.2.2) (M, (n : Int), (k : Int)) = lp (fun s => b_X12_findGifts_152 X s.1 s.2.1 s.2.2) (N', (n : Int), (k : Int) - 1) ∧ FBm N' (R' ++ (List.range' (x + 1) m).flatMap (fdC r lw (e + 1) P H)) ∧ (∀ g : Nat, (g : Int) < r 1 → N' 98 g = if 1 ≤ k ∧ ∃ p, P[k - 1]? = some p ∧ g = p / 6 then N 100 (k - 1) else (H g : Int)) ∧ Fr (frFm k) N N' := by
        intro M R' fM jM hHM hRM hbM e100
        obtain ⟨N', r1, r2, r3, r4⟩ := ihm k (x + 1) P H R' M hke hl (by omega) (by rw [jM]; omega) (fun i v q => by rw [fM 99 i (by have := get_lt q; unfold frFm; omega)]; exact hP i v q) hHM (mw_Fm hM fM) (fun g a t h1 h2 h3 h4 => by rw [fM 97 _ (by unfold frFm; omega)]; exact hB g a t h1 h2 h3 h4) hRM hbM
        refine ⟨N', r1, r2, fun g hg => ?_, fr_tr fM r4⟩
        rw [r3 g hg]
        by_cases c : 1 ≤ k ∧ ∃ p, P[k - 1]? = some p ∧ g = p / 6
        · rw [if_pos c, if_pos c, e100 (k - 1) (by omega)]
        · rw [if_neg c, if_neg c]
      have f27 : Fr (frFm k) N (m_up N 99 k (x : Int)) := fr_up fr_rfl (by unfold frFm; omega)
      rw [List.range'_succ, List.flatMap_cons, ← List.append_assoc] at hb
      rw [List.range'_succ, List.flatMap_cons, ← List.append_assoc]
      by_cases c : opF r lw (x / 6) (H (x / 6)) (x % 6) = true
      case neg =>
        have e0 : fdC r lw (e + 1) P H x = [] := if_neg c
        rw [e0, List.append_nil] at hb ⊢
        have s1 := step (m_up N 99 k (x : Int), (n : Int), (k : Int)) (by rw [if_neg c])
        rw [s1]
        exact rest _ R f27 up_s (fun g hg => by rw [up_o (by omega)]; exact hH g hg) (fbm_fr hR (up_o (by omega)) (up_of (by omega))) hb (fun i hi => up_o (by omega))
      have hg := hH (x / 6) (by omega)
      obtain ⟨N42, h42⟩ : ∃ N42, N42 = m_up (m_up (m_up N 99 k (x : Int)) 100 k (H (x / 6) : Int)) 98 (x / 6) ((x % 6 : Nat) : Int) := ⟨_, rfl⟩
      have f42 : Fr (frFm k) N N42 := by rw [h42]; exact fr_up (fr_up f27 (by unfold frFm; omega)) (by unfold frFm; omega)
      have opL : x % 6 < (r 0).toNat := by unfold opF at c; exact of_decide_eq_true ((Bool.and_eq_true _ _).mp c).1
      have hH42 : HDm N42 r (uph H (x / 6) (x % 6)) := fun g hg' => by
        rw [h42, up_a]
        unfold uph
        by_cases e : g = x / 6
        · rw [if_pos e, if_pos e]; exact ⟨rfl, by omega⟩
        · rw [if_neg e, if_neg e, up_o (by omega), up_o (by omega)]; exact hH g hg'
      have e42 : N42 99 k = (x : Int) := by rw [h42, up_o (by omega), up_o (by omega), up_s]
      have e42' : N42 100 k = (H (x / 6) : Int) := by rw [h42, up_o (by omega), up_s]
      have f44 : Fr (frFm k) N (m_up N42 99 (k + 1) (-1)) := fr_up f42 (by unfold frFm; omega)
      have hP44 : ∀ i v : Nat, (P ++ [x])[i]? = some v → (m_up N42 99 (k + 1) (-1)) 99 i = (v : Int) ∧ v < 6 * (r 1).toNat := fun i v q => by
        rcases app_g q with q' | ⟨q', q''⟩
        · rw [up_k (by have := get_lt q'; omega), h42, up_o (by omega), up_o (by omega), up_k (by have := get_lt q'; omega)]; exact hP i v q'
        · subst q''
          rw [q', hl, up_k (by omega)]; exact ⟨e42, by omega⟩
      have eC : fdC r lw (e + 1) P H x = (List.range' 0 (6 * (r 1).toNat)).flatMap (fdC r lw e (P ++ [x]) (uph H (x / 6) (x % 6))) := by
        unfold fdC
        rw [if_pos c, sqS, List.map_flatMap]
        congr 1
        funext y
        by_cases q : opF r lw (y / 6) (uph H (x / 6) (x % 6) (y / 6)) (y % 6) = true
        · rw [if_pos q, if_pos q, List.map_map]
          congr 1
          funext s
          show P ++ x :: y :: s = P ++ [x] ++ y :: s
          rw [List.append_assoc]; rfl
        · rw [if_neg q, if_neg q]; rfl
      rw [eC] at hb ⊢
      have hb1 : (R ++ (List.range' 0 (6 * (r 1).toNat)).flatMap (fdC r lw e (P ++ [x]) (uph H (x / 6) (x % 6)))).length ≤ 1000000 := by rw [List.length_append] at hb; omega
      obtain ⟨N17, r1, r2, r3, r4⟩ := ih (6 * (r 1).toNat) (k + 1) 0 (P ++ [x]) (uph H (x / 6) (x % 6)) R (m_up N42 99 (k + 1) (-1)) (by omega) (by rw [List.length_append, hl]; rfl) (by omega) (by rw [up_s]; omega) hP44 (fun g hg' => by rw [up_o (by omega)]; exact hH42 g hg') (mw_Fm hM f44) (fun g a t h1 h2 h3 h4 => by rw [f44 97 _ (by unfold frFm; omega)]; exact hB g a t h1 h2 h3 h4) (fbm_fr hR (by rw [up_o (by omega), h42, up_o (by omega), up_o (by omega), up_o (by omega)]) (by rw [up_of (by omega), h42, up_of (by omega), up_of (by omega), up_of (by omega)])) hb1
      have s1 := step (m_up N42 99 (k + 1) (-1), (n : Int), (k : Int) + 1) (by rw [if_pos c, if_pos (by omega), ← h42])
      rw [show ((k + 1 : Nat) : Int) = (k : Int) + 1 by omega, show (k : Int) + 1 - 1 = (k : Int) by omega] at r1
      rw [s1, r1]
      refine rest N17 _ (fr_tr f44 (fr_mono r4 fun o i q => by unfold frFm at q ⊢; omega)) (by rw [r4 99 k (by unfold frFm; omega), up_k (by omega)]; exact e42) (fun g hg' => ?_) r2 hb (fun i hi => by rw [r4 100 i (by unfold frFm; omega), up_o (by omega), h42, up_o (by omega), up_k (by omega), up_o (by omega)])
      have q := r3 g hg'
      rw [show k + 1 - 1 = k by omega, up_o (by omega), e42'] at q
      by_cases e : g = x / 6
      · rw [if_pos ⟨by omega, x, by rw [← hl, List.getElem?_append_right (Nat.le_refl _), Nat.sub_self]; rfl, e⟩] at q
        rw [q, e]; exact ⟨rfl, hg.2⟩
      · rw [if_neg (fun z => by
          obtain ⟨_, p, p1, p2⟩ := z
          rw [← hl, List.getElem?_append_right (Nat.le_refl _), Nat.sub_self] at p1
          cases p1
          exact e p2)] at q
        have u : uph H (x / 6) (x % 6) g = H g := by unfold uph; rw [if_neg e]
        rw [q, u]
        exact ⟨rfl, (hH g hg').2⟩
theorem ref_findGifts {N : NN} {n : Nat} (hM : MW N B r lw) (hn : n ≤ 3) : Ok (f_X12_findGifts X N (n : Int)) (fun M => FBm M (fdL r lw n) ∧ Fr npr N M) := by
  have hV := hM.2.1
  have v0 := hV.1
  have v1 := hV.2.1
  have vg := hV.2.2.2.2.2.2.2.2.2.2.1
  unfold f_X12_findGifts
  refine ok_bind (ref_fdBars hM) ?_
  rintro o ⟨M, rfl, hB, hf⟩
  dsimp only
  have hMM : MW M B r lw := mw_fr hM hf (fun k q => by unfold frM at q; omega) (by unfold frM; omega)
  have H1 : Ok (lp (fun s => b_X12_findGifts_93 X s.1 s.2.1 s.2.2) (M, (n : Int), 0)) (fun o => ∃ M', o = (M', (n : Int)) ∧ HDm M' r (fdH r) ∧ Fr (fun o _ => o = 98) M M') := by
    refine ok_up (fun i z => ∃ M', z = (M', (n : Int), i) ∧ (∀ g : Nat, (g : Int) < i → M' 98 g = (fdH r g : Int) ∧ (fdH r g : Int) < r 0) ∧ Fr (fun o _ => o = 98) M M') (r 1) (i0 := 0) ?_ ?_ (by omega) ⟨M, rfl, fun g h => by omega, fr_rfl⟩
    · rintro i z a0 a1 ⟨M', rfl, h1, h2⟩
      obtain ⟨g, rfl⟩ := Int.eq_ofNat_of_zero_le a0
      have v := vg g (by omega) a1
      have hM' : MW M' B r lw := mw_fr hMM h2 (fun k q => by omega) (by omega)
      dsimp only
      unfold b_X12_findGifts_93
      rw [hM'.1 1 (by omega), if_pos a1]
      refine ok_bd (ref_ofGood hM'.1 (by omega) (by omega) (by omega) (by omega)) ?_
      rw [if_pos (by omega), Int.toNat_natCast, w_id (x := (g : Int) + 1) (by omega) (by omega)]
      refine ok_ret ⟨_, rfl, fun g' hg' => ?_, fr_up h2 rfl⟩
      rw [up_a]
      by_cases e : g' = g
      · rw [if_pos e, e]; unfold fdH; omega
      · rw [if_neg e]; exact h1 g' (by omega)
    · rintro z ⟨M', rfl, h1, h2⟩
      have hM' : MW M' B r lw := mw_fr hMM h2 (fun k q => by omega) (by omega)
      dsimp only
      unfold b_X12_findGifts_93
      rw [hM'.1 1 (by omega), if_neg (by omega)]
      exact ok_ret ⟨M', rfl, fun g hg => h1 g hg, h2⟩
  refine ok_bind H1 ?_
  rintro o ⟨M', rfl, hH, hf2⟩
  dsimp only
  obtain ⟨N20, h20⟩ : ∃ N20, N20 = m_up M' 64 64 0 := ⟨_, rfl⟩
  rw [← h20]
  have f20 : Fr (fun o k => frM o k ∨ o = 97 ∨ o = 98 ∨ (o = 64 ∧ k = 64)) N N20 := by
    rw [h20]
    exact fr_up (fr_tr (fr_mono hf fun o k q => by rcases q with q | q; exact Or.inl q; exact Or.inr (Or.inl q)) (fr_mono hf2 fun o k q => Or.inr (Or.inr (Or.inl q)))) (Or.inr (Or.inr (Or.inr ⟨rfl, rfl⟩)))
  have np20 : Fr npr N N20 := fr_mono f20 fun o k q => by unfold frM at q; unfold npr pC pM; omega
  have hM20 : MW N20 B r lw := mw_fr hM f20 (fun k q => by unfold frM at q; omega) (by unfold frM; omega)
  have hH20 : HDm N20 r (fdH r) := fun g hg => by rw [h20, up_o (by omega)]; exact hH g hg
  have hB20 : BTm N20 r lw := fun g a t h1 h2 h3 h4 => by rw [h20, up_o (by omega), hf2 97 _ (by omega)]; exact hB g a t h1 h2 h3 h4
  have hR20 : FBm N20 [] := ⟨by rw [h20, up_s]; rfl, fun s h => by cases h⟩
  by_cases n0 : n = 0
  · subst n0
    rw [if_pos (by omega), ref_isTold hM20 hH20, Option.bind_some]
    by_cases t1 : tdN (tdF r) (fdH r) (r 1).toNat = 1
    · rw [if_pos t1, i10]
      refine ok_bind (ref_keepGifts (X := X) (n := 0) (R := []) (P := []) (by omega) rfl (fun i v q => by cases q) hR20 (by simp)) ?_
      rintro M22 ⟨k1, k2⟩
      refine ok_ret ⟨?_, fr_tr np20 (fr_mono k2 fun o k q => by unfold npr pC pM; omega)⟩
      unfold fdL
      rw [sqS, if_pos t1]
      exact k1
    · rw [if_neg t1, i00]
      refine ok_ret ⟨?_, np20⟩
      unfold fdL
      rw [sqS, if_neg t1]
      exact hR20
  rw [if_neg (by omega)]
  obtain ⟨n', rfl⟩ : ∃ n', n = n' + 1 := ⟨n - 1, by omega⟩
  have eL : fdL r lw (n' + 1) = (List.range' 0 (6 * (r 1).toNat)).flatMap (fdC r lw n' [] (fdH r)) := rfl
  have hb : ([] ++ (List.range' 0 (6 * (r 1).toNat)).flatMap (fdC r lw n' [] (fdH r)) : List (List Nat)).length ≤ 1000000 := by
    rw [List.nil_append, ← eL]
    have l := sq_len (op := opF r lw) (td := tdF r) (G := (r 1).toNat) (n' + 1) (fdH r)
    have b := cc_b (op := opF r lw) (td := tdF r) (j := (r 1).toNat) (by omega) (n' + 1) (fdH r)
    have p : 96 ^ (n' + 1) ≤ 96 ^ 3 := Nat.pow_le_pow_right (by omega) hn
    unfold fdL
    omega
  obtain ⟨M6, r1, r2, r3, r4⟩ := ref_fdLoop (X := X) (r := r) (lw := lw) hn n' (6 * (r 1).toNat) 0 0 [] (fdH r) [] (m_up N20 99 0 (-1)) (by omega) rfl (by omega) (by rw [up_s]; omega) (fun i v q => by cases q) (fun g hg => by rw [up_o (by omega)]; exact hH20 g hg) (mw_fr hM20 (p := fun o _ => o = 99) (fr_up fr_rfl rfl) (fun k q => by omega) (by omega)) (fun g a t h1 h2 h3 h4 => by rw [up_o (by omega)]; exact hB20 g a t h1 h2 h3 h4) (fbm_fr hR20 (up_o (by omega)) (up_of (by omega))) hb
  have ee : lp (fun s => b_X12_findGifts_152 X s.1 s.2.1 s.2.2) (M6, ((n' + 1 : Nat) : Int), ((0 : Nat) : Int) - 1) = some M6 := by
    refine lp_end ?_
    dsimp only
    unfold b_X12_findGifts_152
    rw [if_pos (by omega)]
  have r1' : lp (fun s => b_X12_findGifts_152 X s.1 s.2.1 s.2.2) (m_up N20 99 0 (-1), ((n' + 1 : Nat) : Int), 0) = some M6 := by rw [← ee]; exact r1
  rw [r1', Option.bind_some]
  rw [List.nil_append, ← eL] at r2
  exact ok_ret ⟨r2, fr_tr np20 (fr_tr (fr_up fr_rfl (by unfold npr pC pM; omega)) (fr_mono r4 fun o k q => by unfold frFm at q; unfold npr pC pM; omega))⟩
theorem sim_found {N : NN} (h : Inv X N B) (n k : Int) : Sim X N B (f_X11_found X N n k) (fun M => f_X12_found X M n k) := by
  have h' := h
  obtain ⟨hX, ⟨r, lw⟩, im, un, tp, cn, rp, hC, hM⟩ := h'
  have hW : CW X N 4 B r lw := hC.1
  have hV := hW.2.1
  have v0 := hV.1
  have v1 := hV.2.1
  refine sim_ro (v := if (0 ≤ n ∧ n ≤ 3) ∧ (0 ≤ k ∧ k ≤ 2 * n) then fdV (fdL r lw n.toNat) k else -1) h ?_ ?_
  · unfold f_X11_found f_X11_found_j20
    refine ok_bd c_within ?_
    by_cases d : 0 ≤ n ∧ n ≤ 3
    case neg =>
      rw [if_neg d, i00, if_neg (fun z => d z.1)]
      exact ok_ret ⟨rfl, fr_rfl⟩
    rw [if_pos d, i10, w_id (x := 2 * n) (by omega) (by omega)]
    refine ok_bd c_within ?_
    by_cases d2 : 0 ≤ k ∧ k ≤ 2 * n
    case neg =>
      rw [if_neg d2, i00, if_neg (fun z => d2 z.2)]
      exact ok_ret ⟨rfl, fr_rfl⟩
    rw [if_pos d2, i10, if_pos ⟨d, d2⟩]
    obtain ⟨nn, rfl⟩ := Int.eq_ofNat_of_zero_le d.1
    refine ok_bind (c_fdAnswer hX hW (by omega) d2.1 d2.2) ?_
    rintro ⟨z, N1⟩ ⟨p1, p2⟩
    exact ok_ret ⟨p1, p2⟩
  · intro M hf
    have hM1 : MW (m_up M 64 0 0) B r lw := (minv_npr hM (fr_tr hf npr_0)).1
    unfold f_X12_found f_X12_found_j32 f_X12_found_j50 f_X12_found_j62 f_X12_found_j92
    try dsimp only
    refine ok_bd ref_in ?_
    by_cases d : 0 ≤ n ∧ n ≤ 3
    case neg =>
      rw [if_neg d, i00, if_neg (fun z => d z.1)]
      exact ok_ret ⟨rfl, npr_0⟩
    rw [if_pos d, i10, wl_id (x := 2 * n) (by omega) (by omega)]
    refine ok_bd ref_in ?_
    by_cases d2 : 0 ≤ k ∧ k ≤ 2 * n
    case neg =>
      rw [if_neg d2, i00, if_neg (fun z => d2 z.2)]
      exact ok_ret ⟨rfl, npr_0⟩
    rw [if_pos d2, i10, if_pos (show (0 ≤ n ∧ n ≤ 3) ∧ (0 ≤ k ∧ k ≤ 2 * n) from ⟨d, d2⟩)]
    obtain ⟨nn, rfl⟩ := Int.eq_ofNat_of_zero_le d.1
    rw [Int.toNat_natCast]
    refine ok_bind (ref_findGifts hM1 (show nn ≤ 3 by omega)) ?_
    rintro M5 ⟨w5, f5⟩
    have f5' : Fr npr M M5 := fr_tr npr_0 f5
    have hmem : ∀ s, s ∈ fdL r lw nn → s.length = nn ∧ ∀ v, v ∈ s → v < 96 := by
      have gen : ∀ (j : Nat) (H : Nat → Nat) (s : List Nat), s ∈ sqS (opF r lw) (tdF r) (r 1).toNat j H → s.length = j ∧ ∀ v, v ∈ s → v < 96 := by
        intro j
        induction j with
        | zero =>
          intro H s hs
          rw [sqS] at hs
          split at hs
          · rw [List.mem_singleton.1 hs]; exact ⟨rfl, fun v hv => by cases hv⟩
          · cases hs
        | succ j ih =>
          intro H s hs
          rw [sqS] at hs
          obtain ⟨x, hx, hm⟩ := List.mem_flatMap.1 hs
          have hx := (List.mem_range'_1.1 hx).2
          split at hm
          · obtain ⟨s', hs', rfl⟩ := List.mem_map.1 hm
            have := ih _ _ hs'
            refine ⟨by rw [List.length_cons, this.1], fun v hv => ?_⟩
            rcases List.mem_cons.1 hv with e | e
            · omega
            · exact this.2 v e
          · cases hm
      exact fun s hs => gen nn (fdH r) s hs
    unfold fdV
    generalize fdL r lw nn = L at *
    by_cases k0 : k = 0
    · rw [if_pos k0, if_pos k0, if_pos k0]
      exact ok_ret ⟨w5.1, f5'⟩
    rw [if_neg k0, if_neg k0, if_neg k0]
    cases L with
    | nil =>
      rw [if_pos (by rw [w5.1]; rfl)]
      exact ok_ret ⟨rfl, f5'⟩
    | cons s t =>
      have hs := hmem s List.mem_cons_self
      rw [if_neg (by rw [w5.1, List.length_cons]; omega), w_id (x := k - 1) (by omega) (by omega), div_id (by omega) (by omega) (by omega) (by omega), if_pos (by omega), rem_id (by omega) (by omega) (by omega) (by omega)]
      have hi : ((k - 1) / 2).toNat < s.length := by omega
      have eg := List.getElem?_eq_getElem hi
      have e101 := w5.2 s rfl _ _ eg
      have hv := hs.2 _ (List.getElem_mem hi)
      rw [e101]
      show Ok _ (fun (p : Int × NN) => p.1 = (if k % 2 = 1 then ((s[((k - 1) / 2).toNat]?.getD 0 / 6 : Nat) : Int) else ((s[((k - 1) / 2).toNat]?.getD 0 % 6 : Nat) : Int)) ∧ Fr npr M p.2)
      rw [eg, Option.getD_some, div_id (by omega) (by omega) (by omega) (by omega), rem_id (by omega) (by omega) (by omega) (by omega)]
      by_cases c : k % 2 = 1
      · rw [if_pos c, if_pos c]; exact ok_ret ⟨by dsimp only; omega, f5'⟩
      · rw [if_neg c, if_neg c]; exact ok_ret ⟨by dsimp only; omega, f5'⟩
end FG
