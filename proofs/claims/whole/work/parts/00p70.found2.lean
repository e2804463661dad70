/-! found: the class's tables -/
noncomputable def opF (r : Nat → Int) (lw : Nat → Law) (g a t : Nat) : Bool := decide (t < (r 0).toNat) && (decide (a ≠ t) && (decide (rl r a 2 = 0) && (decide (rl r t 2 = 0) && !barS r lw g a t)))
def tdF (r : Nat → Int) (g : Nat) : Int := rg r g 5
theorem sm_ext {f : Nat → Int} {L : Nat} (h : ∀ t, L ≤ t → f t = 0) : ∀ n, L ≤ n → sm f n = sm f L
  | 0, q => by rw [show L = 0 by omega]
  | n + 1, q => by
    by_cases e : L = n + 1
    · rw [e]
    · rw [sm_s, sm_ext h n (by omega), h n (by omega)]; omega
def LKc (N : NN) (r : Nat → Int) (lw : Nat → Law) (n g : Nat) : Prop :=
  (∀ a t : Nat, (a : Int) < r 0 → (t : Int) < r 0 → N 59 (36 * g + 6 * a + t) = if 0 < n ∧ opF r lw g a t = true then 1 else 0) ∧
  (∀ a s : Nat, (a : Int) < r 0 → s ≤ n → N 60 ((g * 6 + a) * 4 + s) = wkS (opF r lw) (tdF r) s g a)
def frLk (g o k : Nat) : Prop := o = 26 ∨ o = 27 ∨ (o = 59 ∧ 36 * g ≤ k ∧ k < 36 * g + 36) ∨ (o = 60 ∧ 24 * g ≤ k ∧ k < 24 * g + 24)
section FC
variable {X : MX} {N : NN} {B : Int} {r : Nat → Int} {lw : Nat → Law}
theorem cw_Lk {N' : NN} {g : Nat} (h : CW X N 4 B r lw) (hf : Fr (frLk g) N N') : CW X N' 4 B r lw := cw_fr h hf fun o k q => by unfold frLk at q; omega
theorem lk_22 {g n a : Nat} {told : Int} (hX : XOK X) (hW : CW X N 4 B r lw) (hg : (g : Int) < r 1) (hn : n ≤ 3) (ha : (a : Int) < r 0) (e5 : N 58 5 = r 0) :
    Ok (lp (fun s => b_X6_lookAt_22 X 4 s.1 s.2.1 s.2.2.1 s.2.2.2.1 s.2.2.2.2.1 s.2.2.2.2.2) (N, (g : Int), (n : Int), told, (a : Int), 0)) (fun o => ∃ M, o = (M, (g : Int), (n : Int), told, (a : Int)) ∧ (∀ t : Nat, (t : Int) < r 0 → M 59 (36 * g + 6 * a + t) = if 0 < n ∧ opF r lw g a t = true then 1 else 0) ∧ Fr (fun o k => o = 26 ∨ o = 27 ∨ (o = 59 ∧ 36 * g + 6 * a ≤ k ∧ k < 36 * g + 6 * a + 6)) N M) := by
  have hV := hW.2.1
  have v0 := hV.1
  have v1 := hV.2.1
  refine ok_up (fun i z => ∃ M, z = (M, (g : Int), (n : Int), told, (a : Int), i) ∧ (∀ t : Nat, (t : Int) < i → M 59 (36 * g + 6 * a + t) = if 0 < n ∧ opF r lw g a t = true then 1 else 0) ∧ Fr (fun o k => o = 26 ∨ o = 27 ∨ (o = 59 ∧ 36 * g + 6 * a ≤ k ∧ k < 36 * g + 6 * a + 6)) N M) (r 0) (i0 := 0) ?_ ?_ (by omega) ⟨N, rfl, fun t h => by omega, fr_rfl⟩
  · rintro i z a0 a1 ⟨M, rfl, hj, hf⟩
    obtain ⟨t, rfl⟩ := Int.eq_ofNat_of_zero_le a0
    have hWM : CW X M 4 B r lw := cw_fr hW hf fun o k q => by omega
    have m5 : M 58 5 = r 0 := by rw [hf 58 5 (by omega)]; exact e5
    have K : ∀ (M2 : NN) (v : Int), Fr (fun o k => o = 26 ∨ o = 27) M M2 → (0 ≤ v ∧ v ≤ 1) → v = (if 0 < n ∧ opF r lw g a t = true then 1 else 0) → Ok (f_X6_lookAt_l22_j98 X 4 M2 (g : Int) (n : Int) told (a : Int) (t : Int) (36 * (g : Int) + 6 * (a : Int) + (t : Int)) v) (fun o => ∃ M, o = .inl (M, (g : Int), (n : Int), told, (a : Int), (t : Int) + 1) ∧ (∀ t' : Nat, (t' : Int) < (t : Int) + 1 → M 59 (36 * g + 6 * a + t') = if 0 < n ∧ opF r lw g a t' = true then 1 else 0) ∧ Fr (fun o k => o = 26 ∨ o = 27 ∨ (o = 59 ∧ 36 * g + 6 * a ≤ k ∧ k < 36 * g + 6 * a + 6)) N M) := by
      intro M2 v f2 hv he
      unfold f_X6_lookAt_l22_j98
      rw [if_pos (by omega), if_pos hv, w_id (x := (t : Int) + 1) (by omega) (by omega), show (36 * (g : Int) + 6 * (a : Int) + (t : Int)).toNat = 36 * g + 6 * a + t by omega]
      refine ok_ret ⟨_, rfl, fun t' ht' => ?_, fr_up (fr_tr hf (fr_mono f2 fun o k q => by omega)) (by omega)⟩
      rw [up_a]
      by_cases c : t' = t
      · rw [if_pos (by omega), he, c]
      · rw [if_neg (by omega), f2 59 _ (by omega)]; exact hj t' (by omega)
    have G : Ok (b_X6_lookAt_22 X 4 M (g : Int) (n : Int) told (a : Int) (t : Int)) (fun o => ∃ M, o = .inl (M, (g : Int), (n : Int), told, (a : Int), (t : Int) + 1) ∧ (∀ t' : Nat, (t' : Int) < (t : Int) + 1 → M 59 (36 * g + 6 * a + t') = if 0 < n ∧ opF r lw g a t' = true then 1 else 0) ∧ Fr (fun o k => o = 26 ∨ o = 27 ∨ (o = 59 ∧ 36 * g + 6 * a ≤ k ∧ k < 36 * g + 6 * a + 6)) N M) := by
      unfold b_X6_lookAt_22 f_X6_lookAt_l22_j97
      rw [m5, if_pos a1, w_id (x := (g : Int) * 36) (by omega) (by omega), w_id (x := (a : Int) * 6) (by omega) (by omega), w_id (x := (g : Int) * 36 + (a : Int) * 6) (by omega) (by omega), w_id (x := (g : Int) * 36 + (a : Int) * 6 + (t : Int)) (by omega) (by omega), show (g : Int) * 36 + (a : Int) * 6 + (t : Int) = 36 * (g : Int) + 6 * (a : Int) + (t : Int) by omega]
      by_cases c1 : (0 : Int) < (n : Int)
      case neg =>
        rw [if_neg c1]
        exact K M 0 fr_rfl (by omega) (by rw [if_neg (by omega)])
      rw [if_pos c1]
      have no : opF r lw g a t = false → (0 : Int) = if 0 < n ∧ opF r lw g a t = true then 1 else 0 := fun z => by rw [if_neg (fun y => by rw [z] at y; cases y.2)]
      by_cases c2 : (a : Int) = (t : Int)
      · rw [if_pos c2]
        refine K M 0 fr_rfl (by omega) (no ?_)
        unfold opF
        rw [decide_eq_false (show ¬ a ≠ t by omega)]
        simp
      rw [if_neg c2]
      refine ok_bd (c_isRuined hWM.1 (by omega) (by omega)) ?_
      by_cases c3 : rl r a 2 = 0
      case neg =>
        rw [if_neg c3, i10]
        refine K M 0 fr_rfl (by omega) (no ?_)
        unfold opF
        rw [decide_eq_false c3]
        simp
      rw [if_pos c3, i00]
      refine ok_bd (c_isRuined hWM.1 (by omega) (by omega)) ?_
      by_cases c4 : rl r t 2 = 0
      case neg =>
        rw [if_neg c4, i10]
        refine K M 0 fr_rfl (by omega) (no ?_)
        unfold opF
        rw [decide_eq_false c4]
        simp
      rw [if_pos c4, i00]
      refine ok_bind (c_bars (Or.inl rfl) (xok26 hX) hWM (by omega) (by omega) (by omega) (by omega)) ?_
      rintro ⟨z, M2⟩ ⟨p1, p2⟩
      dsimp only at p1 p2 ⊢
      subst p1
      have f2 : Fr (fun o k => o = 26 ∨ o = 27) M M2 := fr_mono p2 fun o k q => by unfold frJ at q; omega
      cases hb : barS r lw g a t with
      | true =>
        rw [if_pos rfl, i10]
        refine K M2 0 f2 (by omega) (no ?_)
        unfold opF
        rw [hb]
        simp
      | false =>
        rw [if_neg (show ¬ false = true by decide), i00]
        refine K M2 1 f2 (by omega) ?_
        rw [if_pos]
        refine ⟨by omega, ?_⟩
        unfold opF
        rw [hb, decide_eq_true (show t < (r 0).toNat by omega), decide_eq_true (show a ≠ t by omega), decide_eq_true c3, decide_eq_true c4]
        rfl
    refine ok_mono G ?_
    rintro o ⟨M9, rfl, h⟩
    exact ⟨M9, rfl, h⟩
  · rintro z ⟨M, rfl, hj, hf⟩
    have m5 : M 58 5 = r 0 := by rw [hf 58 5 (by omega)]; exact e5
    dsimp only
    unfold b_X6_lookAt_22
    rw [m5, if_neg (by omega)]
    exact ok_ret ⟨M, rfl, hj, hf⟩
theorem lk_10 {g n : Nat} (hX : XOK X) (hW : CW X N 4 B r lw) (hg : (g : Int) < r 1) (hn : n ≤ 3) (e5 : N 58 5 = r 0) :
    Ok (lp (fun s => b_X6_lookAt_10 X 4 s.1 s.2.1 s.2.2.1 s.2.2.2.1 s.2.2.2.2) (N, (g : Int), (n : Int), tdF r g, 0)) (fun o => ∃ M, o = (M, (g : Int), (n : Int)) ∧ (∀ a t : Nat, (a : Int) < r 0 → (t : Int) < r 0 → M 59 (36 * g + 6 * a + t) = if 0 < n ∧ opF r lw g a t = true then 1 else 0) ∧ (∀ a : Nat, (a : Int) < r 0 → M 60 ((g * 6 + a) * 4) = wkS (opF r lw) (tdF r) 0 g a) ∧ Fr (frLk g) N M) := by
  have hV := hW.2.1
  have v0 := hV.1
  have v1 := hV.2.1
  refine ok_up (fun i z => ∃ M, z = (M, (g : Int), (n : Int), tdF r g, i) ∧ (∀ a t : Nat, (a : Int) < i → (t : Int) < r 0 → M 59 (36 * g + 6 * a + t) = if 0 < n ∧ opF r lw g a t = true then 1 else 0) ∧ (∀ a : Nat, (a : Int) < i → M 60 ((g * 6 + a) * 4) = wkS (opF r lw) (tdF r) 0 g a) ∧ Fr (frLk g) N M) (r 0) (i0 := 0) ?_ ?_ (by omega) ⟨N, rfl, fun a t h => by omega, fun a h => by omega, fr_rfl⟩
  · rintro i z a0 a1 ⟨M, rfl, hj, hk, hf⟩
    obtain ⟨a, rfl⟩ := Int.eq_ofNat_of_zero_le a0
    have hWM := cw_Lk hW hf
    have m5 : M 58 5 = r 0 := by rw [hf 58 5 (by unfold frLk; omega)]; exact e5
    dsimp only
    unfold b_X6_lookAt_10 f_X6_lookAt_l10_j131
    rw [m5, if_pos a1]
    refine ok_bind (lk_22 hX hWM hg hn a1 m5) ?_
    rintro o ⟨M2, rfl, q1, q2⟩
    dsimp only
    rw [w_id (x := (g : Int) * 6) (by omega) (by omega), w_id (x := (g : Int) * 6 + (a : Int)) (by omega) (by omega), w_id (x := ((g : Int) * 6 + (a : Int)) * 4) (by omega) (by omega)]
    have f2 : Fr (frLk g) N M2 := fr_tr hf (fr_mono q2 fun o k q => by unfold frLk; omega)
    have K : ∀ v : Int, v = wkS (opF r lw) (tdF r) 0 g a → Ok (f_X6_lookAt_l10_j136 X 4 M2 (g : Int) (n : Int) (tdF r g) (a : Int) (((g : Int) * 6 + (a : Int)) * 4) v) (fun o => ∃ M, o = .inl (M, (g : Int), (n : Int), tdF r g, (a : Int) + 1) ∧ (∀ a' t : Nat, (a' : Int) < (a : Int) + 1 → (t : Int) < r 0 → M 59 (36 * g + 6 * a' + t) = if 0 < n ∧ opF r lw g a' t = true then 1 else 0) ∧ (∀ a' : Nat, (a' : Int) < (a : Int) + 1 → M 60 ((g * 6 + a') * 4) = wkS (opF r lw) (tdF r) 0 g a') ∧ Fr (frLk g) N M) := by
      intro v hv
      unfold f_X6_lookAt_l10_j136
      rw [if_pos (by omega), w_id (x := (a : Int) + 1) (by omega) (by omega), show (((g : Int) * 6 + (a : Int)) * 4).toNat = (g * 6 + a) * 4 by omega]
      refine ok_ret ⟨_, rfl, fun a' t h1 h2 => ?_, fun a' h1 => ?_, fr_up f2 (by unfold frLk; omega)⟩
      · rw [up_o (by omega)]
        by_cases c : a' = a
        · rw [c]; exact q1 t h2
        · rw [q2 59 _ (by omega)]; exact hj a' t (by omega) h2
      · rw [up_a]
        by_cases c : a' = a
        · rw [if_pos (by omega), hv, c]
        · rw [if_neg (by omega), q2 60 _ (by omega)]; exact hk a' (by omega)
    have G : Ok (if tdF r g = -1 then f_X6_lookAt_l10_j136 X 4 M2 (g : Int) (n : Int) (tdF r g) (a : Int) (((g : Int) * 6 + (a : Int)) * 4) 1 else if tdF r g = (a : Int) then f_X6_lookAt_l10_j136 X 4 M2 (g : Int) (n : Int) (tdF r g) (a : Int) (((g : Int) * 6 + (a : Int)) * 4) 1 else f_X6_lookAt_l10_j136 X 4 M2 (g : Int) (n : Int) (tdF r g) (a : Int) (((g : Int) * 6 + (a : Int)) * 4) 0) (fun o => ∃ M, o = .inl (M, (g : Int), (n : Int), tdF r g, (a : Int) + 1) ∧ (∀ a' t : Nat, (a' : Int) < (a : Int) + 1 → (t : Int) < r 0 → M 59 (36 * g + 6 * a' + t) = if 0 < n ∧ opF r lw g a' t = true then 1 else 0) ∧ (∀ a' : Nat, (a' : Int) < (a : Int) + 1 → M 60 ((g * 6 + a') * 4) = wkS (opF r lw) (tdF r) 0 g a') ∧ Fr (frLk g) N M) := by
      by_cases c1 : tdF r g = -1
      · rw [if_pos c1]; exact K 1 (by rw [wkS, if_pos (Or.inl c1)])
      rw [if_neg c1]
      by_cases c2 : tdF r g = (a : Int)
      · rw [if_pos c2]; exact K 1 (by rw [wkS, if_pos (Or.inr c2)])
      · rw [if_neg c2]; exact K 0 (by rw [wkS, if_neg (by omega)])
    refine ok_mono G ?_
    rintro o ⟨M9, rfl, h⟩
    exact ⟨M9, rfl, h⟩
  · rintro z ⟨M, rfl, hj, hk, hf⟩
    have m5 : M 58 5 = r 0 := by rw [hf 58 5 (by unfold frLk; omega)]; exact e5
    dsimp only
    unfold b_X6_lookAt_10
    rw [m5, if_neg (by omega)]
    exact ok_ret ⟨M, rfl, hj, hk, hf⟩
theorem c_lookAt {g n : Nat} (hX : XOK X) (hW : CW X N 4 B r lw) (hg : (g : Int) < r 1) (hn : n ≤ 3) (e5 : N 58 5 = r 0) : Ok (f_X6_lookAt X 4 N (g : Int) (n : Int)) (fun M => LKc M r lw n g ∧ Fr (frLk g) N M) := by
  have hV := hW.2.1
  have v0 := hV.1
  have v1 := hV.2.1
  unfold f_X6_lookAt
  refine ok_bd (c_toldHolder hW.1 (by omega) (by omega)) ?_
  rw [if_pos hg]
  refine ok_bind (lk_10 hX hW hg hn e5) ?_
  rintro o ⟨M, rfl, h1, h2, h3⟩
  dsimp only
  have H : Ok (lp (fun s => b_X6_lookAt_146 X 4 s.1 s.2.1 s.2.2.1 s.2.2.2) (M, (g : Int), (n : Int), 1)) (fun M => LKc M r lw n g ∧ Fr (frLk g) N M) := by
    refine ok_up (fun i z => ∃ M', z = (M', (g : Int), (n : Int), i) ∧ (∀ a t : Nat, (a : Int) < r 0 → (t : Int) < r 0 → M' 59 (36 * g + 6 * a + t) = if 0 < n ∧ opF r lw g a t = true then 1 else 0) ∧ (∀ a s : Nat, (a : Int) < r 0 → (s : Int) < i → M' 60 ((g * 6 + a) * 4 + s) = wkS (opF r lw) (tdF r) s g a) ∧ Fr (frLk g) N M') ((n : Int) + 1) (i0 := 1) ?_ ?_ (by omega) ⟨M, rfl, h1, fun a s ha hs => by rw [show s = 0 by omega]; exact h2 a ha, h3⟩
    · rintro i z a0 a1 ⟨M', rfl, k1, k2, k3⟩
      obtain ⟨s, hs⟩ : ∃ s : Nat, i = (s : Int) + 1 := ⟨(i - 1).toNat, by omega⟩
      subst hs
      have m5 : M' 58 5 = r 0 := by rw [k3 58 5 (by unfold frLk; omega)]; exact e5
      dsimp only
      unfold b_X6_lookAt_146
      rw [if_neg (by omega), if_pos (by omega)]
      have I : Ok (lp (fun z => b_X6_lookAt_161 X 4 z.1 z.2.1 z.2.2.1 z.2.2.2.1 z.2.2.2.2) (M', (g : Int), (n : Int), (s : Int) + 1, 0)) (fun o => ∃ M2, o = (M2, (g : Int), (n : Int), (s : Int) + 1) ∧ (∀ a : Nat, (a : Int) < r 0 → M2 60 ((g * 6 + a) * 4 + (s + 1)) = wkS (opF r lw) (tdF r) (s + 1) g a) ∧ Fr (fun o k => o = 60 ∧ ∃ a : Nat, (a : Int) < r 0 ∧ k = (g * 6 + a) * 4 + (s + 1)) M' M2) := by
        refine ok_up (fun i z => ∃ M2, z = (M2, (g : Int), (n : Int), (s : Int) + 1, i) ∧ (∀ a : Nat, (a : Int) < i → M2 60 ((g * 6 + a) * 4 + (s + 1)) = wkS (opF r lw) (tdF r) (s + 1) g a) ∧ Fr (fun o k => o = 60 ∧ ∃ a : Nat, (a : Int) < r 0 ∧ k = (g * 6 + a) * 4 + (s + 1)) M' M2) (r 0) (i0 := 0) ?_ ?_ (by omega) ⟨M', rfl, fun a h => by omega, fr_rfl⟩
        · rintro i z b0 b1 ⟨M2, rfl, j1, j2⟩
          obtain ⟨a, rfl⟩ := Int.eq_ofNat_of_zero_le b0
          have m25 : M2 58 5 = r 0 := by rw [j2 58 5 (by omega)]; exact m5
          obtain ⟨f, hf⟩ : ∃ f : Nat → Int, f = fun t => if opF r lw g a t = true then wkS (opF r lw) (tdF r) s g t else 0 := ⟨_, rfl⟩
          have fb : ∀ t, 0 ≤ f t ∧ f t ≤ 216 := fun t => by
            have w := wk_b (op := opF r lw) (td := tdF r) s g t (by omega)
            have p : 6 ^ s ≤ 6 ^ 3 := Nat.pow_le_pow_right (by omega) (by omega)
            rw [hf]
            dsimp only
            split
            · omega
            · omega
          have e6 : sm f 6 = sm f (r 0).toNat := sm_ext (fun t ht => by
            rw [hf]
            dsimp only
            unfold opF
            rw [decide_eq_false (show ¬ t < (r 0).toNat by omega)]
            rfl) 6 (by omega)
          have IN : Ok (lp (fun z => b_X6_lookAt_176 X 4 z.1 z.2.1 z.2.2.1 z.2.2.2.1 z.2.2.2.2.1 z.2.2.2.2.2.1 z.2.2.2.2.2.2) (M2, (g : Int), (n : Int), (s : Int) + 1, (a : Int), 0, 0)) (fun o => o = (M2, (g : Int), (n : Int), (s : Int) + 1, (a : Int), sm f 6)) := by
            refine ok_up (fun i z => z = (M2, (g : Int), (n : Int), (s : Int) + 1, (a : Int), sm f i.toNat, i)) (r 0) (i0 := 0) ?_ ?_ (by omega) rfl
            · rintro i z c0 c1 rfl
              obtain ⟨t, rfl⟩ := Int.eq_ofNat_of_zero_le c0
              have sb := sm_b (f := f) (B := 216) (n := t) fun k _ => fb k
              have ft := fb t
              have e59 : M2 59 (36 * g + 6 * a + t) = if 0 < n ∧ opF r lw g a t = true then 1 else 0 := by rw [j2 59 _ (by omega)]; exact k1 a t b1 c1
              have e60 : M2 60 ((g * 6 + t) * 4 + s) = wkS (opF r lw) (tdF r) s g t := by
                rw [j2 60 _ (by rintro ⟨_, x, hx, q⟩; omega)]
                exact k2 t s c1 (by omega)
              rw [Int.toNat_natCast, show ((t : Int) + 1).toNat = t + 1 by omega, sm_s]
              dsimp only
              unfold b_X6_lookAt_176 f_X6_lookAt_l176_j235
              rw [m25, if_pos c1, w_id (x := (g : Int) * 36) (by omega) (by omega), w_id (x := (a : Int) * 6) (by omega) (by omega), w_id (x := (g : Int) * 36 + (a : Int) * 6) (by omega) (by omega), w_id (x := (g : Int) * 36 + (a : Int) * 6 + (t : Int)) (by omega) (by omega), if_pos (by omega), show ((g : Int) * 36 + (a : Int) * 6 + (t : Int)).toNat = 36 * g + 6 * a + t by omega, w_id (x := (t : Int) + 1) (by omega) (by omega)]
              by_cases c : opF r lw g a t = true
              · have ef : f t = wkS (opF r lw) (tdF r) s g t := by rw [hf]; exact if_pos c
                rw [show M2 59 (36 * g + 6 * a + t) = 1 by rw [e59]; exact if_pos ⟨by omega, c⟩, i10, w_id (x := (g : Int) * 6) (by omega) (by omega), w_id (x := (g : Int) * 6 + (t : Int)) (by omega) (by omega), w_id (x := ((g : Int) * 6 + (t : Int)) * 4) (by omega) (by omega), w_id (x := ((g : Int) * 6 + (t : Int)) * 4 + ((s : Int) + 1)) (by omega) (by omega), w_id (x := ((g : Int) * 6 + (t : Int)) * 4 + ((s : Int) + 1) - 1) (by omega) (by omega), if_pos (by omega), show (((g : Int) * 6 + (t : Int)) * 4 + ((s : Int) + 1) - 1).toNat = (g * 6 + t) * 4 + s by omega, e60, ← ef, w_id (by omega) (by omega)]
                exact ok_ret rfl
              · have ef : f t = 0 := by rw [hf]; exact if_neg c
                rw [show M2 59 (36 * g + 6 * a + t) = 0 by rw [e59]; exact if_neg (fun z => c z.2), i00, ef, w_id (by omega) (by omega)]
                exact ok_ret rfl
            · rintro z rfl
              dsimp only
              unfold b_X6_lookAt_176
              rw [m25, if_neg (by omega), e6]
              exact ok_ret rfl
          dsimp only
          unfold b_X6_lookAt_161
          rw [m25, if_pos b1]
          refine ok_bind IN ?_
          rintro o rfl
          dsimp only
          rw [w_id (x := (g : Int) * 6) (by omega) (by omega), w_id (x := (g : Int) * 6 + (a : Int)) (by omega) (by omega), w_id (x := ((g : Int) * 6 + (a : Int)) * 4) (by omega) (by omega), w_id (x := ((g : Int) * 6 + (a : Int)) * 4 + ((s : Int) + 1)) (by omega) (by omega), if_pos (by omega), show (((g : Int) * 6 + (a : Int)) * 4 + ((s : Int) + 1)).toNat = (g * 6 + a) * 4 + (s + 1) by omega, w_id (x := (a : Int) + 1) (by omega) (by omega)]
          refine ok_ret ⟨_, rfl, fun a' ha' => ?_, fr_up j2 ⟨rfl, a, b1, rfl⟩⟩
          rw [up_a]
          by_cases c : a' = a
          · rw [if_pos (by omega), c, wkS, hf]
          · rw [if_neg (by omega)]; exact j1 a' (by omega)
        · rintro z ⟨M2, rfl, j1, j2⟩
          have m25 : M2 58 5 = r 0 := by rw [j2 58 5 (by omega)]; exact m5
          dsimp only
          unfold b_X6_lookAt_161
          rw [m25, if_neg (by omega)]
          exact ok_ret ⟨M2, rfl, j1, j2⟩
      refine ok_bind I ?_
      rintro o ⟨M2, rfl, j1, j2⟩
      dsimp only
      rw [w_id (x := (s : Int) + 1 + 1) (by omega) (by omega)]
      refine ok_ret ⟨M2, rfl, fun a t ha ht => by rw [j2 59 _ (by omega)]; exact k1 a t ha ht, fun a s' ha hs' => ?_, fr_tr k3 (fr_mono j2 ?_)⟩
      · by_cases c : s' = s + 1
        · rw [c]; exact j1 a ha
        · rw [j2 60 _ (by rintro ⟨_, x, hx, q⟩; omega)]
          exact k2 a s' ha (by omega)
      · rintro o k ⟨rfl, x, hx, q⟩
        unfold frLk
        omega
    · rintro z ⟨M', rfl, k1, k2, k3⟩
      dsimp only
      unfold b_X6_lookAt_146
      rw [if_pos (by omega)]
      exact ok_ret ⟨⟨k1, fun a s ha hs => k2 a s ha (by omega)⟩, k3⟩
  refine ok_bind H ?_
  intro o q
  exact ok_ret q
end FC
