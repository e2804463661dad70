/-! siege: the reference's pick -/
def cyA (r : Nat → Int) (lw : Nat → Law) (t : Int) (L : List Nat) (S : Nat) : Nat → Int := fun y => costsS r lw t (r 6 + y) + sL (fun g => costS r lw g t (r 6 + y)) L S
def siF (r : Nat → Int) (lw : Nat → Law) (t : Int) (n : Nat) (L : List Nat) (S : Nat) : Bool := decide (0 ≤ fallY (rl r t 1) (cyA r lw t L S) (rl r t 0) n)
def siK (r : Nat → Int) (lw : Nat → Law) (f t : Int) (L : List Nat) (S : Nat) : Int := onS (S : Int) 16 * 100000 + sL (fun g => worthS r lw g f t) L S
theorem su_ext {g : Nat → Int} {S m : Nat} (h : S < 2 ^ m) : ∀ n, m ≤ n → suS g S n = suS g S m
  | 0, hn => by rw [show m = 0 by omega]
  | n + 1, hn => by
    by_cases e : m = n + 1
    · rw [e]
    · rw [show suS g S (n + 1) = suS g S n + (if bit (S : Int) n = 0 then 0 else g n) from rfl, bit_big h (show m ≤ n by omega), if_pos rfl, su_ext h n (by omega)]
      omega
theorem sL_b {f : Nat → Int} {b : Int} (hf : ∀ g, 0 ≤ f g ∧ f g ≤ b) (hb : 0 ≤ b) : ∀ (L : List Nat) (S : Nat), 0 ≤ sL f L S ∧ sL f L S ≤ L.length * b
  | [], S => ⟨Int.le_refl _, by rw [List.length_nil]; show (0 : Int) ≤ ((0 : Nat) : Int) * b; simp⟩
  | g :: t, S => by
    have a := sL_b hf hb t (S / 2)
    have c := hf g
    rw [sL, List.length_cons]
    have e : ((t.length + 1 : Nat) : Int) * b = t.length * b + b := by rw [Int.natCast_add, Int.add_mul]; simp
    rw [e]
    generalize (t.length : Int) * b = z at a ⊢
    split <;> omega
section SK
variable {X : MX} {N : NN} {B : Int} {r : Nat → Int} {lw : Nat → Law}
theorem ref_si245 {f t a3 a4 a6 a7 a8 a9 : Int} {m s : Nat} {H : List Nat} (hM : MW N B r lw) (t0 : 0 ≤ t) (t1 : t ≤ 5) (f0 : 0 ≤ f) (f1 : f ≤ 5) (hl : H.length = m) (hm : m ≤ 10) (hs : s < 1024) (hg : ∀ i g : Nat, H[i]? = some g → N 90 i = (g : Int) ∧ (g : Int) < r 1) :
    Ok (lp (fun s => b_X12_siege_245 X s.1 s.2.1 s.2.2.1 s.2.2.2.1 s.2.2.2.2.1 s.2.2.2.2.2.1 s.2.2.2.2.2.2.1 s.2.2.2.2.2.2.2.1 s.2.2.2.2.2.2.2.2.1 s.2.2.2.2.2.2.2.2.2.1 s.2.2.2.2.2.2.2.2.2.2.1 s.2.2.2.2.2.2.2.2.2.2.2.1 s.2.2.2.2.2.2.2.2.2.2.2.2) (N, f, t, a3, a4, (m : Int), a6, a7, a8, a9, (s : Int), 0, 0)) (fun o => ∃ M, o = (M, f, t, a3, a4, (m : Int), a6, a7, a8, a9, (s : Int), sL (fun g => worthS r lw g f t) H s) ∧ Fr frM N M) := by
  obtain ⟨w, hw⟩ : ∃ w : Nat → Int, w = fun (i : Nat) => worthS r lw ((H[i]?.getD 0 : Nat) : Int) f t := ⟨_, rfl⟩
  have wb : ∀ i, 0 ≤ w i ∧ w i ≤ 999 := fun i => by rw [hw]; exact worthS_b _ _ _ _ _
  have es : suS w s m = sL (fun g => worthS r lw g f t) H s := by
    rw [← hl]
    exact su_list _ H w s fun i g q => by rw [hw]; dsimp only; rw [q]; rfl
  rw [← es]
  refine ok_up (fun i z => ∃ M, z = (M, f, t, a3, a4, (m : Int), a6, a7, a8, a9, (s : Int), suS w s i.toNat, i) ∧ Fr frM N M) (m : Int) (i0 := 0) ?_ ?_ (by omega) ⟨N, rfl, fr_rfl⟩
  · rintro i z a0 a1 ⟨M, rfl, hf⟩
    obtain ⟨k, rfl⟩ := Int.eq_ofNat_of_zero_le a0
    have hM' := mw_M hM hf
    obtain ⟨g, eg⟩ : ∃ g, H[k]? = some g := ⟨H[k]'(by omega), List.getElem?_eq_getElem (by omega)⟩
    have hk := hg k g eg
    have b := su_b (f := w) (S := s) (b := 999) (n := k) (fun i _ => wb i) (by omega)
    have wk := wb k
    rw [Int.toNat_natCast, show ((k : Int) + 1).toNat = k + 1 by omega, show suS w s (k + 1) = suS w s k + (if bit (s : Int) k = 0 then 0 else w k) from rfl]
    generalize suS w s k = q at b ⊢
    dsimp only
    unfold b_X12_siege_245 f_X12_siege_l245_j281
    rw [if_pos a1, w_id (x := (k : Int) + 1) (by omega) (by omega), w_id (x := q + 0) (by omega) (by omega)]
    refine ok_bd (ref_is (by omega) (by omega) (by omega) (by omega)) ?_
    by_cases c : bit (s : Int) k = 0
    · rw [if_pos c, if_pos c]
      exact ok_ret ⟨M, rfl, hf⟩
    · rw [if_neg c, if_neg c, gdp (by omega), Int.toNat_natCast, hf 90 k (by unfold frM; omega), hk.1]
      refine ok_bind (ref_worthOf hM' (by omega) hk.2 (by omega) (by omega)) ?_
      rintro ⟨v, M2⟩ ⟨p1, p2⟩
      dsimp only at p1 p2 ⊢
      have ew : w k = worthS r lw g f t := by rw [hw]; dsimp only; rw [eg]; rfl
      rw [p1, ← ew, w_id (by omega) (by omega)]
      exact ok_ret ⟨M2, rfl, fr_tr hf p2⟩
  · rintro z ⟨M, rfl, hf⟩
    dsimp only
    unfold b_X12_siege_245
    rw [if_neg (by omega), Int.toNat_natCast]
    exact ok_ret ⟨M, rfl, hf⟩
theorem ref_siFall {f t : Int} {n m s c : Nat} {H : List Nat} (hM : MW N B r lw) (t0 : 0 ≤ t) (t1 : t ≤ 5) (n0 : 1 ≤ n) (hn : n ≤ 9) (hl : H.length = m) (hm : m ≤ 10) (hs : s < 2 ^ m) (hH : MHs N r lw f t n H c) (hY : ∀ y : Nat, 1 ≤ y → (y : Int) ≤ n → N 89 y = costsS r lw t (r 6 + y)) :
    f_X12_ruinedIn X N t (n : Int) (s : Int) = some (fallY (rl r t 1) (cyA r lw t H s) (rl r t 0) n) := by
  have hV := hM.2.1
  have v1 := hV.2.1
  have hp : 2 ^ m ≤ 2 ^ 10 := Nat.pow_le_pow_right (by omega) hm
  obtain ⟨d, hd⟩ : ∃ d : Nat → Int, d = fun (j : Nat) => match H[j / 9]? with | none => 0 | some g => costS r lw (g : Int) t (r 6 + ((j % 9 + 1 : Nat) : Int)) := ⟨_, rfl⟩
  have db : ∀ j, 0 ≤ d j ∧ d j ≤ 99 := by
    intro j
    rw [hd]
    dsimp only
    cases H[j / 9]? with
    | none => dsimp only; omega
    | some g => exact costS_b _ _ _ _ _
  have dk : ∀ k g y : Nat, H[k]? = some g → 1 ≤ y → y < 10 → d (9 * k + y - 1) = costS r lw g t (r 6 + (y : Int)) := by
    intro k g y q y1 y2
    rw [hd]
    dsimp only
    rw [show (9 * k + y - 1) / 9 = k by omega, show (9 * k + y - 1) % 9 + 1 = y by omega, q]
  rw [ref_ruinedIn (c := fun y => costsS r lw t (r 6 + y)) (d := d) hM.1 hV t0 t1 (by omega) (by omega) (by omega) (by omega) hY (fun y => costsS_b hV lw t (r 6 + y) (r 1).toNat (by omega)) db ?_]
  · rw [Int.toNat_natCast]
    congr 1
    refine (fallY_c n fun y y1 y2 => ?_).1
    unfold cySet cyA
    rw [if_pos (by omega)]
    congr 1
    show suS (fun k => d (9 * k + y - 1)) s 10 = _
    rw [su_ext hs 10 hm, ← hl]
    exact su_list _ H _ s fun i g q => dk i g y q y1 (by omega)
  · intro k y hk y1 y2 y3 hb
    have lk : k < m := by
      apply Classical.byContradiction
      intro nk
      exact hb (bit_big hs (by omega))
    obtain ⟨g, eg⟩ : ∃ g, H[k]? = some g := ⟨H[k]'(by omega), List.getElem?_eq_getElem (by omega)⟩
    rw [dk k g y eg y1 y2, (hH.2 k g eg).2.2 y y1 (by omega)]
theorem mhs_M {N' : NN} {f t : Int} {n c : Nat} {H : List Nat} (h : MHs N r lw f t n H c) (hf : Fr frM N N') : MHs N' r lw f t n H c := by
  refine ⟨h.1, fun i g q => ?_⟩
  have a := h.2 i g q
  refine ⟨by rw [hf 90 _ (by unfold frM; omega)]; exact a.1, a.2.1, fun y y1 y2 => by rw [hf 91 _ (by unfold frM; omega)]; exact a.2.2 y y1 y2⟩
theorem ref_si230 {f t a4 : Int} {n m c : Nat} {H : List Nat} (hM : MW N B r lw) (t0 : 0 ≤ t) (t1 : t ≤ 5) (f0 : 0 ≤ f) (f1 : f ≤ 5) (n0 : 1 ≤ n) (hn : n ≤ 9) (hl : H.length = m) (hm : m ≤ 10) (hH : MHs N r lw f t n H c) (hg : ∀ i g : Nat, H[i]? = some g → (g : Int) < r 1) (hY : ∀ y : Nat, 1 ≤ y → (y : Int) ≤ n → N 89 y = costsS r lw t (r 6 + y)) :
    Ok (lp (fun s => b_X12_siege_230 X s.1 s.2.1 s.2.2.1 s.2.2.2.1 s.2.2.2.2.1 s.2.2.2.2.2.1 s.2.2.2.2.2.2.1 s.2.2.2.2.2.2.2.1 s.2.2.2.2.2.2.2.2.1 s.2.2.2.2.2.2.2.2.2.1 s.2.2.2.2.2.2.2.2.2.2) (N, f, t, (n : Int), a4, (m : Int), (c : Int), 100000000, 100000000, (-1), 0)) (fun o => ∃ M, Fr frM N M ∧ ∃ b, b = bestK (fun (s : Nat) => decide (∀ i : Nat, i < 10 → bit (s : Int) (i : Int) = 1 → bit (c : Int) (i : Int) = 1) && siF r lw t n H s) (siK r lw f t H) (2 ^ m) ∧ o = (M, a4, (m : Int), brA 100000000 (fun s => onS (s : Int) 16) b, brA 100000000 (fun s => sL (fun g => worthS r lw g f t) H s) b, brA (-1) (fun s => (s : Int)) b)) := by
  have hp : 2 ^ m ≤ 2 ^ 10 := Nat.pow_le_pow_right (by omega) hm
  have hc : c < 1024 := Nat.lt_of_lt_of_le hH.1 (by rw [hl]; exact hp)
  obtain ⟨D, hD⟩ : ∃ D : Nat → Bool, D = (fun (s : Nat) => decide (∀ i : Nat, i < 10 → bit (s : Int) (i : Int) = 1 → bit (c : Int) (i : Int) = 1) && siF r lw t n H s) := ⟨_, rfl⟩
  rw [← hD]
  have wb : ∀ S : Nat, 0 ≤ sL (fun g => worthS r lw g f t) H S ∧ sL (fun g => worthS r lw g f t) H S ≤ 9990 := fun S => by
    have := sL_b (f := fun g : Nat => worthS r lw g f t) (b := 999) (fun g => worthS_b _ _ _ _ _) (by omega) H S
    omega
  refine ok_up (fun i z => ∃ M, Fr frM N M ∧ ∃ b, b = bestK D (siK r lw f t H) i.toNat ∧ z = (M, f, t, (n : Int), a4, (m : Int), (c : Int), brA 100000000 (fun s => onS (s : Int) 16) b, brA 100000000 (fun s => sL (fun g => worthS r lw g f t) H s) b, brA (-1) (fun s => (s : Int)) b, i)) ((2 ^ m : Nat) : Int) (i0 := 0) ?_ ?_ (Int.natCast_nonneg _) ⟨N, fr_rfl, none, rfl, rfl⟩
  · rintro i z a0 a1 ⟨M, hf, b, hb, rfl⟩
    obtain ⟨k, rfl⟩ := Int.eq_ofNat_of_zero_le a0
    rw [Int.toNat_natCast] at hb
    rw [show ((k : Int) + 1).toNat = k + 1 by omega]
    have hM' := mw_M hM hf
    have hkm : k < 2 ^ m := by omega
    have ok := onS_b (k : Int) 16
    have wk := wb k
    dsimp only
    unfold b_X12_siege_230
    rw [shl1_id (by omega) (by omega), Int.toNat_natCast, if_pos a1]
    refine ok_bind (ref_si245 hM' t0 t1 f0 f1 hl hm (by omega) fun i g q => ⟨by rw [hf 90 _ (by unfold frM; omega)]; exact (hH.2 i g q).1, hg i g q⟩) ?_
    rintro o ⟨M2, rfl, p2⟩
    have f2 := fr_tr hf p2
    dsimp only
    have J0 : f_X12_siege_l230_j343 X M2 f t (n : Int) a4 (m : Int) (c : Int) (brA 100000000 (fun s => onS (s : Int) 16) b) (brA 100000000 (fun s => sL (fun g => worthS r lw g f t) H s) b) (brA (-1) (fun s => (s : Int)) b) (k : Int) (sL (fun g => worthS r lw g f t) H k) = some (.inl (M2, f, t, (n : Int), a4, (m : Int), (c : Int), brA 100000000 (fun s => onS (s : Int) 16) b, brA 100000000 (fun s => sL (fun g => worthS r lw g f t) H s) b, brA (-1) (fun s => (s : Int)) b, (k : Int) + 1)) := by
      unfold f_X12_siege_l230_j343 f_X12_siege_l230_j344
      rw [if_pos rfl]
      unfold f_X12_siege_l230_j358
      rw [if_pos rfl]
      unfold f_X12_siege_l230_j375
      rw [if_pos rfl]
      unfold f_X12_siege_l230_j389
      rw [w_id (by omega) (by omega)]
    have ef := ref_siFall (X := X) (s := k) (mw_M hM f2) t0 t1 n0 hn hl hm hkm (mhs_M hH f2) (fun y y1 y2 => by rw [f2 89 _ (by unfold frM; omega)]; exact hY y y1 y2)
    have J1 : f_X12_siege_l230_j327 X M2 f t (n : Int) a4 (m : Int) (c : Int) (brA 100000000 (fun s => onS (s : Int) 16) b) (brA 100000000 (fun s => sL (fun g => worthS r lw g f t) H s) b) (brA (-1) (fun s => (s : Int)) b) (k : Int) (sL (fun g => worthS r lw g f t) H k) = if siF r lw t n H k = true then some (.inl (M2, f, t, (n : Int), a4, (m : Int), (c : Int), onS (k : Int) 16, sL (fun g => worthS r lw g f t) H k, (k : Int), (k : Int) + 1)) else some (.inl (M2, f, t, (n : Int), a4, (m : Int), (c : Int), brA 100000000 (fun s => onS (s : Int) 16) b, brA 100000000 (fun s => sL (fun g => worthS r lw g f t) H s) b, brA (-1) (fun s => (s : Int)) b, (k : Int) + 1)) := by
      unfold f_X12_siege_l230_j327
      rw [ef, Option.bind_some, J0]
      have fb := fallY_b (rl r t 1) (cyA r lw t H k) (rl r t 0) n
      unfold siF
      generalize fallY (rl r t 1) (cyA r lw t H k) (rl r t 0) n = F at fb ⊢
      by_cases e : F = -1
      · rw [if_pos e, if_neg (fun z => by have := of_decide_eq_true z; omega)]
      · rw [if_neg e, if_pos (decide_eq_true (by omega))]
        unfold f_X12_siege_l230_j344
        rw [i10]
        unfold f_X12_siege_l230_j358
        rw [i10, ref_ones (by omega), Option.bind_some]
        unfold f_X12_siege_l230_j375
        rw [i10]
        unfold f_X12_siege_l230_j389
        rw [w_id (by omega) (by omega)]
    rw [J0, J1]
    have keep : bestK D (siK r lw f t H) (k + 1) = b → Ok (some (.inl (M2, f, t, (n : Int), a4, (m : Int), (c : Int), brA 100000000 (fun s => onS (s : Int) 16) b, brA 100000000 (fun s => sL (fun g => worthS r lw g f t) H s) b, brA (-1) (fun s => (s : Int)) b, (k : Int) + 1)) : Option ((NN × Int × Int × Int × Int × Int × Int × Int × Int × Int × Int) ⊕ (NN × Int × Int × Int × Int × Int))) (fun o => ∃ M, Fr frM N M ∧ ∃ b, b = bestK D (siK r lw f t H) (k + 1) ∧ o = .inl (M, f, t, (n : Int), a4, (m : Int), (c : Int), brA 100000000 (fun s => onS (s : Int) 16) b, brA 100000000 (fun s => sL (fun g => worthS r lw g f t) H s) b, brA (-1) (fun s => (s : Int)) b, (k : Int) + 1)) := fun e => ok_ret ⟨M2, f2, b, e.symm, rfl⟩
    have K : Ok (if m_and (k : Int) (m_xor (c : Int) (-1)) = 0 then Option.bind (f_X12_ones X M2 (k : Int)) (fun o32 => if o32 < brA 100000000 (fun s => onS (s : Int) 16) b then (if siF r lw t n H k = true then some (.inl (M2, f, t, (n : Int), a4, (m : Int), (c : Int), onS (k : Int) 16, sL (fun g => worthS r lw g f t) H k, (k : Int), (k : Int) + 1)) else some (.inl (M2, f, t, (n : Int), a4, (m : Int), (c : Int), brA 100000000 (fun s => onS (s : Int) 16) b, brA 100000000 (fun s => sL (fun g => worthS r lw g f t) H s) b, brA (-1) (fun s => (s : Int)) b, (k : Int) + 1))) else Option.bind (f_X12_ones X M2 (k : Int)) (fun o33 => if o33 = brA 100000000 (fun s => onS (s : Int) 16) b then (if sL (fun g => worthS r lw g f t) H k < brA 100000000 (fun s => sL (fun g => worthS r lw g f t) H s) b then (if siF r lw t n H k = true then some (.inl (M2, f, t, (n : Int), a4, (m : Int), (c : Int), onS (k : Int) 16, sL (fun g => worthS r lw g f t) H k, (k : Int), (k : Int) + 1)) else some (.inl (M2, f, t, (n : Int), a4, (m : Int), (c : Int), brA 100000000 (fun s => onS (s : Int) 16) b, brA 100000000 (fun s => sL (fun g => worthS r lw g f t) H s) b, brA (-1) (fun s => (s : Int)) b, (k : Int) + 1))) else some (.inl (M2, f, t, (n : Int), a4, (m : Int), (c : Int), brA 100000000 (fun s => onS (s : Int) 16) b, brA 100000000 (fun s => sL (fun g => worthS r lw g f t) H s) b, brA (-1) (fun s => (s : Int)) b, (k : Int) + 1))) else some (.inl (M2, f, t, (n : Int), a4, (m : Int), (c : Int), brA 100000000 (fun s => onS (s : Int) 16) b, brA 100000000 (fun s => sL (fun g => worthS r lw g f t) H s) b, brA (-1) (fun s => (s : Int)) b, (k : Int) + 1)))) else (some (.inl (M2, f, t, (n : Int), a4, (m : Int), (c : Int), brA 100000000 (fun s => onS (s : Int) 16) b, brA 100000000 (fun s => sL (fun g => worthS r lw g f t) H s) b, brA (-1) (fun s => (s : Int)) b, (k : Int) + 1)) : Option ((NN × Int × Int × Int × Int × Int × Int × Int × Int × Int × Int) ⊕ (NN × Int × Int × Int × Int × Int)))) (fun o => ∃ M, Fr frM N M ∧ ∃ b, b = bestK D (siK r lw f t H) (k + 1) ∧ o = .inl (M, f, t, (n : Int), a4, (m : Int), (c : Int), brA 100000000 (fun s => onS (s : Int) 16) b, brA 100000000 (fun s => sL (fun g => worthS r lw g f t) H s) b, brA (-1) (fun s => (s : Int)) b, (k : Int) + 1)) := by
      by_cases e : m_and (k : Int) (m_xor (c : Int) (-1)) = 0
      case neg =>
        rw [if_neg e]
        refine keep ?_
        rw [hb]
        refine best_f (Or.inl ?_)
        rw [hD]
        dsimp only
        rw [decide_eq_false (fun z => e ((andn_0 (by omega) hc).2 z))]
        rfl
      rw [if_pos e, ref_ones (by omega), Option.bind_some, Option.bind_some]
      have eD : D k = siF r lw t n H k := by
        rw [hD]
        dsimp only
        rw [decide_eq_true ((andn_0 (by omega) hc).1 e)]
        rfl
      have take : D k = true → (b = none ∨ ∃ x, b = some x ∧ siK r lw f t H k < siK r lw f t H x) → Ok (some (.inl (M2, f, t, (n : Int), a4, (m : Int), (c : Int), onS (k : Int) 16, sL (fun g => worthS r lw g f t) H k, (k : Int), (k : Int) + 1)) : Option ((NN × Int × Int × Int × Int × Int × Int × Int × Int × Int × Int) ⊕ (NN × Int × Int × Int × Int × Int))) (fun o => ∃ M, Fr frM N M ∧ ∃ b, b = bestK D (siK r lw f t H) (k + 1) ∧ o = .inl (M, f, t, (n : Int), a4, (m : Int), (c : Int), brA 100000000 (fun s => onS (s : Int) 16) b, brA 100000000 (fun s => sL (fun g => worthS r lw g f t) H s) b, brA (-1) (fun s => (s : Int)) b, (k : Int) + 1)) := fun h1 h2 => ok_ret ⟨M2, f2, some k, (best_t h1 (by rw [← hb]; exact h2)).symm, rfl⟩
      by_cases fk : siF r lw t n H k = true
      case neg =>
        have ek : bestK D (siK r lw f t H) (k + 1) = b := by rw [hb]; exact best_f (Or.inl (by rw [eD]; exact Bool.eq_false_iff.mpr fk))
        rw [if_neg fk]
        split
        · exact keep ek
        · split
          · split
            · exact keep ek
            · exact keep ek
          · exact keep ek
      rw [if_pos fk]
      have Dk : D k = true := by rw [eD]; exact fk
      cases hbb : b with
      | none =>
        subst hbb
        rw [if_pos (show onS (k : Int) 16 < brA 100000000 (fun (s : Nat) => onS (s : Int) 16) none by show onS (k : Int) 16 < 100000000; omega)]
        exact take Dk (Or.inl rfl)
      | some x =>
        subst hbb
        have ox := onS_b (x : Int) 16
        have wx := wb x
        show Ok (if onS (k : Int) 16 < onS (x : Int) 16 then _ else if onS (k : Int) 16 = onS (x : Int) 16 then (if sL (fun g => worthS r lw g f t) H k < sL (fun g => worthS r lw g f t) H x then _ else _) else _) _
        by_cases c1 : onS (k : Int) 16 < onS (x : Int) 16
        · rw [if_pos c1]
          exact take Dk (Or.inr ⟨x, rfl, by unfold siK; omega⟩)
        rw [if_neg c1]
        by_cases c2 : onS (k : Int) 16 = onS (x : Int) 16
        · rw [if_pos c2]
          by_cases c3 : sL (fun g => worthS r lw g f t) H k < sL (fun g => worthS r lw g f t) H x
          · rw [if_pos c3]
            exact take Dk (Or.inr ⟨x, rfl, by unfold siK; omega⟩)
          · rw [if_neg c3]
            exact keep (by rw [best_f (Or.inr ⟨x, hb.symm, by unfold siK; omega⟩)]; exact hb.symm)
        · rw [if_neg c2]
          exact keep (by rw [best_f (Or.inr ⟨x, hb.symm, by unfold siK; omega⟩)]; exact hb.symm)
    refine ok_mono K ?_
    rintro o ⟨M4, q1, b4, q2, rfl⟩
    exact ⟨M4, q1, b4, q2, rfl⟩
  · rintro z ⟨M, hf, b, hb, rfl⟩
    dsimp only
    unfold b_X12_siege_230
    rw [shl1_id (by omega) (by omega), Int.toNat_natCast, if_neg (by omega)]
    rw [Int.toNat_natCast] at hb
    exact ok_ret ⟨M, hf, b, hb, rfl⟩
end SK
