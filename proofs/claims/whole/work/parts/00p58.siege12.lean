/-! siege, whole -/
def siU (r : Nat → Int) (lw : Nat → Law) (f t : Int) : List Nat := (hC 10 (ownB r f) (r 1).toNat).filter (fun (g : Nat) => !barS r lw g f t)
def siA (W : Nat → Int) (U : List Nat) (k : Int) : Option Nat → Int
  | none => -1
  | some P => if k = 0 then onS (P : Int) 16 else if k = 1 then sL W U P else (oL U P : Int)
def siV (r : Nat → Int) (lw : Nat → Law) (f t : Int) (n : Nat) (k : Int) : Int := if (rl r f 2 = 0 ∧ rl r t 2 = 0) ∧ (0 ≤ k ∧ k ≤ 2) then siA (fun (g : Nat) => worthS r lw g f t) (siU r lw f t) k (bestK (siF r lw t n (siU r lw f t)) (siK r lw f t (siU r lw f t)) (2 ^ (siU r lw f t).length)) else -1
theorem hC_mem {c : Nat} {p : Nat → Bool} {x : Nat} : ∀ n, x ∈ hC c p n → x < n
  | 0, h => by cases h
  | n + 1, h => by
    rw [hC] at h
    by_cases q : p n = true ∧ (hC c p n).length < c
    · rw [if_pos q] at h
      rcases List.mem_append.1 h with a | a
      · have := hC_mem n a; omega
      · have := List.mem_singleton.1 a; omega
    · rw [if_neg q] at h
      have := hC_mem n h; omega
theorem siU_len (r : Nat → Int) (lw : Nat → Law) (f t : Int) : (siU r lw f t).length ≤ 10 := Nat.le_trans (List.length_filter_le _ _) (hC_len _)
theorem siU_lt {r : Nat → Int} {lw : Nat → Law} {f t : Int} {i g : Nat} (h : (siU r lw f t)[i]? = some g) : g < (r 1).toNat := hC_mem _ (List.mem_filter.1 (List.mem_of_getElem? h)).1
section SM
variable {X : MX} {N : NN} {B : Int} {r : Nat → Int} {lw : Nat → Law}
theorem c_siAnswer {f t k : Int} {n : Nat} (hX : XOK X) (hW : CW X N 4 B r lw) (f0 : 0 ≤ f) (f1 : f < r 0) (t0 : 0 ≤ t) (t1 : t < r 0) (n0 : 1 ≤ n) (hn : n ≤ 9) : Ok (f_X7_answer X 4 N f t (n : Int) k) (fun o => o.1 = siV r lw f t n k ∧ Fr npr N o.2) := by
  have hV := hW.2.1
  have v0 := hV.1
  have v1 := hV.2.1
  have vt := hV.2.2.2.2.2.2.2.2.2.1 t t0 (by omega)
  unfold f_X7_answer f_X7_answer_j27 f_X7_answer_j88
  refine ok_bd (c_isRuined hW.1 f0 (by omega)) ?_
  by_cases c1 : rl r f 2 = 0
  case neg =>
    rw [if_neg c1, i10]
    exact ok_ret ⟨by unfold siV; rw [if_neg (fun z => c1 z.1.1)], fr_rfl⟩
  rw [if_pos c1, i00]
  refine ok_bd (c_isRuined hW.1 t0 (by omega)) ?_
  by_cases c2 : rl r t 2 = 0
  case neg =>
    rw [if_neg c2, i10]
    exact ok_ret ⟨by unfold siV; rw [if_neg (fun z => c2 z.1.2)], fr_rfl⟩
  rw [if_pos c2, i00]
  by_cases c3 : k < 0
  · rw [if_pos c3]
    exact ok_ret ⟨by unfold siV; rw [if_neg (by omega)], fr_rfl⟩
  rw [if_neg c3]
  by_cases c4 : 2 < k
  · rw [if_pos c4]
    exact ok_ret ⟨by unfold siV; rw [if_neg (by omega)], fr_rfl⟩
  rw [if_neg c4]
  unfold siV
  rw [if_pos ⟨⟨c1, c2⟩, by omega⟩]
  refine ok_bind (c_siGather hX hW t0 t1 f0 f1 hn) ?_
  rintro M ⟨hD, e6, e7, h52, hf⟩
  have hnp : Fr npr N M := fr_mono hf fun o k q => by unfold frS at q; unfold npr pC pM; omega
  have hUl := siU_len r lw f t
  have hUg : ∀ i g : Nat, (siU r lw f t)[i]? = some g → g < 16 := fun i g q => by have := siU_lt q; omega
  change DS M n (siU r lw f t) (fun (g : Nat) => worthS r lw g f t) (fun g y => costS r lw g t (r 6 + 1 + y)) at hD
  generalize siU r lw f t = U at *
  obtain ⟨m, hm⟩ : ∃ m, m = U.length := ⟨_, rfl⟩
  rw [← hm] at hUl ⊢
  have hp : 2 ^ m ≤ 2 ^ 10 := Nat.pow_le_pow_right (by omega) hUl
  have hp0 : 0 < 2 ^ m := Nat.pos_of_ne_zero (by simp)
  have e5 : M 48 5 = (m : Int) := by rw [hm]; exact hD.1
  have hg : ∀ i, i < m → ∃ g, U[i]? = some g := fun i hi => ⟨U[i]'(by omega), List.getElem?_eq_getElem (by omega)⟩
  have hb : ∀ i : Nat, i < m → 0 ≤ M 50 i ∧ M 50 i ≤ 999 := fun i hi => by
    obtain ⟨g, eg⟩ := hg i hi
    rw [(hD.2 i g eg).2.1]
    exact worthS_b _ _ _ _ _
  have hW' : ∀ S : Nat, suS (M 50) S m = sL (fun (g : Nat) => worthS r lw g f t) U S := fun S => by
    rw [hm]
    exact su_list _ U _ S fun i g q => (hD.2 i g q).2.1
  have hF : ∀ S : Nat, S < 2 ^ m → f_X7_falls X M (S : Int) (n : Int) = some (if siF r lw t n U S = true then 1 else 0) := fun S hS => by
    rw [c_siFalls (by omega) hUl hn e5 e6 e7 (by omega) (by omega) (fun y hy => by rw [h52 y hy]; exact costsS_b hV lw t _ _ (by omega)) (fun i y hi hy => by
      obtain ⟨g, eg⟩ := hg i hi
      rw [(hD.2 i g eg).2.2 y hy]
      exact costS_b _ _ _ _ _)]
    have e : fallY (rl r t 1) (cyC M S m) (rl r t 0) n = fallY (rl r t 1) (cyA r lw t U S) (rl r t 0) n := by
      refine (fallY_c n fun y y1 y2 => ?_).1
      unfold cyC cyA
      rw [h52 (y - 1) (by omega), show r 6 + 1 + ((y - 1 : Nat) : Int) = r 6 + (y : Int) by omega]
      congr 1
      rw [hm]
      refine su_list _ U _ S fun i g q => ?_
      rw [(hD.2 i g q).2.2 (y - 1) (by omega)]
      dsimp only
      rw [show r 6 + 1 + ((y - 1 : Nat) : Int) = r 6 + (y : Int) by omega]
    rw [e]
    unfold siF
    by_cases z : 0 ≤ fallY (rl r t 1) (cyA r lw t U S) (rl r t 0) n
    · rw [if_pos z, if_pos (decide_eq_true z)]
    · rw [if_neg z, if_neg (fun y => z (of_decide_eq_true y))]
  have eb : bestK (siF r lw t n U) (siP (M 50) m) (2 ^ m) = bestK (siF r lw t n U) (siK r lw f t U) (2 ^ m) := best_c _ fun s _ => ⟨rfl, by unfold siP siK; rw [hW']⟩
  refine ok_bind (c_siCheap hUl e5 hb hF) ?_
  rintro o rfl
  rw [eb]
  have sp := best_spec (siF r lw t n U) (siK r lw f t U) (2 ^ m)
  by_cases full : siF r lw t n U (2 ^ m - 1) = true
  case neg =>
    rw [if_neg full, if_pos rfl]
    refine ok_ret ⟨?_, hnp⟩
    cases hq : bestK (siF r lw t n U) (siK r lw f t U) (2 ^ m) with
    | none => rfl
    | some P =>
      rw [hq] at sp
      refine absurd ?_ full
      have q := of_decide_eq_true sp.2.1
      refine decide_eq_true (fall_mono n (fun y y1 y2 => ?_) q)
      unfold cyA
      have := (sL_le (f := fun g : Nat => costS r lw g t (r 6 + (y : Int))) (fun g => (costS_b _ _ _ _ _).1) U P).2
      rw [hm]
      omega
  rw [if_pos full]
  cases hq : bestK (siF r lw t n U) (siK r lw f t U) (2 ^ m) with
  | none =>
    show Ok (if (-1 : Int) = -1 then _ else _) _
    rw [if_pos rfl]
    exact ok_ret ⟨rfl, hnp⟩
  | some P =>
    rw [hq] at sp
    have hP := sp.1
    show Ok (if (P : Int) = -1 then _ else _) _
    rw [if_neg (by omega)]
    show Ok _ (fun (o : Int × NN) => o.1 = (if k = 0 then onS (P : Int) 16 else if k = 1 then sL (fun (g : Nat) => worthS r lw g f t) U P else (oL U P : Int)) ∧ Fr npr N o.2)
    by_cases k0 : k = 0
    · rw [if_pos k0]
      refine ok_bd (a := onS (P : Int) 16) (c_bitCount (by omega)) ?_
      exact ok_ret ⟨by dsimp only [brA]; rw [if_pos k0], hnp⟩
    rw [if_neg k0]
    by_cases k1 : k = 1
    · rw [if_pos k1]
      refine ok_bd (a := suS (M 50) P m) (c_siWorth (by omega) hUl e5 hb) ?_
      exact ok_ret ⟨by rw [if_neg k0, if_pos k1]; exact hW' P, hnp⟩
    rw [if_neg k1]
    refine ok_bd (a := (oB (fun (i : Nat) => U[i]?.getD 0) P m : Int)) (c_siBits (by omega) hUl e5 fun i hi => ?_) ?_
    · obtain ⟨g, eg⟩ := hg i hi
      have z := (hD.2 i g eg).1
      have y := hUg i g eg
      rw [eg]
      exact ⟨z, y⟩
    · refine ok_ret ⟨?_, hnp⟩
      rw [if_neg k0, if_neg k1]
      show ((oB (fun (i : Nat) => U[i]?.getD 0) P m : Nat) : Int) = _
      rw [hm, oB_list U _ P fun i g q => by rw [q]; rfl]
theorem sim_siege (h : Inv X N B) (f t n k : Int) : Sim X N B (f_X11_siege X N f t n k) (fun M => f_X12_siege X M f t n k) := by
  have h' := h
  obtain ⟨hX, ⟨r, lw⟩, im, un, tp, cn, rp, hC0, hM⟩ := h'
  have hW : CW X N 4 B r lw := hC0.1
  have hV := hW.2.1
  have v0 := hV.1
  have v1 := hV.2.1
  refine sim_ro (v := if (((0 ≤ f ∧ f < r 0) ∧ (0 ≤ t ∧ t < r 0)) ∧ f ≠ t) ∧ (1 ≤ n ∧ n ≤ 9) then siV r lw f t n.toNat k else -1) h ?_ ?_
  · unfold f_X11_siege f_X11_siege_j37
    refine ok_bd (c_isLord hW.1) ?_
    by_cases d : 0 ≤ f ∧ f < r 0
    case neg =>
      rw [if_neg d, i00, if_neg (fun z => d z.1.1.1)]
      exact ok_ret ⟨rfl, fr_rfl⟩
    rw [if_pos d, i10]
    refine ok_bd (c_isLord hW.1) ?_
    by_cases d2 : 0 ≤ t ∧ t < r 0
    case neg =>
      rw [if_neg d2, i00, if_neg (fun z => d2 z.1.1.2)]
      exact ok_ret ⟨rfl, fr_rfl⟩
    rw [if_pos d2, i10]
    by_cases d3 : f = t
    · rw [if_pos d3, if_neg (fun z => z.1.2 d3)]
      exact ok_ret ⟨rfl, fr_rfl⟩
    rw [if_neg d3]
    refine ok_bd c_within ?_
    by_cases d4 : 1 ≤ n ∧ n ≤ 9
    case neg =>
      rw [if_neg d4, i00, if_neg (fun z => d4 z.2)]
      exact ok_ret ⟨rfl, fr_rfl⟩
    rw [if_pos d4, i10, if_pos ⟨⟨⟨d, d2⟩, d3⟩, d4⟩]
    obtain ⟨nn, rfl⟩ := Int.eq_ofNat_of_zero_le (show 0 ≤ n by omega)
    rw [Int.toNat_natCast]
    refine ok_bind (c_siAnswer hX hW d.1 d.2 d2.1 d2.2 (by omega) (by omega)) ?_
    rintro ⟨z, N1⟩ ⟨p1, p2⟩
    exact ok_ret ⟨p1, p2⟩
  · intro M hf
    have hM1 : MW (m_up M 64 0 0) B r lw := (minv_npr hM (fr_tr hf npr_0)).1
    unfold f_X12_siege f_X12_siege_j71
    try dsimp only
    refine ok_bd (ref_isLord hM1.1 hV) ?_
    by_cases d : 0 ≤ f ∧ f < r 0
    case neg =>
      rw [if_neg d, i00, if_neg (fun z => d z.1.1.1)]
      exact ok_ret ⟨rfl, npr_0⟩
    rw [if_pos d, i10]
    refine ok_bd (ref_isLord hM1.1 hV) ?_
    by_cases d2 : 0 ≤ t ∧ t < r 0
    case neg =>
      rw [if_neg d2, i00, if_neg (fun z => d2 z.1.1.2)]
      exact ok_ret ⟨rfl, npr_0⟩
    rw [if_pos d2, i10]
    by_cases d3 : f = t
    · rw [if_pos d3, if_neg (fun z => z.1.2 d3)]
      exact ok_ret ⟨rfl, npr_0⟩
    rw [if_neg d3]
    refine ok_bd ref_in ?_
    by_cases d4 : 1 ≤ n ∧ n ≤ 9
    case neg =>
      rw [if_neg d4, i00, if_neg (fun z => d4 z.2)]
      exact ok_ret ⟨rfl, npr_0⟩
    rw [if_pos d4, i10, if_pos (show (((0 ≤ f ∧ f < r 0) ∧ (0 ≤ t ∧ t < r 0)) ∧ f ≠ t) ∧ (1 ≤ n ∧ n ≤ 9) from ⟨⟨⟨d, d2⟩, d3⟩, d4⟩)]
    obtain ⟨nn, rfl⟩ := Int.eq_ofNat_of_zero_le (show 0 ≤ n by omega)
    rw [Int.toNat_natCast]
    have vf := hV.2.2.2.2.2.2.2.2.2.1 f d.1 (by omega)
    have vt := hV.2.2.2.2.2.2.2.2.2.1 t d2.1 (by omega)
    refine ok_bd ref_in ?_
    unfold siV
    by_cases d5 : 0 ≤ k ∧ k ≤ 2
    case neg =>
      rw [if_neg d5, i00, if_neg (fun z => d5 z.2)]
      exact ok_ret ⟨rfl, npr_0⟩
    rw [if_pos d5, i10]
    refine ok_bd (ref_ofLord hM1.1 d2.1 (by omega) (by omega) (by omega)) ?_
    by_cases d6 : rl r t 2 = 0
    case neg =>
      rw [if_pos (show rl r t 2 = 1 by omega), if_neg (fun z => d6 z.1.2)]
      exact ok_ret ⟨rfl, npr_0⟩
    rw [if_neg (show ¬ rl r t 2 = 1 by omega)]
    refine ok_bd (ref_ofLord hM1.1 d.1 (by omega) (by omega) (by omega)) ?_
    by_cases d7 : rl r f 2 = 0
    case neg =>
      rw [if_pos (show rl r f 2 = 1 by omega), if_neg (fun z => d7 z.1.1)]
      exact ok_ret ⟨rfl, npr_0⟩
    rw [if_neg (show ¬ rl r f 2 = 1 by omega), if_pos ⟨⟨d7, d6⟩, d5⟩]
    refine ok_bind (ref_layYears hM1 d2.1 (by omega) d4.1 (by omega)) ?_
    rintro M2 ⟨p1, p2, p3⟩
    have f2 : Fr npr M M2 := fr_tr npr_0 (fr_mono p3 fun o k z => by unfold frY frM at z; unfold npr pC pM; omega)
    obtain ⟨m1, hm1⟩ := Int.eq_ofNat_of_zero_le v1.1
    refine ok_bind (ref_si88 p2 d2.1 (by omega) d.1 (by omega) (by omega) hm1) ?_
    rintro o ⟨M3, c, rfl, hH, f3⟩
    have hM3 := mw_Sm p2 f3
    have f3' : Fr npr M M3 := fr_tr f2 (fr_mono f3 fun o k z => by unfold frSm frM at z; unfold npr pC pM; omega)
    dsimp only
    have hU : siU r lw f t = (hC 10 (ownB r f) m1).filter (fun (g : Nat) => !barS r lw g f t) := by unfold siU; rw [show (r 1).toNat = m1 by omega]
    have hHl : (hC 10 (ownB r f) m1).length ≤ 10 := hC_len _
    have hHg : ∀ i g : Nat, (hC 10 (ownB r f) m1)[i]? = some g → (g : Int) < r 1 := fun i g q => by have := hC_mem m1 (List.mem_of_getElem? q); omega
    rw [hU]
    generalize hC 10 (ownB r f) m1 = H at *
    refine ok_bind (ref_si230 hM3 d2.1 (by omega) d.1 (by omega) (by omega) (by omega) rfl hHl hH hHg (fun y y1 y2 => by rw [f3 89 _ (by unfold frSm frM; omega)]; exact p1 y y1 y2)) ?_
    rintro o ⟨M4, f4, b, hb, rfl⟩
    have f4' : Fr npr M M4 := fr_tr f3' (fr_mono f4 fun o k z => by unfold frM at z; unfold npr pC pM; omega)
    dsimp only
    have hp : 2 ^ H.length ≤ 2 ^ 10 := Nat.pow_le_pow_right (by omega) hHl
    have eb : b = (bestK (siF r lw t nn (H.filter fun (g : Nat) => !barS r lw g f t)) (siK r lw f t (H.filter fun (g : Nat) => !barS r lw g f t)) (2 ^ (H.filter fun (g : Nat) => !barS r lw g f t).length)).map (exS (H.map fun (g : Nat) => barS r lw g f t)) := by
      have ef := fr_filter (fun (g : Nat) => barS r lw g f t) H
      rw [hb]
      refine best_ex ?_ ?_ ?_ ?_ ?_
      · intro P _
        have := ex_lt (H.map fun (g : Nat) => barS r lw g f t) P
        rw [List.length_map] at this
        exact this
      · intro P Q a a2
        exact ex_mono _ P Q a (by rw [ef]; exact a2)
      · intro P hP
        have e1 : decide (∀ i : Nat, i < 10 → bit (exS (H.map fun (g : Nat) => barS r lw g f t) P : Int) (i : Int) = 1 → bit (c : Int) (i : Int) = 1) = true := by
          refine decide_eq_true fun i hi hq => ?_
          by_cases li : i < H.length
          · have eg : H[i]? = some (H[i]'li) := List.getElem?_eq_getElem li
            have z := (hH.2 i _ eg).2.1
            cases hbar : barS r lw (H[i]'li : Nat) f t with
            | false => rw [z, hbar]; rfl
            | true =>
              have := ex_bar (H.map fun (g : Nat) => barS r lw g f t) P i (by rw [List.getElem?_map, eg, Option.map_some, hbar])
              omega
          · have l := ex_lt (H.map fun (g : Nat) => barS r lw g f t) P
            rw [List.length_map] at l
            have := bit_big l (show H.length ≤ i by omega)
            omega
        rw [e1, Bool.true_and]
        unfold siF
        have e2 : cyA r lw t H (exS (H.map fun (g : Nat) => barS r lw g f t) P) = cyA r lw t (H.filter fun (g : Nat) => !barS r lw g f t) P := by
          funext y
          unfold cyA
          rw [ex_sL]
        rw [e2]
      · intro P hP
        unfold siK
        rw [ex_sL, ex_on _ _ (by rw [List.length_map]; exact hHl) (by rw [ef]; exact hP)]
      · intro S hS hD
        have hD' := of_decide_eq_true ((Bool.and_eq_true _ _).mp hD).1
        obtain ⟨P, q1, q2⟩ := ex_sur (H.map fun (g : Nat) => barS r lw g f t) S (by rw [List.length_map]; exact hS) (fun i hi => by
          rw [List.getElem?_map] at hi
          cases eg : H[i]? with
          | none => rw [eg] at hi; cases hi
          | some g =>
            rw [eg, Option.map_some] at hi
            have hbar : barS r lw (g : Int) f t = true := Option.some.inj hi
            have z := (hH.2 i g eg).2.1
            rw [hbar, if_pos rfl] at z
            have lt := get_lt eg
            have y := hD' i (by omega)
            have := bit_01 (S : Int) (i : Int)
            omega)
        exact ⟨P, by rw [← ef]; exact q1, q2⟩
    rw [eb]
    have spU := best_spec (siF r lw t nn (H.filter fun (g : Nat) => !barS r lw g f t)) (siK r lw f t (H.filter fun (g : Nat) => !barS r lw g f t)) (2 ^ (H.filter fun (g : Nat) => !barS r lw g f t).length)
    unfold f_X12_siege_j409 f_X12_siege_j431
    cases hq : bestK (siF r lw t nn (H.filter fun (g : Nat) => !barS r lw g f t)) (siK r lw f t (H.filter fun (g : Nat) => !barS r lw g f t)) (2 ^ (H.filter fun (g : Nat) => !barS r lw g f t).length) with
    | none =>
      show Ok (if (-1 : Int) = -1 then _ else _) _
      rw [if_pos rfl]
      show Ok (if (-1 : Int) = -1 then _ else _) _
      rw [if_pos rfl]
      exact ok_ret ⟨rfl, f4'⟩
    | some P =>
      rw [hq] at spU
      have hPU := spU.1
      have lx := ex_lt (H.map fun (g : Nat) => barS r lw g f t) P
      rw [List.length_map] at lx
      show Ok (if ((exS (H.map fun (g : Nat) => barS r lw g f t) P : Nat) : Int) = -1 then _ else _) _
      rw [if_neg (by omega)]
      show Ok _ (fun (o : Int × NN) => o.1 = (if k = 0 then onS (P : Int) 16 else if k = 1 then sL (fun (g : Nat) => worthS r lw g f t) (H.filter fun (g : Nat) => !barS r lw g f t) P else (oL (H.filter fun (g : Nat) => !barS r lw g f t) P : Int)) ∧ Fr npr M o.2)
      by_cases k2 : k < 2
      · rw [if_pos k2]
        show Ok (if ((exS (H.map fun (g : Nat) => barS r lw g f t) P : Nat) : Int) = -1 then _ else _) _
        rw [if_neg (by omega)]
        by_cases k0 : k = 0
        · rw [if_pos k0, if_pos k0]
          refine ok_ret ⟨?_, f4'⟩
          show onS (exS (H.map fun (g : Nat) => barS r lw g f t) P : Int) 16 = _
          exact ex_on _ _ (by rw [List.length_map]; exact hHl) (by rw [fr_filter]; exact hPU)
        · rw [if_neg k0, if_neg k0, if_pos (show k = 1 by omega)]
          refine ok_ret ⟨?_, f4'⟩
          exact ex_sL _ _ H P
      · rw [if_neg k2, if_neg (show ¬ k = 0 by omega), if_neg (show ¬ k = 1 by omega)]
        refine ok_bind (ref_siBits (S := exS (H.map fun (g : Nat) => barS r lw g f t) P) (d := fun (i : Nat) => H[i]?.getD 0) (by omega) hHl fun i hi => ?_) ?_
        · have eg : H[i]? = some (H[i]'hi) := List.getElem?_eq_getElem hi
          have z := (hH.2 i _ eg).1
          have y := hHg i _ eg
          rw [eg, f4 90 i (by unfold frM; omega)]
          refine ⟨z, ?_⟩
          show H[i]'hi < 16
          omega
        · rintro o rfl
          refine ok_ret ⟨?_, f4'⟩
          show ((oB (fun (i : Nat) => H[i]?.getD 0) (exS (H.map fun (g : Nat) => barS r lw g f t) P : Nat) H.length : Nat) : Int) = _
          rw [oB_list H _ _ fun i g q => by rw [q]; rfl, ex_oL]
end SM
