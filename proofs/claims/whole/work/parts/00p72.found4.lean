/-! found: what the class answers -/
def fdH (r : Nat → Int) : Nat → Nat := fun g => (rg r g 0).toNat
noncomputable def fdL (r : Nat → Int) (lw : Nat → Law) (n : Nat) : List (List Nat) := sqS (opF r lw) (tdF r) (r 1).toNat n (fdH r)
def fdV (l : List (List Nat)) (k : Int) : Int := if k = 0 then (l.length : Int) else match l.head? with
  | none => -1
  | some s => if k % 2 = 1 then ((s[((k - 1) / 2).toNat]?.getD 0 / 6 : Nat) : Int) else ((s[((k - 1) / 2).toNat]?.getD 0 % 6 : Nat) : Int)
section FV
variable {X : MX} {N : NN} {B : Int} {r : Nat → Int} {lw : Nat → Law}
def frFd (o k : Nat) : Prop := o = 26 ∨ o = 27 ∨ (o = 58 ∧ 5 ≤ k ∧ k ≤ 8) ∨ (59 ≤ o ∧ o ≤ 62)
theorem c_fdAnswer {n : Nat} {k : Int} (hX : XOK X) (hW : CW X N 4 B r lw) (hn : n ≤ 3) (k0 : 0 ≤ k) (k1 : k ≤ 2 * (n : Int)) : Ok (f_X6_answer X 4 N (n : Int) k) (fun o => o.1 = fdV (fdL r lw n) k ∧ Fr npr N o.2) := by
  have hV := hW.2.1
  have v0 := hV.1
  have v1 := hV.2.1
  have vg := hV.2.2.2.2.2.2.2.2.2.2.1
  have cwf : ∀ {M : NN}, Fr frFd N M → CW X M 4 B r lw := fun hf => cw_fr hW hf fun o k q => by unfold frFd at q; omega
  have npf : ∀ {M : NN}, Fr frFd N M → Fr npr N M := fun hf => fr_mono hf fun o k q => by unfold frFd at q; unfold npr pC pM; omega
  unfold f_X6_answer f_X6_answer_j134
  refine ok_bd (c_many hW.1 (by omega) (by omega)) ?_
  rw [show r (0 : Int).toNat = r 0 from rfl, min_id, show min (r 0) 6 = r 0 by omega]
  have f2 : Fr frFd N (m_up N 58 5 (r 0)) := fr_up fr_rfl (by unfold frFd; omega)
  refine ok_bd (c_many (cwf f2).1 (by omega) (by omega)) ?_
  rw [show r (1 : Int).toNat = r 1 from rfl, min_id, show min (r 1) 16 = r 1 by omega]
  have f4 : Fr frFd N (m_up (m_up N 58 5 (r 0)) 58 6 (r 1)) := fr_up f2 (by unfold frFd; omega)
  have H1 : Ok (lp (fun s => b_X6_answer_31 X 4 s.1 s.2.1 s.2.2.1 s.2.2.2) (m_up (m_up N 58 5 (r 0)) 58 6 (r 1), (n : Int), k, 0)) (fun o => ∃ M, o = (M, (n : Int), k) ∧ FTc M r lw n ∧ HDc M r (fdH r) ∧ Fr frFd N M) := by
    refine ok_up (fun i z => ∃ M, z = (M, (n : Int), k, i) ∧ M 58 5 = r 0 ∧ M 58 6 = r 1 ∧ (∀ g : Nat, (g : Int) < i → LKc M r lw n g) ∧ (∀ g : Nat, (g : Int) < i → M 61 g = (fdH r g : Int)) ∧ Fr frFd N M) (r 1) (i0 := 0) ?_ ?_ (by omega) ⟨_, rfl, by rw [up_k (by omega), up_s], up_s, fun g h => by omega, fun g h => by omega, f4⟩
    · rintro i z a0 a1 ⟨M, rfl, e5, e6, hL, hH, hf⟩
      obtain ⟨g, rfl⟩ := Int.eq_ofNat_of_zero_le a0
      have v := vg g (by omega) a1
      dsimp only
      unfold b_X6_answer_31
      rw [e6, if_pos a1]
      refine ok_bd (c_goodAt (cwf hf).1 (by omega) (by omega) (by omega) (by omega)) ?_
      rw [if_pos (by omega), Int.toNat_natCast]
      have f7 : Fr frFd N (m_up M 61 g (rg r g 0)) := fr_up hf (by unfold frFd; omega)
      refine ok_bind (c_lookAt hX (cwf f7) a1 hn (by rw [up_o (by omega)]; exact e5)) ?_
      rintro M8 ⟨p1, p2⟩
      rw [w_id (x := (g : Int) + 1) (by omega) (by omega)]
      refine ok_ret ⟨M8, rfl, by rw [p2 58 5 (by unfold frLk; omega), up_o (by omega)]; exact e5, by rw [p2 58 6 (by unfold frLk; omega), up_o (by omega)]; exact e6, fun g' hg' => ?_, fun g' hg' => ?_, fr_tr f7 (fr_mono p2 fun o k q => by unfold frLk at q; unfold frFd; omega)⟩
      · by_cases e : g' = g
        · rw [e]; exact p1
        · have old := hL g' (by omega)
          refine ⟨fun a t ha ht => ?_, fun a s ha hs => ?_⟩
          · rw [p2 59 _ (by unfold frLk; omega), up_o (by omega)]; exact old.1 a t ha ht
          · rw [p2 60 _ (by unfold frLk; omega), up_o (by omega)]; exact old.2 a s ha hs
      · rw [p2 61 _ (by unfold frLk; omega), up_a]
        by_cases e : g' = g
        · rw [if_pos e, e]
          unfold fdH
          omega
        · rw [if_neg e]; exact hH g' (by omega)
    · rintro z ⟨M, rfl, e5, e6, hL, hH, hf⟩
      dsimp only
      unfold b_X6_answer_31
      rw [e6, if_neg (by omega)]
      refine ok_ret ⟨M, rfl, ⟨e5, e6, hL⟩, fun g hg => ⟨hH g hg, ?_⟩, hf⟩
      have v := vg g (by omega) hg
      unfold fdH
      omega
  refine ok_bind H1 ?_
  rintro o ⟨M, rfl, hT, hH, hf⟩
  dsimp only
  by_cases kz : k = 0
  · rw [if_pos kz]
    refine ok_bind (c_fdRows hX hV hT hH (Nat.le_refl n) hn) ?_
    rintro ⟨v, M5⟩ ⟨p1, p2⟩
    refine ok_ret ⟨?_, npf (fr_tr hf (fr_mono p2 fun o k q => by unfold frFd; omega))⟩
    unfold fdV
    rw [if_pos kz]
    unfold fdL
    rw [sq_len]
    exact p1
  rw [if_neg kz]
  rw [w_id (x := k - 1) (by omega) (by omega), div_id (by omega) (by omega) (by omega) (by omega)]
  obtain ⟨w, hw⟩ : ∃ w : Nat, (k - 1) / 2 = (w : Int) := ⟨((k - 1) / 2).toNat, by omega⟩
  rw [hw]
  have H2 : Ok (lp (fun s => b_X6_answer_88 X 4 s.1 s.2.1 s.2.2.1 s.2.2.2.1 s.2.2.2.2) (M, (n : Int), k, (w : Int), 0)) (fun o => (∃ M', o = .inl (M', k) ∧ (∃ s x, (fdL r lw n).head? = some s ∧ s[w]? = some x ∧ M' 58 7 = ((x / 6 : Nat) : Int) ∧ M' 58 8 = ((x % 6 : Nat) : Int)) ∧ Fr frFd N M') ∨ (∃ M', o = .inr M' ∧ (fdL r lw n).head? = none ∧ Fr frFd N M')) := by
    refine ok_up (fun i z => ∃ M', z = (M', (n : Int), k, (w : Int), i) ∧ Fr frFd N M' ∧ FTc M' r lw n ∧ ∃ (H : Nat → Nat) (Pre : List Nat), (Pre.length : Int) = i ∧ HDc M' r H ∧ ((fdL r lw n).head? = (sqS (opF r lw) (tdF r) (r 1).toNat (n - Pre.length) H).head?.map (fun s => Pre ++ s)) ∧ (0 < i → ∃ s x, (fdL r lw n).head? = some s ∧ s[Pre.length - 1]? = some x ∧ M' 58 7 = ((x / 6 : Nat) : Int) ∧ M' 58 8 = ((x % 6 : Nat) : Int))) ((w : Int) + 1) (i0 := 0) ?_ ?_ (by omega) ⟨M, rfl, hf, hT, fdH r, [], rfl, hH, by rw [List.length_nil, Nat.sub_zero]; unfold fdL; cases (sqS (opF r lw) (tdF r) (r 1).toNat n (fdH r)).head? <;> rfl, fun h => by omega⟩
    · rintro i z a0 a1 ⟨M', rfl, hf', hT', H, Pre, hl, hH', hh, hx⟩
      have GG : Ok (b_X6_answer_88 X 4 M' (n : Int) k (w : Int) i) (fun o => (∃ M', o = .inl (M', (n : Int), k, (w : Int), i + 1) ∧ Fr frFd N M' ∧ FTc M' r lw n ∧ ∃ (H : Nat → Nat) (Pre : List Nat), (Pre.length : Int) = i + 1 ∧ HDc M' r H ∧ ((fdL r lw n).head? = (sqS (opF r lw) (tdF r) (r 1).toNat (n - Pre.length) H).head?.map (fun s => Pre ++ s)) ∧ (0 < i + 1 → ∃ s x, (fdL r lw n).head? = some s ∧ s[Pre.length - 1]? = some x ∧ M' 58 7 = ((x / 6 : Nat) : Int) ∧ M' 58 8 = ((x % 6 : Nat) : Int))) ∨ (∃ M', o = .inr (.inr M') ∧ (fdL r lw n).head? = none ∧ Fr frFd N M')) := by
        unfold b_X6_answer_88
        rw [if_neg (by omega), w_id (x := (n : Int) - 1) (by omega) (by omega), w_id (x := (n : Int) - 1 - i) (by omega) (by omega)]
        obtain ⟨left, hleft⟩ : ∃ left : Nat, n - Pre.length = left + 1 := ⟨n - Pre.length - 1, by omega⟩
        rw [show (n : Int) - 1 - i = (left : Int) by omega]
        refine ok_bind (c_takeFirst hX hV hT' hH' (show left + 1 ≤ n by omega) hn) ?_
        rintro ⟨fl, M2⟩ ⟨h1, h2⟩
        dsimp only at h1 h2 ⊢
        have f2 : Fr frFd N M2 := fr_tr hf' (fr_mono h2 fun o k q => by unfold frTk at q; unfold frFd; omega)
        rw [hleft] at hh
        rcases h1 with ⟨rfl, x, x1, x2, x3, x4, x5, x6, x7⟩ | ⟨rfl, h1⟩
        · obtain ⟨s, s1, s2⟩ := sq_first (op := opF r lw) (td := tdF r) x1 x2 x3 x4
          rw [i10, w_id (x := i + 1) (by omega) (by omega)]
          refine ok_ret (Or.inl ⟨M2, rfl, f2, ftc_62 hT' (fr_mono h2 fun o k q => q), uph H (x / 6) (x % 6), Pre ++ [x], by rw [List.length_append]; show ((Pre.length + 1 : Nat) : Int) = _; omega, x7, ?_, fun _ => ⟨Pre ++ x :: s, x, ?_, ?_, x5, x6⟩⟩)
          · rw [List.length_append, show n - (Pre.length + [x].length) = left by rw [List.length_singleton]; omega, s1, hh, s2]
            show some (Pre ++ x :: s) = some ((Pre ++ [x]) ++ s)
            rw [List.append_assoc]; rfl
          · rw [hh, s2]; rfl
          · rw [List.length_append, List.length_singleton, Nat.add_sub_cancel, List.getElem?_append_right (Nat.le_refl _), Nat.sub_self]
            rfl
        · rw [i00]
          rw [sq_no h1] at hh
          exact ok_ret (Or.inr ⟨M2, rfl, hh, f2⟩)
      refine ok_mono GG ?_
      rintro o (⟨M9, rfl, h⟩ | ⟨M9, rfl, h⟩)
      · exact ⟨M9, rfl, h⟩
      · exact Or.inr ⟨M9, rfl, h⟩
    · rintro z ⟨M', rfl, hf', hT', H, Pre, hl, hH', hh, hx⟩
      dsimp only
      unfold b_X6_answer_88
      rw [if_pos (by omega)]
      obtain ⟨s, x, y1, y2, y3⟩ := hx (by omega)
      rw [show Pre.length - 1 = w by omega] at y2
      exact ok_ret (Or.inl ⟨M', rfl, ⟨s, x, y1, y2, y3⟩, hf'⟩)
  refine ok_bind H2 ?_
  have ew : ((k - 1) / 2).toNat = w := by omega
  rintro o (⟨M', rfl, ⟨s, x, y1, y2, y3, y4⟩, hf'⟩ | ⟨M', rfl, y1, hf'⟩)
  · dsimp only
    unfold fdV
    rw [if_neg kz, y1]
    dsimp only
    rw [ew, y2, rem_id (by omega) (by omega) (by omega) (by omega)]
    by_cases c : k % 2 = 1
    · rw [if_pos c, if_pos c]; exact ok_ret ⟨y3, npf hf'⟩
    · rw [if_neg c, if_neg c]; exact ok_ret ⟨y4, npf hf'⟩
  · dsimp only
    unfold fdV
    rw [if_neg kz, y1]
    exact ok_ret ⟨rfl, npf hf'⟩
end FV
