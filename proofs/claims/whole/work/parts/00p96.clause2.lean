def J2q (W : Int) (tp : Nat → Int) (n : Nat) (N : NN) (t z i : Nat) (r : Nat ⊕ (Nat × Nat × Option Den)) (M : NN) : Prop := Fr frRl N M ∧ match r with
  | .inl f => FS2 M tp n f
  | .inr q => ∃ z', RB M tp n false q.1 q.2.1 ∧ RZ M q.1 z' ∧ z ≤ z' ∧ M 74 (8 * i + 4) = (z : Int) ∧ M 74 (8 * i + 5) = (z : Int) ∧ M 74 (8 * i + 6) = (z' : Int) ∧ (q.2.2 = none → z = z') ∧ (∀ D, q.2.2 = some D → SgR W false M z z' 28 D ∧ DBo D) ∧ (∀ k, k < z → M 75 k = N 75 k ∧ M 76 k = N 76 k) ∧ (∀ k, k ≠ 8 * i + 4 → k ≠ 8 * i + 5 → k ≠ 8 * i + 6 → M 74 k = N 74 k) ∧ M 64 21 = N 64 21 ∧ t ≤ q.1
section LS
variable {X : MX} {N : NN} {tp : Nat → Int} {n : Nat} {W : Int}
theorem r_j195 {i : Nat} (hi : i < 12) : f_X12_readLaw_j195 X N (8 * i : Int) = some (m_up N 74 (8 * i + 6) (N 64 23)) := by
  unfold f_X12_readLaw_j195
  rw [w_id (x := (8 * i : Int) + 6) (by omega) (by omega), if_pos (by omega), show ((8 * i : Int) + 6).toNat = 8 * i + 6 by omega]
theorem r_j145f {i f : Nat} (hi : i < 12) (h : FS2 N tp n f) : ∃ M, f_X12_readLaw_j145 X N (8 * i : Int) = some M ∧ FS2 M tp n f ∧ Fr fr74 N M := by
  refine ⟨m_up (m_up (m_up N 74 (8 * i + 4) (N 64 23)) 74 (8 * i + 5) (N 64 23)) 74 (8 * i + 6) (N 64 23), ?_, fs2_74 (fs2_74 (fs2_74 h fr_u74) fr_u74) fr_u74, fr_up (fr_up (fr_up fr_rfl (Or.inl rfl)) (Or.inl rfl)) (Or.inl rfl)⟩
  · unfold f_X12_readLaw_j145
    rw [w_id (x := (8 * i : Int) + 4) (by omega) (by omega), w_id (x := (8 * i : Int) + 5) (by omega) (by omega), if_pos (by omega), show ((8 * i : Int) + 4).toNat = 8 * i + 4 by omega, show ((8 * i : Int) + 5).toNat = 8 * i + 5 by omega]
    dsimp only
    rw [if_pos (by omega), show ∀ a b, m_up N 74 a b 64 23 = N 64 23 from fun a b => up_o (by omega), if_neg (show ¬ m_up (m_up N 74 (8 * i + 4) (N 64 23)) 74 (8 * i + 5) (N 64 23) 64 19 = 0 by rw [up_o (by omega), up_o (by omega), h.1]; omega), r_j195 hi, up_o (by omega), up_o (by omega)]
theorem r_j145 {t np z i : Nat} (hn : n ≤ 400) (hb : ∀ j, j < n → 0 ≤ tp j ∧ tp j ≤ 255) (hW : W = 9) (hi : i < 12) (h : RB N tp n false t np) (hz : RZ N t z) : Ok (f_X12_readLaw_j145 X N (8 * i : Int)) (J2q W tp n N t z i (pCl2 tp n t np)) := by
  have e3 : wC 3 = 294 := wC_tab ⟨3, by decide⟩
  obtain ⟨N25, hN⟩ : ∃ N25, N25 = m_up (m_up N 74 (8 * i + 4) (z : Int)) 74 (8 * i + 5) (z : Int) := ⟨_, rfl⟩
  have f25 : Fr fr74 N N25 := by rw [hN]; exact fr_up (fr_up fr_rfl (Or.inl rfl)) (Or.inl rfl)
  have b25 := rb_74 h f25
  have z25 := rz_ag hz (ag_74 f25)
  have c4 : N25 74 (8 * i + 4) = (z : Int) := by rw [hN, up_k (by omega), up_s]
  have c5 : N25 74 (8 * i + 5) = (z : Int) := by rw [hN, up_s]
  have co : ∀ k, k ≠ 8 * i + 4 → k ≠ 8 * i + 5 → N25 74 k = N 74 k := fun k a b => by rw [hN, up_k b, up_k a]
  have c21 : N25 64 21 = N 64 21 := by rw [hN, up_o (by omega), up_o (by omega)]
  have E : f_X12_readLaw_j145 X N (8 * i : Int) = Option.bind (f_X12_isWord X N25 294) (fun o26 => if o26 = 0 then f_X12_readLaw_j195 X N25 (8 * i : Int) else Option.bind (f_X12_next X N25) (fun o27 => Option.bind (f_X12_readExpression X o27 1) (fun o28 => f_X12_readLaw_j195 X o28 (8 * i : Int)))) := by
    unfold f_X12_readLaw_j145
    rw [w_id (x := (8 * i : Int) + 4) (by omega) (by omega), w_id (x := (8 * i : Int) + 5) (by omega) (by omega), if_pos (by omega), show ((8 * i : Int) + 4).toNat = 8 * i + 4 by omega, show ((8 * i : Int) + 5).toNat = 8 * i + 5 by omega]
    dsimp only
    rw [if_pos (by omega), show ∀ a b, m_up N 74 a b 64 23 = N 64 23 from fun a b => up_o (by omega), hz.1, ← hN, if_pos b25.2.2.1]
  rw [E, ← e3, ref_isWord (by decide) hb b25.1, Option.bind_some]
  unfold pCl2
  by_cases c : tkK tp n t = 259
  case neg =>
    rw [if_neg c, if_neg (show ¬ tkK tp n t = 256 + ((3 : Nat) : Int) from c), i00, r_j195 hi]
    have fz : Fr fr74 N25 (m_up N25 74 (8 * i + 6) (N25 64 23)) := fr_u74
    refine ok_ret ⟨fr_7l (fr_tr f25 fz), z, rb_74 b25 fz, rz_ag z25 (ag_74 fz), Nat.le_refl _, by rw [up_k (by omega)]; exact c4, by rw [up_k (by omega)]; exact c5, by rw [up_s]; exact z25.1, fun _ => rfl, fun D e => (by cases e), fun k hk => ?_, fun k a1 a2 a3 => by rw [up_k a3]; exact co k a1 a2, by rw [up_o (by omega)]; exact c21, Nat.le_refl _⟩
    rw [up_o (by omega), up_o (by omega), hN, up_o (by omega), up_o (by omega), up_o (by omega), up_o (by omega)]
    exact ⟨rfl, rfl⟩
  rw [if_pos c, if_pos (show tkK tp n t = 256 + ((3 : Nat) : Int) from c), i10]
  refine ok_bind (rb_next hn hb b25 (by omega)) ?_
  rintro M1 ⟨b1, f1⟩
  have z1 := rz_t (rz_ag z25 (ag_nx f1)) (show t ≤ t + 1 by omega)
  have d1 : ∀ k, M1 75 k = N 75 k ∧ M1 76 k = N 76 k := fun k => by
    have y := (ag_nx f1).1 k
    have y2 := (ag_74 f25).1 k
    exact ⟨y.1.trans y2.1, y.2.1.trans y2.2.1⟩
  refine ok_bind (r_exp (X := X) (a := 1) (bo := true) (W := W) hn hb (by rw [hW]; rfl) rfl b1 z1) ?_
  intro M2 R
  rw [r_j195 hi]
  have fz : Fr fr74 M2 (m_up M2 74 (8 * i + 6) (M2 64 23)) := fr_u74
  cases he : xpS tp n false true (t + 1) np with
  | inl x =>
    rw [he] at R
    obtain ⟨q1, q2⟩ := rx_0 R
    exact ok_ret ⟨fr_tr (fr_7l f25) (fr_tr (fr_xl (fr_nx f1)) (fr_tr (fr_xl q1) (fr_7l fz))), fs2_74 (fst_fs2 q2) fz⟩
  | inr q =>
    rw [he] at R
    obtain ⟨q1, z', q2, q3, q4, q5, q6, q7, q8⟩ := rx_1 R
    rw [if_pos rfl] at q8
    have g74 : ∀ k, M2 74 k = N25 74 k := fun k => (q1 74 k (by unfold frRx; omega)).trans (f1 74 k (by unfold frNx; omega))
    refine ok_ret ⟨fr_tr (fr_7l f25) (fr_tr (fr_xl (fr_nx f1)) (fr_tr (fr_xl q1) (fr_7l fz))), z', rb_74 q2 fz, rz_ag q3 (ag_74 fz), by omega, by rw [up_k (by omega), g74]; exact c4, by rw [up_k (by omega), g74]; exact c5, by rw [up_s]; exact q3.1, fun e => (by cases e), fun D e => ?_, fun k hk => ?_, fun k a1 a2 a3 => by rw [up_k a3, g74]; exact co k a1 a2, ?_, by dsimp only; omega⟩
    · have e' : q.2.2 = D := Option.some.inj e
      subst e'
      exact ⟨sg_c q4 fun k _ _ => ⟨up_o (by omega), up_o (by omega)⟩, q8⟩
    · rw [up_o (by omega), up_o (by omega)]
      have y := q5 k hk
      have y2 := d1 k
      exact ⟨y.1.trans y2.1, y.2.trans y2.2⟩
    · rw [up_o (by omega), q1 64 21 (by unfold frRx; omega), f1 64 21 (by unfold frNx; omega)]; exact c21
end LS
