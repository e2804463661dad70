/-! reading: both texts of orders from the start -/
def frTo (o k : Nat) : Prop := o = 102 ∨ o = 75 ∨ o = 76 ∨ o = 77 ∨ o = 78 ∨ (o = 64 ∧ 13 ≤ k ∧ k ≤ 30)
def OXr (W : Int) (tp : Nat → Int) (n : Nat) (r : Nat ⊕ List OCl) (o : Int × NN) : Prop := match r with
  | .inl f => o.1 = 0 ∧ o.2 16 6 = (tkS tp n f : Int)
  | .inr L => o.1 = 1 ∧ ∃ z : Nat, z ≤ 400 ∧ L.length ≤ 12 ∧ o.2 21 4 = (L.length : Int) ∧ o.2 21 3 = (z : Int) ∧ o.2 16 6 = -1 ∧ ∀ i c, L[i]? = some c → COC W o.2 i c z
def OYr (W : Int) (tp : Nat → Int) (n : Nat) (r : Nat ⊕ List OCl) (M : NN) : Prop := (M 64 20 = 0 ∧ M 64 13 = 0) ∧ match r with
  | .inl f => FS2 M tp n f
  | .inr L => (M 64 19 = 0 ∧ M 64 18 = -1) ∧ ∃ z : Nat, z ≤ 400 ∧ L.length ≤ 12 ∧ M 64 21 = (L.length : Int) ∧ M 64 23 = (z : Int) ∧ (∀ k : Nat, k < z → 0 ≤ M 75 k ∧ M 75 k ≤ 30) ∧ ∀ i c, L[i]? = some c → ROC W M i c z
section RD
variable {X : MX} {N : NN} {tp : Nat → Int} {n : Nat}
theorem c_oreads (hn : n ≤ 400) (hN : ∀ j, j < n → N 17 j = tp j) (h5 : N 16 5 = (n : Int)) (hb : ∀ j, j < n → 0 ≤ tp j ∧ tp j ≤ 255) (hX : XOK X) : Ok (f_X5_reads X N 0) (fun o => OXr 32 tp n (pOx tp n) o ∧ Fr frTx N o.2) := by
  unfold f_X5_reads f_X8_empty
  rw [if_pos (by omega)]
  dsimp only
  rw [Option.bind_some]
  obtain ⟨N5, hN5⟩ : ∃ N5, N5 = m_up (m_up (m_up (m_up (m_up N 16 7 0) 16 8 0) 16 6 (-1)) 21 3 0) 21 4 0 := ⟨_, rfl⟩
  rw [← hN5]
  have f5 : Fr (fun o k => (o = 16 ∧ (k = 6 ∨ k = 7 ∨ k = 8)) ∨ (o = 21 ∧ (k = 3 ∨ k = 4))) N N5 := by rw [hN5]; exact fr_up (fr_up (fr_up (fr_up (fr_up fr_rfl (by omega)) (by omega)) (by omega)) (by omega)) (by omega)
  refine ok_bind (c_scan (N := N5) hn (fun j hj => by rw [f5 17 j (by omega)]; exact hN j hj) (by rw [f5 16 5 (by omega)]; exact h5) hb) ?_
  rintro M6 ⟨A6, f6⟩
  have a0 := A6 0 (Or.inl rfl)
  obtain ⟨N8, hN8⟩ : ∃ N8, N8 = m_up (m_up M6 16 9 0) 16 10 (tkK tp n 0) := ⟨_, rfl⟩
  have e18 : m_up M6 16 9 0 18 0 = tkK tp n 0 := by rw [up_o (by omega)]; exact a0.1
  rw [e18, ← hN8]
  have f8 : Fr (fun o k => o = 16 ∧ (k = 9 ∨ k = 10)) M6 N8 := by rw [hN8]; exact fr_up (fr_up fr_rfl (by omega)) (by omega)
  have f08 : Fr frTx N N8 := fr_tr (fr_mono f5 fun o k q => by unfold frTx; omega) (fr_tr (fr_mono f6 fun o k q => by unfold frSc at q; unfold frTx; omega) (fr_mono f8 fun o k q => by unfold frTx; omega))
  have A8 : KAc N8 tp n := kac_fr A6 (fr_mono f8 fun o k q => by unfold frRd; omega)
  have C8 : CSt N8 tp n true 0 0 0 := by
    refine ⟨by rw [hN8, up_k (by omega), up_s]; rfl, by rw [hN8, up_s], ?_, ?_, ?_, Or.inl rfl, Nat.le_refl _, by omega, ?_⟩
    · rw [f8 16 8 (by omega), f6 16 8 (by unfold frSc; omega), hN5, up_o (by omega), up_o (by omega), up_k (by omega), up_s]; rfl
    · rw [f8 16 7 (by omega), f6 16 7 (by unfold frSc; omega), hN5, up_o (by omega), up_o (by omega), up_k (by omega), up_k (by omega), up_s]; rfl
    · rw [f8 21 3 (by omega), f6 21 3 (by unfold frSc; omega), hN5, up_k (by omega), up_s]; rfl
    · rw [f8 16 6 (by omega), f6 16 6 (by unfold frSc; omega), hN5, up_o (by omega), up_o (by omega), up_s]
  have c4 : N8 21 4 = ((0 : Nat) : Int) := by rw [f8 21 4 (by omega), f6 21 4 (by unfold frSc; omega), hN5, up_s]; rfl
  rw [if_pos (show N8 16 7 = 0 by rw [C8.2.2.2.1, if_pos rfl])]
  refine ok_bind (c_orderClause (X := X) (W := 32) (i := 0) hn hb hX rfl A8 (by omega) C8 c4) ?_
  rintro ⟨v, M⟩ R
  unfold pOx f_X5_reads_j59
  cases hr : pOc tp n 0 0 with
  | inl x =>
    rw [hr] at R
    obtain ⟨q1, q2, q3⟩ := R
    dsimp only at q1 q2 q3
    subst q2
    rw [lp_end (t := (M, 0)) (by dsimp only; unfold b_X5_reads_62; rw [if_neg (by omega), if_pos rfl]), Option.bind_some]
    dsimp only
    unfold f_X5_reads_j147 f_X5_reads_j148
    rw [if_pos rfl, if_pos (by omega)]
    exact ok_ret ⟨⟨rfl, q3⟩, fr_tr f08 (fr_ct q1)⟩
  | inr q =>
    rw [hr] at R
    obtain ⟨q1, q2, z', q3, q4, q5, q6, q7, q8, q9⟩ := R
    dsimp only at q1 q2 q3 q5 q6
    subst q2
    have T := c_otext (X := X) (W := 32) hn hb hX rfl 12 q.1 q.2.1 z' [q.2.2] M rfl (Nat.le_refl _) (by show 1 ≤ 12; omega) (kac_cl A8 q1) q3 (by rw [q6]; rfl) (fun i c hc => by
      match i, hc with
      | 0, hc => rw [← Option.some.inj hc]; exact q5
      | i + 1, hc => cases hc)
    refine ok_mono T ?_
    rintro o ⟨w1, w2⟩
    exact ⟨w2, fr_tr f08 (fr_tr (fr_ct q1) (fr_ct w1))⟩
theorem fr_lmo {M : NN} (h : Fr frRor N M) : Fr frTo N M := fr_mono h fun o k q => by unfold frRor frRx fr102 at q; unfold frTo; omega
theorem r_oreads {K : NN → Option (Int × NN)} {Q : Int × NN → Prop} (hn : n ≤ 400) (hT : TPm N tp n) (hb : ∀ j, j < n → 0 ≤ tp j ∧ tp j ≤ 255) (hw : (∀ k, k < 9 → N 79 k = wC (lwI k)) ∧ ∀ k, k < 7 → N 80 k = wC (owI k)) (hK : ∀ M, OYr 32 tp n (pOx tp n) M → Fr frTo N M → Ok (K M) Q) : Ok (Option.bind (f_X12_beginText X N 1) (fun o4 => Option.bind (f_X12_readOrder X o4) (fun o5 => Option.bind (lp (fun s => b_X12_orders_19 X s) o5) (fun o11 => Option.bind (f_X12_endText X o11) K)))) Q := by
  unfold f_X12_beginText f_X12_begin
  rw [if_pos (by omega)]
  dsimp only
  obtain ⟨N3, hN3⟩ : ∃ N3, N3 = m_up (m_up (m_up (m_up N 64 20 1) 64 15 0) 64 19 0) 64 18 (-1) := ⟨_, rfl⟩
  rw [← hN3]
  have f3 : Fr (fun o k => o = 64 ∧ (k = 15 ∨ k = 18 ∨ k = 19 ∨ k = 20)) N N3 := by rw [hN3]; exact fr_up (fr_up (fr_up (fr_up fr_rfl (by omega)) (by omega)) (by omega)) (by omega)
  have T3 : TPm N3 tp n := ⟨by rw [f3 64 13 (by omega)]; exact hT.1, fun j hj => by rw [f3 73 j (by omega)]; exact hT.2 j hj⟩
  obtain ⟨M4, e4, q1, q2⟩ := ref_next0 (X := X) (N := N3) (p := 0) hn T3 (by rw [hN3, up_k (by omega), up_k (by omega), up_s]; rfl) (by omega)
  rw [e4, Option.bind_some, Option.bind_some]
  obtain ⟨N6, hN6⟩ : ∃ N6, N6 = m_up (m_up (m_up M4 64 21 0) 64 23 0) 64 26 0 := ⟨_, rfl⟩
  rw [← hN6]
  have f6 : Fr (fun o k => o = 64 ∧ (k = 21 ∨ k = 23 ∨ k = 26)) M4 N6 := by rw [hN6]; exact fr_up (fr_up (fr_up fr_rfl (by omega)) (by omega)) (by omega)
  have f06 : Fr frTo N N6 := fr_tr (fr_mono f3 fun o k q => by unfold frTo; omega) (fr_tr (fr_mono q2 fun o k q => by unfold frNx at q; unfold frTo; omega) (fr_mono f6 fun o k q => by unfold frTo; omega))
  have T4 := tpm_fr T3 q2
  have b6 : RB N6 tp n true 0 0 := by
    refine ⟨?_, ⟨by rw [f6 64 13 (by omega)]; exact T4.1, fun j hj => by rw [f6 73 j (by omega)]; exact T4.2 j hj⟩, ?_, ?_, by rw [hN6, up_s]; rfl, Or.inl rfl, by omega, ⟨fun k hk => by rw [f06 79 k (by unfold frTo; omega)]; exact hw.1 k hk, fun k hk => by rw [f06 80 k (by unfold frTo; omega)]; exact hw.2 k hk, by rw [f6 64 18 (by omega), q2 64 18 (by unfold frNx; omega), hN3, up_s]⟩⟩
    · have q1' : LXm M4 tp n (tkS tp n 0) := q1
      unfold TKm
      unfold LXm at q1' ⊢
      rw [f6 64 14 (by omega), f6 64 15 (by omega), f6 64 16 (by omega), f6 64 17 (by omega)]
      exact q1'
    · rw [f6 64 19 (by omega), q2 64 19 (by unfold frNx; omega), hN3, up_k (by omega), up_s]
    · rw [f6 64 20 (by omega), q2 64 20 (by unfold frNx; omega), hN3, up_k (by omega), up_k (by omega), up_k (by omega), up_s]; rfl
  have z6 : RZ N6 0 0 := ⟨by rw [hN6, up_k (by omega), up_s]; rfl, Nat.le_refl _, fun k hk => by omega⟩
  rw [Option.bind_some]
  refine ok_bind (r_readOrder (X := X) (W := 32) (i := 0) hn hb rfl (by omega) b6 z6 (by rw [hN6, up_k (by omega), up_k (by omega), up_s]; rfl)) ?_
  intro M R
  rw [if_pos (by omega)] at R
  unfold pOx at hK
  cases hr : pOc tp n 0 0 with
  | inl x =>
    rw [hr] at R hK
    obtain ⟨p1, p2⟩ := R
    rw [lp_end (t := M) (by unfold b_X12_orders_19; rw [if_neg (show ¬ M 64 19 = 0 by rw [p2.1]; omega)]), Option.bind_some]
    unfold f_X12_endText f_X12_endText_j19
    dsimp only
    rw [if_neg (show ¬ M 64 19 = 0 by rw [p2.1]; omega), Option.bind_some]
    refine hK _ ⟨⟨by rw [up_k (by omega), up_s], up_s⟩, by rw [up_k (by omega), up_k (by omega)]; exact p2.1, by rw [up_k (by omega), up_k (by omega)]; exact p2.2⟩ (fr_up (fr_up (fr_tr f06 (fr_lmo p1)) (by unfold frTo; omega)) (by unfold frTo; omega))
  | inr q =>
    rw [hr] at R hK
    obtain ⟨p1, z', p2, p3, p4, p5, p6, p7, p8, p9⟩ := R
    have T := r_otext (X := X) (W := 32) hn hb rfl 12 q.1 q.2.1 z' [q.2.2] M rfl (Nat.le_refl _) (by show 1 ≤ 12; omega) p2 p3 (by rw [p5]; rfl) (fun i c hc => by
      match i, hc with
      | 0, hc => rw [← Option.some.inj hc]; exact p6
      | i + 1, hc => cases hc)
    refine ok_assoc T ?_
    rintro M' ⟨w1, w2⟩
    exact hK M' w2 (fr_tr f06 (fr_tr (fr_lmo p1) (fr_mono w1 fun o k q => by
      rcases q with y | y
      · unfold frRor frRx fr102 at y; unfold frTo; omega
      · unfold frTo; omega)))
end RD
