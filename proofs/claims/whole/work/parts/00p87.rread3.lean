/-! reading: the reference's moves -/
def lwI (k : Nat) : Nat := if k ≤ 4 then 11 + k else if k = 5 then 8 else 10 + k
def owI (k : Nat) : Nat := if k = 0 then 16 else 18 + k
def WTb (N : NN) : Prop := (∀ k, k < 9 → N 79 k = wC (lwI k)) ∧ (∀ k, k < 7 → N 80 k = wC (owI k)) ∧ N 64 18 = -1
def RK (N : NN) (tp : Nat → Int) (n : Nat) (ord : Bool) (t np o : Nat) : Prop := TKm N tp n t ∧ TPm N tp n ∧ N 64 19 = 0 ∧ N 64 20 = (if ord = true then 1 else 0) ∧ N 64 26 = (np : Int) ∧ N 64 30 = (o : Int) ∧ KAk tp n t ∧ np ≤ 50 ∧ WTb N ∧ o ≤ 8
def FSt (N : NN) (tp : Nat → Int) (n f : Nat) : Prop := N 64 19 = 1 ∧ N 64 18 = (tkS tp n f : Int) ∧ ∃ t z p, t ≤ 400 ∧ PW N t z p
def frRx (o k : Nat) : Prop := o = 75 ∨ o = 76 ∨ o = 77 ∨ o = 78 ∨ (o = 64 ∧ ((14 ≤ k ∧ k ≤ 19) ∨ k = 23 ∨ k = 26 ∨ k = 29 ∨ k = 30))
def frPi (o k : Nat) : Prop := o = 75 ∨ o = 76 ∨ o = 77 ∨ o = 78 ∨ (o = 64 ∧ (k = 23 ∨ k = 29))
def pshN (N : NN) (p : Nat) (a b : Int) : NN := m_up (m_up (m_up N 77 p a) 78 p b) 64 29 ((p : Int) + 1)
def emN (N : NN) (z : Nat) (a b : Int) : NN := m_up (m_up (m_up N 75 z a) 76 z b) 64 23 ((z : Int) + 1)
def frRv (o k : Nat) : Prop := o = 75 ∨ o = 76 ∨ o = 77 ∨ o = 78 ∨ (o = 64 ∧ ((14 ≤ k ∧ k ≤ 17) ∨ k = 23 ∨ k = 26 ∨ k = 29 ∨ k = 30))
section RM
variable {X : MX} {N : NN} {tp : Nat → Int} {n : Nat} {ord : Bool} {W : Int}
theorem fr_sp {M : NN} (h : Fr frSe N M) : Fr frPi N M := fr_mono h fun o k q => by unfold frSe at q; unfold frPi; omega
theorem fr_px {M : NN} (h : Fr frPi N M) : Fr frRx N M := fr_mono h fun o k q => by unfold frPi at q; unfold frRx; omega
theorem fr_nx {M : NN} (h : Fr frNx N M) : Fr frRx N M := fr_mono h fun o k q => by unfold frNx at q; unfold frRx; omega
theorem ag_nx {M : NN} (h : Fr frNx N M) : Ag N M := ag_fr h fun o k q => by unfold frNx at q; omega
theorem fr_pw {M : NN} (h : Fr frPi N M) : Fr frRv N M := fr_mono h fun o k q => by unfold frPi at q; unfold frRv; omega
theorem fr_nw {M : NN} (h : Fr frNx N M) : Fr frRv N M := fr_mono h fun o k q => by unfold frNx at q; unfold frRv; omega
theorem wtb_fr {M : NN} (h : WTb N) (hf : Fr frRv N M) : WTb M := ⟨fun k hk => by rw [hf 79 k (by unfold frRv; omega)]; exact h.1 k hk, fun k hk => by rw [hf 80 k (by unfold frRv; omega)]; exact h.2.1 k hk, by rw [hf 64 18 (by unfold frRv; omega)]; exact h.2.2⟩
theorem rk_pi {M : NN} {t np o : Nat} (h : RK N tp n ord t np o) (hf : Fr frPi N M) : RK M tp n ord t np o := by
  obtain ⟨h1, h2, h3, h4, h5, h6, h7, h8, h9, h10⟩ := h
  have e : ∀ k, k ≠ 23 → k ≠ 29 → M 64 k = N 64 k := fun k a b => hf 64 k (by unfold frPi; omega)
  refine ⟨?_, ⟨by rw [e 13 (by omega) (by omega)]; exact h2.1, fun j hj => by rw [hf 73 j (by unfold frPi; omega)]; exact h2.2 j hj⟩, ?_, ?_, ?_, ?_, h7, h8, wtb_fr h9 (fr_pw hf), h10⟩
  · unfold TKm LXm at h1 ⊢
    rw [e 14 (by omega) (by omega), e 15 (by omega) (by omega), e 16 (by omega) (by omega), e 17 (by omega) (by omega)]; exact h1
  · rw [e 19 (by omega) (by omega)]; exact h3
  · rw [e 20 (by omega) (by omega)]; exact h4
  · rw [e 26 (by omega) (by omega)]; exact h5
  · rw [e 30 (by omega) (by omega)]; exact h6
theorem r_next {t np o : Nat} (hn : n ≤ 400) (hb : ∀ j, j < n → 0 ≤ tp j ∧ tp j ≤ 255) (h : RK N tp n ord t np o) (hk : tkK tp n t ≠ -1) : Ok (f_X12_next X N) (fun M => RK M tp n ord (t + 1) np o ∧ Fr frNx N M) := by
  obtain ⟨h1, h2, h3, h4, h5, h6, h7, h8, h9, h10⟩ := h
  refine ok_mono (ref_next hn h2 h1) ?_
  rintro M ⟨q1, _, q3⟩
  have lt : tkS tp n t < n := Classical.byContradiction fun c => hk ((tk_end hb t).2 c)
  have e : ∀ k, 18 ≤ k → M 64 k = N 64 k := fun k a => q3 64 k (by unfold frNx; omega)
  exact ⟨⟨q1, tpm_fr h2 q3, by rw [e 19 (by omega)]; exact h3, by rw [e 20 (by omega)]; exact h4, by rw [e 26 (by omega)]; exact h5, by rw [e 30 (by omega)]; exact h6, Or.inr (by rw [Nat.add_sub_cancel]; exact lt), h8, wtb_fr h9 (fr_nw q3), h10⟩, q3⟩
theorem r_must1 {t np o : Nat} {v : Int} (hn : n ≤ 400) (hb : ∀ j, j < n → 0 ≤ tp j ∧ tp j ≤ 255) (h : RK N tp n ord t np o) (hk : tkK tp n t ≠ -1) (hv : v ≠ 0) : Ok (f_X12_must X N v) (fun M => RK M tp n ord (t + 1) np o ∧ Fr frNx N M) := by
  unfold f_X12_must f_X12_must_j24
  rw [if_pos h.2.2.1, if_neg hv, if_pos h.2.2.1]
  refine ok_bind (r_next hn hb h hk) ?_
  rintro M q
  exact ok_ret q
theorem r_must0 {t np o : Nat} (h : RK N tp n ord t np o) : f_X12_must X N 0 = some (m_up (m_up N 64 19 1) 64 18 (tkS tp n t : Int)) := by
  unfold f_X12_must f_X12_must_j24
  have e : m_up N 64 19 1 64 14 = (tkS tp n t : Int) := by rw [up_k (by omega)]; exact h.1.1
  rw [if_pos h.2.2.1, if_pos rfl]
  dsimp only
  rw [e, if_neg (show ¬ m_up (m_up N 64 19 1) 64 18 (tkS tp n t : Int) 64 19 = 0 by rw [up_k (by omega), up_s]; omega)]
theorem r_faultS {t np o z p : Nat} (hn : n ≤ 400) (h : RK N tp n ord t np o) (w : PW N t z p) : FSt (m_up (m_up N 64 19 1) 64 18 (tkS tp n t : Int)) tp n t ∧ Fr frRx N (m_up (m_up N 64 19 1) 64 18 (tkS tp n t : Int)) := by
  have f : Fr (fun o k => o = 64 ∧ (k = 18 ∨ k = 19)) N (m_up (m_up N 64 19 1) 64 18 (tkS tp n t : Int)) := fr_up (fr_up fr_rfl (by omega)) (by omega)
  exact ⟨⟨by rw [up_k (by omega), up_s], up_s, t, z, p, kak_le hn h.2.2.2.2.2.2.1, pw_ag w (ag_fr f fun o k q => by omega)⟩, fr_mono f fun o k q => by unfold frRx; omega⟩
theorem push_eq {p : Nat} {a b : Int} (h : N 64 29 = (p : Int)) (hp : p < 400) : f_X12_push X N a b = some (pshN N p a b) := by
  unfold f_X12_push pshN
  have e1 : m_up N 77 p a 64 29 = (p : Int) := by rw [up_o (by omega)]; exact h
  have e2 : m_up (m_up N 77 p a) 78 p b 64 29 = (p : Int) := by rw [up_o (by omega)]; exact e1
  rw [h, if_pos (by omega), Int.toNat_natCast]
  dsimp only
  rw [e1, if_pos (by omega), Int.toNat_natCast, e2, w_id (by omega) (by omega)]
theorem emit_eq {z : Nat} {a b : Int} (h : N 64 23 = (z : Int)) (hz : z < 400) : f_X12_emit X N a b = some (emN N z a b) := by
  unfold f_X12_emit emN
  have e1 : m_up N 75 z a 64 23 = (z : Int) := by rw [up_o (by omega)]; exact h
  have e2 : m_up (m_up N 75 z a) 76 z b 64 23 = (z : Int) := by rw [up_o (by omega)]; exact e1
  rw [h, if_pos (by omega), Int.toNat_natCast]
  dsimp only
  rw [e1, if_pos (by omega), Int.toNat_natCast, e2, w_id (by omega) (by omega)]
theorem psh_f {p : Nat} {a b : Int} : Fr (fun o k => (o = 77 ∧ k = p) ∨ (o = 78 ∧ k = p) ∨ (o = 64 ∧ k = 29)) N (pshN N p a b) := fr_up (fr_up (fr_up fr_rfl (by omega)) (by omega)) (by omega)
theorem em_f {z : Nat} {a b : Int} : Fr (fun o k => (o = 75 ∧ k = z) ∨ (o = 76 ∧ k = z) ∨ (o = 64 ∧ k = 23)) N (emN N z a b) := fr_up (fr_up (fr_up fr_rfl (by omega)) (by omega)) (by omega)
theorem psh_v {p : Nat} {a b : Int} : pshN N p a b 77 p = a ∧ pshN N p a b 78 p = b ∧ pshN N p a b 64 29 = (p : Int) + 1 := ⟨by unfold pshN; rw [up_o (by omega), up_o (by omega), up_s], by unfold pshN; rw [up_o (by omega), up_s], by unfold pshN; rw [up_s]⟩
theorem em_v {z : Nat} {a b : Int} : emN N z a b 75 z = a ∧ emN N z a b 76 z = b ∧ emN N z a b 64 23 = (z : Int) + 1 := ⟨by unfold emN; rw [up_o (by omega), up_o (by omega), up_s], by unfold emN; rw [up_o (by omega), up_s], by unfold emN; rw [up_s]⟩
theorem pw_psh {t z p : Nat} {a b : Int} (h : PW N t z p) (ha : 20 ≤ a ∧ a ≤ 32) (hb : 0 ≤ b ∧ b < 400) : PW (pshN N p a b) (t + 1) z (p + 1) := by
  obtain ⟨h1, h2, h3, h4, h5, h6⟩ := h
  have f := psh_f (N := N) (p := p) (a := a) (b := b)
  have v := psh_v (N := N) (p := p) (a := a) (b := b)
  refine ⟨by rw [f 64 23 (by omega)]; exact h1, by rw [v.2.2]; omega, ?_, by omega, fun k hk => ?_, fun k hk => by rw [f 75 k (by omega)]; exact h6 k hk⟩
  · rw [naP, na_c (g := N 77) p fun k hk => f 77 k (by omega)]
    split <;> omega
  · by_cases c : k = p
    · rw [c, v.1, v.2.1]; exact ⟨hb, ha⟩
    · rw [f 77 k (by omega), f 78 k (by omega)]; exact h5 k (by omega)
theorem pw_em {t z p : Nat} {a b : Int} (h : PW N t z p) (ha : 0 ≤ a ∧ a ≤ 30) : PW (emN N z a b) (t + 1) (z + 1) p := by
  obtain ⟨h1, h2, h3, h4, h5, h6⟩ := h
  have f := em_f (N := N) (z := z) (a := a) (b := b)
  have v := em_v (N := N) (z := z) (a := a) (b := b)
  refine ⟨by rw [v.2.2]; omega, by rw [f 64 29 (by omega)]; exact h2, ?_, by omega, fun k hk => by rw [f 77 k (by omega), f 78 k (by omega)]; exact h5 k hk, fun k hk => ?_⟩
  · rw [na_c (g := N 77) p fun k hk => f 77 k (by omega)]; omega
  · by_cases c : k = z
    · rw [c, v.1]; exact ha
    · rw [f 75 k (by omega)]; exact h6 k (by omega)
theorem pw_pj {t z p : Nat} {a c : Int} (h : PW N t z p) (ha : a = 29 ∨ a = 30) (hz : z < 400) : PW (emN (pshN N p a (z : Int)) z a c) (t + 1) (z + 1) (p + 1) := by
  obtain ⟨h1, h2, h3, h4, h5, h6⟩ := h
  have f := em_f (N := pshN N p a (z : Int)) (z := z) (a := a) (b := c)
  have v := em_v (N := pshN N p a (z : Int)) (z := z) (a := a) (b := c)
  have f' := psh_f (N := N) (p := p) (a := a) (b := (z : Int))
  have v' := psh_v (N := N) (p := p) (a := a) (b := (z : Int))
  refine ⟨by rw [v.2.2]; omega, by rw [f 64 29 (by omega), v'.2.2]; omega, ?_, by omega, fun k hk => ?_, fun k hk => ?_⟩
  · rw [naP, f 77 p (by omega), v'.1, if_pos ha, na_c (g := N 77) p fun k hk => by rw [f 77 k (by omega), f' 77 k (by omega)]]; omega
  · rw [f 77 k (by omega), f 78 k (by omega)]
    by_cases d : k = p
    · rw [d, v'.1, v'.2.1]; omega
    · rw [f' 77 k (by omega), f' 78 k (by omega)]; exact h5 k (by omega)
  · by_cases d : k = z
    · rw [d, v.1]; omega
    · rw [f 75 k (by omega), f' 75 k (by omega)]; exact h6 k (by omega)
end RM
