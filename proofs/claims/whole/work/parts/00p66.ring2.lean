/-! ring: the class -/
def rgD (r : Nat → Int) : Nat → Nat → Prop := fun a f => rd r a f ≠ -1
noncomputable def ctV (a0 : Int) : Option Int := f_J6_numberOfTrailingZeros_0f7a4 default (fun _ _ => 0) a0
theorem ct_tab : ∀ S : Fin 63, ∃ p : Fin 6, ctV ((S.val + 1 : Nat) : Int) = some (p.val : Int) ∧ bit ((S.val + 1 : Nat) : Int) (p.val : Int) = 1 ∧ (∀ j : Fin 6, j.val < p.val → bit ((S.val + 1 : Nat) : Int) (j.val : Int) = 0) ∧ m_and ((S.val + 1 : Nat) : Int) (m_w (((S.val + 1 : Nat) : Int) - 1)) = ((S.val + 1 - 2 ^ p.val : Nat) : Int) := by decide +kernel
theorem c_ctz {X : MX} {N : NN} {S : Nat} (h0 : 0 < S) (h1 : S < 64) : ∃ p : Nat, p < 6 ∧ f_J6_numberOfTrailingZeros_0f7a4 X N (S : Int) = some (p : Int) ∧ bit (S : Int) (p : Int) = 1 ∧ (∀ j : Nat, j < p → bit (S : Int) (j : Int) = 0) ∧ m_and (S : Int) (m_w ((S : Int) - 1)) = ((S - 2 ^ p : Nat) : Int) := by
  obtain ⟨p, a, b, c, d⟩ := ct_tab ⟨S - 1, by omega⟩
  have e : S - 1 + 1 = S := by omega
  dsimp only at a b c d
  rw [e] at a b c d
  exact ⟨p.val, p.isLt, a, b, fun j hj => c ⟨j, by have := p.isLt; omega⟩ hj, d⟩
theorem nt_tab : ∀ S : Fin 64, ∀ i : Fin 6, bit (S.val : Int) (i.val : Int) = 1 → m_and (S.val : Int) (m_xor (m_shl 1 (i.val : Int)) (-1)) = ((S.val - 2 ^ i.val : Nat) : Int) := by decide +kernel
theorem on_sub : ∀ S : Fin 64, ∀ i : Fin 6, bit (S.val : Int) (i.val : Int) = 1 → onS ((S.val - 2 ^ i.val : Nat) : Int) 16 = onS (S.val : Int) 16 - 1 := by decide +kernel
theorem on_0 : ∀ S : Fin 64, (onS (S.val : Int) 16 = 0 → S.val = 0) ∧ onS (S.val : Int) 16 ≤ 6 := by decide +kernel
theorem on_n : ∀ n : Fin 7, ∀ S : Fin 64, S.val < 2 ^ n.val → onS (S.val : Int) 16 ≤ (n.val : Int) := by decide +kernel
def frRc (o k : Nat) : Prop := o = 56
section RC
variable {X : MX} {N : NN} {B : Int} {r : Nat → Int} {lw : Nat → Law}
theorem c_closes {n p : Nat} (hn : n ≤ 6) (hr0 : r 0 = (n : Int)) (hp : p < 6) : ∀ (e f h k S : Nat) (P : List Nat) (N : NN), CW X N 4 B r lw → P.length = k + 1 → k + e = 5 → e + 1 ≤ f → P[k]? = some h → P[0]? = some p → PTc N P → S < 64 → onS (S : Int) 16 ≤ (e : Int) → N 53 4 = (n : Int) →
    Ok (f_X9_closes X f N 4 (k : Int) (S : Int) ((k : Int) + 1 + onS (S : Int) 16)) (fun o => ((o.1 = 0 ∧ ∀ T, ¬ FCr (rgD r) n p S h T) ∨ (o.1 = 1 ∧ ∃ T, FCr (rgD r) n p S h T ∧ (∀ T', FCr (rgD r) n p S h T' → lxA T' T = false) ∧ ∀ i v : Nat, (P ++ T)[i]? = some v → o.2 56 i = (v : Int))) ∧ (∀ i, i ≤ k → o.2 56 i = N 56 i) ∧ Fr frRc N o.2) := by
  intro e
  induction e with
  | zero =>
    intro f h k S P N hW hl hk hf hP hP0 hPT hS hon h4
    obtain ⟨f', rfl⟩ : ∃ f', f = f' + 1 := ⟨f - 1, by omega⟩
    have hh := hPT k h hP
    have h0 := hPT 0 p hP0
    have S0 : S = 0 := (on_0 ⟨S, hS⟩).1 (by have := onS_b (S : Int) 16; dsimp only; omega)
    subst S0
    rw [f_X9_closes]
    unfold f_X9_closes_step f_X9_closes_j33
    dsimp only
    rw [gdp (by omega), if_pos (by omega), Int.toNat_natCast, hh.1, h0.1]
    refine ok_bd (c_worthOwed hW.1 (by omega) (by omega) (by omega) (by omega)) ?_
    have base : ∀ T, FCr (rgD r) n p 0 h T ↔ T = [] ∧ rd r h p ≠ -1 := by
      intro T
      cases T with
      | nil => exact ⟨fun z => ⟨rfl, z.2⟩, fun z => ⟨rfl, z.2⟩⟩
      | cons a t =>
        constructor
        · rintro ⟨_, z, _⟩
          rw [bit_n, Nat.zero_div] at z
          cases z
        · rintro ⟨z, _⟩; cases z
    by_cases c : rd r h p = -1
    · rw [if_pos c, if_pos (by omega)]
      exact ok_ret ⟨Or.inl ⟨rfl, fun T z => ((base T).1 z).2 c⟩, fun i _ => rfl, fr_rfl⟩
    · rw [if_neg c, if_pos (by omega)]
      refine ok_ret ⟨Or.inr ⟨rfl, [], (base []).2 ⟨rfl, c⟩, fun T' z => by rw [((base T').1 z).1]; rfl, fun i v q => ?_⟩, fun i _ => rfl, fr_rfl⟩
      rw [List.append_nil] at q
      exact (hPT i v q).1
  | succ e ih =>
    intro f h k S P N hW hl hk hf hP hP0 hPT hS hon h4
    obtain ⟨f', rfl⟩ : ∃ f', f = f' + 1 := ⟨f - 1, by omega⟩
    have hh := hPT k h hP
    have h0 := hPT 0 p hP0
    rw [f_X9_closes]
    unfold f_X9_closes_step f_X9_closes_j33
    dsimp only
    rw [gdp (by omega), Int.toNat_natCast, hh.1]
    by_cases S0 : S = 0
    · subst S0
      rw [if_pos (by omega), h0.1]
      refine ok_bd (c_worthOwed hW.1 (by omega) (by omega) (by omega) (by omega)) ?_
      have base : ∀ T, FCr (rgD r) n p 0 h T ↔ T = [] ∧ rd r h p ≠ -1 := by
        intro T
        cases T with
        | nil => exact ⟨fun z => ⟨rfl, z.2⟩, fun z => ⟨rfl, z.2⟩⟩
        | cons a t =>
          constructor
          · rintro ⟨_, z, _⟩
            rw [bit_n, Nat.zero_div] at z
            cases z
          · rintro ⟨z, _⟩; cases z
      by_cases c : rd r h p = -1
      · rw [if_pos c, if_pos (by omega)]
        exact ok_ret ⟨Or.inl ⟨rfl, fun T z => ((base T).1 z).2 c⟩, fun i _ => rfl, fr_rfl⟩
      · rw [if_neg c, if_pos (by omega)]
        refine ok_ret ⟨Or.inr ⟨rfl, [], (base []).2 ⟨rfl, c⟩, fun T' z => by rw [((base T').1 z).1]; rfl, fun i v q => ?_⟩, fun i _ => rfl, fr_rfl⟩
        rw [List.append_nil] at q
        exact (hPT i v q).1
    rw [if_neg (by omega)]
    have on1 : 1 ≤ onS (S : Int) 16 := by
      have a := onS_b (S : Int) 16
      have b := (on_0 ⟨S, hS⟩).1
      dsimp only at b
      apply Classical.byContradiction
      intro z
      exact S0 (b (by omega))
    have on6 := (on_0 ⟨S, hS⟩).2
    dsimp only at on6
    obtain ⟨sz, hsz⟩ : ∃ sz : Int, sz = (k : Int) + 1 + onS (S : Int) 16 := ⟨_, rfl⟩
    rw [← hsz]
    have H : Ok (lp (fun s => b_X9_closes_37 (f_X9_closes X f') X 4 s.1 s.2.1 s.2.2.1 s.2.2.2.1 s.2.2.2.2.1 s.2.2.2.2.2) (N, (k : Int), (S : Int), sz, (h : Int), 0))
        (fun o => (∃ M, o = .inl M ∧ (∀ T, ¬ FCr (rgD r) n p S h T) ∧ (∀ i, i ≤ k → M 56 i = N 56 i) ∧ Fr frRc N M) ∨ (∃ M, o = .inr M ∧ (∃ T, FCr (rgD r) n p S h T ∧ (∀ T', FCr (rgD r) n p S h T' → lxA T' T = false) ∧ ∀ i v : Nat, (P ++ T)[i]? = some v → M 56 i = (v : Int)) ∧ (∀ i, i ≤ k → M 56 i = N 56 i) ∧ Fr frRc N M)) := by
      refine ok_up (fun i s => ∃ M, s = (M, (k : Int), (S : Int), sz, (h : Int), i) ∧ (∀ (L : Nat) T, (L : Int) < i → ¬ FCr (rgD r) n p S h (L :: T)) ∧ (∀ i, i ≤ k → M 56 i = N 56 i) ∧ Fr frRc N M) (n : Int) (i0 := 0) ?_ ?_ (by omega) ⟨N, rfl, fun L T z => by omega, fun i _ => rfl, fr_rfl⟩
      · rintro i s a0 a1 ⟨M, rfl, hno, hpr, hfr⟩
        obtain ⟨L, rfl⟩ := Int.eq_ofNat_of_zero_le a0
        have hWM : CW X M 4 B r lw := cw_fr hW hfr fun o k q => by unfold frRc at q; omega
        have m4 : M 53 4 = (n : Int) := by rw [hfr 53 4 (by unfold frRc; omega)]; exact h4
        have skip : (∀ T, ¬ FCr (rgD r) n p S h (L :: T)) → Ok (some (.inl (M, (k : Int), (S : Int), sz, (h : Int), (L : Int) + 1)) : Option ((NN × Int × Int × Int × Int × Int) ⊕ (NN ⊕ NN))) (fun o => (∃ M, o = .inl (M, (k : Int), (S : Int), sz, (h : Int), (L : Int) + 1) ∧ (∀ (L' : Nat) T, (L' : Int) < (L : Int) + 1 → ¬ FCr (rgD r) n p S h (L' :: T)) ∧ (∀ i, i ≤ k → M 56 i = N 56 i) ∧ Fr frRc N M) ∨ ∃ M, o = .inr (.inr M) ∧ (∃ T, FCr (rgD r) n p S h T ∧ (∀ T', FCr (rgD r) n p S h T' → lxA T' T = false) ∧ ∀ i v : Nat, (P ++ T)[i]? = some v → M 56 i = (v : Int)) ∧ (∀ i, i ≤ k → M 56 i = N 56 i) ∧ Fr frRc N M) := by
          intro q
          refine ok_ret (Or.inl ⟨M, rfl, fun L' T hlt => ?_, hpr, hfr⟩)
          by_cases c : L' = L
          · rw [c]; exact q T
          · exact hno L' T (by omega)
        have G : Ok (b_X9_closes_37 (f_X9_closes X f') X 4 M (k : Int) (S : Int) sz (h : Int) (L : Int)) (fun o => (∃ M, o = .inl (M, (k : Int), (S : Int), sz, (h : Int), (L : Int) + 1) ∧ (∀ (L' : Nat) T, (L' : Int) < (L : Int) + 1 → ¬ FCr (rgD r) n p S h (L' :: T)) ∧ (∀ i, i ≤ k → M 56 i = N 56 i) ∧ Fr frRc N M) ∨ ∃ M, o = .inr (.inr M) ∧ (∃ T, FCr (rgD r) n p S h T ∧ (∀ T', FCr (rgD r) n p S h T' → lxA T' T = false) ∧ ∀ i v : Nat, (P ++ T)[i]? = some v → M 56 i = (v : Int)) ∧ (∀ i, i ≤ k → M 56 i = N 56 i) ∧ Fr frRc N M) := by
          unfold b_X9_closes_37 f_X9_closes_l37_j109
          rw [m4, if_pos a1, w_id (x := (k : Int) + 1) (by omega) (by omega), if_pos (by omega), bit_id (by omega) (by omega) (by omega) (by omega), w_id (x := (L : Int) + 1) (by omega) (by omega)]
          by_cases cb : bit (S : Int) (L : Int) = 1
          case neg =>
            rw [if_neg cb]
            exact skip fun T z => cb z.2.1
          rw [if_pos cb]
          refine ok_bd (c_worthOwed hWM.1 (by omega) (by omega) (by omega) (by omega)) ?_
          by_cases cd : rd r h L = -1
          · rw [if_pos cd]
            exact skip fun T z => z.2.2.1 cd
          rw [if_neg cd, gdp (by omega), show ((k : Int) + 1).toNat = k + 1 by omega]
          have nt := nt_tab ⟨S, hS⟩ ⟨L, by omega⟩ cb
          have os := on_sub ⟨S, hS⟩ ⟨L, by omega⟩ cb
          dsimp only at nt os
          rw [nt]
          have fu : Fr frRc M (m_up M 56 (k + 1) (L : Int)) := fr_up fr_rfl rfl
          have I := ih f' L (k + 1) (S - 2 ^ L) (P ++ [L]) (m_up M 56 (k + 1) (L : Int)) (cw_fr hWM fu fun o k q => by unfold frRc at q; omega) (by rw [List.length_append, hl]; rfl) (by omega) (by omega)
            (by rw [← hl, List.getElem?_append_right (Nat.le_refl _), Nat.sub_self]; rfl)
            (by rw [List.getElem?_append_left (by omega)]; exact hP0)
            (by
              intro i v hv
              rcases app_g hv with hv' | ⟨hv1, hv2⟩
              · have := get_lt hv'
                rw [up_k (by omega), hpr i (by omega)]
                exact hPT i v hv'
              · subst hv2
                rw [hv1, hl, up_s]
                exact ⟨rfl, by omega⟩)
            (Nat.lt_of_le_of_lt (Nat.sub_le _ _) hS) (by rw [os]; omega) (by rw [up_o (by omega)]; exact m4)
          rw [show ((k + 1 : Nat) : Int) + 1 + onS ((S - 2 ^ L : Nat) : Int) 16 = sz by rw [os, hsz]; omega, show ((k + 1 : Nat) : Int) = (k : Int) + 1 by omega] at I
          refine ok_bind I ?_
          rintro ⟨fl, M7⟩ ⟨h1, h2, h3⟩
          dsimp only at h1 h2 h3 ⊢
          have hpr7 : ∀ i, i ≤ k → M7 56 i = N 56 i := fun i hi => by rw [h2 i (by omega), up_k (by omega)]; exact hpr i hi
          have f7 : Fr frRc N M7 := fr_tr hfr (fr_tr fu h3)
          rcases h1 with ⟨rfl, h1⟩ | ⟨rfl, T, t1, t2, t3⟩
          · rw [i00]
            refine ok_ret (Or.inl ⟨M7, rfl, fun L' T hlt => ?_, hpr7, f7⟩)
            by_cases c : L' = L
            · rw [c]; exact fun z => h1 T z.2.2.2
            · exact hno L' T (by omega)
          · rw [i10]
            refine ok_ret (Or.inr ⟨M7, rfl, ⟨L :: T, ⟨by omega, cb, cd, t1⟩, fun T' z => ?_, fun i v q => t3 i v (by rw [List.append_assoc]; exact q)⟩, hpr7, f7⟩)
            cases T' with
            | nil => exact absurd z.1 S0
            | cons a t =>
              apply Bool.eq_false_iff.mpr
              intro y
              rcases lx_cons.1 y with y | ⟨y, y'⟩
              · exact hno a t (by omega) z
              · subst y
                rw [t2 t z.2.2.2] at y'
                cases y'
        refine ok_mono G ?_
        rintro o (⟨M9, rfl, s1, s2⟩ | ⟨M9, rfl, s1, s2⟩)
        · exact ⟨M9, rfl, s1, s2⟩
        · exact Or.inr ⟨M9, rfl, s1, s2⟩
      · rintro s ⟨M, rfl, hno, hpr, hfr⟩
        have m4 : M 53 4 = (n : Int) := by rw [hfr 53 4 (by unfold frRc; omega)]; exact h4
        dsimp only
        unfold b_X9_closes_37
        rw [m4, if_neg (by omega)]
        refine ok_ret (Or.inl ⟨M, rfl, fun T z => ?_, hpr, hfr⟩)
        cases T with
        | nil => exact S0 z.1
        | cons a t => exact hno a t (by have := z.1; omega) z
    refine ok_bind H ?_
    rintro o (⟨M, rfl, s1, s2, s3⟩ | ⟨M, rfl, s1, s2, s3⟩)
    · exact ok_ret ⟨Or.inl ⟨rfl, s1⟩, s2, s3⟩
    · exact ok_ret ⟨Or.inr ⟨rfl, s1⟩, s2, s3⟩
end RC
