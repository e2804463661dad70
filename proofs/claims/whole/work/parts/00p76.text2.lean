/-! texts: the class's value() is that small machine -/
def SKr (N : NN) (s : Nat) : List Int → Prop
  | [] => True
  | y :: t => N s t.length = y ∧ SKr N s t
theorem skr_up {N : NN} {s k : Nat} {x : Int} : ∀ st : List Int, st.length ≤ k → SKr N s st → SKr (m_up N s k x) s st
  | [], _, _ => trivial
  | y :: t, h, q => by
    rw [List.length_cons] at h
    exact ⟨by rw [up_k (by omega)]; exact q.1, skr_up t (by omega) q.2⟩
theorem mul_big {x y : Int} (hx : -1000000000 ≤ x ∧ x ≤ 1000000000) (hy : -1000000000 ≤ y ∧ y ≤ 1000000000) : -1000000000000000000 ≤ x * y ∧ x * y ≤ 1000000000000000000 := by
  have h : (x * y).natAbs ≤ 1000000000 * 1000000000 := by
    rw [Int.natAbs_mul]
    exact Nat.mul_le_mul (by omega) (by omega)
  omega
def frSt (s o k : Nat) : Prop := o = s
section VC
variable {X : MX} {A R : Nat → Int} {e : Env} {t w s : Nat} {W : Int}
theorem c_bnop {M : NN} {top at1 j a x y : Int} {rst : List Int} (hs : xK X s = (1, 32)) (ht : top = (rst.length : Int) + 2) (htop : top ≤ 32) (hx : -1000000000 ≤ x ∧ x ≤ 1000000000) (hy : -1000000000 ≤ y ∧ y ≤ 1000000000) (ha : 2 ≤ a ∧ a ≤ 9) (hz : ¬ ((a = 5 ∨ a = 6) ∧ y = 0)) :
    f_X8_value_l32_j285 X t w s M top at1 j a y x = (if -1000000000 ≤ bnV a x y ∧ bnV a x y ≤ 1000000000 then some (.inl (m_up M s rst.length (bnV a x y), (rst.length : Int) + 1, at1, j)) else some (.inr (.inr (.inr (.inr (.inr M)))))) := by
  have e32 : (((xK X s).2 : Nat) : Int) = 32 := by rw [hs]; rfl
  have J : ∀ v, f_X8_value_l32_j429 X t w s M top at1 j v = (if -1000000000 ≤ v ∧ v ≤ 1000000000 then some (.inl (m_up M s rst.length v, (rst.length : Int) + 1, at1, j)) else some (.inr (.inr (.inr (.inr (.inr M)))))) := by
    intro v
    unfold f_X8_value_l32_j429
    by_cases c : -1000000000 ≤ v ∧ v ≤ 1000000000
    · rw [if_pos c, if_neg (fun z => by have := lcmp_gt.1 z; omega), if_neg (fun z => by have := lcmp_lt.1 z; omega), w_id (x := top + -1) (by omega) (by omega), w_id (x := top + -1 - 1) (by omega) (by omega), e32, if_pos (by omega), w_id (x := v) (by omega) (by omega), show (top + -1 - 1).toNat = rst.length by omega, show top + -1 = (rst.length : Int) + 1 by omega]
    · rw [if_neg c]
      by_cases d : 1000000000 < v
      · rw [if_pos (lcmp_gt.2 d)]
      · rw [if_neg (fun z => d (lcmp_gt.1 z)), if_pos (lcmp_lt.2 (by omega))]
  have mb := mul_big hx hy
  unfold f_X8_value_l32_j285 f_X8_value_l32_j391 f_X8_value_l32_j409 f_X8_value_l32_j427 bnV
  by_cases a2 : a = 2
  · rw [if_pos a2, if_pos a2, wl_id (by omega) (by omega), J]
  rw [if_neg a2, if_neg a2]
  by_cases a3 : a = 3
  · rw [if_pos a3, if_pos a3, wl_id (by omega) (by omega), J]
  rw [if_neg a3, if_neg a3]
  by_cases a4 : a = 4
  · rw [if_pos a4, if_pos a4, wl_id (by omega) (by omega), J]
  rw [if_neg a4, if_neg a4]
  by_cases a5 : a = 5
  · rw [if_pos a5, if_pos a5, if_pos (fun z => hz ⟨Or.inl a5, z⟩), J]
  rw [if_neg a5, if_neg a5]
  by_cases a6 : a = 6
  · rw [if_pos a6, if_pos a6, if_pos (fun z => hz ⟨Or.inr a6, z⟩), J]
  rw [if_neg a6, if_neg a6]
  by_cases a7 : a = 7
  · rw [if_pos a7, if_pos a7]
    by_cases c : x < y
    · rw [if_pos (lcmp_lt.2 c), if_pos c, J]
    · rw [if_neg (fun z => c (lcmp_lt.1 z)), if_neg c, J]
  rw [if_neg a7, if_neg a7]
  by_cases a8 : a = 8
  · rw [if_pos a8, if_pos a8]
    by_cases c : y < x
    · rw [if_pos (lcmp_gt.2 c), if_pos c, J]
    · rw [if_neg (fun z => c (lcmp_gt.1 z)), if_neg c, J]
  rw [if_neg a8, if_neg a8]
  by_cases c : x = y
  · rw [if_pos (lcmp_eq.2 c), if_pos c, J]
  · rw [if_neg (fun z => c (lcmp_eq.1 z)), if_neg c, J]
theorem c_vloop {sz j : Nat} (hw : ∃ n : Nat, xK X w = (1, n) ∧ W = (n : Int) ∧ n ≤ 32) (hs : xK X s = (1, 32)) (h1 : sz ≤ (xK X (t + 1)).2) (h2 : sz ≤ (xK X (t + 2)).2) (hj : j ≤ sz) (hsz : sz ≤ 400) (d1 : s ≠ t + 1) (d2 : s ≠ t + 2) (d3 : s ≠ w) :
    ∀ (n k : Nat) (st : List Int) (o : Option (List Int)) (M : NN), rch W A R e n j k st = some o → SKr M s st → st.length ≤ 31 → (∀ v, v ∈ st → -1000000000 ≤ v ∧ v ≤ 1000000000) → (∀ i, i < sz → M (t + 1) i = A i ∧ M (t + 2) i = R i) → (∀ i : Nat, (i : Int) < W → M w i = e i) →
    Ok (lp (fun z => b_X8_value_32 X t w s z.1 z.2.1 z.2.2.1 z.2.2.2) (M, (st.length : Int), (k : Int), (j : Int))) (fun out => (∃ M' st1, o = some st1 ∧ out = .inl (M', (st1.length : Int)) ∧ SKr M' s st1 ∧ Fr (frSt s) M M') ∨ (∃ M', o = none ∧ (out = .inr (.inr (.inr (.inl M'))) ∨ out = .inr (.inr (.inr (.inr M')))) ∧ Fr (frSt s) M M')) := by
  obtain ⟨wn, hwn, hWn, hw32⟩ := hw
  have e32 : (((xK X s).2 : Nat) : Int) = 32 := by rw [hs]; rfl
  have ew : (((xK X w).2 : Nat) : Int) = W := by rw [hwn, hWn]
  intro n
  induction n with
  | zero => intro k st o M h; cases h
  | succ n ih =>
    intro k st o M h hK hl hv hA hE
    rw [rch] at h
    by_cases c : k = j
    · rw [if_pos c] at h
      cases h
      rw [lp_end (t := .inl (M, (st.length : Int))) (by dsimp only; unfold b_X8_value_32; rw [if_neg (by omega)])]
      exact ok_ret (Or.inl ⟨M, st, rfl, rfl, hK, fr_rfl⟩)
    rw [if_neg c] at h
    by_cases c2 : j < k
    · rw [if_pos c2] at h; cases h
    rw [if_neg c2] at h
    have hAk := hA k (by omega)
    have go : ∀ (s1 : Nat × List Int) (M' : NN), stp W A R e k st = some (some s1) → b_X8_value_32 X t w s M (st.length : Int) (k : Int) (j : Int) = some (.inl (M', (s1.2.length : Int), (s1.1 : Int), (j : Int))) → Fr (frSt s) M M' → SKr M' s s1.2 → s1.2.length ≤ 31 → (∀ v, v ∈ s1.2 → -1000000000 ≤ v ∧ v ≤ 1000000000) → Ok (lp (fun z => b_X8_value_32 X t w s z.1 z.2.1 z.2.2.1 z.2.2.2) (M, (st.length : Int), (k : Int), (j : Int))) (fun out => (∃ M' st1, o = some st1 ∧ out = .inl (M', (st1.length : Int)) ∧ SKr M' s st1 ∧ Fr (frSt s) M M') ∨ (∃ M', o = none ∧ (out = .inr (.inr (.inr (.inl M'))) ∨ out = .inr (.inr (.inr (.inr M')))) ∧ Fr (frSt s) M M')) := by
      intro s1 M' hs1 hb hf hK' hl' hv'
      rw [hs1] at h
      rw [lp_next (s' := (M', (s1.2.length : Int), (s1.1 : Int), (j : Int))) hb]
      refine ok_mono (ih s1.1 s1.2 o M' h hK' hl' hv' (fun i hi => by rw [hf (t + 1) i (fun z => d1 (Eq.symm z)), hf (t + 2) i (fun z => d2 (Eq.symm z))]; exact hA i hi) (fun i hi => by rw [hf w i (fun z => d3 (Eq.symm z))]; exact hE i hi)) ?_
      rintro out (⟨M2, st1, q1, q2, q3, q4⟩ | ⟨M2, q1, q2, q3⟩)
      · exact Or.inl ⟨M2, st1, q1, q2, q3, fr_tr hf q4⟩
      · exact Or.inr ⟨M2, q1, q2, fr_tr hf q3⟩
    have brk : ∀ out : (NN × Int) ⊕ (NN ⊕ (NN ⊕ (NN ⊕ NN))), stp W A R e k st = some none → (out = .inr (.inr (.inr (.inl M))) ∨ out = .inr (.inr (.inr (.inr M)))) → b_X8_value_32 X t w s M (st.length : Int) (k : Int) (j : Int) = some (.inr out) → Ok (lp (fun z => b_X8_value_32 X t w s z.1 z.2.1 z.2.2.1 z.2.2.2) (M, (st.length : Int), (k : Int), (j : Int))) (fun out => (∃ M' st1, o = some st1 ∧ out = .inl (M', (st1.length : Int)) ∧ SKr M' s st1 ∧ Fr (frSt s) M M') ∨ (∃ M', o = none ∧ (out = .inr (.inr (.inr (.inl M'))) ∨ out = .inr (.inr (.inr (.inr M')))) ∧ Fr (frSt s) M M')) := by
      intro out hs1 ho hb
      rw [hs1] at h
      rw [lp_end hb]
      refine ok_ret (Or.inr ⟨M, ?_, ho, fr_rfl⟩)
      cases h; rfl
    have B0 : ∀ x, (if (k : Int) < (j : Int) then (if 0 ≤ (k : Int) ∧ (k : Int) < (((xK X (t + 1)).2 : Nat) : Int) then (if 0 ≤ (k : Int) ∧ (k : Int) < (((xK X (t + 2)).2 : Nat) : Int) then (if A k = 0 then f_X8_value_l32_j71 X t w s M (st.length : Int) ((k : Int) + 1) (j : Int) (A k) (R k) else if A k = 1 then f_X8_value_l32_j71 X t w s M (st.length : Int) ((k : Int) + 1) (j : Int) (A k) (R k) else if 9 < A k then f_X8_value_l32_j140 X t w s M (st.length : Int) ((k : Int) + 1) (j : Int) (A k) (R k) (st.length : Int) 1 else f_X8_value_l32_j140 X t w s M (st.length : Int) ((k : Int) + 1) (j : Int) (A k) (R k) (st.length : Int) 2) else none) else none) else some (.inr (.inl (M, (st.length : Int))))) = x → b_X8_value_32 X t w s M (st.length : Int) (k : Int) (j : Int) = x := by
      intro x hx
      unfold b_X8_value_32
      rw [Int.toNat_natCast, hAk.1, hAk.2, w_id (x := (k : Int) + 1) (by omega) (by omega)]
      exact hx
    have psh : ∀ v : Int, st.length ≤ 30 → -1000000000 ≤ v ∧ v ≤ 1000000000 → stp W A R e k st = some (some (k + 1, v :: st)) → b_X8_value_32 X t w s M (st.length : Int) (k : Int) (j : Int) = f_X8_value_l32_j119 X t w s M (st.length : Int) ((k : Int) + 1) (j : Int) (st.length : Int) v → Ok (lp (fun z => b_X8_value_32 X t w s z.1 z.2.1 z.2.2.1 z.2.2.2) (M, (st.length : Int), (k : Int), (j : Int))) (fun out => (∃ M' st1, o = some st1 ∧ out = .inl (M', (st1.length : Int)) ∧ SKr M' s st1 ∧ Fr (frSt s) M M') ∨ (∃ M', o = none ∧ (out = .inr (.inr (.inr (.inl M'))) ∨ out = .inr (.inr (.inr (.inr M')))) ∧ Fr (frSt s) M M')) := by
      intro v q qv hs1 hb
      refine go (k + 1, v :: st) (m_up M s st.length v) hs1 ?_ (fr_up fr_rfl rfl) ⟨up_s, skr_up st (Nat.le_refl _) hK⟩ (by rw [List.length_cons]; omega) (fun x hx => by
        rcases List.mem_cons.1 hx with z | z
        · rw [z]; exact qv
        · exact hv x z)
      rw [hb]
      unfold f_X8_value_l32_j119
      rw [e32, if_pos (by omega), Int.toNat_natCast, w_id (x := (st.length : Int) + 1) (by omega) (by omega)]
      rfl
    have hs : ∃ q, stp W A R e k st = some q := by
      cases z : stp W A R e k st with
      | none => rw [z] at h; cases h
      | some q => exact ⟨q, rfl⟩
    obtain ⟨q, hq⟩ := hs
    have hq' := hq
    unfold stp at hq
    by_cases a0 : A k = 0
    · rw [if_pos a0] at hq
      split at hq
      · rename_i z
        refine psh (R k) z.1 z.2 (by rw [hq', ← hq]) (B0 _ ?_)
        rw [if_pos (by omega), if_pos (by omega), if_pos (by omega), if_pos a0, a0]
        unfold f_X8_value_l32_j71 f_X8_value_l32_j100
        rw [e32, if_pos (by omega), if_pos (by omega), if_neg (by omega), if_neg (by omega)]
      · cases hq
    rw [if_neg a0] at hq
    by_cases a1 : A k = 1
    · rw [if_pos a1] at hq
      split at hq
      · rename_i z
        obtain ⟨rn, hrn⟩ := Int.eq_ofNat_of_zero_le z.2.1.1
        have ee : M w rn = e rn := hE rn (by omega)
        rw [hrn, Int.toNat_natCast] at z
        refine psh (e rn) z.1 z.2.2 (by rw [hq', ← hq, hrn, Int.toNat_natCast]) (B0 _ ?_)
        rw [if_pos (by omega), if_pos (by omega), if_pos (by omega), if_neg a0, if_pos a1, a1]
        unfold f_X8_value_l32_j71 f_X8_value_l32_j100
        rw [e32, ew, if_pos (by omega), if_pos (by omega), if_pos rfl, if_neg (by omega), if_pos (by omega), if_pos (by omega), if_pos rfl, if_pos (by omega), hrn, Int.toNat_natCast, ee]
      · cases hq
    rw [if_neg a1] at hq
    by_cases a2 : 2 ≤ A k ∧ A k ≤ 9
    · rw [if_pos a2] at hq
      cases st with
      | nil => cases hq
      | cons y st1 =>
        cases st1 with
        | nil => cases hq
        | cons x rst =>
          dsimp only at hq
          have k1 : M s (rst.length + 1) = y := hK.1
          have k2 : M s rst.length = x := hK.2.1
          have hx := hv x (List.mem_cons_of_mem _ List.mem_cons_self)
          have hy := hv y List.mem_cons_self
          rw [List.length_cons, List.length_cons] at hl
          have el : (((y :: x :: rst).length : Nat) : Int) = (rst.length : Int) + 2 := by rw [List.length_cons, List.length_cons]; omega
          have Bk : b_X8_value_32 X t w s M (((y :: x :: rst).length : Nat) : Int) (k : Int) (j : Int) = if (A k = 5 ∨ A k = 6) ∧ y = 0 then some (.inr (.inr (.inr (.inr (.inl M))))) else f_X8_value_l32_j285 X t w s M ((rst.length : Int) + 2) ((k : Int) + 1) (j : Int) (A k) y x := by
            refine B0 _ ?_
            rw [if_pos (by omega), if_pos (by omega), if_pos (by omega), if_neg a0, if_neg a1, if_neg (by omega), el]
            unfold f_X8_value_l32_j140
            rw [if_neg (by omega), if_neg (by omega), if_neg (by omega), if_neg (by omega), w_id (x := (rst.length : Int) + 2 - 1) (by omega) (by omega), w_id (x := (rst.length : Int) + 2 - 2) (by omega) (by omega), e32, if_pos (by omega), if_pos (by omega), show ((rst.length : Int) + 2 - 1).toNat = rst.length + 1 by omega, show ((rst.length : Int) + 2 - 2).toNat = rst.length by omega, k1, k2]
            by_cases y0 : y = 0
            · rw [if_pos (lcmp_eq.2 y0)]
              by_cases a5 : A k = 5
              · rw [if_pos a5, if_pos ⟨Or.inl a5, y0⟩]
              · rw [if_neg a5]
                by_cases a6 : A k = 6
                · rw [if_pos a6, if_pos ⟨Or.inr a6, y0⟩]
                · rw [if_neg a6, if_neg (fun z => by omega)]
            · rw [if_neg (fun z => y0 (lcmp_eq.1 z)), if_neg (fun z => y0 z.2)]
          by_cases z0 : (A k = 5 ∨ A k = 6) ∧ y = 0
          · rw [if_pos z0] at Bk
            refine brk _ ?_ (Or.inl rfl) Bk
            rw [hq', ← hq]
            unfold bnO
            rw [if_pos z0]; rfl
          rw [if_neg z0, c_bnop hs rfl (by omega) hx hy a2 z0] at Bk
          by_cases rg : -1000000000 ≤ bnV (A k) x y ∧ bnV (A k) x y ≤ 1000000000
          · rw [if_pos rg] at Bk
            have e1 : bnO (A k) x y = some (bnV (A k) x y) := by unfold bnO; rw [if_neg z0, if_pos rg]
            rw [e1] at hq
            refine go (k + 1, bnV (A k) x y :: rst) _ (by rw [hq', ← hq]; rfl) ?_ (fr_up fr_rfl rfl) ⟨up_s, skr_up rst (Nat.le_refl _) hK.2.2⟩ (by rw [List.length_cons]; omega) (fun v hv' => by
              rcases List.mem_cons.1 hv' with q | q
              · rw [q]; exact rg
              · exact hv v (List.mem_cons_of_mem _ (List.mem_cons_of_mem _ q)))
            rw [Bk]; rfl
          · rw [if_neg rg] at Bk
            refine brk _ ?_ (Or.inr rfl) Bk
            rw [hq', ← hq]
            unfold bnO
            rw [if_neg z0, if_neg rg]; rfl
    rw [if_neg a2] at hq
    by_cases a10 : A k = 10
    · rw [if_pos a10] at hq
      cases st with
      | nil => cases hq
      | cons x rst =>
        dsimp only at hq
        have k1 : M s rst.length = x := hK.1
        split at hq
        · rename_i z
          refine go (k + 1, (1 - x) :: rst) (m_up M s rst.length (1 - x)) (by rw [hq', ← hq]) (B0 _ ?_) (fr_up fr_rfl rfl) ⟨up_s, skr_up rst (Nat.le_refl _) hK.2⟩ (by rw [List.length_cons] at hl ⊢; exact hl) (fun v hv' => by
            rcases List.mem_cons.1 hv' with q | q
            · omega
            · exact hv v (List.mem_cons_of_mem _ q))
          rw [List.length_cons] at hl
          rw [if_pos (by omega), if_pos (by omega), if_pos (by omega), if_neg a0, if_neg a1, if_pos (by omega), List.length_cons, List.length_cons]
          unfold f_X8_value_l32_j140
          rw [if_neg (by omega), if_pos a10, w_id (x := ((rst.length + 1 : Nat) : Int) - 1) (by omega) (by omega), e32, if_pos (by omega), if_pos (by omega), show (((rst.length + 1 : Nat) : Int) - 1).toNat = rst.length by omega, k1, w_id (x := 1 - x) (by omega) (by omega)]
          rfl
        · cases hq
    rw [if_neg a10] at hq
    by_cases a11 : A k = 11 ∨ A k = 12
    case neg => rw [if_neg a11] at hq; cases hq
    rw [if_pos a11] at hq
    cases st with
    | nil => cases hq
    | cons x rst =>
      dsimp only at hq
      have k1 : M s rst.length = x := hK.1
      rw [List.length_cons] at hl
      split at hq
      · rename_i z
        have Bk : b_X8_value_32 X t w s M (((x :: rst).length : Nat) : Int) (k : Int) (j : Int) = if x = (if A k = 12 then 1 else 0) then some (.inl (M, (rst.length : Int) + 1, R k, (j : Int))) else some (.inl (M, (rst.length : Int), (k : Int) + 1, (j : Int))) := by
          have F186 : f_X8_value_l32_j186 X t w s M ((rst.length : Int) + 1) ((k : Int) + 1) (j : Int) (A k) (R k) = if x = (if A k = 12 then 1 else 0) then some (.inl (M, (rst.length : Int) + 1, R k, (j : Int))) else some (.inl (M, (rst.length : Int), (k : Int) + 1, (j : Int))) := by
            unfold f_X8_value_l32_j186 f_X8_value_l32_j202 f_X8_value_l32_j214 f_X8_value_l32_j231
            have jj : (if (k : Int) + 1 < R k then (some (.inl (M, (rst.length : Int) + 1, R k, (j : Int))) : Option ((NN × Int × Int × Int) ⊕ ((NN × Int) ⊕ (NN ⊕ (NN ⊕ (NN ⊕ NN)))))) else some (.inl (M, (rst.length : Int) + 1, (k : Int) + 1, (j : Int)))) = some (.inl (M, (rst.length : Int) + 1, R k, (j : Int))) := by
              by_cases c : (k : Int) + 1 < R k
              · rw [if_pos c]
              · rw [if_neg c, show (k : Int) + 1 = R k by omega]
            rw [w_id (x := (rst.length : Int) + 1 - 1) (by omega) (by omega), e32, if_pos (by omega), show ((rst.length : Int) + 1 - 1).toNat = rst.length by omega, k1, jj, w_id (x := (rst.length : Int) + 1 + -1) (by omega) (by omega), show (rst.length : Int) + 1 + -1 = (rst.length : Int) by omega]
            rcases z.1 with x0 | x1
            · rw [if_neg (show ¬ x = 1 by omega)]
              by_cases b : A k = 12
              · rw [if_pos b, if_pos b, if_neg (by omega), if_neg (by omega)]
              · rw [if_neg b, if_neg b, if_pos rfl, if_pos x0]
            · rw [if_pos x1]
              by_cases b : A k = 12
              · rw [if_pos b, if_pos b, if_pos rfl, if_pos x1]
              · rw [if_neg b, if_neg b, if_neg (by omega), if_neg (by omega)]
          refine B0 _ ?_
          rw [if_pos (by omega), if_pos (by omega), if_pos (by omega), if_neg a0, if_neg a1, if_pos (by omega), List.length_cons]
          unfold f_X8_value_l32_j140
          rw [if_neg (by omega), if_neg a10, show ((rst.length + 1 : Nat) : Int) = (rst.length : Int) + 1 by omega]
          by_cases b : A k = 11
          · rw [if_pos b, F186]
          · rw [if_neg b, if_pos (by omega), F186]
        by_cases b : x = (if A k = 12 then 1 else 0)
        · rw [if_pos b] at hq Bk
          refine go ((R k).toNat, x :: rst) M (by rw [hq', ← hq]) ?_ fr_rfl hK (by rw [List.length_cons]; exact hl) hv
          rw [Bk, List.length_cons]
          show some (Sum.inl (M, (rst.length : Int) + 1, R k, (j : Int))) = some (Sum.inl (M, ((rst.length + 1 : Nat) : Int), (((R k).toNat : Nat) : Int), (j : Int)))
          rw [show ((rst.length + 1 : Nat) : Int) = (rst.length : Int) + 1 by omega, show (((R k).toNat : Nat) : Int) = R k by omega]
        · rw [if_neg b] at hq Bk
          refine go (k + 1, rst) M (by rw [hq', ← hq]) (by rw [Bk]; rfl) fr_rfl hK.2 (by dsimp only; omega) (fun v hv' => hv v (List.mem_cons_of_mem _ hv'))
      · cases hq
/-- value() of a piece tells what the piece tells -/
theorem c_value {sz i j d : Nat} {D : Den} {N : NN} (hw : ∃ n : Nat, xK X w = (1, n) ∧ W = (n : Int) ∧ n ≤ 32) (hs : xK X s = (1, 32)) (h1 : sz ≤ (xK X (t + 1)).2) (h2 : sz ≤ (xK X (t + 2)).2) (hj : j ≤ sz) (hsz : sz ≤ 400) (d1 : s ≠ t + 1) (d2 : s ≠ t + 2) (d3 : s ≠ w) (hN : N t 3 = (sz : Int)) (hA : ∀ i, i < sz → N (t + 1) i = A i ∧ N (t + 2) i = R i) (hE : ∀ i : Nat, (i : Int) < W → N w i = e i) (hd : d ≤ 31) (hS : Seg W A R i j d D) (he : EnvOK e) :
    Ok (f_X8_value X t w s N (i : Int) (j : Int)) (fun o => o.1 = (D e).getD (-2000000000) ∧ Fr (frSt s) N o.2) := by
  obtain ⟨n, hn⟩ := hS.2 e he [] (by rw [List.length_nil]; omega)
  have e32 : (((xK X s).2 : Nat) : Int) = 32 := by rw [hs]; rfl
  unfold f_X8_value f_X8_value_j12
  rw [if_neg (by omega), hN, if_neg (by omega)]
  unfold f_X8_value_j30 f_X8_value_j481
  refine ok_bind (c_vloop hw hs h1 h2 hj hsz d1 d2 d3 n i [] _ N hn trivial (by rw [List.length_nil]; omega) (fun v hv => by cases hv) hA hE) ?_
  rintro out (⟨M', st1, q1, rfl, q3, q4⟩ | ⟨M', q1, q2, q3⟩)
  · cases v1 : D e with
    | none => rw [v1] at q1; cases q1
    | some v =>
      rw [v1] at q1
      cases q1
      dsimp only
      rw [if_pos (by rfl), e32, if_pos (by omega)]
      exact ok_ret ⟨q3.1, q4⟩
  · cases v1 : D e with
    | some v => rw [v1] at q1; cases q1
    | none =>
      rcases q2 with rfl | rfl
      · exact ok_ret ⟨rfl, q3⟩
      · exact ok_ret ⟨rfl, q3⟩
end VC
