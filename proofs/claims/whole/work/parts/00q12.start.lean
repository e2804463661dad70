/-! the start: what the tables and the Statement give -/
theorem arr_of {args : Array Value} {s : State} {ty : FieldType} (h : (Cond.arrayClass ty).before args s = true) : ∃ cA : ClassId, ArrOfT s cA ty ∧ s.vm.findClass ("[" ++ ty.toString) = some cA := by
  obtain ⟨c, k, comp, h1, h2, h3⟩ := Cond.arrayClass_spec h
  exact ⟨c, fun n z => ⟨fun k h => (by cases h), k, h2, comp, h3⟩, h1⟩
theorem arr_obj {args : Array Value} {s : State} {C : String} (h : (Cond.arrayOver (.object C)).before args s = true) : ∃ cA : ClassId, ArrOfT s cA (.object C) ∧ va_RA s cA (.object C) := by
  obtain ⟨comp, c, k, h1, h2, h3, h4, h5⟩ := Cond.arrayOver_spec h
  exact ⟨c, fun n z => ⟨fun k h => (by cases h), k, h3, comp, h4⟩, k, comp, h3, h4, h1, h5⟩
theorem K_of {args : Array Value} {s : State} (hts : ∀ w ∈ lw_g, w.before args s = true) (hAO : (Cond.arrayOver (.object RX8)).before args s = true) : ∃ (D : va_G) (g : m_g4), va_K D vwCl (m_tys g) s := by
  have h : ∀ k : Nat, ∃ x : ClassId × (Nat → Nat), ∀ q, vwCl[k]? = some q → u_Kn s q.1 q.2.1 q.2.2 x.1 x.2 := by
    have key : ∀ {k : Nat} {C : String} {T : u_T} {n : Nat}, vwCl[k]? = some (C, T, n) → (∀ w ∈ u_ws C T n, w ∈ lw_g) → Cond.instantiable C n ∈ lw_g → ∃ x : ClassId × (Nat → Nat), ∀ q, vwCl[k]? = some q → u_Kn s q.1 q.2.1 q.2.2 x.1 x.2 := by
      intro k C T n hk hin hi
      obtain ⟨c, i, hu⟩ := u_known hts hin (hts _ hi)
      exact ⟨(c, i), fun q hq => by rw [hk] at hq; cases hq; exact hu⟩
    intro k
    match k with
    | 0 => exact key rfl inX0 wd_285
    | 1 => exact key rfl inX1 wd_338
    | 2 => exact key rfl inX2 wd_269
    | 3 => exact key rfl inX3 wd_303
    | 4 => exact key rfl inX4 wd_185
    | 5 => exact key rfl inX5 wd_204
    | 6 => exact key rfl inX6 wd_428
    | 7 => exact key rfl inX7 wd_363
    | 8 => exact key rfl inX8 wd_210
    | 9 => exact key rfl inX9 wd_394
    | 10 => exact key rfl inX10 wd_160
    | 11 => exact key rfl inX11 wd_152
    | 12 => exact key rfl inX12 wd_1373
    | k + 13 =>
      obtain ⟨x, -⟩ := key (k := 0) rfl inX0 wd_285
      exact ⟨x, fun q hq => by simp at hq⟩
  obtain ⟨f, hf⟩ := Classical.axiomOfChoice h
  obtain ⟨cI, i1, i2⟩ := arr_of (hts _ ac_I)
  obtain ⟨cJ, j1, j2⟩ := arr_of (hts _ ac_J)
  obtain ⟨cZ, z1, z2⟩ := arr_of (hts _ ac_Z)
  obtain ⟨cT, t1, t2⟩ := arr_obj hAO
  refine ⟨(fun k => (f k).1, fun k => (f k).2), (cI, cJ, cZ, cT), fun k q hq => hf k q hq, fun k q hq => ?_⟩
  match k, hq with
  | 0, hq => cases hq; exact ⟨i1, i2⟩
  | 1, hq => cases hq; exact ⟨j1, j2⟩
  | 2, hq => cases hq; exact ⟨z1, z2⟩
  | 3, hq => cases hq; exact ⟨t1, t2⟩
  | k + 4, hq => simp [m_tys] at hq
def gvT : Cond := Jvm.Cond.and given_1 narrow_1
theorem gv_at {args : Array Value} {s : State} {w : Cond} (h : gvT.before args s = true) (i : Nat) (e : (flatC gvT)[i]? = some w) : w.before args s = true := flat_of_before _ h _ (List.mem_of_getElem? e)
theorem gv_str : ∀ j, j < 127 → (flatC gvT)[22 + j]? = some (Cond.eq (.elem (.field (.string RX5 91) "java/lang/String" "value" "[B") (.int (Int32.ofNat j))) (.int (m_byt.getD j 0))) := by decide +kernel
theorem gv_tens : ∀ j, j < 6 → (flatC gvT)[12 + j]? = some (Cond.eq (.elem (.static RX12 "TENS" "[I") (.int (Int32.ofNat j))) (.int (Int32.ofInt (m_tens j)))) := by decide +kernel
theorem Ex_of {args : Array Value} {s : State} (hts : ∀ w ∈ lw_tbl, w.before args s = true) (hgv : gvT.before args s = true) : ∃ α0 : Nat → Nat, m_Ex α0 (fun q => s.heap.size ≤ q) s s.heap := by
  have hA : ∀ a : Nat, a < s.heap.size → ¬ (s.heap.size ≤ a) := fun a h => Nat.not_le.mpr h
  have tb : ∀ {w : Cond} (i : Nat), lw_tbl[i]? = some w → w.before args s = true := fun i e => hts _ (List.mem_of_getElem? e)
  obtain ⟨t, ht, hT⟩ := va_Tof (args := args) (s := s) (tm := .static RX12 "TENS" "[I") (ty := .int) (N := 6) (f := fun j => .int (Int32.ofInt (m_tens j))) (A := fun q => s.heap.size ≤ q) (by decide) (gv_at hgv 10 (by decide +kernel)) (va_eqt (z := Int32.ofNat 6) (gv_at hgv 11 (by decide +kernel))) (fun j hj => va_eqt (gv_at hgv _ (gv_tens j hj))) hA
  obtain ⟨adK, adV, hS, hev⟩ := vk_Sof (args := args) (s := s) (N := 1) (tm := fun _ => .string RX5 91) (len := [127]) (byt := [m_byt]) (A := fun q => s.heap.size ≤ q) (fun i hi => by rw [show i = 0 by omega]; decide) (fun i hi => gv_at hgv 18 (by decide +kernel)) (fun i hi => gv_at hgv 19 (by decide +kernel)) (fun i hi => gv_at hgv 20 (by decide +kernel)) (fun i hi => by rw [show i = 0 by omega]; exact gv_at hgv 21 (by decide +kernel)) (fun i hi j hj => by
    rw [show i = 0 by omega] at hj ⊢
    exact gv_at hgv _ (gv_str j hj)) (fun i j hi hj h => by omega) hA
  have hS0 := hS.1 0 (by decide)
  refine ⟨fun o => if o = 1 then adK 0 else t, va_AO.of (tb 166 (by decide +kernel)), fun q hq => ?_, va_Zref (tb 2047 (by decide +kernel)) (tb 144 (by decide +kernel)) ht hA, hT, vk_R.of (tb 712 (by decide +kernel)) (hev 0 (by decide)), ⟨adV 0, fun i hi => ?_, fun i j hi hj _ => by omega⟩, va_Zof (tb 722 (by decide +kernel)) (tb 145 (by decide +kernel)) (va_eqi (gv_at hgv 4 (by decide +kernel))) hA, va_Zqof (tb 738 (by decide +kernel)) (tb 147 (by decide +kernel)) (gv_at hgv 5 (by decide +kernel)) hA⟩
  · unfold m_nest at hq
    simp only [List.mem_cons, List.not_mem_nil, or_false] at hq
    rcases hq with rfl | rfl | rfl | rfl | rfl
    · exact va_Nw.of rfl (tb 186 (by decide +kernel))
    · exact va_Nw.of rfl (tb 205 (by decide +kernel))
    · exact va_Nw.of rfl (tb 270 (by decide +kernel))
    · exact va_Nw.of rfl (tb 311 (by decide +kernel))
    · exact va_Nw.of rfl (tb 395 (by decide +kernel))
  · rw [show i = 0 by omega]
    exact hS0
/-! from the entry to the loop -/
section LS
variable {b Ln : Nat} {xv : Nat → Int32} {Λ : LT} {lv : LV} {pc : Nat} {st : List MV} {N : NN} {KL KL' : List (Nat × Nat)} {QL QL' : List (List Nat)} {s s' n : Nat}
theorem l_newX (hΛ : lG b Ln xv Λ) {idx ci nf : Nat} {C : String} {T : u_T} (hd : decode code pc = .ok (.new idx, 3)) (hc : vwCl[ci]? = some (C, T, nf)) (hin : ∀ w ∈ u_ws C T nf, w ∈ lw_g) (hnf : m_nf ci = nf) (hty : ∀ j, j < nf → parseFieldDescriptor (T j).2.2.1 = some (m_ty ci j)) (htk : ∀ j, j < nf → m_tok (m_ty ci j) = true) (h1 : Cond.classLink RL idx C ∈ lw_g) (h2 : Cond.instantiable C nf ∈ lw_g) (h3 : Cond.initialized C ∈ lw_g) (hlv : ∀ α α', (∀ o, o < KL.length → α' o = α o) → lv α' = lv α) (hn : KL.length = n) (hr : QL.length = n) (hz : ∀ j, N n j = 0) (hK : KL ++ [(ci + 5, 0)] = KL') (hR : QL ++ [[]] = QL') (hs : s + nf = s') (kk : Λ lv (pc + 3) (.inr (.inr n) :: st) N (lX KL' QL' s')) : Λ lv pc st N (lX KL QL s) := by
  subst hn; subst hK; subst hR; subst hs
  refine l_new hΛ hd hc hin hnf hty htk h1 h2 h3 hlv ?_
  show Λ lv (pc + 3) (.inr (.inr KL.length) :: st) (m_nN N KL.length) (m_nX (lX KL QL s) (ci + 5, 0) nf)
  rw [nN_0 hz, lX_new hr.symm]
  exact kk
end LS
theorem start_all {b Ln : Nat} {xv : Nat → Int32} {Λ : LT} (hΛ : lG b Ln xv Λ) (hLn : Ln ≤ 3072) (kend : ∀ N X i, xn X ≤ 600003 → xs X ≤ 7302250 → Λ (lvL b i) 1397 [] N X) : Λ (fun _ => [(0, .ref b)]) 0 [] Nc_0 (lX KLc_3 RLc_0 0) := by
  refine l_newX (ci := 11) (C := RX11) (T := TX11) hΛ dL_law_0 rfl inX11 rfl tyX11_ok tkX11 wd_151 wd_152 wd_130 (fun α α' _ => rfl) kl_3 rl_0 (fun _ => rfl) kc_4 rc_1 rfl ?_
  refine l_dup hΛ dL_law_3 rfl ?_
  refine l_callI (d' := 5) (o := 3) (args := []) hΛ (by omega) (by omega) dL_law_4 ci_RL_9 cw_X11_init rfl (Nat.le_of_ble_eq_true rfl) (fun α α' _ => rfl) rfl kX11_init_3 ?_
  refine l_astore (o := 3) (lv' := fun α => [(1, .ref (α 3)), (0, .ref b)]) hΛ dL_law_7 (by omega) (fun α => rfl) ?_
  refine l_newX (ci := 12) (C := RX12) (T := TX12) hΛ dL_law_8 rfl inX12 rfl tyX12_ok tkX12 wd_1372 wd_1373 wd_144 (fun α α' q => by rw [q 3 (by rw [kl_64]; omega)]) kl_64 rl_126 (fun _ => rfl) kc_65 rc_127 rfl ?_
  refine l_dup hΛ dL_law_11 rfl ?_
  refine l_callI (d' := 1) (o := 64) (args := []) hΛ (by omega) (by omega) dL_law_12 ci_RL_12 cw_X12_init rfl (Nat.le_of_ble_eq_true rfl) (fun α α' q => by rw [q 3 (by rw [lX_n, kl_65]; omega)]) rfl kX12_init_64 ?_
  refine l_astore (o := 64) (lv' := fun α => [(2, .ref (α 64)), (1, .ref (α 3)), (0, .ref b)]) hΛ dL_law_15 (by omega) (fun α => rfl) ?_
  refine l_iconst hΛ dL_law_16 ⟨by decide, by decide⟩ ?_
  refine l_istore (x := 0) (lv' := fun α => [(3, .int (Int32.ofInt 0)), (2, .ref (α 64)), (1, .ref (α 3)), (0, .ref b)]) hΛ dL_law_17 (fun α => rfl) ?_
  refine l_weak (lv' := lvL b (6 * ((0 : Nat) : Int))) hΛ (fun α q hq => ?_) ?_
  · unfold lvL at hq
    rw [show 6 * ((0 : Nat) : Int) = 0 from rfl] at hq
    simp only [List.mem_cons, List.not_mem_nil, or_false] at hq ⊢
    rcases hq with e | e | e | e
    · exact Or.inr (Or.inr (Or.inr e))
    · exact Or.inr (Or.inr (Or.inl e))
    · exact Or.inr (Or.inl e)
    · exact Or.inl e
  · refine law_loop hΛ hLn (S0 := 45387) (by decide) kend 512 0 Nc_48 XA rfl ?_ XA_Sk XA_z (by rw [XA_n]; decide) (Nat.le_refl _)
    rw [show 300 * ((0 : Nat) : Int) = 0 from rfl]
    exact invA
theorem start_RL {D : va_G} {g : m_g4} {α : Nat → Nat} {A : Nat → Prop} {H : Heap} : m_RL D g α Nc_0 (lX KLc_3 RLc_0 0) A H := by
  have hK : ∀ o, xK (lX KLc_3 RLc_0 0) o = (0, 0) := fun o => by
    show KLc_3.getD o (0, 0) = (0, 0)
    match o with
    | 0 => rfl
    | 1 => rfl
    | 2 => rfl
    | o + 3 => rfl
  have hR : ∀ o k, xR (lX KLc_3 RLc_0 0) o k = 0 := fun o k => by
    show (RLc_0.getD o []).getD k 0 = 0
    match o with
    | 0 => rfl
    | 1 => rfl
    | 2 => rfl
    | o + 3 => rfl
  have hn : xn (lX KLc_3 RLc_0 0) = 3 := rfl
  refine ⟨Nat.le_refl _, fun o => ?_, fun o j => ?_, fun o k => by rw [hR, hn]; decide, fun k q h => ?_, fun i j p q h => ?_, fun k q h => ?_⟩
  · rw [hK, hn]
    exact ⟨fun h => by omega, fun h => absurd rfl h⟩
  · exact m_cr_0 (by rw [hn]; decide)
  · exact absurd h (by simp [m_ws, hn])
  · exact absurd h (by simp [m_ws, hn])
  · exact absurd h (by simp [m_ws, hn])
