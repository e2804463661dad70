/-! what the JDK does for us: max, min, arraycopy; a table of the class; an array of texts; Object's constructor -/
section MJ
variable {d : Nat} {own nm : String} {cc : ByteArray} {nL n0 s0 nF sF : Nat} {Ω : Nat → MS → Prop} {pc : Nat} {ls : ML} {st : List MV} {N : NN} {X : MX}
theorem s_objInit (hΩ : m_G d own nm cc nL n0 s0 nF sF Ω) {o idx : Nat} (hd1 : 1 ≤ d) (ho : 3 ≤ o) (hd : decode cc pc = .ok (.invokespecial idx, 3)) (h1 : Cond.methodLink own idx Lib.objectInit ∈ lw_g) (h2 : Cond.instanceMethod Lib.objectInit ∈ lw_g) (h3 : Cond.code Lib.objectInit ⟨#[0xb1]⟩ 1 none ∈ lw_g) (hcs : m_cs st ≤ 8) (kk : Ω (pc + 3) (ls, st, N, X)) : Ω pc (ls, .inr (.inr o) :: st, N, X) := by
  obtain ⟨p, l, e, R, s, m, args, below, meth, c, Q, D, g, A, α0, ⟨hx, hb, hml, hown, hts, hKK, hA, hnm, -, hRf, hRl, hRc, hRs, -⟩, rfl⟩ := hΩ
  obtain ⟨k1, k2, k3⟩ := kk
  refine ⟨k1, k2, fun α H locs L hr => ?_⟩
  obtain ⟨r1, r2, r3, r4, r5, r6, r7⟩ := hr
  dsimp only at r1 r2 r3 r4 r5 r6 r7 ⊢
  have hW := k3 α H locs L ⟨r1, r2, r3, r4, r5, r6, (m_c1 r7).2⟩
  show W _ _ _ _ _ _ _ _ _ _ _ _ _ _ _ (F0 m pc L (m_rv α (.inr (.inr o)) :: st.map (m_rv α)))
  rw [m_ro ho]
  exact W.objInit hx hb hown (hts _ h1) (hts _ h2) (hts _ h3) rfl (by rw [hml]; exact r6.1) rfl hd (by omega) (by
    have := lv_room (m := m) (pc := pc) (ls := L) (rest := .ref (α o) :: st.map (m_rv α)) (st := st.map (m_rv α)) (by rw [m_cs_eq]; exact hcs)
    omega) hW
theorem s_max (hΩ : m_G d own nm cc nL n0 s0 nF sF Ω) {idx : Nat} {a b : Int} (hd1 : 1 ≤ d) (hd : decode cc pc = .ok (.invokestatic idx, 3)) (h1 : Cond.methodLink own idx Lib.Math.max.name ∈ lw_g) (h2 : Cond.static Lib.Math.max.name ∈ lw_g) (h3 : Cond.initialized "java/lang/Math" ∈ lw_g) (h4 : Cond.code Lib.Math.max.name Lib.Math.max.code 2 (some .int) ∈ lw_g) (hcs : m_cs st ≤ 8) (kk : Ω (pc + 3) (ls, .inl (m_max a b) :: st, N, X)) : Ω pc (ls, .inl b :: .inl a :: st, N, X) := by
  obtain ⟨p, l, e, R, s, m, args, below, meth, c, Q, D, g, A, α0, ⟨hx, hb, hml, hown, hts, hKK, hA, hnm, -, hRf, hRl, hRc, hRs, -⟩, rfl⟩ := hΩ
  obtain ⟨k1, k2, k3⟩ := kk
  dsimp only at k1 k2
  refine ⟨k1, k2, fun α H locs L hr => ?_⟩
  obtain ⟨r1, r2, r3, r4, r5, r6, r7⟩ := hr
  dsimp only at r1 r2 r3 r4 r5 r6 r7 ⊢
  have cb := (m_c1 r7).1
  have ca := (m_c1 (m_c1 r7).2).1
  have e1 : (if Int32.ofInt a < Int32.ofInt b then Int32.ofInt b else Int32.ofInt a) = Int32.ofInt (m_max a b) := by
    unfold m_max
    simp only [m_lt ca cb]
    split <;> rfl
  have hW := k3 α H locs L ⟨r1, r2, r3, r4, r5, r6, m_cp (by unfold m_max; split; exact cb; exact ca) (m_c1 (m_c1 r7).2).2⟩
  exact va_mmax hx hb (by rw [hml]; exact r6.1.symm) hown (hts _ h1) (hts _ h2) (hts _ h3) (hts _ h4) (by omega) (by rw [m_cs_eq]; omega) (by omega) (by omega) hd (by rw [e1]; exact hW)
theorem s_min (hΩ : m_G d own nm cc nL n0 s0 nF sF Ω) {idx : Nat} {a b : Int} (hd1 : 1 ≤ d) (hd : decode cc pc = .ok (.invokestatic idx, 3)) (h1 : Cond.methodLink own idx Lib.Math.min.name ∈ lw_g) (h2 : Cond.static Lib.Math.min.name ∈ lw_g) (h3 : Cond.initialized "java/lang/Math" ∈ lw_g) (h4 : Cond.code Lib.Math.min.name Lib.Math.min.code 2 (some .int) ∈ lw_g) (hcs : m_cs st ≤ 8) (kk : Ω (pc + 3) (ls, .inl (m_min a b) :: st, N, X)) : Ω pc (ls, .inl b :: .inl a :: st, N, X) := by
  obtain ⟨p, l, e, R, s, m, args, below, meth, c, Q, D, g, A, α0, ⟨hx, hb, hml, hown, hts, hKK, hA, hnm, -, hRf, hRl, hRc, hRs, -⟩, rfl⟩ := hΩ
  obtain ⟨k1, k2, k3⟩ := kk
  dsimp only at k1 k2
  refine ⟨k1, k2, fun α H locs L hr => ?_⟩
  obtain ⟨r1, r2, r3, r4, r5, r6, r7⟩ := hr
  dsimp only at r1 r2 r3 r4 r5 r6 r7 ⊢
  have cb := (m_c1 r7).1
  have ca := (m_c1 (m_c1 r7).2).1
  have e1 : (if Int32.ofInt b < Int32.ofInt a then Int32.ofInt b else Int32.ofInt a) = Int32.ofInt (m_min a b) := by
    unfold m_min
    simp only [m_lt cb ca]
    split <;> rfl
  have hW := k3 α H locs L ⟨r1, r2, r3, r4, r5, r6, m_cp (by unfold m_min; split; exact cb; exact ca) (m_c1 (m_c1 r7).2).2⟩
  exact va_mmin hx hb (by rw [hml]; exact r6.1.symm) hown (hts _ h1) (hts _ h2) (hts _ h3) (hts _ h4) (by omega) (by rw [m_cs_eq]; omega) (by omega) (by omega) hd (by rw [e1]; exact hW)
theorem s_copy (hΩ : m_G d own nm cc nL n0 s0 nF sF Ω) {idx src dst l0 l1 : Nat} {sp dp n : Int} (hd1 : 1 ≤ d) (hd : decode cc pc = .ok (.invokestatic idx, 3)) (h1 : Cond.methodLink own idx arraycopyName ∈ lw_g) (h2 : Cond.native arraycopyName ∈ lw_g) (h3 : Cond.static arraycopyName ∈ lw_g) (h4 : Cond.initialized "java/lang/System" ∈ lw_g) (hcs : m_cs st ≤ 8) (hK0 : xK X src = (1, l0)) (hK1 : xK X dst = (1, l1)) (hb0 : 0 ≤ sp ∧ 0 ≤ dp ∧ 0 ≤ n ∧ sp + n ≤ (l0 : Int) ∧ dp + n ≤ (l1 : Int))
    (kk : Ω (pc + 3) (ls, st, m_cpy N src sp.toNat dst dp.toNat n.toNat, X)) : Ω pc (ls, .inl n :: .inl dp :: .inr (.inr dst) :: .inl sp :: .inr (.inr src) :: st, N, X) := by
  obtain ⟨p, l, e, R, s, m, args, below, meth, c, Q, D, g, A, α0, ⟨hx, hb, hml, hown, hts, hKK, hA, hnm, -, hRf, hRl, hRc, hRs, -⟩, rfl⟩ := hΩ
  obtain ⟨k1, k2, k3⟩ := kk
  dsimp only at k1 k2
  refine ⟨k1, k2, fun α H locs L hr => ?_⟩
  obtain ⟨r1, r2, r3, r4, r5, r6, r7⟩ := hr
  dsimp only at r1 r2 r3 r4 r5 r6 r7 ⊢
  have cn := (m_c1 r7).1
  have q1 := (m_c1 r7).2
  have cd := (m_c1 q1).1
  have q2 := (m_c1 (m_c1 q1).2).2
  have cs := (m_c1 q2).1
  have q3 := (m_c1 (m_c1 q2).2).2
  have hk0 : (xK X dst).1 ≠ 0 := by rw [hK1]; simp
  obtain ⟨a1, a2, a3⟩ := r4.at (o := src) (by rw [hK0]; simp)
  obtain ⟨b1, b2, b3⟩ := r4.at hk0
  rw [m_ce_1 hK0] at a3
  have b3' := b3
  rw [m_ce_1 hK1] at b3
  have e1 : m_ce g α (m_cpy N src sp.toNat dst dp.toNat n.toNat) X dst = .inl (g.1, l1, .inl (va_cpy (fun j => Int32.ofInt (N src j)) (fun j => Int32.ofInt (N dst j)) (Int32.ofInt sp).toNatClampNeg (Int32.ofInt dp).toNatClampNeg (Int32.ofInt n).toNatClampNeg)) := by
    rw [m_ce_1 hK1, m_clamp cs, m_clamp cd, m_clamp cn]
    congr 4
    funext j
    unfold m_cpy va_cpy
    rw [if_pos rfl]
    split <;> rfl
  have nz : ∀ z : Int, m_cv (xn X) (.inl z) → 0 ≤ z → ¬ Int32.ofInt z < 0 := fun z cz hz q => by
    rw [show (0 : Int32) = Int32.ofInt 0 from rfl, m_lt cz ⟨by decide, by decide⟩] at q
    omega
  show W _ _ _ _ _ _ _ _ _ _ _ _ _ _ _ (F0 m pc L (m_rv α (.inl n) :: m_rv α (.inl dp) :: m_rv α (.inr (.inr dst)) :: m_rv α (.inl sp) :: m_rv α (.inr (.inr src)) :: st.map (m_rv α)))
  rw [m_ro a1, m_ro b1]
  refine va_copyi (ty := .int) hx hb (by rw [hml]; exact r6.1.symm) hown (hts _ h1) (hts _ h2) (hts _ h3) (hts _ h4) hKK r4.2.2.2.2.1 r4.2.2.2.2.2 r3 (src - 3) (dst - 3) 0 0 a3 b3 rfl rfl rfl (nz sp cs hb0.1) (nz dp cd hb0.2.1) (nz n cn hb0.2.2.1) (by rw [m_clamp cs, m_clamp cn]; omega) (by rw [m_clamp cd, m_clamp cn]; omega) (fun i _ => rfl) (by omega) (by
    rw [m_cs_eq]
    have : nativeFrameWords "java/lang/System" "arraycopy" 5 + 11 ≤ 150 := by decide +kernel
    omega) hd (fun H1 locs1 hP1 hD1 hS1 => ?_)
  rw [← e1] at hP1 hD1
  have e2 : (m_ws g α N X).set (dst - 3) (α dst, m_ce g α (m_cpy N src sp.toNat dst dp.toNat n.toNat) X dst) = m_ws g α (m_cpy N src sp.toNat dst dp.toNat n.toNat) X := m_ws_set b1 b2 rfl (fun q hq => m_ce_off (fun j => by unfold m_cpy; rw [if_neg hq]) rfl (fun _ => rfl))
  rw [e2] at hP1 hD1
  refine k3 α H1 locs1 L ⟨r1, r2, hS1, ⟨r4.1, r4.2.1, fun a b => ?_, r4.2.2.2.1, hP1, hD1⟩, r5, r6, q3⟩
  show m_cr (xn X) (m_et X a b) (m_cpy N src sp.toNat dst dp.toNat n.toNat a b)
  unfold m_cpy
  by_cases ha : a = dst
  · subst ha
    rw [if_pos rfl]
    split
    · rw [m_et_1 hK1]
      have := r4.2.2.1 src (sp.toNat + (b - dp.toNat))
      rwa [m_et_1 hK0] at this
    · exact r4.2.2.1 a b
  · rw [if_neg ha]
    exact r4.2.2.1 a b
theorem s_tens (hΩ : m_G d own nm cc nL n0 s0 nF sF Ω) {idx : Nat} (h3 : 2 < xn X) (hd : decode cc pc = .ok (.getstatic idx, 3)) (h1 : Cond.fieldLink own idx RX12 "TENS" "[I" ∈ lw_g) (kk : Ω (pc + 3) (ls, .inr (.inr 2) :: st, N, X)) : Ω pc (ls, st, N, X) := by
  obtain ⟨p, l, e, R, s, m, args, below, meth, c, Q, D, g, A, α0, ⟨hx, hb, hml, hown, hts, hKK, hA, hnm, -, hRf, hRl, hRc, hRs, hn3, hEx⟩, rfl⟩ := hΩ
  obtain ⟨k1, k2, k3⟩ := kk
  refine ⟨k1, k2, fun α H locs L hr => ?_⟩
  obtain ⟨r1, r2, r3, r4, r5, r6, r7⟩ := hr
  dsimp only at r1 r2 r3 r4 r5 r6 r7 ⊢
  have hW := k3 α H locs L ⟨r1, r2, r3, r4, r5, r6, m_cp h3 r7⟩
  dsimp only at hW
  rw [List.map_cons, show m_rv α (.inr (.inr 2)) = .ref (α0 2) by rw [← r5 2 (by omega)]; rfl] at hW
  exact va_gets hx hb hEx.2.2.1 r3 hown (hts _ h1) (fun x h => h) hd hW
theorem s_tensAt (hΩ : m_G d own nm cc nL n0 s0 nF sF Ω) {i : Int} (hd : decode cc pc = .ok (.iaload, 1)) (hi : 0 ≤ i ∧ i < 6) (kk : Ω (pc + 1) (ls, .inl (m_tens i.toNat) :: st, N, X)) : Ω pc (ls, .inl i :: .inr (.inr 2) :: st, N, X) := by
  obtain ⟨p, l, e, R, s, m, args, below, meth, c, Q, D, g, A, α0, ⟨hx, hb, hml, hown, hts, hKK, hA, hnm, -, hRf, hRl, hRc, hRs, hn3, hEx⟩, rfl⟩ := hΩ
  obtain ⟨k1, k2, k3⟩ := kk
  refine ⟨k1, k2, fun α H locs L hr => ?_⟩
  obtain ⟨r1, r2, r3, r4, r5, r6, r7⟩ := hr
  dsimp only at r1 r2 r3 r4 r5 r6 r7 ⊢
  have hi32 := (m_c1 r7).1
  have hc : m_cv (xn X) (.inl (m_tens i.toNat)) := by
    unfold m_tens
    split <;> exact ⟨by decide, by decide⟩
  have hW := k3 α H locs L ⟨r1, r2, r3, r4, r5, r6, m_cp hc (m_c1 (m_c1 r7).2).2⟩
  show W _ _ _ _ _ _ _ _ _ _ _ _ _ _ _ (F0 m pc L (m_rv α (.inl i) :: m_rv α (.inr (.inr 2)) :: st.map (m_rv α)))
  rw [show m_rv α (.inr (.inr 2)) = .ref (α0 2) by rw [← r5 2 (by omega)]; rfl]
  exact va_ti hx hb hEx.2.2.2.1 r3 (m_in hi32 hi.1 (by omega)) (by rw [m_clamp hi32]; rfl) hd hW
theorem s_newT (hΩ : m_G d own nm cc nL n0 s0 nF sF Ω) {k : Int} {idx : Nat} (hd : decode cc pc = .ok (.anewarray idx, 3)) (hk : 0 ≤ k ∧ k ≤ 20000) (h1 : Cond.classLink own idx RX8 ∈ lw_g)
    (kk : Ω (pc + 3) (ls, .inr (.inr (xn X)) :: st, m_nN N (xn X), m_nX X (4, k.toNat) k.toNat)) : Ω pc (ls, .inl k :: st, N, X) := by
  obtain ⟨p, l, e, R, s, m, args, below, meth, c, Q, D, g, A, α0, ⟨hx, hb, -, hown, hts, hKK, hA, hnm, -, -, -, hRc, hRs, hn3, hEx⟩, rfl⟩ := hΩ
  obtain ⟨k1, k2, k3⟩ := kk
  have k1 : xn X + 1 ≤ nF := k1
  have k2 : xs X + k.toNat ≤ sF := k2
  refine ⟨by show xn X ≤ nF; omega, by show xs X ≤ sF; omega, fun α H locs L hr => ?_⟩
  obtain ⟨r1, r2, r3, r4, r5, r6, r7⟩ := hr
  dsimp only at r1 r2 r3 r4 r5 r6 r7 ⊢
  have r7' := (m_c1 r7).2
  have hk32 := (m_c1 r7).1
  refine va_newq (C := RX8) (N' := k.toNat) hx hb hown (hts _ h1) hEx.1 hKK r4.2.2.2.2.1 r4.2.2.2.2.2 r3 hA (fun q => ?_) (m_clamp hk32) (by omega) (by omega) (by omega) hd (fun q cA H1 hK1 hP1 hD1 hS1 => ?_)
  · rw [show (0 : Int32) = Int32.ofInt 0 from rfl, m_lt hk32 ⟨by decide, by decide⟩] at q
    omega
  · have hcA : cA = g.2.2.2 := by
      obtain ⟨ka, cmp, -, -, -, a1⟩ := (hK1.2 4 (cA, .object RX8) rfl).2
      obtain ⟨kb, cmp2, -, -, -, a2⟩ := (hKK.2 3 (g.2.2.2, .object RX8) rfl).2
      exact Option.some.inj (a1.symm.trans a2)
    subst hcA
    have ecell : m_ce g (fun a => if a = xn X then q else α a) (m_nN N (xn X)) (m_nX X (4, k.toNat) k.toNat) (xn X) = .inl (g.2.2.2, k.toNat, .inr (.inr (.inr (.inr fun _ => none)))) := by
      rw [m_ce_4 (n := k.toNat) (by show (if xn X = xn X then (4, k.toNat) else xK X (xn X)) = _; rw [if_pos rfl])]
      have e0 : ∀ j, m_nN N (xn X) (xn X) j = 0 := fun j => if_pos rfl
      simp only [e0]
      rfl
    rw [← ecell] at hP1 hD1
    have hW := k3 (fun a => if a = xn X then q else α a) H1 locs L ⟨by show n0 ≤ xn X + 1; omega, by show s0 ≤ xs X + k.toNat; omega, hS1, r4.new (by simp) hP1 hD1, fun o ho => by show (if o = xn X then q else α o) = α0 o; rw [if_neg (by omega)]; exact r5 o ho, m_LR_up r6, m_cp (Nat.lt_succ_self _) (fun v hv => m_cv_mono (Nat.le_succ _) (r7' v hv))⟩
    dsimp only at hW
    rw [show xn (m_nX X (4, k.toNat) k.toNat) - n0 = xn X - n0 + 1 by show xn X + 1 - n0 = _; omega, show xs (m_nX X (4, k.toNat) k.toNat) - s0 = xs X - s0 + k.toNat by show xs X + k.toNat - s0 = _; omega, List.map_cons, m_map_up r7'] at hW
    rw [show m_rv (fun a => if a = xn X then q else α a) (.inr (.inr (xn X))) = .ref q by show (if xn X = 0 then Value.null else .ref (if xn X = xn X then q else α (xn X))) = _; rw [if_neg (by have := r4.1; omega), if_pos rfl]] at hW
    exact hW
end MJ
