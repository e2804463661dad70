
/-! A ROW AN INSTRUCTION, over the small machine -/
section MR
variable {d : Nat} {own nm : String} {cc : ByteArray} {nL n0 s0 nF sF : Nat} {Ω : Nat → MS → Prop} {pc : Nat} {ls : ML} {st : List MV} {N : NN} {X : MX}
theorem m_stk (hΩ : m_G d own nm cc nL n0 s0 nF sF Ω) {pc' : Nat} {st1 st' : List MV} (k : Ω pc' (ls, st', N, X)) (hcv : (∀ v ∈ st1, m_cv (xn X) v) → ∀ v ∈ st', m_cv (xn X) v)
    (hW : ∀ {p : Program} {l : Launch} {e : Env} {R : Room} {s : State} {m : MethodId} {args : Array Value} {below : List Frame} {meth : Method} {c : Code} {H : Heap} {locs : List Loc} {cells slots : Nat} {Q : State → Prop} {L : Array Slot} (α : Nat → Nat), (∀ v ∈ st1, m_cv (xn X) v) → p.tables.exec = Jvm.exec → c.code = cc → s.vm.findClass own = some m.cls → (∀ w ∈ lw_g, w.before args s = true) → W p l e R s m args below meth c H locs cells slots Q (F0 m pc' L (st'.map (m_rv α))) → W p l e R s m args below meth c H locs cells slots Q (F0 m pc L (st1.map (m_rv α)))) : Ω pc (ls, st1, N, X) := by
  obtain ⟨p, l, e, R, s, m, args, below, meth, c, Q, D, g, A, α0, ⟨hx, hb, -, hown, hts, -⟩, rfl⟩ := hΩ
  obtain ⟨k1, k2, k3⟩ := k
  refine ⟨k1, k2, fun α H locs L hr => ?_⟩
  obtain ⟨r1, r2, r3, r4, r5, r6, r7⟩ := hr
  exact hW α r7 hx hb hown hts (k3 α H locs L ⟨r1, r2, r3, r4, r5, r6, hcv r7⟩)
theorem m_c1 {n : Nat} {st : List MV} {a : MV} (h : ∀ v ∈ a :: st, m_cv n v) : m_cv n a ∧ ∀ v ∈ st, m_cv n v := ⟨h a List.mem_cons_self, fun v hv => h v (List.mem_cons_of_mem _ hv)⟩
theorem m_cp {n : Nat} {st : List MV} {a : MV} (ha : m_cv n a) (h : ∀ v ∈ st, m_cv n v) : ∀ v ∈ a :: st, m_cv n v := List.forall_mem_cons.mpr ⟨ha, h⟩
theorem s_iconst (hΩ : m_G d own nm cc nL n0 s0 nF sF Ω) {n : Int} (hd : decode cc pc = .ok (.iconst n, 1)) (hn : -2147483648 ≤ n ∧ n ≤ 2147483647) (k : Ω (pc + 1) (ls, .inl n :: st, N, X)) : Ω pc (ls, st, N, X) :=
  m_stk hΩ k (fun h => m_cp hn h) (fun α hc hx hb _ _ k => lv_iconst hx hb hd rfl k)
theorem s_bipush (hΩ : m_G d own nm cc nL n0 s0 nF sF Ω) {n : Int} (hd : decode cc pc = .ok (.bipush n, 2)) (hv : (Int8.ofInt n).toInt32 = Int32.ofInt n) (hn : -2147483648 ≤ n ∧ n ≤ 2147483647) (k : Ω (pc + 2) (ls, .inl n :: st, N, X)) : Ω pc (ls, st, N, X) :=
  m_stk hΩ k (fun h => m_cp hn h) (fun α hc hx hb _ _ k => lv_bipush hx hb hd hv k)
theorem s_sipush (hΩ : m_G d own nm cc nL n0 s0 nF sF Ω) {n : Int} (hd : decode cc pc = .ok (.sipush n, 3)) (hv : (Int16.ofInt n).toInt32 = Int32.ofInt n) (hn : -2147483648 ≤ n ∧ n ≤ 2147483647) (k : Ω (pc + 3) (ls, .inl n :: st, N, X)) : Ω pc (ls, st, N, X) :=
  m_stk hΩ k (fun h => m_cp hn h) (fun α hc hx hb _ _ k => lv_sipush hx hb hd hv k)
theorem s_lconst (hΩ : m_G d own nm cc nL n0 s0 nF sF Ω) {n : Fin 2} {v : Int} (hd : decode cc pc = .ok (.lconst n, 1)) (hv : Int64.ofNat (n : Nat) = Int64.ofInt v) (hn : -9223372036854775808 ≤ v ∧ v ≤ 9223372036854775807) (k : Ω (pc + 1) (ls, .inr (.inl v) :: st, N, X)) : Ω pc (ls, st, N, X) :=
  m_stk hΩ k (fun h => m_cp hn h) (fun α hc hx hb _ _ k => lv_lconst hx hb hd hv k)
theorem s_ldc (hΩ : m_G d own nm cc nL n0 s0 nF sF Ω) {i : Nat} {v : Int} (hd : decode cc pc = .ok (.ldc i, 2)) (hw : Cond.constant own i (Int32.ofInt v) ∈ lw_g) (hn : -2147483648 ≤ v ∧ v ≤ 2147483647) (k : Ω (pc + 2) (ls, .inl v :: st, N, X)) : Ω pc (ls, st, N, X) :=
  m_stk hΩ k (fun h => m_cp hn h) (fun α hc hx hb ho ht k => lv_ldc hx hb ho (ht _ hw) hd k)
theorem s_ldcw (hΩ : m_G d own nm cc nL n0 s0 nF sF Ω) {i : Nat} {v : Int} (hd : decode cc pc = .ok (.ldc_w i, 3)) (hw : Cond.constant own i (Int32.ofInt v) ∈ lw_g) (hn : -2147483648 ≤ v ∧ v ≤ 2147483647) (k : Ω (pc + 3) (ls, .inl v :: st, N, X)) : Ω pc (ls, st, N, X) :=
  m_stk hΩ k (fun h => m_cp hn h) (fun α hc hx hb ho ht k => lv_ldcw hx hb ho (ht _ hw) hd k)
theorem s_ldc2 (hΩ : m_G d own nm cc nL n0 s0 nF sF Ω) {i : Nat} {v : Int} (hd : decode cc pc = .ok (.ldc2_w i, 3)) (hw : Cond.constantLong own i (Int64.ofInt v) ∈ lw_g) (hn : -9223372036854775808 ≤ v ∧ v ≤ 9223372036854775807) (k : Ω (pc + 3) (ls, .inr (.inl v) :: st, N, X)) : Ω pc (ls, st, N, X) :=
  m_stk hΩ k (fun h => m_cp hn h) (fun α hc hx hb ho ht k => lv_ldc2 hx hb ho (ht _ hw) hd k)
theorem s_null (hΩ : m_G d own nm cc nL n0 s0 nF sF Ω) (h3 : 0 < xn X) (hd : decode cc pc = .ok (.aconst_null, 1)) (k : Ω (pc + 1) (ls, .inr (.inr 0) :: st, N, X)) : Ω pc (ls, st, N, X) :=
  m_stk hΩ k (fun h => m_cp h3 h) (fun α hc hx hb _ _ k => lv_null hx hb hd k)
theorem s_iadd (hΩ : m_G d own nm cc nL n0 s0 nF sF Ω) {a b : Int} (hd : decode cc pc = .ok (.iadd, 1)) (k : Ω (pc + 1) (ls, .inl (m_w (a + b)) :: st, N, X)) : Ω pc (ls, .inl b :: .inl a :: st, N, X) :=
  m_stk hΩ k (fun h => m_cp (m_cv_w _ _) (m_c1 (m_c1 h).2).2) (fun α hc hx hb _ _ k => lv_iadd hx hb hd (by simpa only [List.map_cons, m_rv, m_w_of, Int32.ofInt_add] using k))
theorem s_isub (hΩ : m_G d own nm cc nL n0 s0 nF sF Ω) {a b : Int} (hd : decode cc pc = .ok (.isub, 1)) (k : Ω (pc + 1) (ls, .inl (m_w (a - b)) :: st, N, X)) : Ω pc (ls, .inl b :: .inl a :: st, N, X) :=
  m_stk hΩ k (fun h => m_cp (m_cv_w _ _) (m_c1 (m_c1 h).2).2) (fun α hc hx hb _ _ k => lv_isub hx hb hd (by simpa only [List.map_cons, m_rv, m_w_of, Int32.ofInt_sub] using k))
theorem s_imul (hΩ : m_G d own nm cc nL n0 s0 nF sF Ω) {a b : Int} (hd : decode cc pc = .ok (.imul, 1)) (k : Ω (pc + 1) (ls, .inl (m_w (a * b)) :: st, N, X)) : Ω pc (ls, .inl b :: .inl a :: st, N, X) :=
  m_stk hΩ k (fun h => m_cp (m_cv_w _ _) (m_c1 (m_c1 h).2).2) (fun α hc hx hb _ _ k => lv_imul hx hb hd (by simpa only [List.map_cons, m_rv, m_w_of, Int32.ofInt_mul] using k))
theorem s_ladd (hΩ : m_G d own nm cc nL n0 s0 nF sF Ω) {a b : Int} (hd : decode cc pc = .ok (.ladd, 1)) (k : Ω (pc + 1) (ls, .inr (.inl (m_wl (a + b))) :: st, N, X)) : Ω pc (ls, .inr (.inl b) :: .inr (.inl a) :: st, N, X) :=
  m_stk hΩ k (fun h => m_cp (m_cv_wl _ _) (m_c1 (m_c1 h).2).2) (fun α hc hx hb _ _ k => lv_ladd hx hb hd (by simpa only [List.map_cons, m_rv, m_wl_of, Int64.ofInt_add] using k))
theorem s_lsub (hΩ : m_G d own nm cc nL n0 s0 nF sF Ω) {a b : Int} (hd : decode cc pc = .ok (.lsub, 1)) (k : Ω (pc + 1) (ls, .inr (.inl (m_wl (a - b))) :: st, N, X)) : Ω pc (ls, .inr (.inl b) :: .inr (.inl a) :: st, N, X) :=
  m_stk hΩ k (fun h => m_cp (m_cv_wl _ _) (m_c1 (m_c1 h).2).2) (fun α hc hx hb _ _ k => lv_lsub hx hb hd (by simpa only [List.map_cons, m_rv, m_wl_of, Int64.ofInt_sub] using k))
theorem s_lmul (hΩ : m_G d own nm cc nL n0 s0 nF sF Ω) {a b : Int} (hd : decode cc pc = .ok (.lmul, 1)) (k : Ω (pc + 1) (ls, .inr (.inl (m_wl (a * b))) :: st, N, X)) : Ω pc (ls, .inr (.inl b) :: .inr (.inl a) :: st, N, X) :=
  m_stk hΩ k (fun h => m_cp (m_cv_wl _ _) (m_c1 (m_c1 h).2).2) (fun α hc hx hb _ _ k => lv_lmul hx hb hd (by simpa only [List.map_cons, m_rv, m_wl_of, Int64.ofInt_mul] using k))
theorem s_iand (hΩ : m_G d own nm cc nL n0 s0 nF sF Ω) {a b : Int} (hd : decode cc pc = .ok (.iand, 1)) (k : Ω (pc + 1) (ls, .inl (m_and a b) :: st, N, X)) : Ω pc (ls, .inl b :: .inl a :: st, N, X) :=
  m_stk hΩ k (fun h => m_cp (m_cv_i _ _) (m_c1 (m_c1 h).2).2) (fun α hc hx hb _ _ k => lv_iand hx hb hd (by simpa only [List.map_cons, m_rv, m_and, Int32.ofInt_toInt] using k))
theorem s_ior (hΩ : m_G d own nm cc nL n0 s0 nF sF Ω) {a b : Int} (hd : decode cc pc = .ok (.ior, 1)) (k : Ω (pc + 1) (ls, .inl (m_or a b) :: st, N, X)) : Ω pc (ls, .inl b :: .inl a :: st, N, X) :=
  m_stk hΩ k (fun h => m_cp (m_cv_i _ _) (m_c1 (m_c1 h).2).2) (fun α hc hx hb _ _ k => lv_ior hx hb hd (by simpa only [List.map_cons, m_rv, m_or, Int32.ofInt_toInt] using k))
theorem s_ixor (hΩ : m_G d own nm cc nL n0 s0 nF sF Ω) {a b : Int} (hd : decode cc pc = .ok (.ixor, 1)) (k : Ω (pc + 1) (ls, .inl (m_xor a b) :: st, N, X)) : Ω pc (ls, .inl b :: .inl a :: st, N, X) :=
  m_stk hΩ k (fun h => m_cp (m_cv_i _ _) (m_c1 (m_c1 h).2).2) (fun α hc hx hb _ _ k => lv_ixor hx hb hd (by simpa only [List.map_cons, m_rv, m_xor, Int32.ofInt_toInt] using k))
theorem s_ishl (hΩ : m_G d own nm cc nL n0 s0 nF sF Ω) {a b : Int} (hd : decode cc pc = .ok (.ishl, 1)) (k : Ω (pc + 1) (ls, .inl (m_shl a b) :: st, N, X)) : Ω pc (ls, .inl b :: .inl a :: st, N, X) :=
  m_stk hΩ k (fun h => m_cp (m_cv_i _ _) (m_c1 (m_c1 h).2).2) (fun α hc hx hb _ _ k => lv_ishl hx hb hd (by simpa only [List.map_cons, m_rv, m_shl, Int32.ofInt_toInt] using k))
theorem s_ishr (hΩ : m_G d own nm cc nL n0 s0 nF sF Ω) {a b : Int} (hd : decode cc pc = .ok (.ishr, 1)) (k : Ω (pc + 1) (ls, .inl (m_shr a b) :: st, N, X)) : Ω pc (ls, .inl b :: .inl a :: st, N, X) :=
  m_stk hΩ k (fun h => m_cp (m_cv_i _ _) (m_c1 (m_c1 h).2).2) (fun α hc hx hb _ _ k => lv_ishr hx hb hd (by simpa only [List.map_cons, m_rv, m_shr, Int32.ofInt_toInt] using k))
theorem s_iushr (hΩ : m_G d own nm cc nL n0 s0 nF sF Ω) {a b : Int} (hd : decode cc pc = .ok (.iushr, 1)) (k : Ω (pc + 1) (ls, .inl (m_ushr a b) :: st, N, X)) : Ω pc (ls, .inl b :: .inl a :: st, N, X) :=
  m_stk hΩ k (fun h => m_cp (m_cv_i _ _) (m_c1 (m_c1 h).2).2) (fun α hc hx hb _ _ k => lv_iushr hx hb hd rfl (by simpa only [List.map_cons, m_rv, m_ushr, Int32.ofInt_toInt] using k))
theorem s_ineg (hΩ : m_G d own nm cc nL n0 s0 nF sF Ω) {a : Int} (hd : decode cc pc = .ok (.ineg, 1)) (k : Ω (pc + 1) (ls, .inl (m_w (-a)) :: st, N, X)) : Ω pc (ls, .inl a :: st, N, X) :=
  m_stk hΩ k (fun h => m_cp (m_cv_w _ _) (m_c1 h).2) (fun α hc hx hb _ _ k => lv_ineg hx hb hd (by simpa only [List.map_cons, m_rv, m_w_of, Int32.ofInt_neg] using k))
theorem s_idiv (hΩ : m_G d own nm cc nL n0 s0 nF sF Ω) {a b : Int} (hd : decode cc pc = .ok (.idiv, 1)) (h0 : b ≠ 0) (k : Ω (pc + 1) (ls, .inl (m_div a b) :: st, N, X)) : Ω pc (ls, .inl b :: .inl a :: st, N, X) :=
  m_stk hΩ k (fun h => m_cp (m_cv_i _ _) (m_c1 (m_c1 h).2).2) (fun α hc hx hb _ _ k => lv_idiv hx hb hd (fun q => h0 ((m_eq (m_c1 hc).1 ⟨by decide, by decide⟩).mp (show Int32.ofInt b = Int32.ofInt 0 from q))) (by simpa only [List.map_cons, m_rv, m_div, Int32.ofInt_toInt] using k))
theorem s_irem (hΩ : m_G d own nm cc nL n0 s0 nF sF Ω) {a b : Int} (hd : decode cc pc = .ok (.irem, 1)) (h0 : b ≠ 0) (k : Ω (pc + 1) (ls, .inl (m_rem a b) :: st, N, X)) : Ω pc (ls, .inl b :: .inl a :: st, N, X) :=
  m_stk hΩ k (fun h => m_cp (m_cv_i _ _) (m_c1 (m_c1 h).2).2) (fun α hc hx hb _ _ k => lv_irem hx hb hd (fun q => h0 ((m_eq (m_c1 hc).1 ⟨by decide, by decide⟩).mp (show Int32.ofInt b = Int32.ofInt 0 from q))) (by simpa only [List.map_cons, m_rv, m_rem, Int32.ofInt_toInt] using k))
theorem s_ldiv (hΩ : m_G d own nm cc nL n0 s0 nF sF Ω) {a b : Int} (hd : decode cc pc = .ok (.ldiv, 1)) (h0 : b ≠ 0) (k : Ω (pc + 1) (ls, .inr (.inl (m_ldiv a b)) :: st, N, X)) : Ω pc (ls, .inr (.inl b) :: .inr (.inl a) :: st, N, X) :=
  m_stk hΩ k (fun h => m_cp (m_cv_l _ _) (m_c1 (m_c1 h).2).2) (fun α hc hx hb _ _ k => lv_ldiv hx hb hd (fun q => h0 (by have h1 := congrArg Int64.toInt q; rw [m_toIntl (m_c1 hc).1] at h1; exact h1)) (by simpa only [List.map_cons, m_rv, m_ldiv, Int64.ofInt_toInt] using k))
theorem s_lrem (hΩ : m_G d own nm cc nL n0 s0 nF sF Ω) {a b : Int} (hd : decode cc pc = .ok (.lrem, 1)) (h0 : b ≠ 0) (k : Ω (pc + 1) (ls, .inr (.inl (m_lrem a b)) :: st, N, X)) : Ω pc (ls, .inr (.inl b) :: .inr (.inl a) :: st, N, X) :=
  m_stk hΩ k (fun h => m_cp (m_cv_l _ _) (m_c1 (m_c1 h).2).2) (fun α hc hx hb _ _ k => lv_lrem hx hb hd (fun q => h0 (by have h1 := congrArg Int64.toInt q; rw [m_toIntl (m_c1 hc).1] at h1; exact h1)) (by simpa only [List.map_cons, m_rv, m_lrem, Int64.ofInt_toInt] using k))
theorem s_i2l (hΩ : m_G d own nm cc nL n0 s0 nF sF Ω) {a : Int} (hd : decode cc pc = .ok (.i2l, 1)) (k : Ω (pc + 1) (ls, .inr (.inl a) :: st, N, X)) : Ω pc (ls, .inl a :: st, N, X) :=
  m_stk hΩ k (fun h => m_cp (by have := (m_c1 h).1; exact ⟨by have := this.1; omega, by have := this.2; omega⟩) (m_c1 h).2) (fun α hc hx hb _ _ k => lv_i2l hx hb hd (Int32.toInt64_ofInt (m_c1 hc).1.1 (m_c1 hc).1.2) k)
theorem s_l2i (hΩ : m_G d own nm cc nL n0 s0 nF sF Ω) {a : Int} (hd : decode cc pc = .ok (.l2i, 1)) (k : Ω (pc + 1) (ls, .inl (m_w a) :: st, N, X)) : Ω pc (ls, .inr (.inl a) :: st, N, X) :=
  m_stk hΩ k (fun h => m_cp (m_cv_w _ _) (m_c1 h).2) (fun α hc hx hb _ _ k => lv_l2i hx hb hd (Int64.toInt32_ofInt.trans (m_w_of a).symm) k)
theorem m_lcmp_cv (n : Nat) (a b : Int) : m_cv n (.inl (m_lcmp a b)) := by
  unfold m_lcmp
  by_cases h1 : a < b
  · rw [if_pos h1]; exact ⟨by decide, by decide⟩
  · rw [if_neg h1]
    by_cases h2 : a = b
    · rw [if_pos h2]; exact ⟨by decide, by decide⟩
    · rw [if_neg h2]; exact ⟨by decide, by decide⟩
theorem s_lcmp (hΩ : m_G d own nm cc nL n0 s0 nF sF Ω) {a b : Int} (hd : decode cc pc = .ok (.lcmp, 1)) (k : Ω (pc + 1) (ls, .inl (m_lcmp a b) :: st, N, X)) : Ω pc (ls, .inr (.inl b) :: .inr (.inl a) :: st, N, X) :=
  m_stk hΩ k (fun h => m_cp (m_lcmp_cv _ _ _) (m_c1 (m_c1 h).2).2) (fun α hc hx hb _ _ k => W.lcmp hx hb hd (by
    have ha := m_toIntl (m_c1 (m_c1 hc).2).1
    have hb := m_toIntl (m_c1 hc).1
    have e : lg_cmp (Int64.ofInt a) (Int64.ofInt b) = Int32.ofInt (m_lcmp a b) := by
      unfold lg_cmp m_lcmp
      simp only [gt_iff_lt, Int64.lt_iff_toInt_lt, ← Int64.toInt_inj, ha, hb]
      by_cases h1 : a < b
      · rw [if_neg (by omega), if_neg (by omega), if_pos h1]; rfl
      · by_cases h2 : a = b
        · rw [if_neg (by omega), if_pos h2, if_neg h1, if_pos h2]; rfl
        · rw [if_pos (by omega), if_neg h1, if_neg h2]; rfl
    rw [e]; exact k))
def m_c1b : MV → Bool
  | .inr (.inl _) => false
  | _ => true
theorem m_cat {α : Nat → Nat} : ∀ {v : MV}, m_c1b v = true → (m_rv α v).category = 1
  | .inl _, _ => rfl
  | .inr (.inl _), h => by cases h
  | .inr (.inr r), _ => by
    show (if r = 0 then Value.null else .ref (α r)).category = 1
    split <;> rfl
theorem m_cat2 {α : Nat → Nat} : ∀ {v : MV}, m_c1b v = false → (m_rv α v).category = 2
  | .inl _, h => by cases h
  | .inr (.inl _), _ => rfl
  | .inr (.inr r), h => by cases h
theorem s_dup (hΩ : m_G d own nm cc nL n0 s0 nF sF Ω) {a : MV} (hd : decode cc pc = .ok (.dup, 1)) (ha : m_c1b a = true) (k : Ω (pc + 1) (ls, a :: a :: st, N, X)) : Ω pc (ls, a :: st, N, X) :=
  m_stk hΩ k (fun h => m_cp (m_c1 h).1 h) (fun α hc hx hb _ _ k => lv_dup hx hb hd (m_cat ha) k)
theorem s_pop (hΩ : m_G d own nm cc nL n0 s0 nF sF Ω) {a : MV} (hd : decode cc pc = .ok (.pop, 1)) (ha : m_c1b a = true) (k : Ω (pc + 1) (ls, st, N, X)) : Ω pc (ls, a :: st, N, X) :=
  m_stk hΩ k (fun h => (m_c1 h).2) (fun α hc hx hb _ _ k => lv_pop hx hb hd (m_cat ha) k)
theorem s_dup_x1 (hΩ : m_G d own nm cc nL n0 s0 nF sF Ω) {a b : MV} (hd : decode cc pc = .ok (.dup_x1, 1)) (ha : m_c1b a = true) (hb : m_c1b b = true) (k : Ω (pc + 1) (ls, a :: b :: a :: st, N, X)) : Ω pc (ls, a :: b :: st, N, X) :=
  m_stk hΩ k (fun h => m_cp (m_c1 h).1 (m_cp (m_c1 (m_c1 h).2).1 (m_cp (m_c1 h).1 (m_c1 (m_c1 h).2).2))) (fun α hc hx hb' _ _ k => lv_dup_x1 hx hb' hd (m_cat ha) (m_cat hb) k)
theorem s_dup_x2 (hΩ : m_G d own nm cc nL n0 s0 nF sF Ω) {a b c : MV} (hd : decode cc pc = .ok (.dup_x2, 1)) (ha : m_c1b a = true) (hb : m_c1b b = true) (hc' : m_c1b c = true) (k : Ω (pc + 1) (ls, a :: b :: c :: a :: st, N, X)) : Ω pc (ls, a :: b :: c :: st, N, X) :=
  m_stk hΩ k (fun h => m_cp (m_c1 h).1 (m_cp (m_c1 (m_c1 h).2).1 (m_cp (m_c1 (m_c1 (m_c1 h).2).2).1 (m_cp (m_c1 h).1 (m_c1 (m_c1 (m_c1 h).2).2).2)))) (fun α hc hx hb' _ _ k => lv_dup_x2 hx hb' hd (m_cat ha) (m_cat hb) (m_cat hc') k)
theorem s_dup2 (hΩ : m_G d own nm cc nL n0 s0 nF sF Ω) {a b : MV} (hd : decode cc pc = .ok (.dup2, 1)) (ha : m_c1b a = true) (hb : m_c1b b = true) (k : Ω (pc + 1) (ls, a :: b :: a :: b :: st, N, X)) : Ω pc (ls, a :: b :: st, N, X) :=
  m_stk hΩ k (fun h => m_cp (m_c1 h).1 (m_cp (m_c1 (m_c1 h).2).1 h)) (fun α hc hx hb' _ _ k => lv_dup2_11 hx hb' hd (m_cat ha) (m_cat hb) k)
theorem s_goto (hΩ : m_G d own nm cc nL n0 s0 nF sF Ω) {off : Int} (tgt : Nat) (hd : decode cc pc = .ok (.goto off, 3)) (ht : (pc : Int) + off = (tgt : Int)) (k : Ω tgt (ls, st, N, X)) : Ω pc (ls, st, N, X) :=
  m_stk hΩ k (fun h => h) (fun α hc hx hb _ _ k => lv_goto hx hb hd ht k)
theorem m_stk2 (hΩ : m_G d own nm cc nL n0 s0 nF sF Ω) {pc1 pc2 : Nat} {st1 st' : List MV} {P : Prop} (k1 : P → Ω pc1 (ls, st', N, X)) (k2 : ¬ P → Ω pc2 (ls, st', N, X)) (hcv : (∀ v ∈ st1, m_cv (xn X) v) → ∀ v ∈ st', m_cv (xn X) v)
    (hW : ∀ {p : Program} {l : Launch} {e : Env} {R : Room} {s : State} {m : MethodId} {args : Array Value} {below : List Frame} {meth : Method} {c : Code} {H : Heap} {locs : List Loc} {cells slots : Nat} {Q : State → Prop} {L : Array Slot} (α : Nat → Nat), (∀ v ∈ st1, m_cv (xn X) v) → p.tables.exec = Jvm.exec → c.code = cc → (P → W p l e R s m args below meth c H locs cells slots Q (F0 m pc1 L (st'.map (m_rv α)))) → (¬ P → W p l e R s m args below meth c H locs cells slots Q (F0 m pc2 L (st'.map (m_rv α)))) → W p l e R s m args below meth c H locs cells slots Q (F0 m pc L (st1.map (m_rv α)))) : Ω pc (ls, st1, N, X) := by
  obtain ⟨p, l, e, R, s, m, args, below, meth, c, Q, D, g, A, α0, ⟨hx, hb, -, hown, hts, -⟩, rfl⟩ := hΩ
  have h12 : xn X ≤ nF ∧ xs X ≤ sF := by
    by_cases hP : P
    · exact ⟨(k1 hP).1, (k1 hP).2.1⟩
    · exact ⟨(k2 hP).1, (k2 hP).2.1⟩
  refine ⟨h12.1, h12.2, fun α H locs L hr => ?_⟩
  obtain ⟨r1, r2, r3, r4, r5, r6, r7⟩ := hr
  exact hW α r7 hx hb (fun hP => (k1 hP).2.2 α H locs L ⟨r1, r2, r3, r4, r5, r6, hcv r7⟩) (fun hP => (k2 hP).2.2 α H locs L ⟨r1, r2, r3, r4, r5, r6, hcv r7⟩)
theorem s_icmp_eq (hΩ : m_G d own nm cc nL n0 s0 nF sF Ω) {a b : Int} {off : Int} (tgt : Nat) (hd : decode cc pc = .ok (.if_icmp .eq off, 3)) (ht : (pc : Int) + off = (tgt : Int)) (k1 : a = b → Ω tgt (ls, st, N, X)) (k2 : ¬ a = b → Ω (pc + 3) (ls, st, N, X)) : Ω pc (ls, .inl b :: .inl a :: st, N, X) :=
  m_stk2 hΩ k1 k2 (P := a = b) (fun h => (m_c1 (m_c1 h).2).2) (fun α hc hx hb k1 k2 => lv_icmp_eq hx hb hd ht (fun q => k1 ((m_eq (m_c1 (m_c1 hc).2).1 (m_c1 hc).1).mp q)) (fun q => k2 (fun z => q ((m_eq (m_c1 (m_c1 hc).2).1 (m_c1 hc).1).mpr z))))
theorem s_icmp_ne (hΩ : m_G d own nm cc nL n0 s0 nF sF Ω) {a b : Int} {off : Int} (tgt : Nat) (hd : decode cc pc = .ok (.if_icmp .ne off, 3)) (ht : (pc : Int) + off = (tgt : Int)) (k1 : a = b → Ω (pc + 3) (ls, st, N, X)) (k2 : ¬ a = b → Ω tgt (ls, st, N, X)) : Ω pc (ls, .inl b :: .inl a :: st, N, X) :=
  m_stk2 hΩ k1 k2 (P := a = b) (fun h => (m_c1 (m_c1 h).2).2) (fun α hc hx hb k1 k2 => lv_icmp_ne hx hb hd ht (fun q => k2 (fun z => q ((m_eq (m_c1 (m_c1 hc).2).1 (m_c1 hc).1).mpr z))) (fun q => k1 ((m_eq (m_c1 (m_c1 hc).2).1 (m_c1 hc).1).mp q)))
theorem s_icmp_lt (hΩ : m_G d own nm cc nL n0 s0 nF sF Ω) {a b : Int} {off : Int} (tgt : Nat) (hd : decode cc pc = .ok (.if_icmp .lt off, 3)) (ht : (pc : Int) + off = (tgt : Int)) (k1 : a < b → Ω tgt (ls, st, N, X)) (k2 : ¬ a < b → Ω (pc + 3) (ls, st, N, X)) : Ω pc (ls, .inl b :: .inl a :: st, N, X) :=
  m_stk2 hΩ k1 k2 (P := a < b) (fun h => (m_c1 (m_c1 h).2).2) (fun α hc hx hb k1 k2 => lv_icmp_lt hx hb hd ht (fun q => k1 ((m_lt (m_c1 (m_c1 hc).2).1 (m_c1 hc).1).mp q)) (fun q => k2 (fun z => q ((m_lt (m_c1 (m_c1 hc).2).1 (m_c1 hc).1).mpr z))))
theorem s_icmp_ge (hΩ : m_G d own nm cc nL n0 s0 nF sF Ω) {a b : Int} {off : Int} (tgt : Nat) (hd : decode cc pc = .ok (.if_icmp .ge off, 3)) (ht : (pc : Int) + off = (tgt : Int)) (k1 : a < b → Ω (pc + 3) (ls, st, N, X)) (k2 : ¬ a < b → Ω tgt (ls, st, N, X)) : Ω pc (ls, .inl b :: .inl a :: st, N, X) :=
  m_stk2 hΩ k1 k2 (P := a < b) (fun h => (m_c1 (m_c1 h).2).2) (fun α hc hx hb k1 k2 => lv_icmp_ge hx hb hd ht (fun q => k2 (by have := (m_le (m_c1 hc).1 (m_c1 (m_c1 hc).2).1).mp q; omega)) (fun q => k1 (Int.not_le.mp (fun z => q ((m_le (m_c1 hc).1 (m_c1 (m_c1 hc).2).1).mpr z)))))
theorem s_icmp_gt (hΩ : m_G d own nm cc nL n0 s0 nF sF Ω) {a b : Int} {off : Int} (tgt : Nat) (hd : decode cc pc = .ok (.if_icmp .gt off, 3)) (ht : (pc : Int) + off = (tgt : Int)) (k1 : b < a → Ω tgt (ls, st, N, X)) (k2 : ¬ b < a → Ω (pc + 3) (ls, st, N, X)) : Ω pc (ls, .inl b :: .inl a :: st, N, X) :=
  m_stk2 hΩ k1 k2 (P := b < a) (fun h => (m_c1 (m_c1 h).2).2) (fun α hc hx hb k1 k2 => lv_icmp_gt hx hb hd ht (fun q => k1 ((m_lt (m_c1 hc).1 (m_c1 (m_c1 hc).2).1).mp q)) (fun q => k2 (fun z => q ((m_lt (m_c1 hc).1 (m_c1 (m_c1 hc).2).1).mpr z))))
theorem s_icmp_le (hΩ : m_G d own nm cc nL n0 s0 nF sF Ω) {a b : Int} {off : Int} (tgt : Nat) (hd : decode cc pc = .ok (.if_icmp .le off, 3)) (ht : (pc : Int) + off = (tgt : Int)) (k1 : b < a → Ω (pc + 3) (ls, st, N, X)) (k2 : ¬ b < a → Ω tgt (ls, st, N, X)) : Ω pc (ls, .inl b :: .inl a :: st, N, X) :=
  m_stk2 hΩ k1 k2 (P := b < a) (fun h => (m_c1 (m_c1 h).2).2) (fun α hc hx hb k1 k2 => lv_icmp_le hx hb hd ht (fun q => k2 (by have := (m_le (m_c1 (m_c1 hc).2).1 (m_c1 hc).1).mp q; omega)) (fun q => k1 (Int.not_le.mp (fun z => q ((m_le (m_c1 (m_c1 hc).2).1 (m_c1 hc).1).mpr z)))))
theorem s_if_eq (hΩ : m_G d own nm cc nL n0 s0 nF sF Ω) {a : Int} {off : Int} (tgt : Nat) (hd : decode cc pc = .ok (.ifCond .eq off, 3)) (ht : (pc : Int) + off = (tgt : Int)) (k1 : a = 0 → Ω tgt (ls, st, N, X)) (k2 : ¬ a = 0 → Ω (pc + 3) (ls, st, N, X)) : Ω pc (ls, .inl a :: st, N, X) :=
  m_stk2 hΩ k1 k2 (P := a = 0) (fun h => (m_c1 h).2) (fun α hc hx hb k1 k2 => lv_if_eq hx hb hd ht (fun q => k1 ((m_eq (m_c1 hc).1 ⟨by decide, by decide⟩).mp q)) (fun q => k2 (fun z => q ((m_eq (m_c1 hc).1 ⟨by decide, by decide⟩).mpr z))))
theorem s_if_ne (hΩ : m_G d own nm cc nL n0 s0 nF sF Ω) {a : Int} {off : Int} (tgt : Nat) (hd : decode cc pc = .ok (.ifCond .ne off, 3)) (ht : (pc : Int) + off = (tgt : Int)) (k1 : a = 0 → Ω (pc + 3) (ls, st, N, X)) (k2 : ¬ a = 0 → Ω tgt (ls, st, N, X)) : Ω pc (ls, .inl a :: st, N, X) :=
  m_stk2 hΩ k1 k2 (P := a = 0) (fun h => (m_c1 h).2) (fun α hc hx hb k1 k2 => lv_if_ne hx hb hd ht (fun q => k2 (fun z => q ((m_eq (m_c1 hc).1 ⟨by decide, by decide⟩).mpr z))) (fun q => k1 ((m_eq (m_c1 hc).1 ⟨by decide, by decide⟩).mp q)))
theorem s_if_lt (hΩ : m_G d own nm cc nL n0 s0 nF sF Ω) {a : Int} {off : Int} (tgt : Nat) (hd : decode cc pc = .ok (.ifCond .lt off, 3)) (ht : (pc : Int) + off = (tgt : Int)) (k1 : a < 0 → Ω tgt (ls, st, N, X)) (k2 : ¬ a < 0 → Ω (pc + 3) (ls, st, N, X)) : Ω pc (ls, .inl a :: st, N, X) :=
  m_stk2 hΩ k1 k2 (P := a < 0) (fun h => (m_c1 h).2) (fun α hc hx hb k1 k2 => lv_if_lt hx hb hd ht (fun q => k1 ((m_lt (m_c1 hc).1 ⟨by decide, by decide⟩).mp q)) (fun q => k2 (fun z => q ((m_lt (m_c1 hc).1 ⟨by decide, by decide⟩).mpr z))))
theorem s_if_ge (hΩ : m_G d own nm cc nL n0 s0 nF sF Ω) {a : Int} {off : Int} (tgt : Nat) (hd : decode cc pc = .ok (.ifCond .ge off, 3)) (ht : (pc : Int) + off = (tgt : Int)) (k1 : a < 0 → Ω (pc + 3) (ls, st, N, X)) (k2 : ¬ a < 0 → Ω tgt (ls, st, N, X)) : Ω pc (ls, .inl a :: st, N, X) :=
  m_stk2 hΩ k1 k2 (P := a < 0) (fun h => (m_c1 h).2) (fun α hc hx hb k1 k2 => lv_if_ge hx hb hd ht (fun q => k2 (by have := (m_le (x := 0) ⟨by decide, by decide⟩ (m_c1 hc).1).mp q; omega)) (fun q => k1 (Int.not_le.mp (fun z => q ((m_le (x := 0) ⟨by decide, by decide⟩ (m_c1 hc).1).mpr z)))))
theorem s_if_gt (hΩ : m_G d own nm cc nL n0 s0 nF sF Ω) {a : Int} {off : Int} (tgt : Nat) (hd : decode cc pc = .ok (.ifCond .gt off, 3)) (ht : (pc : Int) + off = (tgt : Int)) (k1 : 0 < a → Ω tgt (ls, st, N, X)) (k2 : ¬ 0 < a → Ω (pc + 3) (ls, st, N, X)) : Ω pc (ls, .inl a :: st, N, X) :=
  m_stk2 hΩ k1 k2 (P := 0 < a) (fun h => (m_c1 h).2) (fun α hc hx hb k1 k2 => lv_if_gt hx hb hd ht (fun q => k1 ((m_lt ⟨by decide, by decide⟩ (m_c1 hc).1).mp q)) (fun q => k2 (fun z => q ((m_lt ⟨by decide, by decide⟩ (m_c1 hc).1).mpr z))))
theorem s_if_le (hΩ : m_G d own nm cc nL n0 s0 nF sF Ω) {a : Int} {off : Int} (tgt : Nat) (hd : decode cc pc = .ok (.ifCond .le off, 3)) (ht : (pc : Int) + off = (tgt : Int)) (k1 : 0 < a → Ω (pc + 3) (ls, st, N, X)) (k2 : ¬ 0 < a → Ω tgt (ls, st, N, X)) : Ω pc (ls, .inl a :: st, N, X) :=
  m_stk2 hΩ k1 k2 (P := 0 < a) (fun h => (m_c1 h).2) (fun α hc hx hb k1 k2 => lv_if_le hx hb hd ht (fun q => k2 (by have := (m_le (y := 0) (m_c1 hc).1 ⟨by decide, by decide⟩).mp q; omega)) (fun q => k1 (Int.not_le.mp (fun z => q ((m_le (y := 0) (m_c1 hc).1 ⟨by decide, by decide⟩).mpr z)))))
theorem s_ifnonnull (hΩ : m_G d own nm cc nL n0 s0 nF sF Ω) {r : Nat} {off : Int} (tgt : Nat) (hd : decode cc pc = .ok (.ifnonnull off, 3)) (ht : (pc : Int) + off = (tgt : Int)) (k1 : r = 0 → Ω (pc + 3) (ls, st, N, X)) (k2 : ¬ r = 0 → Ω tgt (ls, st, N, X)) : Ω pc (ls, .inr (.inr r) :: st, N, X) :=
  m_stk2 hΩ k1 k2 (P := r = 0) (fun h => (m_c1 h).2) (fun α hc hx hb k1 k2 => by
    show W _ _ _ _ _ _ _ _ _ _ _ _ _ _ _ (F0 _ _ _ ((if r = 0 then Value.null else .ref (α r)) :: _))
    by_cases h : r = 0
    · rw [if_pos h]; exact lv_ifnonnullN hx hb hd (k1 h)
    · rw [if_neg h]; exact lv_ifnonnull hx hb hd ht (k2 h))
/-- switches: the generator names the target -/
theorem s_tableIn (hΩ : m_G d own nm cc nL n0 s0 nF sF Ω) {x dflt lo hi : Int} {offs : Array Int} {len : Nat} {off : Int} (tgt : Nat) (hd : decode cc pc = .ok (.tableswitch dflt lo hi offs, len)) (h1 : ¬ x < lo) (h2 : ¬ hi < x) (ho : offs[(x - lo).toNat]? = some off) (ht : (pc : Int) + off = (tgt : Int)) (k : Ω tgt (ls, st, N, X)) : Ω pc (ls, .inl x :: st, N, X) :=
  m_stk hΩ k (fun h => (m_c1 h).2) (fun α hc hx hb _ _ k => lv_tableIn hx hb hd (by rw [m_toInt (m_c1 hc).1]; exact h1) (by rw [m_toInt (m_c1 hc).1]; exact h2) (by rw [m_toInt (m_c1 hc).1]; exact ho) ht k)
theorem s_tableOut (hΩ : m_G d own nm cc nL n0 s0 nF sF Ω) {x dflt lo hi : Int} {offs : Array Int} {len : Nat} (tgt : Nat) (hd : decode cc pc = .ok (.tableswitch dflt lo hi offs, len)) (h : x < lo ∨ hi < x) (ht : (pc : Int) + dflt = (tgt : Int)) (k : Ω tgt (ls, st, N, X)) : Ω pc (ls, .inl x :: st, N, X) :=
  m_stk hΩ k (fun h => (m_c1 h).2) (fun α hc hx hb _ _ k => lv_tableOut hx hb hd (by rw [m_toInt (m_c1 hc).1]; exact h) ht k)
theorem s_lookup (hΩ : m_G d own nm cc nL n0 s0 nF sF Ω) {x dflt : Int} {ps : Array (Int × Int)} {len : Nat} {off : Int} (tgt : Nat) (hd : decode cc pc = .ok (.lookupswitch dflt ps, len)) (hp : (ps.toList.zip (ps.toList.drop 1)).all (fun (a, next) => a.1 < next.1) = true) (ho : Op.lookupswitch.offset ps.toList dflt x = off) (ht : (pc : Int) + off = (tgt : Int)) (k : Ω tgt (ls, st, N, X)) : Ω pc (ls, .inl x :: st, N, X) :=
  m_stk hΩ k (fun h => (m_c1 h).2) (fun α hc hx hb _ _ k => lv_lookup hx hb hd hp (by rw [m_toInt (m_c1 hc).1]; exact ho) ht k)
/-! locals -/
theorem m_loc (hΩ : m_G d own nm cc nL n0 s0 nF sF Ω) {pc' : Nat} {ls' : ML} {st1 st' : List MV} (k : Ω pc' (ls', st', N, X))
    (hW : ∀ {p : Program} {l : Launch} {e : Env} {R : Room} {s : State} {m : MethodId} {args : Array Value} {below : List Frame} {meth : Method} {c : Code} {H : Heap} {locs : List Loc} {cells slots : Nat} {Q : State → Prop} {L : Array Slot} (α : Nat → Nat), m_LR α (xn X) nL ls L → (∀ v ∈ st1, m_cv (xn X) v) → p.tables.exec = Jvm.exec → c.code = cc → (∀ L' : Array Slot, m_LR α (xn X) nL ls' L' → (∀ v ∈ st', m_cv (xn X) v) → W p l e R s m args below meth c H locs cells slots Q (F0 m pc' L' (st'.map (m_rv α)))) → W p l e R s m args below meth c H locs cells slots Q (F0 m pc L (st1.map (m_rv α)))) : Ω pc (ls, st1, N, X) := by
  obtain ⟨p, l, e, R, s, m, args, below, meth, c, Q, D, g, A, α0, ⟨hx, hb, -, hown, hts, -⟩, rfl⟩ := hΩ
  obtain ⟨k1, k2, k3⟩ := k
  refine ⟨k1, k2, fun α H locs L hr => ?_⟩
  obtain ⟨r1, r2, r3, r4, r5, r6, r7⟩ := hr
  exact hW α r6 r7 hx hb (fun L' hL' hc' => k3 α H locs L' ⟨r1, r2, r3, r4, r5, hL', hc'⟩)
def m_clr (ls : ML) (i : Nat) : ML := match i with
  | 0 => ls
  | j + 1 => match ls[j]? with
    | some (some (.inr (.inl _))) => ls.set j none
    | _ => ls
def m_set1 (ls : ML) (i : Nat) (v : MV) : ML := (m_clr ls i).set i (some v)
def m_set2 (ls : ML) (i : Nat) (v : MV) : ML := ((m_clr ls i).set i (some v)).set (i + 1) none
theorem m_clr_get {ls : ML} {i j : Nat} {v : MV} (h : (m_clr ls i)[j]? = some (some v)) : ls[j]? = some (some v) ∧ ¬ (j + 1 = i ∧ m_c1b v = false) := by
  unfold m_clr at h
  cases i with
  | zero => exact ⟨h, fun q => by omega⟩
  | succ i =>
    simp only at h
    split at h
    · next x hx =>
      by_cases hj : j = i
      · subst hj
        have hl : j < ls.length := (List.getElem?_eq_some_iff.mp hx).1
        rw [List.getElem?_set_self hl] at h
        cases h
      · rw [List.getElem?_set_ne (fun q => hj q.symm)] at h
        exact ⟨h, fun q => by omega⟩
    · next hx =>
      refine ⟨h, fun q => ?_⟩
      obtain ⟨q1, q2⟩ := q
      have hj : j = i := by omega
      subst hj
      match v, q2 with
      | .inr (.inl x), _ => exact hx x h
theorem m_set1_get {ls : ML} {i j : Nat} {v x : MV} (h : (m_set1 ls i v)[j]? = some (some x)) : (j = i ∧ x = v) ∨ (j ≠ i ∧ ls[j]? = some (some x) ∧ ¬ (j + 1 = i ∧ m_c1b x = false)) := by
  unfold m_set1 at h
  by_cases hj : j = i
  · subst hj
    by_cases hl : j < (m_clr ls j).length
    · rw [List.getElem?_set_self hl] at h
      cases h
      exact Or.inl ⟨rfl, rfl⟩
    · rw [List.getElem?_eq_none (by rw [List.length_set]; omega)] at h
      cases h
  · rw [List.getElem?_set_ne (fun q => hj q.symm)] at h
    exact Or.inr ⟨hj, m_clr_get h⟩
theorem m_set2_get {ls : ML} {i j : Nat} {v x : MV} (h : (m_set2 ls i v)[j]? = some (some x)) : (j = i ∧ x = v) ∨ (j ≠ i ∧ j ≠ i + 1 ∧ ls[j]? = some (some x) ∧ ¬ (j + 1 = i ∧ m_c1b x = false)) := by
  unfold m_set2 at h
  by_cases hj : j = i + 1
  · subst hj
    by_cases hl : i + 1 < ((m_clr ls i).set i (some v)).length
    · rw [List.getElem?_set_self hl] at h
      cases h
    · rw [List.getElem?_eq_none (by rw [List.length_set]; omega)] at h
      cases h
  · rw [List.getElem?_set_ne (fun q => hj q.symm)] at h
    rcases m_set1_get (show (m_set1 ls i v)[j]? = some (some x) from h) with q | q
    · exact Or.inl q
    · exact Or.inr ⟨q.1, hj, q.2⟩
def m_as (α : Nat → Nat) (ls : ML) : List (Nat × Value) := (List.range ls.length).filterMap fun i => (ls[i]?.join).map fun v => (i, m_rv α v)
theorem m_as_mem {α : Nat → Nat} {ls : ML} {i : Nat} {v : MV} (h : ls[i]? = some (some v)) : (i, m_rv α v) ∈ m_as α ls := by
  unfold m_as
  refine List.mem_filterMap.mpr ⟨i, List.mem_range.mpr (List.getElem?_eq_some_iff.mp h).1, ?_⟩
  rw [h]; rfl
theorem m_as_has {α : Nat → Nat} {n : Nat} {ls : ML} {L : Array Slot} (h : m_LR α n nL ls L) : lv_has L nL (m_as α ls) := by
  refine ⟨h.1, h.2.1, fun q hq => ?_⟩
  obtain ⟨i, hi, hq⟩ := List.mem_filterMap.mp hq
  cases hv : ls[i]? with
  | none => rw [hv] at hq; cases hq
  | some o =>
    cases o with
    | none => rw [hv] at hq; cases hq
    | some v =>
      rw [hv] at hq
      cases hq
      exact (h.2.2 i v hv).1
theorem m_LR1 {α : Nat → Nat} {n i : Nat} {ls : ML} {v : MV} {L L' : Array Slot} (h : m_LR α n nL ls L) (hv : m_cv n v) (h' : lv_has L' nL ((i, m_rv α v) :: (m_as α ls).filter (fun q => !(q.1 == i) && !(q.1 + 1 == i && q.2.category == 2)))) : m_LR α n nL (m_set1 ls i v) L' := by
  refine ⟨h'.1, h'.2.1, fun j x hj => ?_⟩
  rcases m_set1_get hj with ⟨rfl, rfl⟩ | ⟨h1, h2, h3⟩
  · exact ⟨h'.2.2 _ List.mem_cons_self, hv⟩
  · refine ⟨h'.2.2 (j, m_rv α x) (List.mem_cons_of_mem _ (List.mem_filter.mpr ⟨m_as_mem h2, ?_⟩)), (h.2.2 j x h2).2⟩
    by_cases hji : j + 1 = i
    · have : m_c1b x = true := by
        cases hb : m_c1b x with
        | true => rfl
        | false => exact absurd ⟨hji, hb⟩ h3
      simp [h1, m_cat this]
    · simp [h1, hji]
theorem m_LR2 {α : Nat → Nat} {n i : Nat} {ls : ML} {v : MV} {L L' : Array Slot} (h : m_LR α n nL ls L) (hv : m_cv n v) (h' : lv_has L' nL ((i, m_rv α v) :: (m_as α ls).filter (fun q => !(q.1 == i) && (!(q.1 == i + 1) && !(q.1 + 1 == i && q.2.category == 2))))) : m_LR α n nL (m_set2 ls i v) L' := by
  refine ⟨h'.1, h'.2.1, fun j x hj => ?_⟩
  rcases m_set2_get hj with ⟨rfl, rfl⟩ | ⟨h1, h0, h2, h3⟩
  · exact ⟨h'.2.2 _ List.mem_cons_self, hv⟩
  · refine ⟨h'.2.2 (j, m_rv α x) (List.mem_cons_of_mem _ (List.mem_filter.mpr ⟨m_as_mem h2, ?_⟩)), (h.2.2 j x h2).2⟩
    by_cases hji : j + 1 = i
    · have : m_c1b x = true := by
        cases hb : m_c1b x with
        | true => rfl
        | false => exact absurd ⟨hji, hb⟩ h3
      simp [h1, h0, m_cat this]
    · simp [h1, h0, hji]
theorem s_iload (hΩ : m_G d own nm cc nL n0 s0 nF sF Ω) {i : Nat} {a : Int} (hd : decode cc pc = .ok (.iload i, 2)) (hl : ls[i]? = some (some (.inl a))) (k : Ω (pc + 2) (ls, .inl a :: st, N, X)) : Ω pc (ls, st, N, X) :=
  m_loc hΩ k (fun α hL hc hx hb k => lv_iload hx hb hd (hL.2.2 i _ hl).1 (k _ hL (m_cp (hL.2.2 i _ hl).2 hc)))
theorem s_iload_n (hΩ : m_G d own nm cc nL n0 s0 nF sF Ω) {j : Fin 4} {a : Int} (hd : decode cc pc = .ok (.iload_n j, 1)) (hl : ls[(j : Nat)]? = some (some (.inl a))) (k : Ω (pc + 1) (ls, .inl a :: st, N, X)) : Ω pc (ls, st, N, X) :=
  m_loc hΩ k (fun α hL hc hx hb k => lv_iload_n hx hb hd rfl (hL.2.2 _ _ hl).1 (k _ hL (m_cp (hL.2.2 _ _ hl).2 hc)))
theorem s_lload (hΩ : m_G d own nm cc nL n0 s0 nF sF Ω) {i : Nat} {a : Int} (hd : decode cc pc = .ok (.lload i, 2)) (hl : ls[i]? = some (some (.inr (.inl a)))) (k : Ω (pc + 2) (ls, .inr (.inl a) :: st, N, X)) : Ω pc (ls, st, N, X) :=
  m_loc hΩ k (fun α hL hc hx hb k => lv_lload hx hb hd (hL.2.2 i _ hl).1 (k _ hL (m_cp (hL.2.2 i _ hl).2 hc)))
theorem s_lload_n (hΩ : m_G d own nm cc nL n0 s0 nF sF Ω) {j : Fin 4} {a : Int} (hd : decode cc pc = .ok (.lload_n j, 1)) (hl : ls[(j : Nat)]? = some (some (.inr (.inl a)))) (k : Ω (pc + 1) (ls, .inr (.inl a) :: st, N, X)) : Ω pc (ls, st, N, X) :=
  m_loc hΩ k (fun α hL hc hx hb k => lv_lload_n hx hb hd rfl (hL.2.2 _ _ hl).1 (k _ hL (m_cp (hL.2.2 _ _ hl).2 hc)))
theorem s_aload (hΩ : m_G d own nm cc nL n0 s0 nF sF Ω) {i r : Nat} (hd : decode cc pc = .ok (.aload i, 2)) (hl : ls[i]? = some (some (.inr (.inr r)))) (k : Ω (pc + 2) (ls, .inr (.inr r) :: st, N, X)) : Ω pc (ls, st, N, X) :=
  m_loc hΩ k (fun α hL hc hx hb k => by
    have h1 := (hL.2.2 i _ hl).1
    have h2 := k _ hL (m_cp (hL.2.2 i _ hl).2 hc)
    simp only [List.map_cons, m_rv] at h1 h2
    by_cases h : r = 0
    · rw [if_pos h] at h1 h2; exact lv_aloadN hx hb hd h1 h2
    · rw [if_neg h] at h1 h2; exact lv_aload hx hb hd h1 h2)
theorem s_aload_n (hΩ : m_G d own nm cc nL n0 s0 nF sF Ω) {j : Fin 4} {r : Nat} (hd : decode cc pc = .ok (.aload_n j, 1)) (hl : ls[(j : Nat)]? = some (some (.inr (.inr r)))) (k : Ω (pc + 1) (ls, .inr (.inr r) :: st, N, X)) : Ω pc (ls, st, N, X) :=
  m_loc hΩ k (fun α hL hc hx hb k => by
    have h1 := (hL.2.2 _ _ hl).1
    have h2 := k _ hL (m_cp (hL.2.2 _ _ hl).2 hc)
    simp only [List.map_cons, m_rv] at h1 h2
    by_cases h : r = 0
    · rw [if_pos h] at h1 h2; exact lv_aload_nN hx hb hd rfl h1 h2
    · rw [if_neg h] at h1 h2; exact lv_aload_n hx hb hd rfl h1 h2)
theorem s_istore (hΩ : m_G d own nm cc nL n0 s0 nF sF Ω) {i : Nat} {a : Int} {ls' : ML} (hd : decode cc pc = .ok (.istore i, 2)) (hn : i < nL) (he : m_set1 ls i (.inl a) = ls') (k : Ω (pc + 2) (ls', st, N, X)) : Ω pc (ls, .inl a :: st, N, X) :=
  m_loc hΩ k (fun α hL hc hx hb k => lv_istore hx hb hd (m_as_has hL) hn rfl (fun L' h' => k L' (he ▸ m_LR1 hL (m_c1 hc).1 h') (m_c1 hc).2))
theorem s_istore_n (hΩ : m_G d own nm cc nL n0 s0 nF sF Ω) {j : Fin 4} {a : Int} {ls' : ML} (hd : decode cc pc = .ok (.istore_n j, 1)) (hn : (j : Nat) < nL) (he : m_set1 ls j (.inl a) = ls') (k : Ω (pc + 1) (ls', st, N, X)) : Ω pc (ls, .inl a :: st, N, X) :=
  m_loc hΩ k (fun α hL hc hx hb k => lv_istore_n hx hb hd rfl (m_as_has hL) hn rfl (fun L' h' => k L' (he ▸ m_LR1 hL (m_c1 hc).1 h') (m_c1 hc).2))
theorem s_lstore (hΩ : m_G d own nm cc nL n0 s0 nF sF Ω) {i : Nat} {a : Int} {ls' : ML} (hd : decode cc pc = .ok (.lstore i, 2)) (hn : i + 1 < nL) (he : m_set2 ls i (.inr (.inl a)) = ls') (k : Ω (pc + 2) (ls', st, N, X)) : Ω pc (ls, .inr (.inl a) :: st, N, X) :=
  m_loc hΩ k (fun α hL hc hx hb k => lv_lstore hx hb hd (m_as_has hL) hn rfl (fun L' h' => k L' (he ▸ m_LR2 hL (m_c1 hc).1 h') (m_c1 hc).2))
theorem s_lstore_n (hΩ : m_G d own nm cc nL n0 s0 nF sF Ω) {j : Fin 4} {a : Int} {ls' : ML} (hd : decode cc pc = .ok (.lstore_n j, 1)) (hn : (j : Nat) + 1 < nL) (he : m_set2 ls j (.inr (.inl a)) = ls') (k : Ω (pc + 1) (ls', st, N, X)) : Ω pc (ls, .inr (.inl a) :: st, N, X) :=
  m_loc hΩ k (fun α hL hc hx hb k => lv_lstore_n hx hb hd rfl (m_as_has hL) hn rfl (fun L' h' => k L' (he ▸ m_LR2 hL (m_c1 hc).1 h') (m_c1 hc).2))
theorem s_astore (hΩ : m_G d own nm cc nL n0 s0 nF sF Ω) {i r : Nat} {ls' : ML} (hd : decode cc pc = .ok (.astore i, 2)) (hn : i < nL) (he : m_set1 ls i (.inr (.inr r)) = ls') (k : Ω (pc + 2) (ls', st, N, X)) : Ω pc (ls, .inr (.inr r) :: st, N, X) :=
  m_loc hΩ k (fun α hL hc hx hb k => by
    have h1 := fun L' h' => k L' (he ▸ m_LR1 (i := i) hL (m_c1 hc).1 h') (m_c1 hc).2
    simp only [List.map_cons, m_rv] at h1 ⊢
    by_cases h : r = 0
    · rw [if_pos h] at h1 ⊢; exact lv_astoreN hx hb hd (m_as_has hL) hn rfl h1
    · rw [if_neg h] at h1 ⊢; exact lv_astore hx hb hd (m_as_has hL) hn rfl h1)
theorem s_astore_n (hΩ : m_G d own nm cc nL n0 s0 nF sF Ω) {j : Fin 4} {r : Nat} {ls' : ML} (hd : decode cc pc = .ok (.astore_n j, 1)) (hn : (j : Nat) < nL) (he : m_set1 ls j (.inr (.inr r)) = ls') (k : Ω (pc + 1) (ls', st, N, X)) : Ω pc (ls, .inr (.inr r) :: st, N, X) :=
  m_loc hΩ k (fun α hL hc hx hb k => by
    have h1 := fun L' h' => k L' (he ▸ m_LR1 (i := (j : Nat)) hL (m_c1 hc).1 h') (m_c1 hc).2
    simp only [List.map_cons, m_rv] at h1 ⊢
    by_cases h : r = 0
    · rw [if_pos h] at h1 ⊢; exact lv_astore_nN hx hb hd rfl (m_as_has hL) hn rfl h1
    · rw [if_neg h] at h1 ⊢; exact lv_astore_n hx hb hd rfl (m_as_has hL) hn rfl h1)
theorem s_iinc (hΩ : m_G d own nm cc nL n0 s0 nF sF Ω) {i : Nat} {n a : Int} {ls' : ML} (hd : decode cc pc = .ok (.iinc i n, 3)) (hn : i < nL) (hl : ls[i]? = some (some (.inl a))) (he : m_set1 ls i (.inl (m_w (a + n))) = ls') (k : Ω (pc + 3) (ls', st, N, X)) : Ω pc (ls, st, N, X) :=
  m_loc hΩ k (fun α hL hc hx hb k => by
    obtain ⟨kk, hkk⟩ := List.getElem?_of_mem (m_as_mem (α := α) hl)
    exact lv_iinc (v := Int32.ofInt (m_w (a + n))) hx hb hd (m_as_has hL) hkk (by rw [m_w_of, Int32.ofInt_add]) hn rfl (fun L' h' => k L' (he ▸ m_LR1 (v := .inl (m_w (a + n))) hL (m_cv_w _ _) h') hc))
end MR
