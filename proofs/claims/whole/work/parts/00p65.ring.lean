/-! ring: candidates, and which is picked -/
def setA (s : Nat) (P : List Nat) : Nat := P.foldl (fun s a => s ||| 2 ^ a) s
theorem setA_app (s : Nat) (P : List Nat) (a : Nat) : setA s (P ++ [a]) = setA s P ||| 2 ^ a := by unfold setA; rw [List.foldl_append]; rfl
theorem setA_bit : ∀ (P : List Nat) (s v : Nat), bit (setA s P : Int) (v : Int) = 1 ↔ bit (s : Int) (v : Int) = 1 ∨ v ∈ P
  | [], s, v => by
    constructor
    · exact Or.inl
    · rintro (h | h)
      · exact h
      · cases h
  | a :: t, s, v => by
    show bit (setA (s ||| 2 ^ a) t : Int) (v : Int) = 1 ↔ _
    rw [setA_bit t (s ||| 2 ^ a) v, bit_or, List.mem_cons]
    by_cases c : v = a
    · rw [if_pos c]; exact ⟨fun _ => Or.inr (Or.inl c), fun _ => Or.inl rfl⟩
    · rw [if_neg c]
      constructor
      · rintro (h | h)
        · exact Or.inl h
        · exact Or.inr (Or.inr h)
      · rintro (h | h | h)
        · exact Or.inl h
        · exact absurd h c
        · exact Or.inr h
theorem setA_lt : ∀ (P : List Nat) (s : Nat), s < 64 → (∀ v, v ∈ P → v < 6) → setA s P < 64
  | [], s, h, _ => h
  | a :: t, s, h, q => by
    have pa : 2 ^ a < 2 ^ 6 := Nat.pow_lt_pow_right (by omega) (q a List.mem_cons_self)
    exact setA_lt t (s ||| 2 ^ a) (Nat.or_lt_two_pow (n := 6) h pa) fun v hv => q v (List.mem_cons_of_mem _ hv)
theorem rb_tab : ∀ s : Fin 64, ∀ i : Fin 6, (bit (s.val : Int) (i.val : Int) = 1 → 2 ^ i.val ≤ s.val ∧ ∀ j : Fin 6, bit ((s.val - 2 ^ i.val : Nat) : Int) (j.val : Int) = if j.val = i.val then 0 else bit (s.val : Int) (j.val : Int)) ∧ (bit (s.val : Int) (i.val : Int) = 0 → onS ((s.val ||| 2 ^ i.val : Nat) : Int) 16 = onS (s.val : Int) 16 + 1) := by decide +kernel
theorem rb_rm {s i : Nat} (hs : s < 64) (hi : i < 6) (h : bit (s : Int) (i : Int) = 1) : 2 ^ i ≤ s ∧ ∀ j : Nat, j < 6 → bit ((s - 2 ^ i : Nat) : Int) (j : Int) = if j = i then 0 else bit (s : Int) (j : Int) := by
  obtain ⟨a, b⟩ := (rb_tab ⟨s, hs⟩ ⟨i, hi⟩).1 h
  exact ⟨a, fun j hj => b ⟨j, hj⟩⟩
theorem rb_on {s i : Nat} (hs : s < 64) (hi : i < 6) (h : bit (s : Int) (i : Int) = 0) : onS ((s ||| 2 ^ i : Nat) : Int) 16 = onS (s : Int) 16 + 1 := (rb_tab ⟨s, hs⟩ ⟨i, hi⟩).2 h
theorem rb_ext0 : ∀ s : Fin 64, (∀ i : Fin 6, bit (s.val : Int) (i.val : Int) ≠ 1) → s.val = 0 := by decide +kernel
theorem rb_ext {s t : Nat} (hs : s < 64) (ht : t < 64) (h : ∀ i : Nat, i < 6 → (bit (s : Int) (i : Int) = 1 ↔ bit (t : Int) (i : Int) = 1)) : s = t := by
  apply Nat.eq_of_testBit_eq
  intro i
  by_cases c : i < 6
  · have q := h i c
    rw [bit_t, bit_t] at q
    cases a : s.testBit i <;> cases b : t.testBit i
    · rfl
    · rw [a, b] at q; simp at q
    · rw [a, b] at q; simp at q
    · rfl
  · have p : 2 ^ 6 ≤ 2 ^ i := Nat.pow_le_pow_right (by omega) (by omega)
    rw [Nat.testBit_lt_two_pow (by omega), Nat.testBit_lt_two_pow (by omega)]
section RG
variable (D : Nat → Nat → Prop) (n p : Nat)
/-- T goes on from h, all above p, none seen, and closes -/
def VCr : Nat → List Nat → List Nat → Prop
  | h, _, [] => D h p
  | h, P, L :: T => L < n ∧ p < L ∧ L ∉ P ∧ D h L ∧ VCr L (P ++ [L]) T
/-- T uses up just the set S -/
def FCr : Nat → Nat → List Nat → Prop
  | S, h, [] => S = 0 ∧ D h p
  | S, h, L :: T => L < n ∧ bit (S : Int) (L : Int) = 1 ∧ D h L ∧ FCr (S - 2 ^ L) L T
end RG
theorem vc_mem {D : Nat → Nat → Prop} {n p : Nat} : ∀ (T : List Nat) (h : Nat) (P : List Nat), VCr D n p h P T → ∀ v, v ∈ T → v < n ∧ p < v ∧ v ∉ P
  | [], h, P, q, v, m => by cases m
  | L :: T, h, P, q, v, m => by
    obtain ⟨q1, q2, q3, q4, q5⟩ := q
    rcases List.mem_cons.1 m with e | e
    · subst e; exact ⟨q1, q2, q3⟩
    · obtain ⟨a, b, c⟩ := vc_mem T L (P ++ [L]) q5 v e
      exact ⟨a, b, fun z => c (List.mem_append_left _ z)⟩
theorem fc_vc {D : Nat → Nat → Prop} {n p : Nat} (hn : n ≤ 6) : ∀ (T : List Nat) (h : Nat) (P : List Nat) (S : Nat), S < 64 → (∀ v : Nat, v < 6 → bit (S : Int) (v : Int) = 1 → p < v ∧ v ∉ P) → (FCr D n p S h T ↔ VCr D n p h P T ∧ ∀ v : Nat, v < 6 → (bit (S : Int) (v : Int) = 1 ↔ v ∈ T))
  | [], h, P, S, hS, hd => by
    show (S = 0 ∧ D h p) ↔ (D h p ∧ _)
    constructor
    · rintro ⟨rfl, d⟩
      refine ⟨d, fun v _ => ?_⟩
      rw [show bit ((0 : Nat) : Int) (v : Int) = 0 by rw [bit_n]; simp]
      exact ⟨fun z => by omega, fun z => by cases z⟩
    · rintro ⟨d, b⟩
      refine ⟨rb_ext0 ⟨S, hS⟩ fun i z => ?_, d⟩
      have := (b i.val i.isLt).1 z
      cases this
  | L :: T, h, P, S, hS, hd => by
    show (L < n ∧ bit (S : Int) (L : Int) = 1 ∧ D h L ∧ FCr D n p (S - 2 ^ L) L T) ↔ ((L < n ∧ p < L ∧ L ∉ P ∧ D h L ∧ VCr D n p L (P ++ [L]) T) ∧ _)
    have key : L < n → bit (S : Int) (L : Int) = 1 → (FCr D n p (S - 2 ^ L) L T ↔ VCr D n p L (P ++ [L]) T ∧ ∀ v : Nat, v < 6 → (bit ((S - 2 ^ L : Nat) : Int) (v : Int) = 1 ↔ v ∈ T)) := by
      intro h1 h2
      obtain ⟨r1, r2⟩ := rb_rm hS (show L < 6 by omega) h2
      refine fc_vc hn T L (P ++ [L]) (S - 2 ^ L) (Nat.lt_of_le_of_lt (Nat.sub_le _ _) hS) fun v hv hb => ?_
      rw [r2 v hv] at hb
      by_cases c : v = L
      · rw [if_pos c] at hb; omega
      · rw [if_neg c] at hb
        obtain ⟨a, b⟩ := hd v hv hb
        refine ⟨a, fun z => ?_⟩
        rcases List.mem_append.1 z with z | z
        · exact b z
        · exact c (List.mem_singleton.1 z)
    constructor
    · rintro ⟨h1, h2, h3, h4⟩
      obtain ⟨r1, r2⟩ := rb_rm hS (show L < 6 by omega) h2
      obtain ⟨k1, k2⟩ := (key h1 h2).1 h4
      obtain ⟨a, b⟩ := hd L (by omega) h2
      refine ⟨⟨h1, a, b, h3, k1⟩, fun v hv => ?_⟩
      rw [List.mem_cons, ← k2 v hv, r2 v hv]
      by_cases c : v = L
      · subst c; exact ⟨fun _ => Or.inl rfl, fun _ => h2⟩
      · rw [if_neg c]
        exact ⟨Or.inr, fun z => by rcases z with z | z; exact absurd z c; exact z⟩
    · rintro ⟨⟨h1, h2, h3, h4, h5⟩, b⟩
      have bL := (b L (by omega)).2 List.mem_cons_self
      obtain ⟨r1, r2⟩ := rb_rm hS (show L < 6 by omega) bL
      refine ⟨h1, bL, h4, (key h1 bL).2 ⟨h5, fun v hv => ?_⟩⟩
      rw [r2 v hv]
      by_cases c : v = L
      · rw [if_pos c]
        exact ⟨fun z => by omega, fun z => ((vc_mem T L (P ++ [L]) h5 v z).2.2 (by rw [c]; exact List.mem_append_right _ (List.mem_singleton.2 rfl))).elim⟩
      · rw [if_neg c, b v hv, List.mem_cons]
        exact ⟨fun z => by rcases z with z | z; exact absurd z c; exact z, Or.inr⟩
theorem vc_on {D : Nat → Nat → Prop} {n p : Nat} (hn : n ≤ 6) : ∀ (T : List Nat) (h : Nat) (P : List Nat) (s : Nat), s < 64 → VCr D n p h P T → (∀ v : Nat, v < 6 → bit (s : Int) (v : Int) = 1 → v ∈ P) → onS (setA s T : Int) 16 = onS (s : Int) 16 + (T.length : Int)
  | [], h, P, s, _, _, _ => by show onS (s : Int) 16 = onS (s : Int) 16 + ((0 : Nat) : Int); omega
  | L :: T, h, P, s, hs, q, b => by
    obtain ⟨q1, q2, q3, q4, q5⟩ := q
    have pa : 2 ^ L < 2 ^ 6 := Nat.pow_lt_pow_right (by omega) (by omega)
    have b0 : bit (s : Int) (L : Int) = 0 := by
      have := bit_01 (s : Int) (L : Int)
      have n1 : bit (s : Int) (L : Int) ≠ 1 := fun z => q3 (b L (by omega) z)
      omega
    have e := rb_on hs (show L < 6 by omega) b0
    have ih := vc_on hn T L (P ++ [L]) (s ||| 2 ^ L) (Nat.or_lt_two_pow (n := 6) hs pa) q5 fun v hv hb => by
      rw [bit_or] at hb
      by_cases c : v = L
      · rw [c]; exact List.mem_append_right _ (List.mem_singleton.2 rfl)
      · rw [if_neg c] at hb; exact List.mem_append_left _ (b v hv hb)
    show onS (setA (s ||| 2 ^ L) T : Int) 16 = onS (s : Int) 16 + ((T.length + 1 : Nat) : Int)
    rw [ih, e]
    omega
/-! candidates in the reference's order -/
def cnd (P : List Nat) : Cd := (100 - (P.length : Int), (setA 0 P : Int), P)
noncomputable def rgT (D : Nat → Nat → Prop) (n p : Nat) : Nat → Nat → List Nat → List Cd
  | 0, _, _ => []
  | e + 1, h, P => (List.range' 0 n).flatMap fun L => @ite _ (p < L ∧ L ∉ P ∧ D h L) (Classical.propDecidable _) ((@ite _ (D L p) (Classical.propDecidable _) [cnd (P ++ [L])] []) ++ rgT D n p e L (P ++ [L])) []
noncomputable def rgA (D : Nat → Nat → Prop) (n : Nat) : List Cd := (List.range' 0 n).flatMap fun p => rgT D n p 5 p [p]
theorem rg_mem {D : Nat → Nat → Prop} {n p : Nat} : ∀ (e h : Nat) (P : List Nat) (c : Cd), c ∈ rgT D n p e h P ↔ ∃ T, T ≠ [] ∧ T.length ≤ e ∧ VCr D n p h P T ∧ c = cnd (P ++ T)
  | 0, h, P, c => by
    constructor
    · intro z; cases z
    · rintro ⟨T, t1, t2, _⟩
      cases T with
      | nil => exact absurd rfl t1
      | cons a t => rw [List.length_cons] at t2; omega
  | e + 1, h, P, c => by
    rw [rgT, List.mem_flatMap]
    constructor
    · rintro ⟨L, hL, hm⟩
      have hL := (List.mem_range'_1.1 hL).2
      by_cases q : p < L ∧ L ∉ P ∧ D h L
      · rw [if_pos q] at hm
        rcases List.mem_append.1 hm with hm | hm
        · by_cases d : D L p
          · rw [if_pos d] at hm
            exact ⟨[L], by simp, by rw [List.length_cons, List.length_nil]; omega, ⟨by omega, q.1, q.2.1, q.2.2, d⟩, List.mem_singleton.1 hm⟩
          · rw [if_neg d] at hm; cases hm
        · obtain ⟨T, t1, t2, t3, t4⟩ := (rg_mem e L (P ++ [L]) c).1 hm
          refine ⟨L :: T, by simp, by rw [List.length_cons]; omega, ⟨by omega, q.1, q.2.1, q.2.2, t3⟩, ?_⟩
          rw [t4, List.append_assoc]; rfl
      · rw [if_neg q] at hm; cases hm
    · rintro ⟨T, t1, t2, t3, t4⟩
      cases T with
      | nil => exact absurd rfl t1
      | cons L T =>
        obtain ⟨q1, q2, q3, q4, q5⟩ := t3
        refine ⟨L, List.mem_range'_1.2 (by omega), ?_⟩
        rw [if_pos ⟨q2, q3, q4⟩]
        cases T with
        | nil =>
          refine List.mem_append_left _ ?_
          rw [if_pos (show D L p from q5)]
          exact List.mem_singleton.2 t4
        | cons a t =>
          refine List.mem_append_right _ ((rg_mem e L (P ++ [L]) c).2 ⟨a :: t, by simp, by rw [List.length_cons] at t2; omega, q5, ?_⟩)
          rw [t4, List.append_assoc]; rfl
theorem rg_srt {D : Nat → Nat → Prop} {n p : Nat} : ∀ (e h : Nat) (P : List Nat), (rgT D n p e h P).Pairwise (fun a c => lxA a.2.2 c.2.2 = true)
  | 0, h, P => List.Pairwise.nil
  | e + 1, h, P => by
    have pre : ∀ (L : Nat) (c : Cd), c ∈ rgT D n p e L (P ++ [L]) → ∃ T, T ≠ [] ∧ c.2.2 = P ++ L :: T := by
      intro L c hc
      obtain ⟨T, t1, _, _, t4⟩ := (rg_mem e L (P ++ [L]) c).1 hc
      exact ⟨T, t1, by rw [t4]; show (P ++ [L]) ++ T = _; rw [List.append_assoc]; rfl⟩
    have lp0 : ∀ (L : Nat) (T : List Nat), T ≠ [] → lxA (P ++ [L]) (P ++ L :: T) = true := by
      intro L T hT
      induction P with
      | nil =>
        cases T with
        | nil => exact absurd rfl hT
        | cons a t => exact lx_cons.2 (Or.inr ⟨rfl, rfl⟩)
      | cons x P ih => exact lx_cons.2 (Or.inr ⟨rfl, ih (fun L c hc => by
          obtain ⟨T, t1, _, _, t4⟩ := (rg_mem e L (P ++ [L]) c).1 hc
          exact ⟨T, t1, by rw [t4]; show (P ++ [L]) ++ T = _; rw [List.append_assoc]; rfl⟩)⟩)
    rw [rgT, List.pairwise_flatMap]
    refine ⟨fun L _ => ?_, ?_⟩
    · by_cases q : p < L ∧ L ∉ P ∧ D h L
      · rw [if_pos q]
        by_cases d : D L p
        · rw [if_pos d, List.singleton_append, List.pairwise_cons]
          refine ⟨fun c hc => ?_, rg_srt e L (P ++ [L])⟩
          obtain ⟨T, t1, t2⟩ := pre L c hc
          rw [t2]
          exact lp0 L T t1
        · rw [if_neg d, List.nil_append]
          exact rg_srt e L (P ++ [L])
      · rw [if_neg q]; exact List.Pairwise.nil
    · refine (List.pairwise_lt_range' (s := 0) (n := n)).imp ?_
      intro a b hab x hx y hy
      have pr : ∀ (L : Nat) (c : Cd), c ∈ (@ite (List Cd) (p < L ∧ L ∉ P ∧ D h L) (Classical.propDecidable _) ((@ite _ (D L p) (Classical.propDecidable _) [cnd (P ++ [L])] []) ++ rgT D n p e L (P ++ [L])) []) → ∃ T, c.2.2 = P ++ L :: T := by
        intro L c hc
        by_cases q : p < L ∧ L ∉ P ∧ D h L
        · rw [if_pos q] at hc
          rcases List.mem_append.1 hc with hc | hc
          · by_cases d : D L p
            · rw [if_pos d] at hc
              rw [List.mem_singleton.1 hc]
              exact ⟨[], rfl⟩
            · rw [if_neg d] at hc; cases hc
          · obtain ⟨T, _, t2⟩ := pre L c hc
            exact ⟨T, t2⟩
        · rw [if_neg q] at hc; cases hc
      obtain ⟨t, ht⟩ := pr a x hx
      obtain ⟨u, hu⟩ := pr b y hy
      rw [ht, hu]
      exact lx_app P t u hab
theorem rgA_srt {D : Nat → Nat → Prop} {n : Nat} : (rgA D n).Pairwise (fun a c => lxA a.2.2 c.2.2 = true) := by
  unfold rgA
  rw [List.pairwise_flatMap]
  refine ⟨fun p _ => rg_srt 5 p [p], ?_⟩
  refine (List.pairwise_lt_range' (s := 0) (n := n)).imp ?_
  intro a b hab x hx y hy
  obtain ⟨t, _, _, _, e1⟩ := (rg_mem 5 a [a] x).1 hx
  obtain ⟨u, _, _, _, e2⟩ := (rg_mem 5 b [b] y).1 hy
  rw [e1, e2]
  exact lx_app [] t u hab
theorem rgA_mem {D : Nat → Nat → Prop} {n : Nat} {c : Cd} : c ∈ rgA D n ↔ ∃ p T, p < n ∧ T ≠ [] ∧ T.length ≤ 5 ∧ VCr D n p p [p] T ∧ c = cnd (p :: T) := by
  unfold rgA
  rw [List.mem_flatMap]
  constructor
  · rintro ⟨p, hp, hm⟩
    obtain ⟨T, t1, t2, t3, t4⟩ := (rg_mem 5 p [p] c).1 hm
    exact ⟨p, T, by have := List.mem_range'_1.1 hp; omega, t1, t2, t3, t4⟩
  · rintro ⟨p, T, hp, t⟩
    exact ⟨p, List.mem_range'_1.2 (by omega), (rg_mem 5 p [p] c).2 ⟨T, t⟩⟩
theorem fold_is {l : List Cd} {x : Cd} (hx : x ∈ l) (h0 : 0 < x.1) (hb : ∀ c, c ∈ l → ¬ btr c x) : l.foldl upU none = some x := by
  have a := fold_spec l none (fun y e => by cases e)
  cases h1 : l.foldl upU none with
  | none =>
    rw [h1] at a
    exact absurd h0 (a.2 x hx)
  | some y =>
    rw [h1] at a
    have m : y ∈ l := by rcases a.2.1 with m | m; exact m; cases m
    have n1 := a.2.2.1 x hx
    have n3 := hb y m
    unfold btr at n1 n3
    have e1 : x.1 = y.1 := by omega
    have e2 : x.2.1 = y.2.1 := by omega
    have e3 : x.2.2 = y.2.2 := lx_tot _ _ (Bool.eq_false_iff.mpr fun z => n1 (Or.inr ⟨e1, Or.inr ⟨e2, z⟩⟩)) (Bool.eq_false_iff.mpr fun z => n3 (Or.inr ⟨e1.symm, Or.inr ⟨e2.symm, z⟩⟩))
    rw [show x = y from Prod.ext e1 (Prod.ext e2 e3)]
