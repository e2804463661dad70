/-! way: the search, what it picks -/
abbrev Cd : Type := Int × Int × List Nat
abbrev Ed : Type := Nat × Int × Int
noncomputable def wyN (E : Nat → List Ed) (g : Nat) : Nat → Nat → List Nat → Int → Int → List Cd
  | 0, h, P, z, d => if h = g then [(m_tens 0 * z, d, P)] else []
  | e + 1, h, P, z, d => if h = g then [(m_tens (e + 1) * z, d, P)] else (E h).flatMap fun x => if x.1 ∈ P then [] else wyN E g e x.1 (P ++ [x.1]) (z * x.2.1) (d + x.2.2)
def lxA : List Nat → List Nat → Bool
  | [], [] => false
  | [], _ :: _ => true
  | _ :: _, [] => false
  | a :: s, b :: t => decide (a < b) || (decide (a = b) && lxA s t)
theorem lx_irr : ∀ p : List Nat, lxA p p = false
  | [] => rfl
  | a :: s => by rw [lxA, lx_irr s]; simp
theorem lx_cons {a b : Nat} {s t : List Nat} : lxA (a :: s) (b :: t) = true ↔ a < b ∨ (a = b ∧ lxA s t = true) := by rw [lxA]; simp
theorem lx_tr : ∀ p q r : List Nat, lxA p q = true → lxA q r = true → lxA p r = true
  | [], [], _, h, _ => by cases h
  | [], _ :: _, [], _, h => by cases h
  | [], _ :: _, _ :: _, _, _ => rfl
  | _ :: _, [], _, h, _ => by cases h
  | _ :: _, _ :: _, [], _, h => by cases h
  | a :: s, b :: t, c :: u, h1, h2 => by
    rw [lx_cons] at h1 h2 ⊢
    rcases h1 with h1 | ⟨h1, h1'⟩
    · rcases h2 with h2 | ⟨h2, h2'⟩
      · exact Or.inl (by omega)
      · exact Or.inl (by omega)
    · rcases h2 with h2 | ⟨h2, h2'⟩
      · exact Or.inl (by omega)
      · exact Or.inr ⟨by omega, lx_tr s t u h1' h2'⟩
theorem lx_tot : ∀ p q : List Nat, lxA p q = false → lxA q p = false → p = q
  | [], [], _, _ => rfl
  | [], _ :: _, h, _ => by cases h
  | _ :: _, [], _, h => by cases h
  | a :: s, b :: t, h1, h2 => by
    have n1 : ¬ (a < b ∨ (a = b ∧ lxA s t = true)) := fun z => by rw [lx_cons.2 z] at h1; cases h1
    have n2 : ¬ (b < a ∨ (b = a ∧ lxA t s = true)) := fun z => by rw [lx_cons.2 z] at h2; cases h2
    have e : a = b := by omega
    subst e
    rw [lx_tot s t (Bool.eq_false_iff.mpr fun z => n1 (Or.inr ⟨rfl, z⟩)) (Bool.eq_false_iff.mpr fun z => n2 (Or.inr ⟨rfl, z⟩))]
theorem lx_app (P : List Nat) {a b : Nat} (s t : List Nat) (h : a < b) : lxA (P ++ a :: s) (P ++ b :: t) = true := by
  induction P with
  | nil => exact lx_cons.2 (Or.inl h)
  | cons x P ih => exact lx_cons.2 (Or.inr ⟨rfl, ih⟩)
/-- better: more likely, then fewer days, then ahead -/
def btr (c b : Cd) : Prop := b.1 < c.1 ∨ (c.1 = b.1 ∧ (c.2.1 < b.2.1 ∨ (c.2.1 = b.2.1 ∧ lxA c.2.2 b.2.2 = true)))
noncomputable def btrD (c b : Cd) : Decidable (btr c b) := Classical.propDecidable _
theorem btr_tr {a b c : Cd} (h1 : btr a b) (h2 : btr b c) : btr a c := by
  unfold btr at *
  rcases h1 with h1 | ⟨e1, h1⟩
  · rcases h2 with h2 | ⟨e2, h2⟩
    · exact Or.inl (by omega)
    · exact Or.inl (by omega)
  · rcases h2 with h2 | ⟨e2, h2⟩
    · exact Or.inl (by omega)
    · refine Or.inr ⟨by omega, ?_⟩
      rcases h1 with h1 | ⟨f1, h1⟩
      · rcases h2 with h2 | ⟨f2, h2⟩
        · exact Or.inl (by omega)
        · exact Or.inl (by omega)
      · rcases h2 with h2 | ⟨f2, h2⟩
        · exact Or.inl (by omega)
        · exact Or.inr ⟨by omega, lx_tr _ _ _ h1 h2⟩
noncomputable def upU (b : Option Cd) (c : Cd) : Option Cd := match b with
  | none => if 0 < c.1 then some c else none
  | some x => @ite _ (btr c x) (btrD c x) (some c) (some x)
def upC (b : Option Cd) (c : Cd) : Option Cd := match b with
  | none => if 0 < c.1 then some c else none
  | some x => if x.1 < c.1 ∨ (c.1 = x.1 ∧ c.2.1 < x.2.1) then some c else some x
theorem upU_t {x c : Cd} (h : btr c x) : upU (some x) c = some c := @if_pos _ (btrD c x) h _ _ _
theorem upU_f {x c : Cd} (h : ¬ btr c x) : upU (some x) c = some x := @if_neg _ (btrD c x) h _ _ _
theorem fold_spec : ∀ (l : List Cd) (b : Option Cd), (∀ y, b = some y → 0 < y.1) → match l.foldl upU b with
    | none => b = none ∧ ∀ c, c ∈ l → ¬ 0 < c.1
    | some x => 0 < x.1 ∧ ((x ∈ l) ∨ b = some x) ∧ (∀ c, c ∈ l → ¬ btr c x) ∧ (∀ y, b = some y → ¬ btr y x)
  | [], b, hb => by
    rw [List.foldl_nil]
    cases b with
    | none => exact ⟨rfl, fun c h => (by cases h)⟩
    | some x =>
      refine ⟨hb x rfl, Or.inr rfl, fun c h => (by cases h), fun y e z => ?_⟩
      · cases e
        unfold btr at z
        rw [lx_irr] at z
        rcases z with z | ⟨_, z | ⟨_, z⟩⟩
        · omega
        · omega
        · cases z
  | c :: l, b, hb => by
    rw [List.foldl_cons]
    have hg : ∀ y, upU b c = some y → 0 < y.1 := by
      intro y e
      cases b with
      | none =>
        unfold upU at e
        dsimp only at e
        by_cases q : 0 < c.1
        · rw [if_pos q] at e; cases e; exact q
        · rw [if_neg q] at e; cases e
      | some x =>
        by_cases q : btr c x
        · rw [upU_t q] at e
          cases e
          have := hb x rfl
          unfold btr at q
          omega
        · rw [upU_f q] at e
          cases e
          exact hb _ rfl
    have ih := fold_spec l (upU b c) hg
    cases hr : l.foldl upU (upU b c) with
    | none =>
      rw [hr] at ih
      dsimp only at ih ⊢
      obtain ⟨i1, i2⟩ := ih
      cases b with
      | none =>
        refine ⟨rfl, fun x hx => ?_⟩
        rcases List.mem_cons.1 hx with e | e
        · subst e
          intro q
          unfold upU at i1
          dsimp only at i1
          rw [if_pos q] at i1
          cases i1
        · exact i2 x e
      | some x =>
        by_cases q : btr c x
        · rw [upU_t q] at i1; cases i1
        · rw [upU_f q] at i1; cases i1
    | some r =>
      rw [hr] at ih
      dsimp only at ih ⊢
      obtain ⟨i0, i1, i2, i3⟩ := ih
      cases b with
      | none =>
        by_cases q : 0 < c.1
        · have e : upU none c = some c := if_pos q
          rw [e] at i1 i3
          refine ⟨i0, Or.inl ?_, fun x hx => ?_, fun y z => by cases z⟩
          · rcases i1 with i1 | i1
            · exact List.mem_cons_of_mem _ i1
            · cases i1; exact List.mem_cons_self
          · rcases List.mem_cons.1 hx with e | e
            · subst e; exact i3 _ rfl
            · exact i2 x e
        · have e : upU none c = none := if_neg q
          rw [e] at i1 i3
          refine ⟨i0, Or.inl ?_, fun x hx => ?_, fun y z => by cases z⟩
          · rcases i1 with i1 | i1
            · exact List.mem_cons_of_mem _ i1
            · cases i1
          · rcases List.mem_cons.1 hx with e | e
            · subst e
              intro z
              unfold btr at z
              omega
            · exact i2 x e
      | some x =>
        by_cases q : btr c x
        · rw [upU_t q] at i1 i3
          refine ⟨i0, Or.inl ?_, fun y hy => ?_, fun y e z => ?_⟩
          · rcases i1 with i1 | i1
            · exact List.mem_cons_of_mem _ i1
            · cases i1; exact List.mem_cons_self
          · rcases List.mem_cons.1 hy with e | e
            · subst e; exact i3 _ rfl
            · exact i2 y e
          · cases e
            exact i3 c rfl (btr_tr q z)
        · rw [upU_f q] at i1 i3
          refine ⟨i0, ?_, fun y hy => ?_, i3⟩
          · rcases i1 with i1 | i1
            · exact Or.inl (List.mem_cons_of_mem _ i1)
            · exact Or.inr i1
          · rcases List.mem_cons.1 hy with e | e
            · subst e
              intro z
              -- y better than r, r not worse than x
              have hx := i3 x rfl
              refine q ?_
              unfold btr at *
              rcases z with z | ⟨e1, z⟩
              · have : ¬ r.1 < x.1 := fun w => hx (Or.inl w)
                exact Or.inl (by omega)
              · by_cases w : x.1 = r.1
                · refine Or.inr ⟨by omega, ?_⟩
                  have h2 : ¬ (x.2.1 < r.2.1 ∨ (x.2.1 = r.2.1 ∧ lxA x.2.2 r.2.2 = true)) := fun v => hx (Or.inr ⟨w, v⟩)
                  rcases z with z | ⟨e2, z⟩
                  · exact Or.inl (by omega)
                  · by_cases v : x.2.1 = r.2.1
                    · refine Or.inr ⟨by omega, ?_⟩
                      have h3 : lxA x.2.2 r.2.2 = false := Bool.eq_false_iff.mpr fun u => h2 (Or.inr ⟨v, u⟩)
                      cases h4 : lxA r.2.2 x.2.2 with
                      | true => exact lx_tr _ _ _ z h4
                      | false => rw [lx_tot _ _ h3 h4]; exact z
                    · exact Or.inl (by omega)
                · have : ¬ r.1 < x.1 := fun w => hx (Or.inl w)
                  exact Or.inl (by omega)
            · exact i2 y e
theorem fold_eq {l1 l2 : List Cd} (sub : ∀ c, c ∈ l1 → c ∈ l2) (dom : ∀ c, c ∈ l2 → 0 < c.1 → ∃ c', c' ∈ l1 ∧ c'.2.2 = c.2.2 ∧ (c.1 < c'.1 ∨ (c'.1 = c.1 ∧ c'.2.1 ≤ c.2.1))) : l1.foldl upU none = l2.foldl upU none := by
  have a := fold_spec l1 none (fun y e => by cases e)
  have b := fold_spec l2 none (fun y e => by cases e)
  cases h1 : l1.foldl upU none with
  | none =>
    rw [h1] at a
    cases h2 : l2.foldl upU none with
    | none => rfl
    | some y =>
      rw [h2] at b
      have m : y ∈ l2 := by rcases b.2.1 with m | m; exact m; cases m
      obtain ⟨c', q1, q2, q3⟩ := dom y m b.1
      have := a.2 c' q1
      have := b.1
      omega
  | some x =>
    rw [h1] at a
    have m1 : x ∈ l1 := by rcases a.2.1 with m | m; exact m; cases m
    cases h2 : l2.foldl upU none with
    | none =>
      rw [h2] at b
      exact absurd a.1 (b.2 x (sub x m1))
    | some y =>
      rw [h2] at b
      have m2 : y ∈ l2 := by rcases b.2.1 with m | m; exact m; cases m
      have n1 := b.2.2.1 x (sub x m1)
      obtain ⟨c', q1, q2, q3⟩ := dom y m2 b.1
      have n2 := a.2.2.1 c' q1
      have n3 : ¬ btr y x := by
        intro z
        refine n2 ?_
        unfold btr at z ⊢
        rw [q2]
        rcases z with z | ⟨e1, z⟩
        · exact Or.inl (by omega)
        · rcases q3 with q3 | ⟨q3, q4⟩
          · exact Or.inl (by omega)
          · refine Or.inr ⟨by omega, ?_⟩
            rcases z with z | ⟨e2, z⟩
            · exact Or.inl (by omega)
            · by_cases w : c'.2.1 = x.2.1
              · exact Or.inr ⟨w, z⟩
              · exact Or.inl (by omega)
      unfold btr at n1 n3
      have e1 : x.1 = y.1 := by omega
      have e2 : x.2.1 = y.2.1 := by omega
      have e3 : x.2.2 = y.2.2 := lx_tot _ _ (Bool.eq_false_iff.mpr fun z => n1 (Or.inr ⟨e1, Or.inr ⟨e2, z⟩⟩)) (Bool.eq_false_iff.mpr fun z => n3 (Or.inr ⟨e1.symm, Or.inr ⟨e2.symm, z⟩⟩))
      rw [show x = y from Prod.ext e1 (Prod.ext e2 e3)]
theorem fold_srt : ∀ (l : List Cd) (b : Option Cd), l.Pairwise (fun a c => lxA a.2.2 c.2.2 = true) → (∀ y, b = some y → ∀ c, c ∈ l → lxA y.2.2 c.2.2 = true) → l.foldl upC b = l.foldl upU b
  | [], _, _, _ => rfl
  | c :: l, b, hp, hb => by
    rw [List.foldl_cons, List.foldl_cons]
    have e : upC b c = upU b c := by
      cases b with
      | none => rfl
      | some x =>
        have hl := hb x rfl c List.mem_cons_self
        have nl : ¬ lxA c.2.2 x.2.2 = true := fun z => by
          have := lx_tr _ _ _ hl z
          rw [lx_irr] at this
          cases this
        by_cases q : btr c x
        · rw [upU_t q]
          refine if_pos ?_
          unfold btr at q
          rcases q with q | ⟨q, q' | ⟨_, q'⟩⟩
          · exact Or.inl q
          · exact Or.inr ⟨q, q'⟩
          · exact absurd q' nl
        · rw [upU_f q]
          refine if_neg ?_
          intro z
          refine q ?_
          unfold btr
          rcases z with z | ⟨z, z'⟩
          · exact Or.inl z
          · exact Or.inr ⟨z, Or.inl z'⟩
    rw [e]
    rw [List.pairwise_cons] at hp
    refine fold_srt l (upU b c) hp.2 fun y hy x hx => ?_
    have : y = c ∨ b = some y := by
      cases b with
      | none =>
        unfold upU at hy
        dsimp only at hy
        by_cases q : 0 < c.1
        · rw [if_pos q] at hy; cases hy; exact Or.inl rfl
        · rw [if_neg q] at hy; cases hy
      | some w =>
        by_cases q : btr c w
        · rw [upU_t q] at hy; cases hy; exact Or.inl rfl
        · rw [upU_f q] at hy; exact Or.inr hy
    rcases this with r | r
    · subst r; exact hp.1 x hx
    · exact hb y r x (List.mem_cons_of_mem _ hx)
theorem wy_pre {E : Nat → List Ed} {g : Nat} : ∀ (e h : Nat) (P : List Nat) (z d : Int) (c : Cd), c ∈ wyN E g e h P z d → ∃ t, c.2.2 = P ++ t
  | 0, h, P, z, d, c, m => by
    rw [wyN] at m
    by_cases q : h = g
    · rw [if_pos q] at m
      rw [List.mem_singleton.1 m]
      exact ⟨[], by simp⟩
    · rw [if_neg q] at m; cases m
  | e + 1, h, P, z, d, c, m => by
    rw [wyN] at m
    by_cases q : h = g
    · rw [if_pos q] at m
      rw [List.mem_singleton.1 m]
      exact ⟨[], by simp⟩
    · rw [if_neg q] at m
      obtain ⟨x, hx, hm⟩ := List.mem_flatMap.1 m
      by_cases p : x.1 ∈ P
      · rw [if_pos p] at hm; cases hm
      · rw [if_neg p] at hm
        obtain ⟨t, ht⟩ := wy_pre e x.1 _ _ _ c hm
        exact ⟨[x.1] ++ t, by rw [ht, List.append_assoc]⟩
theorem wy_srt {E : Nat → List Ed} {g : Nat} (hE : ∀ h, (E h).Pairwise (fun a b => a.1 < b.1)) : ∀ (e h : Nat) (P : List Nat) (z d : Int), (wyN E g e h P z d).Pairwise (fun a c => lxA a.2.2 c.2.2 = true)
  | 0, h, P, z, d => by
    rw [wyN]
    by_cases q : h = g
    · rw [if_pos q]; exact List.pairwise_singleton _ _
    · rw [if_neg q]; exact List.Pairwise.nil
  | e + 1, h, P, z, d => by
    rw [wyN]
    by_cases q : h = g
    · rw [if_pos q]; exact List.pairwise_singleton _ _
    · rw [if_neg q, List.pairwise_flatMap]
      refine ⟨fun x _ => ?_, ?_⟩
      · by_cases p : x.1 ∈ P
        · rw [if_pos p]; exact List.Pairwise.nil
        · rw [if_neg p]; exact wy_srt hE e _ _ _ _
      · refine (hE h).imp ?_
        intro a b hab x hx y hy
        by_cases p : a.1 ∈ P
        · rw [if_pos p] at hx; cases hx
        by_cases p' : b.1 ∈ P
        · rw [if_pos p'] at hy; cases hy
        rw [if_neg p] at hx
        rw [if_neg p'] at hy
        obtain ⟨t, ht⟩ := wy_pre e _ _ _ _ x hx
        obtain ⟨u, hu⟩ := wy_pre e _ _ _ _ y hy
        rw [ht, hu, List.append_assoc, List.append_assoc]
        exact lx_app P t u hab
theorem wy_sub {E1 E2 : Nat → List Ed} {g : Nat} (hE : ∀ h x, x ∈ E1 h → x ∈ E2 h) : ∀ (e h : Nat) (P : List Nat) (z d : Int) (c : Cd), c ∈ wyN E1 g e h P z d → c ∈ wyN E2 g e h P z d
  | 0, h, P, z, d, c, m => m
  | e + 1, h, P, z, d, c, m => by
    rw [wyN] at m ⊢
    by_cases q : h = g
    · rw [if_pos q] at m ⊢; exact m
    · rw [if_neg q] at m ⊢
      obtain ⟨x, hx, hm⟩ := List.mem_flatMap.1 m
      refine List.mem_flatMap.2 ⟨x, hE h x hx, ?_⟩
      by_cases p : x.1 ∈ P
      · rw [if_pos p] at hm; cases hm
      · rw [if_neg p] at hm ⊢
        exact wy_sub hE e _ _ _ _ c hm
theorem wy_zero {E : Nat → List Ed} {g : Nat} : ∀ (e h : Nat) (P : List Nat) (d : Int) (c : Cd), c ∈ wyN E g e h P 0 d → c.1 = 0
  | 0, h, P, d, c, m => by
    rw [wyN] at m
    by_cases q : h = g
    · rw [if_pos q] at m
      rw [List.mem_singleton.1 m]
      exact Int.mul_zero _
    · rw [if_neg q] at m; cases m
  | e + 1, h, P, d, c, m => by
    rw [wyN] at m
    by_cases q : h = g
    · rw [if_pos q] at m
      rw [List.mem_singleton.1 m]
      exact Int.mul_zero _
    · rw [if_neg q] at m
      obtain ⟨x, hx, hm⟩ := List.mem_flatMap.1 m
      by_cases p : x.1 ∈ P
      · rw [if_pos p] at hm; cases hm
      · rw [if_neg p, Int.zero_mul] at hm
        exact wy_zero e _ _ _ c hm
theorem tens_p (e : Nat) : 0 < m_tens e := by
  unfold m_tens
  split <;> omega
theorem wy_dom {E1 E2 : Nat → List Ed} {g : Nat} (hE : ∀ h x, x ∈ E2 h → 0 ≤ x.2.1 ∧ (0 < x.2.1 → ∃ y, y ∈ E1 h ∧ y.1 = x.1 ∧ (x.2.1 < y.2.1 ∨ (y.2.1 = x.2.1 ∧ y.2.2 ≤ x.2.2)))) : ∀ (e h : Nat) (P : List Nat) (z1 d1 z2 d2 : Int) (c : Cd), 0 < z2 → (z2 < z1 ∨ (z1 = z2 ∧ d1 ≤ d2)) → c ∈ wyN E2 g e h P z2 d2 → 0 < c.1 → ∃ c', c' ∈ wyN E1 g e h P z1 d1 ∧ c'.2.2 = c.2.2 ∧ (c.1 < c'.1 ∨ (c'.1 = c.1 ∧ c'.2.1 ≤ c.2.1)) := by
  have fin : ∀ (e : Nat) (P : List Nat) (z1 d1 z2 d2 : Int), (z2 < z1 ∨ (z1 = z2 ∧ d1 ≤ d2)) → m_tens e * z2 < m_tens e * z1 ∨ (m_tens e * z1 = m_tens e * z2 ∧ d1 ≤ d2) := by
    intro e P z1 d1 z2 d2 h
    rcases h with h | ⟨h, h'⟩
    · exact Or.inl (Int.mul_lt_mul_of_pos_left h (tens_p e))
    · exact Or.inr ⟨by rw [h], h'⟩
  intro e
  induction e with
  | zero =>
    intro h P z1 d1 z2 d2 c hz hh m hc
    rw [wyN] at m ⊢
    by_cases q : h = g
    · rw [if_pos q] at m ⊢
      rw [List.mem_singleton.1 m]
      exact ⟨_, List.mem_singleton.2 rfl, rfl, fin 0 P z1 d1 z2 d2 hh⟩
    · rw [if_neg q] at m; cases m
  | succ e ih =>
    intro h P z1 d1 z2 d2 c hz hh m hc
    rw [wyN] at m ⊢
    by_cases q : h = g
    · rw [if_pos q] at m ⊢
      rw [List.mem_singleton.1 m]
      exact ⟨_, List.mem_singleton.2 rfl, rfl, fin (e + 1) P z1 d1 z2 d2 hh⟩
    · rw [if_neg q] at m ⊢
      obtain ⟨x, hx, hm⟩ := List.mem_flatMap.1 m
      by_cases p : x.1 ∈ P
      · rw [if_pos p] at hm; cases hm
      rw [if_neg p] at hm
      obtain ⟨f0, f1⟩ := hE h x hx
      by_cases fz : x.2.1 = 0
      · rw [fz, Int.mul_zero] at hm
        have := wy_zero e _ _ _ c hm
        omega
      obtain ⟨y, hy, y1, y2⟩ := f1 (by omega)
      have zz : 0 < z2 * x.2.1 := Int.mul_pos hz (by omega)
      have cmp : z2 * x.2.1 < z1 * y.2.1 ∨ (z1 * y.2.1 = z2 * x.2.1 ∧ d1 + y.2.2 ≤ d2 + x.2.2) := by
        rcases hh with hh | ⟨hh, hd⟩
        · have s1 : z2 * x.2.1 < z1 * x.2.1 := Int.mul_lt_mul_of_pos_right hh (by omega)
          have s2 : z1 * x.2.1 ≤ z1 * y.2.1 := Int.mul_le_mul_of_nonneg_left (by omega) (by omega)
          exact Or.inl (by omega)
        · subst hh
          rcases y2 with y2 | ⟨y2, y3⟩
          · exact Or.inl (Int.mul_lt_mul_of_pos_left y2 hz)
          · exact Or.inr ⟨by rw [y2], by omega⟩
      obtain ⟨c', c1, c2⟩ := ih x.1 (P ++ [x.1]) _ _ _ _ c zz cmp hm hc
      refine ⟨c', List.mem_flatMap.2 ⟨y, hy, ?_⟩, c2⟩
      rw [y1, if_neg p]
      exact c1
