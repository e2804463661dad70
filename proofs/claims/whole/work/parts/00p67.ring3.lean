/-! ring: what the class finds -/
theorem setA_ltn : ∀ (P : List Nat) (s n : Nat), s < 2 ^ n → (∀ v, v ∈ P → v < n) → setA s P < 2 ^ n
  | [], s, n, h, _ => h
  | a :: t, s, n, h, q => by
    have pa : 2 ^ a < 2 ^ n := Nat.pow_lt_pow_right (by omega) (q a List.mem_cons_self)
    exact setA_ltn t (s ||| 2 ^ a) n (Nat.or_lt_two_pow h pa) fun v hv => q v (List.mem_cons_of_mem _ hv)
theorem rg_facts {D : Nat → Nat → Prop} {n p : Nat} {T : List Nat} (hn : n ≤ 6) (hp : p < n) (hV : VCr D n p p [p] T) : setA 0 (p :: T) < 2 ^ n ∧ onS (setA 0 (p :: T) : Int) 16 = (T.length : Int) + 1 ∧ ∀ v : Nat, bit (setA 0 (p :: T) : Int) (v : Int) = 1 ↔ v ∈ p :: T := by
  have hm := vc_mem T p [p] hV
  have h0 : (0 : Nat) < 2 ^ n := Nat.pos_of_ne_zero (by simp)
  refine ⟨setA_ltn _ 0 n h0 fun v hv => ?_, ?_, fun v => ?_⟩
  · rcases List.mem_cons.1 hv with e | e
    · omega
    · exact (hm v e).1
  · have pa : 2 ^ p < 2 ^ 6 := Nat.pow_lt_pow_right (by omega) (by omega)
    have a := vc_on hn T p [p] (0 ||| 2 ^ p) (Nat.or_lt_two_pow (n := 6) (by omega) pa) hV fun v hv hb => by
      rw [bit_or] at hb
      by_cases c : v = p
      · rw [c]; exact List.mem_singleton.2 rfl
      · rw [if_neg c, bit_n, Nat.zero_div] at hb
        cases hb
    have b := rb_on (s := 0) (i := p) (by omega) (by omega) (by rw [bit_n, Nat.zero_div]; rfl)
    show onS (setA (0 ||| 2 ^ p) T : Int) 16 = _
    rw [a, b]
    have : onS ((0 : Nat) : Int) 16 = 0 := by decide
    omega
  · rw [setA_bit]
    constructor
    · rintro (h | h)
      · rw [bit_n, Nat.zero_div] at h; cases h
      · exact h
    · exact Or.inr
theorem rg_fc {D : Nat → Nat → Prop} {n m p : Nat} (hn : n ≤ 6) (hm : m < 2 ^ n) (bp : bit (m : Int) (p : Int) = 1) (low : ∀ j : Nat, j < p → bit (m : Int) (j : Int) = 0) : p < n ∧ ∀ T, FCr D n p (m - 2 ^ p) p T ↔ VCr D n p p [p] T ∧ setA 0 (p :: T) = m := by
  have hp : p < n := by
    apply Classical.byContradiction
    intro z
    rw [bit_big hm (by omega)] at bp
    omega
  have h64 : m < 64 := Nat.lt_of_lt_of_le hm (show 2 ^ n ≤ 2 ^ 6 from Nat.pow_le_pow_right (by omega) hn)
  obtain ⟨r1, r2⟩ := rb_rm h64 (show p < 6 by omega) bp
  refine ⟨hp, fun T => ?_⟩
  have K := fc_vc (D := D) (n := n) (p := p) hn T p [p] (m - 2 ^ p) (Nat.lt_of_le_of_lt (Nat.sub_le _ _) h64) fun v hv hb => by
    rw [r2 v hv] at hb
    by_cases c : v = p
    · rw [if_pos c] at hb; omega
    · rw [if_neg c] at hb
      refine ⟨?_, fun z => c (List.mem_singleton.1 z)⟩
      apply Classical.byContradiction
      intro y
      have := low v (by omega)
      omega
  rw [K]
  constructor
  · rintro ⟨v1, v2⟩
    refine ⟨v1, ?_⟩
    obtain ⟨f1, f2, f3⟩ := rg_facts hn hp v1
    refine rb_ext (Nat.lt_of_lt_of_le f1 (show 2 ^ n ≤ 2 ^ 6 from Nat.pow_le_pow_right (by omega) hn)) h64 fun i hi => ?_
    rw [f3 i, List.mem_cons, ← v2 i hi, r2 i hi]
    by_cases c : i = p
    · subst c; exact ⟨fun _ => bp, fun _ => Or.inl rfl⟩
    · rw [if_neg c]; exact ⟨fun z => by rcases z with z | z; exact absurd z c; exact z, Or.inr⟩
  · rintro ⟨v1, v2⟩
    refine ⟨v1, fun i hi => ?_⟩
    obtain ⟨f1, f2, f3⟩ := rg_facts hn hp v1
    rw [r2 i hi]
    by_cases c : i = p
    · rw [if_pos c]
      exact ⟨fun z => by omega, fun z => by have := (vc_mem T p [p] v1 i z).2.1; omega⟩
    · rw [if_neg c, ← v2, f3 i, List.mem_cons]
      exact ⟨fun z => by rcases z with z | z; exact absurd z c; exact z, Or.inr⟩
theorem rg_head {D : Nat → Nat → Prop} {n m p p' : Nat} {T : List Nat} (hn : n ≤ 6) (hp : p' < n) (hV : VCr D n p' p' [p'] T) (bp : bit (m : Int) (p : Int) = 1) (low : ∀ j : Nat, j < p → bit (m : Int) (j : Int) = 0) (he : setA 0 (p' :: T) = m) : p' = p := by
  obtain ⟨f1, f2, f3⟩ := rg_facts hn hp hV
  have a : bit (m : Int) (p' : Int) = 1 := by rw [← he, f3]; exact List.mem_cons_self
  have b : p ∈ p' :: T := by rw [← f3, he]; exact bp
  rcases List.mem_cons.1 b with b | b
  · exact b.symm
  · have := (vc_mem T p' [p'] hV p b).2.1
    have := low p' this
    omega
theorem rg_none {D : Nat → Nat → Prop} {n m p : Nat} (hn : n ≤ 6) (hm : m < 2 ^ n) (bp : bit (m : Int) (p : Int) = 1) (low : ∀ j : Nat, j < p → bit (m : Int) (j : Int) = 0) (hno : ∀ T, ¬ FCr D n p (m - 2 ^ p) p T) (c : Cd) (hc : c ∈ rgA D n) : c.2.1 ≠ (m : Int) := by
  intro e
  obtain ⟨p', T, hp', _, _, hV, rfl⟩ := rgA_mem.1 hc
  have he : setA 0 (p' :: T) = m := by
    have : ((setA 0 (p' :: T) : Nat) : Int) = (m : Int) := e
    omega
  have := rg_head hn hp' hV bp low he
  subst this
  exact hno T (((rg_fc hn hm bp low).2 T).2 ⟨hV, he⟩)
theorem rg_found {D : Nat → Nat → Prop} {n m p : Nat} {s : Int} {T : List Nat} (hn : n ≤ 6) (hm : m < 2 ^ n) (hs : onS (m : Int) 16 = s) (s2 : 2 ≤ s) (bp : bit (m : Int) (p : Int) = 1) (low : ∀ j : Nat, j < p → bit (m : Int) (j : Int) = 0) (hT : FCr D n p (m - 2 ^ p) p T) (hmin : ∀ T', FCr D n p (m - 2 ^ p) p T' → lxA T' T = false) (hprev : ∀ c, c ∈ rgA D n → c.1 ≤ 100 - s ∧ (c.1 = 100 - s → (m : Int) ≤ c.2.1)) : (rgA D n).foldl upU none = some (cnd (p :: T)) ∧ (T.length : Int) + 1 = s := by
  obtain ⟨hp, hfc⟩ := rg_fc (D := D) hn hm bp low
  obtain ⟨v1, v2⟩ := (hfc T).1 hT
  obtain ⟨f1, f2, f3⟩ := rg_facts hn hp v1
  rw [v2, hs] at f2
  have h6 : onS (m : Int) 16 ≤ 6 := (on_0 ⟨m, Nat.lt_of_lt_of_le hm (show 2 ^ n ≤ 2 ^ 6 from Nat.pow_le_pow_right (by omega) hn)⟩).2
  refine ⟨fold_is (rgA_mem.2 ⟨p, T, hp, fun z => by rw [z] at f2; simp at f2; omega, by omega, v1, rfl⟩) (by show (0 : Int) < 100 - ((T.length + 1 : Nat) : Int); omega) fun c hc => ?_, f2.symm⟩
  intro z
  have hpc := hprev c hc
  have e1 : (cnd (p :: T)).1 = 100 - s := by show 100 - ((T.length + 1 : Nat) : Int) = _; omega
  have e2 : (cnd (p :: T)).2.1 = (m : Int) := by show ((setA 0 (p :: T) : Nat) : Int) = _; rw [v2]
  unfold btr at z
  rw [e1, e2] at z
  rcases z with z | ⟨z, z' | ⟨z', z''⟩⟩
  · omega
  · have := hpc.2 z; omega
  · obtain ⟨p', T', hp', _, _, hV, rfl⟩ := rgA_mem.1 hc
    have he : setA 0 (p' :: T') = m := by
      have : ((setA 0 (p' :: T') : Nat) : Int) = (m : Int) := z'
      omega
    have := rg_head hn hp' hV bp low he
    subst this
    have y : lxA (p' :: T') (p' :: T) = true := z''
    rcases lx_cons.1 y with y | ⟨_, y⟩
    · omega
    · rw [hmin T' ((hfc T').2 ⟨hV, he⟩)] at y
      cases y
theorem rg_size {D : Nat → Nat → Prop} {n : Nat} (hn : n ≤ 6) (c : Cd) (hc : c ∈ rgA D n) : c.1 ≤ 98 ∧ 100 - (n : Int) ≤ c.1 ∧ 0 ≤ c.2.1 ∧ c.2.1 < ((2 ^ n : Nat) : Int) ∧ ∃ m : Nat, c.2.1 = (m : Int) ∧ onS (m : Int) 16 = 100 - c.1 := by
  obtain ⟨p, T, hp, t1, t2, hV, rfl⟩ := rgA_mem.1 hc
  obtain ⟨f1, f2, f3⟩ := rg_facts hn hp hV
  have l0 : 1 ≤ T.length := by
    cases T with
    | nil => exact absurd rfl t1
    | cons a t => rw [List.length_cons]; omega
  have q := on_n ⟨n, by omega⟩ ⟨setA 0 (p :: T), Nat.lt_of_lt_of_le f1 (show 2 ^ n ≤ 2 ^ 6 from Nat.pow_le_pow_right (by omega) hn)⟩ f1
  dsimp only at q
  have e1 : (cnd (p :: T)).1 = 100 - ((T.length : Int) + 1) := by show 100 - ((T.length + 1 : Nat) : Int) = _; omega
  have e2 : (cnd (p :: T)).2.1 = (setA 0 (p :: T) : Int) := rfl
  rw [e1, e2]
  refine ⟨by omega, by omega, by omega, ?_, setA 0 (p :: T), rfl, by omega⟩
  exact Int.ofNat_lt.2 f1
noncomputable def rgB (r : Nat → Int) : Option Cd := (rgA (rgD r) (r 0).toNat).foldl upU none
def rgV (b : Option Cd) (i : Int) : Int := match b with
  | none => -1
  | some x => if i = -1 then (x.2.2.length : Int) else if 0 ≤ i ∧ i < (x.2.2.length : Int) then ((x.2.2[i.toNat]?.getD 0 : Nat) : Int) else -1
theorem rgB_len {B : Int} {r : Nat → Int} (hV : Vr B r) {x : Cd} (h : rgB r = some x) : 2 ≤ x.2.2.length ∧ x.2.2.length ≤ 6 ∧ x.1 = 100 - (x.2.2.length : Int) := by
  have v0 := hV.1
  have a := fold_spec (rgA (rgD r) (r 0).toNat) none (fun y e => by cases e)
  unfold rgB at h
  rw [h] at a
  have m : x ∈ rgA (rgD r) (r 0).toNat := by rcases a.2.1 with m | m; exact m; cases m
  have z := rg_size (by omega) x m
  obtain ⟨p, T, hp, t1, t2, hV, rfl⟩ := rgA_mem.1 m
  have e1 : (cnd (p :: T)).1 = 100 - ((T.length : Int) + 1) := by show 100 - ((T.length + 1 : Nat) : Int) = _; omega
  have e2 : (cnd (p :: T)).2.2.length = T.length + 1 := rfl
  rw [e1] at z ⊢
  rw [e2]
  omega
section RO
variable {X : MX} {N : NN} {B : Int} {r : Nat → Int} {lw : Nat → Law}
def frRo (o k : Nat) : Prop := (o = 53 ∧ k = 4) ∨ o = 56
theorem c_ofRing {i : Int} (hW : CW X N 4 B r lw) : Ok (f_X9_ofRing X 4 N i) (fun o => o.1 = rgV (rgB r) i ∧ Fr npr N o.2) := by
  have hV := hW.2.1
  have v0 := hV.1
  unfold f_X9_ofRing f_X9_ofRing_j11 f_X9_ofRing_j112
  by_cases c1 : i < -1
  · rw [if_pos c1]
    refine ok_ret ⟨?_, fr_rfl⟩
    cases rgB r with
    | none => rfl
    | some x => unfold rgV; dsimp only; rw [if_neg (by omega), if_neg (by omega)]
  rw [if_neg c1]
  by_cases c2 : i < 6
  case neg =>
    rw [if_neg c2]
    refine ok_ret ⟨?_, fr_rfl⟩
    cases hb : rgB r with
    | none => rfl
    | some x => have := rgB_len hV hb; unfold rgV; dsimp only; rw [if_neg (by omega), if_neg (by omega)]
  rw [if_pos c2]
  refine ok_bd (c_many hW.1 (by omega) (by omega)) ?_
  obtain ⟨n, hn⟩ := Int.eq_ofNat_of_zero_le v0.1
  rw [show r (0 : Int).toNat = (n : Int) from hn, min_id, show min (n : Int) 6 = (n : Int) by omega]
  have f2 : Fr frRo N (m_up N 53 4 (n : Int)) := fr_up fr_rfl (Or.inl ⟨rfl, rfl⟩)
  have eB : rgB r = (rgA (rgD r) n).foldl upU none := by unfold rgB; rw [hn]; rfl
  have hn6 : n ≤ 6 := by omega
  have p2 : 2 ^ n ≤ 2 ^ 6 := Nat.pow_le_pow_right (by omega) hn6
  have p20 : 0 < 2 ^ n := Nat.pos_of_ne_zero (by simp)
  obtain ⟨A, hA⟩ : ∃ A, A = rgA (rgD r) n := ⟨_, rfl⟩
  have szA : ∀ c, c ∈ A → c.1 ≤ 98 ∧ 100 - (n : Int) ≤ c.1 ∧ 0 ≤ c.2.1 ∧ c.2.1 < ((2 ^ n : Nat) : Int) ∧ ∃ m : Nat, c.2.1 = (m : Int) ∧ onS (m : Int) 16 = 100 - c.1 := fun c hc => rg_size hn6 c (by rw [← hA]; exact hc)
  have H : Ok (lp (fun s => b_X9_ofRing_29 X 4 s.1 s.2.1 s.2.2) (m_up N 53 4 (n : Int), i, 2)) (fun o => (∃ M, o = .inl M ∧ rgB r = none ∧ Fr frRo N M) ∨ (∃ M x, o = .inr (M, i, (x.2.2.length : Int)) ∧ rgB r = some x ∧ Fr frRo N M ∧ ∀ j v : Nat, x.2.2[j]? = some v → M 56 j = (v : Int))) := by
    refine ok_up (fun s z => ∃ M, z = (M, i, s) ∧ Fr frRo N M ∧ M 53 4 = (n : Int) ∧ ∀ c, c ∈ A → c.1 ≤ 100 - s) (max ((n : Int) + 1) 2) (i0 := 2) ?_ ?_ (by omega) ⟨_, rfl, f2, up_s, fun c hc => by have := szA c hc; omega⟩
    · rintro s z a0 a1 ⟨M, rfl, hf, h4, hc⟩
      have IN : Ok (lp (fun z => b_X9_ofRing_40 X 4 z.1 z.2.1 z.2.2.1 z.2.2.2) (M, i, s, 0)) (fun o => (∃ M', o = .inl (M', i, s) ∧ (∀ c, c ∈ A → c.1 ≤ 100 - (s + 1)) ∧ Fr frRo N M' ∧ M' 53 4 = (n : Int)) ∨ (∃ M' x, o = .inr (M', i, s) ∧ s = (x.2.2.length : Int) ∧ rgB r = some x ∧ Fr frRo N M' ∧ ∀ j v : Nat, x.2.2[j]? = some v → M' 56 j = (v : Int))) := by
        refine ok_up (fun m z => ∃ M', z = (M', i, s, m) ∧ Fr frRo N M' ∧ M' 53 4 = (n : Int) ∧ ∀ c, c ∈ A → c.1 = 100 - s → m ≤ c.2.1) ((2 ^ n : Nat) : Int) (i0 := 0) ?_ ?_ (Int.natCast_nonneg _) ⟨M, rfl, hf, h4, fun c hc' _ => (szA c hc').2.2.1⟩
        · rintro m z b0 b1 ⟨M', rfl, hf', h4', hc'⟩
          obtain ⟨k, rfl⟩ := Int.eq_ofNat_of_zero_le b0
          have hk : k < 2 ^ n := Int.ofNat_lt.1 b1
          have hWM : CW X M' 4 B r lw := cw_fr hW hf' fun o k q => by unfold frRo at q; omega
          have skip : ∀ M2, Fr frRo N M2 → M2 53 4 = (n : Int) → (∀ c, c ∈ A → c.1 = 100 - s → c.2.1 ≠ (k : Int)) → Ok (some (.inl (M2, i, s, (k : Int) + 1)) : Option ((NN × Int × Int × Int) ⊕ ((NN × Int × Int) ⊕ (NN × Int × Int)))) (fun o => (∃ M', o = .inl (M', i, s, (k : Int) + 1) ∧ Fr frRo N M' ∧ M' 53 4 = (n : Int) ∧ ∀ c, c ∈ A → c.1 = 100 - s → (k : Int) + 1 ≤ c.2.1) ∨ (∃ M' x, o = .inr (.inr (M', i, s)) ∧ s = (x.2.2.length : Int) ∧ rgB r = some x ∧ Fr frRo N M' ∧ ∀ j v : Nat, x.2.2[j]? = some v → M' 56 j = (v : Int))) := by
            intro M2 g1 g2 g3
            refine ok_ret (Or.inl ⟨M2, rfl, g1, g2, fun c hcA e => ?_⟩)
            have := hc' c hcA e
            have := g3 c hcA e
            omega
          have G : Ok (b_X9_ofRing_40 X 4 M' i s (k : Int)) (fun o => (∃ M', o = .inl (M', i, s, (k : Int) + 1) ∧ Fr frRo N M' ∧ M' 53 4 = (n : Int) ∧ ∀ c, c ∈ A → c.1 = 100 - s → (k : Int) + 1 ≤ c.2.1) ∨ (∃ M' x, o = .inr (.inr (M', i, s)) ∧ s = (x.2.2.length : Int) ∧ rgB r = some x ∧ Fr frRo N M' ∧ ∀ j v : Nat, x.2.2[j]? = some v → M' 56 j = (v : Int))) := by
            unfold b_X9_ofRing_40 f_X9_ofRing_l40_j113
            rw [h4', shl1_id (by omega) (by omega), Int.toNat_natCast, if_pos b1, c_bitCount (by omega), Option.bind_some, w_id (x := (k : Int) + 1) (by omega) (by omega)]
            by_cases cs : onS (k : Int) 16 = s
            case neg =>
              rw [if_neg cs]
              refine skip M' hf' h4' fun c hcA e z => cs ?_
              obtain ⟨m, y1, y2⟩ := (szA c hcA).2.2.2.2
              have : m = k := by omega
              rw [← this, y2, e]
              omega
            rw [if_pos cs]
            have k0 : 0 < k := by
              apply Classical.byContradiction
              intro z
              have : k = 0 := by omega
              subst this
              have : onS ((0 : Nat) : Int) 16 = 0 := by decide
              omega
            obtain ⟨p, q0, q1, q2, q3, q4⟩ := c_ctz (X := X) (N := M') k0 (show k < 64 by omega)
            rw [q1, Option.bind_some, q4]
            obtain ⟨hpn, hfc⟩ := rg_fc (D := rgD r) hn6 hk q2 q3
            have os := on_sub ⟨k, by omega⟩ ⟨p, q0⟩ q2
            dsimp only at os
            have o6 := (on_0 ⟨k, by omega⟩).2
            dsimp only at o6
            have f5 : Fr frRo N (m_up M' 56 0 (p : Int)) := fr_up hf' (Or.inr rfl)
            have C := c_closes (X := X) (N := m_up M' 56 0 (p : Int)) hn6 hn (by omega) 5 8 p 0 (k - 2 ^ p) [p] (cw_fr hW f5 fun o k q => by unfold frRo at q; omega) rfl rfl (by omega) rfl rfl (fun i v q => by
              cases i with
              | zero => rw [List.getElem?_cons_zero] at q; cases q; rw [up_s]; exact ⟨rfl, by omega⟩
              | succ i => cases q) (Nat.lt_of_le_of_lt (Nat.sub_le _ _) (by omega)) (by rw [os]; omega) (by rw [up_o (by omega)]; exact h4')
            rw [show ((0 : Nat) : Int) + 1 + onS ((k - 2 ^ p : Nat) : Int) 16 = s by rw [os]; omega] at C
            refine ok_bind (show Ok (f_X9_closes X 8 (m_up M' 56 0 (p : Int)) 4 0 ((k - 2 ^ p : Nat) : Int) s) _ from C) ?_
            rintro ⟨fl, M7⟩ ⟨h1, h2, h3⟩
            dsimp only at h1 h2 h3 ⊢
            have f7 : Fr frRo N M7 := fr_tr f5 (fr_mono h3 fun o k q => Or.inr q)
            have m74 : M7 53 4 = (n : Int) := by rw [h3 53 4 (by unfold frRc; omega), up_o (by omega)]; exact h4'
            rcases h1 with ⟨rfl, h1⟩ | ⟨rfl, T, t1, t2, t3⟩
            · rw [i00]
              exact skip M7 f7 m74 fun c hcA e => rg_none hn6 hk q2 q3 h1 c (by rw [← hA]; exact hcA)
            · rw [i10]
              obtain ⟨y1, y2⟩ := rg_found hn6 hk cs a0 q2 q3 t1 t2 fun c hcA => ⟨hc c (by rw [hA]; exact hcA), fun e => hc' c (by rw [hA]; exact hcA) e⟩
              refine ok_ret (Or.inr ⟨M7, cnd (p :: T), rfl, ?_, by rw [eB]; exact y1, f7, t3⟩)
              show s = ((T.length + 1 : Nat) : Int)
              omega
          refine ok_mono G ?_
          rintro o (⟨M9, rfl, g1, g2, g3⟩ | ⟨M9, x, rfl, g⟩)
          · exact ⟨M9, rfl, g1, g2, g3⟩
          · exact Or.inr ⟨M9, x, rfl, g⟩
        · rintro z ⟨M', rfl, hf', h4', hc'⟩
          dsimp only
          unfold b_X9_ofRing_40
          rw [h4', shl1_id (by omega) (by omega), Int.toNat_natCast, if_neg (by omega)]
          refine ok_ret (Or.inl ⟨M', rfl, fun c hcA => ?_, hf', h4'⟩)
          have a := hc c hcA
          have b := szA c hcA
          by_cases e : c.1 = 100 - s
          · have := hc' c hcA e; omega
          · omega
      have G : Ok (b_X9_ofRing_29 X 4 M i s) (fun o => (∃ M, o = .inl (M, i, s + 1) ∧ Fr frRo N M ∧ M 53 4 = (n : Int) ∧ ∀ c, c ∈ A → c.1 ≤ 100 - (s + 1)) ∨ (∃ M x, o = .inr (.inr (M, i, (x.2.2.length : Int))) ∧ rgB r = some x ∧ Fr frRo N M ∧ ∀ j v : Nat, x.2.2[j]? = some v → M 56 j = (v : Int))) := by
        unfold b_X9_ofRing_29
        rw [h4, if_neg (by omega)]
        refine ok_bind IN ?_
        rintro o (⟨M', rfl, g1, g2, g3⟩ | ⟨M', x, rfl, g1, g2, g3, g4⟩)
        · dsimp only
          rw [w_id (x := s + 1) (by omega) (by omega)]
          exact ok_ret (Or.inl ⟨M', rfl, g2, g3, g1⟩)
        · dsimp only
          rw [g1]
          exact ok_ret (Or.inr ⟨M', x, rfl, g2, g3, g4⟩)
      refine ok_mono G ?_
      rintro o (⟨M9, rfl, g⟩ | ⟨M9, x, rfl, g⟩)
      · exact ⟨M9, rfl, g⟩
      · exact Or.inr ⟨M9, x, rfl, g⟩
    · rintro z ⟨M, rfl, hf, h4, hc⟩
      dsimp only
      unfold b_X9_ofRing_29
      rw [h4, if_pos (by omega)]
      refine ok_ret (Or.inl ⟨M, rfl, ?_, hf⟩)
      rw [eB, ← hA]
      have a := fold_spec A none (fun y e => by cases e)
      cases h1 : A.foldl upU none with
      | none => rfl
      | some x =>
        rw [h1] at a
        have m : x ∈ A := by rcases a.2.1 with m | m; exact m; cases m
        have := szA x m
        have := hc x m
        omega
  refine ok_bind H ?_
  rintro o (⟨M, rfl, g1, g2⟩ | ⟨M, x, rfl, g1, g2, g3⟩)
  · rw [g1]
    exact ok_ret ⟨rfl, fr_mono g2 fun o k q => by unfold frRo at q; unfold npr pC pM; omega⟩
  · have f9 : Fr npr N M := fr_mono g2 fun o k q => by unfold frRo at q; unfold npr pC pM; omega
    have ln := rgB_len hV g1
    rw [g1]
    unfold rgV
    dsimp only
    by_cases e1 : i = -1
    · rw [if_pos e1, if_pos e1]; exact ok_ret ⟨rfl, f9⟩
    rw [if_neg e1, if_neg e1]
    by_cases e2 : i < (x.2.2.length : Int)
    · rw [if_pos e2, if_pos (show 0 ≤ i ∧ i < (x.2.2.length : Int) by omega), if_pos (by omega)]
      have hi : i.toNat < x.2.2.length := by omega
      have eg := List.getElem?_eq_getElem hi
      refine ok_ret ⟨?_, f9⟩
      show M 56 i.toNat = _
      rw [g3 _ _ eg, eg]
      rfl
    · rw [if_neg e2, if_neg (by omega)]
      exact ok_ret ⟨rfl, f9⟩
end RO
