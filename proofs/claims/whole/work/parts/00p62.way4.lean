/-! way: the reference -/
def toR (r : Nat → Int) (h j : Nat) : Nat := (rr r j 0 + rr r j 1 - (h : Int)).toNat
def edF (r : Nat → Int) (h : Nat) : Nat → Nat → List Ed
  | _, 0 => []
  | j, m + 1 => (if rr r j 0 = (h : Int) ∨ rr r j 1 = (h : Int) then [(toR r h j, 10 - rr r j 3, rr r j 2)] else []) ++ edF r h (j + 1) m
theorem edF_mem {r : Nat → Int} {h : Nat} {x : Ed} : ∀ m j, x ∈ edF r h j m ↔ ∃ i, j ≤ i ∧ i < j + m ∧ (rr r i 0 = (h : Int) ∨ rr r i 1 = (h : Int)) ∧ x = (toR r h i, 10 - rr r i 3, rr r i 2)
  | 0, j => by
    rw [edF]
    constructor
    · intro q; cases q
    · rintro ⟨i, a, b, _⟩; omega
  | m + 1, j => by
    rw [edF, List.mem_append, edF_mem m (j + 1)]
    constructor
    · rintro (q | ⟨i, a, b, c⟩)
      · by_cases c : rr r j 0 = (h : Int) ∨ rr r j 1 = (h : Int)
        · rw [if_pos c] at q
          exact ⟨j, Nat.le_refl _, by omega, c, List.mem_singleton.1 q⟩
        · rw [if_neg c] at q; cases q
      · exact ⟨i, by omega, by omega, c⟩
    · rintro ⟨i, a, b, c, e⟩
      by_cases ij : i = j
      · subst ij
        rw [if_pos c, e]
        exact Or.inl (List.mem_singleton.2 rfl)
      · exact Or.inr ⟨i, by omega, by omega, c, e⟩
def edM (r : Nat → Int) (h : Nat) : List Ed := edF r h 0 (r 3).toNat
def prF (r ρ : Nat → Int) : Nat → Int
  | 0 => 1
  | i + 1 => prF r ρ i * (10 - rr r (ρ i) 3)
def dsF (r ρ : Nat → Int) : Nat → Int
  | 0 => 0
  | i + 1 => dsF r ρ i + rr r (ρ i) 2
theorem prF_c {r ρ σ : Nat → Int} : ∀ n, (∀ i, i < n → ρ i = σ i) → prF r ρ n = prF r σ n ∧ dsF r ρ n = dsF r σ n
  | 0, _ => ⟨rfl, rfl⟩
  | n + 1, h => by
    obtain ⟨a, b⟩ := prF_c n fun i hi => h i (by omega)
    rw [prF, prF, dsF, dsF, a, b, h n (by omega)]
    exact ⟨rfl, rfl⟩
theorem prF_b {B : Int} {r ρ : Nat → Int} (hV : Vr B r) : ∀ n, n ≤ 5 → (∀ i, i < n → 0 ≤ ρ i ∧ ρ i < r 3) → 0 ≤ prF r ρ n ∧ prF r ρ n ≤ m_tens n ∧ 0 ≤ dsF r ρ n ∧ dsF r ρ n ≤ 30 * (n : Int)
  | 0, _, _ => by
    show 0 ≤ (1 : Int) ∧ (1 : Int) ≤ 1 ∧ 0 ≤ (0 : Int) ∧ (0 : Int) ≤ 30 * ((0 : Nat) : Int)
    omega
  | n + 1, hn, h => by
    obtain ⟨a, b, c, d⟩ := prF_b hV n (by omega) fun i hi => h i (by omega)
    have hj := h n (by omega)
    have v := hV.2.2.2.2.2.2.2.2.2.2.2.2.2 (ρ n) hj.1 hj.2
    rw [prF, dsF, tens_s (by omega)]
    have m1 : 0 ≤ prF r ρ n * (10 - rr r (ρ n) 3) := Int.mul_nonneg a (by omega)
    have m2 : prF r ρ n * (10 - rr r (ρ n) 3) ≤ prF r ρ n * 10 := Int.mul_le_mul_of_nonneg_left (by omega) a
    omega
theorem tens_m {i n : Nat} (h : i ≤ n) (hn : n ≤ 5) : m_tens (5 - n) * m_tens i ≤ 100000 := by
  have t : ∀ n : Fin 6, ∀ i : Fin 6, i.val ≤ n.val → m_tens (5 - n.val) * m_tens i.val ≤ 100000 := by decide
  exact t ⟨n, by omega⟩ ⟨i, by omega⟩ h
def WBm (N : NN) (b : Option Cd) : Prop := match b with
  | none => N 64 53 = 0 ∧ N 64 54 = 0 ∧ N 64 55 = 0
  | some x => N 64 53 = x.1 ∧ N 64 54 = x.2.1 ∧ N 64 55 = (x.2.2.length : Int) - 1 ∧ 1 ≤ x.2.2.length ∧ x.2.2.length ≤ 6 ∧ (∀ i v : Nat, x.2.2[i]? = some v → N 94 i = (v : Int)) ∧ 0 < x.1
def PTm (N : NN) (P : List Nat) : Prop := ∀ i v : Nat, P[i]? = some v → N 93 i = (v : Int) ∧ v < 6
def frWw (o k : Nat) : Prop := (o = 64 ∧ (k = 53 ∨ k = 54 ∨ k = 55)) ∨ o = 94
theorem wbm_fr {N N' : NN} {b : Option Cd} (h : WBm N b) (h1 : N' 64 53 = N 64 53) (h2 : N' 64 54 = N 64 54) (h3 : N' 64 55 = N 64 55) (h4 : N' 94 = N 94) : WBm N' b := by
  cases b with
  | none => exact ⟨h1.trans h.1, h2.trans h.2.1, h3.trans h.2.2⟩
  | some x => exact ⟨h1.trans h.1, h2.trans h.2.1, h3.trans h.2.2.1, h.2.2.2.1, h.2.2.2.2.1, fun i v q => by rw [h4]; exact h.2.2.2.2.2.1 i v q, h.2.2.2.2.2.2⟩
section WR
variable {X : MX} {N : NN} {B : Int} {r : Nat → Int} {lw : Nat → Law}
theorem ref_isAhead {n : Nat} {P p : List Nat} (hl : P.length = n + 1) (hn : n ≤ 5) (hP : PTm N P) (hp1 : 1 ≤ p.length) (hp : p.length ≤ 6) (e55 : N 64 55 = (p.length : Int) - 1) (hp2 : ∀ i v : Nat, p[i]? = some v → N 94 i = (v : Int)) : f_X12_isAhead X N (n : Int) = some (if lxA P p = true then 1 else 0) := by
  have H : Ok (lp (fun s => b_X12_isAhead_2 X N s.1 s.2) ((n : Int), 0)) (fun t => (t = .inl (n : Int) ∧ lxA P p = decide (n + 1 < p.length)) ∨ ∃ i : Nat, t = .inr (i : Int) ∧ i < 6 ∧ lxA P p = decide (N 93 i < N 94 i)) := by
    refine ok_up (fun i z => z = ((n : Int), i) ∧ i.toNat ≤ p.length ∧ lxA P p = lxA (P.drop i.toNat) (p.drop i.toNat)) ((n : Int) + 1) (i0 := 0) ?_ ?_ (by omega) ⟨rfl, by omega, rfl⟩
    · rintro i z a0 a1 ⟨rfl, hle, he⟩
      obtain ⟨k, rfl⟩ := Int.eq_ofNat_of_zero_le a0
      rw [Int.toNat_natCast] at he hle
      dsimp only
      unfold b_X12_isAhead_2
      rw [if_neg (by omega), e55]
      have eP : P.drop k = P[k]'(by omega) :: P.drop (k + 1) := List.drop_eq_getElem_cons (by omega)
      have gP := hP k _ (List.getElem?_eq_getElem (show k < P.length by omega))
      by_cases c : (p.length : Int) - 1 < (k : Int)
      · rw [if_pos c]
        refine ok_ret (Or.inl ⟨rfl, ?_⟩)
        rw [he, eP, List.drop_eq_nil_of_le (show p.length ≤ k by omega), decide_eq_false (by omega)]
        rfl
      rw [if_neg c]
      have ep : p.drop k = p[k]'(by omega) :: p.drop (k + 1) := List.drop_eq_getElem_cons (by omega)
      have gp := hp2 k _ (List.getElem?_eq_getElem (show k < p.length by omega))
      simp (disch := omega) only [gdp, Int.toNat_natCast]
      rw [w_id (x := (k : Int) + 1) (by omega) (by omega)]
      rw [eP, ep] at he
      by_cases d' : N 93 k = N 94 k
      · have d : ((P[k]'(by omega) : Nat) : Int) = ((p[k]'(by omega) : Nat) : Int) := by rw [← gP.1, ← gp]; exact d'
        rw [if_pos d']
        refine ok_ret ⟨rfl, by omega, ?_⟩
        rw [show ((k : Int) + 1).toNat = k + 1 by omega, he, lxA, decide_eq_false (by omega), decide_eq_true (show P[k] = p[k] by omega)]
        simp
      · have d : ¬ ((P[k]'(by omega) : Nat) : Int) = ((p[k]'(by omega) : Nat) : Int) := by rw [← gP.1, ← gp]; exact d'
        rw [if_neg d']
        refine ok_ret (Or.inr ⟨k, rfl, by omega, ?_⟩)
        rw [he, lxA, gP.1, gp, decide_eq_false (show ¬ P[k] = p[k] by omega)]
        simp
    · rintro z ⟨rfl, hle, he⟩
      dsimp only
      unfold b_X12_isAhead_2
      rw [if_pos (by omega)]
      refine ok_ret (Or.inl ⟨rfl, ?_⟩)
      rw [show ((n : Int) + 1).toNat = n + 1 by omega] at he hle
      rw [he, List.drop_eq_nil_of_le (show P.length ≤ n + 1 by omega)]
      by_cases c : n + 1 < p.length
      · rw [List.drop_eq_getElem_cons c, decide_eq_true c]; rfl
      · rw [List.drop_eq_nil_of_le (by omega), decide_eq_false c]; rfl
  unfold f_X12_isAhead f_X12_isAhead_j70 f_X12_isAhead_j50
  obtain ⟨o, eo, po⟩ := H
  rw [eo, Option.bind_some]
  rcases po with ⟨rfl, q⟩ | ⟨i, rfl, hi, q⟩
  · dsimp only
    rw [e55, q]
    by_cases c : n + 1 < p.length
    · rw [if_pos (by omega), if_pos (by omega), if_pos (decide_eq_true c)]
    · rw [if_neg (by omega), if_pos (by omega), if_neg (by simpa using c)]
  · dsimp only
    rw [q]
    simp (disch := omega) only [gdp, Int.toNat_natCast]
    by_cases c : N 93 i < N 94 i
    · rw [if_pos c, if_pos (decide_eq_true c)]
    · rw [if_neg c, if_neg (by simpa using c)]
theorem ref_weigh {n : Nat} {P : List Nat} {b : Option Cd} (hM : MW N B r lw) (hl : P.length = n + 1) (hn : n ≤ 5) (hP : PTm N P) (hR : ∀ i, i < n → 0 ≤ N 95 i ∧ N 95 i < r 3) (hb : WBm N b) :
    Ok (f_X12_weighWay X N (n : Int)) (fun N' => WBm N' (upU b (m_tens (5 - n) * prF r (N 95) n, dsF r (N 95) n, P)) ∧ Fr frWw N N') := by
  have hV := hM.2.1
  have v3 := hV.2.2.2.1
  have T0 := tens_p (5 - n)
  have bnd : ∀ i, i ≤ n → 0 ≤ m_tens (5 - n) * prF r (N 95) i ∧ m_tens (5 - n) * prF r (N 95) i ≤ 100000 ∧ 0 ≤ dsF r (N 95) i ∧ dsF r (N 95) i ≤ 150 := fun i hi => by
    obtain ⟨a, b, c, d⟩ := prF_b hV i (by omega) fun j hj => hR j (by omega)
    have m1 : 0 ≤ m_tens (5 - n) * prF r (N 95) i := Int.mul_nonneg (Int.le_of_lt T0) a
    have m2 : m_tens (5 - n) * prF r (N 95) i ≤ m_tens (5 - n) * m_tens i := Int.mul_le_mul_of_nonneg_left b (Int.le_of_lt T0)
    have m3 := tens_m hi hn
    omega
  unfold f_X12_weighWay
  rw [w_id (x := 5 - (n : Int)) (by omega) (by omega), if_pos (by omega), show (5 - (n : Int)).toNat = 5 - n by omega]
  have H : Ok (lp (fun s => b_X12_weighWay_13 X s.1 s.2.1 s.2.2.1 s.2.2.2.1 s.2.2.2.2) (N, (n : Int), m_tens (5 - n), 0, 0)) (fun o => o = (N, (n : Int), m_tens (5 - n) * prF r (N 95) n, dsF r (N 95) n)) := by
    refine ok_up (fun i z => z = (N, (n : Int), m_tens (5 - n) * prF r (N 95) i.toNat, dsF r (N 95) i.toNat, i)) (n : Int) (i0 := 0) ?_ ?_ (by omega) (by show _ = (N, (n : Int), m_tens (5 - n) * 1, 0, 0); rw [Int.mul_one])
    · rintro i z a0 a1 rfl
      obtain ⟨k, rfl⟩ := Int.eq_ofNat_of_zero_le a0
      rw [Int.toNat_natCast, show ((k : Int) + 1).toNat = k + 1 by omega]
      have hj := hR k (by omega)
      have v := hV.2.2.2.2.2.2.2.2.2.2.2.2.2 (N 95 k) hj.1 hj.2
      obtain ⟨j, ej⟩ := Int.eq_ofNat_of_zero_le hj.1
      have b1 := bnd (k + 1) (by omega)
      rw [prF, dsF, ← Int.mul_assoc] at b1
      dsimp only
      unfold b_X12_weighWay_13
      rw [if_pos a1, prF, dsF, ← Int.mul_assoc]
      have e3 : N 66 (218 + 4 * N 95 k + 3).toNat = rr r (N 95 k) 3 := hM.1 _ (by omega)
      have e2 : N 66 (218 + 4 * N 95 k + 2).toNat = rr r (N 95 k) 2 := hM.1 _ (by omega)
      simp (disch := omega) only [Int.toNat_natCast, gdp, w_id (x := 4 * N 95 k), w_id (x := 218 + 4 * N 95 k), w_id (x := 218 + 4 * N 95 k + 3), w_id (x := 218 + 4 * N 95 k + 2), e3, e2, w_id (x := (k : Int) + 1), w_id (x := 10 - rr r (N 95 k) 3), w_id (x := m_tens (5 - n) * prF r (N 95) k * (10 - rr r (N 95 k) 3)), w_id (x := dsF r (N 95) k + rr r (N 95 k) 2)]
      exact ok_ret rfl
    · rintro z rfl
      dsimp only
      unfold b_X12_weighWay_13
      rw [if_neg (by omega), Int.toNat_natCast]
      exact ok_ret rfl
  refine ok_bind H ?_
  rintro o rfl
  dsimp only
  have bn := bnd n (Nat.le_refl _)
  generalize hs : m_tens (5 - n) * prF r (N 95) n = s at *
  generalize hd : dsF r (N 95) n = d at *
  unfold f_X12_weighWay_j118 f_X12_weighWay_j122 f_X12_weighWay_j123
  rw [i10, i00]
  have take : 0 < s → Ok (Option.bind (lp (fun s => b_X12_weighWay_149 X s.1 s.2.1 s.2.2) (m_up (m_up (m_up N 64 53 s) 64 54 d) 64 55 (n : Int), (n : Int), 0)) (fun o22 => some o22)) (fun N' => WBm N' (some (s, d, P)) ∧ Fr frWw N N') := by
    intro s0
    have H2 : Ok (lp (fun s => b_X12_weighWay_149 X s.1 s.2.1 s.2.2) (m_up (m_up (m_up N 64 53 s) 64 54 d) 64 55 (n : Int), (n : Int), 0)) (fun N' => WBm N' (some (s, d, P)) ∧ Fr frWw N N') := by
      refine ok_up (fun i z => ∃ M, z = (M, (n : Int), i) ∧ M 64 53 = s ∧ M 64 54 = d ∧ M 64 55 = (n : Int) ∧ (∀ j : Nat, (j : Int) < i → M 94 j = N 93 j) ∧ Fr frWw N M) ((n : Int) + 1) (i0 := 0) ?_ ?_ (by omega) ⟨_, rfl, by rw [up_k (by omega), up_k (by omega), up_s], by rw [up_k (by omega), up_s], up_s, fun j h => by omega, fr_up (fr_up (fr_up fr_rfl (by unfold frWw; omega)) (by unfold frWw; omega)) (by unfold frWw; omega)⟩
      · rintro i z a0 a1 ⟨M, rfl, m3, m4, m5, mj, mf⟩
        obtain ⟨k, rfl⟩ := Int.eq_ofNat_of_zero_le a0
        dsimp only
        unfold b_X12_weighWay_149
        rw [if_neg (by omega)]
        simp (disch := omega) only [gdp, Int.toNat_natCast, w_id (x := (k : Int) + 1)]
        refine ok_ret ⟨_, rfl, by rw [up_o (by omega)]; exact m3, by rw [up_o (by omega)]; exact m4, by rw [up_o (by omega)]; exact m5, fun j hj => ?_, fr_up mf (by unfold frWw; omega)⟩
        rw [up_a]
        by_cases c : j = k
        · rw [if_pos c, c, mf 93 k (by unfold frWw; omega)]
        · rw [if_neg c]; exact mj j (by omega)
      · rintro z ⟨M, rfl, m3, m4, m5, mj, mf⟩
        dsimp only
        unfold b_X12_weighWay_149
        rw [if_pos (by omega)]
        refine ok_ret ⟨⟨m3, m4, ?_, by show 1 ≤ P.length; omega, by show P.length ≤ 6; omega, fun i v q => ?_, s0⟩, mf⟩
        · rw [m5]; show (n : Int) = (P.length : Int) - 1; omega
        · rw [mj i (by have z : i < P.length := get_lt q; omega)]
          exact (hP i v q).1
    refine ok_bind H2 ?_
    intro o q
    exact ok_ret q
  cases b with
  | none =>
    obtain ⟨b1, b2, b3⟩ := hb
    by_cases q : 0 < s
    · rw [if_pos (show N 64 53 < s by omega)]
      have : upU none (s, d, P) = some (s, d, P) := if_pos q
      rw [this]
      exact take q
    · have : upU none (s, d, P) = none := if_neg q
      rw [if_neg (show ¬ N 64 53 < s by omega), if_pos (show s = N 64 53 by omega), if_neg q, this]
      exact ok_ret ⟨⟨b1, b2, b3⟩, fr_rfl⟩
  | some x =>
    have hb' := hb
    obtain ⟨b1, b2, b3, b4, b5, b6, b7⟩ := hb'
    have keep : ¬ btr (s, d, P) x → Ok (some N) (fun N' => WBm N' (upU (some x) (s, d, P)) ∧ Fr frWw N N') := fun q => by
      rw [upU_f q]
      exact ok_ret ⟨hb, fr_rfl⟩
    by_cases c1 : x.1 < s
    · rw [if_pos (show N 64 53 < s by omega), upU_t (Or.inl c1)]
      exact take (by omega)
    rw [if_neg (show ¬ N 64 53 < s by omega)]
    by_cases c2 : s = x.1
    case neg =>
      rw [if_neg (show ¬ s = N 64 53 by omega)]
      refine keep fun z => ?_
      unfold btr at z
      dsimp only at z
      omega
    rw [if_pos (show s = N 64 53 by omega), if_pos (show 0 < s by omega)]
    by_cases c3 : d < x.2.1
    · rw [if_pos (show d < N 64 54 by omega), upU_t (Or.inr ⟨c2, Or.inl c3⟩)]
      exact take (by omega)
    rw [if_neg (show ¬ d < N 64 54 by omega)]
    by_cases c4 : d = x.2.1
    case neg =>
      rw [if_neg (show ¬ d = N 64 54 by omega)]
      refine keep fun z => ?_
      unfold btr at z
      dsimp only at z
      omega
    rw [if_pos (show d = N 64 54 by omega), ref_isAhead hl hn hP b4 b5 b3 b6, Option.bind_some]
    by_cases c5 : lxA P x.2.2 = true
    · rw [if_pos c5, i10, upU_t (Or.inr ⟨c2, Or.inr ⟨c4, c5⟩⟩)]
      exact take (by omega)
    · rw [if_neg c5, i00]
      refine keep fun z => ?_
      unfold btr at z
      dsimp only at z
      rcases z with z | ⟨_, z | ⟨_, z⟩⟩
      · omega
      · omega
      · exact c5 z
theorem ref_goesOn {k h j : Nat} {P : List Nat} (hM : MW N B r lw) (hl : P.length = k + 1) (hk : k ≤ 4) (hh : P[k]? = some h) (hP : PTm N P) (hj : (j : Int) < r 3) :
    Ok (f_X12_goesOn X N (k : Int) (j : Int)) (fun o => o.1 = (if (rr r j 0 = (h : Int) ∨ rr r j 1 = (h : Int)) ∧ toR r h j ∉ P then 1 else 0) ∧ ((rr r j 0 = (h : Int) ∨ rr r j 1 = (h : Int)) ∧ toR r h j ∉ P → o.2 93 (k + 1) = (toR r h j : Int)) ∧ Fr (fun o i => o = 93 ∧ i = k + 1) N o.2) := by
  have hV := hM.2.1
  have v0 := hV.1
  have v3 := hV.2.2.2.1
  have v := hV.2.2.2.2.2.2.2.2.2.2.2.2.2 j (by omega) hj
  have hp := hP k h hh
  have e0 : N 66 (218 + 4 * (j : Int)).toNat = rr r j 0 := by rw [hM.1 _ (by omega)]; unfold rr; congr 1
  have e1 : N 66 (218 + 4 * (j : Int) + 1).toNat = rr r j 1 := hM.1 _ (by omega)
  unfold f_X12_goesOn
  simp (disch := omega) only [gdp, Int.toNat_natCast, hp.1, w_id (x := 4 * (j : Int)), w_id (x := 218 + 4 * (j : Int)), w_id (x := 218 + 4 * (j : Int) + 1), e0, e1]
  have J : (rr r j 0 = (h : Int) ∨ rr r j 1 = (h : Int)) → Ok (f_X12_goesOn_j42 X N (k : Int) (218 + 4 * (j : Int)) (h : Int)) (fun o => o.1 = (if (rr r j 0 = (h : Int) ∨ rr r j 1 = (h : Int)) ∧ toR r h j ∉ P then 1 else 0) ∧ ((rr r j 0 = (h : Int) ∨ rr r j 1 = (h : Int)) ∧ toR r h j ∉ P → o.2 93 (k + 1) = (toR r h j : Int)) ∧ Fr (fun o i => o = 93 ∧ i = k + 1) N o.2) := by
    intro hc
    have et : (toR r h j : Int) = rr r j 0 + rr r j 1 - (h : Int) := by unfold toR; omega
    unfold f_X12_goesOn_j42
    simp (disch := omega) only [gdp, w_id (x := 218 + 4 * (j : Int) + 1), e0, e1, w_id (x := rr r j 0 + rr r j 1), w_id (x := rr r j 0 + rr r j 1 - (h : Int))]
    rw [← et]
    generalize toR r h j = t at et ⊢
    have H : Ok (lp (fun s => b_X12_goesOn_68 X s.1 s.2.1 s.2.2.1 s.2.2.2.1 s.2.2.2.2) (N, (k : Int), (t : Int), 1, 0)) (fun o => o = (N, (k : Int), (t : Int), if t ∈ P.take (k + 1) then 0 else 1)) := by
      refine ok_up (fun i z => z = (N, (k : Int), (t : Int), (if t ∈ P.take i.toNat then 0 else 1), i)) ((k : Int) + 1) (i0 := 0) ?_ ?_ (by omega) ?_
      · rintro i z a0 a1 rfl
        obtain ⟨m, rfl⟩ := Int.eq_ofNat_of_zero_le a0
        rw [Int.toNat_natCast, show ((m : Int) + 1).toNat = m + 1 by omega]
        have gm := hP m _ (List.getElem?_eq_getElem (show m < P.length by omega))
        have mt : t ∈ P.take (m + 1) ↔ t ∈ P.take m ∨ t = P[m]'(by omega) := by
          rw [List.take_succ_eq_append_getElem (show m < P.length by omega), List.mem_append, List.mem_singleton]
        dsimp only
        unfold b_X12_goesOn_68 f_X12_goesOn_l68_j95 f_X12_goesOn_l68_j96
        rw [if_neg (by omega), w_id (x := (m : Int) + 1) (by omega) (by omega)]
        by_cases c : t ∈ P.take m
        · rw [if_pos c, i00, if_pos (mt.2 (Or.inl c))]
          exact ok_ret rfl
        · rw [if_neg c, i10, gdp (by omega), Int.toNat_natCast, gm.1]
          by_cases c2 : ((P[m]'(by omega) : Nat) : Int) = (t : Int)
          · rw [if_pos c2, if_pos (mt.2 (Or.inr (by omega)))]
            exact ok_ret rfl
          · rw [if_neg c2, if_neg (fun z => by rcases mt.1 z with z | z; exact c z; exact c2 (by omega))]
            exact ok_ret rfl
      · rintro z rfl
        dsimp only
        unfold b_X12_goesOn_68
        rw [if_pos (by omega), show ((k : Int) + 1).toNat = k + 1 by omega]
        exact ok_ret rfl
      · rw [show (0 : Int).toNat = 0 from rfl, List.take_zero, if_neg (by simp)]
    rw [show P.take (k + 1) = P by rw [← hl, List.take_length]] at H
    refine ok_bind H ?_
    rintro o rfl
    dsimp only
    unfold f_X12_goesOn_j129
    rw [w_id (x := (k : Int) + 1) (by omega) (by omega)]
    by_cases c : t ∈ P
    · rw [if_pos c, i00, if_pos (by omega), if_pos (by omega), if_pos (by omega)]
      refine ok_ret ⟨by rw [if_neg (fun z => z.2 c)], fun z => absurd c z.2, fr_up fr_rfl ⟨rfl, by omega⟩⟩
    · rw [if_neg c, i10, if_pos (by omega), if_pos (by omega)]
      refine ok_ret ⟨by rw [if_pos ⟨hc, c⟩], fun z => ?_, fr_up fr_rfl ⟨rfl, by omega⟩⟩
      show m_up N 93 ((k : Int) + 1).toNat (t : Int) 93 (k + 1) = _
      rw [show ((k : Int) + 1).toNat = k + 1 by omega, up_s]
  by_cases c0 : rr r j 0 = (h : Int)
  · rw [if_pos c0]; exact J (Or.inl c0)
  rw [if_neg c0]
  by_cases c1 : rr r j 1 = (h : Int)
  · rw [if_pos c1]; exact J (Or.inr c1)
  rw [if_neg c1]
  exact ok_ret ⟨by rw [if_neg (fun z => by omega)], fun z => by omega, fr_rfl⟩
end WR
