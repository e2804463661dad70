/-! the reference: what stands, what the law in force says -/
section MJ
variable {X : MX} {N : NN} {B : Int} {r : Nat → Int} {lw : Nat → Law}
theorem ref_in {a b c : Int} : f_X12_in X N a b c = some (if b ≤ a ∧ a ≤ c then 1 else 0) := by
  unfold f_X12_in f_X12_in_j17 f_X12_in_j18
  by_cases h : a < b
  · rw [if_pos (lcmp_lt.mpr h), if_pos (by omega), if_neg (by omega)]
  · rw [if_neg (fun q => h (lcmp_lt.mp q))]
    by_cases h2 : c < a
    · rw [if_pos (lcmp_gt.mpr h2), if_pos (by omega), if_neg (by omega)]
    · rw [if_neg (fun q => h2 (lcmp_gt.mp q)), if_pos (by omega), if_pos (by omega)]
theorem ref_within {a b c : Int} (h1 : -2147483648 ≤ b) (h2 : b ≤ c) (h3 : c ≤ 2147483647) : f_X12_within X N a b c = some (max b (min c a)) := by
  unfold f_X12_within f_X12_within_j24
  by_cases h : a < b
  · rw [if_pos (lcmp_lt.mpr h)]; congr 1; omega
  · rw [if_neg (fun q => h (lcmp_lt.mp q))]
    by_cases h2 : c < a
    · rw [if_pos (lcmp_gt.mpr h2)]; congr 1; omega
    · rw [if_neg (fun q => h2 (lcmp_gt.mp q)), w_id (by omega) (by omega)]; congr 1; omega
theorem ref_is {a k : Int} (h0 : 0 ≤ a) (h1 : a ≤ 2147483647) (h2 : 0 ≤ k) (h3 : k ≤ 31) : f_X12_is X N a k = some (bit a k) := by
  unfold f_X12_is f_X12_is_j14
  rw [bit_id h0 h1 h2 h3]
  rcases bit_01 a k with h | h
  · rw [h, if_neg (by omega), if_pos (by omega)]
  · rw [h, if_pos (by omega), if_pos (by omega)]
theorem ref_ofLord {l k : Int} (hr : ∀ i, i < 270 → N 66 i = r i) (h0 : 0 ≤ l) (h1 : l ≤ 5) (h2 : 0 ≤ k) (h3 : k ≤ 5) : f_X12_ofLord X N l k = some (rl r l k) := by
  simp (disch := omega) only [f_X12_ofLord, w_id, gdp]
  rw [hr _ (by omega)]; rfl
theorem ref_ofGood {g k : Int} (hr : ∀ i, i < 270 → N 66 i = r i) (h0 : 0 ≤ g) (h1 : g ≤ 15) (h2 : 0 ≤ k) (h3 : k ≤ 5) : f_X12_ofGood X N g k = some (rg r g k) := by
  simp (disch := omega) only [f_X12_ofGood, w_id, gdp]
  rw [hr _ (by omega)]; rfl
theorem ref_isLord {l : Int} (hr : ∀ i, i < 270 → N 66 i = r i) (hV : Vr B r) : f_X12_isLord X N l = some (if 0 ≤ l ∧ l < r 0 then 1 else 0) := by
  have v := hV.1
  unfold f_X12_isLord
  rw [hr 0 (by omega), wl_id (by omega) (by omega), ref_in, Option.bind_some]
  by_cases h : 0 ≤ l ∧ l < r 0
  · rw [if_pos (show 0 ≤ l ∧ l ≤ r 0 - 1 by omega), if_pos h, if_pos (by omega)]
  · rw [if_neg (show ¬ (0 ≤ l ∧ l ≤ r 0 - 1) by omega), if_neg h, if_pos (by omega)]
theorem ref_isGood {l : Int} (hr : ∀ i, i < 270 → N 66 i = r i) (hV : Vr B r) : f_X12_isGood X N l = some (if 0 ≤ l ∧ l < r 1 then 1 else 0) := by
  have v := hV.2.1
  unfold f_X12_isGood
  rw [hr 1 (by omega), wl_id (by omega) (by omega), ref_in, Option.bind_some]
  by_cases h : 0 ≤ l ∧ l < r 1
  · rw [if_pos (show 0 ≤ l ∧ l ≤ r 1 - 1 by omega), if_pos h, if_pos (by omega)]
  · rw [if_neg (show ¬ (0 ≤ l ∧ l ≤ r 1 - 1) by omega), if_neg h, if_pos (by omega)]
theorem ref_year (hr : ∀ i, i < 270 → N 66 i = r i) : f_X12_year X N = some (r 6) := by
  unfold f_X12_year
  rw [hr 6 (by omega)]
theorem ref_held {l : Int} (hr : ∀ i, i < 270 → N 66 i = r i) (hV : Vr B r) : f_X12_held X N l = some (heldS r l) := by
  have hn := hV.2.1
  have e1 : N 66 1 = r 1 := hr 1 (by omega)
  have H : Ok (lp (fun s : Int × Int × Int => b_X12_held_4 X N s.1 s.2.1 s.2.2) (l, 0, 0)) (fun o => o = heldS r l) := by
    refine ok_up (fun i s => s = (l, sm (fun g => if rg r g 0 = l then 1 else 0) i.toNat, i)) (r 1) (i0 := 0) ?_ ?_ hn.1 rfl
    · intro i s h0 h1 e
      subst e
      have hb := sm_b (f := fun g : Nat => if rg r g 0 = l then (1 : Int) else 0) (B := 1) (n := i.toNat) (fun k _ => by split <;> omega)
      have hi : ((i.toNat : Nat) : Int) = i := by omega
      simp only [b_X12_held_4, f_X12_held_l4_j30, e1, ref_ofGood hr h0 (show i ≤ 15 by omega) (k := 0) (by omega) (by omega), Option.bind_some]
      rw [if_pos h1]
      have es : sm (fun g : Nat => if rg r g 0 = l then (1 : Int) else 0) (i + 1).toNat = sm (fun g : Nat => if rg r g 0 = l then (1 : Int) else 0) i.toNat + (if rg r i 0 = l then 1 else 0) := by
        rw [show (i + 1).toNat = i.toNat + 1 by omega, sm_s, hi]
      by_cases c : rg r i 0 = l
      · rw [if_pos c]
        refine ok_ret ?_
        show _ = _
        rw [es, if_pos c, w_id (by omega) (by omega), w_id (by omega) (by omega)]
      · rw [if_neg c]
        refine ok_ret ?_
        show _ = _
        rw [es, if_neg c, w_id (by omega) (by omega), w_id (by omega) (by omega)]
    · intro s e
      subst e
      simp only [b_X12_held_4, e1]
      rw [if_neg (by omega)]
      exact ok_ret rfl
  obtain ⟨a, e, q⟩ := H
  unfold f_X12_held
  rw [e, Option.bind_some, q]
theorem ref_tells1 {k g a b h y wo : Int} (hM : MW N B r lw) (hk : 0 ≤ k ∧ k ≤ 2) (h0 : 0 ≤ g) (h1 : g < r 1) (he : EnvOK (evE r g a b h y)) : Ok (f_X12_tells1 X N k g a b h y wo) (fun o => o.1 = (tellS r lw k (evE r g a b h y)).getD wo ∧ Fr frM N o.2) := by
  obtain ⟨hr, hV, hB, hO, hS⟩ := hM
  have v1 := hV.2.1
  have v4 := hV.2.2.2.2.1
  have v5 := hV.2.2.2.2.2.1
  have e5 : N 66 5 = r 5 := hr 5 (by omega)
  unfold f_X12_tells1
  rw [e5]
  by_cases c5 : r 5 = -1
  · rw [if_pos c5]
    refine ok_ret ⟨?_, fr_rfl⟩
    unfold tellS
    rw [if_pos (by omega)]; rfl
  rw [if_neg c5, w_id (x := 900 * r 5) (by omega) (by omega), w_id (by omega) (by omega)]
  dsimp only
  have up66 : ∀ {M : NN} {o k : Nat} {x : Int}, (∀ i, i < 270 → M 66 i = r i) → o ≠ 66 → ∀ i, i < 270 → m_up M o k x 66 i = r i := by
    intro M o k x q n i hi
    rw [up_o (fun z => n z.symm)]
    exact q i hi
  have a1 := up66 (o := 81) (k := 1) (x := g) (up66 (o := 64) (k := 33) (x := 270 + 900 * r 5) hr (by omega)) (by omega)
  have a2 := up66 (o := 81) (k := 2) (x := rg r g 2) a1 (by omega)
  have a3 := up66 (o := 81) (k := 3) (x := rg r g 3) a2 (by omega)
  refine ok_bd (ref_ofGood a1 h0 (by omega) (by omega) (by omega)) ?_
  refine ok_bd (ref_ofGood a2 h0 (by omega) (by omega) (by omega)) ?_
  refine ok_bd (ref_ofGood a3 h0 (by omega) (by omega) (by omega)) ?_
  have f13 : Fr frM N (m_up (m_up (m_up (m_up (m_up (m_up (m_up (m_up (m_up (m_up N 64 33 (270 + 900 * r 5)) 81 1 g) 81 2 (rg r g 2)) 81 3 (rg r g 3)) 81 4 (rg r g 4)) 81 5 a) 81 6 b) 81 7 y) 81 8 h) 81 9 (r 8)) := by
    have p : ∀ k, frM 81 k := fun k => Or.inl rfl
    exact fr_up (fr_up (fr_up (fr_up (fr_up (fr_up (fr_up (fr_up (fr_up (fr_up fr_rfl (by unfold frM; omega)) (p _)) (p _)) (p _)) (p _)) (p _)) (p _)) (p _)) (p _)) (p _)
  have e8 : m_up (m_up (m_up (m_up (m_up (m_up (m_up (m_up (m_up N 64 33 (270 + 900 * r 5)) 81 1 g) 81 2 (rg r g 2)) 81 3 (rg r g 3)) 81 4 (rg r g 4)) 81 5 a) 81 6 b) 81 7 y) 81 8 h 66 8 = r 8 := by
    simp (disch := omega) only [up_o]
    exact hr 8 (by omega)
  rw [e8]
  have e33 : m_up (m_up (m_up (m_up (m_up (m_up (m_up (m_up (m_up (m_up N 64 33 (270 + 900 * r 5)) 81 1 g) 81 2 (rg r g 2)) 81 3 (rg r g 3)) 81 4 (rg r g 4)) 81 5 a) 81 6 b) 81 7 y) 81 8 h) 81 9 (r 8) 64 33 = 270 + 900 * r 5 := by
    simp (disch := omega) only [up_o, up_s]
  have eN : ∀ j, j < 9 → m_up (m_up (m_up (m_up (m_up (m_up (m_up (m_up (m_up (m_up N 64 33 (270 + 900 * r 5)) 81 1 g) 81 2 (rg r g 2)) 81 3 (rg r g 3)) 81 4 (rg r g 4)) 81 5 a) 81 6 b) 81 7 y) 81 8 h) 81 9 (r 8) 81 (j + 1) = evE r g a b h y j := by
    intro j hj
    match j, hj with
    | 0, _ => simp (disch := omega) only [up_s, up_k]; rfl
    | 1, _ => simp (disch := omega) only [up_s, up_k]; rfl
    | 2, _ => simp (disch := omega) only [up_s, up_k]; rfl
    | 3, _ => simp (disch := omega) only [up_s, up_k]; rfl
    | 4, _ => simp (disch := omega) only [up_s, up_k]; rfl
    | 5, _ => simp (disch := omega) only [up_s, up_k]; rfl
    | 6, _ => simp (disch := omega) only [up_s, up_k]; rfl
    | 7, _ => simp (disch := omega) only [up_s, up_k]; rfl
    | 8, _ => simp (disch := omega) only [up_s, up_k]; rfl
  revert f13 e33 eN
  generalize m_up (m_up (m_up (m_up (m_up (m_up (m_up (m_up (m_up (m_up N 64 33 (270 + 900 * r 5)) 81 1 g) 81 2 (rg r g 2)) 81 3 (rg r g 3)) 81 4 (rg r g 4)) 81 5 a) 81 6 b) 81 7 y) 81 8 h) 81 9 (r 8) = N2
  revert he
  have eT : tellS r lw k (evE r g a b h y) = tS (lw (r 5).toNat) k (evE r g a b h y) := by unfold tellS; rw [if_neg (by omega)]
  rw [eT]
  generalize evE r g a b h y = e
  intro he f2 e33 eN
  obtain ⟨i, hi⟩ : ∃ i : Nat, r 5 = (i : Int) := ⟨(r 5).toNat, by omega⟩
  rw [hi] at e33 ⊢
  rw [Int.toNat_natCast]
  obtain ⟨s1, s2, s3, s4⟩ := hS i (by omega)
  generalize lw i = L at s1 s2 s3 s4 ⊢
  have H : Ok (lp (fun s : NN × Int × Int × Int => b_X12_tells1_138 X s.1 s.2.1 s.2.2.1 s.2.2.2) (N2, k, wo, 0)) (fun o => o.2 = (tS L k e).getD wo ∧ Fr frM N o.1) := by
    refine ok_up (fun c s => ∃ N', s = (N', k, (tK (fun i => clT k (L.2 i) e) c.toNat).getD wo, c) ∧ Fr frM N N' ∧ N' 64 33 = 270 + 900 * (i : Int) ∧ (∀ j, j < 9 → N' 81 (j + 1) = e j)) (L.1 : Int) (i0 := 0) ?_ ?_ (by omega) ⟨N2, rfl, f2, e33, eN⟩
    · rintro c s c0 c1 ⟨N', rfl, hf, h33, hN'⟩
      obtain ⟨c, rfl⟩ := Int.eq_ofNat_of_zero_le c0
      have e66 : N' 66 = N 66 := fr_of hf 66 fun k z => by unfold frM at z; omega
      have eO : N' 64 20 = 0 := (hf 64 20 (by unfold frM; omega)).trans hO
      dsimp only
      unfold b_X12_tells1_138 f_X12_tells1_l138_j201 f_X12_tells1_l138_j203
      rw [h33, e66]
      simp (disch := omega) only [w_id, gdp]
      rw [show (270 + 900 * (i : Int) + 1).toNat = 270 + 900 * i + 1 by omega, show (270 + 900 * (i : Int) + 2 + 8 * (c : Int)).toNat = 270 + 900 * i + (2 + 8 * c) by omega]
      have s2' : N 66 (270 + 900 * i + 1) = (L.1 : Int) := s2
      have s3' : N 66 (270 + 900 * i + (2 + 8 * c)) = (L.2 c).1 := s3 c (by omega)
      rw [s2', s3', if_pos c1]
      obtain ⟨t1, t2⟩ := s4 X N' eO h33 (fun j _ => by rw [e66]) e he hN' c (by omega)
      have eK : tK (fun i => clT k (L.2 i) e) ((c : Int) + 1).toNat = (clT k (L.2 c) e).or (tK (fun i => clT k (L.2 i) e) c) := by
        rw [show ((c : Int) + 1).toNat = c + 1 by omega, tK]
      have ec : ((c : Int)).toNat = c := by omega
      by_cases d : (L.2 c).1 = k
      · rw [if_pos d]
        refine ok_bind t2 ?_
        rintro ⟨z, N3⟩ ⟨f3, z1, z2⟩
        dsimp only at f3 z1 z2 ⊢
        have f3' : Fr frM N' N3 := fr_mono f3 fun o k q => by unfold frM1 at q; unfold frM; omega
        have h33' : N3 64 33 = 270 + 900 * (i : Int) := (f3 64 33 (by unfold frM1; omega)).trans h33
        have hN3 : ∀ j, j < 9 → N3 81 (j + 1) = e j := fun j hj => (f3 81 (j + 1) (by unfold frM1; omega)).trans (hN' j hj)
        by_cases d2 : (L.2 c).2.1 e = true
        · cases hv : (L.2 c).2.2 e with
          | none =>
            rw [if_neg (by rw [hv]; simp)] at z1
            rw [if_pos z1]
            refine ok_ret ⟨N3, ?_, fr_tr hf f3', h33', hN3⟩
            rw [eK, clT, if_pos ⟨d, d2⟩, hv, ec]; rfl
          | some v =>
            rw [if_pos (by rw [hv]; exact ⟨d2, rfl⟩)] at z1
            rw [if_neg (by omega)]
            by_cases k2 : k = 2
            · rw [if_pos k2]
              have := t1 (by omega)
              rw [hv] at this
              refine ok_ret ⟨N3, ?_, fr_tr hf f3', h33', hN3⟩
              rw [eK, clT, if_pos ⟨d, d2⟩, hv, this]; rfl
            · rw [if_neg k2, z2 d2 (by omega) v hv]
              refine ok_ret ⟨N3, ?_, fr_tr hf f3', h33', hN3⟩
              rw [eK, clT, if_pos ⟨d, d2⟩, hv]; rfl
        · rw [if_neg (fun q => d2 q.1)] at z1
          rw [if_pos z1]
          refine ok_ret ⟨N3, ?_, fr_tr hf f3', h33', hN3⟩
          rw [eK, clT, if_neg (fun q => d2 q.2), ec]; rfl
      · rw [if_neg d]
        refine ok_ret ⟨N', ?_, hf, h33, hN'⟩
        rw [eK, clT, if_neg (fun q => d q.1), ec]; rfl
    · rintro s ⟨N', rfl, hf, h33, hN'⟩
      have e66 : N' 66 = N 66 := fr_of hf 66 fun k z => by unfold frM at z; omega
      dsimp only
      unfold b_X12_tells1_138
      rw [h33, e66]
      simp (disch := omega) only [w_id, gdp]
      rw [show (270 + 900 * (i : Int) + 1).toNat = 270 + 900 * i + 1 by omega]
      have s2' : N 66 (270 + 900 * i + 1) = (L.1 : Int) := s2
      rw [s2', if_neg (by omega)]
      refine ok_ret ⟨?_, hf⟩
      rw [show ((L.1 : Int)).toNat = L.1 by omega]; rfl
  refine ok_bind H ?_
  rintro ⟨N', v⟩ ⟨p1, p2⟩
  exact ok_ret ⟨p1, p2⟩
theorem mw_M {N' : NN} (h : MW N B r lw) (hf : Fr frM N N') : MW N' B r lw := mw_fr h hf (fun k q => by unfold frM at q; omega) (by unfold frM; omega)
theorem ref_worthOf {g a b : Int} (h : MW N B r lw) (h0 : 0 ≤ g) (h1 : g < r 1) (ha : -1 ≤ a ∧ a ≤ 9) (hb : -1 ≤ b ∧ b ≤ 9) : Ok (f_X12_worthOf X N g a b) (fun o => o.1 = worthS r lw g a b ∧ Fr frM N o.2) := by
  have hV := h.2.1
  have v1 := hV.2.1
  have v6 := hV.2.2.2.2.2.2.1
  unfold f_X12_worthOf
  refine ok_bd (ref_year h.1) ?_
  refine ok_bd (ref_ofGood h.1 h0 (by omega) (by omega) (by omega)) ?_
  refine ok_bind (ref_tells1 h (by omega) h0 h1 (evE_ok hV h.2.2.1 h0 h1 ha hb (by omega) (by omega))) ?_
  rintro ⟨v, N'⟩ ⟨p1, p2⟩
  refine ok_bd (ref_within (by omega) (by omega) (by omega)) ?_
  refine ok_ret ⟨?_, p2⟩
  dsimp only at p1 ⊢
  rw [p1]; rfl
theorem ref_toldBy {g a : Int} (h : MW N B r lw) (h0 : 0 ≤ g) (h1 : g < r 1) (ha : -1 ≤ a ∧ a ≤ 9) : Ok (f_X12_toldBy X N a g) (fun o => o.1 = voiceS r lw a g ∧ Fr frM N o.2) := by
  have hV := h.2.1
  have v1 := hV.2.1
  have v6 := hV.2.2.2.2.2.2.1
  unfold f_X12_toldBy
  refine ok_bd (ref_year h.1) ?_
  refine ok_bd (ref_ofGood h.1 h0 (by omega) (by omega) (by omega)) ?_
  refine ok_bind (ref_tells1 h (by omega) h0 h1 (evE_ok hV h.2.2.1 h0 h1 (by omega) (by omega) ha (by omega))) ?_
  rintro ⟨v, N'⟩ ⟨p1, p2⟩
  refine ok_bd (ref_within (by omega) (by omega) (by omega)) ?_
  refine ok_ret ⟨?_, p2⟩
  dsimp only at p1 ⊢
  rw [p1]; rfl
theorem ref_costOf {g b y : Int} (h : MW N B r lw) (h0 : 0 ≤ g) (h1 : g < r 1) (hb : -1 ≤ b ∧ b ≤ 9) (hy : 0 ≤ y ∧ y ≤ 2000) : Ok (f_X12_costOf X N g b y) (fun o => o.1 = costS r lw g b y ∧ Fr frM N o.2) := by
  have hV := h.2.1
  have v1 := hV.2.1
  unfold f_X12_costOf
  refine ok_bd (ref_ofGood h.1 h0 (by omega) (by omega) (by omega)) ?_
  refine ok_bind (ref_tells1 h (by omega) h0 h1 (evE_ok hV h.2.2.1 h0 h1 (by omega) hb (by omega) hy)) ?_
  rintro ⟨v, N'⟩ ⟨p1, p2⟩
  refine ok_bd (ref_within (by omega) (by omega) (by omega)) ?_
  refine ok_ret ⟨?_, p2⟩
  dsimp only at p1 ⊢
  rw [p1]; rfl
theorem tK_2 {L : Law} {e : Env} (h : ∀ c, c < L.1 → (L.2 c).1 = 2 → (L.2 c).2.2 e = some 1) : ∀ n, n ≤ L.1 → tK (fun i => clT 2 (L.2 i) e) n = none ∨ tK (fun i => clT 2 (L.2 i) e) n = some 1
  | 0, _ => Or.inl rfl
  | n + 1, hn => by
    rw [tK, clT]
    by_cases c : (L.2 n).1 = 2 ∧ (L.2 n).2.1 e = true
    · rw [if_pos c, h n (by omega) c.1]; exact Or.inr rfl
    · rw [if_neg c]; exact tK_2 h n (by omega)
theorem ref_isBarred {g a b : Int} (h : MW N B r lw) (h0 : 0 ≤ g) (h1 : g < r 1) (ha : -1 ≤ a ∧ a ≤ 9) (hb : -1 ≤ b ∧ b ≤ 9) : Ok (f_X12_isBarred X N g a b) (fun o => o.1 = (if barS r lw g a b then 1 else 0) ∧ Fr frM N o.2) := by
  have hV := h.2.1
  have v1 := hV.2.1
  have v4 := hV.2.2.2.2.1
  have v5 := hV.2.2.2.2.2.1
  have v6 := hV.2.2.2.2.2.2.1
  have hE := evE_ok hV h.2.2.1 h0 h1 ha hb (h := -1) (y := r 6) (by omega) (by omega)
  unfold f_X12_isBarred f_X12_isBarred_j24
  refine ok_bd (ref_year h.1) ?_
  refine ok_bind (ref_tells1 h (by omega) h0 h1 hE) ?_
  rintro ⟨v, N'⟩ ⟨p1, p2⟩
  dsimp only at p1 p2 ⊢
  have key : tellS r lw 2 (evE r g a b (-1) (r 6)) = none ∨ tellS r lw 2 (evE r g a b (-1) (r 6)) = some 1 := by
    unfold tellS
    by_cases c : r 5 < 0
    · rw [if_pos c]; exact Or.inl rfl
    · rw [if_neg c]
      obtain ⟨-, -, -, -, hS⟩ := h
      obtain ⟨s1, s2, s3, s4⟩ := hS (r 5).toNat (by omega)
      refine tK_2 (L := lw (r 5).toNat) (fun c hc q => ?_) _ (Nat.le_refl _)
      have := (s4 X (fun o k => if o = 64 then (if k = 20 then 0 else 270 + 900 * ((r 5).toNat : Int)) else if o = 66 then N 66 k else evE r g a b (-1) (r 6) (k - 1)) rfl rfl (fun j _ => rfl) _ hE (fun j _ => rfl) c hc).1
      exact this q
  have eb : barS r lw g a b = (tellS r lw 2 (evE r g a b (-1) (r 6))).isSome := rfl
  rcases key with q | q
  · rw [q] at p1 eb
    rw [p1, eb]
    exact ok_ret ⟨rfl, p2⟩
  · rw [q] at p1 eb
    rw [p1, eb]
    exact ok_ret ⟨rfl, p2⟩
theorem ref_costs {l y : Int} (h : MW N B r lw) (h0 : 0 ≤ l) (h1 : l ≤ 5) (hy : 0 ≤ y ∧ y ≤ 2000) : Ok (f_X12_costs X N l y) (fun o => o.1 = costsS r lw l y ∧ Fr frM N o.2) := by
  have hV := h.2.1
  have v1 := hV.2.1
  have H : Ok (lp (fun s : NN × Int × Int × Int × Int => b_X12_costs_5 X s.1 s.2.1 s.2.2.1 s.2.2.2.1 s.2.2.2.2) (N, l, y, 0, 0)) (fun o => o.2 = costsS r lw l y ∧ Fr frM N o.1) := by
    refine ok_up (fun i s => ∃ N', s = (N', l, y, sm (fun g => if rg r g 0 = l then costS r lw g l y else 0) i.toNat, i) ∧ Fr frM N N') (r 1) (i0 := 0) ?_ ?_ v1.1 ⟨N, rfl, fr_rfl⟩
    · rintro i s a0 a1 ⟨N', rfl, hf⟩
      have hb := costsS_b hV lw l y i.toNat (by omega)
      have hi : ((i.toNat : Nat) : Int) = i := by omega
      have hC := mw_M h hf
      have e1 : N' 66 1 = r 1 := hC.1 1 (by omega)
      dsimp only
      unfold b_X12_costs_5 f_X12_costs_l5_j40
      rw [e1, if_pos a1]
      refine ok_bd (ref_ofGood hC.1 a0 (by omega) (by omega) (by omega)) ?_
      have es : sm (fun g : Nat => if rg r g 0 = l then costS r lw g l y else 0) (i + 1).toNat = sm (fun g : Nat => if rg r g 0 = l then costS r lw g l y else 0) i.toNat + (if rg r i 0 = l then costS r lw i l y else 0) := by
        rw [show (i + 1).toNat = i.toNat + 1 by omega, sm_s, hi]
      have e2 : m_w (i + 1) = i + 1 := w_id (by omega) (by omega)
      by_cases c : rg r i 0 = l
      · rw [if_pos c]
        refine ok_bind (ref_costOf hC a0 a1 (by omega) hy) ?_
        rintro ⟨v, N3⟩ ⟨p1, p2⟩
        dsimp only at p1 p2 ⊢
        have hc := costS_b r lw i l y
        refine ok_ret ⟨N3, ?_, fr_tr hf p2⟩
        rw [es, if_pos c, p1, e2, w_id (by omega) (by omega)]
      · rw [if_neg c]
        refine ok_ret ⟨N', ?_, hf⟩
        rw [es, if_neg c, e2, Int.add_zero, w_id (by omega) (by omega)]
    · rintro s ⟨N', rfl, hf⟩
      have hC := mw_M h hf
      have e1 : N' 66 1 = r 1 := hC.1 1 (by omega)
      dsimp only
      unfold b_X12_costs_5
      rw [e1, if_neg (by omega)]
      exact ok_ret ⟨rfl, hf⟩
  unfold f_X12_costs
  refine ok_bind H ?_
  rintro ⟨N', v⟩ ⟨p1, p2⟩
  exact ok_ret ⟨p1, p2⟩
end MJ
