/-! the class: what the law in force says -/
section CJ
variable {X : MX} {N : NN} {w : Nat} {B : Int} {r : Nat → Int} {lw : Nat → Law}
theorem c_ask {g y : Int} (hw : w = 4 ∨ w = 30) (h : Rw (N (w + 1)) r) (h0 : 0 ≤ g) (h1 : g ≤ 15) : Ok (f_X2_ask X w N g y) (fun N' => (∀ j, j < 9 → N' 26 j = evE r g (-1) (-1) (-1) y j) ∧ Fr frJ N N') := by
  have hn : w + 1 ≠ 26 := by omega
  have hr : ∀ {M : NN} {k : Nat} {x : Int}, Rw (M (w + 1)) r → Rw (m_up M 26 k x (w + 1)) r := by
    intro M k x q
    rw [up_of hn]
    exact q
  have a1 := hr (k := 0) (x := g) h
  have a2 := hr (k := 1) (x := rg r g 2) a1
  have a3 := hr (k := 2) (x := rg r g 3) a2
  have a4 := hr (k := 7) (x := -1) (hr (k := 6) (x := y) (hr (k := 5) (x := -1) (hr (k := 4) (x := -1) (hr (k := 3) (x := rg r g 4) a3))))
  simp only [f_X2_ask]
  refine ok_bd (c_goodAt a1 h0 h1 (by omega) (by omega)) ?_
  refine ok_bd (c_goodAt a2 h0 h1 (by omega) (by omega)) ?_
  refine ok_bd (c_goodAt a3 h0 h1 (by omega) (by omega)) ?_
  refine ok_bd (c_term a4 (by omega) (by omega)) ?_
  refine ok_ret ⟨fun j hj => ?_, ?_⟩
  · match j, hj with
    | 0, _ => simp (disch := omega) only [up_s, up_k]; rfl
    | 1, _ => simp (disch := omega) only [up_s, up_k]; rfl
    | 2, _ => simp (disch := omega) only [up_s, up_k]; rfl
    | 3, _ => simp (disch := omega) only [up_s, up_k]; rfl
    | 4, _ => simp (disch := omega) only [up_s, up_k]; rfl
    | 5, _ => simp (disch := omega) only [up_s, up_k]; rfl
    | 6, _ => simp (disch := omega) only [up_s, up_k]; rfl
    | 7, _ => simp (disch := omega) only [up_s, up_k]; rfl
    | 8, _ => simp (disch := omega) only [up_s, up_k]; rfl
  · have f : ∀ k, frJ 26 k := fun k => Or.inl rfl
    exact fr_up (fr_up (fr_up (fr_up (fr_up (fr_up (fr_up (fr_up (fr_up fr_rfl (f _)) (f _)) (f _)) (f _)) (f _)) (f _)) (f _)) (f _)) (f _)
/-- what a text tells of one kind -/
theorem c_told {t : Nat} {L : Law} {e : Env} {k wo most : Int} (hk1 : k ≠ 2) (h26 : xK X 26 = (1, 9)) (h27 : xK X 27 = (1, 32)) (h : TS X N t L) (he : EnvOK e) (hN : ∀ j, j < 9 → N 26 j = e j) :
    Ok (f_X2_told X t N (256 + k) wo most) (fun o => o.1 = ((tS L k e).map (cut most)).getD wo ∧ Fr frJ N o.2) := by
  obtain ⟨ht, hL, hq⟩ := h
  obtain ⟨hT, hq⟩ := hq X (fun _ _ _ => ⟨rfl, rfl⟩) h26 h27
  unfold f_X2_told
  rw [if_neg (by omega), if_pos hT]
  refine ok_bd (hq N fun _ _ _ => rfl).1 ?_
  have H : Ok (lp (fun s : NN × Int × Int × Int × Int => b_X2_told_14 X t s.1 s.2.1 s.2.2.1 s.2.2.2.1 s.2.2.2.2) (N, 256 + k, wo, most, m_w ((L.1 : Int) - 1)))
      (fun o => match o with
        | .inl q => tS L k e = none ∧ q.2 = wo ∧ Fr frJ N q.1
        | .inr q => tS L k e = some q.2.2 ∧ q.2.1 = most ∧ Fr frJ N q.1) := by
    rw [w_id (by omega) (by omega)]
    refine ok_lp (fun s => ∃ (n : Nat) (N' : NN), n ≤ L.1 ∧ s = (N', 256 + k, wo, most, (n : Int) - 1) ∧ Fr frJ N N' ∧ (∀ j, j < 9 → N' 26 j = e j) ∧ tS L k e = tK (fun i => clT k (L.2 i) e) n) (fun s => (s.2.2.2.2 + 1).toNat) ?_ ⟨L.1, N, Nat.le_refl _, rfl, fr_rfl, hN, rfl⟩
    rintro s ⟨n, N', hn, rfl, hf, hN', hS⟩
    dsimp only
    unfold b_X2_told_14 f_X2_told_l14_j83
    cases n with
    | zero =>
      rw [if_pos (by omega)]
      exact ok_ret ⟨hS, rfl, hf⟩
    | succ n =>
      have en : ((n + 1 : Nat) : Int) - 1 = (n : Int) := by omega
      rw [if_neg (by omega), if_pos hT, en]
      have ag : agN N N' t := fun o a b => fr_of hf _ fun k z => by unfold frJ at z; omega
      obtain ⟨q0, q1⟩ := hq N' ag
      obtain ⟨q1, q2⟩ := q1 n (by omega)
      obtain ⟨q2, q3, q4⟩ := q2 e he hN'
      refine ok_bd q1 ?_
      have hS' : tS L k e = (clT k (L.2 n) e).or (tK (fun i => clT k (L.2 i) e) n) := hS
      have e2 : m_w ((n : Int) + (-1)) = (n : Int) - 1 := by rw [w_id (by omega) (by omega)]; omega
      by_cases c : (L.2 n).1 = k
      · rw [if_pos (by omega), if_pos hT]
        refine ok_bind q2 ?_
        rintro ⟨z, N2⟩ ⟨e1, f2⟩
        dsimp only at e1 f2 ⊢
        have f2' : Fr frJ N' N2 := fr_mono f2 fun o k q => Or.inr q
        have hN2 : ∀ j, j < 9 → N2 26 j = e j := fun j hj => (f2 26 j (by unfold fr27; omega)).trans (hN' j hj)
        by_cases c2 : (L.2 n).2.1 e = true
        · rw [e1, if_pos c2, if_neg (by omega), if_pos hT]
          have ag2 : agN N N2 t := fun o a b => fr_of (fr_tr hf f2') _ fun k z => by unfold frJ at z; omega
          obtain ⟨q0', q1'⟩ := hq N2 ag2
          obtain ⟨-, q2'⟩ := q1' n (by omega)
          obtain ⟨-, q3', -⟩ := q2' e he hN2
          refine ok_bind (q3' (by omega)) ?_
          rintro ⟨z3, N3⟩ ⟨e3, b3, f3⟩
          dsimp only at e3 f3 ⊢
          have f3' : Fr frJ N2 N3 := fr_mono f3 fun o k q => Or.inr q
          cases hv : (L.2 n).2.2 e with
          | none =>
            rw [hv] at e3
            rw [if_pos (by simpa using e3)]
            refine ok_ret ⟨⟨n, N3, by omega, by rw [e2], fr_tr (fr_tr hf f2') f3', fun j hj => (f3 26 j (by unfold fr27; omega)).trans (hN2 j hj), ?_⟩, ?_⟩
            · rw [hS', clT, if_pos ⟨c, c2⟩, hv]; rfl
            · show (m_w ((n : Int) + (-1)) + 1).toNat < _
              rw [e2]; omega
          | some v =>
            rw [hv] at e3 b3
            have ez : z3 = v := by simpa using e3
            subst ez
            rw [if_neg (by intro q; exact b3 (by rw [q]))]
            refine ok_ret ⟨?_, rfl, fr_tr (fr_tr hf f2') f3'⟩
            rw [hS', clT, if_pos ⟨c, c2⟩, hv]; rfl
        · rw [e1, if_neg c2, if_pos rfl]
          refine ok_ret ⟨⟨n, N2, by omega, by rw [e2], fr_tr hf f2', hN2, ?_⟩, ?_⟩
          · rw [hS', clT, if_neg fun q => c2 q.2]; rfl
          · show (m_w ((n : Int) + (-1)) + 1).toNat < _
            rw [e2]; omega
      · rw [if_neg (by omega)]
        refine ok_ret ⟨⟨n, N', by omega, by rw [e2], hf, hN', ?_⟩, ?_⟩
        · rw [hS', clT, if_neg fun q => c q.1]; rfl
        · show (m_w ((n : Int) + (-1)) + 1).toNat < _
          rw [e2]; omega
  refine ok_bind H ?_
  intro o p
  match o, p with
  | .inl q, p =>
    obtain ⟨p1, p2, p3⟩ := p
    refine ok_ret ⟨?_, p3⟩
    rw [p1]; exact p2
  | .inr q, p =>
    obtain ⟨p1, p2, p3⟩ := p
    refine ok_ret ⟨?_, p3⟩
    rw [p1, p2]
    show m_max 0 (m_min most q.2.2) = cut most q.2.2
    rw [max_id, min_id]; rfl
/-- the text in force: 0, or one that tells as its law -/
theorem c_lawInForce (h : CW X N w B r lw) : Ok (f_X10_lawInForce X N w) (fun t => (r 5 < 0 ∧ t = 0) ∨ (0 ≤ r 5 ∧ TS X N t (lw (r 5).toNat))) := by
  obtain ⟨h1, hV, -, hT⟩ := h
  have e : N (w + 1) 196 = r 5 := h1.2.2.2.2.2.2.1
  have e2 : N (w + 1) 195 = r 4 := h1.2.2.2.2.2.1 4 (by omega) (by omega)
  have v5 := hV.2.2.2.2.2.1
  have v4 := hV.2.2.2.2.1
  simp only [f_X10_lawInForce, f_X10_lawInForce_j34, f_X10_lawInForce_j35, e, e2]
  by_cases c : r 5 < 0
  · rw [if_pos c]
    exact ok_ret (Or.inl ⟨c, rfl⟩)
  · rw [if_neg c, if_pos v5.2, if_pos (by omega)]
    refine ok_ret (Or.inr ⟨by omega, ?_⟩)
    have := hT (r 5).toNat (by omega)
    exact this
theorem c_tells {k wo most : Int} {e : Env} (hk1 : k ≠ 2) (h26 : xK X 26 = (1, 9)) (h27 : xK X 27 = (1, 32)) (h : CW X N w B r lw) (he : EnvOK e) (hN : ∀ j, j < 9 → N 26 j = e j) (hwo : 0 ≤ wo) (hwo2 : wo ≤ most) :
    Ok (Option.bind (f_X10_lawInForce X N w) (fun t => f_X2_told X t N (256 + k) wo most)) (fun o => o.1 = cut most ((tellS r lw k e).getD wo) ∧ Fr frJ N o.2) := by
  refine ok_bind (c_lawInForce h) ?_
  rintro t (⟨h5, rfl⟩ | ⟨h5, hT⟩)
  · unfold f_X2_told
    rw [if_pos rfl]
    refine ok_ret ⟨?_, fr_rfl⟩
    unfold tellS
    rw [if_pos h5]
    exact (cut_id hwo hwo2).symm
  · refine ok_mono (c_told hk1 h26 h27 hT he hN) ?_
    rintro ⟨v, N'⟩ ⟨p, q⟩
    refine ⟨?_, q⟩
    rw [p]
    unfold tellS
    rw [if_neg (by omega)]
    cases tS (lw (r 5).toNat) k e with
    | none => exact (cut_id hwo hwo2).symm
    | some v => rfl
theorem fr_env {N N' : NN} {p : Nat → Nat → Prop} (h : Fr p N N') {e : Env} (hp : ∀ k, ¬ p 26 k) (hN : ∀ j, j < 9 → N 26 j = e j) : ∀ j, j < 9 → N' 26 j = e j := fun j hj => (h 26 j (hp j)).trans (hN j hj)
theorem cw_J {N' : NN} (hw : w = 4 ∨ w = 30) (h : CW X N w B r lw) (hf : Fr frJ N N') : CW X N' w B r lw := cw_fr h hf fun o k q => by unfold frJ at q; omega
theorem frJ26 {N : NN} {k : Nat} {x : Int} : Fr frJ N (m_up N 26 k x) := fr_up fr_rfl (Or.inl rfl)
theorem c_worth {g a b : Int} (hw : w = 4 ∨ w = 30) (hsk : m_Sk26 X) (h : CW X N w B r lw) (h0 : 0 ≤ g) (h1 : g < r 1) (ha : -1 ≤ a ∧ a ≤ 9) (hb : -1 ≤ b ∧ b ≤ 9) : Ok (f_X2_worth X w N g a b) (fun o => o.1 = worthS r lw g a b ∧ Fr frJ N o.2) := by
  have hV := h.2.1
  have v1 := hV.2.1
  have v6 := hV.2.2.2.2.2.2.1
  have vg := hV.2.2.2.2.2.2.2.2.2.2.1 g h0 h1
  simp only [f_X2_worth]
  refine ok_bd (c_term h.1 (by omega) (by omega)) ?_
  refine ok_bind (c_ask hw h.1 h0 (by omega)) ?_
  intro N1 ⟨e1, f1⟩
  have f2 : Fr frJ N (m_up (m_up N1 26 4 a) 26 5 b) := fr_tr (fr_tr f1 frJ26) frJ26
  have h2 := cw_J hw h f2
  have eN : ∀ j, j < 9 → m_up (m_up N1 26 4 a) 26 5 b 26 j = evE r g a b (-1) (r 6) j := by
    intro j hj
    match j, hj with
    | 0, _ => simp (disch := omega) only [up_s, up_k]; exact e1 0 (by omega)
    | 1, _ => simp (disch := omega) only [up_s, up_k]; exact e1 1 (by omega)
    | 2, _ => simp (disch := omega) only [up_s, up_k]; exact e1 2 (by omega)
    | 3, _ => simp (disch := omega) only [up_s, up_k]; exact e1 3 (by omega)
    | 4, _ => simp (disch := omega) only [up_s, up_k]; rfl
    | 5, _ => simp (disch := omega) only [up_s, up_k]; rfl
    | 6, _ => simp (disch := omega) only [up_s, up_k]; exact e1 6 (by omega)
    | 7, _ => simp (disch := omega) only [up_s, up_k]; exact e1 7 (by omega)
    | 8, _ => simp (disch := omega) only [up_s, up_k]; exact e1 8 (by omega)
  have q := c_tells (k := 0) (wo := rg r g 2) (most := 999) (by omega) hsk.1 hsk.2 h2 (evE_ok hV h.2.2.1 h0 h1 ha hb (by omega) (by omega)) eN (by omega) (by omega)
  obtain ⟨o, eo, p1, p2⟩ := q
  obtain ⟨t, et, -⟩ := c_lawInForce h2
  rw [et, Option.bind_some] at eo
  refine ok_bd et ?_
  refine ok_bd (c_goodAt h2.1 h0 (by omega) (by omega) (by omega)) ?_
  refine ok_bd eo ?_
  exact ok_ret ⟨p1, fr_tr f2 p2⟩
theorem c_costs {g b y : Int} (hw : w = 4 ∨ w = 30) (hsk : m_Sk26 X) (h : CW X N w B r lw) (h0 : 0 ≤ g) (h1 : g < r 1) (hb : -1 ≤ b ∧ b ≤ 9) (hy : 0 ≤ y ∧ y ≤ 2000) : Ok (f_X2_costs X w N g b y) (fun o => o.1 = costS r lw g b y ∧ Fr frJ N o.2) := by
  have hV := h.2.1
  have v1 := hV.2.1
  have vg := hV.2.2.2.2.2.2.2.2.2.2.1 g h0 h1
  simp only [f_X2_costs]
  refine ok_bind (c_ask hw h.1 h0 (by omega)) ?_
  intro N1 ⟨e1, f1⟩
  have f2 : Fr frJ N (m_up N1 26 5 b) := fr_tr f1 frJ26
  have h2 := cw_J hw h f2
  have eN : ∀ j, j < 9 → m_up N1 26 5 b 26 j = evE r g (-1) b (-1) y j := by
    intro j hj
    match j, hj with
    | 0, _ => simp (disch := omega) only [up_s, up_k]; exact e1 0 (by omega)
    | 1, _ => simp (disch := omega) only [up_s, up_k]; exact e1 1 (by omega)
    | 2, _ => simp (disch := omega) only [up_s, up_k]; exact e1 2 (by omega)
    | 3, _ => simp (disch := omega) only [up_s, up_k]; exact e1 3 (by omega)
    | 4, _ => simp (disch := omega) only [up_s, up_k]; exact e1 4 (by omega)
    | 5, _ => simp (disch := omega) only [up_s, up_k]; rfl
    | 6, _ => simp (disch := omega) only [up_s, up_k]; exact e1 6 (by omega)
    | 7, _ => simp (disch := omega) only [up_s, up_k]; exact e1 7 (by omega)
    | 8, _ => simp (disch := omega) only [up_s, up_k]; exact e1 8 (by omega)
  have q := c_tells (k := 1) (wo := rg r g 3) (most := 99) (by omega) hsk.1 hsk.2 h2 (evE_ok hV h.2.2.1 h0 h1 (by omega) hb (by omega) hy) eN (by omega) (by omega)
  obtain ⟨o, eo, p1, p2⟩ := q
  obtain ⟨t, et, -⟩ := c_lawInForce h2
  rw [et, Option.bind_some] at eo
  refine ok_bd et ?_
  refine ok_bd (c_goodAt h2.1 h0 (by omega) (by omega) (by omega)) ?_
  refine ok_bd eo ?_
  exact ok_ret ⟨p1, fr_tr f2 p2⟩
theorem c_voice {g a : Int} (hw : w = 4 ∨ w = 30) (hsk : m_Sk26 X) (h : CW X N w B r lw) (h0 : 0 ≤ g) (h1 : g < r 1) (ha : -1 ≤ a ∧ a ≤ 9) : Ok (f_X2_voice X w N a g) (fun o => o.1 = voiceS r lw a g ∧ Fr frJ N o.2) := by
  have hV := h.2.1
  have v1 := hV.2.1
  have v6 := hV.2.2.2.2.2.2.1
  have vg := hV.2.2.2.2.2.2.2.2.2.2.1 g h0 h1
  simp only [f_X2_voice]
  refine ok_bd (c_term h.1 (by omega) (by omega)) ?_
  refine ok_bind (c_ask hw h.1 h0 (by omega)) ?_
  intro N1 ⟨e1, f1⟩
  have f2 : Fr frJ N (m_up N1 26 7 a) := fr_tr f1 frJ26
  have h2 := cw_J hw h f2
  have eN : ∀ j, j < 9 → m_up N1 26 7 a 26 j = evE r g (-1) (-1) a (r 6) j := by
    intro j hj
    match j, hj with
    | 0, _ => simp (disch := omega) only [up_s, up_k]; exact e1 0 (by omega)
    | 1, _ => simp (disch := omega) only [up_s, up_k]; exact e1 1 (by omega)
    | 2, _ => simp (disch := omega) only [up_s, up_k]; exact e1 2 (by omega)
    | 3, _ => simp (disch := omega) only [up_s, up_k]; exact e1 3 (by omega)
    | 4, _ => simp (disch := omega) only [up_s, up_k]; exact e1 4 (by omega)
    | 5, _ => simp (disch := omega) only [up_s, up_k]; exact e1 5 (by omega)
    | 6, _ => simp (disch := omega) only [up_s, up_k]; exact e1 6 (by omega)
    | 7, _ => simp (disch := omega) only [up_s, up_k]; rfl
    | 8, _ => simp (disch := omega) only [up_s, up_k]; exact e1 8 (by omega)
  have q := c_tells (k := 0) (wo := rg r g 2) (most := 999) (by omega) hsk.1 hsk.2 h2 (evE_ok hV h.2.2.1 h0 h1 (by omega) (by omega) ha (by omega)) eN (by omega) (by omega)
  obtain ⟨o, eo, p1, p2⟩ := q
  obtain ⟨t, et, -⟩ := c_lawInForce h2
  rw [et, Option.bind_some] at eo
  refine ok_bd et ?_
  refine ok_bd (c_goodAt h2.1 h0 (by omega) (by omega) (by omega)) ?_
  refine ok_bd eo ?_
  exact ok_ret ⟨p1, fr_tr f2 p2⟩
theorem c_bars {g a b : Int} (hw : w = 4 ∨ w = 30) (hsk : m_Sk26 X) (h : CW X N w B r lw) (h0 : 0 ≤ g) (h1 : g < r 1) (ha : -1 ≤ a ∧ a ≤ 9) (hb : -1 ≤ b ∧ b ≤ 9) : Ok (f_X2_bars X w N g a b) (fun o => o.1 = (if barS r lw g a b then 1 else 0) ∧ Fr frJ N o.2) := by
  have hV := h.2.1
  have v1 := hV.2.1
  have v6 := hV.2.2.2.2.2.2.1
  have vg := hV.2.2.2.2.2.2.2.2.2.2.1 g h0 h1
  simp only [f_X2_bars]
  refine ok_bind (c_lawInForce h) ?_
  rintro t (⟨h5, rfl⟩ | ⟨h5, hT⟩)
  · rw [if_pos rfl]
    refine ok_ret ⟨?_, fr_rfl⟩
    unfold barS tellS
    rw [if_pos h5]
    rfl
  have ht := hT.1
  rw [if_neg (by omega)]
  refine ok_bd (c_term h.1 (by omega) (by omega)) ?_
  refine ok_bind (c_ask hw h.1 h0 (by omega)) ?_
  intro N1 ⟨e1, f1⟩
  have f2 : Fr frJ N (m_up (m_up N1 26 4 a) 26 5 b) := fr_tr (fr_tr f1 frJ26) frJ26
  have eN : ∀ j, j < 9 → m_up (m_up N1 26 4 a) 26 5 b 26 j = evE r g a b (-1) (r 6) j := by
    intro j hj
    match j, hj with
    | 0, _ => simp (disch := omega) only [up_s, up_k]; exact e1 0 (by omega)
    | 1, _ => simp (disch := omega) only [up_s, up_k]; exact e1 1 (by omega)
    | 2, _ => simp (disch := omega) only [up_s, up_k]; exact e1 2 (by omega)
    | 3, _ => simp (disch := omega) only [up_s, up_k]; exact e1 3 (by omega)
    | 4, _ => simp (disch := omega) only [up_s, up_k]; rfl
    | 5, _ => simp (disch := omega) only [up_s, up_k]; rfl
    | 6, _ => simp (disch := omega) only [up_s, up_k]; exact e1 6 (by omega)
    | 7, _ => simp (disch := omega) only [up_s, up_k]; exact e1 7 (by omega)
    | 8, _ => simp (disch := omega) only [up_s, up_k]; exact e1 8 (by omega)
  have he := evE_ok hV h.2.2.1 h0 h1 ha hb (h := -1) (y := r 6) (by omega) (by omega)
  revert f2 eN he
  generalize m_up (m_up N1 26 4 a) 26 5 b = N2
  generalize hE : evE r g a b (-1) (r 6) = e
  intro f2 eN he
  obtain ⟨-, hL, hq⟩ := hT
  obtain ⟨hTt, hq⟩ := hq X (fun _ _ _ => ⟨rfl, rfl⟩) hsk.1 hsk.2
  have ebar : barS r lw g a b = (tS (lw (r 5).toNat) 2 e).isSome := by
    unfold barS tellS
    rw [if_neg (by omega), hE]
  have H : Ok (lp (fun s : NN × Nat × Int => b_X2_bars_42 X w s.1 s.2.1 s.2.2) (N2, t, 0))
      (fun o => match o with
        | .inl q => (tS (lw (r 5).toNat) 2 e).isSome = false ∧ Fr frJ N q
        | .inr q => (tS (lw (r 5).toNat) 2 e).isSome = true ∧ Fr frJ N q) := by
    refine ok_up (fun i s => ∃ N', s = (N', t, i) ∧ Fr frJ N N' ∧ (∀ j, j < 9 → N' 26 j = e j) ∧ tK (fun i => clT 2 ((lw (r 5).toNat).2 i) e) i.toNat = none) ((lw (r 5).toNat).1 : Int) (i0 := 0) ?_ ?_ (by omega) ⟨N2, rfl, f2, eN, rfl⟩
    · rintro i s a0 a1 ⟨N', rfl, hf, hN', hK⟩
      have ag : agN N N' t := fun o a b => fr_of hf _ fun k z => by unfold frJ at z; omega
      obtain ⟨q0, q1⟩ := hq N' ag
      have hi : ((i.toNat : Nat) : Int) = i := by omega
      obtain ⟨q1, q2⟩ := q1 i.toNat (by omega)
      obtain ⟨q2, -, q4⟩ := q2 e he hN'
      rw [hi] at q1 q2
      have hS : tK (fun i => clT 2 ((lw (r 5).toNat).2 i) e) (i + 1).toNat = (clT 2 ((lw (r 5).toNat).2 i.toNat) e).or none := by
        rw [show (i + 1).toNat = i.toNat + 1 by omega, tK, hK]
      dsimp only
      unfold b_X2_bars_42 f_X2_bars_l42_j86
      rw [if_pos hTt]
      refine ok_bd q0 ?_
      rw [if_pos a1, if_pos hTt]
      refine ok_bd q1 ?_
      have e2 : m_w (i + 1) = i + 1 := w_id (by omega) (by omega)
      by_cases c : ((lw (r 5).toNat).2 i.toNat).1 = 2
      · rw [if_pos (by omega), if_pos hTt]
        refine ok_bind q2 ?_
        rintro ⟨z, N3⟩ ⟨z1, f3⟩
        dsimp only at z1 f3 ⊢
        have f3' : Fr frJ N' N3 := fr_mono f3 fun o k q => Or.inr q
        by_cases c2 : ((lw (r 5).toNat).2 i.toNat).2.1 e = true
        · rw [z1, if_pos c2, if_neg (by omega)]
          refine ok_ret ⟨?_, fr_tr hf f3'⟩
          have hs1 : tK (fun i => clT 2 ((lw (r 5).toNat).2 i) e) (i.toNat + 1) = some 1 := by
            rw [tK, hK, clT, if_pos ⟨c, c2⟩, q4 c]; rfl
          have mono : ∀ m, i.toNat + 1 ≤ m → (tK (fun i => clT 2 ((lw (r 5).toNat).2 i) e) m).isSome = true := by
            intro m hm
            induction hm with
            | refl => rw [hs1]; rfl
            | step _ ih =>
              rw [tK]
              cases clT 2 ((lw (r 5).toNat).2 _) e with
              | none => exact ih
              | some v => rfl
          exact mono _ (by omega)
        · rw [z1, if_neg c2, if_pos rfl]
          refine ok_ret ⟨N3, by rw [e2], fr_tr hf f3', fun j hj => (f3 26 j (by unfold fr27; omega)).trans (hN' j hj), ?_⟩
          rw [hS, clT, if_neg fun q => c2 q.2]; rfl
      · rw [if_neg (by omega)]
        refine ok_ret ⟨N', by rw [e2], hf, hN', ?_⟩
        rw [hS, clT, if_neg fun q => c q.1]; rfl
    · rintro s ⟨N', rfl, hf, hN', hK⟩
      have ag : agN N N' t := fun o a b => fr_of hf _ fun k z => by unfold frJ at z; omega
      dsimp only
      unfold b_X2_bars_42
      rw [if_pos hTt]
      refine ok_bd (hq N' ag).1 ?_
      rw [if_neg (by omega)]
      refine ok_ret ⟨?_, hf⟩
      unfold tS
      rw [show ((lw (r 5).toNat).1 : Nat) = (((lw (r 5).toNat).1 : Int)).toNat by omega, hK]
      rfl
  refine ok_bind H ?_
  intro o p
  match o, p with
  | .inl q, p =>
    refine ok_ret ⟨?_, p.2⟩
    rw [ebar, p.1]; rfl
  | .inr q, p =>
    refine ok_ret ⟨?_, p.2⟩
    rw [ebar, p.1]; rfl
theorem c_upkeep {l y : Int} (hw : w = 4 ∨ w = 30) (hsk : m_Sk26 X) (h : CW X N w B r lw) (h0 : 0 ≤ l) (h1 : l ≤ 5) (hy : 0 ≤ y ∧ y ≤ 2000) : Ok (f_X2_upkeep X w N l y) (fun o => o.1 = costsS r lw l y ∧ Fr frJ N o.2) := by
  have hV := h.2.1
  have v1 := hV.2.1
  have H : Ok (lp (fun s : NN × Int × Int × Int × Int => b_X2_upkeep_6 X w s.1 s.2.1 s.2.2.1 s.2.2.2.1 s.2.2.2.2) (N, l, y, 0, 0)) (fun o => o.2 = costsS r lw l y ∧ Fr frJ N o.1) := by
    refine ok_up (fun i s => ∃ N', s = (N', l, y, sm (fun g => if rg r g 0 = l then costS r lw g l y else 0) i.toNat, i) ∧ Fr frJ N N') (r 1) (i0 := 0) ?_ ?_ v1.1 ⟨N, rfl, fr_rfl⟩
    · rintro i s a0 a1 ⟨N', rfl, hf⟩
      have hb := costsS_b hV lw l y i.toNat (by omega)
      have hi : ((i.toNat : Nat) : Int) = i := by omega
      have vg := hV.2.2.2.2.2.2.2.2.2.2.1 i a0 a1
      have hC := cw_J hw h hf
      dsimp only
      unfold b_X2_upkeep_6 f_X2_upkeep_l6_j67
      refine ok_bd (c_many hC.1 (by omega) (by omega)) ?_
      rw [if_pos (by exact a1)]
      refine ok_bd (c_goodAt hC.1 a0 (by omega) (by omega) (by omega)) ?_
      have es : sm (fun g : Nat => if rg r g 0 = l then costS r lw g l y else 0) (i + 1).toNat = sm (fun g : Nat => if rg r g 0 = l then costS r lw g l y else 0) i.toNat + (if rg r i 0 = l then costS r lw i l y else 0) := by
        rw [show (i + 1).toNat = i.toNat + 1 by omega, sm_s, hi]
      have e2 : m_w (i + 1) = i + 1 := w_id (by omega) (by omega)
      by_cases c : rg r i 0 = l
      · rw [if_pos c]
        have q := c_costs (g := i) (b := l) (y := y) hw hsk hC a0 a1 (by omega) hy
        obtain ⟨o, eo, p1, p2⟩ := q
        simp only [f_X2_costs] at eo
        obtain ⟨N1, en1, eo⟩ := bd_some eo
        obtain ⟨t, et, eo⟩ := bd_some eo
        obtain ⟨b, eb, eo⟩ := bd_some eo
        obtain ⟨z, ez, eo⟩ := bd_some eo
        refine ok_bd en1 ?_
        refine ok_bd et ?_
        refine ok_bd eb ?_
        refine ok_bd ez ?_
        have ho : o = (z.1, z.2) := (Option.some.inj eo).symm
        subst ho
        dsimp only at p1 p2
        have hc := costS_b r lw i l y
        refine ok_ret ⟨z.2, ?_, fr_tr hf p2⟩
        rw [es, if_pos c, p1, e2, w_id (by omega) (by omega)]
      · rw [if_neg c]
        refine ok_ret ⟨N', ?_, hf⟩
        rw [es, if_neg c, e2, Int.add_zero]
    · rintro s ⟨N', rfl, hf⟩
      have hC := cw_J hw h hf
      dsimp only
      unfold b_X2_upkeep_6
      refine ok_bd (c_many hC.1 (by omega) (by omega)) ?_
      rw [if_neg (by show ¬ r 1 < r 1; omega)]
      exact ok_ret ⟨rfl, hf⟩
  unfold f_X2_upkeep
  refine ok_bind H ?_
  rintro ⟨N', v⟩ ⟨p1, p2⟩
  exact ok_ret ⟨p1, p2⟩
end CJ
