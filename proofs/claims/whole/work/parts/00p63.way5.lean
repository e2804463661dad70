/-! way: the reference's loop; way whole -/
def frWr (k o i : Nat) : Prop := frWw o i ∨ (o = 93 ∧ k < i) ∨ (o = 95 ∧ k ≤ i)
noncomputable def wyCh (r : Nat → Int) (g e : Nat) (P : List Nat) (z d : Int) : Ed → List Cd := fun x => if x.1 ∈ P then [] else wyN (edM r) g e x.1 (P ++ [x.1]) (z * x.2.1) (d + x.2.2)
section WL
variable {X : MX} {B : Int} {r : Nat → Int} {lw : Nat → Law}
theorem mw_Wr {N N' : NN} {k : Nat} (h : MW N B r lw) (hf : Fr (frWr k) N N') : MW N' B r lw := mw_fr h hf (fun k q => by unfold frWr frWw at q; omega) (by unfold frWr frWw; omega)
theorem ref_wyLoop {g : Nat} : ∀ (e m k h j : Nat) (P : List Nat) (b : Option Cd) (N : NN), k + e = 4 → P.length = k + 1 → P[k]? = some h → h ≠ g → PTm N P → MW N B r lw → (∀ i, i < k → 0 ≤ N 95 i ∧ N 95 i < r 3) → N 95 k = (j : Int) - 1 → (j : Int) + m = r 3 → WBm N b →
    ∃ N', lp (fun s => b_X12_findWay_42 X s.1 s.2.1 s.2.2) (N, (g : Int), (k : Int)) = lp (fun s => b_X12_findWay_42 X s.1 s.2.1 s.2.2) (N', (g : Int), (k : Int) - 1) ∧ WBm N' (((edF r h j m).flatMap (wyCh r g e P (prF r (N 95) k) (dsF r (N 95) k))).foldl upU b) ∧ Fr (frWr k) N N' := by
  intro e
  induction e with
  | zero =>
    intro m
    induction m with
    | zero =>
      intro k h j P b N hke hl hh hg hP hM hR ej hm hb
      refine ⟨m_up N 95 k (j : Int), ?_, wbm_fr hb (up_o (by omega)) (up_o (by omega)) (up_o (by omega)) (up_of (by omega)), fr_up fr_rfl (Or.inr (Or.inr ⟨rfl, Nat.le_refl _⟩))⟩
      have v3 := hM.2.1.2.2.2.1
      refine lp_next ?_
      dsimp only
      unfold b_X12_findWay_42
      rw [if_neg (by omega), if_pos (by omega), if_pos (by omega), Int.toNat_natCast, ej, w_id (x := (j : Int) - 1 + 1) (by omega) (by omega), show (j : Int) - 1 + 1 = (j : Int) by omega]
      dsimp only
      rw [if_pos (by omega), if_pos (by rw [up_s, up_o (by omega), hM.1 3 (by omega)]; omega), w_id (by omega) (by omega)]
      rfl
    | succ m ihm =>
      intro k h j P b N hke hl hh hg hP hM hR ej hm hb
      have hV := hM.2.1
      have v3 := hV.2.2.2.1
      have v0 := hV.1
      have hp := hP k h hh
      have f9 : Fr (frWr k) N (m_up N 95 k (j : Int)) := fr_up fr_rfl (Or.inr (Or.inr ⟨rfl, Nat.le_refl _⟩))
      obtain ⟨N9, h9⟩ : ∃ N9, N9 = m_up N 95 k (j : Int) := ⟨_, rfl⟩
      rw [← h9] at f9
      have n9 : N9 95 k = (j : Int) := by rw [h9, up_s]
      have hM9 : MW N9 B r lw := mw_Wr hM f9
      have hP9 : PTm N9 P := fun i v q => by rw [h9, up_o (by omega)]; exact hP i v q
      obtain ⟨⟨fl, N12⟩, e12, g1, g2, g3⟩ := ref_goesOn (X := X) hM9 hl (by omega) hh hP9 (show (j : Int) < r 3 by omega)
      dsimp only at g1 g2 g3
      have f12 : Fr (frWr k) N N12 := fr_tr f9 (fr_mono g3 fun o i q => Or.inr (Or.inl (by omega)))
      have step : ∀ (_ : Unit) (s' : NN × Int × Int), ((if fl = 0 then some (.inl (N12, (g : Int), (k : Int))) else if (N12 93 (k + 1)) = (g : Int) then Option.bind (f_X12_weighWay X N12 ((k : Int) + 1)) (fun o14 => some (.inl (o14, (g : Int), (k : Int)))) else if (k : Int) < 4 then some (.inl (m_up N12 95 (k + 1) (-1), (g : Int), (k : Int) + 1)) else some (.inl (N12, (g : Int), (k : Int)))) : Option ((NN × Int × Int) ⊕ NN)) = some (.inl s') → lp (fun s => b_X12_findWay_42 X s.1 s.2.1 s.2.2) (N, (g : Int), (k : Int)) = lp (fun s => b_X12_findWay_42 X s.1 s.2.1 s.2.2) s' := by
        intro _ s' hs
        refine lp_next ?_
        dsimp only
        unfold b_X12_findWay_42
        rw [if_neg (by omega), if_pos (by omega), if_pos (by omega), Int.toNat_natCast, ej, w_id (x := (j : Int) - 1 + 1) (by omega) (by omega), show (j : Int) - 1 + 1 = (j : Int) by omega, ← h9]
        dsimp only
        rw [if_pos (by omega), if_neg (by rw [n9, hM9.1 3 (by omega)]; omega), if_pos (by omega), n9, e12, Option.bind_some]
        dsimp only
        rw [← hs, w_id (x := (k : Int) + 1) (by omega) (by omega), show ((k : Int) + 1).toNat = k + 1 by omega]
        by_cases c : fl = 0
        · rw [if_pos c, if_pos c]
        · rw [if_neg c, if_neg c, if_pos (by omega)]
          by_cases c2 : N12 93 (k + 1) = (g : Int)
          · rw [if_pos c2, if_pos c2]
          · rw [if_neg c2, if_neg c2]
            by_cases c3 : (k : Int) < 4
            · rw [if_pos c3, if_pos c3, if_pos (by omega)]
            · rw [if_neg c3, if_neg c3]
      have rest : ∀ (M : NN) (b' : Option Cd), Fr (frWr k) N M → (∀ i, i ≤ k → M 93 i = N 93 i) → M 95 k = (j : Int) → WBm M b' → ∃ N', lp (fun s => b_X12_findWay_42 X s.1 s.2.1 s.2.2) (M, (g : Int), (k : Int)) = lp (fun s => b_X12_findWay_42 X s.1 s.2.1 s.2.2) (N', (g : Int), (k : Int) - 1) ∧ WBm N' (((edF r h (j + 1) m).flatMap (wyCh r g 0 P (prF r (N 95) k) (dsF r (N 95) k))).foldl upU b') ∧ Fr (frWr k) N N' := by
        intro M b' fM pM' jM wM
        have eqs := prF_c (r := r) (ρ := M 95) (σ := N 95) k fun i hi => fM 95 i (by unfold frWr frWw; omega)
        obtain ⟨N', r1, r2, r3⟩ := ihm k h (j + 1) P b' M hke hl hh hg (fun i v q => by rw [pM' i (by have := get_lt q; omega)]; exact hP i v q) (mw_Wr hM fM) (fun i hi => by rw [fM 95 i (by unfold frWr frWw; omega)]; exact hR i hi) (by rw [jM]; omega) (by omega) wM
        rw [eqs.1, eqs.2] at r2
        exact ⟨N', r1, r2, fr_tr fM r3⟩
      have p12 : ∀ i, i ≤ k → N12 93 i = N 93 i := fun i hi => by rw [g3 93 i (by omega), h9, up_o (by omega)]
      have j12 : N12 95 k = (j : Int) := by rw [g3 95 k (by omega)]; exact n9
      have w12 : WBm N12 b := wbm_fr hb (by rw [g3 64 53 (by omega), h9, up_o (by omega)]) (by rw [g3 64 54 (by omega), h9, up_o (by omega)]) (by rw [g3 64 55 (by omega), h9, up_o (by omega)]) (by funext i; rw [g3 94 i (by omega), h9, up_o (by omega)])
      have R12 : ∀ i, i < k + 1 → 0 ≤ N12 95 i ∧ N12 95 i < r 3 := fun i hi => by
        by_cases c : i = k
        · rw [c, j12]; omega
        · rw [g3 95 i (by omega), h9, up_k c]; exact hR i (by omega)
      have pr12 : prF r (N12 95) (k + 1) = prF r (N 95) k * (10 - rr r j 3) ∧ dsF r (N12 95) (k + 1) = dsF r (N 95) k + rr r j 2 := by
        have eqs := prF_c (r := r) (ρ := N12 95) (σ := N 95) k fun i hi => by rw [g3 95 i (by omega), h9, up_k (by omega)]
        rw [prF, dsF, eqs.1, eqs.2, j12]
        exact ⟨rfl, rfl⟩
      rw [edF, List.flatMap_append, List.foldl_append]
      by_cases c : (rr r j 0 = (h : Int) ∨ rr r j 1 = (h : Int)) ∧ toR r h j ∉ P
      case neg =>
        rw [if_neg c] at g1
        have s1 := step () (N12, (g : Int), (k : Int)) (by rw [g1, i00])
        have e0 : (if rr r j 0 = (h : Int) ∨ rr r j 1 = (h : Int) then [(toR r h j, 10 - rr r j 3, rr r j 2)] else []).flatMap (wyCh r g 0 P (prF r (N 95) k) (dsF r (N 95) k)) = [] := by
          by_cases q : rr r j 0 = (h : Int) ∨ rr r j 1 = (h : Int)
          · rw [if_pos q, List.flatMap_cons, List.flatMap_nil, List.append_nil]
            unfold wyCh
            exact if_pos (Classical.byContradiction fun z => c ⟨q, z⟩)
          · rw [if_neg q]; rfl
        rw [e0, s1]
        exact rest N12 b f12 p12 j12 w12
      rw [if_pos c] at g1
      have eC : (if rr r j 0 = (h : Int) ∨ rr r j 1 = (h : Int) then [(toR r h j, 10 - rr r j 3, rr r j 2)] else []).flatMap (wyCh r g 0 P (prF r (N 95) k) (dsF r (N 95) k)) = wyN (edM r) g 0 (toR r h j) (P ++ [toR r h j]) (prF r (N 95) k * (10 - rr r j 3)) (dsF r (N 95) k + rr r j 2) := by
        rw [if_pos c.1, List.flatMap_cons, List.flatMap_nil, List.append_nil]
        unfold wyCh
        exact if_neg c.2
      rw [eC]
      have to93 := g2 c
      by_cases cg : toR r h j = g
      case neg =>
        have s1 := step () (N12, (g : Int), (k : Int)) (by rw [g1, i10, if_neg (by omega), if_neg (by omega)])
        rw [s1, wyN, if_neg cg]
        exact rest N12 b f12 p12 j12 w12
      have hP12 : PTm N12 (P ++ [toR r h j]) := by
        intro i v q
        rcases app_g q with q' | ⟨q', q''⟩
        · have := get_lt q'
          rw [p12 i (by omega)]
          exact hP i v q'
        · subst q''
          rw [q', hl, to93]
          have v := hV.2.2.2.2.2.2.2.2.2.2.2.2.2 j (by omega) (by omega)
          refine ⟨rfl, ?_⟩
          have := c.1
          unfold toR
          omega
      have W := ref_weigh (X := X) (n := k + 1) (mw_Wr hM f12) (by rw [List.length_append, hl]; rfl) (by omega) hP12 R12 w12
      obtain ⟨N14, e14, w14, f14⟩ := W
      rw [show ((k + 1 : Nat) : Int) = (k : Int) + 1 by omega] at e14
      have s1 := step () (N14, (g : Int), (k : Int)) (by rw [g1, i10, if_pos (by omega), e14, Option.bind_some])
      rw [pr12.1, pr12.2, show 5 - (k + 1) = 0 by omega] at w14
      rw [s1, cg, wyN_g]
      rw [cg] at w14
      exact rest N14 _ (fr_tr f12 (fr_mono f14 fun o i q => Or.inl q)) (fun i hi => by rw [f14 93 i (by unfold frWw; omega)]; exact p12 i hi) (by rw [f14 95 k (by unfold frWw; omega)]; exact j12) w14
  | succ e ih =>
    intro m
    induction m with
    | zero =>
      intro k h j P b N hke hl hh hg hP hM hR ej hm hb
      refine ⟨m_up N 95 k (j : Int), ?_, wbm_fr hb (up_o (by omega)) (up_o (by omega)) (up_o (by omega)) (up_of (by omega)), fr_up fr_rfl (Or.inr (Or.inr ⟨rfl, Nat.le_refl _⟩))⟩
      have v3 := hM.2.1.2.2.2.1
      refine lp_next ?_
      dsimp only
      unfold b_X12_findWay_42
      rw [if_neg (by omega), if_pos (by omega), if_pos (by omega), Int.toNat_natCast, ej, w_id (x := (j : Int) - 1 + 1) (by omega) (by omega), show (j : Int) - 1 + 1 = (j : Int) by omega]
      dsimp only
      rw [if_pos (by omega), if_pos (by rw [up_s, up_o (by omega), hM.1 3 (by omega)]; omega), w_id (by omega) (by omega)]
      rfl
    | succ m ihm =>
      intro k h j P b N hke hl hh hg hP hM hR ej hm hb
      have hV := hM.2.1
      have v3 := hV.2.2.2.1
      have v0 := hV.1
      have hp := hP k h hh
      have f9 : Fr (frWr k) N (m_up N 95 k (j : Int)) := fr_up fr_rfl (Or.inr (Or.inr ⟨rfl, Nat.le_refl _⟩))
      obtain ⟨N9, h9⟩ : ∃ N9, N9 = m_up N 95 k (j : Int) := ⟨_, rfl⟩
      rw [← h9] at f9
      have n9 : N9 95 k = (j : Int) := by rw [h9, up_s]
      have hM9 : MW N9 B r lw := mw_Wr hM f9
      have hP9 : PTm N9 P := fun i v q => by rw [h9, up_o (by omega)]; exact hP i v q
      obtain ⟨⟨fl, N12⟩, e12, g1, g2, g3⟩ := ref_goesOn (X := X) hM9 hl (by omega) hh hP9 (show (j : Int) < r 3 by omega)
      dsimp only at g1 g2 g3
      have f12 : Fr (frWr k) N N12 := fr_tr f9 (fr_mono g3 fun o i q => Or.inr (Or.inl (by omega)))
      have step : ∀ (_ : Unit) (s' : NN × Int × Int), ((if fl = 0 then some (.inl (N12, (g : Int), (k : Int))) else if (N12 93 (k + 1)) = (g : Int) then Option.bind (f_X12_weighWay X N12 ((k : Int) + 1)) (fun o14 => some (.inl (o14, (g : Int), (k : Int)))) else if (k : Int) < 4 then some (.inl (m_up N12 95 (k + 1) (-1), (g : Int), (k : Int) + 1)) else some (.inl (N12, (g : Int), (k : Int)))) : Option ((NN × Int × Int) ⊕ NN)) = some (.inl s') → lp (fun s => b_X12_findWay_42 X s.1 s.2.1 s.2.2) (N, (g : Int), (k : Int)) = lp (fun s => b_X12_findWay_42 X s.1 s.2.1 s.2.2) s' := by
        intro _ s' hs
        refine lp_next ?_
        dsimp only
        unfold b_X12_findWay_42
        rw [if_neg (by omega), if_pos (by omega), if_pos (by omega), Int.toNat_natCast, ej, w_id (x := (j : Int) - 1 + 1) (by omega) (by omega), show (j : Int) - 1 + 1 = (j : Int) by omega, ← h9]
        dsimp only
        rw [if_pos (by omega), if_neg (by rw [n9, hM9.1 3 (by omega)]; omega), if_pos (by omega), n9, e12, Option.bind_some]
        dsimp only
        rw [← hs, w_id (x := (k : Int) + 1) (by omega) (by omega), show ((k : Int) + 1).toNat = k + 1 by omega]
        by_cases c : fl = 0
        · rw [if_pos c, if_pos c]
        · rw [if_neg c, if_neg c, if_pos (by omega)]
          by_cases c2 : N12 93 (k + 1) = (g : Int)
          · rw [if_pos c2, if_pos c2]
          · rw [if_neg c2, if_neg c2]
            by_cases c3 : (k : Int) < 4
            · rw [if_pos c3, if_pos c3, if_pos (by omega)]
            · rw [if_neg c3, if_neg c3]
      have rest : ∀ (M : NN) (b' : Option Cd), Fr (frWr k) N M → (∀ i, i ≤ k → M 93 i = N 93 i) → M 95 k = (j : Int) → WBm M b' → ∃ N', lp (fun s => b_X12_findWay_42 X s.1 s.2.1 s.2.2) (M, (g : Int), (k : Int)) = lp (fun s => b_X12_findWay_42 X s.1 s.2.1 s.2.2) (N', (g : Int), (k : Int) - 1) ∧ WBm N' (((edF r h (j + 1) m).flatMap (wyCh r g (e + 1) P (prF r (N 95) k) (dsF r (N 95) k))).foldl upU b') ∧ Fr (frWr k) N N' := by
        intro M b' fM pM' jM wM
        have eqs := prF_c (r := r) (ρ := M 95) (σ := N 95) k fun i hi => fM 95 i (by unfold frWr frWw; omega)
        obtain ⟨N', r1, r2, r3⟩ := ihm k h (j + 1) P b' M hke hl hh hg (fun i v q => by rw [pM' i (by have := get_lt q; omega)]; exact hP i v q) (mw_Wr hM fM) (fun i hi => by rw [fM 95 i (by unfold frWr frWw; omega)]; exact hR i hi) (by rw [jM]; omega) (by omega) wM
        rw [eqs.1, eqs.2] at r2
        exact ⟨N', r1, r2, fr_tr fM r3⟩
      have p12 : ∀ i, i ≤ k → N12 93 i = N 93 i := fun i hi => by rw [g3 93 i (by omega), h9, up_o (by omega)]
      have j12 : N12 95 k = (j : Int) := by rw [g3 95 k (by omega)]; exact n9
      have w12 : WBm N12 b := wbm_fr hb (by rw [g3 64 53 (by omega), h9, up_o (by omega)]) (by rw [g3 64 54 (by omega), h9, up_o (by omega)]) (by rw [g3 64 55 (by omega), h9, up_o (by omega)]) (by funext i; rw [g3 94 i (by omega), h9, up_o (by omega)])
      have R12 : ∀ i, i < k + 1 → 0 ≤ N12 95 i ∧ N12 95 i < r 3 := fun i hi => by
        by_cases c : i = k
        · rw [c, j12]; omega
        · rw [g3 95 i (by omega), h9, up_k c]; exact hR i (by omega)
      have pr12 : prF r (N12 95) (k + 1) = prF r (N 95) k * (10 - rr r j 3) ∧ dsF r (N12 95) (k + 1) = dsF r (N 95) k + rr r j 2 := by
        have eqs := prF_c (r := r) (ρ := N12 95) (σ := N 95) k fun i hi => by rw [g3 95 i (by omega), h9, up_k (by omega)]
        rw [prF, dsF, eqs.1, eqs.2, j12]
        exact ⟨rfl, rfl⟩
      rw [edF, List.flatMap_append, List.foldl_append]
      by_cases c : (rr r j 0 = (h : Int) ∨ rr r j 1 = (h : Int)) ∧ toR r h j ∉ P
      case neg =>
        rw [if_neg c] at g1
        have s1 := step () (N12, (g : Int), (k : Int)) (by rw [g1, i00])
        have e0 : (if rr r j 0 = (h : Int) ∨ rr r j 1 = (h : Int) then [(toR r h j, 10 - rr r j 3, rr r j 2)] else []).flatMap (wyCh r g (e + 1) P (prF r (N 95) k) (dsF r (N 95) k)) = [] := by
          by_cases q : rr r j 0 = (h : Int) ∨ rr r j 1 = (h : Int)
          · rw [if_pos q, List.flatMap_cons, List.flatMap_nil, List.append_nil]
            unfold wyCh
            exact if_pos (Classical.byContradiction fun z => c ⟨q, z⟩)
          · rw [if_neg q]; rfl
        rw [e0, s1]
        exact rest N12 b f12 p12 j12 w12
      rw [if_pos c] at g1
      have eC : (if rr r j 0 = (h : Int) ∨ rr r j 1 = (h : Int) then [(toR r h j, 10 - rr r j 3, rr r j 2)] else []).flatMap (wyCh r g (e + 1) P (prF r (N 95) k) (dsF r (N 95) k)) = wyN (edM r) g (e + 1) (toR r h j) (P ++ [toR r h j]) (prF r (N 95) k * (10 - rr r j 3)) (dsF r (N 95) k + rr r j 2) := by
        rw [if_pos c.1, List.flatMap_cons, List.flatMap_nil, List.append_nil]
        unfold wyCh
        exact if_neg c.2
      rw [eC]
      have to93 := g2 c
      have hP12 : PTm N12 (P ++ [toR r h j]) := by
        intro i v q
        rcases app_g q with q' | ⟨q', q''⟩
        · have := get_lt q'
          rw [p12 i (by omega)]
          exact hP i v q'
        · subst q''
          rw [q', hl, to93]
          have v := hV.2.2.2.2.2.2.2.2.2.2.2.2.2 j (by omega) (by omega)
          refine ⟨rfl, ?_⟩
          have := c.1
          unfold toR
          omega
      by_cases cg : toR r h j = g
      · have W := ref_weigh (X := X) (n := k + 1) (mw_Wr hM f12) (by rw [List.length_append, hl]; rfl) (by omega) hP12 R12 w12
        obtain ⟨N14, e14, w14, f14⟩ := W
        rw [show ((k + 1 : Nat) : Int) = (k : Int) + 1 by omega] at e14
        have s1 := step () (N14, (g : Int), (k : Int)) (by rw [g1, i10, if_pos (by omega), e14, Option.bind_some])
        rw [pr12.1, pr12.2, show 5 - (k + 1) = e + 1 by omega] at w14
        rw [s1, cg, wyN_g]
        rw [cg] at w14
        exact rest N14 _ (fr_tr f12 (fr_mono f14 fun o i q => Or.inl q)) (fun i hi => by rw [f14 93 i (by unfold frWw; omega)]; exact p12 i hi) (by rw [f14 95 k (by unfold frWw; omega)]; exact j12) w14
      have s1 := step () (m_up N12 95 (k + 1) (-1), (g : Int), (k : Int) + 1) (by rw [g1, i10, if_neg (by omega), if_pos (by omega)])
      have f16 : Fr (frWr k) N (m_up N12 95 (k + 1) (-1)) := fr_up f12 (Or.inr (Or.inr ⟨rfl, by omega⟩))
      have eq16 := prF_c (r := r) (ρ := (m_up N12 95 (k + 1) (-1)) 95) (σ := N12 95) (k + 1) fun i hi => up_k (by omega)
      obtain ⟨m0, hm0⟩ := Int.eq_ofNat_of_zero_le v3.1
      obtain ⟨N17, r1, r2, r3⟩ := ih m0 (k + 1) (toR r h j) 0 (P ++ [toR r h j]) b (m_up N12 95 (k + 1) (-1)) (by omega) (by rw [List.length_append, hl]; rfl) (by rw [← hl, List.getElem?_append_right (Nat.le_refl _), Nat.sub_self]; rfl) cg (fun i v q => by rw [up_o (by omega)]; exact hP12 i v q) (mw_Wr hM f16) (fun i hi => by rw [up_k (by omega)]; exact R12 i hi) (by rw [up_s]; omega) (by omega) (wbm_fr w12 (up_o (by omega)) (up_o (by omega)) (up_o (by omega)) (up_of (by omega)))
      rw [eq16.1, eq16.2, pr12.1, pr12.2, show m0 = (r 3).toNat by omega] at r2
      rw [show ((k + 1 : Nat) : Int) = (k : Int) + 1 by omega, show (k : Int) + 1 - 1 = (k : Int) by omega] at r1
      rw [s1, r1, wyN_n _ _ _ cg]
      exact rest N17 _ (fr_tr f16 (fr_mono r3 fun o i q => by rcases q with q | q | q; exact Or.inl q; exact Or.inr (Or.inl (by omega)); exact Or.inr (Or.inr (by omega)))) (fun i hi => by rw [r3 93 i (by unfold frWr frWw; omega), up_o (by omega)]; exact p12 i hi) (by rw [r3 95 k (by unfold frWr frWw; omega), up_k (by omega)]; exact j12) r2
end WL
