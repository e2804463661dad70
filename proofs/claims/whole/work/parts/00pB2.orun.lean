/-! orders are run: what is asked for, and one step in the class -/
abbrev OS : Type := (Nat → Int) × Un × Int × Int
def envO (r : Nat → Int) (dn la : Int) : Env := fun j =>
  if j = 0 then r 6 else if j = 1 then r 1 else if j = 2 then dn else if j = 3 then la
  else if j < 10 then (if (j : Int) - 4 < r 0 then rl r ((j : Int) - 4) 0 else -1)
  else if j < 26 then (if (j : Int) - 10 < r 1 then rg r ((j : Int) - 10) 0 else -1)
  else if j < 32 then (if (j : Int) - 26 < r 0 then owesS r ((j : Int) - 26) else -1) else 0
noncomputable def canB (r : Nat → Int) (lw : Nat → Law) (g to : Int) : Bool := @decide (canS r lw g to) (Classical.propDecidable _)
theorem canB_iff {r : Nat → Int} {lw : Nat → Law} {g to : Int} : canB r lw g to = true ↔ canS r lw g to := by unfold canB; exact @decide_eq_true_iff _ (Classical.propDecidable _)
noncomputable def giveO (lw : Nat → Law) (s : OS) : Option Int → Option Int → Option OS
  | some g, some t => if (0 ≤ g ∧ g < s.1 1) ∧ (0 ≤ t ∧ t < s.1 0) ∧ canB s.1 lw g t = true then some (handS s.1 lw g t, pushU s.2.1 s.1 0, s.2.2.1 + 1, worthS s.1 lw g (rg s.1 g 0) t) else none
  | some _, none => none
  | none, _ => none
noncomputable def actO (lw : Nat → Law) (s : OS) : Option (Den × Den) → Option OS
  | none => if s.1 6 ≤ 998 then some ((waitS s.1 lw 0).1, pushU s.2.1 s.1 1, s.2.2.1 + 1, s.2.2.2) else none
  | some D => giveO lw s (D.1 (envO s.1 s.2.2.1 s.2.2.2)) (D.2 (envO s.1 s.2.2.1 s.2.2.2))
noncomputable def stepO (lw : Nat → Law) (c : OCl) (s : OS) : Option OS := if soB c.2.2.1 (envO s.1 s.2.2.1 s.2.2.2) = true then actO lw s c.2.2.2 else some s
noncomputable def repO (lw : Nat → Law) (c : OCl) : Nat → OS → Option OS
  | 0, s => some s
  | k + 1, s => match stepO lw c s with
    | none => none
    | some s' => repO lw c k s'
noncomputable def runO (lw : Nat → Law) (L : List OCl) : Nat → Nat → OS → Nat ⊕ OS
  | 0, _, s => .inr s
  | f + 1, i, s => match L[i]? with
    | none => .inr s
    | some c => match repO lw c c.2.1.toNat s with
      | none => .inl i
      | some s' => runO lw L f (i + 1) s'
theorem envO_ok {B : Int} {r : Nat → Int} {dn la : Int} (hV : Vr B r) (hd : 0 ≤ dn ∧ dn ≤ 1000) (hl : -1 ≤ la ∧ la ≤ 999) : EnvOK (envO r dn la) := by
  obtain ⟨v0, v1, v2, v3, v4, v5, v6, v7, v8, v9, v10, -⟩ := hV
  intro j
  unfold envO
  by_cases c0 : j = 0
  · rw [if_pos c0]; omega
  rw [if_neg c0]
  by_cases c1 : j = 1
  · rw [if_pos c1]; omega
  rw [if_neg c1]
  by_cases c2 : j = 2
  · rw [if_pos c2]; omega
  rw [if_neg c2]
  by_cases c3 : j = 3
  · rw [if_pos c3]; omega
  rw [if_neg c3]
  by_cases c4 : j < 10
  · rw [if_pos c4]
    by_cases g : (j : Int) - 4 < r 0
    · rw [if_pos g]
      have := v9 ((j : Int) - 4) (by omega) (by omega)
      omega
    · rw [if_neg g]; omega
  rw [if_neg c4]
  by_cases c5 : j < 26
  · rw [if_pos c5]
    by_cases g : (j : Int) - 10 < r 1
    · rw [if_pos g]
      have := v10 ((j : Int) - 10) (by omega) g
      omega
    · rw [if_neg g]; omega
  rw [if_neg c5]
  by_cases c6 : j < 32
  · rw [if_pos c6]
    by_cases g : (j : Int) - 26 < r 0
    · rw [if_pos g]
      have := owes_b r ((j : Int) - 26) 6 (Nat.le_refl _)
      unfold owesS
      omega
    · rw [if_neg g]; omega
  · rw [if_neg c6]; omega
def frQo (o k : Nat) : Prop := o = 26 ∨ o = 27 ∨ o = 40 ∨ o = 41
def frOr (o k : Nat) : Prop := frK o k ∨ o = 40 ∨ o = 41 ∨ (o = 33 ∧ (k = 6 ∨ k = 7))
def CS (X : MX) (B : Int) (lw : Nat → Law) (N : NN) (s : OS) : Prop := CW X N 4 (B + s.2.2.1) s.1 lw ∧ CUn N s.2.1 ∧ N 33 6 = s.2.2.1 ∧ N 33 7 = s.2.2.2 ∧ UV (B + s.2.2.1) s.1 s.2.1 ∧ 0 ≤ s.2.2.1 ∧ -1 ≤ s.2.2.2 ∧ s.2.2.2 ≤ 999
section OR
variable {X : MX} {N : NN} {B : Int} {lw : Nat → Law}
theorem cs_fr {N' : NN} {s : OS} (h : CS X B lw N s) (hf : Fr frQo N N') : CS X B lw N' s := by
  obtain ⟨a, b, c, d, e⟩ := h
  refine ⟨cw_fr a hf fun o k q => by unfold frQo at q; omega, cun_eq b (fr_of hf _ fun k => by unfold frQo; omega) (fr_of hf _ fun k => by unfold frQo; omega) (fr_of hf _ fun k => by unfold frQo; omega), (hf 33 6 (by unfold frQo; omega)).trans c, (hf 33 7 (by unfold frQo; omega)).trans d, e⟩
theorem fr_qo {N' : NN} (h : Fr frQo N N') : Fr frOr N N' := fr_mono h fun o k q => by unfold frQo at q; unfold frOr frK; omega
theorem fr_ko {N' : NN} (h : Fr frK N N') : Fr frOr N N' := fr_mono h fun o k q => Or.inl q
theorem c_look {r : Nat → Int} {dn la : Int} (hR : Rw (N 5) r) (hV : Vr B r) (h6 : N 33 6 = dn) (h7 : N 33 7 = la) : Ok (f_X3_look X 4 N) (fun N' => (∀ j : Nat, j < 32 → N' 40 j = envO r dn la j) ∧ Fr (fun o k => o = 40) N N') := by
  have v0 := hV.1
  have v1 := hV.2.1
  have r5 : ∀ (M : NN), M 5 = N 5 → Rw (M (4 + 1)) r := fun M e => by show Rw (M 5) r; rw [e]; exact hR
  have t1 : f_X10_term X N 4 0 = some (r 6) := c_term (r5 N rfl) (by omega) (by omega)
  have t2 : f_X10_many X (m_up N 40 0 (r 6)) 4 1 = some (r 1) := c_many (r5 _ (up_of (by omega))) (by omega) (by omega)
  have e6 : m_up (m_up N 40 0 (r 6)) 40 1 (r 1) 33 6 = dn := by rw [up_o (by omega), up_o (by omega)]; exact h6
  have e7 : m_up (m_up (m_up N 40 0 (r 6)) 40 1 (r 1)) 40 2 dn 33 7 = la := by rw [up_o (by omega), up_o (by omega), up_o (by omega)]; exact h7
  obtain ⟨N6, hN⟩ : ∃ N6, N6 = m_up (m_up (m_up (m_up N 40 0 (r 6)) 40 1 (r 1)) 40 2 dn) 40 3 la := ⟨_, rfl⟩
  have f6 : Fr (fun o k => o = 40) N N6 := by rw [hN]; exact fr_up (fr_up (fr_up (fr_up fr_rfl (by omega)) (by omega)) (by omega)) (by omega)
  unfold f_X3_look
  rw [t1, Option.bind_some]
  dsimp only
  rw [t2, Option.bind_some, e6, e7, ← hN]
  have low : ∀ j : Nat, j < 4 → N6 40 j = envO r dn la j := by
    intro j hj
    match j, hj with
    | 0, _ => rw [hN, up_k (by omega), up_k (by omega), up_k (by omega), up_s]; rfl
    | 1, _ => rw [hN, up_k (by omega), up_k (by omega), up_s]; rfl
    | 2, _ => rw [hN, up_k (by omega), up_s]; rfl
    | 3, _ => rw [hN, up_s]; rfl
    | j + 4, hj => omega
  have H1 : Ok (lp (fun s : NN × Int => b_X3_look_44 X 4 s.1 s.2) (N6, 0)) (fun M => (∀ j : Nat, j < 10 ∨ (26 ≤ j ∧ j < 32) → M 40 j = envO r dn la j) ∧ Fr (fun o k => o = 40) N M) := by
    refine ok_up (fun i s => ∃ M, s = (M, i) ∧ (∀ j : Nat, ((j : Int) < 4 + i ∧ j < 10) ∨ (26 ≤ j ∧ (j : Int) < 26 + i) → M 40 j = envO r dn la j) ∧ Fr (fun o k => o = 40) N M) 6 (i0 := 0) ?_ ?_ (by omega) ⟨N6, rfl, fun j hj => low j (by omega), f6⟩
    · rintro i s a0 a1 ⟨M, rfl, hM, hf⟩
      obtain ⟨m, rfl⟩ := Int.eq_ofNat_of_zero_le a0
      have hRM := r5 M (fr_of hf 5 fun k => by omega)
      dsimp only
      unfold b_X3_look_44 f_X3_look_l44_j77 f_X3_look_l44_j99
      rw [if_pos a1, c_isLord hRM, Option.bind_some, w_id (x := 4 + (m : Int)) (by omega) (by omega), w_id (x := 26 + (m : Int)) (by omega) (by omega), w_id (x := (m : Int) + 1) (by omega) (by omega)]
      have x4 : envO r dn la (4 + m) = if (m : Int) < r 0 then rl r (m : Int) 0 else -1 := by
        unfold envO
        rw [if_neg (by omega), if_neg (by omega), if_neg (by omega), if_neg (by omega), if_pos (by omega), show ((4 + m : Nat) : Int) - 4 = (m : Int) by omega]
      have x26 : envO r dn la (26 + m) = if (m : Int) < r 0 then owesS r (m : Int) else -1 := by
        unfold envO
        rw [if_neg (by omega), if_neg (by omega), if_neg (by omega), if_neg (by omega), if_neg (by omega), if_neg (by omega), if_pos (by omega), show ((26 + m : Nat) : Int) - 26 = (m : Int) by omega]
      have K : ∀ v w : Int, v = envO r dn la (4 + m) → w = envO r dn la (26 + m) → Ok (some (Sum.inl (α := NN × Int) (β := NN) (m_up (m_up M 40 (4 + m) v) 40 (26 + m) w, (m : Int) + 1))) (fun o => ∃ M', o = .inl (M', (m : Int) + 1) ∧ (∀ j : Nat, ((j : Int) < 4 + ((m : Int) + 1) ∧ j < 10) ∨ (26 ≤ j ∧ (j : Int) < 26 + ((m : Int) + 1)) → M' 40 j = envO r dn la j) ∧ Fr (fun o k => o = 40) N M') := by
        intro v w hv hw
        refine ok_ret ⟨_, rfl, fun j hj => ?_, fr_up (fr_up hf rfl) rfl⟩
        by_cases c1 : j = 26 + m
        · rw [c1, up_s]; exact hw
        rw [up_k c1]
        by_cases c2 : j = 4 + m
        · rw [c2, up_s]; exact hv
        rw [up_k c2]
        exact hM j (by omega)
      by_cases c : (m : Int) < r 0
      · rw [if_pos (show 0 ≤ (m : Int) ∧ (m : Int) < r 0 by omega), i10, c_lordAt hRM (by omega) (by omega) (by omega) (by omega), Option.bind_some, if_pos (by omega), show (4 + (m : Int)).toNat = 4 + m by omega]
        dsimp only
        rw [i10, c_standingAgainst (r5 _ ((up_of (by omega)).trans (fr_of hf 5 fun k => by omega))) (by omega) (by omega), Option.bind_some, if_pos (by omega), show (26 + (m : Int)).toNat = 26 + m by omega]
        exact ok_mono (K _ _ (by rw [x4, if_pos c]) (by rw [x26, if_pos c])) (by rintro o ⟨M', rfl, g1, g2⟩; exact ⟨M', rfl, g1, g2⟩)
      · rw [if_neg (show ¬ (0 ≤ (m : Int) ∧ (m : Int) < r 0) by omega), i00, if_pos (by omega), show (4 + (m : Int)).toNat = 4 + m by omega]
        dsimp only
        rw [i00, if_pos (by omega), show (26 + (m : Int)).toNat = 26 + m by omega]
        exact ok_mono (K _ _ (by rw [x4, if_neg c]) (by rw [x26, if_neg c])) (by rintro o ⟨M', rfl, g1, g2⟩; exact ⟨M', rfl, g1, g2⟩)
    · rintro s ⟨M, rfl, hM, hf⟩
      dsimp only
      unfold b_X3_look_44
      rw [if_neg (by omega)]
      exact ok_ret ⟨fun j hj => hM j (by omega), hf⟩
  refine ok_bind H1 ?_
  intro N17 ⟨p1, p2⟩
  have H2 : Ok (lp (fun s : NN × Int => b_X3_look_108 X 4 s.1 s.2) (N17, 0)) (fun M => (∀ j : Nat, j < 32 → M 40 j = envO r dn la j) ∧ Fr (fun o k => o = 40) N M) := by
    refine ok_up (fun i s => ∃ M, s = (M, i) ∧ (∀ j : Nat, (j : Int) < 10 + i ∨ (26 ≤ j ∧ j < 32) → M 40 j = envO r dn la j) ∧ Fr (fun o k => o = 40) N M) 16 (i0 := 0) ?_ ?_ (by omega) ⟨N17, rfl, fun j hj => p1 j (by omega), p2⟩
    · rintro i s a0 a1 ⟨M, rfl, hM, hf⟩
      obtain ⟨m, rfl⟩ := Int.eq_ofNat_of_zero_le a0
      have hRM := r5 M (fr_of hf 5 fun k => by omega)
      dsimp only
      unfold b_X3_look_108 f_X3_look_l108_j140
      rw [if_pos a1, c_isGood hRM, Option.bind_some, w_id (x := 10 + (m : Int)) (by omega) (by omega), w_id (x := (m : Int) + 1) (by omega) (by omega)]
      have x10 : envO r dn la (10 + m) = if (m : Int) < r 1 then rg r (m : Int) 0 else -1 := by
        unfold envO
        rw [if_neg (by omega), if_neg (by omega), if_neg (by omega), if_neg (by omega), if_neg (by omega), if_pos (by omega), show ((10 + m : Nat) : Int) - 10 = (m : Int) by omega]
      have K : ∀ v : Int, v = envO r dn la (10 + m) → Ok (some (Sum.inl (α := NN × Int) (β := NN) (m_up M 40 (10 + m) v, (m : Int) + 1))) (fun o => ∃ M', o = .inl (M', (m : Int) + 1) ∧ (∀ j : Nat, (j : Int) < 10 + ((m : Int) + 1) ∨ (26 ≤ j ∧ j < 32) → M' 40 j = envO r dn la j) ∧ Fr (fun o k => o = 40) N M') := by
        intro v hv
        refine ok_ret ⟨_, rfl, fun j hj => ?_, fr_up hf rfl⟩
        by_cases c2 : j = 10 + m
        · rw [c2, up_s]; exact hv
        rw [up_k c2]
        exact hM j (by omega)
      by_cases c : (m : Int) < r 1
      · rw [if_pos (show 0 ≤ (m : Int) ∧ (m : Int) < r 1 by omega), i10, c_goodAt hRM (by omega) (by omega) (by omega) (by omega), Option.bind_some, if_pos (by omega), show (10 + (m : Int)).toNat = 10 + m by omega]
        exact ok_mono (K _ (by rw [x10, if_pos c])) (by rintro o ⟨M', rfl, g1, g2⟩; exact ⟨M', rfl, g1, g2⟩)
      · rw [if_neg (show ¬ (0 ≤ (m : Int) ∧ (m : Int) < r 1) by omega), i00, if_pos (by omega), show (10 + (m : Int)).toNat = 10 + m by omega]
        exact ok_mono (K _ (by rw [x10, if_neg c])) (by rintro o ⟨M', rfl, g1, g2⟩; exact ⟨M', rfl, g1, g2⟩)
    · rintro s ⟨M, rfl, hM, hf⟩
      dsimp only
      unfold b_X3_look_108
      rw [if_neg (by omega)]
      exact ok_ret ⟨fun j hj => hM j (by omega), hf⟩
  refine ok_bind H2 ?_
  intro N24 p
  exact ok_ret p
theorem c_partO {i a : Nat} (hX : XOK X) (hi : i < 12) (ha : a < 8) : f_X8_part X N 21 (i : Int) (a : Int) = some (N 24 (8 * i + a)) := by
  have e : (((xK X (21 + 3)).2 : Nat) : Int) = 96 := by rw [hX.2.2.2.2.2.2.2.1]; rfl
  unfold f_X8_part
  rw [e, w_id (x := (i : Int) * 8) (by omega) (by omega), w_id (x := (i : Int) * 8 + (a : Int)) (by omega) (by omega), if_pos (by omega), show ((i : Int) * 8 + (a : Int)).toNat = 8 * i + a by omega]
theorem c_oval {e : Env} {D : Den} {z s0 s1 : Nat} (hX : XOK X) (hz : z ≤ 400) (h3 : N 21 3 = (z : Int)) (hE : ∀ j : Nat, j < 32 → N 40 j = e j) (he : EnvOK e) (h1 : s1 ≤ z) (hS : Seg 32 (N 22) (N 23) s0 s1 28 D) : Ok (f_X8_value X 21 40 41 N (s0 : Int) (s1 : Int)) (fun o => o.1 = (D e).getD (-2000000000) ∧ Fr (frSt 41) N o.2) := by
  obtain ⟨x1, x2, x3, x4, x5, x6, x7, x8, -⟩ := hX
  refine c_value (X := X) (W := 32) (t := 21) (w := 40) (s := 41) (A := N 22) (R := N 23) (e := e) (sz := z) ⟨32, x3, rfl, by omega⟩ x4 (by rw [x6]; exact hz) (by rw [x7]; exact hz) h1 hz (by omega) (by omega) (by omega) h3 (fun k _ => ⟨rfl, rfl⟩) (fun k hk => hE k (by omega)) (show 28 ≤ 31 by omega) hS he
theorem c_oso {e : Env} {c : OCl} {z i : Nat} (hX : XOK X) (hi : i < 12) (hz : z ≤ 400) (h3 : N 21 3 = (z : Int)) (hc : COC 32 N i c z) (hE : ∀ j : Nat, j < 32 → N 40 j = e j) (he : EnvOK e) : Ok (f_X8_isSo X 21 40 41 N (i : Int)) (fun o => o.1 = (if soB c.2.2.1 e = true then 1 else 0) ∧ Fr (frSt 41) N o.2) := by
  have sz : (((xK X (21 + 3)).2 : Nat) : Int) = 96 := by rw [hX.2.2.2.2.2.2.2.1]; rfl
  obtain ⟨_, _, _, _, hd, _⟩ := hc
  unfold f_X8_isSo f_X8_isSo_j60
  rw [sz, w_id (x := (i : Int) * 8) (by omega) (by omega), w_id (x := (i : Int) * 8 + 2) (by omega) (by omega), w_id (x := (i : Int) * 8 + 2 + 1) (by omega) (by omega), if_pos (by omega), if_pos (by omega), show ((i : Int) * 8 + 2).toNat = 8 * i + 2 by omega, show ((i : Int) * 8 + 2 + 1).toNat = 8 * i + 2 + 1 by omega]
  cases hcd : c.2.2.1 with
  | none =>
    rw [hcd] at hd
    obtain ⟨y1, y2⟩ := hd
    have y1' : N (21 + 3) (8 * i + 2) = 0 := y1
    have y2' : N (21 + 3) (8 * i + 2 + 1) = 0 := y2
    rw [y1', y2', if_neg (by omega)]
    exact ok_ret ⟨by rw [if_pos (show soB none e = true from rfl)], fr_rfl⟩
  | some D =>
    rw [hcd] at hd
    obtain ⟨⟨s0, s1, a1, a2, a3, a4⟩, y2⟩ := hd
    have a1' : N (21 + 3) (8 * i + 2) = (s0 : Int) := a1
    have a2' : N (21 + 3) (8 * i + 2 + 1) = (s1 : Int) := a2
    have lt := a4.1
    rw [a1', a2', if_pos (by omega), if_pos (by omega), if_pos (by omega)]
    refine ok_bind (c_oval hX hz h3 hE he a3 a4) ?_
    rintro ⟨v, M⟩ ⟨q1, q2⟩
    dsimp only at q1 q2 ⊢
    by_cases g : D e = some 1
    · rw [if_pos (show v = 1 by rw [q1, g]; rfl), if_pos (by omega), if_pos (show soB (some D) e = true from decide_eq_true g)]
      exact ok_ret ⟨rfl, q2⟩
    · have nv : ¬ v = 1 := by
        intro y
        rw [q1] at y
        cases hD : D e with
        | none => rw [hD] at y; exact absurd (show (-2000000000 : Int) = 1 from y) (by omega)
        | some v' =>
          rw [hD] at y
          have y' : v' = 1 := y
          exact g (by rw [hD, y'])
      rw [if_neg nv, if_pos (by omega), if_neg (show ¬ soB (some D) e = true from fun y => g (of_decide_eq_true y))]
      exact ok_ret ⟨rfl, q2⟩
theorem c_osum {e : Env} {D : Den} {z i a : Nat} (hX : XOK X) (hi : i < 12) (ha : a < 7) (hz : z ≤ 400) (h3 : N 21 3 = (z : Int)) (hs : SC 32 N (8 * i + a) z D) (hE : ∀ j : Nat, j < 32 → N 40 j = e j) (he : EnvOK e) : Ok (f_X8_sum X 21 40 41 N (i : Int) (a : Int)) (fun o => o.1 = (D e).getD (-2000000000) ∧ Fr (frSt 41) N o.2) := by
  have sz : (((xK X (21 + 3)).2 : Nat) : Int) = 96 := by rw [hX.2.2.2.2.2.2.2.1]; rfl
  obtain ⟨s0, s1, a1, a2, a3, a4⟩ := hs
  have a1' : N (21 + 3) (8 * i + a) = (s0 : Int) := a1
  have a2' : N (21 + 3) (8 * i + a + 1) = (s1 : Int) := a2
  unfold f_X8_sum
  rw [sz, w_id (x := (i : Int) * 8) (by omega) (by omega), w_id (x := (i : Int) * 8 + (a : Int)) (by omega) (by omega), w_id (x := (i : Int) * 8 + (a : Int) + 1) (by omega) (by omega), if_pos (by omega), if_pos (by omega), show ((i : Int) * 8 + (a : Int)).toNat = 8 * i + a by omega, show ((i : Int) * 8 + (a : Int) + 1).toNat = 8 * i + a + 1 by omega, a1', a2']
  refine ok_bind (c_oval hX hz h3 hE he a3 a4) ?_
  rintro ⟨v, M⟩ q
  exact ok_ret q
end OR
