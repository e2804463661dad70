/-! duel: how long the class lets the game run, and its answer -/
section DU4
variable {X : MX} {N : NN} {L : Nat → List Nat} {W C : Nat → Nat → Int}
theorem pl_n {f s : Nat} {a m t : Int} (h : chG L W C s a m t = none) : plG L W C (f + 1) s a m t = 0 := by rw [plG, h]
theorem pl_s {f s g : Nat} {a m t : Int} (h : chG L W C s a m t = some g) : plG L W C (f + 1) s a m t = if t - C s g < 0 then 1 else 1 + plG L W C f (1 - s) (W s g) (t - C s g) m := by rw [plG, h]
theorem c_choose {s : Nat} {a m t : Int} (hB : DB L W C) (hD : ∀ s, s < 2 → DC N s (L s) (W s) (C s)) (hs : s < 2) (hm : 0 ≤ m ∧ m ≤ 9999) (ht : 0 ≤ t ∧ t ≤ 9999) {β : Type} {K : Int → Option β} {Q : β → Prop} (hK : ∀ o, FS (L s) s (chG L W C s a m t) o → Ok (K o) Q) :
    Ok (Option.bind (f_X1_lowestWinning X N s a m t) (fun o1 => if o1 = -1 then Option.bind (f_X1_lowestPossible X N s a) (fun o2 => K o2) else K o1)) Q := by
  refine ok_bind (c_lowW hB hD hs hm ht) ?_
  rintro o (⟨rfl, q⟩ | ⟨i, g, rfl, q1, q2⟩)
  · rw [if_pos rfl]
    refine ok_bind (c_lowP hB hD hs) ?_
    intro o ho
    refine hK o ?_
    unfold chG
    rw [q, Option.none_or]
    exact ho
  · rw [if_neg (by omega)]
    refine hK _ (Or.inr ⟨i, g, rfl, q1, ?_⟩)
    unfold chG
    rw [q2]
    rfl
theorem c_length {m0 t0 : Int} (hB : DB L W C) (hD : ∀ s, s < 2 → DC N s (L s) (W s) (C s)) (e0 : N 47 0 = m0) (e1 : N 47 1 = t0) (hm0 : 0 ≤ m0 ∧ m0 ≤ 9999) (ht0 : 0 ≤ t0 ∧ t0 ≤ 9999) :
    Ok (f_X1_length X N) (fun o => o = plG L W C 13 0 (-1) m0 t0) := by
  unfold f_X1_length
  rw [e0, e1]
  have hr0 : rG L W (-1) ≤ 12 := by
    have x0 := cP_len (fun g => decide (-1 < W 0 g)) (L 0)
    have x1 := cP_len (fun g => decide (-1 < W 1 g)) (L 1)
    have y0 := (hB 0 (by omega)).1
    have y1 := (hB 1 (by omega)).1
    unfold rG
    omega
  have H : Ok (lp (fun s => b_X1_length_19 X N s.1 s.2.1 s.2.2.1 s.2.2.2) (m0, t0, (-1), 0)) (fun o => (o = .inl () ∧ plG L W C 13 0 (-1) m0 t0 = 12) ∨ (∃ x, o = .inr (.inl x) ∧ plG L W C 13 0 (-1) m0 t0 = x) ∨ (∃ x, o = .inr (.inr x) ∧ plG L W C 13 0 (-1) m0 t0 = x + 1 ∧ 0 ≤ x ∧ x ≤ 12)) := by
    refine ok_up (fun i z => ∃ m t a : Int, z = (m, t, a, i) ∧ (0 ≤ m ∧ m ≤ 9999) ∧ (0 ≤ t ∧ t ≤ 9999) ∧ rG L W a + i.toNat ≤ 12 ∧ plG L W C 13 0 (-1) m0 t0 = i + plG L W C (13 - i.toNat) (i.toNat % 2) a m t) 12 (i0 := 0) ?_ ?_ (by omega) ⟨m0, t0, -1, rfl, hm0, ht0, by omega, by rw [Int.zero_add]; rfl⟩
    · rintro i z a0 a1 ⟨m, t, a, rfl, hm, ht, hr, hp⟩
      obtain ⟨k, rfl⟩ := Int.eq_ofNat_of_zero_le a0
      rw [Int.toNat_natCast] at hr hp
      rw [show 13 - k = (12 - k) + 1 by omega] at hp
      dsimp only
      unfold b_X1_length_19
      rw [if_pos a1, rem_id (by omega) (by omega) (by omega) (by omega), show (k : Int) % 2 = ((k % 2 : Nat) : Int) by omega]
      have hs2 : k % 2 < 2 := by omega
      generalize hs : k % 2 = s at hp hs2 ⊢
      refine c_choose hB hD hs2 hm ht ?_
      rintro o (⟨rfl, q⟩ | ⟨i, g, rfl, q1, q2⟩)
      · unfold f_X1_length_l19_j58
        rw [if_pos rfl]
        refine ok_ret (Or.inr (Or.inl ⟨_, rfl, ?_⟩))
        rw [hp, pl_n q, Int.add_zero]
      · have bg := (hB s hs2).2 g
        have hi := get_lt q1
        have hl := (hB s hs2).1
        have h := (hD s hs2).2 i g q1
        obtain ⟨c1, c2⟩ := ch_m q2
        have hrl := rG_lt hs2 c1 c2
        unfold f_X1_length_l19_j58
        rw [if_neg (by omega)]
        simp (disch := omega) only [gdp]
        rw [show (6 * (s : Int) + (i : Int)).toNat = 6 * s + i by omega, h.2.1, h.2.2, w_id (x := t - C s g) (by omega) (by omega), w_id (x := (k : Int) + 1) (by omega) (by omega)]
        rw [pl_s q2] at hp
        by_cases c : t - C s g < 0
        · rw [if_pos c] at hp ⊢
          exact ok_ret (Or.inr (Or.inr ⟨_, rfl, hp, by omega, by omega⟩))
        · rw [if_neg c] at hp ⊢
          refine ok_ret ⟨_, _, _, rfl, by omega, by omega, by omega, ?_⟩
          rw [show ((k : Int) + 1).toNat = k + 1 by omega, show 13 - (k + 1) = 12 - k by omega, show (k + 1) % 2 = 1 - s by omega, hp]
          omega
    · rintro z ⟨m, t, a, rfl, hm, ht, hr, hp⟩
      dsimp only
      unfold b_X1_length_19
      rw [if_neg (by omega)]
      refine ok_ret (Or.inl ⟨rfl, ?_⟩)
      rw [hp]
      have hr0 : rG L W a = 0 := by have : (12 : Int).toNat = 12 := rfl; omega
      have hn : chG L W C ((12 : Int).toNat % 2) a m t = none := by
        cases hc : chG L W C ((12 : Int).toNat % 2) a m t with
        | none => rfl
        | some g =>
          obtain ⟨c1, c2⟩ := ch_m hc
          have := rG_lt (Nat.mod_lt _ (by omega)) c1 c2
          omega
      rw [show 13 - (12 : Int).toNat = 0 + 1 from rfl, pl_n hn]
      rfl
  refine ok_bind H ?_
  rintro o (⟨rfl, q⟩ | ⟨x, rfl, q⟩ | ⟨x, rfl, q, q0, q1⟩)
  · exact ok_ret q.symm
  · exact ok_ret q.symm
  · dsimp only
    rw [w_id (by omega) (by omega)]
    exact ok_ret q.symm
/-- what a duel answers: x opens, y is second -/
def duV (L : Nat → List Nat) (W C : Nat → Nat → Int) (m t x y k : Int) : Int :=
  if k = 0 then (if wG L W C 13 0 (-1) m t = true then x else y)
  else if k = 1 then (cP (fun g => wB L W C 12 0 g m t) (L 0) : Int)
  else if k = 2 then (match (L 0).find? (fun g => wB L W C 12 0 g m t) with
    | none => -1
    | some g => (g : Int))
  else if k = 3 then plG L W C 13 0 (-1) m t
  else -1
def duL (r : Nat → Int) (lw : Nat → Law) (x y : Int) (s : Nat) : List Nat := (hL (ownB r (if s = 0 then x else y)) (r 1).toNat).filter (fun g => !barS r lw g (if s = 0 then x else y) (if s = 0 then y else x))
def duW (r : Nat → Int) (lw : Nat → Law) (x y : Int) (s : Nat) (g : Nat) : Int := worthS r lw g (if s = 0 then x else y) (if s = 0 then y else x)
def duC (r : Nat → Int) (lw : Nat → Law) (x y : Int) (s : Nat) (g : Nat) : Int := costS r lw g (if s = 0 then y else x) (r 6)
end DU4
section DU5
variable {X : MX} {N : NN} {B : Int} {r : Nat → Int} {lw : Nat → Law}
theorem du_B (x y : Int) : DB (duL r lw x y) (duW r lw x y) (duC r lw x y) := by
  intro s hs
  refine ⟨?_, fun g => ?_⟩
  · have a := List.length_filter_le (fun g : Nat => !barS r lw g (if s = 0 then x else y) (if s = 0 then y else x)) (hL (ownB r (if s = 0 then x else y)) (r 1).toNat)
    have b := hL_len (p := ownB r (if s = 0 then x else y)) (r 1).toNat
    unfold duL
    omega
  · have a := worthS_b r lw g (if s = 0 then x else y) (if s = 0 then y else x)
    have b := costS_b r lw g (if s = 0 then y else x) (r 6)
    unfold duW duC
    omega
theorem find_c {p q : Nat → Bool} {L : List Nat} (h : ∀ g, g ∈ L → p g = q g) : L.find? p = L.find? q := by
  induction L with
  | nil => rfl
  | cons x l ih =>
    rw [List.find?_cons, List.find?_cons, h x (List.Mem.head _), ih (fun g m => h g (List.Mem.tail _ m))]
theorem c_answer {x y k : Int} (hX : XOK X) (hW : CW X N 4 B r lw) (x0 : 0 ≤ x) (x1 : x < r 0) (y0 : 0 ≤ y) (y1 : y < r 0) :
    Ok (f_X1_answer X 4 N x y k) (fun o => o.1 = duV (duL r lw x y) (duW r lw x y) (duC r lw x y) (rl r x 0) (rl r y 0) x y k ∧ Fr (fun o k => frDu 0 o k ∨ frDu 1 o k) N o.2) := by
  have hV := hW.2.1
  have v0 := hV.1
  have vl := hV.2.2.2.2.2.2.2.2.2.1
  have hm := vl x x0 (by omega)
  have ht := vl y y0 (by omega)
  unfold f_X1_answer f_X1_answer_j75 f_X1_answer_j118
  refine ok_bind (c_gather (s := 0) hX hW x0 x1 y0 y1 (by omega)) ?_
  rintro M ⟨p1, p2, p3⟩
  refine ok_bind (c_gather (s := 1) hX (cw_G hW p3) y0 y1 x0 x1 (by omega)) ?_
  rintro M' ⟨q1, q2, q3⟩
  have hD : ∀ s, s < 2 → DC M' s (duL r lw x y s) (duW r lw x y s) (duC r lw x y s) := by
    intro s hs
    have e : s = 0 ∨ s = 1 := by omega
    rcases e with rfl | rfl
    · have l0 := (du_B (r := r) (lw := lw) x y 0 (by omega)).1
      refine ⟨by rw [q3 46 0 (by unfold frDu; omega)]; exact p1.1, fun i g q => ?_⟩
      have := get_lt q
      rw [q3 43 _ (by unfold frDu; omega), q3 44 _ (by unfold frDu; omega), q3 45 _ (by unfold frDu; omega)]
      exact p1.2 i g q
    · exact q1
  have e0 : M' 47 0 = rl r x 0 := by rw [q3 47 0 (by unfold frDu; omega)]; exact p2
  have e1 : M' 47 1 = rl r y 0 := q2
  have hfr : Fr (fun o k => frDu 0 o k ∨ frDu 1 o k) N M' := fr_tr (fr_mono p3 fun o k q => Or.inl q) (fr_mono q3 fun o k q => Or.inr q)
  have hB := du_B (r := r) (lw := lw) x y
  unfold duV
  generalize duL r lw x y = L at *
  generalize duW r lw x y = W at *
  generalize duC r lw x y = C at *
  rw [e0, e1]
  by_cases k0 : k = 0
  · rw [if_pos k0, if_pos k0]
    have := c_wins (X := X) hB hD 13 16 0 (-1) (rl r x 0) (rl r y 0) 0 (by omega) (by omega) (by omega) (by omega) (by omega) (by omega)
    rw [show ((0 : Nat) : Int) = 0 from rfl] at this
    rw [this, Option.bind_some]
    cases wG L W C 13 0 (-1) (rl r x 0) (rl r y 0)
    · exact ok_ret ⟨rfl, hfr⟩
    · exact ok_ret ⟨rfl, hfr⟩
  rw [if_neg k0, if_neg k0]
  by_cases k1 : k = 1
  · rw [if_pos k1, if_pos k1, c_winning hB hD e0 e1 (by omega) (by omega), Option.bind_some]
    exact ok_ret ⟨rfl, hfr⟩
  rw [if_neg k1, if_neg k1]
  by_cases k2 : k = 2
  · rw [if_pos k2, if_pos k2]
    refine ok_bind (c_lowW (s := 0) (a := -1) hB hD (by omega) (by omega) (by omega)) ?_
    have ef : (L 0).find? (fun g => decide (-1 < W 0 g) && wB L W C 12 0 g (rl r x 0) (rl r y 0)) = (L 0).find? (fun g => wB L W C 12 0 g (rl r x 0) (rl r y 0)) := find_c fun g _ => by
      have := (hB 0 (by omega)).2 g
      rw [decide_eq_true (by omega), Bool.true_and]
    rw [ef]
    rintro o (⟨rfl, q⟩ | ⟨i, g, rfl, u1, u2⟩)
    · rw [if_pos rfl, q]
      exact ok_ret ⟨rfl, hfr⟩
    · have hi := get_lt u1
      have hl := (hB 0 (by omega)).1
      rw [if_neg (by omega), gdp (by omega), show (6 * ((0 : Nat) : Int) + (i : Int)).toNat = 6 * 0 + i by omega, ((hD 0 (by omega)).2 i g u1).1, u2]
      exact ok_ret ⟨rfl, hfr⟩
  rw [if_neg k2, if_neg k2]
  by_cases k3 : k = 3
  · rw [if_pos k3, if_pos k3]
    refine ok_bind (c_length hB hD e0 e1 (by omega) (by omega)) ?_
    rintro o rfl
    exact ok_ret ⟨rfl, hfr⟩
  rw [if_neg k3, if_neg k3]
  exact ok_ret ⟨rfl, hfr⟩
end DU5
