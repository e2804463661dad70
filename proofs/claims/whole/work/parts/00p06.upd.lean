/-! one number of a row changes -/
def ru (r : Nat → Int) (i : Int) (v : Int) : Nat → Int := fun j => if j = i.toNat then v else r j
theorem ru_ne {r : Nat → Int} {i v : Int} {j : Nat} (h : j ≠ i.toNat) : ru r i v j = r j := if_neg h
theorem ru_eq {r : Nat → Int} {i v : Int} {j : Nat} (h : j = i.toNat) : ru r i v j = v := if_pos h
theorem up_ru {N : NN} {o : Nat} {i v : Int} : m_up N o i.toNat v o = ru (N o) i v := by funext j; exact up_a
theorem up_ruN {N : NN} {o k : Nat} {v : Int} : m_up N o k v o = ru (N o) (k : Int) v := by funext j; rw [up_a]; rfl
theorem ru_hr {N : NN} {r : Nat → Int} {i v : Int} (hr : ∀ j, j < 270 → N 66 j = r j) : ∀ j, j < 270 → m_up N 66 i.toNat v 66 j = ru r i v j := by
  intro j hj
  rw [up_ru]
  unfold ru
  split
  · rfl
  · exact hr j hj
section RU
variable {c r : Nat → Int} {B : Int}
theorem rw_lord {l k : Int} (h : Rw c r) (h0 : 0 ≤ l) (h1 : l ≤ 5) (h2 : 0 ≤ k) (h3 : k ≤ 5) {v : Int} : Rw (ru c (3 + l * 6 + k) v) (ru r (9 + 6 * l + k) v) := by
  obtain ⟨a1, a2, a3, a4, a5, a6, a7, a8, a9, a10⟩ := h
  have e1 : ru r (9 + 6 * l + k) v 1 = r 1 := ru_ne (by omega)
  refine ⟨fun x p q => ?_, fun x y p q p' q' => ?_, fun x y p q p' q' => ?_, fun x y p q p' q' => ?_, fun x y p q p' q' => ?_, fun x p q => ?_, ?_, fun x p q => ?_, fun x p q => ?_, fun x y p q p' q' => ?_⟩
  · have z := a1 x p q
    simp only [ru, rl, rg, rd, rs, rr, rh] at z ⊢
    split <;> (try split) <;> first | rfl | exact z | (exfalso; omega)
  · have z := a2 x y p q p' q'
    simp only [ru, rl, rg, rd, rs, rr, rh] at z ⊢
    split <;> (try split) <;> first | rfl | exact z | (exfalso; omega)
  · have z := a3 x y p q p' q'
    simp only [ru, rl, rg, rd, rs, rr, rh] at z ⊢
    split <;> (try split) <;> first | rfl | exact z | (exfalso; omega)
  · have z := a4 x y p q p' q'
    simp only [ru, rl, rg, rd, rs, rr, rh] at z ⊢
    split <;> (try split) <;> first | rfl | exact z | (exfalso; omega)
  · have z := a5 x y p q p' q'
    simp only [ru, rl, rg, rd, rs, rr, rh] at z ⊢
    split <;> (try split) <;> first | rfl | exact z | (exfalso; omega)
  · have z := a6 x p q
    simp only [ru, rl, rg, rd, rs, rr, rh] at z ⊢
    split <;> (try split) <;> first | rfl | exact z | (exfalso; omega)
  · have z := a7
    simp only [ru, rl, rg, rd, rs, rr, rh] at z ⊢
    split <;> (try split) <;> first | rfl | exact z | (exfalso; omega)
  · have z := a8 x p q
    rw [e1]
    simp only [ru, rg] at z ⊢
    split
    · rename_i z1
      split
      · rw [if_pos (by omega)]
      · omega
    · rename_i z1
      rw [z]
      split
      · rw [if_neg (by omega)]
      · rfl
  · have z := a9 x p q
    simp only [ru, rl, rg, rd, rs, rr, rh] at z ⊢
    split <;> (try split) <;> first | rfl | exact z | (exfalso; omega)
  · have z := a10 x y p q p' q'
    simp only [ru, rl, rg, rd, rs, rr, rh] at z ⊢
    split <;> (try split) <;> first | rfl | exact z | (exfalso; omega)
theorem rw_good {g k : Int} (h : Rw c r) (h0 : 0 ≤ g) (h1 : g ≤ 15) (h2 : 0 ≤ k) (h3 : k ≤ 4) {v : Int} : Rw (ru c (39 + g * 5 + k) v) (ru r (45 + 6 * g + k) v) := by
  obtain ⟨a1, a2, a3, a4, a5, a6, a7, a8, a9, a10⟩ := h
  have e1 : ru r (45 + 6 * g + k) v 1 = r 1 := ru_ne (by omega)
  refine ⟨fun x p q => ?_, fun x y p q p' q' => ?_, fun x y p q p' q' => ?_, fun x y p q p' q' => ?_, fun x y p q p' q' => ?_, fun x p q => ?_, ?_, fun x p q => ?_, fun x p q => ?_, fun x y p q p' q' => ?_⟩
  · have z := a1 x p q
    simp only [ru, rl, rg, rd, rs, rr, rh] at z ⊢
    split <;> (try split) <;> first | rfl | exact z | (exfalso; omega)
  · have z := a2 x y p q p' q'
    simp only [ru, rl, rg, rd, rs, rr, rh] at z ⊢
    split <;> (try split) <;> first | rfl | exact z | (exfalso; omega)
  · have z := a3 x y p q p' q'
    simp only [ru, rl, rg, rd, rs, rr, rh] at z ⊢
    split <;> (try split) <;> first | rfl | exact z | (exfalso; omega)
  · have z := a4 x y p q p' q'
    simp only [ru, rl, rg, rd, rs, rr, rh] at z ⊢
    split <;> (try split) <;> first | rfl | exact z | (exfalso; omega)
  · have z := a5 x y p q p' q'
    simp only [ru, rl, rg, rd, rs, rr, rh] at z ⊢
    split <;> (try split) <;> first | rfl | exact z | (exfalso; omega)
  · have z := a6 x p q
    simp only [ru, rl, rg, rd, rs, rr, rh] at z ⊢
    split <;> (try split) <;> first | rfl | exact z | (exfalso; omega)
  · have z := a7
    simp only [ru, rl, rg, rd, rs, rr, rh] at z ⊢
    split <;> (try split) <;> first | rfl | exact z | (exfalso; omega)
  · have z := a8 x p q
    rw [e1]
    simp only [ru, rg] at z ⊢
    split
    · rename_i z1
      split
      · rw [if_pos (by omega)]
      · omega
    · rename_i z1
      rw [z]
      split
      · rw [if_neg (by omega)]
      · rfl
  · have z := a9 x p q
    simp only [ru, rl, rg, rd, rs, rr, rh] at z ⊢
    split <;> (try split) <;> first | rfl | exact z | (exfalso; omega)
  · have z := a10 x y p q p' q'
    simp only [ru, rl, rg, rd, rs, rr, rh] at z ⊢
    split <;> (try split) <;> first | rfl | exact z | (exfalso; omega)
theorem rw_debt {a f : Int} (h : Rw c r) (h0 : 0 ≤ a) (h1 : a ≤ 5) (h2 : 0 ≤ f) (h3 : f ≤ 5) {v : Int} : Rw (ru c (119 + a * 6 + f) v) (ru r (141 + 2 * (6 * a + f)) v) := by
  obtain ⟨a1, a2, a3, a4, a5, a6, a7, a8, a9, a10⟩ := h
  have e1 : ru r (141 + 2 * (6 * a + f)) v 1 = r 1 := ru_ne (by omega)
  refine ⟨fun x p q => ?_, fun x y p q p' q' => ?_, fun x y p q p' q' => ?_, fun x y p q p' q' => ?_, fun x y p q p' q' => ?_, fun x p q => ?_, ?_, fun x p q => ?_, fun x p q => ?_, fun x y p q p' q' => ?_⟩
  · have z := a1 x p q
    simp only [ru, rl, rg, rd, rs, rr, rh] at z ⊢
    split <;> (try split) <;> first | rfl | exact z | (exfalso; omega)
  · have z := a2 x y p q p' q'
    simp only [ru, rl, rg, rd, rs, rr, rh] at z ⊢
    split <;> (try split) <;> first | rfl | exact z | (exfalso; omega)
  · have z := a3 x y p q p' q'
    simp only [ru, rl, rg, rd, rs, rr, rh] at z ⊢
    split <;> (try split) <;> first | rfl | exact z | (exfalso; omega)
  · have z := a4 x y p q p' q'
    simp only [ru, rl, rg, rd, rs, rr, rh] at z ⊢
    split <;> (try split) <;> first | rfl | exact z | (exfalso; omega)
  · have z := a5 x y p q p' q'
    simp only [ru, rl, rg, rd, rs, rr, rh] at z ⊢
    split <;> (try split) <;> first | rfl | exact z | (exfalso; omega)
  · have z := a6 x p q
    simp only [ru, rl, rg, rd, rs, rr, rh] at z ⊢
    split <;> (try split) <;> first | rfl | exact z | (exfalso; omega)
  · have z := a7
    simp only [ru, rl, rg, rd, rs, rr, rh] at z ⊢
    split <;> (try split) <;> first | rfl | exact z | (exfalso; omega)
  · have z := a8 x p q
    rw [e1]
    simp only [ru, rg] at z ⊢
    split
    · rename_i z1
      split
      · rw [if_pos (by omega)]
      · omega
    · rename_i z1
      rw [z]
      split
      · rw [if_neg (by omega)]
      · rfl
  · have z := a9 x p q
    simp only [ru, rl, rg, rd, rs, rr, rh] at z ⊢
    split <;> (try split) <;> first | rfl | exact z | (exfalso; omega)
  · have z := a10 x y p q p' q'
    simp only [ru, rl, rg, rd, rs, rr, rh] at z ⊢
    split <;> (try split) <;> first | rfl | exact z | (exfalso; omega)
theorem rw_since {a f : Int} (h : Rw c r) (h0 : 0 ≤ a) (h1 : a ≤ 5) (h2 : 0 ≤ f) (h3 : f ≤ 5) {v : Int} : Rw (ru c (155 + a * 6 + f) v) (ru r (141 + 2 * (6 * a + f) + 1) v) := by
  obtain ⟨a1, a2, a3, a4, a5, a6, a7, a8, a9, a10⟩ := h
  have e1 : ru r (141 + 2 * (6 * a + f) + 1) v 1 = r 1 := ru_ne (by omega)
  refine ⟨fun x p q => ?_, fun x y p q p' q' => ?_, fun x y p q p' q' => ?_, fun x y p q p' q' => ?_, fun x y p q p' q' => ?_, fun x p q => ?_, ?_, fun x p q => ?_, fun x p q => ?_, fun x y p q p' q' => ?_⟩
  · have z := a1 x p q
    simp only [ru, rl, rg, rd, rs, rr, rh] at z ⊢
    split <;> (try split) <;> first | rfl | exact z | (exfalso; omega)
  · have z := a2 x y p q p' q'
    simp only [ru, rl, rg, rd, rs, rr, rh] at z ⊢
    split <;> (try split) <;> first | rfl | exact z | (exfalso; omega)
  · have z := a3 x y p q p' q'
    simp only [ru, rl, rg, rd, rs, rr, rh] at z ⊢
    split <;> (try split) <;> first | rfl | exact z | (exfalso; omega)
  · have z := a4 x y p q p' q'
    simp only [ru, rl, rg, rd, rs, rr, rh] at z ⊢
    split <;> (try split) <;> first | rfl | exact z | (exfalso; omega)
  · have z := a5 x y p q p' q'
    simp only [ru, rl, rg, rd, rs, rr, rh] at z ⊢
    split <;> (try split) <;> first | rfl | exact z | (exfalso; omega)
  · have z := a6 x p q
    simp only [ru, rl, rg, rd, rs, rr, rh] at z ⊢
    split <;> (try split) <;> first | rfl | exact z | (exfalso; omega)
  · have z := a7
    simp only [ru, rl, rg, rd, rs, rr, rh] at z ⊢
    split <;> (try split) <;> first | rfl | exact z | (exfalso; omega)
  · have z := a8 x p q
    rw [e1]
    simp only [ru, rg] at z ⊢
    split
    · rename_i z1
      split
      · rw [if_pos (by omega)]
      · omega
    · rename_i z1
      rw [z]
      split
      · rw [if_neg (by omega)]
      · rfl
  · have z := a9 x p q
    simp only [ru, rl, rg, rd, rs, rr, rh] at z ⊢
    split <;> (try split) <;> first | rfl | exact z | (exfalso; omega)
  · have z := a10 x y p q p' q'
    simp only [ru, rl, rg, rd, rs, rr, rh] at z ⊢
    split <;> (try split) <;> first | rfl | exact z | (exfalso; omega)
theorem rw_term {k : Int} (h : Rw c r) (h0 : 0 ≤ k) (h1 : k ≤ 2) {v : Int} : Rw (ru c (k) v) (ru r (6 + k) v) := by
  obtain ⟨a1, a2, a3, a4, a5, a6, a7, a8, a9, a10⟩ := h
  have e1 : ru r (6 + k) v 1 = r 1 := ru_ne (by omega)
  refine ⟨fun x p q => ?_, fun x y p q p' q' => ?_, fun x y p q p' q' => ?_, fun x y p q p' q' => ?_, fun x y p q p' q' => ?_, fun x p q => ?_, ?_, fun x p q => ?_, fun x p q => ?_, fun x y p q p' q' => ?_⟩
  · have z := a1 x p q
    simp only [ru, rl, rg, rd, rs, rr, rh] at z ⊢
    split <;> (try split) <;> first | rfl | exact z | (exfalso; omega)
  · have z := a2 x y p q p' q'
    simp only [ru, rl, rg, rd, rs, rr, rh] at z ⊢
    split <;> (try split) <;> first | rfl | exact z | (exfalso; omega)
  · have z := a3 x y p q p' q'
    simp only [ru, rl, rg, rd, rs, rr, rh] at z ⊢
    split <;> (try split) <;> first | rfl | exact z | (exfalso; omega)
  · have z := a4 x y p q p' q'
    simp only [ru, rl, rg, rd, rs, rr, rh] at z ⊢
    split <;> (try split) <;> first | rfl | exact z | (exfalso; omega)
  · have z := a5 x y p q p' q'
    simp only [ru, rl, rg, rd, rs, rr, rh] at z ⊢
    split <;> (try split) <;> first | rfl | exact z | (exfalso; omega)
  · have z := a6 x p q
    simp only [ru, rl, rg, rd, rs, rr, rh] at z ⊢
    split <;> (try split) <;> first | rfl | exact z | (exfalso; omega)
  · have z := a7
    simp only [ru, rl, rg, rd, rs, rr, rh] at z ⊢
    split <;> (try split) <;> first | rfl | exact z | (exfalso; omega)
  · have z := a8 x p q
    rw [e1]
    simp only [ru, rg] at z ⊢
    split
    · rename_i z1
      split
      · rw [if_pos (by omega)]
      · omega
    · rename_i z1
      rw [z]
      split
      · rw [if_neg (by omega)]
      · rfl
  · have z := a9 x p q
    simp only [ru, rl, rg, rd, rs, rr, rh] at z ⊢
    split <;> (try split) <;> first | rfl | exact z | (exfalso; omega)
  · have z := a10 x y p q p' q'
    simp only [ru, rl, rg, rd, rs, rr, rh] at z ⊢
    split <;> (try split) <;> first | rfl | exact z | (exfalso; omega)
theorem rw_many {k : Int} (h : Rw c r) (h0 : 0 ≤ k) (h1 : k ≤ 4) (h2 : k ≠ 1) {v : Int} : Rw (ru c (191 + k) v) (ru r (k) v) := by
  obtain ⟨a1, a2, a3, a4, a5, a6, a7, a8, a9, a10⟩ := h
  have e1 : ru r (k) v 1 = r 1 := ru_ne (by omega)
  refine ⟨fun x p q => ?_, fun x y p q p' q' => ?_, fun x y p q p' q' => ?_, fun x y p q p' q' => ?_, fun x y p q p' q' => ?_, fun x p q => ?_, ?_, fun x p q => ?_, fun x p q => ?_, fun x y p q p' q' => ?_⟩
  · have z := a1 x p q
    simp only [ru, rl, rg, rd, rs, rr, rh] at z ⊢
    split <;> (try split) <;> first | rfl | exact z | (exfalso; omega)
  · have z := a2 x y p q p' q'
    simp only [ru, rl, rg, rd, rs, rr, rh] at z ⊢
    split <;> (try split) <;> first | rfl | exact z | (exfalso; omega)
  · have z := a3 x y p q p' q'
    simp only [ru, rl, rg, rd, rs, rr, rh] at z ⊢
    split <;> (try split) <;> first | rfl | exact z | (exfalso; omega)
  · have z := a4 x y p q p' q'
    simp only [ru, rl, rg, rd, rs, rr, rh] at z ⊢
    split <;> (try split) <;> first | rfl | exact z | (exfalso; omega)
  · have z := a5 x y p q p' q'
    simp only [ru, rl, rg, rd, rs, rr, rh] at z ⊢
    split <;> (try split) <;> first | rfl | exact z | (exfalso; omega)
  · have z := a6 x p q
    simp only [ru, rl, rg, rd, rs, rr, rh] at z ⊢
    split <;> (try split) <;> first | rfl | exact z | (exfalso; omega)
  · have z := a7
    simp only [ru, rl, rg, rd, rs, rr, rh] at z ⊢
    split <;> (try split) <;> first | rfl | exact z | (exfalso; omega)
  · have z := a8 x p q
    rw [e1]
    simp only [ru, rg] at z ⊢
    split
    · rename_i z1
      split
      · rw [if_pos (by omega)]
      · omega
    · rename_i z1
      rw [z]
      split
      · rw [if_neg (by omega)]
      · rfl
  · have z := a9 x p q
    simp only [ru, rl, rg, rd, rs, rr, rh] at z ⊢
    split <;> (try split) <;> first | rfl | exact z | (exfalso; omega)
  · have z := a10 x y p q p' q'
    simp only [ru, rl, rg, rd, rs, rr, rh] at z ⊢
    split <;> (try split) <;> first | rfl | exact z | (exfalso; omega)
theorem rw_force  (h : Rw c r)  {v : Int} : Rw (ru c (196) v) (ru r (5) v) := by
  obtain ⟨a1, a2, a3, a4, a5, a6, a7, a8, a9, a10⟩ := h
  have e1 : ru r (5) v 1 = r 1 := ru_ne (by omega)
  refine ⟨fun x p q => ?_, fun x y p q p' q' => ?_, fun x y p q p' q' => ?_, fun x y p q p' q' => ?_, fun x y p q p' q' => ?_, fun x p q => ?_, ?_, fun x p q => ?_, fun x p q => ?_, fun x y p q p' q' => ?_⟩
  · have z := a1 x p q
    simp only [ru, rl, rg, rd, rs, rr, rh] at z ⊢
    split <;> (try split) <;> first | rfl | exact z | (exfalso; omega)
  · have z := a2 x y p q p' q'
    simp only [ru, rl, rg, rd, rs, rr, rh] at z ⊢
    split <;> (try split) <;> first | rfl | exact z | (exfalso; omega)
  · have z := a3 x y p q p' q'
    simp only [ru, rl, rg, rd, rs, rr, rh] at z ⊢
    split <;> (try split) <;> first | rfl | exact z | (exfalso; omega)
  · have z := a4 x y p q p' q'
    simp only [ru, rl, rg, rd, rs, rr, rh] at z ⊢
    split <;> (try split) <;> first | rfl | exact z | (exfalso; omega)
  · have z := a5 x y p q p' q'
    simp only [ru, rl, rg, rd, rs, rr, rh] at z ⊢
    split <;> (try split) <;> first | rfl | exact z | (exfalso; omega)
  · have z := a6 x p q
    simp only [ru, rl, rg, rd, rs, rr, rh] at z ⊢
    split <;> (try split) <;> first | rfl | exact z | (exfalso; omega)
  · have z := a7
    simp only [ru, rl, rg, rd, rs, rr, rh] at z ⊢
    split <;> (try split) <;> first | rfl | exact z | (exfalso; omega)
  · have z := a8 x p q
    rw [e1]
    simp only [ru, rg] at z ⊢
    split
    · rename_i z1
      split
      · rw [if_pos (by omega)]
      · omega
    · rename_i z1
      rw [z]
      split
      · rw [if_neg (by omega)]
      · rfl
  · have z := a9 x p q
    simp only [ru, rl, rg, rd, rs, rr, rh] at z ⊢
    split <;> (try split) <;> first | rfl | exact z | (exfalso; omega)
  · have z := a10 x y p q p' q'
    simp only [ru, rl, rg, rd, rs, rr, rh] at z ⊢
    split <;> (try split) <;> first | rfl | exact z | (exfalso; omega)
theorem rw_price {k : Int} (h : Rw c r) (h0 : 0 ≤ k) (h1 : k ≤ 4) {v : Int} : Rw (ru c (213 + k) v) (ru r (213 + k) v) := by
  obtain ⟨a1, a2, a3, a4, a5, a6, a7, a8, a9, a10⟩ := h
  have e1 : ru r (213 + k) v 1 = r 1 := ru_ne (by omega)
  refine ⟨fun x p q => ?_, fun x y p q p' q' => ?_, fun x y p q p' q' => ?_, fun x y p q p' q' => ?_, fun x y p q p' q' => ?_, fun x p q => ?_, ?_, fun x p q => ?_, fun x p q => ?_, fun x y p q p' q' => ?_⟩
  · have z := a1 x p q
    simp only [ru, rl, rg, rd, rs, rr, rh] at z ⊢
    split <;> (try split) <;> first | rfl | exact z | (exfalso; omega)
  · have z := a2 x y p q p' q'
    simp only [ru, rl, rg, rd, rs, rr, rh] at z ⊢
    split <;> (try split) <;> first | rfl | exact z | (exfalso; omega)
  · have z := a3 x y p q p' q'
    simp only [ru, rl, rg, rd, rs, rr, rh] at z ⊢
    split <;> (try split) <;> first | rfl | exact z | (exfalso; omega)
  · have z := a4 x y p q p' q'
    simp only [ru, rl, rg, rd, rs, rr, rh] at z ⊢
    split <;> (try split) <;> first | rfl | exact z | (exfalso; omega)
  · have z := a5 x y p q p' q'
    simp only [ru, rl, rg, rd, rs, rr, rh] at z ⊢
    split <;> (try split) <;> first | rfl | exact z | (exfalso; omega)
  · have z := a6 x p q
    simp only [ru, rl, rg, rd, rs, rr, rh] at z ⊢
    split <;> (try split) <;> first | rfl | exact z | (exfalso; omega)
  · have z := a7
    simp only [ru, rl, rg, rd, rs, rr, rh] at z ⊢
    split <;> (try split) <;> first | rfl | exact z | (exfalso; omega)
  · have z := a8 x p q
    rw [e1]
    simp only [ru, rg] at z ⊢
    split
    · rename_i z1
      split
      · rw [if_pos (by omega)]
      · omega
    · rename_i z1
      rw [z]
      split
      · rw [if_neg (by omega)]
      · rfl
  · have z := a9 x p q
    simp only [ru, rl, rg, rd, rs, rr, rh] at z ⊢
    split <;> (try split) <;> first | rfl | exact z | (exfalso; omega)
  · have z := a10 x y p q p' q'
    simp only [ru, rl, rg, rd, rs, rr, rh] at z ⊢
    split <;> (try split) <;> first | rfl | exact z | (exfalso; omega)
theorem rw_road {i k : Int} (h : Rw c r) (h0 : 0 ≤ i) (h1 : i ≤ 11) (h2 : 0 ≤ k) (h3 : k ≤ 3) {v : Int} : Rw (ru c (218 + i * 4 + k) v) (ru r (218 + 4 * i + k) v) := by
  obtain ⟨a1, a2, a3, a4, a5, a6, a7, a8, a9, a10⟩ := h
  have e1 : ru r (218 + 4 * i + k) v 1 = r 1 := ru_ne (by omega)
  refine ⟨fun x p q => ?_, fun x y p q p' q' => ?_, fun x y p q p' q' => ?_, fun x y p q p' q' => ?_, fun x y p q p' q' => ?_, fun x p q => ?_, ?_, fun x p q => ?_, fun x p q => ?_, fun x y p q p' q' => ?_⟩
  · have z := a1 x p q
    simp only [ru, rl, rg, rd, rs, rr, rh] at z ⊢
    split <;> (try split) <;> first | rfl | exact z | (exfalso; omega)
  · have z := a2 x y p q p' q'
    simp only [ru, rl, rg, rd, rs, rr, rh] at z ⊢
    split <;> (try split) <;> first | rfl | exact z | (exfalso; omega)
  · have z := a3 x y p q p' q'
    simp only [ru, rl, rg, rd, rs, rr, rh] at z ⊢
    split <;> (try split) <;> first | rfl | exact z | (exfalso; omega)
  · have z := a4 x y p q p' q'
    simp only [ru, rl, rg, rd, rs, rr, rh] at z ⊢
    split <;> (try split) <;> first | rfl | exact z | (exfalso; omega)
  · have z := a5 x y p q p' q'
    simp only [ru, rl, rg, rd, rs, rr, rh] at z ⊢
    split <;> (try split) <;> first | rfl | exact z | (exfalso; omega)
  · have z := a6 x p q
    simp only [ru, rl, rg, rd, rs, rr, rh] at z ⊢
    split <;> (try split) <;> first | rfl | exact z | (exfalso; omega)
  · have z := a7
    simp only [ru, rl, rg, rd, rs, rr, rh] at z ⊢
    split <;> (try split) <;> first | rfl | exact z | (exfalso; omega)
  · have z := a8 x p q
    rw [e1]
    simp only [ru, rg] at z ⊢
    split
    · rename_i z1
      split
      · rw [if_pos (by omega)]
      · omega
    · rename_i z1
      rw [z]
      split
      · rw [if_neg (by omega)]
      · rfl
  · have z := a9 x p q
    simp only [ru, rl, rg, rd, rs, rr, rh] at z ⊢
    split <;> (try split) <;> first | rfl | exact z | (exfalso; omega)
  · have z := a10 x y p q p' q'
    simp only [ru, rl, rg, rd, rs, rr, rh] at z ⊢
    split <;> (try split) <;> first | rfl | exact z | (exfalso; omega)
theorem rw_told {g : Int} (h : Rw c r) (h0 : 0 ≤ g) (h1 : g ≤ 15) (h2 : g < r 1) {v : Int} : Rw (ru c (197 + g) v) (ru r (45 + 6 * g + 5) v) := by
  obtain ⟨a1, a2, a3, a4, a5, a6, a7, a8, a9, a10⟩ := h
  have e1 : ru r (45 + 6 * g + 5) v 1 = r 1 := ru_ne (by omega)
  refine ⟨fun x p q => ?_, fun x y p q p' q' => ?_, fun x y p q p' q' => ?_, fun x y p q p' q' => ?_, fun x y p q p' q' => ?_, fun x p q => ?_, ?_, fun x p q => ?_, fun x p q => ?_, fun x y p q p' q' => ?_⟩
  · have z := a1 x p q
    simp only [ru, rl, rg, rd, rs, rr, rh] at z ⊢
    split <;> (try split) <;> first | rfl | exact z | (exfalso; omega)
  · have z := a2 x y p q p' q'
    simp only [ru, rl, rg, rd, rs, rr, rh] at z ⊢
    split <;> (try split) <;> first | rfl | exact z | (exfalso; omega)
  · have z := a3 x y p q p' q'
    simp only [ru, rl, rg, rd, rs, rr, rh] at z ⊢
    split <;> (try split) <;> first | rfl | exact z | (exfalso; omega)
  · have z := a4 x y p q p' q'
    simp only [ru, rl, rg, rd, rs, rr, rh] at z ⊢
    split <;> (try split) <;> first | rfl | exact z | (exfalso; omega)
  · have z := a5 x y p q p' q'
    simp only [ru, rl, rg, rd, rs, rr, rh] at z ⊢
    split <;> (try split) <;> first | rfl | exact z | (exfalso; omega)
  · have z := a6 x p q
    simp only [ru, rl, rg, rd, rs, rr, rh] at z ⊢
    split <;> (try split) <;> first | rfl | exact z | (exfalso; omega)
  · have z := a7
    simp only [ru, rl, rg, rd, rs, rr, rh] at z ⊢
    split <;> (try split) <;> first | rfl | exact z | (exfalso; omega)
  · have z := a8 x p q
    rw [e1]
    by_cases e : x = g
    · subst e
      rw [ru_eq rfl, if_pos h2]
      unfold rg
      rw [ru_eq rfl]
    · rw [ru_ne (by omega), z]
      unfold rg
      rw [ru_ne (by omega)]
  · have z := a9 x p q
    simp only [ru, rl, rg, rd, rs, rr, rh] at z ⊢
    split <;> (try split) <;> first | rfl | exact z | (exfalso; omega)
  · have z := a10 x y p q p' q'
    simp only [ru, rl, rg, rd, rs, rr, rh] at z ⊢
    split <;> (try split) <;> first | rfl | exact z | (exfalso; omega)
theorem rw_more {v : Int} (h : Rw c r) (h0 : 0 ≤ r 1) (h1 : r 1 ≤ 15) (hv : v = r 1 + 1) : Rw (ru c 192 v) (ru (ru r (45 + 6 * r 1 + 5) (-1)) 1 v) := by
  obtain ⟨a1, a2, a3, a4, a5, a6, a7, a8, a9, a10⟩ := h
  refine ⟨fun x p q => ?_, fun x y p q p' q' => ?_, fun x y p q p' q' => ?_, fun x y p q p' q' => ?_, fun x y p q p' q' => ?_, fun x p q => ?_, ?_, fun x p q => ?_, fun x p q => ?_, fun x y p q p' q' => ?_⟩
  · have z := a1 x p q
    simp only [ru, rl, rg, rd, rs, rr, rh] at z ⊢
    (try split) <;> (try split) <;> (try split) <;> first | rfl | exact z | (exfalso; omega)
  · have z := a2 x y p q p' q'
    simp only [ru, rl, rg, rd, rs, rr, rh] at z ⊢
    (try split) <;> (try split) <;> (try split) <;> first | rfl | exact z | (exfalso; omega)
  · have z := a3 x y p q p' q'
    simp only [ru, rl, rg, rd, rs, rr, rh] at z ⊢
    (try split) <;> (try split) <;> (try split) <;> first | rfl | exact z | (exfalso; omega)
  · have z := a4 x y p q p' q'
    simp only [ru, rl, rg, rd, rs, rr, rh] at z ⊢
    (try split) <;> (try split) <;> (try split) <;> first | rfl | exact z | (exfalso; omega)
  · have z := a5 x y p q p' q'
    simp only [ru, rl, rg, rd, rs, rr, rh] at z ⊢
    (try split) <;> (try split) <;> (try split) <;> first | rfl | exact z | (exfalso; omega)
  · have z := a6 x p q
    simp only [ru, rl, rg, rd, rs, rr, rh] at z ⊢
    (try split) <;> (try split) <;> (try split) <;> first | rfl | exact z | (exfalso; omega)
  · have z := a7
    simp only [ru, rl, rg, rd, rs, rr, rh] at z ⊢
    (try split) <;> (try split) <;> (try split) <;> first | rfl | exact z | (exfalso; omega)
  · have z := a8 x p q
    rw [ru_ne (by omega), z, ru_eq (j := 1) (by omega)]
    unfold rg
    rw [ru_ne (i := 1) (by omega)]
    by_cases e : x < r 1
    · rw [if_pos e, if_pos (by omega), ru_ne (by omega)]
    · rw [if_neg e]
      by_cases e2 : x < v
      · rw [if_pos e2, ru_eq (by omega)]
      · rw [if_neg e2]
  · have z := a9 x p q
    simp only [ru, rl, rg, rd, rs, rr, rh] at z ⊢
    (try split) <;> (try split) <;> (try split) <;> first | rfl | exact z | (exfalso; omega)
  · have z := a10 x y p q p' q'
    simp only [ru, rl, rg, rd, rs, rr, rh] at z ⊢
    (try split) <;> (try split) <;> (try split) <;> first | rfl | exact z | (exfalso; omega)
theorem vr_foul {l k : Int} {v : Int} (h : Vr B r) (h0 : 0 ≤ l) (h1 : l ≤ 5) (h2 : 3 ≤ k) (h3 : k ≤ 5) : Vr B (ru r (9 + 6 * l + k) v) := by
  obtain ⟨a0, a1, a2, a3, a4, a5, a6, a7, a8, b1, b2, b3, b4, b5⟩ := h
  have e0 : ru r (9 + 6 * l + k) v 0 = r 0 := ru_ne (by omega)
  have e1 : ru r (9 + 6 * l + k) v 1 = r 1 := ru_ne (by omega)
  have e2 : ru r (9 + 6 * l + k) v 2 = r 2 := ru_ne (by omega)
  have e3 : ru r (9 + 6 * l + k) v 3 = r 3 := ru_ne (by omega)
  have e4 : ru r (9 + 6 * l + k) v 4 = r 4 := ru_ne (by omega)
  have e5 : ru r (9 + 6 * l + k) v 5 = r 5 := ru_ne (by omega)
  have e6 : ru r (9 + 6 * l + k) v 6 = r 6 := ru_ne (by omega)
  have e7 : ru r (9 + 6 * l + k) v 7 = r 7 := ru_ne (by omega)
  have e8 : ru r (9 + 6 * l + k) v 8 = r 8 := ru_ne (by omega)
  refine ⟨by rw [e0]; omega, by rw [e1]; omega, by rw [e2]; omega, by rw [e3]; omega, by rw [e4]; omega, by rw [e5, e4]; omega, by rw [e6]; omega, by rw [e7]; omega, by rw [e8]; omega, fun x p q => ?_, fun x p q => ?_, fun x y p q p' q' => ?_, fun x p q => ?_, fun x p q => ?_⟩
  · have z := b1 x p q
    simp only [rl, ru] at z ⊢
    refine ⟨?_, ?_, ?_, ?_, ?_, ?_⟩ <;> split <;> omega
  · rw [e1] at q
    have z := b2 x p q
    rw [e0]
    simp only [rg, ru] at z ⊢
    refine ⟨?_, ?_, ?_, ?_, ?_, ?_, ?_, ?_, ?_, ?_, ?_, ?_⟩ <;> split <;> omega
  · have z := b3 x y p q p' q'
    rw [e0]
    simp only [rd, rs, ru] at z ⊢
    refine ⟨?_, ?_, ?_, ?_, ?_⟩ <;> split <;> omega
  · rw [e2] at q
    have z := b4 x p q
    simp only [rh, ru] at z ⊢
    refine ⟨?_, ?_⟩ <;> split <;> omega
  · rw [e3] at q
    have z := b5 x p q
    rw [e0]
    simp only [rr, ru] at z ⊢
    refine ⟨?_, ?_, ?_, ?_, ?_, ?_, ?_, ?_, ?_⟩ <;> split <;> (try split) <;> omega
theorem vr_grain {l : Int} {v : Int} (h : Vr B r) (h0 : 0 ≤ l) (h1 : l ≤ 5) (h2 : 0 ≤ v) (h3 : v ≤ 9999) : Vr B (ru r (9 + 6 * l + 0) v) := by
  obtain ⟨a0, a1, a2, a3, a4, a5, a6, a7, a8, b1, b2, b3, b4, b5⟩ := h
  have e0 : ru r (9 + 6 * l + 0) v 0 = r 0 := ru_ne (by omega)
  have e1 : ru r (9 + 6 * l + 0) v 1 = r 1 := ru_ne (by omega)
  have e2 : ru r (9 + 6 * l + 0) v 2 = r 2 := ru_ne (by omega)
  have e3 : ru r (9 + 6 * l + 0) v 3 = r 3 := ru_ne (by omega)
  have e4 : ru r (9 + 6 * l + 0) v 4 = r 4 := ru_ne (by omega)
  have e5 : ru r (9 + 6 * l + 0) v 5 = r 5 := ru_ne (by omega)
  have e6 : ru r (9 + 6 * l + 0) v 6 = r 6 := ru_ne (by omega)
  have e7 : ru r (9 + 6 * l + 0) v 7 = r 7 := ru_ne (by omega)
  have e8 : ru r (9 + 6 * l + 0) v 8 = r 8 := ru_ne (by omega)
  refine ⟨by rw [e0]; omega, by rw [e1]; omega, by rw [e2]; omega, by rw [e3]; omega, by rw [e4]; omega, by rw [e5, e4]; omega, by rw [e6]; omega, by rw [e7]; omega, by rw [e8]; omega, fun x p q => ?_, fun x p q => ?_, fun x y p q p' q' => ?_, fun x p q => ?_, fun x p q => ?_⟩
  · have z := b1 x p q
    simp only [rl, ru] at z ⊢
    refine ⟨?_, ?_, ?_, ?_, ?_, ?_⟩ <;> split <;> omega
  · rw [e1] at q
    have z := b2 x p q
    rw [e0]
    simp only [rg, ru] at z ⊢
    refine ⟨?_, ?_, ?_, ?_, ?_, ?_, ?_, ?_, ?_, ?_, ?_, ?_⟩ <;> split <;> omega
  · have z := b3 x y p q p' q'
    rw [e0]
    simp only [rd, rs, ru] at z ⊢
    refine ⟨?_, ?_, ?_, ?_, ?_⟩ <;> split <;> omega
  · rw [e2] at q
    have z := b4 x p q
    simp only [rh, ru] at z ⊢
    refine ⟨?_, ?_⟩ <;> split <;> omega
  · rw [e3] at q
    have z := b5 x p q
    rw [e0]
    simp only [rr, ru] at z ⊢
    refine ⟨?_, ?_, ?_, ?_, ?_, ?_, ?_, ?_, ?_⟩ <;> split <;> (try split) <;> omega
theorem vr_harvest {l : Int} {v : Int} (h : Vr B r) (h0 : 0 ≤ l) (h1 : l ≤ 5) (h2 : 0 ≤ v) (h3 : v ≤ 99) : Vr B (ru r (9 + 6 * l + 1) v) := by
  obtain ⟨a0, a1, a2, a3, a4, a5, a6, a7, a8, b1, b2, b3, b4, b5⟩ := h
  have e0 : ru r (9 + 6 * l + 1) v 0 = r 0 := ru_ne (by omega)
  have e1 : ru r (9 + 6 * l + 1) v 1 = r 1 := ru_ne (by omega)
  have e2 : ru r (9 + 6 * l + 1) v 2 = r 2 := ru_ne (by omega)
  have e3 : ru r (9 + 6 * l + 1) v 3 = r 3 := ru_ne (by omega)
  have e4 : ru r (9 + 6 * l + 1) v 4 = r 4 := ru_ne (by omega)
  have e5 : ru r (9 + 6 * l + 1) v 5 = r 5 := ru_ne (by omega)
  have e6 : ru r (9 + 6 * l + 1) v 6 = r 6 := ru_ne (by omega)
  have e7 : ru r (9 + 6 * l + 1) v 7 = r 7 := ru_ne (by omega)
  have e8 : ru r (9 + 6 * l + 1) v 8 = r 8 := ru_ne (by omega)
  refine ⟨by rw [e0]; omega, by rw [e1]; omega, by rw [e2]; omega, by rw [e3]; omega, by rw [e4]; omega, by rw [e5, e4]; omega, by rw [e6]; omega, by rw [e7]; omega, by rw [e8]; omega, fun x p q => ?_, fun x p q => ?_, fun x y p q p' q' => ?_, fun x p q => ?_, fun x p q => ?_⟩
  · have z := b1 x p q
    simp only [rl, ru] at z ⊢
    refine ⟨?_, ?_, ?_, ?_, ?_, ?_⟩ <;> split <;> omega
  · rw [e1] at q
    have z := b2 x p q
    rw [e0]
    simp only [rg, ru] at z ⊢
    refine ⟨?_, ?_, ?_, ?_, ?_, ?_, ?_, ?_, ?_, ?_, ?_, ?_⟩ <;> split <;> omega
  · have z := b3 x y p q p' q'
    rw [e0]
    simp only [rd, rs, ru] at z ⊢
    refine ⟨?_, ?_, ?_, ?_, ?_⟩ <;> split <;> omega
  · rw [e2] at q
    have z := b4 x p q
    simp only [rh, ru] at z ⊢
    refine ⟨?_, ?_⟩ <;> split <;> omega
  · rw [e3] at q
    have z := b5 x p q
    rw [e0]
    simp only [rr, ru] at z ⊢
    refine ⟨?_, ?_, ?_, ?_, ?_, ?_, ?_, ?_, ?_⟩ <;> split <;> (try split) <;> omega
theorem vr_ruin {l : Int} {v : Int} (h : Vr B r) (h0 : 0 ≤ l) (h1 : l ≤ 5) (h2 : 0 ≤ v) (h3 : v ≤ 1) : Vr B (ru r (9 + 6 * l + 2) v) := by
  obtain ⟨a0, a1, a2, a3, a4, a5, a6, a7, a8, b1, b2, b3, b4, b5⟩ := h
  have e0 : ru r (9 + 6 * l + 2) v 0 = r 0 := ru_ne (by omega)
  have e1 : ru r (9 + 6 * l + 2) v 1 = r 1 := ru_ne (by omega)
  have e2 : ru r (9 + 6 * l + 2) v 2 = r 2 := ru_ne (by omega)
  have e3 : ru r (9 + 6 * l + 2) v 3 = r 3 := ru_ne (by omega)
  have e4 : ru r (9 + 6 * l + 2) v 4 = r 4 := ru_ne (by omega)
  have e5 : ru r (9 + 6 * l + 2) v 5 = r 5 := ru_ne (by omega)
  have e6 : ru r (9 + 6 * l + 2) v 6 = r 6 := ru_ne (by omega)
  have e7 : ru r (9 + 6 * l + 2) v 7 = r 7 := ru_ne (by omega)
  have e8 : ru r (9 + 6 * l + 2) v 8 = r 8 := ru_ne (by omega)
  refine ⟨by rw [e0]; omega, by rw [e1]; omega, by rw [e2]; omega, by rw [e3]; omega, by rw [e4]; omega, by rw [e5, e4]; omega, by rw [e6]; omega, by rw [e7]; omega, by rw [e8]; omega, fun x p q => ?_, fun x p q => ?_, fun x y p q p' q' => ?_, fun x p q => ?_, fun x p q => ?_⟩
  · have z := b1 x p q
    simp only [rl, ru] at z ⊢
    refine ⟨?_, ?_, ?_, ?_, ?_, ?_⟩ <;> split <;> omega
  · rw [e1] at q
    have z := b2 x p q
    rw [e0]
    simp only [rg, ru] at z ⊢
    refine ⟨?_, ?_, ?_, ?_, ?_, ?_, ?_, ?_, ?_, ?_, ?_, ?_⟩ <;> split <;> omega
  · have z := b3 x y p q p' q'
    rw [e0]
    simp only [rd, rs, ru] at z ⊢
    refine ⟨?_, ?_, ?_, ?_, ?_⟩ <;> split <;> omega
  · rw [e2] at q
    have z := b4 x p q
    simp only [rh, ru] at z ⊢
    refine ⟨?_, ?_⟩ <;> split <;> omega
  · rw [e3] at q
    have z := b5 x p q
    rw [e0]
    simp only [rr, ru] at z ⊢
    refine ⟨?_, ?_, ?_, ?_, ?_, ?_, ?_, ?_, ?_⟩ <;> split <;> (try split) <;> omega
theorem vr_holder {g : Int} {v : Int} (h : Vr B r) (h0 : 0 ≤ g) (h1 : g ≤ 15) (h2 : g < r 1 → 0 ≤ v ∧ v < r 0) : Vr B (ru r (45 + 6 * g + 0) v) := by
  obtain ⟨a0, a1, a2, a3, a4, a5, a6, a7, a8, b1, b2, b3, b4, b5⟩ := h
  have e0 : ru r (45 + 6 * g + 0) v 0 = r 0 := ru_ne (by omega)
  have e1 : ru r (45 + 6 * g + 0) v 1 = r 1 := ru_ne (by omega)
  have e2 : ru r (45 + 6 * g + 0) v 2 = r 2 := ru_ne (by omega)
  have e3 : ru r (45 + 6 * g + 0) v 3 = r 3 := ru_ne (by omega)
  have e4 : ru r (45 + 6 * g + 0) v 4 = r 4 := ru_ne (by omega)
  have e5 : ru r (45 + 6 * g + 0) v 5 = r 5 := ru_ne (by omega)
  have e6 : ru r (45 + 6 * g + 0) v 6 = r 6 := ru_ne (by omega)
  have e7 : ru r (45 + 6 * g + 0) v 7 = r 7 := ru_ne (by omega)
  have e8 : ru r (45 + 6 * g + 0) v 8 = r 8 := ru_ne (by omega)
  refine ⟨by rw [e0]; omega, by rw [e1]; omega, by rw [e2]; omega, by rw [e3]; omega, by rw [e4]; omega, by rw [e5, e4]; omega, by rw [e6]; omega, by rw [e7]; omega, by rw [e8]; omega, fun x p q => ?_, fun x p q => ?_, fun x y p q p' q' => ?_, fun x p q => ?_, fun x p q => ?_⟩
  · have z := b1 x p q
    simp only [rl, ru] at z ⊢
    refine ⟨?_, ?_, ?_, ?_, ?_, ?_⟩ <;> split <;> omega
  · rw [e1] at q
    have z := b2 x p q
    rw [e0]
    simp only [rg, ru] at z ⊢
    refine ⟨?_, ?_, ?_, ?_, ?_, ?_, ?_, ?_, ?_, ?_, ?_, ?_⟩ <;> split <;> omega
  · have z := b3 x y p q p' q'
    rw [e0]
    simp only [rd, rs, ru] at z ⊢
    refine ⟨?_, ?_, ?_, ?_, ?_⟩ <;> split <;> omega
  · rw [e2] at q
    have z := b4 x p q
    simp only [rh, ru] at z ⊢
    refine ⟨?_, ?_⟩ <;> split <;> omega
  · rw [e3] at q
    have z := b5 x p q
    rw [e0]
    simp only [rr, ru] at z ⊢
    refine ⟨?_, ?_, ?_, ?_, ?_, ?_, ?_, ?_, ?_⟩ <;> split <;> (try split) <;> omega
theorem vr_owner {g : Int} {v : Int} (h : Vr B r) (h0 : 0 ≤ g) (h1 : g ≤ 15) (h2 : g < r 1 → 0 ≤ v ∧ v < r 0) : Vr B (ru r (45 + 6 * g + 1) v) := by
  obtain ⟨a0, a1, a2, a3, a4, a5, a6, a7, a8, b1, b2, b3, b4, b5⟩ := h
  have e0 : ru r (45 + 6 * g + 1) v 0 = r 0 := ru_ne (by omega)
  have e1 : ru r (45 + 6 * g + 1) v 1 = r 1 := ru_ne (by omega)
  have e2 : ru r (45 + 6 * g + 1) v 2 = r 2 := ru_ne (by omega)
  have e3 : ru r (45 + 6 * g + 1) v 3 = r 3 := ru_ne (by omega)
  have e4 : ru r (45 + 6 * g + 1) v 4 = r 4 := ru_ne (by omega)
  have e5 : ru r (45 + 6 * g + 1) v 5 = r 5 := ru_ne (by omega)
  have e6 : ru r (45 + 6 * g + 1) v 6 = r 6 := ru_ne (by omega)
  have e7 : ru r (45 + 6 * g + 1) v 7 = r 7 := ru_ne (by omega)
  have e8 : ru r (45 + 6 * g + 1) v 8 = r 8 := ru_ne (by omega)
  refine ⟨by rw [e0]; omega, by rw [e1]; omega, by rw [e2]; omega, by rw [e3]; omega, by rw [e4]; omega, by rw [e5, e4]; omega, by rw [e6]; omega, by rw [e7]; omega, by rw [e8]; omega, fun x p q => ?_, fun x p q => ?_, fun x y p q p' q' => ?_, fun x p q => ?_, fun x p q => ?_⟩
  · have z := b1 x p q
    simp only [rl, ru] at z ⊢
    refine ⟨?_, ?_, ?_, ?_, ?_, ?_⟩ <;> split <;> omega
  · rw [e1] at q
    have z := b2 x p q
    rw [e0]
    simp only [rg, ru] at z ⊢
    refine ⟨?_, ?_, ?_, ?_, ?_, ?_, ?_, ?_, ?_, ?_, ?_, ?_⟩ <;> split <;> omega
  · have z := b3 x y p q p' q'
    rw [e0]
    simp only [rd, rs, ru] at z ⊢
    refine ⟨?_, ?_, ?_, ?_, ?_⟩ <;> split <;> omega
  · rw [e2] at q
    have z := b4 x p q
    simp only [rh, ru] at z ⊢
    refine ⟨?_, ?_⟩ <;> split <;> omega
  · rw [e3] at q
    have z := b5 x p q
    rw [e0]
    simp only [rr, ru] at z ⊢
    refine ⟨?_, ?_, ?_, ?_, ?_, ?_, ?_, ?_, ?_⟩ <;> split <;> (try split) <;> omega
theorem vr_base {g : Int} {v : Int} (h : Vr B r) (h0 : 0 ≤ g) (h1 : g ≤ 15) (h2 : g < r 1 → 0 ≤ v ∧ v ≤ 99) : Vr B (ru r (45 + 6 * g + 2) v) := by
  obtain ⟨a0, a1, a2, a3, a4, a5, a6, a7, a8, b1, b2, b3, b4, b5⟩ := h
  have e0 : ru r (45 + 6 * g + 2) v 0 = r 0 := ru_ne (by omega)
  have e1 : ru r (45 + 6 * g + 2) v 1 = r 1 := ru_ne (by omega)
  have e2 : ru r (45 + 6 * g + 2) v 2 = r 2 := ru_ne (by omega)
  have e3 : ru r (45 + 6 * g + 2) v 3 = r 3 := ru_ne (by omega)
  have e4 : ru r (45 + 6 * g + 2) v 4 = r 4 := ru_ne (by omega)
  have e5 : ru r (45 + 6 * g + 2) v 5 = r 5 := ru_ne (by omega)
  have e6 : ru r (45 + 6 * g + 2) v 6 = r 6 := ru_ne (by omega)
  have e7 : ru r (45 + 6 * g + 2) v 7 = r 7 := ru_ne (by omega)
  have e8 : ru r (45 + 6 * g + 2) v 8 = r 8 := ru_ne (by omega)
  refine ⟨by rw [e0]; omega, by rw [e1]; omega, by rw [e2]; omega, by rw [e3]; omega, by rw [e4]; omega, by rw [e5, e4]; omega, by rw [e6]; omega, by rw [e7]; omega, by rw [e8]; omega, fun x p q => ?_, fun x p q => ?_, fun x y p q p' q' => ?_, fun x p q => ?_, fun x p q => ?_⟩
  · have z := b1 x p q
    simp only [rl, ru] at z ⊢
    refine ⟨?_, ?_, ?_, ?_, ?_, ?_⟩ <;> split <;> omega
  · rw [e1] at q
    have z := b2 x p q
    rw [e0]
    simp only [rg, ru] at z ⊢
    refine ⟨?_, ?_, ?_, ?_, ?_, ?_, ?_, ?_, ?_, ?_, ?_, ?_⟩ <;> split <;> omega
  · have z := b3 x y p q p' q'
    rw [e0]
    simp only [rd, rs, ru] at z ⊢
    refine ⟨?_, ?_, ?_, ?_, ?_⟩ <;> split <;> omega
  · rw [e2] at q
    have z := b4 x p q
    simp only [rh, ru] at z ⊢
    refine ⟨?_, ?_⟩ <;> split <;> omega
  · rw [e3] at q
    have z := b5 x p q
    rw [e0]
    simp only [rr, ru] at z ⊢
    refine ⟨?_, ?_, ?_, ?_, ?_, ?_, ?_, ?_, ?_⟩ <;> split <;> (try split) <;> omega
theorem vr_keep {g : Int} {v : Int} (h : Vr B r) (h0 : 0 ≤ g) (h1 : g ≤ 15) (h2 : g < r 1 → 0 ≤ v ∧ v ≤ 20) : Vr B (ru r (45 + 6 * g + 3) v) := by
  obtain ⟨a0, a1, a2, a3, a4, a5, a6, a7, a8, b1, b2, b3, b4, b5⟩ := h
  have e0 : ru r (45 + 6 * g + 3) v 0 = r 0 := ru_ne (by omega)
  have e1 : ru r (45 + 6 * g + 3) v 1 = r 1 := ru_ne (by omega)
  have e2 : ru r (45 + 6 * g + 3) v 2 = r 2 := ru_ne (by omega)
  have e3 : ru r (45 + 6 * g + 3) v 3 = r 3 := ru_ne (by omega)
  have e4 : ru r (45 + 6 * g + 3) v 4 = r 4 := ru_ne (by omega)
  have e5 : ru r (45 + 6 * g + 3) v 5 = r 5 := ru_ne (by omega)
  have e6 : ru r (45 + 6 * g + 3) v 6 = r 6 := ru_ne (by omega)
  have e7 : ru r (45 + 6 * g + 3) v 7 = r 7 := ru_ne (by omega)
  have e8 : ru r (45 + 6 * g + 3) v 8 = r 8 := ru_ne (by omega)
  refine ⟨by rw [e0]; omega, by rw [e1]; omega, by rw [e2]; omega, by rw [e3]; omega, by rw [e4]; omega, by rw [e5, e4]; omega, by rw [e6]; omega, by rw [e7]; omega, by rw [e8]; omega, fun x p q => ?_, fun x p q => ?_, fun x y p q p' q' => ?_, fun x p q => ?_, fun x p q => ?_⟩
  · have z := b1 x p q
    simp only [rl, ru] at z ⊢
    refine ⟨?_, ?_, ?_, ?_, ?_, ?_⟩ <;> split <;> omega
  · rw [e1] at q
    have z := b2 x p q
    rw [e0]
    simp only [rg, ru] at z ⊢
    refine ⟨?_, ?_, ?_, ?_, ?_, ?_, ?_, ?_, ?_, ?_, ?_, ?_⟩ <;> split <;> omega
  · have z := b3 x y p q p' q'
    rw [e0]
    simp only [rd, rs, ru] at z ⊢
    refine ⟨?_, ?_, ?_, ?_, ?_⟩ <;> split <;> omega
  · rw [e2] at q
    have z := b4 x p q
    simp only [rh, ru] at z ⊢
    refine ⟨?_, ?_⟩ <;> split <;> omega
  · rw [e3] at q
    have z := b5 x p q
    rw [e0]
    simp only [rr, ru] at z ⊢
    refine ⟨?_, ?_, ?_, ?_, ?_, ?_, ?_, ?_, ?_⟩ <;> split <;> (try split) <;> omega
theorem vr_given {g : Int} {v : Int} (h : Vr B r) (h0 : 0 ≤ g) (h1 : g ≤ 15) (h2 : g < r 1 → 0 ≤ v ∧ v ≤ B) : Vr B (ru r (45 + 6 * g + 4) v) := by
  obtain ⟨a0, a1, a2, a3, a4, a5, a6, a7, a8, b1, b2, b3, b4, b5⟩ := h
  have e0 : ru r (45 + 6 * g + 4) v 0 = r 0 := ru_ne (by omega)
  have e1 : ru r (45 + 6 * g + 4) v 1 = r 1 := ru_ne (by omega)
  have e2 : ru r (45 + 6 * g + 4) v 2 = r 2 := ru_ne (by omega)
  have e3 : ru r (45 + 6 * g + 4) v 3 = r 3 := ru_ne (by omega)
  have e4 : ru r (45 + 6 * g + 4) v 4 = r 4 := ru_ne (by omega)
  have e5 : ru r (45 + 6 * g + 4) v 5 = r 5 := ru_ne (by omega)
  have e6 : ru r (45 + 6 * g + 4) v 6 = r 6 := ru_ne (by omega)
  have e7 : ru r (45 + 6 * g + 4) v 7 = r 7 := ru_ne (by omega)
  have e8 : ru r (45 + 6 * g + 4) v 8 = r 8 := ru_ne (by omega)
  refine ⟨by rw [e0]; omega, by rw [e1]; omega, by rw [e2]; omega, by rw [e3]; omega, by rw [e4]; omega, by rw [e5, e4]; omega, by rw [e6]; omega, by rw [e7]; omega, by rw [e8]; omega, fun x p q => ?_, fun x p q => ?_, fun x y p q p' q' => ?_, fun x p q => ?_, fun x p q => ?_⟩
  · have z := b1 x p q
    simp only [rl, ru] at z ⊢
    refine ⟨?_, ?_, ?_, ?_, ?_, ?_⟩ <;> split <;> omega
  · rw [e1] at q
    have z := b2 x p q
    rw [e0]
    simp only [rg, ru] at z ⊢
    refine ⟨?_, ?_, ?_, ?_, ?_, ?_, ?_, ?_, ?_, ?_, ?_, ?_⟩ <;> split <;> omega
  · have z := b3 x y p q p' q'
    rw [e0]
    simp only [rd, rs, ru] at z ⊢
    refine ⟨?_, ?_, ?_, ?_, ?_⟩ <;> split <;> omega
  · rw [e2] at q
    have z := b4 x p q
    simp only [rh, ru] at z ⊢
    refine ⟨?_, ?_⟩ <;> split <;> omega
  · rw [e3] at q
    have z := b5 x p q
    rw [e0]
    simp only [rr, ru] at z ⊢
    refine ⟨?_, ?_, ?_, ?_, ?_, ?_, ?_, ?_, ?_⟩ <;> split <;> (try split) <;> omega
theorem vr_told {g : Int} {v : Int} (h : Vr B r) (h0 : 0 ≤ g) (h1 : g ≤ 15) (h2 : g < r 1 → -1 ≤ v ∧ v < r 0) : Vr B (ru r (45 + 6 * g + 5) v) := by
  obtain ⟨a0, a1, a2, a3, a4, a5, a6, a7, a8, b1, b2, b3, b4, b5⟩ := h
  have e0 : ru r (45 + 6 * g + 5) v 0 = r 0 := ru_ne (by omega)
  have e1 : ru r (45 + 6 * g + 5) v 1 = r 1 := ru_ne (by omega)
  have e2 : ru r (45 + 6 * g + 5) v 2 = r 2 := ru_ne (by omega)
  have e3 : ru r (45 + 6 * g + 5) v 3 = r 3 := ru_ne (by omega)
  have e4 : ru r (45 + 6 * g + 5) v 4 = r 4 := ru_ne (by omega)
  have e5 : ru r (45 + 6 * g + 5) v 5 = r 5 := ru_ne (by omega)
  have e6 : ru r (45 + 6 * g + 5) v 6 = r 6 := ru_ne (by omega)
  have e7 : ru r (45 + 6 * g + 5) v 7 = r 7 := ru_ne (by omega)
  have e8 : ru r (45 + 6 * g + 5) v 8 = r 8 := ru_ne (by omega)
  refine ⟨by rw [e0]; omega, by rw [e1]; omega, by rw [e2]; omega, by rw [e3]; omega, by rw [e4]; omega, by rw [e5, e4]; omega, by rw [e6]; omega, by rw [e7]; omega, by rw [e8]; omega, fun x p q => ?_, fun x p q => ?_, fun x y p q p' q' => ?_, fun x p q => ?_, fun x p q => ?_⟩
  · have z := b1 x p q
    simp only [rl, ru] at z ⊢
    refine ⟨?_, ?_, ?_, ?_, ?_, ?_⟩ <;> split <;> omega
  · rw [e1] at q
    have z := b2 x p q
    rw [e0]
    simp only [rg, ru] at z ⊢
    refine ⟨?_, ?_, ?_, ?_, ?_, ?_, ?_, ?_, ?_, ?_, ?_, ?_⟩ <;> split <;> omega
  · have z := b3 x y p q p' q'
    rw [e0]
    simp only [rd, rs, ru] at z ⊢
    refine ⟨?_, ?_, ?_, ?_, ?_⟩ <;> split <;> omega
  · rw [e2] at q
    have z := b4 x p q
    simp only [rh, ru] at z ⊢
    refine ⟨?_, ?_⟩ <;> split <;> omega
  · rw [e3] at q
    have z := b5 x p q
    rw [e0]
    simp only [rr, ru] at z ⊢
    refine ⟨?_, ?_, ?_, ?_, ?_, ?_, ?_, ?_, ?_⟩ <;> split <;> (try split) <;> omega
theorem vr_debt {a f : Int} {v : Int} (h : Vr B r) (h0 : 0 ≤ a) (h1 : a ≤ 5) (h2 : 0 ≤ f) (h3 : f ≤ 5) (h4 : v = -1 ∨ 0 ≤ v ∧ v ≤ 999 ∧ a < r 0 ∧ f < r 0 ∧ a ≠ f) : Vr B (ru r (141 + 2 * (6 * a + f)) v) := by
  obtain ⟨a0, a1, a2, a3, a4, a5, a6, a7, a8, b1, b2, b3, b4, b5⟩ := h
  have e0 : ru r (141 + 2 * (6 * a + f)) v 0 = r 0 := ru_ne (by omega)
  have e1 : ru r (141 + 2 * (6 * a + f)) v 1 = r 1 := ru_ne (by omega)
  have e2 : ru r (141 + 2 * (6 * a + f)) v 2 = r 2 := ru_ne (by omega)
  have e3 : ru r (141 + 2 * (6 * a + f)) v 3 = r 3 := ru_ne (by omega)
  have e4 : ru r (141 + 2 * (6 * a + f)) v 4 = r 4 := ru_ne (by omega)
  have e5 : ru r (141 + 2 * (6 * a + f)) v 5 = r 5 := ru_ne (by omega)
  have e6 : ru r (141 + 2 * (6 * a + f)) v 6 = r 6 := ru_ne (by omega)
  have e7 : ru r (141 + 2 * (6 * a + f)) v 7 = r 7 := ru_ne (by omega)
  have e8 : ru r (141 + 2 * (6 * a + f)) v 8 = r 8 := ru_ne (by omega)
  refine ⟨by rw [e0]; omega, by rw [e1]; omega, by rw [e2]; omega, by rw [e3]; omega, by rw [e4]; omega, by rw [e5, e4]; omega, by rw [e6]; omega, by rw [e7]; omega, by rw [e8]; omega, fun x p q => ?_, fun x p q => ?_, fun x y p q p' q' => ?_, fun x p q => ?_, fun x p q => ?_⟩
  · have z := b1 x p q
    simp only [rl, ru] at z ⊢
    refine ⟨?_, ?_, ?_, ?_, ?_, ?_⟩ <;> split <;> omega
  · rw [e1] at q
    have z := b2 x p q
    rw [e0]
    simp only [rg, ru] at z ⊢
    refine ⟨?_, ?_, ?_, ?_, ?_, ?_, ?_, ?_, ?_, ?_, ?_, ?_⟩ <;> split <;> omega
  · have z := b3 x y p q p' q'
    rw [e0]
    simp only [rd, rs, ru] at z ⊢
    refine ⟨?_, ?_, ?_, ?_, ?_⟩ <;> split <;> omega
  · rw [e2] at q
    have z := b4 x p q
    simp only [rh, ru] at z ⊢
    refine ⟨?_, ?_⟩ <;> split <;> omega
  · rw [e3] at q
    have z := b5 x p q
    rw [e0]
    simp only [rr, ru] at z ⊢
    refine ⟨?_, ?_, ?_, ?_, ?_, ?_, ?_, ?_, ?_⟩ <;> split <;> (try split) <;> omega
theorem vr_since {a f : Int} {v : Int} (h : Vr B r) (h0 : 0 ≤ a) (h1 : a ≤ 5) (h2 : 0 ≤ f) (h3 : f ≤ 5) (h4 : 0 ≤ v ∧ v ≤ 999) : Vr B (ru r (141 + 2 * (6 * a + f) + 1) v) := by
  obtain ⟨a0, a1, a2, a3, a4, a5, a6, a7, a8, b1, b2, b3, b4, b5⟩ := h
  have e0 : ru r (141 + 2 * (6 * a + f) + 1) v 0 = r 0 := ru_ne (by omega)
  have e1 : ru r (141 + 2 * (6 * a + f) + 1) v 1 = r 1 := ru_ne (by omega)
  have e2 : ru r (141 + 2 * (6 * a + f) + 1) v 2 = r 2 := ru_ne (by omega)
  have e3 : ru r (141 + 2 * (6 * a + f) + 1) v 3 = r 3 := ru_ne (by omega)
  have e4 : ru r (141 + 2 * (6 * a + f) + 1) v 4 = r 4 := ru_ne (by omega)
  have e5 : ru r (141 + 2 * (6 * a + f) + 1) v 5 = r 5 := ru_ne (by omega)
  have e6 : ru r (141 + 2 * (6 * a + f) + 1) v 6 = r 6 := ru_ne (by omega)
  have e7 : ru r (141 + 2 * (6 * a + f) + 1) v 7 = r 7 := ru_ne (by omega)
  have e8 : ru r (141 + 2 * (6 * a + f) + 1) v 8 = r 8 := ru_ne (by omega)
  refine ⟨by rw [e0]; omega, by rw [e1]; omega, by rw [e2]; omega, by rw [e3]; omega, by rw [e4]; omega, by rw [e5, e4]; omega, by rw [e6]; omega, by rw [e7]; omega, by rw [e8]; omega, fun x p q => ?_, fun x p q => ?_, fun x y p q p' q' => ?_, fun x p q => ?_, fun x p q => ?_⟩
  · have z := b1 x p q
    simp only [rl, ru] at z ⊢
    refine ⟨?_, ?_, ?_, ?_, ?_, ?_⟩ <;> split <;> omega
  · rw [e1] at q
    have z := b2 x p q
    rw [e0]
    simp only [rg, ru] at z ⊢
    refine ⟨?_, ?_, ?_, ?_, ?_, ?_, ?_, ?_, ?_, ?_, ?_, ?_⟩ <;> split <;> omega
  · have z := b3 x y p q p' q'
    rw [e0]
    simp only [rd, rs, ru] at z ⊢
    refine ⟨?_, ?_, ?_, ?_, ?_⟩ <;> split <;> omega
  · rw [e2] at q
    have z := b4 x p q
    simp only [rh, ru] at z ⊢
    refine ⟨?_, ?_⟩ <;> split <;> omega
  · rw [e3] at q
    have z := b5 x p q
    rw [e0]
    simp only [rr, ru] at z ⊢
    refine ⟨?_, ?_, ?_, ?_, ?_, ?_, ?_, ?_, ?_⟩ <;> split <;> (try split) <;> omega
theorem vr_price {k : Int} {v : Int} (h : Vr B r) (h0 : 0 ≤ k) (h1 : k ≤ 4) (h2 : k < r 2 → 1 ≤ v ∧ v ≤ 9) : Vr B (ru r (213 + k) v) := by
  obtain ⟨a0, a1, a2, a3, a4, a5, a6, a7, a8, b1, b2, b3, b4, b5⟩ := h
  have e0 : ru r (213 + k) v 0 = r 0 := ru_ne (by omega)
  have e1 : ru r (213 + k) v 1 = r 1 := ru_ne (by omega)
  have e2 : ru r (213 + k) v 2 = r 2 := ru_ne (by omega)
  have e3 : ru r (213 + k) v 3 = r 3 := ru_ne (by omega)
  have e4 : ru r (213 + k) v 4 = r 4 := ru_ne (by omega)
  have e5 : ru r (213 + k) v 5 = r 5 := ru_ne (by omega)
  have e6 : ru r (213 + k) v 6 = r 6 := ru_ne (by omega)
  have e7 : ru r (213 + k) v 7 = r 7 := ru_ne (by omega)
  have e8 : ru r (213 + k) v 8 = r 8 := ru_ne (by omega)
  refine ⟨by rw [e0]; omega, by rw [e1]; omega, by rw [e2]; omega, by rw [e3]; omega, by rw [e4]; omega, by rw [e5, e4]; omega, by rw [e6]; omega, by rw [e7]; omega, by rw [e8]; omega, fun x p q => ?_, fun x p q => ?_, fun x y p q p' q' => ?_, fun x p q => ?_, fun x p q => ?_⟩
  · have z := b1 x p q
    simp only [rl, ru] at z ⊢
    refine ⟨?_, ?_, ?_, ?_, ?_, ?_⟩ <;> split <;> omega
  · rw [e1] at q
    have z := b2 x p q
    rw [e0]
    simp only [rg, ru] at z ⊢
    refine ⟨?_, ?_, ?_, ?_, ?_, ?_, ?_, ?_, ?_, ?_, ?_, ?_⟩ <;> split <;> omega
  · have z := b3 x y p q p' q'
    rw [e0]
    simp only [rd, rs, ru] at z ⊢
    refine ⟨?_, ?_, ?_, ?_, ?_⟩ <;> split <;> omega
  · rw [e2] at q
    have z := b4 x p q
    simp only [rh, ru] at z ⊢
    refine ⟨?_, ?_⟩ <;> split <;> omega
  · rw [e3] at q
    have z := b5 x p q
    rw [e0]
    simp only [rr, ru] at z ⊢
    refine ⟨?_, ?_, ?_, ?_, ?_, ?_, ?_, ?_, ?_⟩ <;> split <;> (try split) <;> omega
theorem vr_road {i k : Int} {v : Int} (h : Vr B r) (h0 : 0 ≤ i) (h1 : i ≤ 11) (h2 : 0 ≤ k) (h3 : k ≤ 3) (h4 : r 3 ≤ i) : Vr B (ru r (218 + 4 * i + k) v) := by
  obtain ⟨a0, a1, a2, a3, a4, a5, a6, a7, a8, b1, b2, b3, b4, b5⟩ := h
  have e0 : ru r (218 + 4 * i + k) v 0 = r 0 := ru_ne (by omega)
  have e1 : ru r (218 + 4 * i + k) v 1 = r 1 := ru_ne (by omega)
  have e2 : ru r (218 + 4 * i + k) v 2 = r 2 := ru_ne (by omega)
  have e3 : ru r (218 + 4 * i + k) v 3 = r 3 := ru_ne (by omega)
  have e4 : ru r (218 + 4 * i + k) v 4 = r 4 := ru_ne (by omega)
  have e5 : ru r (218 + 4 * i + k) v 5 = r 5 := ru_ne (by omega)
  have e6 : ru r (218 + 4 * i + k) v 6 = r 6 := ru_ne (by omega)
  have e7 : ru r (218 + 4 * i + k) v 7 = r 7 := ru_ne (by omega)
  have e8 : ru r (218 + 4 * i + k) v 8 = r 8 := ru_ne (by omega)
  refine ⟨by rw [e0]; omega, by rw [e1]; omega, by rw [e2]; omega, by rw [e3]; omega, by rw [e4]; omega, by rw [e5, e4]; omega, by rw [e6]; omega, by rw [e7]; omega, by rw [e8]; omega, fun x p q => ?_, fun x p q => ?_, fun x y p q p' q' => ?_, fun x p q => ?_, fun x p q => ?_⟩
  · have z := b1 x p q
    simp only [rl, ru] at z ⊢
    refine ⟨?_, ?_, ?_, ?_, ?_, ?_⟩ <;> split <;> omega
  · rw [e1] at q
    have z := b2 x p q
    rw [e0]
    simp only [rg, ru] at z ⊢
    refine ⟨?_, ?_, ?_, ?_, ?_, ?_, ?_, ?_, ?_, ?_, ?_, ?_⟩ <;> split <;> omega
  · have z := b3 x y p q p' q'
    rw [e0]
    simp only [rd, rs, ru] at z ⊢
    refine ⟨?_, ?_, ?_, ?_, ?_⟩ <;> split <;> omega
  · rw [e2] at q
    have z := b4 x p q
    simp only [rh, ru] at z ⊢
    refine ⟨?_, ?_⟩ <;> split <;> omega
  · rw [e3] at q
    have z := b5 x p q
    rw [e0]
    simp only [rr, ru] at z ⊢
    refine ⟨?_, ?_, ?_, ?_, ?_, ?_, ?_, ?_, ?_⟩ <;> split <;> (try split) <;> omega
theorem vr_0  {v : Int} (h : Vr B r) (h0 : r 0 ≤ v) (h1 : v ≤ 6) : Vr B (ru r (0) v) := by
  obtain ⟨a0, a1, a2, a3, a4, a5, a6, a7, a8, b1, b2, b3, b4, b5⟩ := h
  have e0 : ru r (0) v 0 = v := ru_eq (by omega)
  have e1 : ru r (0) v 1 = r 1 := ru_ne (by omega)
  have e2 : ru r (0) v 2 = r 2 := ru_ne (by omega)
  have e3 : ru r (0) v 3 = r 3 := ru_ne (by omega)
  have e4 : ru r (0) v 4 = r 4 := ru_ne (by omega)
  have e5 : ru r (0) v 5 = r 5 := ru_ne (by omega)
  have e6 : ru r (0) v 6 = r 6 := ru_ne (by omega)
  have e7 : ru r (0) v 7 = r 7 := ru_ne (by omega)
  have e8 : ru r (0) v 8 = r 8 := ru_ne (by omega)
  refine ⟨by rw [e0]; omega, by rw [e1]; omega, by rw [e2]; omega, by rw [e3]; omega, by rw [e4]; omega, by rw [e5, e4]; omega, by rw [e6]; omega, by rw [e7]; omega, by rw [e8]; omega, fun x p q => ?_, fun x p q => ?_, fun x y p q p' q' => ?_, fun x p q => ?_, fun x p q => ?_⟩
  · have z := b1 x p q
    simp only [rl, ru] at z ⊢
    refine ⟨?_, ?_, ?_, ?_, ?_, ?_⟩ <;> split <;> omega
  · rw [e1] at q
    have z := b2 x p q
    rw [e0]
    simp only [rg, ru] at z ⊢
    refine ⟨?_, ?_, ?_, ?_, ?_, ?_, ?_, ?_, ?_, ?_, ?_, ?_⟩ <;> split <;> omega
  · have z := b3 x y p q p' q'
    rw [e0]
    simp only [rd, rs, ru] at z ⊢
    refine ⟨?_, ?_, ?_, ?_, ?_⟩ <;> split <;> omega
  · rw [e2] at q
    have z := b4 x p q
    simp only [rh, ru] at z ⊢
    refine ⟨?_, ?_⟩ <;> split <;> omega
  · rw [e3] at q
    have z := b5 x p q
    rw [e0]
    simp only [rr, ru] at z ⊢
    refine ⟨?_, ?_, ?_, ?_, ?_, ?_, ?_, ?_, ?_⟩ <;> split <;> (try split) <;> omega
theorem vr_1  {v : Int} (h : Vr B r) (h0 : v = r 1 + 1) (h1 : v ≤ 16) (hn : 0 ≤ rg r (r 1) 0 ∧ rg r (r 1) 0 < r 0 ∧ 0 ≤ rg r (r 1) 1 ∧ rg r (r 1) 1 < r 0 ∧ 0 ≤ rg r (r 1) 2 ∧ rg r (r 1) 2 ≤ 99 ∧ 0 ≤ rg r (r 1) 3 ∧ rg r (r 1) 3 ≤ 20 ∧ 0 ≤ rg r (r 1) 4 ∧ rg r (r 1) 4 ≤ B ∧ -1 ≤ rg r (r 1) 5 ∧ rg r (r 1) 5 < r 0) : Vr B (ru r (1) v) := by
  obtain ⟨a0, a1, a2, a3, a4, a5, a6, a7, a8, b1, b2, b3, b4, b5⟩ := h
  have e0 : ru r (1) v 0 = r 0 := ru_ne (by omega)
  have e1 : ru r (1) v 1 = v := ru_eq (by omega)
  have e2 : ru r (1) v 2 = r 2 := ru_ne (by omega)
  have e3 : ru r (1) v 3 = r 3 := ru_ne (by omega)
  have e4 : ru r (1) v 4 = r 4 := ru_ne (by omega)
  have e5 : ru r (1) v 5 = r 5 := ru_ne (by omega)
  have e6 : ru r (1) v 6 = r 6 := ru_ne (by omega)
  have e7 : ru r (1) v 7 = r 7 := ru_ne (by omega)
  have e8 : ru r (1) v 8 = r 8 := ru_ne (by omega)
  refine ⟨by rw [e0]; omega, by rw [e1]; omega, by rw [e2]; omega, by rw [e3]; omega, by rw [e4]; omega, by rw [e5, e4]; omega, by rw [e6]; omega, by rw [e7]; omega, by rw [e8]; omega, fun x p q => ?_, fun x p q => ?_, fun x y p q p' q' => ?_, fun x p q => ?_, fun x p q => ?_⟩
  · have z := b1 x p q
    simp only [rl, ru] at z ⊢
    refine ⟨?_, ?_, ?_, ?_, ?_, ?_⟩ <;> split <;> omega
  · rw [e1] at q
    have z : 0 ≤ rg r x 0 ∧ rg r x 0 < r 0 ∧ 0 ≤ rg r x 1 ∧ rg r x 1 < r 0 ∧ 0 ≤ rg r x 2 ∧ rg r x 2 ≤ 99 ∧ 0 ≤ rg r x 3 ∧ rg r x 3 ≤ 20 ∧ 0 ≤ rg r x 4 ∧ rg r x 4 ≤ B ∧ -1 ≤ rg r x 5 ∧ rg r x 5 < r 0 := by
      by_cases e : x < r 1
      · exact b2 x p e
      · have : x = r 1 := by omega
        rw [this]; exact hn
    rw [e0]
    simp only [rg, ru] at z ⊢
    refine ⟨?_, ?_, ?_, ?_, ?_, ?_, ?_, ?_, ?_, ?_, ?_, ?_⟩ <;> split <;> omega
  · have z := b3 x y p q p' q'
    rw [e0]
    simp only [rd, rs, ru] at z ⊢
    refine ⟨?_, ?_, ?_, ?_, ?_⟩ <;> split <;> omega
  · rw [e2] at q
    have z := b4 x p q
    simp only [rh, ru] at z ⊢
    refine ⟨?_, ?_⟩ <;> split <;> omega
  · rw [e3] at q
    have z := b5 x p q
    rw [e0]
    simp only [rr, ru] at z ⊢
    refine ⟨?_, ?_, ?_, ?_, ?_, ?_, ?_, ?_, ?_⟩ <;> split <;> (try split) <;> omega
theorem vr_2  {v : Int} (h : Vr B r) (h0 : v = r 2 + 1) (h1 : v ≤ 5) (hn : 1 ≤ rh r (r 2) ∧ rh r (r 2) ≤ 9) : Vr B (ru r (2) v) := by
  obtain ⟨a0, a1, a2, a3, a4, a5, a6, a7, a8, b1, b2, b3, b4, b5⟩ := h
  have e0 : ru r (2) v 0 = r 0 := ru_ne (by omega)
  have e1 : ru r (2) v 1 = r 1 := ru_ne (by omega)
  have e2 : ru r (2) v 2 = v := ru_eq (by omega)
  have e3 : ru r (2) v 3 = r 3 := ru_ne (by omega)
  have e4 : ru r (2) v 4 = r 4 := ru_ne (by omega)
  have e5 : ru r (2) v 5 = r 5 := ru_ne (by omega)
  have e6 : ru r (2) v 6 = r 6 := ru_ne (by omega)
  have e7 : ru r (2) v 7 = r 7 := ru_ne (by omega)
  have e8 : ru r (2) v 8 = r 8 := ru_ne (by omega)
  refine ⟨by rw [e0]; omega, by rw [e1]; omega, by rw [e2]; omega, by rw [e3]; omega, by rw [e4]; omega, by rw [e5, e4]; omega, by rw [e6]; omega, by rw [e7]; omega, by rw [e8]; omega, fun x p q => ?_, fun x p q => ?_, fun x y p q p' q' => ?_, fun x p q => ?_, fun x p q => ?_⟩
  · have z := b1 x p q
    simp only [rl, ru] at z ⊢
    refine ⟨?_, ?_, ?_, ?_, ?_, ?_⟩ <;> split <;> omega
  · rw [e1] at q
    have z := b2 x p q
    rw [e0]
    simp only [rg, ru] at z ⊢
    refine ⟨?_, ?_, ?_, ?_, ?_, ?_, ?_, ?_, ?_, ?_, ?_, ?_⟩ <;> split <;> omega
  · have z := b3 x y p q p' q'
    rw [e0]
    simp only [rd, rs, ru] at z ⊢
    refine ⟨?_, ?_, ?_, ?_, ?_⟩ <;> split <;> omega
  · rw [e2] at q
    have z : 1 ≤ rh r x ∧ rh r x ≤ 9 := by
      by_cases e : x < r 2
      · exact b4 x p e
      · have : x = r 2 := by omega
        rw [this]; exact hn
    simp only [rh, ru] at z ⊢
    refine ⟨?_, ?_⟩ <;> split <;> omega
  · rw [e3] at q
    have z := b5 x p q
    rw [e0]
    simp only [rr, ru] at z ⊢
    refine ⟨?_, ?_, ?_, ?_, ?_, ?_, ?_, ?_, ?_⟩ <;> split <;> (try split) <;> omega
theorem vr_3  {v : Int} (h : Vr B r) (h0 : v = r 3 + 1) (h1 : v ≤ 12) (hn : 0 ≤ rr r (r 3) 0 ∧ rr r (r 3) 0 < r 0 ∧ 0 ≤ rr r (r 3) 1 ∧ rr r (r 3) 1 < r 0 ∧ rr r (r 3) 0 ≠ rr r (r 3) 1 ∧ 1 ≤ rr r (r 3) 2 ∧ rr r (r 3) 2 ≤ 30 ∧ 0 ≤ rr r (r 3) 3 ∧ rr r (r 3) 3 ≤ 10) : Vr B (ru r (3) v) := by
  obtain ⟨a0, a1, a2, a3, a4, a5, a6, a7, a8, b1, b2, b3, b4, b5⟩ := h
  have e0 : ru r (3) v 0 = r 0 := ru_ne (by omega)
  have e1 : ru r (3) v 1 = r 1 := ru_ne (by omega)
  have e2 : ru r (3) v 2 = r 2 := ru_ne (by omega)
  have e3 : ru r (3) v 3 = v := ru_eq (by omega)
  have e4 : ru r (3) v 4 = r 4 := ru_ne (by omega)
  have e5 : ru r (3) v 5 = r 5 := ru_ne (by omega)
  have e6 : ru r (3) v 6 = r 6 := ru_ne (by omega)
  have e7 : ru r (3) v 7 = r 7 := ru_ne (by omega)
  have e8 : ru r (3) v 8 = r 8 := ru_ne (by omega)
  refine ⟨by rw [e0]; omega, by rw [e1]; omega, by rw [e2]; omega, by rw [e3]; omega, by rw [e4]; omega, by rw [e5, e4]; omega, by rw [e6]; omega, by rw [e7]; omega, by rw [e8]; omega, fun x p q => ?_, fun x p q => ?_, fun x y p q p' q' => ?_, fun x p q => ?_, fun x p q => ?_⟩
  · have z := b1 x p q
    simp only [rl, ru] at z ⊢
    refine ⟨?_, ?_, ?_, ?_, ?_, ?_⟩ <;> split <;> omega
  · rw [e1] at q
    have z := b2 x p q
    rw [e0]
    simp only [rg, ru] at z ⊢
    refine ⟨?_, ?_, ?_, ?_, ?_, ?_, ?_, ?_, ?_, ?_, ?_, ?_⟩ <;> split <;> omega
  · have z := b3 x y p q p' q'
    rw [e0]
    simp only [rd, rs, ru] at z ⊢
    refine ⟨?_, ?_, ?_, ?_, ?_⟩ <;> split <;> omega
  · rw [e2] at q
    have z := b4 x p q
    simp only [rh, ru] at z ⊢
    refine ⟨?_, ?_⟩ <;> split <;> omega
  · rw [e3] at q
    have z : 0 ≤ rr r x 0 ∧ rr r x 0 < r 0 ∧ 0 ≤ rr r x 1 ∧ rr r x 1 < r 0 ∧ rr r x 0 ≠ rr r x 1 ∧ 1 ≤ rr r x 2 ∧ rr r x 2 ≤ 30 ∧ 0 ≤ rr r x 3 ∧ rr r x 3 ≤ 10 := by
      by_cases e : x < r 3
      · exact b5 x p e
      · have : x = r 3 := by omega
        rw [this]; exact hn
    rw [e0]
    simp only [rr, ru] at z ⊢
    refine ⟨?_, ?_, ?_, ?_, ?_, ?_, ?_, ?_, ?_⟩ <;> split <;> (try split) <;> omega
theorem vr_4  {v : Int} (h : Vr B r) (h0 : r 4 ≤ v) (h1 : v ≤ 6) : Vr B (ru r (4) v) := by
  obtain ⟨a0, a1, a2, a3, a4, a5, a6, a7, a8, b1, b2, b3, b4, b5⟩ := h
  have e0 : ru r (4) v 0 = r 0 := ru_ne (by omega)
  have e1 : ru r (4) v 1 = r 1 := ru_ne (by omega)
  have e2 : ru r (4) v 2 = r 2 := ru_ne (by omega)
  have e3 : ru r (4) v 3 = r 3 := ru_ne (by omega)
  have e4 : ru r (4) v 4 = v := ru_eq (by omega)
  have e5 : ru r (4) v 5 = r 5 := ru_ne (by omega)
  have e6 : ru r (4) v 6 = r 6 := ru_ne (by omega)
  have e7 : ru r (4) v 7 = r 7 := ru_ne (by omega)
  have e8 : ru r (4) v 8 = r 8 := ru_ne (by omega)
  refine ⟨by rw [e0]; omega, by rw [e1]; omega, by rw [e2]; omega, by rw [e3]; omega, by rw [e4]; omega, by rw [e5, e4]; omega, by rw [e6]; omega, by rw [e7]; omega, by rw [e8]; omega, fun x p q => ?_, fun x p q => ?_, fun x y p q p' q' => ?_, fun x p q => ?_, fun x p q => ?_⟩
  · have z := b1 x p q
    simp only [rl, ru] at z ⊢
    refine ⟨?_, ?_, ?_, ?_, ?_, ?_⟩ <;> split <;> omega
  · rw [e1] at q
    have z := b2 x p q
    rw [e0]
    simp only [rg, ru] at z ⊢
    refine ⟨?_, ?_, ?_, ?_, ?_, ?_, ?_, ?_, ?_, ?_, ?_, ?_⟩ <;> split <;> omega
  · have z := b3 x y p q p' q'
    rw [e0]
    simp only [rd, rs, ru] at z ⊢
    refine ⟨?_, ?_, ?_, ?_, ?_⟩ <;> split <;> omega
  · rw [e2] at q
    have z := b4 x p q
    simp only [rh, ru] at z ⊢
    refine ⟨?_, ?_⟩ <;> split <;> omega
  · rw [e3] at q
    have z := b5 x p q
    rw [e0]
    simp only [rr, ru] at z ⊢
    refine ⟨?_, ?_, ?_, ?_, ?_, ?_, ?_, ?_, ?_⟩ <;> split <;> (try split) <;> omega
theorem vr_5  {v : Int} (h : Vr B r) (h0 : -1 ≤ v) (h1 : v < r 4) : Vr B (ru r (5) v) := by
  obtain ⟨a0, a1, a2, a3, a4, a5, a6, a7, a8, b1, b2, b3, b4, b5⟩ := h
  have e0 : ru r (5) v 0 = r 0 := ru_ne (by omega)
  have e1 : ru r (5) v 1 = r 1 := ru_ne (by omega)
  have e2 : ru r (5) v 2 = r 2 := ru_ne (by omega)
  have e3 : ru r (5) v 3 = r 3 := ru_ne (by omega)
  have e4 : ru r (5) v 4 = r 4 := ru_ne (by omega)
  have e5 : ru r (5) v 5 = v := ru_eq (by omega)
  have e6 : ru r (5) v 6 = r 6 := ru_ne (by omega)
  have e7 : ru r (5) v 7 = r 7 := ru_ne (by omega)
  have e8 : ru r (5) v 8 = r 8 := ru_ne (by omega)
  refine ⟨by rw [e0]; omega, by rw [e1]; omega, by rw [e2]; omega, by rw [e3]; omega, by rw [e4]; omega, by rw [e5, e4]; omega, by rw [e6]; omega, by rw [e7]; omega, by rw [e8]; omega, fun x p q => ?_, fun x p q => ?_, fun x y p q p' q' => ?_, fun x p q => ?_, fun x p q => ?_⟩
  · have z := b1 x p q
    simp only [rl, ru] at z ⊢
    refine ⟨?_, ?_, ?_, ?_, ?_, ?_⟩ <;> split <;> omega
  · rw [e1] at q
    have z := b2 x p q
    rw [e0]
    simp only [rg, ru] at z ⊢
    refine ⟨?_, ?_, ?_, ?_, ?_, ?_, ?_, ?_, ?_, ?_, ?_, ?_⟩ <;> split <;> omega
  · have z := b3 x y p q p' q'
    rw [e0]
    simp only [rd, rs, ru] at z ⊢
    refine ⟨?_, ?_, ?_, ?_, ?_⟩ <;> split <;> omega
  · rw [e2] at q
    have z := b4 x p q
    simp only [rh, ru] at z ⊢
    refine ⟨?_, ?_⟩ <;> split <;> omega
  · rw [e3] at q
    have z := b5 x p q
    rw [e0]
    simp only [rr, ru] at z ⊢
    refine ⟨?_, ?_, ?_, ?_, ?_, ?_, ?_, ?_, ?_⟩ <;> split <;> (try split) <;> omega
theorem vr_6  {v : Int} (h : Vr B r) (h0 : 0 ≤ v) (h1 : v ≤ 999) : Vr B (ru r (6) v) := by
  obtain ⟨a0, a1, a2, a3, a4, a5, a6, a7, a8, b1, b2, b3, b4, b5⟩ := h
  have e0 : ru r (6) v 0 = r 0 := ru_ne (by omega)
  have e1 : ru r (6) v 1 = r 1 := ru_ne (by omega)
  have e2 : ru r (6) v 2 = r 2 := ru_ne (by omega)
  have e3 : ru r (6) v 3 = r 3 := ru_ne (by omega)
  have e4 : ru r (6) v 4 = r 4 := ru_ne (by omega)
  have e5 : ru r (6) v 5 = r 5 := ru_ne (by omega)
  have e6 : ru r (6) v 6 = v := ru_eq (by omega)
  have e7 : ru r (6) v 7 = r 7 := ru_ne (by omega)
  have e8 : ru r (6) v 8 = r 8 := ru_ne (by omega)
  refine ⟨by rw [e0]; omega, by rw [e1]; omega, by rw [e2]; omega, by rw [e3]; omega, by rw [e4]; omega, by rw [e5, e4]; omega, by rw [e6]; omega, by rw [e7]; omega, by rw [e8]; omega, fun x p q => ?_, fun x p q => ?_, fun x y p q p' q' => ?_, fun x p q => ?_, fun x p q => ?_⟩
  · have z := b1 x p q
    simp only [rl, ru] at z ⊢
    refine ⟨?_, ?_, ?_, ?_, ?_, ?_⟩ <;> split <;> omega
  · rw [e1] at q
    have z := b2 x p q
    rw [e0]
    simp only [rg, ru] at z ⊢
    refine ⟨?_, ?_, ?_, ?_, ?_, ?_, ?_, ?_, ?_, ?_, ?_, ?_⟩ <;> split <;> omega
  · have z := b3 x y p q p' q'
    rw [e0]
    simp only [rd, rs, ru] at z ⊢
    refine ⟨?_, ?_, ?_, ?_, ?_⟩ <;> split <;> omega
  · rw [e2] at q
    have z := b4 x p q
    simp only [rh, ru] at z ⊢
    refine ⟨?_, ?_⟩ <;> split <;> omega
  · rw [e3] at q
    have z := b5 x p q
    rw [e0]
    simp only [rr, ru] at z ⊢
    refine ⟨?_, ?_, ?_, ?_, ?_, ?_, ?_, ?_, ?_⟩ <;> split <;> (try split) <;> omega
theorem vr_7  {v : Int} (h : Vr B r) (h0 : 1 ≤ v) (h1 : v ≤ 3) : Vr B (ru r (7) v) := by
  obtain ⟨a0, a1, a2, a3, a4, a5, a6, a7, a8, b1, b2, b3, b4, b5⟩ := h
  have e0 : ru r (7) v 0 = r 0 := ru_ne (by omega)
  have e1 : ru r (7) v 1 = r 1 := ru_ne (by omega)
  have e2 : ru r (7) v 2 = r 2 := ru_ne (by omega)
  have e3 : ru r (7) v 3 = r 3 := ru_ne (by omega)
  have e4 : ru r (7) v 4 = r 4 := ru_ne (by omega)
  have e5 : ru r (7) v 5 = r 5 := ru_ne (by omega)
  have e6 : ru r (7) v 6 = r 6 := ru_ne (by omega)
  have e7 : ru r (7) v 7 = v := ru_eq (by omega)
  have e8 : ru r (7) v 8 = r 8 := ru_ne (by omega)
  refine ⟨by rw [e0]; omega, by rw [e1]; omega, by rw [e2]; omega, by rw [e3]; omega, by rw [e4]; omega, by rw [e5, e4]; omega, by rw [e6]; omega, by rw [e7]; omega, by rw [e8]; omega, fun x p q => ?_, fun x p q => ?_, fun x y p q p' q' => ?_, fun x p q => ?_, fun x p q => ?_⟩
  · have z := b1 x p q
    simp only [rl, ru] at z ⊢
    refine ⟨?_, ?_, ?_, ?_, ?_, ?_⟩ <;> split <;> omega
  · rw [e1] at q
    have z := b2 x p q
    rw [e0]
    simp only [rg, ru] at z ⊢
    refine ⟨?_, ?_, ?_, ?_, ?_, ?_, ?_, ?_, ?_, ?_, ?_, ?_⟩ <;> split <;> omega
  · have z := b3 x y p q p' q'
    rw [e0]
    simp only [rd, rs, ru] at z ⊢
    refine ⟨?_, ?_, ?_, ?_, ?_⟩ <;> split <;> omega
  · rw [e2] at q
    have z := b4 x p q
    simp only [rh, ru] at z ⊢
    refine ⟨?_, ?_⟩ <;> split <;> omega
  · rw [e3] at q
    have z := b5 x p q
    rw [e0]
    simp only [rr, ru] at z ⊢
    refine ⟨?_, ?_, ?_, ?_, ?_, ?_, ?_, ?_, ?_⟩ <;> split <;> (try split) <;> omega
theorem vr_8  {v : Int} (h : Vr B r) (h0 : 0 ≤ v) (h1 : v ≤ 9) : Vr B (ru r (8) v) := by
  obtain ⟨a0, a1, a2, a3, a4, a5, a6, a7, a8, b1, b2, b3, b4, b5⟩ := h
  have e0 : ru r (8) v 0 = r 0 := ru_ne (by omega)
  have e1 : ru r (8) v 1 = r 1 := ru_ne (by omega)
  have e2 : ru r (8) v 2 = r 2 := ru_ne (by omega)
  have e3 : ru r (8) v 3 = r 3 := ru_ne (by omega)
  have e4 : ru r (8) v 4 = r 4 := ru_ne (by omega)
  have e5 : ru r (8) v 5 = r 5 := ru_ne (by omega)
  have e6 : ru r (8) v 6 = r 6 := ru_ne (by omega)
  have e7 : ru r (8) v 7 = r 7 := ru_ne (by omega)
  have e8 : ru r (8) v 8 = v := ru_eq (by omega)
  refine ⟨by rw [e0]; omega, by rw [e1]; omega, by rw [e2]; omega, by rw [e3]; omega, by rw [e4]; omega, by rw [e5, e4]; omega, by rw [e6]; omega, by rw [e7]; omega, by rw [e8]; omega, fun x p q => ?_, fun x p q => ?_, fun x y p q p' q' => ?_, fun x p q => ?_, fun x p q => ?_⟩
  · have z := b1 x p q
    simp only [rl, ru] at z ⊢
    refine ⟨?_, ?_, ?_, ?_, ?_, ?_⟩ <;> split <;> omega
  · rw [e1] at q
    have z := b2 x p q
    rw [e0]
    simp only [rg, ru] at z ⊢
    refine ⟨?_, ?_, ?_, ?_, ?_, ?_, ?_, ?_, ?_, ?_, ?_, ?_⟩ <;> split <;> omega
  · have z := b3 x y p q p' q'
    rw [e0]
    simp only [rd, rs, ru] at z ⊢
    refine ⟨?_, ?_, ?_, ?_, ?_⟩ <;> split <;> omega
  · rw [e2] at q
    have z := b4 x p q
    simp only [rh, ru] at z ⊢
    refine ⟨?_, ?_⟩ <;> split <;> omega
  · rw [e3] at q
    have z := b5 x p q
    rw [e0]
    simp only [rr, ru] at z ⊢
    refine ⟨?_, ?_, ?_, ?_, ?_, ?_, ?_, ?_, ?_⟩ <;> split <;> (try split) <;> omega
theorem vr_B {B' : Int} (h : Vr B r) (hB : B ≤ B') : Vr B' r := by
  obtain ⟨a0, a1, a2, a3, a4, a5, a6, a7, a8, b1, b2, b3, b4, b5⟩ := h
  exact ⟨a0, a1, a2, a3, a4, a5, a6, a7, a8, b1, fun x p q => by have := b2 x p q; omega, b3, b4, b5⟩
end RU
