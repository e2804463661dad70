/-! found: rows of gifts, counted good by good -/
def uph (H : Nat → Nat) (g t : Nat) : Nat → Nat := fun i => if i = g then t else H i
theorem smA (A B : Nat → Int) : ∀ n, sm (fun t => A t + B t) n = sm A n + sm B n
  | 0 => rfl
  | n + 1 => by rw [sm_s, sm_s, sm_s, smA A B n]; omega
theorem smM (A : Nat → Int) (c : Int) : ∀ n, sm (fun t => A t * c) n = sm A n * c
  | 0 => by rw [sm_0, sm_0, Int.zero_mul]
  | n + 1 => by rw [sm_s, sm_s, smM A c n, Int.add_mul]
theorem smL (A : Nat → Int) (c : Int) : ∀ n, sm (fun t => c * A t) n = c * sm A n
  | 0 => by rw [sm_0, sm_0, Int.mul_zero]
  | n + 1 => by rw [sm_s, sm_s, smL A c n, Int.mul_add]
section FD
variable (op : Nat → Nat → Nat → Bool) (td : Nat → Int)
def wkS : Nat → Nat → Nat → Int
  | 0, g, a => if td g = -1 ∨ td g = (a : Int) then 1 else 0
  | s + 1, g, a => sm (fun t => if op g a t = true then wkS s g t else 0) 6
def tdN (H : Nat → Nat) : Nat → Int
  | 0 => 1
  | j + 1 => tdN H j * (if td j = -1 ∨ td j = (H j : Int) then 1 else 0)
def ccS (j : Nat) : Nat → (Nat → Nat) → Int
  | 0, H => tdN td H j
  | k + 1, H => sm (fun g => sm (fun t => if op g (H g) t = true then ccS j k (uph H g t) else 0) 6) j
end FD
theorem tdN_c {td : Nat → Int} {H H' : Nat → Nat} : ∀ j, (∀ g, g < j → H g = H' g) → tdN td H j = tdN td H' j
  | 0, _ => rfl
  | j + 1, h => by rw [tdN, tdN, tdN_c j fun g hg => h g (by omega), h j (by omega)]
theorem cc_c {op : Nat → Nat → Nat → Bool} {td : Nat → Int} {j : Nat} : ∀ (k : Nat) (H H' : Nat → Nat), (∀ g, g < j → H g = H' g) → ccS op td j k H = ccS op td j k H'
  | 0, H, H', h => tdN_c j h
  | k + 1, H, H', h => by
    rw [ccS, ccS]
    refine sm_c fun g hg => sm_c fun t _ => ?_
    rw [h g hg, cc_c k (uph H g t) (uph H' g t) fun i hi => by unfold uph; rw [h i hi]]
theorem wk_b {op : Nat → Nat → Nat → Bool} {td : Nat → Int} : ∀ (s g a : Nat), s ≤ 3 → 0 ≤ wkS op td s g a ∧ wkS op td s g a ≤ ((6 ^ s : Nat) : Int)
  | 0, g, a, _ => by rw [wkS]; split <;> decide
  | s + 1, g, a, h => by
    have b := sm_b (f := fun t => if op g a t = true then wkS op td s g t else 0) (B := ((6 ^ s : Nat) : Int)) (n := 6) fun t _ => by
      have := wk_b (op := op) (td := td) s g t (by omega)
      split
      · exact this
      · omega
    rw [wkS]
    refine ⟨b.1, ?_⟩
    have e : ((6 ^ (s + 1) : Nat) : Int) = ((6 : Nat) : Int) * ((6 ^ s : Nat) : Int) := by rw [Nat.pow_succ, Nat.mul_comm]; exact Int.natCast_mul 6 (6 ^ s)
    rw [e]
    exact b.2
theorem td_b {td : Nat → Int} {H : Nat → Nat} : ∀ j, 0 ≤ tdN td H j ∧ tdN td H j ≤ 1
  | 0 => by rw [tdN]; omega
  | j + 1 => by
    have := td_b (td := td) (H := H) j
    rw [tdN]
    split
    · omega
    · omega
theorem cc_b {op : Nat → Nat → Nat → Bool} {td : Nat → Int} {j : Nat} (hj : j ≤ 16) : ∀ (k : Nat) (H : Nat → Nat), 0 ≤ ccS op td j k H ∧ ccS op td j k H ≤ ((96 ^ k : Nat) : Int)
  | 0, H => td_b j
  | k + 1, H => by
    have e : ((96 ^ (k + 1) : Nat) : Int) = 96 * ((96 ^ k : Nat) : Int) := by rw [Nat.pow_succ, Nat.mul_comm]; exact Int.natCast_mul 96 (96 ^ k)
    have p0 : 0 ≤ ((96 ^ k : Nat) : Int) := Int.natCast_nonneg _
    have b := sm_b (f := fun g => sm (fun t => if op g (H g) t = true then ccS op td j k (uph H g t) else 0) 6) (B := 6 * ((96 ^ k : Nat) : Int)) (n := j) fun g _ => by
      have c := sm_b (f := fun t => if op g (H g) t = true then ccS op td j k (uph H g t) else 0) (B := ((96 ^ k : Nat) : Int)) (n := 6) fun t _ => by
        have := cc_b (op := op) (td := td) hj k (uph H g t)
        split
        · exact this
        · omega
      exact c
    rw [ccS, e]
    refine ⟨b.1, Int.le_trans b.2 ?_⟩
    rw [← Int.mul_assoc]
    exact Int.mul_le_mul_of_nonneg_right (by omega) p0
section FE
variable {op : Nat → Nat → Nat → Bool} {td : Nat → Int} {j : Nat}
theorem cc_0 (H : Nat → Nat) : ccS op td (j + 1) 0 H = ccS op td j 0 H * wkS op td 0 j (H j) := rfl
/-- one more gift: by an earlier good, or by the good j -/
theorem cc_up {k : Nat} {H : Nat → Nat} : ccS op td (j + 1) (k + 1) H = sm (fun g => sm (fun t => if op g (H g) t = true then ccS op td (j + 1) k (uph H g t) else 0) 6) j + sm (fun t => if op j (H j) t = true then ccS op td (j + 1) k (uph H j t) else 0) 6 := by
  rw [ccS, sm_s]
theorem uph_s {H : Nat → Nat} {g t : Nat} : uph H g t g = t := by unfold uph; rw [if_pos rfl]
theorem uph_o {H : Nat → Nat} {g t i : Nat} (h : i ≠ g) : uph H g t i = H i := by unfold uph; rw [if_neg h]
theorem cc_uj {k : Nat} {H : Nat → Nat} {t : Nat} : ccS op td j k (uph H j t) = ccS op td j k H := cc_c k _ _ fun g hg => uph_o (by omega)
theorem if_M {p : Prop} [Decidable p] {x c : Int} : (if p then x * c else 0) = (if p then x else 0) * c := by split; rfl; rw [Int.zero_mul]
theorem if_L {p : Prop} [Decidable p] {x c : Int} : (if p then c * x else 0) = c * (if p then x else 0) := by split; rfl; rw [Int.mul_zero]
theorem if_A {p : Prop} [Decidable p] {x y : Int} : (if p then x + y else 0) = (if p then x else 0) + (if p then y else 0) := by split; rfl; rfl
theorem cc_1 (H : Nat → Nat) : ccS op td (j + 1) 1 H = ccS op td j 1 H * wkS op td 0 j (H j) + ccS op td j 0 H * wkS op td 1 j (H j) := by
  rw [cc_up]
  have e1 : sm (fun g => sm (fun t => if op g (H g) t = true then ccS op td (j + 1) 0 (uph H g t) else 0) 6) j = ccS op td j 1 H * wkS op td 0 j (H j) := by
    rw [show ccS op td j 1 H = sm (fun g => sm (fun t => if op g (H g) t = true then ccS op td j 0 (uph H g t) else 0) 6) j from rfl, ← smM]
    refine sm_c fun g hg => ?_
    rw [← smM]
    refine sm_c fun t _ => ?_
    rw [cc_0, uph_o (show j ≠ g by omega), if_M]
  have e2 : sm (fun t => if op j (H j) t = true then ccS op td (j + 1) 0 (uph H j t) else 0) 6 = ccS op td j 0 H * wkS op td 1 j (H j) := by
    rw [show wkS op td 1 j (H j) = sm (fun t => if op j (H j) t = true then wkS op td 0 j t else 0) 6 from rfl, ← smL]
    refine sm_c fun t _ => ?_
    rw [cc_0, uph_s, cc_uj, if_L]
  rw [e1, e2]
theorem cc_2 (H : Nat → Nat) : ccS op td (j + 1) 2 H = ccS op td j 2 H * wkS op td 0 j (H j) + 2 * (ccS op td j 1 H * wkS op td 1 j (H j)) + ccS op td j 0 H * wkS op td 2 j (H j) := by
  rw [cc_up]
  have e1 : sm (fun g => sm (fun t => if op g (H g) t = true then ccS op td (j + 1) 1 (uph H g t) else 0) 6) j = ccS op td j 2 H * wkS op td 0 j (H j) + ccS op td j 1 H * wkS op td 1 j (H j) := by
    rw [show ccS op td j 2 H = sm (fun g => sm (fun t => if op g (H g) t = true then ccS op td j 1 (uph H g t) else 0) 6) j from rfl, show ccS op td j 1 H = sm (fun g => sm (fun t => if op g (H g) t = true then ccS op td j 0 (uph H g t) else 0) 6) j from rfl, ← smM, ← smM, ← smA]
    refine sm_c fun g hg => ?_
    rw [← smM, ← smM, ← smA]
    refine sm_c fun t _ => ?_
    rw [cc_1, uph_o (show j ≠ g by omega), if_A, if_M, if_M]
  have e2 : sm (fun t => if op j (H j) t = true then ccS op td (j + 1) 1 (uph H j t) else 0) 6 = ccS op td j 1 H * wkS op td 1 j (H j) + ccS op td j 0 H * wkS op td 2 j (H j) := by
    rw [show wkS op td 1 j (H j) = sm (fun t => if op j (H j) t = true then wkS op td 0 j t else 0) 6 from rfl, show wkS op td 2 j (H j) = sm (fun t => if op j (H j) t = true then wkS op td 1 j t else 0) 6 from rfl, ← smL, ← smL, ← smA]
    refine sm_c fun t _ => ?_
    rw [cc_1, uph_s, cc_uj, cc_uj, if_A, if_L, if_L]
  rw [e1, e2]
  omega
theorem cc_3 (H : Nat → Nat) : ccS op td (j + 1) 3 H = ccS op td j 3 H * wkS op td 0 j (H j) + 3 * (ccS op td j 2 H * wkS op td 1 j (H j)) + 3 * (ccS op td j 1 H * wkS op td 2 j (H j)) + ccS op td j 0 H * wkS op td 3 j (H j) := by
  rw [cc_up]
  have e1 : sm (fun g => sm (fun t => if op g (H g) t = true then ccS op td (j + 1) 2 (uph H g t) else 0) 6) j = ccS op td j 3 H * wkS op td 0 j (H j) + 2 * (ccS op td j 2 H * wkS op td 1 j (H j)) + ccS op td j 1 H * wkS op td 2 j (H j) := by
    rw [show ccS op td j 3 H = sm (fun g => sm (fun t => if op g (H g) t = true then ccS op td j 2 (uph H g t) else 0) 6) j from rfl, show ccS op td j 2 H = sm (fun g => sm (fun t => if op g (H g) t = true then ccS op td j 1 (uph H g t) else 0) 6) j from rfl, show ccS op td j 1 H = sm (fun g => sm (fun t => if op g (H g) t = true then ccS op td j 0 (uph H g t) else 0) 6) j from rfl, ← smM, ← smM, ← smM, ← smL, ← smA, ← smA]
    refine sm_c fun g hg => ?_
    rw [← smM, ← smM, ← smM, ← smL, ← smA, ← smA]
    refine sm_c fun t _ => ?_
    rw [cc_2, uph_o (show j ≠ g by omega)]
    by_cases c : op g (H g) t = true
    · simp only [if_pos c]
    · simp only [if_neg c, Int.zero_mul, Int.mul_zero, Int.add_zero]
  have e2 : sm (fun t => if op j (H j) t = true then ccS op td (j + 1) 2 (uph H j t) else 0) 6 = ccS op td j 2 H * wkS op td 1 j (H j) + 2 * (ccS op td j 1 H * wkS op td 2 j (H j)) + ccS op td j 0 H * wkS op td 3 j (H j) := by
    rw [show wkS op td 1 j (H j) = sm (fun t => if op j (H j) t = true then wkS op td 0 j t else 0) 6 from rfl, show wkS op td 2 j (H j) = sm (fun t => if op j (H j) t = true then wkS op td 1 j t else 0) 6 from rfl, show wkS op td 3 j (H j) = sm (fun t => if op j (H j) t = true then wkS op td 2 j t else 0) 6 from rfl, ← smL, ← smL, ← smL, ← smL, ← smA, ← smA]
    refine sm_c fun t _ => ?_
    rw [cc_2, uph_s, cc_uj, cc_uj, cc_uj, if_A, if_A, if_L, if_L, if_L, if_L]
  rw [e1, e2]
  omega
end FE
/-! the rows themselves, in order -/
section FS
variable (op : Nat → Nat → Nat → Bool) (td : Nat → Int) (G : Nat)
def sqS : Nat → (Nat → Nat) → List (List Nat)
  | 0, H => if tdN td H G = 1 then [[]] else []
  | k + 1, H => (List.range' 0 (6 * G)).flatMap fun x => if op (x / 6) (H (x / 6)) (x % 6) = true then (sqS k (uph H (x / 6) (x % 6))).map (fun s => x :: s) else []
end FS
theorem len_fm {α : Type} (f : Nat → List α) : ∀ m, (((List.range' 0 m).flatMap f).length : Int) = sm (fun x => ((f x).length : Int)) m
  | 0 => rfl
  | m + 1 => by
    rw [List.range'_1_concat, List.flatMap_append, List.length_append, sm_s, ← len_fm f m, List.flatMap_cons, List.flatMap_nil, List.append_nil, Nat.zero_add]
    omega
theorem sm_6 (f : Nat → Int) : ∀ G, sm f (6 * G) = sm (fun g => sm (fun t => f (6 * g + t)) 6) G
  | 0 => rfl
  | G + 1 => by
    rw [show 6 * (G + 1) = 6 * G + 1 + 1 + 1 + 1 + 1 + 1 by omega]
    rw [sm_s, sm_s, sm_s, sm_s, sm_s, sm_s, sm_6 f G, sm_s (fun g => sm (fun t => f (6 * g + t)) 6)]
    have e : sm (fun t => f (6 * G + t)) 6 = f (6 * G) + f (6 * G + 1) + f (6 * G + 2) + f (6 * G + 3) + f (6 * G + 4) + f (6 * G + 5) := by
      show ((((((0 + f (6 * G + 0)) + f (6 * G + 1)) + f (6 * G + 2)) + f (6 * G + 3)) + f (6 * G + 4)) + f (6 * G + 5)) = _
      rw [Nat.add_zero]
      omega
    rw [e]
    show sm (fun g => sm (fun t => f (6 * g + t)) 6) G + f (6 * G) + f (6 * G + 1) + f (6 * G + 2) + f (6 * G + 3) + f (6 * G + 4) + f (6 * G + 5) = _
    omega
theorem sq_len {op : Nat → Nat → Nat → Bool} {td : Nat → Int} {G : Nat} : ∀ (k : Nat) (H : Nat → Nat), ((sqS op td G k H).length : Int) = ccS op td G k H
  | 0, H => by
    have b := td_b (td := td) (H := H) G
    rw [sqS, ccS]
    by_cases c : tdN td H G = 1
    · rw [if_pos c, c]; rfl
    · rw [if_neg c]; show (0 : Int) = _; omega
  | k + 1, H => by
    rw [sqS, len_fm, sm_6, ccS]
    refine sm_c fun g _ => sm_c fun t ht => ?_
    rw [show (6 * g + t) / 6 = g by omega, show (6 * g + t) % 6 = t by omega]
    by_cases c : op g (H g) t = true
    · rw [if_pos c, if_pos c, List.length_map, sq_len k]
    · rw [if_neg c, if_neg c]; rfl
/-- the first row: by the first gift behind which rows are left -/
theorem sq_first {op : Nat → Nat → Nat → Bool} {td : Nat → Int} {G k x : Nat} {H : Nat → Nat} (hx : x < 6 * G) (ho : op (x / 6) (H (x / 6)) (x % 6) = true) (hp : ∀ y, y < x → op (y / 6) (H (y / 6)) (y % 6) = true → ¬ 0 < ccS op td G k (uph H (y / 6) (y % 6))) (hn : 0 < ccS op td G k (uph H (x / 6) (x % 6))) : ∃ s, (sqS op td G k (uph H (x / 6) (x % 6))).head? = some s ∧ (sqS op td G (k + 1) H).head? = some (x :: s) := by
  have l := sq_len (op := op) (td := td) (G := G) k (uph H (x / 6) (x % 6))
  cases e : sqS op td G k (uph H (x / 6) (x % 6)) with
  | nil => rw [e] at l; have : (([] : List (List Nat)).length : Int) = 0 := rfl; omega
  | cons s t =>
    refine ⟨s, rfl, ?_⟩
    rw [sqS, show 6 * G = x + (6 * G - x) by omega, ← List.range'_append_1, List.flatMap_append]
    have z : (List.range' 0 x).flatMap (fun x => if op (x / 6) (H (x / 6)) (x % 6) = true then (sqS op td G k (uph H (x / 6) (x % 6))).map (fun s => x :: s) else []) = [] := by
      rw [List.flatMap_eq_nil_iff]
      intro y hy
      have hy := (List.mem_range'_1.1 hy).2
      by_cases c : op (y / 6) (H (y / 6)) (y % 6) = true
      · have a := hp y (by omega) c
        have b := sq_len (op := op) (td := td) (G := G) k (uph H (y / 6) (y % 6))
        have : sqS op td G k (uph H (y / 6) (y % 6)) = [] := List.length_eq_zero_iff.1 (by omega)
        rw [if_pos c, this]; rfl
      · rw [if_neg c]
    rw [z, List.nil_append, show 6 * G - x = (6 * G - x - 1) + 1 by omega, List.range'_succ, List.flatMap_cons, Nat.zero_add, if_pos ho, e]
    rfl
theorem sq_no {op : Nat → Nat → Nat → Bool} {td : Nat → Int} {G k : Nat} {H : Nat → Nat} (hp : ∀ y, y < 6 * G → op (y / 6) (H (y / 6)) (y % 6) = true → ¬ 0 < ccS op td G k (uph H (y / 6) (y % 6))) : sqS op td G (k + 1) H = [] := by
  rw [sqS, List.flatMap_eq_nil_iff]
  intro y hy
  have hy := (List.mem_range'_1.1 hy).2
  by_cases c : op (y / 6) (H (y / 6)) (y % 6) = true
  · have a := hp y (by omega) c
    have b := sq_len (op := op) (td := td) (G := G) k (uph H (y / 6) (y % 6))
    have : sqS op td G k (uph H (y / 6) (y % 6)) = [] := List.length_eq_zero_iff.1 (by omega)
    rw [if_pos c, this]; rfl
  · rw [if_neg c]
