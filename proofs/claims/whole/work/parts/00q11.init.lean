/-! what stands when both are made -/
def eqz : List Nat → List Nat → Bool
  | [], l' => l'.all (fun x => x == 0)
  | a :: l, l' => a == l'.headD 0 && eqz l (l'.drop 1)
theorem eqz_getD : ∀ (l l' : List Nat) (k : Nat), eqz l l' = true → l.getD k 0 = l'.getD k 0
  | [], l', k, h => by
    unfold eqz at h
    show 0 = l'.getD k 0
    rw [List.getD_eq_getElem?_getD]
    by_cases hk : k < l'.length
    · rw [List.getElem?_eq_getElem hk]
      have := List.all_eq_true.mp h _ (List.getElem_mem hk)
      exact (eq_of_beq this).symm
    · rw [List.getElem?_eq_none (by omega)]; rfl
  | a :: l, l', 0, h => by
    unfold eqz at h
    rw [Bool.and_eq_true] at h
    have e := eq_of_beq h.1
    rw [show (a :: l).getD 0 0 = a from rfl, e]
    cases l' <;> rfl
  | a :: l, l', k + 1, h => by
    unfold eqz at h
    rw [Bool.and_eq_true] at h
    have e := eqz_getD l (l'.drop 1) k h.2
    rw [getD_drop1] at e
    exact e
theorem lX_n {KL : List (Nat × Nat)} {RL : List (List Nat)} {s : Nat} : xn (lX KL RL s) = KL.length := rfl
theorem lX_sk {KL : List (Nat × Nat)} {RL : List (List Nat)} {s : Nat} (hn : KL.length = 104) (hK : KL = SKl) (hR : ∀ o, o < 104 → eqz (RL.getD o []) (SRl.getD o []) = true) : m_Sk (lX KL RL s) := by
  refine ⟨by rw [lX_n, hn]; exact Nat.le_refl _, fun o _ => ?_, fun o k ho => eqz_getD _ _ k (hR o ho)⟩
  subst hK
  rfl
theorem lX_z {KL : List (Nat × Nat)} {RL : List (List Nat)} {s : Nat} : ∀ o, xn (lX KL RL s) ≤ o → (xK (lX KL RL s) o).1 = 0 := by
  intro o ho
  rw [lX_n] at ho
  show (KL.getD o (0, 0)).1 = 0
  rw [List.getD_eq_getElem?_getD, List.getElem?_eq_none ho]
  rfl
abbrev XA : MX := lX KLc_104 RLc_205 45387
theorem XA_K : KLc_104 = SKl := by decide +kernel
theorem XA_R : ∀ o, o < 104 → eqz (RLc_205.getD o []) (SRl.getD o []) = true := by decide +kernel
theorem XA_Sk : m_Sk XA := lX_sk kl_104 XA_K XA_R
theorem XA_z : ∀ o, xn XA ≤ o → (xK XA o).1 = 0 := lX_z
theorem XA_n : xn XA = 104 := lX_n.trans kl_104
def wcA : Nat → Int := fun b => if 197 ≤ b ∧ b < 213 then -1 else if 119 ≤ b ∧ b < 155 then -1 else if b = 196 then -1 else if b = 1 then 1 else 0
def rA : Nat → Int := fun j => if 141 ≤ j ∧ j < 141 + 2 * 36 ∧ (j - 141) % 2 = 0 then -1 else if j = 7 then 1 else if j = 5 then -1 else 0
def cnA : Nat → Int := fun k => if k = 8 ∨ k = 9 then -1 else 0
def lwA : Nat → Law := fun _ => (0, fun _ => (0, fun _ => false, fun _ => none))
def unA : Un := (0, fun _ _ => 0, fun _ => 0)
def tpA : Tp := (0, fun _ => 0)
theorem NA_5 : Nc_48 5 = wcA := rfl
theorem NA_31 : Nc_48 31 = wcA := rfl
theorem NA_66 : Nc_48 66 = rA := rfl
theorem rA_0 {j : Nat} (h : ¬ (141 ≤ j ∧ j < 213 ∧ (j - 141) % 2 = 0)) (h7 : j ≠ 7) (h5 : j ≠ 5) : rA j = 0 := by
  unfold rA
  rw [if_neg (by omega), if_neg h7, if_neg h5]
theorem rA_1 {j : Nat} (h : 141 ≤ j ∧ j < 213 ∧ (j - 141) % 2 = 0) : rA j = -1 := by
  unfold rA
  rw [if_pos (by omega)]
theorem wcA_0 {b : Nat} (h1 : ¬ (196 ≤ b ∧ b < 213)) (h2 : ¬ (119 ≤ b ∧ b < 155)) (h3 : b ≠ 1) : wcA b = 0 := by
  unfold wcA
  rw [if_neg (by omega), if_neg h2, if_neg (by omega), if_neg h3]
theorem wcA_1 {b : Nat} (h : (196 ≤ b ∧ b < 213) ∨ (119 ≤ b ∧ b < 155)) : wcA b = -1 := by
  unfold wcA
  by_cases h1 : 197 ≤ b ∧ b < 213
  · rw [if_pos h1]
  · rw [if_neg h1]
    by_cases h2 : 119 ≤ b ∧ b < 155
    · rw [if_pos h2]
    · rw [if_neg h2, if_pos (by omega)]
theorem rwA : Rw wcA rA := by
  have r1 : rA 1 = 0 := rfl
  refine ⟨fun k h1 h2 => ?_, fun l k a b c d => ?_, fun g k a b c d => ?_, fun x f a b c d => ?_, fun x f a b c d => ?_, fun k h1 h2 => ?_, rfl, fun g h1 h2 => ?_, fun h h1 h2 => ?_, fun i k a b c d => ?_⟩
  · by_cases e : k = 1
    · subst e; rfl
    · rw [wcA_0 (by omega) (by omega) (by omega), rA_0 (by omega) (by omega) (by omega)]
  · unfold rl
    rw [wcA_0 (by omega) (by omega) (by omega), rA_0 (by omega) (by omega) (by omega)]
  · unfold rg
    rw [wcA_0 (by omega) (by omega) (by omega), rA_0 (by omega) (by omega) (by omega)]
  · unfold rd
    rw [wcA_1 (by omega), rA_1 (by omega)]
  · unfold rs
    rw [wcA_0 (by omega) (by omega) (by omega), rA_0 (by omega) (by omega) (by omega)]
  · rw [wcA_0 (by omega) (by omega) (by omega), rA_0 (by omega) (by omega) (by omega)]
  · rw [r1, if_neg (by omega), wcA_1 (by omega)]
  · unfold rh
    rw [wcA_0 (by omega) (by omega) (by omega), rA_0 (by omega) (by omega) (by omega)]
  · unfold rr
    rw [wcA_0 (by omega) (by omega) (by omega), rA_0 (by omega) (by omega) (by omega)]
theorem vrA {B : Int} (hB : 0 ≤ B) : Vr B rA := by
  have r0 : rA 0 = 0 := rfl
  have r1 : rA 1 = 0 := rfl
  have r2 : rA 2 = 0 := rfl
  have r3 : rA 3 = 0 := rfl
  have r4 : rA 4 = 0 := rfl
  have r5 : rA 5 = -1 := rfl
  have r6 : rA 6 = 0 := rfl
  have r7 : rA 7 = 1 := rfl
  have r8 : rA 8 = 0 := rfl
  refine ⟨by omega, by omega, by omega, by omega, by omega, by omega, by omega, by omega, by omega, fun l a b => ?_, fun g a b => by omega, fun x f a b c d => ?_, fun h a b => by omega, fun i a b => by omega⟩
  · unfold rl
    rw [rA_0 (by omega) (by omega) (by omega), rA_0 (by omega) (by omega) (by omega), rA_0 (by omega) (by omega) (by omega)]
    omega
  · unfold rd rs
    rw [rA_1 (by omega), rA_0 (by omega) (by omega) (by omega)]
    exact ⟨by omega, by omega, by omega, by omega, fun h => absurd rfl h⟩
theorem cinvA : CInv XA Nc_48 0 (rA, lwA) (fun _ => none) unA tpA cnA rA := by
  have r4 : rA 4 = 0 := rfl
  refine ⟨⟨by show Rw (Nc_48 5) rA; rw [NA_5]; exact rwA, vrA (by omega), by omega, fun i hi => ?_⟩, fun i hi => Or.inl rfl, fun k hk => ?_, ⟨rfl, by decide, by decide, fun i hi => absurd hi (Nat.not_lt_zero _)⟩, ⟨rfl, fun j hj => absurd hj (Nat.not_lt_zero _)⟩, ⟨rfl, fun k k1 k2 => ?_, rfl, rfl, rfl⟩, ⟨by rw [NA_31]; exact rwA, vrA (by omega)⟩⟩
  · have hi' : (i : Int) < rA 4 := hi
    omega
  · match k, hk with
    | 0, _ => rfl
    | 1, _ => rfl
  · show (0 : Int) = cnA k
    unfold cnA
    rw [if_neg (by omega)]
theorem minvA : MInv Nc_48 0 (rA, lwA) (fun _ => none) unA tpA cnA rA := by
  have r0 : rA 0 = 0 := rfl
  have r4 : rA 4 = 0 := rfl
  refine ⟨⟨fun i hi => by rw [NA_66], vrA (by omega), by omega, rfl, fun i hi => ?_⟩, fun k hk => ?_, ⟨rfl, fun i hi => absurd hi (Nat.not_lt_zero _)⟩, ⟨rfl, fun j hj => absurd hj (Nat.not_lt_zero _)⟩, ⟨rfl, fun k k1 k2 => ?_, rfl, rfl, rfl⟩, ⟨rfl, fun l hl => ?_⟩, ⟨rfl, rfl, rfl, rfl, rfl, rfl, rfl, rfl, rfl, rfl, rfl, rfl, rfl, rfl, rfl, rfl⟩, ⟨Nat.zero_le _, fun i hi => absurd hi (Nat.not_lt_zero _)⟩, ⟨Nat.zero_le _, fun j hj => absurd hj (Nat.not_lt_zero _)⟩⟩
  · have hi' : (i : Int) < rA 4 := hi
    omega
  · match k, hk with
    | 0, _ => rfl
    | 1, _ => rfl
  · show (0 : Int) = cnA k
    unfold cnA
    rw [if_neg (by omega)]
  · have hl' : (l : Int) < rA 0 := hl
    omega
theorem invA : Inv XA Nc_48 0 := ⟨xok_sk XA_Sk, (rA, lwA), fun _ => none, unA, tpA, cnA, rA, cinvA, minvA⟩
