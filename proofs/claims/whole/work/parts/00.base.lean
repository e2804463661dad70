/-! numbers of the small machine, loops -/
abbrev MV : Type := Int ⊕ (Int ⊕ Nat)
abbrev NN : Type := Nat → Nat → Int
abbrev MX : Type := (Nat → Nat → Nat) × (Nat → Nat × Nat) × Nat × Nat
abbrev MH : Type := NN × MX
abbrev xR (X : MX) : Nat → Nat → Nat := X.1
abbrev xK (X : MX) : Nat → Nat × Nat := X.2.1
abbrev xn (X : MX) : Nat := X.2.2.1
abbrev xs (X : MX) : Nat := X.2.2.2
def m_w (x : Int) : Int := (Int32.ofInt x).toInt
def m_wl (x : Int) : Int := (Int64.ofInt x).toInt
def m_tens : Nat → Int := fun j => match j with
  | 0 => 1
  | 1 => 10
  | 2 => 100
  | 3 => 1000
  | 4 => 10000
  | _ => 100000
def m_byt : List Int32 := [119, 111, 114, 116, 104, 32, 107, 101, 101, 112, 115, 32, 98, 97, 114, 115, 32, 105, 102, 32, 111, 114, 32, 97, 110, 100, 32, 110, 111, 116, 32, 103, 105, 118, 101, 32, 116, 111, 32, 119, 97, 105, 116, 32, 116, 105, 109, 101, 115, 32, 103, 111, 111, 100, 32, 98, 97, 115, 101, 32, 107, 101, 101, 112, 32, 103, 105, 118, 101, 110, 32, 103, 105, 118, 101, 114, 32, 121, 101, 97, 114, 32, 104, 101, 114, 97, 108, 100, 32, 109, 111, 111, 100, 32, 103, 111, 111, 100, 115, 32, 100, 111, 110, 101, 32, 108, 97, 115, 116, 32, 103, 114, 97, 105, 110, 32, 104, 111, 108, 100, 101, 114, 32, 111, 119, 101, 100]
def m_and (a b : Int) : Int := (Int32.ofInt a &&& Int32.ofInt b).toInt
def m_or (a b : Int) : Int := (Int32.ofInt a ||| Int32.ofInt b).toInt
def m_xor (a b : Int) : Int := (Int32.ofInt a ^^^ Int32.ofInt b).toInt
def m_shl (a b : Int) : Int := (Int32.ofInt a <<< (Int32.ofInt b &&& 31)).toInt
def m_shr (a b : Int) : Int := (Int32.ofInt a >>> (Int32.ofInt b &&& 31)).toInt
def m_ushr (a b : Int) : Int := ((Int32.ofInt a).toUInt32 >>> ((Int32.ofInt b).toUInt32 &&& Int32.toUInt32 31)).toInt32.toInt
def m_div (a b : Int) : Int := (Int32.ofInt a / Int32.ofInt b).toInt
def m_rem (a b : Int) : Int := (Int32.ofInt a - Int32.ofInt a / Int32.ofInt b * Int32.ofInt b).toInt
def m_ldiv (a b : Int) : Int := (Int64.ofInt a / Int64.ofInt b).toInt
def m_lrem (a b : Int) : Int := (Int64.ofInt a - Int64.ofInt a / Int64.ofInt b * Int64.ofInt b).toInt
def m_lcmp (a b : Int) : Int := if a < b then -1 else if a = b then 0 else 1
def m_up (N : NN) (o k : Nat) (x : Int) : NN := fun a b => if a = o then (if b = k then x else N a b) else N a b
def m_max (a b : Int) : Int := if a < b then b else a
def m_min (a b : Int) : Int := if b < a then b else a
def m_cpy (N : NN) (src sp dst dp n : Nat) : NN := fun a b => if a = dst then (if dp ≤ b ∧ b < dp + n then N src (sp + (b - dp)) else N a b) else N a b
def m_chr (i : Nat) : Int := (m_byt.getD i 0).toInt
def lpk {σ τ : Type} (f : σ → Option (σ ⊕ τ)) : Nat → σ → Option τ
  | 0, _ => none
  | k + 1, s => match f s with
    | none => none
    | some (.inl s') => lpk f k s'
    | some (.inr t) => some t
theorem lpk_succ {σ τ : Type} {f : σ → Option (σ ⊕ τ)} : ∀ {k : Nat} {s : σ} {t : τ}, lpk f k s = some t → lpk f (k + 1) s = some t
  | 0, _, _, h => by cases h
  | k + 1, s, t, h => by
    unfold lpk at h ⊢
    cases hf : f s with
    | none => rw [hf] at h; cases h
    | some o =>
      rw [hf] at h
      cases o with
      | inl s' => exact lpk_succ h
      | inr t' => exact h
theorem lpk_mono {σ τ : Type} {f : σ → Option (σ ⊕ τ)} {k k' : Nat} (hk : k ≤ k') {s : σ} {t : τ} (h : lpk f k s = some t) : lpk f k' s = some t := by
  induction hk with
  | refl => exact h
  | step _ ih => exact lpk_succ ih
noncomputable def lp {σ τ : Type} (f : σ → Option (σ ⊕ τ)) (s : σ) : Option τ := @dite _ (∃ k t, lpk f k s = some t) (Classical.propDecidable _) (fun h => some (Classical.choose (Classical.choose_spec h))) (fun _ => none)
theorem lp_of {σ τ : Type} {f : σ → Option (σ ⊕ τ)} {k : Nat} {s : σ} {t : τ} (h : lpk f k s = some t) : lp f s = some t := by
  have he : ∃ k t, lpk f k s = some t := ⟨k, t, h⟩
  unfold lp
  rw [dif_pos he]
  have h2 := Classical.choose_spec (Classical.choose_spec he)
  have a := lpk_mono (Nat.le_max_left k (Classical.choose he)) h
  have b := lpk_mono (Nat.le_max_right k (Classical.choose he)) h2
  rw [a] at b
  exact b.symm
theorem lp_ex {σ τ : Type} {f : σ → Option (σ ⊕ τ)} {s : σ} {t : τ} (h : lp f s = some t) : ∃ k, lpk f k s = some t := by
  unfold lp at h
  by_cases he : ∃ k t, lpk f k s = some t
  · rw [dif_pos he] at h
    have h2 := Classical.choose_spec (Classical.choose_spec he)
    rw [Option.some.inj h] at h2
    exact ⟨_, h2⟩
  · rw [dif_neg he] at h
    cases h
theorem lp_eq {σ τ : Type} (f : σ → Option (σ ⊕ τ)) (s : σ) : lp f s = match f s with
    | none => none
    | some (.inl s') => lp f s'
    | some (.inr t) => some t := by
  cases hf : f s with
  | none =>
    cases hl : lp f s with
    | none => rfl
    | some t =>
      obtain ⟨k, hk⟩ := lp_ex hl
      cases k with
      | zero => cases hk
      | succ k => unfold lpk at hk; rw [hf] at hk; cases hk
  | some o =>
    cases o with
    | inr t => exact lp_of (k := 1) (by unfold lpk; rw [hf])
    | inl s' =>
      show lp f s = lp f s'
      cases hl : lp f s' with
      | some t =>
        obtain ⟨k, hk⟩ := lp_ex hl
        exact lp_of (k := k + 1) (by unfold lpk; rw [hf]; exact hk)
      | none =>
        cases hl2 : lp f s with
        | none => rfl
        | some t =>
          obtain ⟨k, hk⟩ := lp_ex hl2
          cases k with
          | zero => cases hk
          | succ k =>
            unfold lpk at hk; rw [hf] at hk
            rw [lp_of hk] at hl; cases hl
theorem lp_ok {σ τ : Type} {f : σ → Option (σ ⊕ τ)} {P : σ → Prop} {K : τ → Prop} (h : ∀ s o, f s = some o → (∀ s', o = .inl s' → P s') → (∀ t, o = .inr t → K t) → P s) {s : σ} {t : τ} (hl : lp f s = some t) (hK : K t) : P s := by
  obtain ⟨k, hk⟩ := lp_ex hl
  clear hl
  induction k generalizing s with
  | zero => cases hk
  | succ k ih =>
    unfold lpk at hk
    cases hf : f s with
    | none => rw [hf] at hk; cases hk
    | some o =>
      rw [hf] at hk
      refine h s o hf (fun s' e => ?_) (fun t' e => ?_)
      · subst e; exact ih hk
      · subst e; cases hk; exact hK
theorem gd_some {α : Type} {c : Prop} [Decidable c] {a : Option α} {o : α} (h : (if c then a else none) = some o) : c ∧ a = some o := by
  by_cases hc : c
  · rw [if_pos hc] at h; exact ⟨hc, h⟩
  · rw [if_neg hc] at h; cases h
theorem bd_some {α β : Type} {a : Option α} {f : α → Option β} {o : β} (h : Option.bind a f = some o) : ∃ x, a = some x ∧ f x = some o := by
  cases a with
  | none => cases h
  | some x => exact ⟨x, rfl, h⟩
abbrev m_isW (X : MX) (w : Nat) : Prop := (xK X w).1 = 15 ∧ xR X w 0 = w + 1 ∧ xR X w 1 = w + 2 ∧ xK X (w + 1) = (1, 266) ∧ xK X (w + 2) = (4, 6)
abbrev m_isP (X : MX) (w : Nat) : Prop := (xK X w).1 = 9 ∧ xR X w 0 = w + 1 ∧ xR X w 1 = w + 2 ∧ xK X (w + 1) = (1, 3056) ∧ xK X (w + 2) = (1, 16)
abbrev m_isT (X : MX) (w : Nat) : Prop := (xK X w).1 = 13 ∧ xR X w 0 = w + 1 ∧ xR X w 1 = w + 2 ∧ xR X w 2 = w + 3 ∧ (xK X (w + 1)).1 = 1 ∧ (xK X (w + 2)).1 = 1 ∧ (xK X (w + 3)).1 = 1
