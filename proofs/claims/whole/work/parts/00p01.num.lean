/-! numbers, frames, loops: for the pure parts -/
theorem w_id {x : Int} (h1 : -2147483648 ≤ x) (h2 : x ≤ 2147483647) : m_w x = x := Int32.toInt_ofInt_of_le (by simpa using h1) (by show x < 2 ^ 31; omega)
theorem wl_id {x : Int} (h1 : -9223372036854775808 ≤ x) (h2 : x ≤ 9223372036854775807) : m_wl x = x := Int64.toInt_ofInt_of_le (by simpa using h1) (by show x < 2 ^ 63; omega)
theorem oI_n (n : Nat) : Int32.ofInt (n : Int) = nI n := Int32.ofInt_eq_ofNat
theorem oL_n (n : Nat) : Int64.ofInt (n : Int) = lN n := Int64.ofInt_eq_ofNat
theorem s_l5 : ∀ n, n < 32 → ((nI n &&& 31).toBitVec.smod 32).toNat = n := by decide
theorem div_id {a b : Int} (ha : 0 ≤ a) (ha2 : a ≤ 2147483647) (hb : 0 < b) (hb2 : b ≤ 2147483647) : m_div a b = a / b := by
  obtain ⟨n, rfl⟩ := Int.eq_ofNat_of_zero_le ha
  obtain ⟨k, rfl⟩ := Int.eq_ofNat_of_zero_le (Int.le_of_lt hb)
  unfold m_div
  rw [oI_n, oI_n, pk_div (by omega) (by omega) (by omega), nI_toInt (Nat.lt_of_le_of_lt (Nat.div_le_self _ _) (by omega))]
  exact Int.natCast_ediv n k
theorem rem_id {a b : Int} (ha : 0 ≤ a) (ha2 : a ≤ 2147483647) (hb : 0 < b) (hb2 : b ≤ 2147483647) : m_rem a b = a % b := by
  obtain ⟨n, rfl⟩ := Int.eq_ofNat_of_zero_le ha
  obtain ⟨k, rfl⟩ := Int.eq_ofNat_of_zero_le (Int.le_of_lt hb)
  unfold m_rem
  rw [oI_n, oI_n, pk_rem (by omega) (by omega) (by omega), nI_toInt (Nat.lt_of_le_of_lt (Nat.mod_le _ _) (by omega))]
  exact Int.natCast_emod n k
theorem shr_id {a k : Int} (ha : 0 ≤ a) (ha2 : a ≤ 2147483647) (hk : 0 ≤ k) (hk2 : k ≤ 31) : m_shr a k = ((a.toNat / 2 ^ k.toNat : Nat) : Int) := by
  obtain ⟨n, rfl⟩ := Int.eq_ofNat_of_zero_le ha
  obtain ⟨j, rfl⟩ := Int.eq_ofNat_of_zero_le hk
  unfold m_shr
  rw [oI_n, oI_n, pk_shrN (by omega) _ j (s_l5 j (by omega)), nI_toInt (Nat.lt_of_le_of_lt (Nat.div_le_self _ _) (by omega))]
  rfl
theorem and1_id {a : Int} (ha : 0 ≤ a) (ha2 : a ≤ 2147483647) : m_and a 1 = a % 2 := by
  obtain ⟨n, rfl⟩ := Int.eq_ofNat_of_zero_le ha
  unfold m_and
  rw [oI_n, show Int32.ofInt 1 = (1 : Int32) from rfl, pk_andN (by omega) (m := 1) 1 (by decide), nI_toInt (by omega)]
  simp
/-- bit k of s -/
def bit (s k : Int) : Int := ((s.toNat / 2 ^ k.toNat % 2 : Nat) : Int)
theorem bit_01 (s k : Int) : bit s k = 0 ∨ bit s k = 1 := by unfold bit; omega
theorem bit_id {s k : Int} (ha : 0 ≤ s) (ha2 : s ≤ 2147483647) (hk : 0 ≤ k) (hk2 : k ≤ 31) : m_and (m_shr s k) 1 = bit s k := by
  rw [shr_id ha ha2 hk hk2]
  have h : s.toNat / 2 ^ k.toNat ≤ s.toNat := Nat.div_le_self _ _
  unfold bit
  generalize s.toNat / 2 ^ k.toNat = q at h ⊢
  rw [and1_id (by omega) (by omega)]
  omega
theorem shl1_id {k : Int} (hk : 0 ≤ k) (hk2 : k ≤ 30) : m_shl 1 k = ((2 ^ k.toNat : Nat) : Int) := by
  obtain ⟨j, rfl⟩ := Int.eq_ofNat_of_zero_le hk
  have hp : 2 ^ j ≤ 2 ^ 30 := Nat.pow_le_pow_right (by omega) (by omega)
  unfold m_shl
  rw [show Int32.ofInt 1 = nI 1 from rfl, oI_n, pk_shlN _ j (s_l5 j (by omega)) (by omega), nI_toInt (by omega)]
  simp
theorem max_id (a b : Int) : m_max a b = max a b := by unfold m_max; split <;> omega
theorem min_id (a b : Int) : m_min a b = min a b := by unfold m_min; split <;> omega
theorem lcmp_lt {a b : Int} : m_lcmp a b < 0 ↔ a < b := by unfold m_lcmp; split <;> (try split) <;> omega
theorem lcmp_gt {a b : Int} : 0 < m_lcmp a b ↔ b < a := by unfold m_lcmp; split <;> (try split) <;> omega
theorem lcmp_eq {a b : Int} : m_lcmp a b = 0 ↔ a = b := by unfold m_lcmp; split <;> (try split) <;> omega
/-! the heap -/
theorem up_s {N : NN} {o k : Nat} {x : Int} : m_up N o k x o k = x := by simp [m_up]
theorem up_o {N : NN} {o k o' k' : Nat} {x : Int} (h : o' ≠ o) : m_up N o k x o' k' = N o' k' := by simp [m_up, h]
theorem up_k {N : NN} {o k k' : Nat} {x : Int} (h : k' ≠ k) : m_up N o k x o k' = N o k' := by simp [m_up, h]
theorem up_a {N : NN} {o k k' : Nat} {x : Int} : m_up N o k x o k' = if k' = k then x else N o k' := by simp [m_up]
theorem up_of {N : NN} {o k o' : Nat} {x : Int} (h : o' ≠ o) : m_up N o k x o' = N o' := by funext k'; exact up_o h
def Fr (p : Nat → Nat → Prop) (N N' : NN) : Prop := ∀ o k, ¬ p o k → N' o k = N o k
theorem fr_rfl {p : Nat → Nat → Prop} {N : NN} : Fr p N N := fun _ _ _ => Eq.refl _
theorem fr_tr {p : Nat → Nat → Prop} {N N' N'' : NN} (h : Fr p N N') (h' : Fr p N' N'') : Fr p N N'' := fun o k q => (h' o k q).trans (h o k q)
theorem fr_mono {p q : Nat → Nat → Prop} {N N' : NN} (h : Fr p N N') (hs : ∀ o k, p o k → q o k) : Fr q N N' := fun o k n => h o k fun a => n (hs o k a)
theorem fr_up {p : Nat → Nat → Prop} {N N' : NN} (h : Fr p N N') {o k : Nat} {x : Int} (hp : p o k) : Fr p N (m_up N' o k x) := by
  intro a b n
  rw [← h a b n]
  by_cases ha : a = o
  · subst ha
    by_cases hb : b = k
    · subst hb; exact (n hp).elim
    · exact up_k hb
  · exact up_o ha
theorem fr_of {p : Nat → Nat → Prop} {N N' : NN} (h : Fr p N N') (o : Nat) (hp : ∀ k, ¬ p o k) : N' o = N o := funext fun k => h o k (hp k)
/-! what goes on -/
def Ok {α : Type} (x : Option α) (Q : α → Prop) : Prop := ∃ a, x = some a ∧ Q a
theorem ok_mono {α : Type} {x : Option α} {P Q : α → Prop} (h : Ok x P) (hq : ∀ a, P a → Q a) : Ok x Q := by obtain ⟨a, e, p⟩ := h; exact ⟨a, e, hq a p⟩
theorem ok_bind {α β : Type} {x : Option α} {f : α → Option β} {P : α → Prop} {Q : β → Prop} (h : Ok x P) (k : ∀ a, P a → Ok (f a) Q) : Ok (Option.bind x f) Q := by
  obtain ⟨a, e, p⟩ := h
  rw [e]
  exact k a p
theorem ok_bd {α β : Type} {x : Option α} {a : α} {f : α → Option β} {Q : β → Prop} (h : x = some a) (k : Ok (f a) Q) : Ok (Option.bind x f) Q := by rw [h]; exact k
theorem ok_ret {α : Type} {a : α} {Q : α → Prop} (h : Q a) : Ok (some a) Q := ⟨a, Eq.refl _, h⟩
theorem ok_gd {α : Type} {c : Prop} [Decidable c] {a : Option α} {Q : α → Prop} (hc : c) (h : Ok a Q) : Ok (if c then a else none) Q := by rw [if_pos hc]; exact h
theorem ok_ite {α : Type} {c : Prop} [Decidable c] {a b : Option α} {Q : α → Prop} (h1 : c → Ok a Q) (h2 : ¬ c → Ok b Q) : Ok (if c then a else b) Q := by
  by_cases hc : c
  · rw [if_pos hc]; exact h1 hc
  · rw [if_neg hc]; exact h2 hc
theorem ok_pos {α : Type} {c : Prop} [Decidable c] {a b : Option α} {Q : α → Prop} (hc : c) (h : Ok a Q) : Ok (if c then a else b) Q := by rw [if_pos hc]; exact h
theorem ok_neg {α : Type} {c : Prop} [Decidable c] {a b : Option α} {Q : α → Prop} (hc : ¬ c) (h : Ok b Q) : Ok (if c then a else b) Q := by rw [if_neg hc]; exact h
theorem ok_eq {α : Type} {x : Option α} {Q : α → Prop} (h : Ok x Q) : ∃ a, x = some a ∧ Q a := h
theorem gdp {α : Type} {c : Prop} [Decidable c] {a : Option α} (h : c) : (if c then a else none) = a := if_pos h
/-! loops -/
theorem lp_next {σ τ : Type} {f : σ → Option (σ ⊕ τ)} {s s' : σ} (h : f s = some (.inl s')) : lp f s = lp f s' := by rw [lp_eq, h]
theorem lp_end {σ τ : Type} {f : σ → Option (σ ⊕ τ)} {s : σ} {t : τ} (h : f s = some (.inr t)) : lp f s = some t := by rw [lp_eq, h]
/-- a loop with a measure -/
theorem ok_lp {σ τ : Type} {f : σ → Option (σ ⊕ τ)} (I : σ → Prop) (μ : σ → Nat) {Q : τ → Prop}
    (step : ∀ s, I s → Ok (f s) (fun o => match o with | .inl s' => I s' ∧ μ s' < μ s | .inr t => Q t)) {s : σ} (h : I s) : Ok (lp f s) Q := by
  have H : ∀ n s, μ s < n → I s → Ok (lp f s) Q := by
    intro n
    induction n with
    | zero => intro s q; omega
    | succ n ih =>
      intro s q hI
      obtain ⟨o, e, p⟩ := step s hI
      cases o with
      | inl s' => rw [lp_next e]; exact ih s' (by have := p.2; omega) p.1
      | inr t => rw [lp_end e]; exact ⟨t, Eq.refl _, p⟩
  exact H (μ s + 1) s (by omega) h
/-- a loop that counts up: I i s at the head with counter i; it may end early -/
theorem ok_up {σ τ : Type} {f : σ → Option (σ ⊕ τ)} (I : Int → σ → Prop) (n : Int) {Q : τ → Prop} {i0 : Int}
    (step : ∀ i s, i0 ≤ i → i < n → I i s → Ok (f s) (fun o => match o with | .inl s' => I (i + 1) s' | .inr t => Q t))
    (fin : ∀ s, I n s → Ok (f s) (fun o => match o with | .inl _ => False | .inr t => Q t)) {s : σ} (h0 : i0 ≤ n) (h : I i0 s) : Ok (lp f s) Q := by
  have H : ∀ k : Nat, ∀ i s, i0 ≤ i → i ≤ n → (n - i).toNat ≤ k → I i s → Ok (lp f s) Q := by
    intro k
    induction k with
    | zero =>
      intro i s h1 h2 h3 hI
      have e : i = n := by omega
      subst e
      obtain ⟨o, e, p⟩ := fin s hI
      cases o with
      | inl s' => exact p.elim
      | inr t => rw [lp_end e]; exact ⟨t, Eq.refl _, p⟩
    | succ k ih =>
      intro i s h1 h2 h3 hI
      by_cases hn : i = n
      · subst hn
        obtain ⟨o, e, p⟩ := fin s hI
        cases o with
        | inl s' => exact p.elim
        | inr t => rw [lp_end e]; exact ⟨t, Eq.refl _, p⟩
      · obtain ⟨o, e, p⟩ := step i s h1 (by omega) hI
        cases o with
        | inl s' => rw [lp_next e]; exact ih (i + 1) s' (by omega) (by omega) (by omega) p
        | inr t => rw [lp_end e]; exact ⟨t, Eq.refl _, p⟩
  exact H (n - i0).toNat i0 s (by omega) h0 (by omega) h
/-! sums -/
def sm (f : Nat → Int) : Nat → Int
  | 0 => 0
  | k + 1 => sm f k + f k
theorem sm_0 (f : Nat → Int) : sm f 0 = 0 := rfl
theorem sm_s (f : Nat → Int) (k : Nat) : sm f (k + 1) = sm f k + f k := rfl
theorem sm_b {f : Nat → Int} {B : Int} {n : Nat} (h : ∀ k, k < n → 0 ≤ f k ∧ f k ≤ B) : 0 ≤ sm f n ∧ sm f n ≤ n * B := by
  induction n with
  | zero => exact ⟨Int.le_refl _, by simp [sm]⟩
  | succ n ih =>
    have a := ih fun k hk => h k (by omega)
    have b := h n (by omega)
    rw [sm_s]
    have e : ((n + 1 : Nat) : Int) * B = n * B + B := by rw [Int.natCast_add, Int.add_mul]; simp
    omega
theorem sm_c {f g : Nat → Int} {n : Nat} (h : ∀ k, k < n → f k = g k) : sm f n = sm g n := by
  induction n with
  | zero => rfl
  | succ n ih => rw [sm_s, sm_s, ih fun k hk => h k (by omega), h n (by omega)]
