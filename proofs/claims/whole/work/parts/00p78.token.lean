/-! tokens -/
def lt1 (c : Int) : Bool := decide (97 ≤ c ∧ c ≤ 122)
def dg1 (c : Int) : Bool := decide (48 ≤ c ∧ c ≤ 57)
def bl1 (c : Int) : Bool := decide (c = 32)
def rnE (p : Int → Bool) (tp : Nat → Int) (n : Nat) : Nat → Nat → Nat
  | 0, i => i
  | f + 1, i => if i < n ∧ p (tp i) = true then rnE p tp n f (i + 1) else i
theorem rn_b {p : Int → Bool} {tp : Nat → Int} {n : Nat} : ∀ f i, i ≤ rnE p tp n f i ∧ (i ≤ n → rnE p tp n f i ≤ n)
  | 0, i => ⟨Nat.le_refl _, fun h => h⟩
  | f + 1, i => by
    rw [rnE]
    by_cases c : i < n ∧ p (tp i) = true
    · rw [if_pos c]
      have := rn_b (p := p) (tp := tp) (n := n) f (i + 1)
      exact ⟨by omega, fun _ => this.2 (by omega)⟩
    · rw [if_neg c]; exact ⟨Nat.le_refl _, fun h => h⟩
theorem rn_f {p : Int → Bool} {tp : Nat → Int} {n : Nat} : ∀ f g i, n ≤ f + i → n ≤ g + i → rnE p tp n f i = rnE p tp n g i
  | 0, 0, i, _, _ => rfl
  | 0, g + 1, i, h, _ => by rw [rnE, rnE, if_neg (by omega)]
  | f + 1, 0, i, _, h => by rw [rnE, rnE, if_neg (by omega)]
  | f + 1, g + 1, i, h1, h2 => by
    rw [rnE, rnE]
    by_cases c : i < n ∧ p (tp i) = true
    · rw [if_pos c, if_pos c, rn_f f g (i + 1) (by omega) (by omega)]
    · rw [if_neg c, if_neg c]
theorem rn_s {p : Int → Bool} {tp : Nat → Int} {n i : Nat} (hn : n ≤ 400) (h : i < n) (q : p (tp i) = true) : rnE p tp n 400 i = rnE p tp n 400 (i + 1) := by
  rw [rn_f 400 401 i (by omega) (by omega), rnE, if_pos ⟨h, q⟩]
theorem rn_e {p : Int → Bool} {tp : Nat → Int} {n i : Nat} (h : ¬ (i < n ∧ p (tp i) = true)) : rnE p tp n 400 i = i := by rw [rnE, if_neg h]
theorem rn_in {p : Int → Bool} {tp : Nat → Int} {n : Nat} : ∀ f i k, i ≤ k → k < rnE p tp n f i → p (tp k) = true
  | 0, i, k, h1, h2 => by rw [rnE] at h2; omega
  | f + 1, i, k, h1, h2 => by
    rw [rnE] at h2
    by_cases c : i < n ∧ p (tp i) = true
    · rw [if_pos c] at h2
      by_cases e : k = i
      · rw [e]; exact c.2
      · exact rn_in f (i + 1) k (by omega) h2
    · rw [if_neg c] at h2; omega
def tkE (tp : Nat → Int) (n i : Nat) : Nat := if lt1 (tp i) = true then rnE lt1 tp n 400 (i + 1) else if dg1 (tp i) = true then rnE dg1 tp n 400 (i + 1) else i + 1
def skB (tp : Nat → Int) (n i : Nat) : Nat := rnE bl1 tp n 400 i
def tkS (tp : Nat → Int) (n : Nat) : Nat → Nat
  | 0 => skB tp n 0
  | m + 1 => if tkS tp n m < n then skB tp n (tkE tp n (tkS tp n m)) else n
theorem tkE_b {tp : Nat → Int} {n i : Nat} (h : i < n) : i < tkE tp n i ∧ tkE tp n i ≤ n := by
  unfold tkE
  split
  · have := rn_b (p := lt1) (tp := tp) (n := n) 400 (i + 1); omega
  · split
    · have := rn_b (p := dg1) (tp := tp) (n := n) 400 (i + 1); omega
    · omega
theorem tkS_n {tp : Nat → Int} {n : Nat} : ∀ m, tkS tp n m ≤ n
  | 0 => (rn_b (p := bl1) 400 0).2 (Nat.zero_le _)
  | m + 1 => by
    rw [tkS]
    split
    · rename_i h
      exact (rn_b (p := bl1) 400 _).2 (tkE_b h).2
    · exact Nat.le_refl _
theorem tkS_s {tp : Nat → Int} {n m : Nat} (h : tkS tp n m < n) : tkS tp n m < tkS tp n (m + 1) := by
  rw [tkS, if_pos h]
  have a := tkE_b (tp := tp) h
  have b := (rn_b (p := bl1) (tp := tp) (n := n) 400 (tkE tp n (tkS tp n m))).1
  unfold skB
  omega
theorem tkS_ge {tp : Nat → Int} {n : Nat} : ∀ m, m ≤ tkS tp n m ∨ tkS tp n m = n
  | 0 => Or.inl (Nat.zero_le _)
  | m + 1 => by
    by_cases h : tkS tp n m < n
    · have := tkS_s (tp := tp) h
      have := tkS_ge (tp := tp) (n := n) m
      exact Or.inl (by omega)
    · rw [tkS, if_neg h]; exact Or.inr rfl
theorem tkS_nb {tp : Nat → Int} {n m : Nat} (hn : n ≤ 400) (h : tkS tp n m < n) : tp (tkS tp n m) ≠ 32 := by
  have K : ∀ f i, n ≤ f + i → rnE bl1 tp n f i < n → tp (rnE bl1 tp n f i) ≠ 32 := by
    intro f
    induction f with
    | zero => intro i h1 h2; rw [rnE] at h2; omega
    | succ f ih =>
      intro i h1 h2
      rw [rnE] at h2 ⊢
      by_cases c : i < n ∧ bl1 (tp i) = true
      · rw [if_pos c] at h2 ⊢; exact ih (i + 1) (by omega) h2
      · rw [if_neg c] at h2 ⊢
        intro z
        exact c ⟨h2, decide_eq_true z⟩
  cases m with
  | zero => exact K 400 0 (by omega) h
  | succ m =>
    rw [tkS] at h ⊢
    by_cases c : tkS tp n m < n
    · rw [if_pos c] at h ⊢; exact K 400 _ (by omega) h
    · rw [if_neg c] at h; omega
/-! words and numbers -/
def wS (k : Nat) : Nat := [0, 6, 12, 17, 20, 23, 27, 31, 36, 39, 44, 50, 55, 60, 65, 71, 77, 82, 89, 94, 100, 105, 110, 116, 123].getD k 0
def wL (k : Nat) : Nat := [5, 5, 4, 2, 2, 3, 3, 4, 2, 4, 5, 4, 4, 4, 5, 5, 4, 6, 4, 5, 4, 4, 5, 6, 4].getD k 0
theorem w_tab : ∀ k : Fin 25, (1 ≤ wL k.val ∧ wL k.val ≤ 6) ∧ wS k.val + wL k.val ≤ 127 ∧ (k.val < 24 → wS (k.val + 1) = wS k.val + wL k.val + 1 ∧ m_chr (wS k.val + wL k.val) = 32) ∧ (k.val = 24 → wS k.val + wL k.val = 127) ∧ ∀ j : Fin 6, j.val < wL k.val → 97 ≤ m_chr (wS k.val + j.val) ∧ m_chr (wS k.val + j.val) ≤ 122 := by decide +kernel
def cwF (f : Nat → Int) : Nat → Int
  | 0 => 0
  | j + 1 => cwF f j * 32 + f j - 96
theorem cw_b {f : Nat → Int} : ∀ n, (∀ i, i < n → 97 ≤ f i ∧ f i ≤ 122) → 0 ≤ cwF f n ∧ (0 < n → 0 < cwF f n)
  | 0, _ => ⟨Int.le_refl _, fun h => by omega⟩
  | n + 1, h => by
    have := cw_b n fun i hi => h i (by omega)
    have q := h n (by omega)
    rw [cwF]
    omega
theorem cw_inj {f g : Nat → Int} : ∀ a b, (∀ i, i < a → 97 ≤ f i ∧ f i ≤ 122) → (∀ i, i < b → 97 ≤ g i ∧ g i ≤ 122) → cwF f a = cwF g b → a = b ∧ ∀ i, i < a → f i = g i
  | 0, 0, _, _, _ => ⟨rfl, fun i h => by omega⟩
  | 0, b + 1, _, hg, e => by have := (cw_b (b + 1) hg).2 (by omega); rw [cwF] at e; omega
  | a + 1, 0, hf, _, e => by have := (cw_b (a + 1) hf).2 (by omega); rw [show cwF g 0 = 0 from rfl] at e; omega
  | a + 1, b + 1, hf, hg, e => by
    have h1 := hf a (by omega)
    have h2 := hg b (by omega)
    rw [cwF, cwF] at e
    obtain ⟨i1, i2⟩ := cw_inj a b (fun i hi => hf i (by omega)) (fun i hi => hg i (by omega)) (by omega)
    refine ⟨by omega, fun i hi => ?_⟩
    by_cases c : i = a
    · rw [c, show g a = g b by rw [i1]]; omega
    · exact i2 i (by omega)
def wC (k : Nat) : Int := cwF (fun j => m_chr (wS k + j)) (wL k)
def wCt : List Int := [24627848, 11703827, 67155, 294, 498, 1476, 14836, 239301, 655, 754996, 21279923, 245220, 67173, 365744, 7657646, 7657650, 824370, 274269572, 441828, 7847059, 146885, 394868, 7931182, 284561586, 515236]
theorem wC_tab : ∀ k : Fin 25, wC k.val = wCt.getD k.val 0 := by decide +kernel
theorem wC_inj : ∀ a b : Fin 25, wCt.getD a.val 0 = wCt.getD b.val 0 → a.val = b.val := by decide +kernel
/-- the text from i on, len letters, is word k -/
def wEq (tp : Nat → Int) (i len k : Nat) : Prop := len = wL k ∧ ∀ j, j < len → tp (i + j) = m_chr (wS k + j)
noncomputable def wKd (tp : Nat → Int) (i len : Nat) : Int := @dite _ (∃ k, k < 25 ∧ wEq tp i len k) (Classical.propDecidable _) (fun h => 256 + ((Classical.choose h : Nat) : Int)) (fun _ => -3)
theorem cw_c {f g : Nat → Int} : ∀ n, (∀ i, i < n → f i = g i) → cwF f n = cwF g n
  | 0, _ => rfl
  | n + 1, h => by rw [cwF, cwF, cw_c n fun i hi => h i (by omega), h n (by omega)]
theorem wEq_c {tp : Nat → Int} {i len k : Nat} (h : wEq tp i len k) : wC k = cwF (fun j => tp (i + j)) len := by
  unfold wC
  rw [← h.1]
  exact cw_c len fun j hj => (h.2 j hj).symm
theorem wC_inj' {k k' : Nat} (hk : k < 25) (hk' : k' < 25) (e : wC k = wC k') : k = k' := by
  have t1 : wC k = wCt.getD k 0 := wC_tab ⟨k, hk⟩
  have t2 : wC k' = wCt.getD k' 0 := wC_tab ⟨k', hk'⟩
  exact wC_inj ⟨k, hk⟩ ⟨k', hk'⟩ ((t1.symm.trans e).trans t2)
theorem wEq_u {tp : Nat → Int} {i len k k' : Nat} (hk : k < 25) (hk' : k' < 25) (h : wEq tp i len k) (h' : wEq tp i len k') : k = k' := wC_inj' hk hk' ((wEq_c h).trans (wEq_c h').symm)
theorem wKd_y {tp : Nat → Int} {i len k : Nat} (hk : k < 25) (h : wEq tp i len k) : wKd tp i len = 256 + (k : Int) := by
  have hx : ∃ k, k < 25 ∧ wEq tp i len k := ⟨k, hk, h⟩
  unfold wKd
  rw [dif_pos hx]
  have s := Classical.choose_spec hx
  rw [wEq_u s.1 hk s.2 h]
theorem wKd_n {tp : Nat → Int} {i len : Nat} (h : ∀ k, k < 25 → ¬ wEq tp i len k) : wKd tp i len = -3 := by
  unfold wKd
  rw [dif_neg (fun z => by obtain ⟨k, a, b⟩ := z; exact h k a b)]
theorem wKd_iff {tp : Nat → Int} {i len k : Nat} (hk : k < 25) : wKd tp i len = 256 + (k : Int) ↔ wEq tp i len k := by
  constructor
  · intro h
    by_cases c : ∃ k, k < 25 ∧ wEq tp i len k
    · obtain ⟨k', a, b⟩ := c
      have := wKd_y a b
      have : k' = k := by omega
      rw [← this]; exact b
    · rw [wKd_n (fun k a b => c ⟨k, a, b⟩)] at h
      omega
  · exact wKd_y hk
theorem wKd_b {tp : Nat → Int} {i len : Nat} : wKd tp i len = -3 ∨ (256 ≤ wKd tp i len ∧ wKd tp i len ≤ 280) := by
  by_cases c : ∃ k, k < 25 ∧ wEq tp i len k
  · obtain ⟨k', a, b⟩ := c
    have := wKd_y a b
    exact Or.inr (by omega)
  · exact Or.inl (wKd_n (fun k a b => c ⟨k, a, b⟩))
/-- the word by its letters as a number -/
theorem wEq_code {tp : Nat → Int} {i len k : Nat} (hk : k < 25) (hl : ∀ j, j < len → 97 ≤ tp (i + j) ∧ tp (i + j) ≤ 122) : cwF (fun j => tp (i + j)) len = wC k ↔ wEq tp i len k := by
  have t := w_tab ⟨k, hk⟩
  dsimp only at t
  constructor
  · intro h
    obtain ⟨a, b⟩ := cw_inj len (wL k) hl (fun j hj => t.2.2.2.2 ⟨j, by omega⟩ hj) h
    exact ⟨a, b⟩
  · rintro ⟨a, b⟩
    unfold wC
    rw [← a]
    have c : ∀ n, n ≤ len → cwF (fun j => tp (i + j)) n = cwF (fun j => m_chr (wS k + j)) n := by
      intro n
      induction n with
      | zero => intro _; rfl
      | succ n ih => intro q; rw [cwF, cwF, ih (by omega), b n (by omega)]
    exact c len (Nat.le_refl _)
def nvC (f : Nat → Int) : Nat → Int
  | 0 => 0
  | j + 1 => min (nvC f j * 10 + f j - 48) 1001
def rvM (f : Nat → Int) : Nat → Int
  | 0 => 0
  | j + 1 => if 1000000 < rvM f j then rvM f j else rvM f j * 10 + f j - 48
theorem nv_rv {f : Nat → Int} : ∀ n, (∀ i, i < n → 48 ≤ f i ∧ f i ≤ 57) → nvC f n = min (rvM f n) 1001 ∧ 0 ≤ rvM f n ∧ rvM f n ≤ 10000009
  | 0, _ => ⟨rfl, Int.le_refl _, by show (0 : Int) ≤ _; omega⟩
  | n + 1, h => by
    have ih := nv_rv n fun i hi => h i (by omega)
    have q := h n (by omega)
    rw [nvC, rvM, ih.1]
    split
    · omega
    · omega
/-- kind and number of token m -/
noncomputable def tkK (tp : Nat → Int) (n m : Nat) : Int := if tkS tp n m < n then (if lt1 (tp (tkS tp n m)) = true then wKd tp (tkS tp n m) (tkE tp n (tkS tp n m) - tkS tp n m) else if dg1 (tp (tkS tp n m)) = true then -2 else tp (tkS tp n m)) else -1
def tkN (tp : Nat → Int) (n m : Nat) : Int := nvC (fun j => tp (tkS tp n m + j)) (tkE tp n (tkS tp n m) - tkS tp n m)
theorem tk_let {tp : Nat → Int} {n i : Nat} (h : lt1 (tp i) = true) : ∀ j, j < tkE tp n i - i → 97 ≤ tp (i + j) ∧ tp (i + j) ≤ 122 := by
  intro j hj
  have e : tkE tp n i = rnE lt1 tp n 400 (i + 1) := by unfold tkE; rw [if_pos h]
  rw [e] at hj
  by_cases c : j = 0
  · subst c
    exact of_decide_eq_true h
  · exact of_decide_eq_true (rn_in (p := lt1) (tp := tp) (n := n) 400 (i + 1) (i + j) (by omega) (by omega))
theorem tk_dig {tp : Nat → Int} {n i : Nat} (h0 : lt1 (tp i) = false) (h : dg1 (tp i) = true) : ∀ j, j < tkE tp n i - i → 48 ≤ tp (i + j) ∧ tp (i + j) ≤ 57 := by
  intro j hj
  have e : tkE tp n i = rnE dg1 tp n 400 (i + 1) := by unfold tkE; rw [if_neg (by rw [h0]; decide), if_pos h]
  rw [e] at hj
  by_cases c : j = 0
  · subst c
    exact of_decide_eq_true h
  · exact of_decide_eq_true (rn_in (p := dg1) (tp := tp) (n := n) 400 (i + 1) (i + j) (by omega) (by omega))
theorem tkN_b {tp : Nat → Int} {n m : Nat} (h : tkK tp n m = -2) (hb : ∀ j, j < n → 0 ≤ tp j ∧ tp j ≤ 255) : 0 ≤ tkN tp n m ∧ tkN tp n m ≤ 1001 := by
  unfold tkK at h
  split at h
  · split at h
    · rcases wKd_b (tp := tp) (i := tkS tp n m) (len := tkE tp n (tkS tp n m) - tkS tp n m) with q | q <;> omega
    · rename_i h0 h1
      split at h
      · rename_i h2
        have := nv_rv (f := fun j => tp (tkS tp n m + j)) (tkE tp n (tkS tp n m) - tkS tp n m) (tk_dig (Bool.eq_false_iff.mpr h1) h2)
        unfold tkN
        omega
      · have := hb (tkS tp n m) h0
        omega
  · omega
