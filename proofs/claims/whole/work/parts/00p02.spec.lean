/-! what stands: the row r of the reference, its laws lw; how the class's cells c lie beside it -/
def rl (r : Nat → Int) (l k : Int) : Int := r (9 + 6 * l + k).toNat
def rg (r : Nat → Int) (g k : Int) : Int := r (45 + 6 * g + k).toNat
def rd (r : Nat → Int) (a f : Int) : Int := r (141 + 2 * (6 * a + f)).toNat
def rs (r : Nat → Int) (a f : Int) : Int := r (141 + 2 * (6 * a + f) + 1).toNat
def rr (r : Nat → Int) (i k : Int) : Int := r (218 + 4 * i + k).toNat
def rh (r : Nat → Int) (h : Int) : Int := r (213 + h).toNat
def Rw (c r : Nat → Int) : Prop :=
  (∀ k : Int, 0 ≤ k → k ≤ 2 → c k.toNat = r (6 + k).toNat) ∧
  (∀ l k : Int, 0 ≤ l → l ≤ 5 → 0 ≤ k → k ≤ 5 → c (3 + l * 6 + k).toNat = rl r l k) ∧
  (∀ g k : Int, 0 ≤ g → g ≤ 15 → 0 ≤ k → k ≤ 4 → c (39 + g * 5 + k).toNat = rg r g k) ∧
  (∀ a f : Int, 0 ≤ a → a ≤ 5 → 0 ≤ f → f ≤ 5 → c (119 + a * 6 + f).toNat = rd r a f) ∧
  (∀ a f : Int, 0 ≤ a → a ≤ 5 → 0 ≤ f → f ≤ 5 → c (155 + a * 6 + f).toNat = rs r a f) ∧
  (∀ k : Int, 0 ≤ k → k ≤ 4 → c (191 + k).toNat = r k.toNat) ∧ c 196 = r 5 ∧
  (∀ g : Int, 0 ≤ g → g ≤ 15 → c (197 + g).toNat = if g < r 1 then rg r g 5 else -1) ∧
  (∀ h : Int, 0 ≤ h → h ≤ 4 → c (213 + h).toNat = rh r h) ∧
  (∀ i k : Int, 0 ≤ i → i ≤ 11 → 0 ≤ k → k ≤ 3 → c (218 + i * 4 + k).toNat = rr r i k)
def Vr (B : Int) (r : Nat → Int) : Prop :=
  (0 ≤ r 0 ∧ r 0 ≤ 6) ∧ (0 ≤ r 1 ∧ r 1 ≤ 16) ∧ (0 ≤ r 2 ∧ r 2 ≤ 5) ∧ (0 ≤ r 3 ∧ r 3 ≤ 12) ∧ (0 ≤ r 4 ∧ r 4 ≤ 6) ∧ (-1 ≤ r 5 ∧ r 5 < r 4) ∧
  (0 ≤ r 6 ∧ r 6 ≤ 999) ∧ (1 ≤ r 7 ∧ r 7 ≤ 3) ∧ (0 ≤ r 8 ∧ r 8 ≤ 9) ∧
  (∀ l : Int, 0 ≤ l → l ≤ 5 → 0 ≤ rl r l 0 ∧ rl r l 0 ≤ 9999 ∧ 0 ≤ rl r l 1 ∧ rl r l 1 ≤ 99 ∧ 0 ≤ rl r l 2 ∧ rl r l 2 ≤ 1) ∧
  (∀ g : Int, 0 ≤ g → g < r 1 → 0 ≤ rg r g 0 ∧ rg r g 0 < r 0 ∧ 0 ≤ rg r g 1 ∧ rg r g 1 < r 0 ∧ 0 ≤ rg r g 2 ∧ rg r g 2 ≤ 99 ∧ 0 ≤ rg r g 3 ∧ rg r g 3 ≤ 20 ∧ 0 ≤ rg r g 4 ∧ rg r g 4 ≤ B ∧ -1 ≤ rg r g 5 ∧ rg r g 5 < r 0) ∧
  (∀ a f : Int, 0 ≤ a → a ≤ 5 → 0 ≤ f → f ≤ 5 → -1 ≤ rd r a f ∧ rd r a f ≤ 999 ∧ 0 ≤ rs r a f ∧ rs r a f ≤ 999 ∧ (rd r a f ≠ -1 → a < r 0 ∧ f < r 0 ∧ a ≠ f)) ∧
  (∀ h : Int, 0 ≤ h → h < r 2 → 1 ≤ rh r h ∧ rh r h ≤ 9) ∧
  (∀ i : Int, 0 ≤ i → i < r 3 → 0 ≤ rr r i 0 ∧ rr r i 0 < r 0 ∧ 0 ≤ rr r i 1 ∧ rr r i 1 < r 0 ∧ rr r i 0 ≠ rr r i 1 ∧ 1 ≤ rr r i 2 ∧ rr r i 2 ≤ 30 ∧ 0 ≤ rr r i 3 ∧ rr r i 3 ≤ 10)
/-! laws by what they tell -/
abbrev Env : Type := Nat → Int
abbrev Cl : Type := Int × (Env → Bool) × (Env → Option Int)
abbrev Law : Type := Nat × (Nat → Cl)
def tK (g : Nat → Option Int) : Nat → Option Int
  | 0 => none
  | k + 1 => (g k).or (tK g k)
def clT (k : Int) (c : Cl) (e : Env) : Option Int := if c.1 = k ∧ c.2.1 e = true then c.2.2 e else none
def tS (L : Law) (k : Int) (e : Env) : Option Int := tK (fun i => clT k (L.2 i) e) L.1
def evE (r : Nat → Int) (g giver to herald year : Int) : Env := fun j => match j with
  | 0 => g
  | 1 => rg r g 2
  | 2 => rg r g 3
  | 3 => rg r g 4
  | 4 => giver
  | 5 => to
  | 6 => year
  | 7 => herald
  | _ => r 8
def EnvOK (e : Env) : Prop := ∀ j, -1 ≤ e j ∧ e j ≤ 1000000
def cut (m x : Int) : Int := max 0 (min m x)
def tellS (r : Nat → Int) (lw : Nat → Law) (k : Int) (e : Env) : Option Int := if r 5 < 0 then none else tS (lw (r 5).toNat) k e
def worthS (r : Nat → Int) (lw : Nat → Law) (g giver to : Int) : Int := cut 999 ((tellS r lw 0 (evE r g giver to (-1) (r 6))).getD (rg r g 2))
def voiceS (r : Nat → Int) (lw : Nat → Law) (h g : Int) : Int := cut 999 ((tellS r lw 0 (evE r g (-1) (-1) h (r 6))).getD (rg r g 2))
def costS (r : Nat → Int) (lw : Nat → Law) (g to year : Int) : Int := cut 99 ((tellS r lw 1 (evE r g (-1) to (-1) year)).getD (rg r g 3))
def barS (r : Nat → Int) (lw : Nat → Law) (g giver to : Int) : Bool := (tellS r lw 2 (evE r g giver to (-1) (r 6))).isSome
def costsS (r : Nat → Int) (lw : Nat → Law) (l year : Int) : Int := sm (fun g => if rg r g 0 = l then costS r lw g l year else 0) (r 1).toNat
def heldS (r : Nat → Int) (l : Int) : Int := sm (fun g => if rg r g 0 = l then 1 else 0) (r 1).toNat
theorem cut_b {m x : Int} (hm : 0 ≤ m) : 0 ≤ cut m x ∧ cut m x ≤ m := by unfold cut; omega
theorem cut_id {m x : Int} (h : 0 ≤ x) (h2 : x ≤ m) : cut m x = x := by unfold cut; omega
theorem worthS_b (r : Nat → Int) (lw : Nat → Law) (g a b : Int) : 0 ≤ worthS r lw g a b ∧ worthS r lw g a b ≤ 999 := cut_b (by omega)
theorem voiceS_b (r : Nat → Int) (lw : Nat → Law) (h g : Int) : 0 ≤ voiceS r lw h g ∧ voiceS r lw h g ≤ 999 := cut_b (by omega)
theorem costS_b (r : Nat → Int) (lw : Nat → Law) (g a b : Int) : 0 ≤ costS r lw g a b ∧ costS r lw g a b ≤ 99 := cut_b (by omega)
theorem costsS_b {B : Int} {r : Nat → Int} (hV : Vr B r) (lw : Nat → Law) (l y : Int) (n : Nat) (hn : n ≤ 16) : 0 ≤ sm (fun g => if rg r g 0 = l then costS r lw g l y else 0) n ∧ sm (fun g => if rg r g 0 = l then costS r lw g l y else 0) n ≤ 1584 := by
  have h := sm_b (f := fun g : Nat => if rg r g 0 = l then costS r lw g l y else 0) (B := 99) (n := n) (fun k _ => by
    have := costS_b r lw k l y
    split <;> omega)
  omega
theorem evE_ok {B : Int} {r : Nat → Int} (hV : Vr B r) (hB : B ≤ 1000000) {g a b h y : Int} (hg : 0 ≤ g) (hg2 : g < r 1) (ha : -1 ≤ a ∧ a ≤ 9) (hb : -1 ≤ b ∧ b ≤ 9) (hh : -1 ≤ h ∧ h ≤ 9) (hy : 0 ≤ y ∧ y ≤ 2000) : EnvOK (evE r g a b h y) := by
  obtain ⟨v0, v1, v2, v3, v4, v5, v6, v7, v8, v9, v10, -⟩ := hV
  have q := v10 g hg hg2
  intro j
  match j with
  | 0 => show -1 ≤ g ∧ g ≤ 1000000; omega
  | 1 => show -1 ≤ rg r g 2 ∧ rg r g 2 ≤ 1000000; omega
  | 2 => show -1 ≤ rg r g 3 ∧ rg r g 3 ≤ 1000000; omega
  | 3 => show -1 ≤ rg r g 4 ∧ rg r g 4 ≤ 1000000; omega
  | 4 => show -1 ≤ a ∧ a ≤ 1000000; omega
  | 5 => show -1 ≤ b ∧ b ≤ 1000000; omega
  | 6 => show -1 ≤ y ∧ y ≤ 1000000; omega
  | 7 => show -1 ≤ h ∧ h ≤ 1000000; omega
  | n + 8 => show -1 ≤ r 8 ∧ r 8 ≤ 1000000; omega
/-! texts of the class by what they tell -/
def agT (X X' : MX) (t : Nat) : Prop := ∀ o, t ≤ o → o ≤ t + 3 → xK X' o = xK X o ∧ xR X' o = xR X o
def agN (N N' : NN) (t : Nat) : Prop := ∀ o, t ≤ o → o ≤ t + 3 → N' o = N o
def fr27 (o k : Nat) : Prop := o = 27
def frJ (o k : Nat) : Prop := o = 26 ∨ o = 27
def TS (X : MX) (N : NN) (t : Nat) (L : Law) : Prop := 104 ≤ t ∧ L.1 ≤ 12 ∧ ∀ X', agT X X' t → xK X' 26 = (1, 9) → xK X' 27 = (1, 32) → m_isT X' t ∧ ∀ N', agN N N' t →
  f_X8_clauses X' N' t = some (L.1 : Int) ∧ ∀ i : Nat, i < L.1 → f_X8_part X' N' t i 0 = some (256 + (L.2 i).1) ∧ ∀ e, EnvOK e → (∀ j, j < 9 → N' 26 j = e j) →
    Ok (f_X8_isSo X' t 26 27 N' i) (fun o => o.1 = (if (L.2 i).2.1 e then 1 else 0) ∧ Fr fr27 N' o.2) ∧
    ((L.2 i).1 ≠ 2 → Ok (f_X8_sum X' t 26 27 N' i 4) (fun o => o.1 = ((L.2 i).2.2 e).getD (-2000000000) ∧ (L.2 i).2.2 e ≠ some (-2000000000) ∧ Fr fr27 N' o.2)) ∧
    ((L.2 i).1 = 2 → (L.2 i).2.2 e = some 1)
theorem ts_mono {X X' : MX} {N N' : NN} {t : Nat} {L : Law} (h : TS X N t L) (hX : agT X X' t) (hN : agN N N' t) : TS X' N' t L := by
  refine ⟨h.1, h.2.1, fun X2 a k1 k2 => ?_⟩
  have hX2 : agT X X2 t := fun o p q => ⟨(a o p q).1.trans (hX o p q).1, (a o p q).2.trans (hX o p q).2⟩
  obtain ⟨m, q⟩ := h.2.2 X2 hX2 k1 k2
  exact ⟨m, fun N2 b => q N2 fun o p q => (b o p q).trans (hN o p q)⟩
/-- a world of the class -/
def CW (X : MX) (N : NN) (w : Nat) (B : Int) (r : Nat → Int) (lw : Nat → Law) : Prop :=
  Rw (N (w + 1)) r ∧ Vr B r ∧ B ≤ 1000000 ∧ ∀ i : Nat, (i : Int) < r 4 → TS X N (N (w + 2) i).toNat (lw i)
theorem cw_fr {X : MX} {N N' : NN} {w : Nat} {B : Int} {r : Nat → Int} {lw : Nat → Law} (h : CW X N w B r lw) {p : Nat → Nat → Prop} (hf : Fr p N N') (hp : ∀ o k, p o k → o ≠ w + 1 ∧ o ≠ w + 2 ∧ o < 104) : CW X N' w B r lw := by
  obtain ⟨h1, h2, h3, h4⟩ := h
  have e1 : N' (w + 1) = N (w + 1) := fr_of hf _ fun k q => (hp _ k q).1 rfl
  have e2 : N' (w + 2) = N (w + 2) := fr_of hf _ fun k q => (hp _ k q).2.1 rfl
  refine ⟨by rw [e1]; exact h1, h2, h3, fun i hi => ?_⟩
  rw [e2]
  have q := h4 i hi
  refine ts_mono q (fun o _ _ => ⟨rfl, rfl⟩) (fun o a b => fr_of hf _ fun k z => ?_)
  have := (hp _ k z).2.2
  have := q.1
  omega
abbrev m_Sk26 (X : MX) : Prop := xK X 26 = (1, 9) ∧ xK X 27 = (1, 32)
/-! laws of the reference by what they tell -/
def frM1 (o k : Nat) : Prop := o = 83 ∨ (o = 64 ∧ (k = 37 ∨ k = 38 ∨ k = 39))
def frM (o k : Nat) : Prop := o = 81 ∨ o = 83 ∨ (o = 64 ∧ (k = 33 ∨ k = 37 ∨ k = 38 ∨ k = 39))
def RS (i : Nat) (s : Nat → Int) (L : Law) : Prop := L.1 ≤ 12 ∧ s 1 = (L.1 : Int) ∧ (∀ c, c < L.1 → s (2 + 8 * c) = (L.2 c).1) ∧
  ∀ (X : MX) (N' : NN), N' 64 20 = 0 → N' 64 33 = 270 + 900 * (i : Int) → (∀ j, j < 900 → N' 66 (270 + 900 * i + j) = s j) → ∀ e, EnvOK e → (∀ j, j < 9 → N' 81 (j + 1) = e j) → ∀ c, c < L.1 →
    ((L.2 c).1 = 2 → (L.2 c).2.2 e = some 1) ∧
    Ok (f_X12_isSo X N' (270 + 900 * (i : Int) + 2 + 8 * (c : Int))) (fun o => Fr frM1 N' o.2 ∧ o.1 = (if (L.2 c).2.1 e ∧ ((L.2 c).2.2 e).isSome then 1 else 0) ∧ ((L.2 c).2.1 e = true → (L.2 c).1 ≠ 2 → ∀ v, (L.2 c).2.2 e = some v → o.2 64 39 = v))
def MW (N : NN) (B : Int) (r : Nat → Int) (lw : Nat → Law) : Prop :=
  (∀ i, i < 270 → N 66 i = r i) ∧ Vr B r ∧ B ≤ 1000000 ∧ N 64 20 = 0 ∧ ∀ i : Nat, (i : Int) < r 4 → RS i (fun j => N 66 (270 + 900 * i + j)) (lw i)
theorem mw_fr {N N' : NN} {B : Int} {r : Nat → Int} {lw : Nat → Law} (h : MW N B r lw) {p : Nat → Nat → Prop} (hf : Fr p N N') (h1 : ∀ k, ¬ p 66 k) (h2 : ¬ p 64 20) : MW N' B r lw := by
  have e : N' 66 = N 66 := fr_of hf 66 h1
  obtain ⟨a, b, c, d, f⟩ := h
  exact ⟨by rw [e]; exact a, b, c, (hf 64 20 h2).trans d, by rw [e]; exact f⟩
