/-! what holds between two calls: CI.. of the class, MI.. of the reference, both over one picture -/
abbrev Wd : Type := (Nat → Int) × (Nat → Law)
abbrev Un : Type := Nat × (Nat → Nat → Int) × (Nat → Int)
abbrev Tp : Type := Nat × (Nat → Int)
def LWF (X : MX) (N : NN) (w : Nat) : Prop := ∀ i, i < 6 → (N (w + 2) i).toNat = 0 ∨ (xK X (N (w + 2) i).toNat).1 = 13
def CIm (X : MX) (N : NN) (B : Int) (im : Nat → Option Wd) : Prop := ∀ k, k < 2 → match im k with
  | none => N (7 + 3 * k) 2 = 0
  | some q => N (7 + 3 * k) 2 = 1 ∧ CW X N (7 + 3 * k) B q.1 q.2 ∧ LWF X N (7 + 3 * k)
def MIm (N : NN) (B : Int) (im : Nat → Option Wd) : Prop := ∀ k, k < 2 → match im k with
  | none => N 68 k = 0
  | some q => N 68 k = 1 ∧ (∀ j, j < 270 → N 67 (5670 * k + j) = q.1 j) ∧ ∀ i : Nat, (i : Int) < q.1 4 → RS i (fun j => N 67 (5670 * k + (270 + 900 * i + j))) (q.2 i)
def Ru (c r : Nat → Int) : Prop :=
  (∀ k : Int, 0 ≤ k → k ≤ 2 → c k.toNat = r (6 + k).toNat) ∧
  (∀ l k : Int, 0 ≤ l → l ≤ 5 → 0 ≤ k → k ≤ 5 → c (3 + l * 6 + k).toNat = rl r l k) ∧
  (∀ g k : Int, 0 ≤ g → g ≤ 15 → 0 ≤ k → k ≤ 4 → c (39 + g * 5 + k).toNat = rg r g k) ∧
  (∀ a f : Int, 0 ≤ a → a ≤ 5 → 0 ≤ f → f ≤ 5 → c (119 + a * 6 + f).toNat = rd r a f) ∧
  (∀ a f : Int, 0 ≤ a → a ≤ 5 → 0 ≤ f → f ≤ 5 → c (155 + a * 6 + f).toNat = rs r a f)
def slot (x : Int) (n i : Nat) : Nat := (x.toNat + 16 - n + i) % 16
def CUn (N : NN) (un : Un) : Prop := N 13 3 = (un.1 : Int) ∧ 0 ≤ N 13 2 ∧ N 13 2 ≤ 15 ∧ ∀ i, i < un.1 → Ru (fun j => N 14 (191 * slot (N 13 2) un.1 i + j)) (un.2.1 i) ∧ N 15 (slot (N 13 2) un.1 i) = un.2.2 i
def MUn (N : NN) (un : Un) : Prop := N 64 8 = (un.1 : Int) ∧ ∀ i, i < un.1 → (∀ j, j < 270 → N 69 (270 * i + j) = un.2.1 i j) ∧ N 70 i = un.2.2 i
def UV (B : Int) (r : Nat → Int) (un : Un) : Prop := un.1 ≤ 16 ∧ ∀ i, i < un.1 → Vr B (un.2.1 i) ∧ un.2.1 i 0 = r 0 ∧ un.2.1 i 1 = r 1 ∧ un.2.1 i 7 = r 7 ∧ un.2.1 i 8 = r 8 ∧ 0 ≤ un.2.2 i ∧ un.2.2 i ≤ 1
def CTp (N : NN) (tp : Tp) : Prop := N 16 5 = (tp.1 : Int) ∧ ∀ j, j < tp.1 → N 17 j = tp.2 j
def MTp (N : NN) (tp : Tp) : Prop := N 64 13 = (tp.1 : Int) ∧ ∀ j, j < tp.1 → N 73 j = tp.2 j
def TV (tp : Tp) : Prop := tp.1 ≤ 400 ∧ ∀ j, j < tp.1 → 0 ≤ tp.2 j ∧ tp.2 j ≤ 255
def CCn (N : NN) (cn : Nat → Int) : Prop := N 3 13 = cn 0 ∧ (∀ k, 1 ≤ k → k ≤ 6 → N 63 k = cn k) ∧ N 3 14 = cn 7 ∧ N 16 6 = cn 8 ∧ N 33 5 = cn 9
def MCn (N : NN) (cn : Nat → Int) : Prop := N 64 1 = cn 0 ∧ (∀ k, 1 ≤ k → k ≤ 6 → N 65 k = cn k) ∧ N 64 11 = cn 7 ∧ N 64 18 = cn 8 ∧ N 64 68 = cn 9
def CDr (N : NN) (rp : Nat → Int) : Prop := Rw (N 31) rp ∧ Vr 1000000 rp
def MDr (N : NN) (rp : Nat → Int) : Prop := N 64 72 = rp 0 ∧ ∀ l : Nat, (l : Int) < rp 0 → (∀ k : Nat, k < 6 → N 103 (7 * l + k) = rl rp l k) ∧ N 103 (7 * l + 6) = heldS rp l
def MKn (N : NN) : Prop := N 79 0 = 245220 ∧ N 79 1 = 67173 ∧ N 79 2 = 365744 ∧ N 79 3 = 7657646 ∧ N 79 4 = 7657650 ∧ N 79 5 = 655 ∧ N 79 6 = 824370 ∧ N 79 7 = 274269572 ∧ N 79 8 = 441828 ∧
  N 80 0 = 824370 ∧ N 80 1 = 7847059 ∧ N 80 2 = 146885 ∧ N 80 3 = 394868 ∧ N 80 4 = 7931182 ∧ N 80 5 = 284561586 ∧ N 80 6 = 515236
def CInv (X : MX) (N : NN) (B : Int) (q : Wd) (im : Nat → Option Wd) (un : Un) (tp : Tp) (cn rp : Nat → Int) : Prop :=
  CW X N 4 B q.1 q.2 ∧ LWF X N 4 ∧ CIm X N B im ∧ CUn N un ∧ CTp N tp ∧ CCn N cn ∧ CDr N rp
def MInv (N : NN) (B : Int) (q : Wd) (im : Nat → Option Wd) (un : Un) (tp : Tp) (cn rp : Nat → Int) : Prop :=
  MW N B q.1 q.2 ∧ MIm N B im ∧ MUn N un ∧ MTp N tp ∧ MCn N cn ∧ MDr N rp ∧ MKn N ∧ UV B q.1 un ∧ TV tp
/-- cells that the class keeps from call to call -/
def pC (o k : Nat) : Prop := o = 3 ∨ (4 ≤ o ∧ o ≤ 15) ∨ (o = 16 ∧ (k = 5 ∨ k = 6)) ∨ o = 17 ∨ (30 ≤ o ∧ o ≤ 32) ∨ (o = 33 ∧ k = 5) ∨ o = 63 ∨ 104 ≤ o
def pM (o k : Nat) : Prop := (o = 64 ∧ (k = 1 ∨ k = 8 ∨ k = 11 ∨ k = 13 ∨ k = 18 ∨ k = 20 ∨ k = 68 ∨ k = 72)) ∨ (65 ≤ o ∧ o ≤ 68) ∨ (o = 69 ∧ k < 4320) ∨ o = 70 ∨ o = 73 ∨ o = 79 ∨ o = 80 ∨ o = 103
section INV
variable {X : MX} {N N' : NN} {B : Int} {q : Wd} {im : Nat → Option Wd} {un : Un} {tp : Tp} {cn rp : Nat → Int}
theorem cw_eq {w : Nat} {r : Nat → Int} {lw : Nat → Law} (h : CW X N w B r lw) (h1 : N' (w + 1) = N (w + 1)) (h2 : N' (w + 2) = N (w + 2)) (h3 : ∀ o, 104 ≤ o → N' o = N o) : CW X N' w B r lw := by
  obtain ⟨a, b, c, d⟩ := h
  refine ⟨by rw [h1]; exact a, b, c, fun i hi => ?_⟩
  rw [h2]
  have z := d i hi
  exact ts_mono z (fun o _ _ => ⟨rfl, rfl⟩) (fun o p _ => h3 o (by have := z.1; omega))
theorem lwf_eq {w : Nat} (h : LWF X N w) (h2 : N' (w + 2) = N (w + 2)) : LWF X N' w := by unfold LWF; rw [h2]; exact h
theorem cim_eq (h : CIm X N B im) (hf : ∀ o, 7 ≤ o → o ≤ 12 → N' o = N o) (h3 : ∀ o, 104 ≤ o → N' o = N o) : CIm X N' B im := by
  intro k hk
  have z := h k hk
  cases hi : im k with
  | none => rw [hi] at z; exact (congrFun (hf _ (by omega) (by omega)) 2).trans z
  | some p =>
    rw [hi] at z
    exact ⟨(congrFun (hf _ (by omega) (by omega)) 2).trans z.1, cw_eq z.2.1 (hf _ (by omega) (by omega)) (hf _ (by omega) (by omega)) h3, lwf_eq z.2.2 (hf _ (by omega) (by omega))⟩
theorem mim_eq (h : MIm N B im) (h1 : N' 67 = N 67) (h2 : N' 68 = N 68) : MIm N' B im := by unfold MIm; rw [h1, h2]; exact h
theorem mw_eq {r : Nat → Int} {lw : Nat → Law} (h : MW N B r lw) (h1 : N' 66 = N 66) (h2 : N' 64 20 = N 64 20) : MW N' B r lw := by
  obtain ⟨a, b, c, d, e⟩ := h
  exact ⟨by rw [h1]; exact a, b, c, h2.trans d, by rw [h1]; exact e⟩
theorem cun_eq (h : CUn N un) (h1 : N' 13 = N 13) (h2 : N' 14 = N 14) (h3 : N' 15 = N 15) : CUn N' un := by unfold CUn; rw [h1, h2, h3]; exact h
theorem mun_eq (hV : un.1 ≤ 16) (h : MUn N un) (h1 : N' 64 8 = N 64 8) (h2 : ∀ k, k < 4320 → N' 69 k = N 69 k) (h3 : N' 70 = N 70) : MUn N' un := by
  refine ⟨h1.trans h.1, fun i hi => ⟨fun j hj => ?_, ?_⟩⟩
  · rw [h2 _ (by omega)]; exact (h.2 i hi).1 j hj
  · rw [h3]; exact (h.2 i hi).2
theorem ctp_eq (h : CTp N tp) (h1 : N' 16 5 = N 16 5) (h2 : N' 17 = N 17) : CTp N' tp := by unfold CTp; rw [h1, h2]; exact h
theorem mtp_eq (h : MTp N tp) (h1 : N' 64 13 = N 64 13) (h2 : N' 73 = N 73) : MTp N' tp := by unfold MTp; rw [h1, h2]; exact h
theorem ccn_eq (h : CCn N cn) (h1 : N' 3 = N 3) (h2 : N' 63 = N 63) (h3 : N' 16 6 = N 16 6) (h4 : N' 33 5 = N 33 5) : CCn N' cn := by unfold CCn; rw [h1, h2, h3, h4]; exact h
theorem mcn_eq (h : MCn N cn) (h1 : N' 64 1 = N 64 1) (h2 : N' 65 = N 65) (h3 : N' 64 11 = N 64 11) (h4 : N' 64 18 = N 64 18) (h5 : N' 64 68 = N 64 68) : MCn N' cn := by unfold MCn; rw [h1, h2, h3, h4, h5]; exact h
theorem cdr_eq (h : CDr N rp) (h1 : N' 31 = N 31) : CDr N' rp := by unfold CDr; rw [h1]; exact h
theorem mdr_eq (h : MDr N rp) (h1 : N' 64 72 = N 64 72) (h2 : N' 103 = N 103) : MDr N' rp := by unfold MDr; rw [h1, h2]; exact h
theorem mkn_eq (h : MKn N) (h1 : N' 79 = N 79) (h2 : N' 80 = N 80) : MKn N' := by unfold MKn; rw [h1, h2]; exact h
theorem cinv_eq (h : CInv X N B q im un tp cn rp) (hf : ∀ o k, pC o k → N' o k = N o k) : CInv X N' B q im un tp cn rp := by
  obtain ⟨a, b, c, d, e, f, g⟩ := h
  have hw : ∀ o, (∀ k, pC o k) → N' o = N o := fun o p => funext fun k => hf o k (p k)
  have h3 : ∀ o, 104 ≤ o → N' o = N o := fun o p => hw o fun k => by unfold pC; omega
  refine ⟨cw_eq a (hw _ fun k => by unfold pC; omega) (hw _ fun k => by unfold pC; omega) h3, lwf_eq b (hw _ fun k => by unfold pC; omega), cim_eq c (fun o p p' => hw o fun k => by unfold pC; omega) h3, cun_eq d (hw _ fun k => by unfold pC; omega) (hw _ fun k => by unfold pC; omega) (hw _ fun k => by unfold pC; omega), ctp_eq e (hf _ _ (by unfold pC; omega)) (hw _ fun k => by unfold pC; omega), ccn_eq f (hw _ fun k => by unfold pC; omega) (hw _ fun k => by unfold pC; omega) (hf _ _ (by unfold pC; omega)) (hf _ _ (by unfold pC; omega)), cdr_eq g (hw _ fun k => by unfold pC; omega)⟩
theorem minv_eq (h : MInv N B q im un tp cn rp) (hf : ∀ o k, pM o k → N' o k = N o k) : MInv N' B q im un tp cn rp := by
  obtain ⟨a, b, c, d, e, f, g, u, t⟩ := h
  have hw : ∀ o, (∀ k, pM o k) → N' o = N o := fun o p => funext fun k => hf o k (p k)
  exact ⟨mw_eq a (hw _ fun k => by unfold pM; omega) (hf _ _ (by unfold pM; omega)), mim_eq b (hw _ fun k => by unfold pM; omega) (hw _ fun k => by unfold pM; omega), mun_eq u.1 c (hf _ _ (by unfold pM; omega)) (fun k hk => hf _ _ (by unfold pM; omega)) (hw _ fun k => by unfold pM; omega), mtp_eq d (hf _ _ (by unfold pM; omega)) (hw _ fun k => by unfold pM; omega), mcn_eq e (hf _ _ (by unfold pM; omega)) (hw _ fun k => by unfold pM; omega) (hf _ _ (by unfold pM; omega)) (hf _ _ (by unfold pM; omega)) (hf _ _ (by unfold pM; omega)), mdr_eq f (hf _ _ (by unfold pM; omega)) (hw _ fun k => by unfold pM; omega), mkn_eq g (hw _ fun k => by unfold pM; omega) (hw _ fun k => by unfold pM; omega), u, t⟩
end INV
/-- the fixed cells that the pure parts ask of X -/
def XOK (X : MX) : Prop := xK X 26 = (1, 9) ∧ xK X 27 = (1, 32) ∧ xK X 40 = (1, 32) ∧ xK X 41 = (1, 32) ∧ m_isT X 21 ∧ xK X 22 = (1, 400) ∧ xK X 23 = (1, 400) ∧ xK X 24 = (1, 96) ∧ xK X 5 = (1, 266) ∧ xK X 54 = (1, 36) ∧ xK X 55 = (1, 36) ∧ xK X 62 = (1, 4) ∧ xK X 14 = (1, 3056) ∧ xK X 38 = (1, 3056)
def Inv (X : MX) (N : NN) (B : Int) : Prop := XOK X ∧ ∃ (q : Wd) (im : Nat → Option Wd) (un : Un) (tp : Tp) (cn rp : Nat → Int), CInv X N B q im un tp cn rp ∧ MInv N B q im un tp cn rp
/-- class call first, reference call then: the same answer, and all stands again -/
def Sim (X : MX) (N : NN) (B : Int) (x : Option (Int × NN)) (y : NN → Option (Int × NN)) : Prop := Ok x (fun o => Ok (y o.2) (fun p => p.1 = o.1 ∧ Inv X p.2 B))
def frC (o k : Nat) : Prop := (o = 3 ∧ k = 13) ∨ o = 63
def frT (o k : Nat) : Prop := (o = 64 ∧ (k = 0 ∨ k = 1)) ∨ o = 65
/-- refused by v: the counters then -/
def rfu (cn : Nat → Int) (v : Int) : Nat → Int := ru (ru cn 0 v) (-v) (m_w (cn (-v).toNat + 1))
section RF
variable {X : MX} {N : NN} {cn : Nat → Int}
theorem c_refuse {v : Int} (h : CCn N cn) (hv : v < 0) (hv2 : -6 ≤ v) : Ok (f_X11_refuse X N v) (fun o => o.1 = v ∧ CCn o.2 (rfu cn v) ∧ Fr frC N o.2) := by
  obtain ⟨h1, h2, h3, h4, h5⟩ := h
  unfold f_X11_refuse f_X11_refuse_j30
  rw [if_pos hv, w_id (x := -7) (by omega) (by omega), if_pos (by omega), w_id (x := -v) (by omega) (by omega)]
  simp (disch := omega) only [gdp]
  refine ok_ret ⟨rfl, ⟨?_, fun k k1 k2 => ?_, ?_, ?_, ?_⟩, fr_up (fr_up fr_rfl (Or.inl ⟨rfl, rfl⟩)) (Or.inr rfl)⟩
  all_goals (try dsimp only)
  · rw [up_o (by omega), up_s]
    unfold rfu
    rw [ru_ne (by omega), ru_eq (by omega)]
  · unfold rfu
    rw [up_a, up_o (by omega)]
    by_cases e : k = (-v).toNat
    · rw [if_pos e, ru_eq e, h2 _ (by omega) (by omega)]
    · rw [if_neg e, ru_ne e, ru_ne (by omega)]; exact h2 k k1 k2
  · unfold rfu
    rw [up_o (by omega), up_k (by omega), ru_ne (by omega), ru_ne (by omega)]; exact h3
  · unfold rfu
    rw [up_o (by omega), up_o (by omega), ru_ne (by omega), ru_ne (by omega)]; exact h4
  · unfold rfu
    rw [up_o (by omega), up_o (by omega), ru_ne (by omega), ru_ne (by omega)]; exact h5
theorem c_accept {v : Int} (h : CCn N cn) : Ok (f_X11_accept X N v) (fun o => o.1 = v ∧ CCn o.2 (ru cn 0 0) ∧ Fr frC N o.2) := by
  obtain ⟨h1, h2, h3, h4, h5⟩ := h
  unfold f_X11_accept
  refine ok_ret ⟨rfl, ⟨?_, fun k k1 k2 => ?_, ?_, ?_, ?_⟩, fr_up fr_rfl (Or.inl ⟨rfl, rfl⟩)⟩
  all_goals (try dsimp only)
  · rw [up_s, ru_eq (by omega)]
  · rw [up_o (by omega), ru_ne (by omega)]; exact h2 k k1 k2
  · rw [up_k (by omega), ru_ne (by omega)]; exact h3
  · rw [up_o (by omega), ru_ne (by omega)]; exact h4
  · rw [up_o (by omega), ru_ne (by omega)]; exact h5
theorem ref_tellN {v : Int} (h : MCn N cn) (hv : v < 0) (hv2 : -6 ≤ v) : Ok (f_X12_tell X N v) (fun o => o.1 = v ∧ MCn o.2 (rfu cn v) ∧ Fr frT N o.2) := by
  obtain ⟨h1, h2, h3, h4, h5⟩ := h
  unfold f_X12_tell f_X12_tell_j10 f_X12_tell_j28
  rw [if_pos hv, if_pos hv, w_id (x := -v) (by omega) (by omega)]
  simp (disch := omega) only [gdp]
  refine ok_ret ⟨rfl, ⟨?_, fun k k1 k2 => ?_, ?_, ?_, ?_⟩, fr_up (fr_up fr_rfl (Or.inl ⟨rfl, Or.inr rfl⟩)) (Or.inr rfl)⟩
  all_goals (try dsimp only)
  · rw [up_o (by omega), up_s]
    unfold rfu
    rw [ru_ne (by omega), ru_eq (by omega)]
  · unfold rfu
    rw [up_a, up_o (by omega)]
    by_cases e : k = (-v).toNat
    · rw [if_pos e, ru_eq e, h2 _ (by omega) (by omega)]
    · rw [if_neg e, ru_ne e, ru_ne (by omega)]; exact h2 k k1 k2
  · unfold rfu
    rw [up_o (by omega), up_k (by omega), ru_ne (by omega), ru_ne (by omega)]; exact h3
  · unfold rfu
    rw [up_o (by omega), up_k (by omega), ru_ne (by omega), ru_ne (by omega)]; exact h4
  · unfold rfu
    rw [up_o (by omega), up_k (by omega), ru_ne (by omega), ru_ne (by omega)]; exact h5
theorem mcn_0 {k : Nat} {x : Int} (h : MCn N cn) (hk : k = 0) : MCn (m_up N 64 k x) cn := by
  subst hk
  exact mcn_eq h (up_k (by omega)) (up_of (by omega)) (up_k (by omega)) (up_k (by omega)) (up_k (by omega))
theorem mcn_1 (h : MCn N cn) : MCn (m_up N 64 1 0) (ru cn 0 0) := by
  obtain ⟨h1, h2, h3, h4, h5⟩ := h
  refine ⟨?_, fun k k1 k2 => ?_, ?_, ?_, ?_⟩
  · rw [up_s, ru_eq (by omega)]
  · rw [up_o (by omega), ru_ne (by omega)]; exact h2 k k1 k2
  · rw [up_k (by omega), ru_ne (by omega)]; exact h3
  · rw [up_k (by omega), ru_ne (by omega)]; exact h4
  · rw [up_k (by omega), ru_ne (by omega)]; exact h5
theorem ref_tellP {v : Int} (h : MCn N cn) (hv : 0 ≤ v) : f_X12_tell X N v = some (v, m_up N 64 1 0) := by
  unfold f_X12_tell f_X12_tell_j10 f_X12_tell_j28
  rw [if_neg (by omega), if_neg (by omega)]
theorem ref_was {v : Int} : f_X12_was X N v = some (v, m_up N 64 1 0) := rfl
theorem ref_settledP {v : Int} (h : MCn N cn) (hv : 0 ≤ v) : f_X12_settled X N v = some (v, m_up (m_up N 64 8 0) 64 1 0) := by
  unfold f_X12_settled f_X12_settled_j13
  rw [if_neg (by omega)]
  have h' : MCn (m_up N 64 8 0) cn := mcn_eq h (up_k (by omega)) (up_of (by omega)) (up_k (by omega)) (up_k (by omega)) (up_k (by omega))
  dsimp only
  rw [ref_tellP h' hv, Option.bind_some]
theorem c_within {a b c : Int} : f_X11_within X N a b c = some (if b ≤ a ∧ a ≤ c then 1 else 0) := by
  unfold f_X11_within f_X11_within_j14 f_X11_within_j15
  by_cases h : a < b
  · rw [if_pos h, if_pos (by omega), if_neg (by omega)]
  · rw [if_neg h]
    by_cases h2 : c < a
    · rw [if_pos h2, if_pos (by omega), if_neg (by omega)]
    · rw [if_neg h2, if_pos (by omega), if_pos (by omega)]
end RF
