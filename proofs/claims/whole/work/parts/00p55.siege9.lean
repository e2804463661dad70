/-! siege: packed sets spread over the whole list -/
def exS : List Bool → Nat → Nat
  | [], _ => 0
  | true :: t, P => 2 * exS t P
  | false :: t, P => P % 2 + 2 * exS t (P / 2)
def frB : List Bool → Nat
  | [] => 0
  | true :: t => frB t
  | false :: t => frB t + 1
theorem pw_s (n : Nat) : 2 ^ (n + 1) = 2 * 2 ^ n := by rw [Nat.pow_succ, Nat.mul_comm]
theorem fr_le : ∀ b : List Bool, frB b ≤ b.length
  | [] => Nat.le_refl _
  | true :: t => by have := fr_le t; rw [frB, List.length_cons]; omega
  | false :: t => by have := fr_le t; rw [frB, List.length_cons]; omega
theorem ex_lt : ∀ (b : List Bool) (P : Nat), exS b P < 2 ^ b.length
  | [], P => by show 0 < 2 ^ 0; omega
  | true :: t, P => by have := ex_lt t P; rw [exS, List.length_cons, pw_s]; omega
  | false :: t, P => by have := ex_lt t (P / 2); rw [exS, List.length_cons, pw_s]; omega
theorem ex_mono : ∀ (b : List Bool) (P Q : Nat), P < Q → Q < 2 ^ frB b → exS b P < exS b Q
  | [], P, Q, h, h2 => by
    have : Q < 1 := h2
    omega
  | true :: t, P, Q, h, h2 => by have := ex_mono t P Q h h2; rw [exS, exS]; omega
  | false :: t, P, Q, h, h2 => by
    rw [frB, pw_s] at h2
    rw [exS, exS]
    by_cases e : P / 2 = Q / 2
    · rw [e]; omega
    · have := ex_mono t (P / 2) (Q / 2) (by omega) (by omega)
      omega
theorem bit_n (S i : Nat) : bit (S : Int) (i : Int) = ((S / 2 ^ i % 2 : Nat) : Int) := by unfold bit; rw [Int.toNat_natCast, Int.toNat_natCast]
theorem bit_z (S : Nat) : bit (S : Int) ((0 : Nat) : Int) = ((S % 2 : Nat) : Int) := by rw [bit_n, Nat.pow_zero, Nat.div_one]
theorem bit_u (S i : Nat) : bit (S : Int) ((i + 1 : Nat) : Int) = bit ((S / 2 : Nat) : Int) (i : Int) := by rw [bit_n, bit_n, pw_s, Nat.div_div_eq_div_mul]
theorem ex_bar : ∀ (b : List Bool) (P i : Nat), b[i]? = some true → bit (exS b P : Int) (i : Int) = 0
  | [], P, i, h => by cases h
  | true :: t, P, 0, h => by rw [exS, bit_z]; omega
  | true :: t, P, i + 1, h => by
    rw [exS, bit_u, show 2 * exS t P / 2 = exS t P by omega]
    exact ex_bar t P i h
  | false :: t, P, 0, h => by cases h
  | false :: t, P, i + 1, h => by
    rw [exS, bit_u, show (P % 2 + 2 * exS t (P / 2)) / 2 = exS t (P / 2) by omega]
    exact ex_bar t (P / 2) i h
theorem ex_sur : ∀ (b : List Bool) (S : Nat), S < 2 ^ b.length → (∀ i : Nat, b[i]? = some true → bit (S : Int) (i : Int) = 0) → ∃ P, P < 2 ^ frB b ∧ exS b P = S
  | [], S, h, _ => ⟨0, Nat.one_pos, by have : S < 1 := h; show 0 = S; omega⟩
  | true :: t, S, h, q => by
    rw [List.length_cons, pw_s] at h
    have z := q 0 rfl
    rw [show (0 : Int) = ((0 : Nat) : Int) from rfl, bit_z] at z
    obtain ⟨P, p1, p2⟩ := ex_sur t (S / 2) (by omega) fun i hi => by rw [← bit_u]; exact q (i + 1) hi
    exact ⟨P, p1, by rw [exS, p2]; omega⟩
  | false :: t, S, h, q => by
    rw [List.length_cons, pw_s] at h
    obtain ⟨P, p1, p2⟩ := ex_sur t (S / 2) (by omega) fun i hi => by rw [← bit_u]; exact q (i + 1) hi
    refine ⟨S % 2 + 2 * P, by rw [frB, pw_s]; omega, ?_⟩
    rw [exS, show (S % 2 + 2 * P) / 2 = P by omega, p2]
    omega
/-! sums over a list -/
def sL (f : Nat → Int) : List Nat → Nat → Int
  | [], _ => 0
  | g :: t, S => (if S % 2 = 0 then 0 else f g) + sL f t (S / 2)
def oL : List Nat → Nat → Nat
  | [], _ => 0
  | g :: t, S => (if S % 2 = 0 then 0 else 2 ^ g) ||| oL t (S / 2)
theorem sm_sh (f : Nat → Int) : ∀ n, sm f (n + 1) = f 0 + sm (fun i => f (i + 1)) n
  | 0 => by rw [sm_s, sm_0, sm_0]; omega
  | n + 1 => by rw [sm_s, sm_sh f n, sm_s]; omega
theorem su_sh (f : Nat → Int) (S n : Nat) : suS f S (n + 1) = (if S % 2 = 0 then 0 else f 0) + suS (fun i => f (i + 1)) ((S / 2 : Nat) : Int) n := by
  unfold suS
  rw [sm_sh]
  congr 1
  · rw [show ((0 : Nat) : Int) = ((0 : Nat) : Int) from rfl, bit_z]
    by_cases c : S % 2 = 0
    · rw [if_pos c, if_pos (by omega)]
    · rw [if_neg c, if_neg (by omega)]
  · refine sm_c fun k _ => ?_
    rw [bit_u]
theorem su_list (F : Nat → Int) : ∀ (L : List Nat) (f : Nat → Int) (S : Nat), (∀ i g : Nat, L[i]? = some g → f i = F g) → suS f S L.length = sL F L S
  | [], f, S, _ => rfl
  | g :: t, f, S, h => by
    rw [List.length_cons, su_sh, sL, h 0 g rfl, su_list F t (fun i => f (i + 1)) (S / 2) fun i x q => h (i + 1) x q]
theorem oB_sh (d : Nat → Nat) (S : Nat) : ∀ n, oB d S (n + 1) = (if S % 2 = 0 then 0 else 2 ^ d 0) ||| oB (fun i => d (i + 1)) ((S / 2 : Nat) : Int) n
  | 0 => by
    rw [oB, oB, oB, bit_z]
    by_cases c : S % 2 = 0
    · rw [if_pos c, if_pos (by omega)]
    · rw [if_neg c, if_neg (by omega)]; simp
  | n + 1 => by
    rw [oB, oB_sh d S n, oB, Nat.or_assoc, bit_u]
theorem oB_list : ∀ (L : List Nat) (d : Nat → Nat) (S : Nat), (∀ i g : Nat, L[i]? = some g → d i = g) → oB d S L.length = oL L S
  | [], d, S, _ => rfl
  | g :: t, d, S, h => by
    rw [List.length_cons, oB_sh, oL, h 0 g rfl, oB_list t (fun i => d (i + 1)) (S / 2) fun i x q => h (i + 1) x q]
theorem ex_sL (f : Nat → Int) (b : Nat → Bool) : ∀ (L : List Nat) (P : Nat), sL f L (exS (L.map b) P) = sL f (L.filter fun g => !b g) P
  | [], P => rfl
  | g :: t, P => by
    cases c : b g with
    | true =>
      rw [List.map_cons, c, exS, sL, if_pos (by omega), show 2 * exS (t.map b) P / 2 = exS (t.map b) P by omega, ex_sL f b t P, List.filter_cons_of_neg (by simp [c])]
      omega
    | false =>
      rw [List.map_cons, c, exS, sL, show (P % 2 + 2 * exS (t.map b) (P / 2)) / 2 = exS (t.map b) (P / 2) by omega, ex_sL f b t (P / 2), List.filter_cons_of_pos (by simp [c]), sL]
      congr 1
      by_cases z : P % 2 = 0
      · rw [if_pos z, if_pos (by omega)]
      · rw [if_neg z, if_neg (by omega)]
theorem ex_oL (b : Nat → Bool) : ∀ (L : List Nat) (P : Nat), oL L (exS (L.map b) P) = oL (L.filter fun g => !b g) P
  | [], P => rfl
  | g :: t, P => by
    cases c : b g with
    | true =>
      rw [List.map_cons, c, exS, oL, if_pos (by omega), show 2 * exS (t.map b) P / 2 = exS (t.map b) P by omega, ex_oL b t P, List.filter_cons_of_neg (by simp [c])]
      simp
    | false =>
      rw [List.map_cons, c, exS, oL, show (P % 2 + 2 * exS (t.map b) (P / 2)) / 2 = exS (t.map b) (P / 2) by omega, ex_oL b t (P / 2), List.filter_cons_of_pos (by simp [c]), oL]
      congr 1
      by_cases z : P % 2 = 0
      · rw [if_pos z, if_pos (by omega)]
      · rw [if_neg z, if_neg (by omega)]
theorem fr_filter (b : Nat → Bool) : ∀ L : List Nat, frB (L.map b) = (L.filter fun g => !b g).length
  | [] => rfl
  | g :: t => by
    cases c : b g with
    | true => rw [List.map_cons, c, frB, fr_filter b t, List.filter_cons_of_neg (by simp [c])]
    | false => rw [List.map_cons, c, frB, fr_filter b t, List.filter_cons_of_pos (by simp [c]), List.length_cons]
theorem on_h : ∀ S : Fin 1024, onS (S.val : Int) 16 = ((S.val % 2 : Nat) : Int) + onS ((S.val / 2 : Nat) : Int) 16 := by decide +kernel
theorem ex_on : ∀ (b : List Bool) (P : Nat), b.length ≤ 10 → P < 2 ^ frB b → onS (exS b P : Int) 16 = onS (P : Int) 16
  | [], P, _, h => by
    have : P < 1 := h
    rw [show P = 0 by omega]; rfl
  | true :: t, P, hl, h => by
    have a := ex_lt (true :: t) P
    have hp : 2 ^ (true :: t).length ≤ 2 ^ 10 := Nat.pow_le_pow_right (by omega) hl
    have z : onS (exS (true :: t) P : Int) 16 = ((exS (true :: t) P % 2 : Nat) : Int) + onS ((exS (true :: t) P / 2 : Nat) : Int) 16 := on_h ⟨exS (true :: t) P, by omega⟩
    rw [z, exS, show 2 * exS t P / 2 = exS t P by omega, ex_on t P (by rw [List.length_cons] at hl; omega) h]
    omega
  | false :: t, P, hl, h => by
    have a := ex_lt (false :: t) P
    have hp : 2 ^ (false :: t).length ≤ 2 ^ 10 := Nat.pow_le_pow_right (by omega) hl
    have f := fr_le (false :: t)
    have hq : 2 ^ frB (false :: t) ≤ 2 ^ 10 := Nat.pow_le_pow_right (by omega) (by omega)
    have z : onS (exS (false :: t) P : Int) 16 = ((exS (false :: t) P % 2 : Nat) : Int) + onS ((exS (false :: t) P / 2 : Nat) : Int) 16 := on_h ⟨exS (false :: t) P, by omega⟩
    have y : onS (P : Int) 16 = ((P % 2 : Nat) : Int) + onS ((P / 2 : Nat) : Int) 16 := on_h ⟨P, by omega⟩
    rw [frB, pw_s] at h
    rw [z, y, exS, show (P % 2 + 2 * exS t (P / 2)) / 2 = exS t (P / 2) by omega, ex_on t (P / 2) (by rw [List.length_cons] at hl; omega) (by omega)]
    omega
theorem best_ex {C1 C2 : Nat → Bool} {K1 K2 : Nat → Int} {n1 n2 : Nat} {e : Nat → Nat} (lt : ∀ P, P < n1 → e P < n2) (mono : ∀ P Q, P < Q → Q < n1 → e P < e Q) (hC : ∀ P, P < n1 → C2 (e P) = C1 P) (hK : ∀ P, P < n1 → K2 (e P) = K1 P) (sur : ∀ S, S < n2 → C2 S = true → ∃ P, P < n1 ∧ e P = S) : bestK C2 K2 n2 = (bestK C1 K1 n1).map e := by
  have a := best_spec C1 K1 n1
  have b := best_spec C2 K2 n2
  cases h1 : bestK C1 K1 n1 with
  | none =>
    rw [h1] at a
    cases h2 : bestK C2 K2 n2 with
    | none => rfl
    | some y =>
      rw [h2] at b
      obtain ⟨P, p1, p2⟩ := sur y b.1 b.2.1
      have := a P p1
      rw [← hC P p1, p2, b.2.1] at this
      cases this
  | some x =>
    rw [h1] at a
    obtain ⟨a1, a2, a3⟩ := a
    cases h2 : bestK C2 K2 n2 with
    | none =>
      rw [h2] at b
      have := b (e x) (lt x a1)
      rw [hC x a1, a2] at this
      cases this
    | some y =>
      rw [h2] at b
      obtain ⟨b1, b2, b3⟩ := b
      obtain ⟨P, p1, p2⟩ := sur y b1 b2
      have q1 := a3 P p1 (by rw [← hC P p1, p2]; exact b2)
      have q2 := b3 (e x) (lt x a1) (by rw [hC x a1]; exact a2)
      rw [hK x a1, ← p2, hK P p1] at q2
      have hle : e P ≤ e x ∧ K1 x = K1 P ∧ x ≤ P := by omega
      have : P = x := by
        apply Classical.byContradiction
        intro ne
        have := mono x P (by omega) p1
        omega
      rw [← p2, this]
      rfl
theorem best_c {C C' : Nat → Bool} {P P' : Nat → Int} : ∀ n, (∀ s, s < n → C s = C' s ∧ P s = P' s) → bestK C P n = bestK C' P' n
  | 0, _ => rfl
  | n + 1, h => by
    have ih := best_c n fun s hs => h s (by omega)
    have sp := best_spec C' P' n
    rw [bestK, bestK, ih]
    cases hb : bestK C' P' n with
    | none => dsimp only; rw [(h n (by omega)).1]
    | some b =>
      rw [hb] at sp
      dsimp only
      rw [(h n (by omega)).1, (h n (by omega)).2, (h b (by have := sp.1; omega)).2]
theorem sto_mono {h : Int} {c c' : Nat → Int} {s : Int} : ∀ n, (∀ y, 1 ≤ y → y ≤ n → c y ≤ c' y) → stoS h c' s n ≤ stoS h c s n
  | 0, _ => Int.le_refl _
  | n + 1, e => by
    have a := sto_mono (h := h) (s := s) n fun y p q => e y p (by omega)
    have b := e (n + 1) (by omega) (by omega)
    rw [stoS, stoS]
    omega
theorem fall_mono {h : Int} {c c' : Nat → Int} {s : Int} : ∀ n, (∀ y, 1 ≤ y → y ≤ n → c y ≤ c' y) → 0 ≤ fallY h c s n → 0 ≤ fallY h c' s n
  | 0, _, q => q
  | n + 1, e, q => by
    have m := sto_mono (h := h) (s := s) (n + 1) e
    rw [fallY]
    by_cases a : 0 ≤ fallY h c' s n
    · rw [if_pos a]; exact a
    · rw [if_neg a]
      rw [fallY] at q
      by_cases b : 0 ≤ fallY h c s n
      · exact absurd (fall_mono n (fun y p p' => e y p (by omega)) b) a
      · rw [if_neg b] at q
        by_cases d : stoS h c s (n + 1) < 0
        · rw [if_pos (by omega)]; omega
        · rw [if_neg d] at q; omega
theorem sL_le {f : Nat → Int} (hf : ∀ g, 0 ≤ f g) : ∀ (L : List Nat) (S : Nat), 0 ≤ sL f L S ∧ sL f L S ≤ sL f L (2 ^ L.length - 1)
  | [], S => ⟨Int.le_refl _, Int.le_refl _⟩
  | g :: t, S => by
    have a := sL_le hf t (S / 2)
    have b := hf g
    have p := Nat.pos_of_ne_zero (show 2 ^ t.length ≠ 0 by simp)
    rw [sL, sL, List.length_cons, pw_s, if_neg (show ¬ (2 * 2 ^ t.length - 1) % 2 = 0 by omega), show (2 * 2 ^ t.length - 1) / 2 = 2 ^ t.length - 1 by omega]
    by_cases z : S % 2 = 0
    · rw [if_pos z]; omega
    · rw [if_neg z]; omega
theorem sL_c {f f' : Nat → Int} : ∀ (L : List Nat) (S : Nat), (∀ g, g ∈ L → f g = f' g) → sL f L S = sL f' L S
  | [], S, _ => rfl
  | g :: t, S, h => by rw [sL, sL, h g List.mem_cons_self, sL_c t (S / 2) fun x q => h x (List.mem_cons_of_mem _ q)]
theorem andn_0 {s c : Nat} (hs : s < 1024) (hc : c < 1024) : m_and (s : Int) (m_xor (c : Int) (-1)) = 0 ↔ ∀ i : Nat, i < 10 → bit (s : Int) (i : Int) = 1 → bit (c : Int) (i : Int) = 1 := by
  unfold m_and m_xor
  rw [Int32.ofInt_toInt, oI_n, oI_n]
  have e0 : ∀ x : Int32, x.toInt = 0 ↔ x.toBitVec = 0#32 := by
    intro x
    constructor
    · intro h
      have : Int32.ofInt x.toInt = Int32.ofInt 0 := by rw [h]
      rw [Int32.ofInt_toInt] at this
      rw [this]; rfl
    · intro h
      have : x = 0 := by apply Int32.toBitVec_inj.1; rw [h]; rfl
      rw [this]; rfl
  rw [e0, Int32.toBitVec_and, Int32.toBitVec_xor, show (Int32.ofInt (-1)).toBitVec = BitVec.allOnes 32 by decide, show (nI s).toBitVec = BitVec.ofNat 32 s from rfl, show (nI c).toBitVec = BitVec.ofNat 32 c from rfl, BitVec.eq_of_getLsbD_eq_iff]
  constructor
  · intro h i hi hb
    have z := h i (by omega)
    rw [BitVec.getLsbD_and, BitVec.getLsbD_xor, BitVec.getLsbD_ofNat, BitVec.getLsbD_ofNat, BitVec.getLsbD_allOnes, BitVec.getLsbD_zero, decide_eq_true (show i < 32 by omega), Bool.true_and, Bool.true_and] at z
    rw [bit_t] at hb ⊢
    by_cases a : s.testBit i = true
    · rw [a, Bool.true_and] at z
      by_cases b : c.testBit i = true
      · rw [if_pos b]
      · rw [Bool.eq_false_iff.mpr b] at z; cases z
    · rw [if_neg a] at hb; omega
  · intro h i hi
    rw [BitVec.getLsbD_and, BitVec.getLsbD_xor, BitVec.getLsbD_ofNat, BitVec.getLsbD_ofNat, BitVec.getLsbD_allOnes, BitVec.getLsbD_zero, decide_eq_true hi, Bool.true_and, Bool.true_and]
    by_cases a : s.testBit i = true
    · by_cases i10 : i < 10
      · have z := h i i10 (by rw [bit_t, if_pos a])
        rw [bit_t] at z
        by_cases b : c.testBit i = true
        · rw [a, b]; rfl
        · rw [if_neg b] at z; omega
      · have : s < 2 ^ i := Nat.lt_of_lt_of_le hs (show 2 ^ 10 ≤ 2 ^ i from Nat.pow_le_pow_right (by omega) (by omega))
        rw [Nat.testBit_lt_two_pow this] at a; cases a
    · rw [Bool.eq_false_iff.mpr a]; rfl
