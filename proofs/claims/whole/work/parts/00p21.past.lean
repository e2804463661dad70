/-! what can be undone -/
def pushU (un : Un) (r : Nat → Int) (k : Int) : Un :=
  if un.1 = 16 then (16, fun i => if i < 15 then un.2.1 (i + 1) else r, fun i => if i < 15 then un.2.2 (i + 1) else k)
  else (un.1 + 1, fun i => if i = un.1 then r else un.2.1 i, fun i => if i = un.1 then k else un.2.2 i)
theorem rem16 {x : Int} (h0 : 0 ≤ x) (h1 : x ≤ 1000) : m_rem x 16 = x % 16 := rem_id h0 (by omega) (by omega) (by omega)
theorem ru_of {c r : Nat → Int} (h : Rw c r) : Ru c r := ⟨h.1, h.2.1, h.2.2.1, h.2.2.2.1, h.2.2.2.2.1⟩
theorem ru_ext {c c' r : Nat → Int} (h : Ru c r) (he : ∀ j, j < 191 → c' j = c j) : Ru c' r := by
  obtain ⟨a, b, d, e, f⟩ := h
  exact ⟨fun k p q => by rw [he _ (by omega)]; exact a k p q, fun l k p q p' q' => by rw [he _ (by omega)]; exact b l k p q p' q', fun l k p q p' q' => by rw [he _ (by omega)]; exact d l k p q p' q', fun l k p q p' q' => by rw [he _ (by omega)]; exact e l k p q p' q', fun l k p q p' q' => by rw [he _ (by omega)]; exact f l k p q p' q'⟩
theorem cpy_in {N : NN} {s sp d dp n j : Nat} (h : dp ≤ j ∧ j < dp + n) : m_cpy N s sp d dp n d j = N s (sp + (j - dp)) := by unfold m_cpy; rw [if_pos rfl, if_pos h]
theorem cpy_out {N : NN} {s sp d dp n j : Nat} (h : ¬ (dp ≤ j ∧ j < dp + n)) : m_cpy N s sp d dp n d j = N d j := by unfold m_cpy; rw [if_pos rfl, if_neg h]
theorem cpy_o {N : NN} {s sp d dp n o : Nat} (h : o ≠ d) : m_cpy N s sp d dp n o = N o := by funext j; unfold m_cpy; rw [if_neg h]
def frP (o k : Nat) : Prop := 13 ≤ o ∧ o ≤ 15
section PA
variable {X : MX} {N : NN} {B : Int} {r : Nat → Int} {un : Un}
theorem c_keep {k : Int} (hX : XOK X) (h : CUn N un) (hn : un.1 ≤ 16) (hR : Rw (N 5) r) : Ok (f_X4_keep X 13 4 N k) (fun N' => CUn N' (pushU un r k) ∧ Fr frP N N') := by
  obtain ⟨h1, h2, h3, h4⟩ := h
  obtain ⟨x, hx⟩ := Int.eq_ofNat_of_zero_le h2
  rw [hx] at h3 h4
  have hk : xK X 14 = (1, 3056) := hX.2.2.2.2.2.2.2.2.2.2.2.2.1
  unfold f_X4_keep f_X10_saveTo
  rw [hx, w_id (x := (x : Int) * 191) (by omega) (by omega), hk]
  dsimp only
  rw [gdp (by omega), Option.bind_some]
  generalize hM : m_cpy N (4 + 1) (0 : Int).toNat (13 + 1) ((x : Int) * 191).toNat (191 : Int).toNat = M
  have e13 : M 13 = N 13 := by rw [← hM]; exact cpy_o (by omega)
  have e15 : M 15 = N 15 := by rw [← hM]; exact cpy_o (by omega)
  have f1 : Fr frP N M := by
    intro o j z
    rw [← hM]
    exact congrFun (cpy_o (by unfold frP at z; omega)) j
  rw [e13, hx, gdp (by omega)]
  try dsimp only
  rw [up_o (by omega), e13, hx, w_id (by omega) (by omega), rem16 (by omega) (by omega), up_k (by omega), up_o (by omega), e13, h1, w_id (by omega) (by omega), min_id]
  refine ok_ret ⟨⟨?_, ?_, ?_, fun i hi => ?_⟩, fr_up (fr_up (fr_up f1 (by unfold frP; omega)) (by unfold frP; omega)) (by unfold frP; omega)⟩
  · rw [up_s]
    unfold pushU
    split
    · rename_i e; dsimp only; omega
    · dsimp only; omega
  · rw [up_k (by omega), up_s]; omega
  · rw [up_k (by omega), up_s]; omega
  · have es : m_up (m_up (m_up M (13 + 2) (x : Int).toNat k) 13 2 (((x : Int) + 1) % 16)) 13 3 (min ((un.1 : Int) + 1) 16) 13 2 = ((x : Int) + 1) % 16 := by rw [up_k (by omega), up_s]
    rw [es]
    have e14 : m_up (m_up (m_up M (13 + 2) (x : Int).toNat k) 13 2 (((x : Int) + 1) % 16)) 13 3 (min ((un.1 : Int) + 1) 16) 14 = M 14 := by rw [up_of (by omega), up_of (by omega), up_of (by omega)]
    rw [e14]
    have e15' : ∀ s, m_up (m_up (m_up M (13 + 2) (x : Int).toNat k) 13 2 (((x : Int) + 1) % 16)) 13 3 (min ((un.1 : Int) + 1) 16) 15 s = if s = x then k else N 15 s := by
      intro s
      rw [up_o (by omega), up_o (by omega), up_a, e15]
      rfl
    rw [e15']
    have mNew : ∀ j, j < 191 → M 14 (191 * x + j) = N 5 j := by
      intro j hj
      rw [← hM, cpy_in (by omega)]
      show N (4 + 1) _ = N 5 j
      congr 1
      omega
    have mOld : ∀ s j, s ≠ x → j < 191 → M 14 (191 * s + j) = N 14 (191 * s + j) := by
      intro s j hs hj
      rw [← hM]
      refine cpy_out ?_
      intro z
      rcases Nat.lt_or_ge s x with q | q
      · have : 191 * s + 191 ≤ 191 * x := by omega
        omega
      · have : 191 * x + 191 ≤ 191 * s := by omega
        omega
    have hs1 : (((x : Int) + 1) % 16).toNat = (x + 1) % 16 := by omega
    unfold pushU at hi ⊢
    by_cases c : un.1 = 16
    · rw [if_pos c] at hi ⊢
      dsimp only at hi ⊢
      have hsl : slot (((x : Int) + 1) % 16) 16 i = (x + 1 + i) % 16 := by unfold slot; rw [hs1]; omega
      rw [hsl]
      by_cases i15 : i < 15
      · rw [if_pos i15, if_pos i15]
        have hso : slot (x : Int) un.1 (i + 1) = (x + 1 + i) % 16 := by unfold slot; rw [c]; omega
        obtain ⟨g1, g2⟩ := h4 (i + 1) (by omega)
        rw [hso] at g1 g2
        have hne : (x + 1 + i) % 16 ≠ x := by omega
        exact ⟨ru_ext g1 (fun j hj => mOld _ j hne hj), by rw [if_neg hne]; exact g2⟩
      · rw [if_neg i15, if_neg i15]
        have he : (x + 1 + i) % 16 = x := by omega
        rw [he]
        exact ⟨ru_ext (ru_of hR) mNew, by rw [if_pos rfl]⟩
    · rw [if_neg c] at hi ⊢
      dsimp only at hi ⊢
      have hsl : slot (((x : Int) + 1) % 16) (un.1 + 1) i = (x + 16 - un.1 + i) % 16 := by unfold slot; rw [hs1]; omega
      rw [hsl]
      by_cases e : i = un.1
      · rw [if_pos e, if_pos e]
        have he : (x + 16 - un.1 + i) % 16 = x := by omega
        rw [he]
        exact ⟨ru_ext (ru_of hR) mNew, by rw [if_pos rfl]⟩
      · rw [if_neg e, if_neg e]
        obtain ⟨g1, g2⟩ := h4 i (by omega)
        have hso : slot (x : Int) un.1 i = (x + 16 - un.1 + i) % 16 := by unfold slot; omega
        rw [hso] at g1 g2
        have hne : (x + 16 - un.1 + i) % 16 ≠ x := by omega
        exact ⟨ru_ext g1 (fun j hj => mOld _ j hne hj), by rw [if_neg hne]; exact g2⟩
theorem uv_push {r' : Nat → Int} {k : Int} {B' : Int} (h : UV B r un) (hV : Vr B r) (hB : B ≤ B') (hk : 0 ≤ k ∧ k ≤ 1) (h0 : r' 0 = r 0) (h1 : r' 1 = r 1) (h7 : r' 7 = r 7) (h8 : r' 8 = r 8) : UV B' r' (pushU un r k) := by
  obtain ⟨a, b⟩ := h
  unfold pushU
  by_cases c : un.1 = 16
  · rw [if_pos c]
    refine ⟨Nat.le_refl _, fun i hi => ?_⟩
    dsimp only at hi ⊢
    by_cases d : i < 15
    · rw [if_pos d, if_pos d, h0, h1, h7, h8]
      have := b (i + 1) (by omega)
      exact ⟨vr_B this.1 hB, this.2⟩
    · rw [if_neg d, if_neg d, h0, h1, h7, h8]
      exact ⟨vr_B hV hB, rfl, rfl, rfl, rfl, hk.1, hk.2⟩
  · rw [if_neg c]
    refine ⟨by show un.1 + 1 ≤ 16; omega, fun i hi => ?_⟩
    dsimp only at hi ⊢
    by_cases d : i = un.1
    · rw [if_pos d, if_pos d, h0, h1, h7, h8]
      exact ⟨vr_B hV hB, rfl, rfl, rfl, rfl, hk.1, hk.2⟩
    · rw [if_neg d, if_neg d, h0, h1, h7, h8]
      have := b i (by omega)
      exact ⟨vr_B this.1 hB, this.2⟩
/-! the reference -/
theorem ref_keepRow {a : Int} (h0 : 0 ≤ a) (h1 : a ≤ 17) : Ok (f_X12_keepRow X N a) (fun N' => (∀ j : Nat, j < 270 → N' 69 (270 * a.toNat + j) = N 66 j) ∧ Fr (fun o k => o = 69 ∧ 270 * a.toNat ≤ k ∧ k < 270 * a.toNat + 270) N N') := by
  obtain ⟨n, rfl⟩ := Int.eq_ofNat_of_zero_le h0
  rw [Int.toNat_natCast]
  have H : Ok (lp (fun s : NN × Int × Int => b_X12_keepRow_2 X s.1 s.2.1 s.2.2) (N, (n : Int), 0)) (fun N' => (∀ j : Nat, j < 270 → N' 69 (270 * n + j) = N 66 j) ∧ Fr (fun o k => o = 69 ∧ 270 * n ≤ k ∧ k < 270 * n + 270) N N') := by
    refine ok_up (fun i s => ∃ M, s = (M, (n : Int), i) ∧ (∀ j : Nat, (j : Int) < i → M 69 (270 * n + j) = N 66 j) ∧ Fr (fun o k => o = 69 ∧ 270 * n ≤ k ∧ k < 270 * n + 270) N M) 270 (i0 := 0) ?_ ?_ (by omega) ⟨N, rfl, fun j hj => by omega, fr_rfl⟩
    · rintro i s a0 a1 ⟨M, rfl, hM, hf⟩
      obtain ⟨m, rfl⟩ := Int.eq_ofNat_of_zero_le a0
      dsimp only
      unfold b_X12_keepRow_2
      simp (disch := omega) only [w_id, gdp]
      rw [if_pos a1, show (270 * (n : Int) + (m : Int)).toNat = 270 * n + m by omega, Int.toNat_natCast]
      refine ok_ret ⟨_, rfl, fun j hj => ?_, fr_up hf ⟨rfl, by omega, by omega⟩⟩
      rw [up_a]
      by_cases e : j = m
      · rw [if_pos (by omega), e]
        exact hf 66 m (by omega)
      · rw [if_neg (by omega)]
        exact hM j (by omega)
    · rintro s ⟨M, rfl, hM, hf⟩
      dsimp only
      unfold b_X12_keepRow_2
      rw [if_neg (by omega)]
      exact ok_ret ⟨fun j hj => hM j (by omega), hf⟩
  unfold f_X12_keepRow
  refine ok_bind H ?_
  intro N' p
  exact ok_ret p
theorem ref_putBack {a : Int} (h0 : 0 ≤ a) (h1 : a ≤ 17) : Ok (f_X12_putBack X N a) (fun N' => (∀ j : Nat, j < 270 → N' 66 j = N 69 (270 * a.toNat + j)) ∧ Fr (fun o k => o = 66 ∧ k < 270) N N') := by
  obtain ⟨n, rfl⟩ := Int.eq_ofNat_of_zero_le h0
  rw [Int.toNat_natCast]
  have H : Ok (lp (fun s : NN × Int × Int => b_X12_putBack_2 X s.1 s.2.1 s.2.2) (N, (n : Int), 0)) (fun N' => (∀ j : Nat, j < 270 → N' 66 j = N 69 (270 * n + j)) ∧ Fr (fun o k => o = 66 ∧ k < 270) N N') := by
    refine ok_up (fun i s => ∃ M, s = (M, (n : Int), i) ∧ (∀ j : Nat, (j : Int) < i → M 66 j = N 69 (270 * n + j)) ∧ Fr (fun o k => o = 66 ∧ k < 270) N M) 270 (i0 := 0) ?_ ?_ (by omega) ⟨N, rfl, fun j hj => by omega, fr_rfl⟩
    · rintro i s a0 a1 ⟨M, rfl, hM, hf⟩
      obtain ⟨m, rfl⟩ := Int.eq_ofNat_of_zero_le a0
      dsimp only
      unfold b_X12_putBack_2
      simp (disch := omega) only [w_id, gdp]
      rw [if_pos a1, show (270 * (n : Int) + (m : Int)).toNat = 270 * n + m by omega, Int.toNat_natCast]
      refine ok_ret ⟨_, rfl, fun j hj => ?_, fr_up hf ⟨rfl, by omega⟩⟩
      rw [up_a]
      by_cases e : j = m
      · rw [if_pos e, e]
        exact hf 69 _ (by omega)
      · rw [if_neg e]
        exact hM j (by omega)
    · rintro s ⟨M, rfl, hM, hf⟩
      dsimp only
      unfold b_X12_putBack_2
      rw [if_neg (by omega)]
      exact ok_ret ⟨fun j hj => hM j (by omega), hf⟩
  unfold f_X12_putBack
  refine ok_bind H ?_
  intro N' p
  exact ok_ret p
end PA
