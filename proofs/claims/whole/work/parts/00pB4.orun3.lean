/-! orders are run: the class's, all of it; what was ahead is brought back -/
def frO3 (o k : Nat) : Prop := frOr o k ∨ o = 6 ∨ (34 ≤ o ∧ o ≤ 39) ∨ (o = 33 ∧ k = 5)
section OS2
variable {X : MX} {N : NN} {B : Int}
theorem c_pcopy {d s : Nat} (hds : d + 2 < s ∨ s + 2 < d) : Ok (f_X4_copyFrom X d s N) (fun N' => (∀ j, j < 3056 → N' (d + 1) j = N (s + 1) j) ∧ (∀ j, j < 16 → N' (d + 2) j = N (s + 2) j) ∧ N' d 2 = N s 2 ∧ N' d 3 = N s 3 ∧ Fr (fun o k => o = d + 1 ∨ o = d + 2 ∨ (o = d ∧ (k = 2 ∨ k = 3))) N N') := by
  obtain ⟨N2, h2⟩ : ∃ N2, N2 = m_cpy N (s + 1) (0 : Int).toNat (d + 1) (0 : Int).toNat (3056 : Int).toNat := ⟨_, rfl⟩
  obtain ⟨N4, h4⟩ : ∃ N4, N4 = m_cpy N2 (s + 2) (0 : Int).toNat (d + 2) (0 : Int).toNat (16 : Int).toNat := ⟨_, rfl⟩
  have o2 : ∀ o, o ≠ d + 1 → N2 o = N o := fun o p => by rw [h2]; exact cpy_o p
  have o4 : ∀ o, o ≠ d + 2 → N4 o = N2 o := fun o p => by rw [h4]; exact cpy_o p
  have i2 : ∀ j, j < 3056 → N2 (d + 1) j = N (s + 1) j := fun j hj => by
    rw [h2, cpy_in (by show (0 : Int).toNat ≤ j ∧ j < (0 : Int).toNat + (3056 : Int).toNat; omega)]
    congr 1
    show 0 + (j - 0) = j
    omega
  have i4 : ∀ j, j < 16 → N4 (d + 2) j = N2 (s + 2) j := fun j hj => by
    rw [h4, cpy_in (by show (0 : Int).toNat ≤ j ∧ j < (0 : Int).toNat + (16 : Int).toNat; omega)]
    congr 1
    show 0 + (j - 0) = j
    omega
  have s2 : N4 s 2 = N s 2 := by rw [o4 s (by omega), o2 s (by omega)]
  have s3 : m_up N4 d 2 (N s 2) s 3 = N s 3 := by rw [up_o (by omega), o4 s (by omega), o2 s (by omega)]
  unfold f_X4_copyFrom
  rw [if_pos (by omega), ← h2]
  dsimp only
  rw [if_pos (by omega), ← h4, s2, s3]
  refine ok_ret ⟨fun j hj => ?_, fun j hj => ?_, ?_, up_s, ?_⟩
  · rw [up_o (by omega), up_o (by omega), o4 _ (by omega)]; exact i2 j hj
  · rw [up_o (by omega), up_o (by omega), i4 j hj, o2 _ (by omega)]
  · rw [up_k (by omega), up_s]
  · refine fr_up (fr_up (fun o k q => ?_) (Or.inr (Or.inr ⟨rfl, Or.inl rfl⟩))) (Or.inr (Or.inr ⟨rfl, Or.inr rfl⟩))
    have q1 : o ≠ d + 1 := fun e => q (Or.inl e)
    have q2 : o ≠ d + 2 := fun e => q (Or.inr (Or.inl e))
    rw [o4 o q2, o2 o q1]
theorem cun_ext {N' : NN} {un : Un} (h : CUn N un) (e2 : N' 13 2 = N 13 2) (e3 : N' 13 3 = N 13 3) (h14 : ∀ j, j < 3056 → N' 14 j = N 14 j) (h15 : ∀ j, j < 16 → N' 15 j = N 15 j) : CUn N' un := by
  obtain ⟨a, b, c, d⟩ := h
  refine ⟨e3.trans a, by rw [e2]; exact b, by rw [e2]; exact c, fun i hi => ?_⟩
  obtain ⟨g1, g2⟩ := d i hi
  rw [e2]
  have hs : slot (N 13 2) un.1 i < 16 := by unfold slot; exact Nat.mod_lt _ (by omega)
  exact ⟨ru_ext g1 fun j hj => h14 _ (by omega), by rw [h15 _ hs]; exact g2⟩
theorem c_run {L : List OCl} {r : Nat → Int} {lw : Nat → Law} {un : Un} {z : Nat} (hX : XOK X) (hLw : LWF X N 4) (hW : CW X N 4 B r lw) (hU : CUn N un) (hV : UV B r un) (hz : z ≤ 400) (hL : L.length ≤ 12) (h3 : N 21 3 = (z : Int)) (h4 : N 21 4 = (L.length : Int)) (hc : ∀ j c, L[j]? = some c → COC 32 N j c z) (hB : B + 300 ≤ 1000000) : Ok (f_X3_run X 21 4 13 N) (fun o => Fr frO3 N o.2 ∧ LWF X o.2 4 ∧ ((∃ j : Nat, runO lw L 13 0 (r, un, 0, -1) = .inl j ∧ o.1 = -1 ∧ o.2 33 5 = (j : Int) ∧ CW X o.2 4 B r lw ∧ CUn o.2 un) ∨ ∃ s', runO lw L 13 0 (r, un, 0, -1) = .inr s' ∧ o.1 = s'.2.2.1 ∧ o.2 33 5 = -1 ∧ CS X B lw o.2 s' ∧ s'.2.2.1 ≤ 240)) := by
  unfold f_X3_run
  refine ok_bind (c_copyFrom (d := 34) (s := 4) (by omega) hLw) ?_
  intro N1 ⟨p1, p2, p3⟩
  obtain ⟨w1, w2⟩ := cw_copy (d := 34) (by omega) hW hLw p1 p2 p3
  refine ok_bind (c_pcopy (X := X) (d := 37) (s := 13) (by omega)) ?_
  intro N2 ⟨q1, q2, q3, q4, q5⟩
  obtain ⟨N5, hN⟩ : ∃ N5, N5 = m_up (m_up (m_up N2 33 5 (-1)) 33 6 0) 33 7 (-1) := ⟨_, rfl⟩
  have f5 : Fr (fun o k => o = 33 ∧ (k = 5 ∨ k = 6 ∨ k = 7)) N2 N5 := by rw [hN]; exact fr_up (fr_up (fr_up fr_rfl (by omega)) (by omega)) (by omega)
  dsimp only
  rw [← hN]
  have f05 : Fr frO3 N N5 := fr_tr (fr_mono p3 fun o k q => by unfold frO3; omega) (fr_tr (fr_mono q5 fun o k q => by unfold frO3; omega) (fr_mono f5 fun o k q => by unfold frO3 frOr; omega))
  have z5 : ∀ o, o ≠ 33 → o ≠ 35 → o ≠ 36 → o ≠ 37 → o ≠ 38 → o ≠ 39 → N5 o = N o := fun o a1 a2 a3 a4 a5 a6 => funext fun k => ((f5 o k (by omega)).trans (q5 o k (by omega))).trans (p3 o k (by omega))
  have S5 : CS X B lw N5 (r, un, 0, -1) := by
    refine ⟨?_, cun_eq hU (z5 _ (by omega) (by omega) (by omega) (by omega) (by omega) (by omega)) (z5 _ (by omega) (by omega) (by omega) (by omega) (by omega) (by omega)) (z5 _ (by omega) (by omega) (by omega) (by omega) (by omega) (by omega)), ?_, ?_, ?_, ?_, ?_, ?_⟩
    · dsimp only
      rw [Int.add_zero]
      exact cw_eq hW (z5 _ (by omega) (by omega) (by omega) (by omega) (by omega) (by omega)) (z5 _ (by omega) (by omega) (by omega) (by omega) (by omega) (by omega)) (fun o p => z5 _ (by omega) (by omega) (by omega) (by omega) (by omega) (by omega))
    · rw [hN, up_k (by omega), up_s]
    · rw [hN, up_s]
    · dsimp only
      rw [Int.add_zero]
      exact hV
    · dsimp only; omega
    · dsimp only; omega
    · dsimp only; omega
  have z21 : ∀ o, (o = 21 ∨ o = 22 ∨ o = 23 ∨ o = 24) → ∀ k, N5 o k = N o k := fun o q k => congrFun (z5 o (by omega) (by omega) (by omega) (by omega) (by omega) (by omega)) k
  refine ok_bind (c_runL (X := X) (lw := lw) (L := L) (z := z) hX hz hL hB 13 0 (r, un, 0, -1) N5 rfl (Nat.zero_le _) ((z21 21 (by omega) 3).trans h3) ((z21 21 (by omega) 4).trans h4) (fun j c hj => coc_mono (hc j c hj) (Nat.le_refl _) (fun k _ => z21 24 (by omega) k) (fun k _ => ⟨z21 22 (by omega) k, z21 23 (by omega) k⟩)) (show (0 : Int) ≤ 20 * ((0 : Nat) : Int) by omega) S5) ?_
  rintro o (⟨j, M, e1, rfl, e3⟩ | ⟨s', M, e1, rfl, e3, e4, e5⟩)
  · dsimp only
    have zM : ∀ o, (34 ≤ o ∧ o ≤ 39) ∨ o = 6 ∨ 104 ≤ o → M o = N5 o := fun o q => fr_of e3 o fun k => by unfold frOr frK; omega
    have w34 : CW X M 34 B r lw := cw_eq w1 (funext fun k => ((congrFun (zM _ (by omega)) k).trans (f5 _ k (by omega))).trans (q5 _ k (by omega))) (funext fun k => ((congrFun (zM _ (by omega)) k).trans (f5 _ k (by omega))).trans (q5 _ k (by omega))) (fun o p => funext fun k => ((congrFun (zM _ (by omega)) k).trans (f5 _ k (by omega))).trans (q5 _ k (by omega)))
    have l34 : LWF X M 34 := lwf_eq w2 (funext fun k => ((congrFun (zM _ (by omega)) k).trans (f5 _ k (by omega))).trans (q5 _ k (by omega)))
    refine ok_bind (c_copyFrom (d := 4) (s := 34) (by omega) l34) ?_
    intro M1 ⟨b1, b2, b3⟩
    obtain ⟨y1, y2⟩ := cw_copy (d := 4) (by omega) w34 l34 b1 b2 b3
    refine ok_bind (c_pcopy (X := X) (d := 13) (s := 37) (by omega)) ?_
    intro M2 ⟨c1, c2, c3, c4, c5⟩
    have k37 : ∀ o, (37 ≤ o ∧ o ≤ 39) → ∀ k, M1 o k = N2 o k := fun o q k => ((b3 o k (by omega)).trans (congrFun (zM o (by omega)) k)).trans (f5 o k (by omega))
    have n2 : ∀ o, (13 ≤ o ∧ o ≤ 15) → ∀ k, N1 o k = N o k := fun o q k => p3 o k (by omega)
    have fM : Fr frO3 N (m_up M2 33 5 (j : Int)) := fr_up (fr_tr f05 (fr_tr (fr_mono e3 fun o k q => Or.inl q) (fr_tr (fr_mono b3 fun o k q => by unfold frO3 frOr frK; omega) (fr_mono c5 fun o k q => by unfold frO3 frOr frK; omega)))) (by unfold frO3; omega)
    have zz : ∀ o, o ≠ 13 → o ≠ 14 → o ≠ 15 → o ≠ 33 → m_up M2 33 5 (j : Int) o = M1 o := fun o a1 a2 a3 a4 => by
      rw [up_of a4]
      exact fr_of c5 o fun k => by omega
    obtain ⟨P, hP⟩ : ∃ P, P = m_up M2 33 5 (j : Int) := ⟨_, rfl⟩
    rw [← hP] at fM zz ⊢
    have p33 : P 33 5 = (j : Int) := by rw [hP, up_s]
    have pk : ∀ o k, o ≠ 33 → P o k = M2 o k := fun o k q => by rw [hP, up_o q]
    have wP : CW X P 4 B r lw := cw_eq y1 (zz 5 (by omega) (by omega) (by omega) (by omega)) (zz 6 (by omega) (by omega) (by omega) (by omega)) (fun o p => zz o (by omega) (by omega) (by omega) (by omega))
    have lP : LWF X P 4 := lwf_eq y2 (zz 6 (by omega) (by omega) (by omega) (by omega))
    have uP : CUn P un := by
      refine cun_ext hU ?_ ?_ (fun i hi => ?_) (fun i hi => ?_)
      · rw [pk 13 2 (by omega), c3, k37 37 (by omega), q3, n2 13 (by omega)]
      · rw [pk 13 3 (by omega), c4, k37 37 (by omega), q4, n2 13 (by omega)]
      · have u1 : M2 14 i = M1 38 i := c1 i hi
        have u2 : N2 38 i = N1 14 i := q1 i hi
        rw [pk 14 i (by omega), u1, k37 38 (by omega), u2, n2 14 (by omega)]
      · have u1 : M2 15 i = M1 39 i := c2 i hi
        have u2 : N2 39 i = N1 15 i := q2 i hi
        rw [pk 15 i (by omega), u1, k37 39 (by omega), u2, n2 15 (by omega)]
    exact ok_ret ⟨fM, lP, Or.inl ⟨j, e1, rfl, p33, wP, uP⟩⟩
  · dsimp only
    rw [e4.2.2.1]
    refine ok_ret ⟨fr_tr f05 (fr_mono e3 fun o k q => Or.inl q), ?_, Or.inr ⟨s', e1, rfl, ?_, e4, e5⟩⟩
    · exact lwf_eq hLw ((fr_of e3 6 fun k => by unfold frOr frK; omega).trans (z5 6 (by omega) (by omega) (by omega) (by omega) (by omega) (by omega)))
    · show M 33 5 = -1
      rw [e3 33 5 (by unfold frOr frK; omega), hN, up_k (by omega), up_k (by omega), up_s]
end OS2
