/-! reading: whole orders -/
noncomputable def pOxL (tp : Nat → Int) (n : Nat) : Nat → Nat → Nat → List OCl → Nat ⊕ List OCl
  | 0, t, _, _ => .inl t
  | f + 1, t, np, L => if tkK tp n t = 59 then (if L.length = 12 then .inl (t + 1) else match pOc tp n (t + 1) np with
    | .inl x => .inl x
    | .inr q => pOxL tp n f q.1 q.2.1 (L ++ [q.2.2])) else if tkK tp n t = -1 then .inr L else .inl t
noncomputable def pOx (tp : Nat → Int) (n : Nat) : Nat ⊕ List OCl := match pOc tp n 0 0 with
  | .inl x => .inl x
  | .inr q => pOxL tp n 12 q.1 q.2.1 [q.2.2]
def OXq (W : Int) (tp : Nat → Int) (n : Nat) (N : NN) (r : Nat ⊕ List OCl) (o : Int × NN) : Prop := Fr frCl N o.2 ∧ match r with
  | .inl f => o.1 = 0 ∧ o.2 16 6 = (tkS tp n f : Int)
  | .inr L => o.1 = 1 ∧ ∃ z : Nat, z ≤ 400 ∧ L.length ≤ 12 ∧ o.2 21 4 = (L.length : Int) ∧ o.2 21 3 = (z : Int) ∧ o.2 16 6 = -1 ∧ ∀ i c, L[i]? = some c → COC W o.2 i c z
def OYq (W : Int) (tp : Nat → Int) (n : Nat) (N : NN) (r : Nat ⊕ List OCl) (M : NN) : Prop := Fr (fun o k => frRor o k ∨ (o = 64 ∧ (k = 13 ∨ k = 20))) N M ∧ (M 64 20 = 0 ∧ M 64 13 = 0) ∧ match r with
  | .inl f => FS2 M tp n f
  | .inr L => (M 64 19 = 0 ∧ M 64 18 = -1) ∧ ∃ z : Nat, z ≤ 400 ∧ L.length ≤ 12 ∧ M 64 21 = (L.length : Int) ∧ M 64 23 = (z : Int) ∧ (∀ k : Nat, k < z → 0 ≤ M 75 k ∧ M 75 k ≤ 30) ∧ ∀ i c, L[i]? = some c → ROC W M i c z
section TX
variable {X : MX} {N : NN} {tp : Nat → Int} {n : Nat} {W : Int}
theorem ox_i {N : NN} {f : Nat} {M : NN} (h1 : Fr frCl N M) (h2 : M 16 6 = (tkS tp n f : Int)) : OXq W tp n N (.inl f) (0, M) := ⟨h1, rfl, h2⟩
theorem ox_tr {M : NN} {r : Nat ⊕ List OCl} {o : Int × NN} (h : OXq W tp n M r o) (f : Fr frCl N M) : OXq W tp n N r o := ⟨fr_tr f h.1, h.2⟩
theorem oy_tr {M M' : NN} {r : Nat ⊕ List OCl} (h : OYq W tp n M r M') (f : Fr frRor N M) : OYq W tp n N r M' := ⟨fr_tr (fr_mono f fun o k q => Or.inl q) h.1, h.2⟩
theorem oapp_get {L : List OCl} {c d : OCl} {i : Nat} (h : (L ++ [d])[i]? = some c) : (i < L.length ∧ L[i]? = some c) ∨ (i = L.length ∧ c = d) := by
  rcases Nat.lt_or_ge i L.length with g | g
  · rw [List.getElem?_append_left g] at h
    exact Or.inl ⟨g, h⟩
  · rw [List.getElem?_append_right g] at h
    by_cases e : i - L.length = 0
    · rw [e] at h
      exact Or.inr ⟨by omega, (Option.some.inj h).symm⟩
    · rw [show i - L.length = (i - L.length - 1) + 1 by omega] at h
      cases h
theorem olget_lt {L : List OCl} {c : OCl} {i : Nat} (h : L[i]? = some c) : i < L.length := by
  rcases Nat.lt_or_ge i L.length with g | g
  · exact g
  · rw [List.getElem?_eq_none g] at h; cases h
theorem c_otext (hn : n ≤ 400) (hb : ∀ j, j < n → 0 ≤ tp j ∧ tp j ≤ 255) (hX : XOK X) (hW : W = 32) : ∀ (f t np z : Nat) (L : List OCl) (N : NN), f + L.length = 13 → 1 ≤ L.length → L.length ≤ 12 → KAc N tp n → CSt N tp n true t np z → N 21 4 = (L.length : Int) → (∀ i c, L[i]? = some c → COC W N i c z) → Ok (Option.bind (lp (fun s => b_X5_reads_62 X s.1 s.2.1 s.2.2) (N, 1, (L.length : Int))) (fun o21 => if o21.2 = 0 then f_X5_reads_j147 X o21.1 else if (o21.1 16 10) = (-1) then f_X5_reads_j143 X o21.1 else Option.bind (f_X5_wrong X o21.1) (fun o22 => if o22.1 = 0 then f_X5_reads_j147 X o22.2 else f_X5_reads_j143 X o22.2))) (OXq W tp n N (pOxL tp n f t np L))
  | 0, t, np, z, L, N, hf, h1, h2, hA, h, h4, hL => by omega
  | f + 1, t, np, z, L, N, hf, h1, h2, hA, h, h4, hL => by
    rw [pOxL]
    have zt := h.2.2.2.2.2.2.1
    have t4 := kak_le hn h.2.2.2.2.2.1
    have stop0 : ∀ (M : NN) (v : Int), lp (fun s => b_X5_reads_62 X s.1 s.2.1 s.2.2) (M, 0, v) = some (M, 0) := fun M v => by
      refine lp_end ?_
      dsimp only
      unfold b_X5_reads_62
      by_cases g : 12 < v
      · rw [if_pos g]
      · rw [if_neg g, if_pos rfl]
    have out0 : ∀ M : NN, f_X5_reads_j147 X M = some (0, M) := fun M => by unfold f_X5_reads_j147 f_X5_reads_j148; rw [if_pos (by omega)]
    by_cases c : tkK tp n t = 59
    case neg =>
      rw [if_neg c]
      rw [lp_end (t := (N, 1)) (by dsimp only; unfold b_X5_reads_62; rw [if_neg (by omega), if_neg (by omega), if_neg (by rw [h.2.1]; exact c)]), Option.bind_some]
      dsimp only
      rw [if_neg (by omega)]
      by_cases g : tkK tp n t = -1
      · rw [if_pos (show N 16 10 = -1 by rw [h.2.1]; exact g), if_pos g]
        unfold f_X5_reads_j143 f_X5_reads_j148
        rw [if_pos (by omega)]
        exact ok_ret ⟨fr_rfl, rfl, z, by omega, h2, h4, h.2.2.2.2.1, h.2.2.2.2.2.2.2.2, hL⟩
      · rw [if_neg (show ¬ N 16 10 = -1 by rw [h.2.1]; exact g), if_neg g, c_wrong hn hA h, Option.bind_some, if_pos rfl, out0]
        exact ok_ret (ox_i (fr_up fr_rfl (Or.inl (by unfold frRd; omega))) (by dsimp only; exact up_s))
    rw [if_pos c]
    obtain ⟨ad, C2⟩ := c_advance hn hb hA h (by omega)
    obtain ⟨M2, hM2⟩ : ∃ M2, M2 = m_up (m_up N 16 9 ((t : Int) + 1)) 16 10 (tkK tp n (t + 1)) := ⟨_, rfl⟩
    rw [← hM2] at ad C2
    have f2 : Fr (fun o k => o = 16 ∧ (k = 9 ∨ k = 10)) N M2 := by rw [hM2]; exact fr_up (fr_up fr_rfl (by omega)) (by omega)
    have f2c : Fr frCl N M2 := fr_mono f2 fun o k q => Or.inl (by unfold frRd; omega)
    have A2 := kac_cl hA f2c
    by_cases cl : L.length = 12
    · rw [if_pos cl]
      have B : b_X5_reads_62 X N 1 (L.length : Int) = some (.inl (m_up M2 16 6 (tkS tp n (t + 1) : Int), 0, (L.length : Int) + 1)) := by
        unfold b_X5_reads_62 f_X5_reads_l62_j118
        rw [if_neg (by omega), if_neg (by omega), if_pos (by rw [h.2.1]; exact c), ad, Option.bind_some, if_pos (by omega), c_wrong hn A2 C2, Option.bind_some, w_id (by omega) (by omega)]
      rw [lp_next (f := fun s => b_X5_reads_62 X s.1 s.2.1 s.2.2) (s := (N, 1, (L.length : Int))) B, stop0, Option.bind_some]
      dsimp only
      rw [if_pos rfl, out0]
      exact ok_ret (ox_i (fr_up f2c (Or.inl (by unfold frRd; omega))) up_s)
    rw [if_neg cl]
    obtain ⟨⟨v, M3⟩, e3, R⟩ := c_orderClause (X := X) (i := L.length) hn hb hX hW A2 (by omega) C2 (by rw [f2 21 4 (by omega)]; exact h4)
    have B : b_X5_reads_62 X N 1 (L.length : Int) = some (.inl (M3, v, (L.length : Int) + 1)) := by
      unfold b_X5_reads_62 f_X5_reads_l62_j117 f_X5_reads_l62_j118
      rw [if_neg (by omega), if_neg (by omega), if_pos (by rw [h.2.1]; exact c), ad, Option.bind_some, if_neg (by omega), if_pos (show M2 16 7 = 0 by rw [C2.2.2.2.1, if_pos rfl]), e3, Option.bind_some, w_id (by omega) (by omega)]
    rw [lp_next (f := fun s => b_X5_reads_62 X s.1 s.2.1 s.2.2) (s := (N, 1, (L.length : Int))) B]
    cases hr : pOc tp n (t + 1) np with
    | inl x =>
      rw [hr] at R
      obtain ⟨q1, q2, q3⟩ := R
      dsimp only at q1 q2 q3
      subst q2
      rw [stop0, Option.bind_some]
      dsimp only
      rw [if_pos rfl, out0]
      exact ok_ret (ox_i (fr_tr f2c q1) q3)
    | inr q =>
      rw [hr] at R
      obtain ⟨q1, q2, z', q3, q4, q5, q6, q7, q8, q9⟩ := R
      dsimp only at q1 q2 q3 q5 q6 q7 q8
      subst q2
      dsimp only
      have el : ((L ++ [q.2.2]).length) = L.length + 1 := by rw [List.length_append]; rfl
      have ih := c_otext hn hb hX hW f q.1 q.2.1 z' (L ++ [q.2.2]) M3 (by omega) (by omega) (by omega) (kac_cl A2 q1) q3 (by rw [el]; omega) (fun i c' hc => by
        rcases oapp_get hc with ⟨g1, g2⟩ | ⟨g1, g2⟩
        · have gl := olget_lt g2
          refine coc_mono (hL i c' g2) q4 (fun k hk => ?_) (fun k hk => ?_)
          · rw [q8 k (by omega), f2 24 k (by omega)]
          · have y := q7 k hk
            exact ⟨y.1.trans (f2 22 k (by omega)), y.2.trans (f2 23 k (by omega))⟩
        · rw [g1, g2]; exact q5)
      rw [el, show ((L.length + 1 : Nat) : Int) = (L.length : Int) + 1 by omega] at ih
      exact ok_mono ih fun o w => ox_tr w (fr_tr f2c q1)
theorem r_otext (hn : n ≤ 400) (hb : ∀ j, j < n → 0 ≤ tp j ∧ tp j ≤ 255) (hW : W = 32) : ∀ (f t np z : Nat) (L : List OCl) (N : NN), f + L.length = 13 → 1 ≤ L.length → L.length ≤ 12 → RB N tp n true t np → RZ N t z → N 64 21 = (L.length : Int) → (∀ i c, L[i]? = some c → ROC W N i c z) → Ok (Option.bind (lp (fun s => b_X12_orders_19 X s) N) (fun o11 => f_X12_endText X o11)) (OYq W tp n N (pOxL tp n f t np L))
  | 0, t, np, z, L, N, hf, h1, h2, h, hz, h4, hL => by omega
  | f + 1, t, np, z, L, N, hf, h1, h2, h, hz, h4, hL => by
    rw [pOxL]
    have t4 := kak_le hn h.2.2.2.2.2.1
    have z4 := hz.2.1
    obtain ⟨_, _, n3, n4⟩ := ref_num hb h.1
    have endF : ∀ (M : NN) (x : Nat), Fr frRor N M → FS2 M tp n x → Ok (f_X12_endText X M) (OYq W tp n N (.inl x)) := by
      intro M x hfr hx
      unfold f_X12_endText f_X12_endText_j19
      dsimp only
      rw [if_neg (show ¬ M 64 19 = 0 by rw [hx.1]; omega)]
      exact ok_ret ⟨fr_up (fr_up (fr_mono hfr fun o k q => Or.inl q) (Or.inr ⟨rfl, Or.inr rfl⟩)) (Or.inr ⟨rfl, Or.inl rfl⟩), ⟨by rw [up_k (by omega), up_s], up_s⟩, by rw [up_k (by omega), up_k (by omega)]; exact hx.1, by rw [up_k (by omega), up_k (by omega)]; exact hx.2⟩
    have stopF : ∀ (M : NN) (x : Nat), FS2 M tp n x → lp (fun s => b_X12_orders_19 X s) M = some M := fun M x hx => by
      refine lp_end ?_
      unfold b_X12_orders_19
      rw [if_neg (show ¬ M 64 19 = 0 by rw [hx.1]; omega)]
    by_cases c : tkK tp n t = 59
    case neg =>
      rw [if_neg c]
      rw [lp_end (t := N) (by unfold b_X12_orders_19; rw [if_pos h.2.2.1, ref_isSign (c := 59) (by omega) (by decide) (by decide) hb h.1, Option.bind_some, if_neg c, i00]), Option.bind_some]
      by_cases g : tkK tp n t = -1
      · rw [if_pos g]
        unfold f_X12_endText f_X12_endText_j19
        dsimp only
        rw [if_pos h.2.2.1, if_pos (n3.2 (n4.1 g))]
        have fz : Fr (fun o k => o = 64 ∧ (k = 13 ∨ k = 20)) N (m_up (m_up N 64 20 0) 64 13 0) := fr_up (fr_up fr_rfl (by omega)) (by omega)
        refine ok_ret ⟨fr_mono fz fun o k q => Or.inr q, ⟨by rw [up_k (by omega), up_s], up_s⟩, ⟨(fz 64 19 (by omega)).trans h.2.2.1, (fz 64 18 (by omega)).trans h.2.2.2.2.2.2.2.2.2⟩, z, by omega, h2, (fz 64 21 (by omega)).trans h4, (fz 64 23 (by omega)).trans hz.1, fun k hk => by rw [fz 75 k (by omega)]; exact hz.2.2 k hk, fun i c' hc => roc_mono (hL i c' hc) (Nat.le_refl _) (fun k _ => fz 102 k (by omega)) fun k _ => ⟨fz 75 k (by omega), fz 76 k (by omega)⟩⟩
      · rw [if_neg g]
        obtain ⟨M, x1, x2, x3⟩ := rb_must0 (X := X) h
        have e16 : ¬ N 64 16 = 0 := fun y => g (n4.2 (n3.1 y))
        unfold f_X12_endText f_X12_endText_j19
        dsimp only
        rw [if_pos h.2.2.1, if_neg e16, x1, Option.bind_some]
        exact ok_ret ⟨fr_up (fr_up (fr_mono (fr_xo x3) fun o k q => Or.inl q) (Or.inr ⟨rfl, Or.inr rfl⟩)) (Or.inr ⟨rfl, Or.inl rfl⟩), ⟨by rw [up_k (by omega), up_s], up_s⟩, by rw [up_k (by omega), up_k (by omega)]; exact x2.1, by rw [up_k (by omega), up_k (by omega)]; exact x2.2⟩
    rw [if_pos c]
    obtain ⟨M2, e2, b2, f2⟩ := rb_next (X := X) hn hb h (by omega)
    have z2 := rz_t (rz_ag hz (ag_nx f2)) (show t ≤ t + 1 by omega)
    obtain ⟨M3, e3, R⟩ := r_readOrder (X := X) (i := L.length) hn hb hW h2 b2 z2 (by rw [f2 64 21 (by unfold frNx; omega)]; exact h4)
    have B : b_X12_orders_19 X N = some (.inl M3) := by
      unfold b_X12_orders_19
      rw [if_pos h.2.2.1, ref_isSign (c := 59) (by omega) (by decide) (by decide) hb h.1, Option.bind_some, if_pos c, i10, e2, Option.bind_some, e3, Option.bind_some]
    rw [lp_next B]
    have fN : Fr frRor N M2 := fr_xo (fr_nx f2)
    by_cases cl : L.length = 12
    · rw [if_pos cl]
      rw [if_neg (by omega)] at R
      obtain ⟨q1, q2⟩ := R
      rw [stopF M3 (t + 1) q2, Option.bind_some]
      exact endF M3 (t + 1) (fr_tr fN q1) q2
    rw [if_neg cl]
    rw [if_pos (by omega)] at R
    cases hr : pOc tp n (t + 1) np with
    | inl x =>
      rw [hr] at R
      obtain ⟨q1, q2⟩ := R
      rw [stopF M3 x q2, Option.bind_some]
      exact endF M3 x (fr_tr fN q1) q2
    | inr q =>
      rw [hr] at R
      obtain ⟨q1, z', q2, q3, q4, q5, q6, q7, q8, q9⟩ := R
      dsimp only
      have el : ((L ++ [q.2.2]).length) = L.length + 1 := by rw [List.length_append]; rfl
      have ih := r_otext hn hb hW f q.1 q.2.1 z' (L ++ [q.2.2]) M3 (by omega) (by omega) (by omega) q2 q3 (by rw [el, q5]; omega) (fun i c' hc => by
        rcases oapp_get hc with ⟨g1, g2⟩ | ⟨g1, g2⟩
        · have gl := olget_lt g2
          refine roc_mono (hL i c' g2) q4 (fun k hk => ?_) (fun k hk => ?_)
          · rw [q8 k (by omega), f2 102 k (by unfold frNx; omega)]
          · have y := q7 k hk
            exact ⟨y.1.trans (f2 75 k (by unfold frNx; omega)), y.2.trans (f2 76 k (by unfold frNx; omega))⟩
        · rw [g1, g2]; exact q6)
      exact ok_mono ih fun o w => oy_tr w (fr_tr fN q1)
end TX
