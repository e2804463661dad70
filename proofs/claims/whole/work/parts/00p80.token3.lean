/-! tokens: the reference's next() -/
def rsT (tp : Nat → Int) (n i : Nat) : Int := if i < n then (if lt1 (tp i) = true then 1 else if dg1 (tp i) = true then 2 else 3) else 0
def wvM (f : Nat → Int) (l : Nat) : Int := if l ≤ 10 then cwF f l else -1
def rwT (tp : Nat → Int) (n i : Nat) : Int := if i < n then (if lt1 (tp i) = true then wvM (fun j => tp (i + j)) (tkE tp n i - i) else if dg1 (tp i) = true then rvM (fun j => tp (i + j)) (tkE tp n i - i) else tp i) else 0
def LXm (N : NN) (tp : Nat → Int) (n i : Nat) : Prop := N 64 14 = (i : Int) ∧ N 64 15 = ((if i < n then tkE tp n i else n : Nat) : Int) ∧ N 64 16 = rsT tp n i ∧ N 64 17 = rwT tp n i
def TPm (N : NN) (tp : Nat → Int) (n : Nat) : Prop := N 64 13 = (n : Int) ∧ ∀ j, j < n → N 73 j = tp j
def TKm (N : NN) (tp : Nat → Int) (n t : Nat) : Prop := LXm N tp n (tkS tp n t)
def frNx (o k : Nat) : Prop := o = 64 ∧ 14 ≤ k ∧ k ≤ 17
theorem cw_lt {f : Nat → Int} : ∀ n, (∀ i, i < n → 97 ≤ f i ∧ f i ≤ 122) → cwF f n < ((32 ^ n : Nat) : Int)
  | 0, _ => by show (0 : Int) < 1; omega
  | n + 1, h => by
    have ih := cw_lt n fun i hi => h i (by omega)
    have q := h n (by omega)
    have e : ((32 ^ (n + 1) : Nat) : Int) = 32 * ((32 ^ n : Nat) : Int) := by rw [Nat.pow_succ, Nat.mul_comm]; exact Int.natCast_mul 32 (32 ^ n)
    rw [cwF, e]
    omega
section NX
variable {X : MX} {N : NN} {tp : Nat → Int} {n : Nat}
theorem tpm_fr {N' : NN} (h : TPm N tp n) (hf : Fr frNx N N') : TPm N' tp n := ⟨by rw [hf 64 13 (by unfold frNx; omega)]; exact h.1, fun j hj => by rw [hf 73 j (by unfold frNx; omega)]; exact h.2 j hj⟩
theorem ref_isSmall {c : Int} : f_X12_isSmall X N c = some (if lt1 c = true then 1 else 0) := by
  unfold f_X12_isSmall f_X12_isSmall_j16 f_X12_isSmall_j17 lt1
  by_cases a : c < 97
  · rw [if_pos a, if_pos (by omega), if_neg (fun z => by have := of_decide_eq_true z; omega)]
  · rw [if_neg a]
    by_cases b : 122 < c
    · rw [if_pos b, if_pos (by omega), if_neg (fun z => by have := of_decide_eq_true z; omega)]
    · rw [if_neg b, if_pos (by omega), if_pos (decide_eq_true (by omega))]
theorem ref_isDigit {c : Int} : f_X12_isDigit X N c = some (if dg1 c = true then 1 else 0) := by
  unfold f_X12_isDigit f_X12_isDigit_j16 f_X12_isDigit_j17 dg1
  by_cases a : c < 48
  · rw [if_pos a, if_pos (by omega), if_neg (fun z => by have := of_decide_eq_true z; omega)]
  · rw [if_neg a]
    by_cases b : 57 < c
    · rw [if_pos b, if_pos (by omega), if_neg (fun z => by have := of_decide_eq_true z; omega)]
    · rw [if_neg b, if_pos (by omega), if_pos (decide_eq_true (by omega))]
theorem ref_run149 {i : Nat} (hn : n ≤ 400) (hT : TPm N tp n) (h14 : N 64 14 = (i : Int)) (h16 : N 64 16 = 1) (h15 : N 64 15 = (i : Int)) (h17 : N 64 17 = 0) (hi : i < n) (hl : lt1 (tp i) = true) : Ok (lp (fun s => b_X12_next_149 X s) N) (fun M => M 64 15 = (tkE tp n i : Int) ∧ M 64 17 = wvM (fun j => tp (i + j)) (tkE tp n i - i) ∧ Fr (fun o k => o = 64 ∧ (k = 15 ∨ k = 17)) N M) := by
  have eE : tkE tp n i = rnE lt1 tp n 400 i := by unfold tkE; rw [if_pos hl, rn_s hn hi hl]
  have lets := tk_let (tp := tp) (n := n) hl
  refine ok_lp (fun M => ∃ x : Nat, i ≤ x ∧ x ≤ n ∧ M 64 15 = (x : Int) ∧ M 64 17 = wvM (fun j => tp (i + j)) (x - i) ∧ rnE lt1 tp n 400 x = tkE tp n i ∧ Fr (fun o k => o = 64 ∧ (k = 15 ∨ k = 17)) N M) (fun M => n - (M 64 15).toNat) ?_ ⟨i, Nat.le_refl _, by omega, h15, by rw [h17, Nat.sub_self]; rfl, eE.symm, fr_rfl⟩
  rintro M ⟨x, x0, x1, m15, m17, hr, hf⟩
  have hTM : TPm M tp n := tpm_fr hT (fr_mono hf fun o k q => by unfold frNx; omega)
  have m16 : M 64 16 = 1 := by rw [hf 64 16 (by omega)]; exact h16
  have m14 : M 64 14 = (i : Int) := by rw [hf 64 14 (by omega)]; exact h14
  unfold b_X12_next_149 f_X12_next_l149_j227
  rw [if_pos m16, m15, hTM.1, m14]
  by_cases c : (x : Int) < (n : Int)
  case neg =>
    rw [if_neg c]
    rw [rn_e (by omega)] at hr
    exact ok_ret ⟨by rw [m15, hr], by rw [m17, hr], hf⟩
  rw [if_pos c, if_pos (by omega), Int.toNat_natCast, hTM.2 x (by omega), ref_isSmall, Option.bind_some]
  by_cases d : lt1 (tp x) = true
  case neg =>
    rw [if_neg d, i00]
    rw [rn_e (fun z => d z.2)] at hr
    exact ok_ret ⟨by rw [m15, hr], by rw [m17, hr], hf⟩
  rw [if_pos d, i10, w_id (x := (x : Int) - (i : Int)) (by omega) (by omega)]
  rw [rn_s hn (by omega) d] at hr
  have xe : x < tkE tp n i := by have := (rn_b (p := lt1) (tp := tp) (n := n) 400 (x + 1)).1; omega
  have K : ∀ v, v = wvM (fun j => tp (i + j)) (x + 1 - i) → Ok (some (.inl (m_up (m_up M 64 17 v) 64 15 (m_w ((m_up M 64 17 v) 64 15 + 1)))) : Option (NN ⊕ NN)) (fun o => ∃ M', o = .inl M' ∧ (∃ y : Nat, i ≤ y ∧ y ≤ n ∧ M' 64 15 = (y : Int) ∧ M' 64 17 = wvM (fun j => tp (i + j)) (y - i) ∧ rnE lt1 tp n 400 y = tkE tp n i ∧ Fr (fun o k => o = 64 ∧ (k = 15 ∨ k = 17)) N M') ∧ n - (M' 64 15).toNat < n - x) := by
    intro v hv
    have e15 : (m_up M 64 17 v) 64 15 = (x : Int) := by rw [up_k (by omega)]; exact m15
    rw [e15, w_id (x := (x : Int) + 1) (by omega) (by omega)]
    refine ok_ret ⟨_, rfl, ⟨x + 1, by omega, by omega, by rw [up_s]; omega, by rw [up_k (by omega), up_s]; exact hv, hr, fr_up (fr_up hf (by omega)) (by omega)⟩, ?_⟩
    rw [up_s]
    omega
  have W : ∀ {y : Option (NN ⊕ NN)}, Ok y (fun o => ∃ M', o = .inl M' ∧ (∃ y : Nat, i ≤ y ∧ y ≤ n ∧ M' 64 15 = (y : Int) ∧ M' 64 17 = wvM (fun j => tp (i + j)) (y - i) ∧ rnE lt1 tp n 400 y = tkE tp n i ∧ Fr (fun o k => o = 64 ∧ (k = 15 ∨ k = 17)) N M') ∧ n - (M' 64 15).toNat < n - x) → Ok y (fun o => match o with | .inl s' => (∃ x : Nat, i ≤ x ∧ x ≤ n ∧ s' 64 15 = (x : Int) ∧ s' 64 17 = wvM (fun j => tp (i + j)) (x - i) ∧ rnE lt1 tp n 400 x = tkE tp n i ∧ Fr (fun o k => o = 64 ∧ (k = 15 ∨ k = 17)) N s') ∧ n - (s' 64 15).toNat < n - x | .inr t => t 64 15 = (tkE tp n i : Int) ∧ t 64 17 = wvM (fun j => tp (i + j)) (tkE tp n i - i) ∧ Fr (fun o k => o = 64 ∧ (k = 15 ∨ k = 17)) N t) := by
    intro y hy
    refine ok_mono hy ?_
    rintro o ⟨M', rfl, h⟩
    exact h
  try dsimp only
  by_cases l10 : (x : Int) - (i : Int) < 10
  · rw [if_pos l10, if_pos (by omega)]
    have b := cw_lt (f := fun j => tp (i + j)) (x - i) fun j hj => lets j (by omega)
    have b0 := (cw_b (f := fun j => tp (i + j)) (x - i) fun j hj => lets j (by omega)).1
    have p : 32 ^ (x - i) ≤ 32 ^ 9 := Nat.pow_le_pow_right (by omega) (by omega)
    have tx := lets (x - i) (by omega)
    rw [show i + (x - i) = x by omega] at tx
    have ev : wvM (fun j => tp (i + j)) (x - i) = cwF (fun j => tp (i + j)) (x - i) := by unfold wvM; rw [if_pos (by omega)]
    rw [m17, ev, wl_id (x := cwF (fun j => tp (i + j)) (x - i) * 32) (by omega) (by omega), wl_id (x := cwF (fun j => tp (i + j)) (x - i) * 32 + tp x) (by omega) (by omega), wl_id (x := cwF (fun j => tp (i + j)) (x - i) * 32 + tp x - 96) (by omega) (by omega)]
    refine ok_mono (W (K _ ?_)) (fun o h => by cases o <;> exact h)
    rw [show x + 1 - i = (x - i) + 1 by omega]
    unfold wvM
    rw [if_pos (by omega), cwF]
    try dsimp only
    rw [show i + (x - i) = x by omega]
  · rw [if_neg l10]
    refine ok_mono (W (K _ ?_)) (fun o h => by cases o <;> exact h)
    unfold wvM
    rw [if_neg (by omega)]
theorem ref_run243 {i : Nat} (hn : n ≤ 400) (hT : TPm N tp n) (h14 : N 64 14 = (i : Int)) (h16 : N 64 16 = 2) (h15 : N 64 15 = (i : Int)) (h17 : N 64 17 = 0) (hi : i < n) (h0 : lt1 (tp i) = false) (hl : dg1 (tp i) = true) : Ok (lp (fun s => b_X12_next_243 X s) N) (fun M => M 64 15 = (tkE tp n i : Int) ∧ M 64 17 = rvM (fun j => tp (i + j)) (tkE tp n i - i) ∧ Fr (fun o k => o = 64 ∧ (k = 15 ∨ k = 17)) N M) := by
  have eE : tkE tp n i = rnE dg1 tp n 400 i := by unfold tkE; rw [if_neg (by rw [h0]; decide), if_pos hl, rn_s hn hi hl]
  have lets := tk_dig (tp := tp) (n := n) h0 hl
  refine ok_lp (fun M => ∃ x : Nat, i ≤ x ∧ x ≤ n ∧ M 64 15 = (x : Int) ∧ M 64 17 = rvM (fun j => tp (i + j)) (x - i) ∧ rnE dg1 tp n 400 x = tkE tp n i ∧ Fr (fun o k => o = 64 ∧ (k = 15 ∨ k = 17)) N M) (fun M => n - (M 64 15).toNat) ?_ ⟨i, Nat.le_refl _, by omega, h15, by rw [h17, Nat.sub_self]; rfl, eE.symm, fr_rfl⟩
  rintro M ⟨x, x0, x1, m15, m17, hr, hf⟩
  have hTM : TPm M tp n := tpm_fr hT (fr_mono hf fun o k q => by unfold frNx; omega)
  have m16 : M 64 16 = 2 := by rw [hf 64 16 (by omega)]; exact h16
  unfold b_X12_next_243 f_X12_next_l243_j319
  rw [if_pos m16, m15, hTM.1]
  by_cases c : (x : Int) < (n : Int)
  case neg =>
    rw [if_neg c]
    rw [rn_e (by omega)] at hr
    exact ok_ret ⟨by rw [m15, hr], by rw [m17, hr], hf⟩
  rw [if_pos c, if_pos (by omega), Int.toNat_natCast, hTM.2 x (by omega), ref_isDigit, Option.bind_some]
  by_cases d : dg1 (tp x) = true
  case neg =>
    rw [if_neg d, i00]
    rw [rn_e (fun z => d z.2)] at hr
    exact ok_ret ⟨by rw [m15, hr], by rw [m17, hr], hf⟩
  rw [if_pos d, i10]
  rw [rn_s hn (by omega) d] at hr
  have xe : x < tkE tp n i := by have := (rn_b (p := dg1) (tp := tp) (n := n) 400 (x + 1)).1; omega
  have K : ∀ v, v = rvM (fun j => tp (i + j)) (x + 1 - i) → Ok (some (.inl (m_up (m_up M 64 17 v) 64 15 (m_w ((m_up M 64 17 v) 64 15 + 1)))) : Option (NN ⊕ NN)) (fun o => ∃ M', o = .inl M' ∧ (∃ x : Nat, i ≤ x ∧ x ≤ n ∧ M' 64 15 = (x : Int) ∧ M' 64 17 = rvM (fun j => tp (i + j)) (x - i) ∧ rnE dg1 tp n 400 x = tkE tp n i ∧ Fr (fun o k => o = 64 ∧ (k = 15 ∨ k = 17)) N M') ∧ n - (M' 64 15).toNat < n - x) := by
    intro v hv
    have e15 : (m_up M 64 17 v) 64 15 = (x : Int) := by rw [up_k (by omega)]; exact m15
    rw [e15, w_id (x := (x : Int) + 1) (by omega) (by omega)]
    refine ok_ret ⟨_, rfl, ⟨x + 1, by omega, by omega, by rw [up_s]; omega, by rw [up_k (by omega), up_s]; exact hv, hr, fr_up (fr_up hf (by omega)) (by omega)⟩, ?_⟩
    rw [up_s]
    omega
  have W : ∀ {y : Option (NN ⊕ NN)}, Ok y (fun o => ∃ M', o = .inl M' ∧ (∃ x : Nat, i ≤ x ∧ x ≤ n ∧ M' 64 15 = (x : Int) ∧ M' 64 17 = rvM (fun j => tp (i + j)) (x - i) ∧ rnE dg1 tp n 400 x = tkE tp n i ∧ Fr (fun o k => o = 64 ∧ (k = 15 ∨ k = 17)) N M') ∧ n - (M' 64 15).toNat < n - x) → Ok y (fun o => match o with | .inl s' => (∃ x : Nat, i ≤ x ∧ x ≤ n ∧ s' 64 15 = (x : Int) ∧ s' 64 17 = rvM (fun j => tp (i + j)) (x - i) ∧ rnE dg1 tp n 400 x = tkE tp n i ∧ Fr (fun o k => o = 64 ∧ (k = 15 ∨ k = 17)) N s') ∧ n - (s' 64 15).toNat < n - x | .inr t => t 64 15 = (tkE tp n i : Int) ∧ t 64 17 = rvM (fun j => tp (i + j)) (tkE tp n i - i) ∧ Fr (fun o k => o = 64 ∧ (k = 15 ∨ k = 17)) N t) := by
    intro y hy
    refine ok_mono hy ?_
    rintro o ⟨M', rfl, h⟩
    exact h
  try dsimp only
  have b := (nv_rv (f := fun j => tp (i + j)) (x - i) fun j hj => lets j (by omega)).2
  have tx := lets (x - i) (by omega)
  rw [show i + (x - i) = x by omega] at tx
  have es : rvM (fun j => tp (i + j)) (x + 1 - i) = if 1000000 < rvM (fun j => tp (i + j)) (x - i) then rvM (fun j => tp (i + j)) (x - i) else rvM (fun j => tp (i + j)) (x - i) * 10 + tp x - 48 := by
    rw [show x + 1 - i = (x - i) + 1 by omega, rvM]
    try dsimp only
    rw [show i + (x - i) = x by omega]
  rw [m17]
  by_cases l10 : 1000000 < rvM (fun j => tp (i + j)) (x - i)
  · rw [if_pos (lcmp_gt.2 l10)]
    refine ok_mono (W (K _ ?_)) (fun o h => by cases o <;> exact h)
    rw [es, if_pos l10]
  · rw [if_neg (fun z => l10 (lcmp_gt.1 z)), if_pos (by omega), wl_id (x := rvM (fun j => tp (i + j)) (x - i) * 10) (by omega) (by omega), wl_id (x := rvM (fun j => tp (i + j)) (x - i) * 10 + tp x) (by omega) (by omega), wl_id (x := rvM (fun j => tp (i + j)) (x - i) * 10 + tp x - 48) (by omega) (by omega)]
    refine ok_mono (W (K _ ?_)) (fun o h => by cases o <;> exact h)
    rw [es, if_neg l10]
theorem ref_next0 {p : Nat} (hn : n ≤ 400) (hT : TPm N tp n) (h15 : N 64 15 = (p : Int)) (hp : p ≤ n) : Ok (f_X12_next X N) (fun M => LXm M tp n (skB tp n p) ∧ Fr frNx N M) := by
  unfold f_X12_next
  dsimp only
  have H : Ok (lp (fun s => b_X12_next_8 X s) (m_up N 64 14 (N 64 15))) (fun M => M 64 14 = (skB tp n p : Int) ∧ Fr (fun o k => o = 64 ∧ k = 14) N M) := by
    refine ok_lp (fun M => ∃ x : Nat, p ≤ x ∧ x ≤ n ∧ M 64 14 = (x : Int) ∧ rnE bl1 tp n 400 x = skB tp n p ∧ Fr (fun o k => o = 64 ∧ k = 14) N M) (fun M => n - (M 64 14).toNat) ?_ ⟨p, Nat.le_refl _, hp, by rw [up_s, h15], rfl, fr_up fr_rfl ⟨rfl, rfl⟩⟩
    rintro M ⟨x, x0, x1, m14, hr, hf⟩
    have hTM : TPm M tp n := tpm_fr hT (fr_mono hf fun o k q => by unfold frNx; omega)
    unfold b_X12_next_8
    rw [m14, hTM.1]
    by_cases c : (x : Int) < (n : Int)
    case neg =>
      rw [if_neg c]
      rw [rn_e (by omega)] at hr
      exact ok_ret ⟨by rw [m14, hr], hf⟩
    rw [if_pos c, if_pos (by omega), Int.toNat_natCast, hTM.2 x (by omega)]
    by_cases d : tp x = 32
    · rw [if_pos d, w_id (x := (x : Int) + 1) (by omega) (by omega)]
      rw [rn_s hn (by omega) (decide_eq_true d)] at hr
      refine ok_ret ⟨⟨x + 1, by omega, by omega, by rw [up_s]; omega, hr, fr_up hf ⟨rfl, rfl⟩⟩, ?_⟩
      rw [up_s]
      omega
    · rw [if_neg d]
      rw [rn_e (fun z => d (of_decide_eq_true z.2))] at hr
      exact ok_ret ⟨by rw [m14, hr], hf⟩
  refine ok_bind H ?_
  rintro M ⟨m14, hf⟩
  obtain ⟨i, hi⟩ : ∃ i, i = skB tp n p := ⟨_, rfl⟩
  rw [← hi] at m14 ⊢
  have hin : i ≤ n := by rw [hi]; exact (rn_b (p := bl1) 400 p).2 hp
  obtain ⟨N8, h8⟩ : ∃ N8, N8 = m_up (m_up M 64 15 (M 64 14)) 64 17 0 := ⟨_, rfl⟩
  rw [← h8]
  have f8 : Fr frNx N N8 := by rw [h8]; exact fr_up (fr_up (fr_mono hf fun o k q => by unfold frNx; omega) (by unfold frNx; omega)) (by unfold frNx; omega)
  have hT8 := tpm_fr hT f8
  have a14 : N8 64 14 = (i : Int) := by rw [h8, up_k (by omega), up_k (by omega)]; exact m14
  have a15 : N8 64 15 = (i : Int) := by rw [h8, up_k (by omega), up_s]; exact m14
  have a17 : N8 64 17 = 0 := by rw [h8, up_s]
  rw [a14, hT8.1]
  have stop149 : ∀ M : NN, M 64 16 ≠ 1 → lp (fun s => b_X12_next_149 X s) M = some M := fun M h => by
    refine lp_end ?_
    unfold b_X12_next_149
    rw [if_neg h]
  have stop243 : ∀ M : NN, M 64 16 ≠ 2 → lp (fun s => b_X12_next_243 X s) M = some M := fun M h => by
    refine lp_end ?_
    unfold b_X12_next_243
    rw [if_neg h]
  by_cases c : (i : Int) = (n : Int)
  · rw [if_pos c]
    unfold f_X12_next_j114 f_X12_next_j149
    dsimp only
    rw [if_neg (by rw [up_s]; omega), stop149 _ (by rw [up_s]; omega), Option.bind_some, stop243 _ (by rw [up_s]; omega), Option.bind_some]
    refine ok_ret ⟨⟨by rw [up_k (by omega)]; exact a14, ?_, ?_, ?_⟩, fr_up f8 (by unfold frNx; omega)⟩
    · rw [up_k (by omega), a15, if_neg (by omega)]; exact c
    · rw [up_s]; unfold rsT; rw [if_neg (by omega)]
    · rw [up_k (by omega), a17]; unfold rwT; rw [if_neg (by omega)]
  have hi2 : i < n := by omega
  rw [if_neg c, if_pos (by omega), Int.toNat_natCast, hT8.2 i hi2, ref_isSmall, Option.bind_some]
  by_cases d : lt1 (tp i) = true
  · rw [if_pos d, i10]
    unfold f_X12_next_j114 f_X12_next_j149
    dsimp only
    rw [if_neg (by rw [up_s]; omega)]
    have f16 : Fr frNx N (m_up N8 64 16 1) := fr_up f8 (by unfold frNx; omega)
    refine ok_bind (ref_run149 hn (tpm_fr hT f16) (by rw [up_k (by omega)]; exact a14) up_s (by rw [up_k (by omega)]; exact a15) (by rw [up_k (by omega)]; exact a17) hi2 d) ?_
    rintro M9 ⟨q1, q2, q3⟩
    have m16 : M9 64 16 = 1 := by rw [q3 64 16 (by omega), up_s]
    rw [stop243 _ (by rw [m16]; omega), Option.bind_some]
    refine ok_ret ⟨⟨by rw [q3 64 14 (by omega), up_k (by omega)]; exact a14, by rw [q1, if_pos hi2], by rw [m16]; unfold rsT; rw [if_pos hi2, if_pos d], by rw [q2]; unfold rwT; rw [if_pos hi2, if_pos d]⟩, fr_tr f16 (fr_mono q3 fun o k q => by unfold frNx; omega)⟩
  rw [if_neg d, i00, if_pos (by omega), ref_isDigit, Option.bind_some]
  by_cases g : dg1 (tp i) = true
  · rw [if_pos g, i10]
    unfold f_X12_next_j114 f_X12_next_j149
    dsimp only
    rw [if_neg (by rw [up_s]; omega), stop149 _ (by rw [up_s]; omega), Option.bind_some]
    have f16 : Fr frNx N (m_up N8 64 16 2) := fr_up f8 (by unfold frNx; omega)
    refine ok_bind (ref_run243 hn (tpm_fr hT f16) (by rw [up_k (by omega)]; exact a14) up_s (by rw [up_k (by omega)]; exact a15) (by rw [up_k (by omega)]; exact a17) hi2 (Bool.eq_false_iff.mpr d) g) ?_
    rintro M9 ⟨q1, q2, q3⟩
    have m16 : M9 64 16 = 2 := by rw [q3 64 16 (by omega), up_s]
    refine ok_ret ⟨⟨by rw [q3 64 14 (by omega), up_k (by omega)]; exact a14, by rw [q1, if_pos hi2], by rw [m16]; unfold rsT; rw [if_pos hi2, if_neg d, if_pos g], by rw [q2]; unfold rwT; rw [if_pos hi2, if_neg d, if_pos g]⟩, fr_tr f16 (fr_mono q3 fun o k q => by unfold frNx; omega)⟩
  · rw [if_neg g, i00]
    unfold f_X12_next_j114 f_X12_next_j149
    dsimp only
    have b14 : (m_up N8 64 16 3) 64 14 = (i : Int) := by rw [up_k (by omega)]; exact a14
    have b73 : (m_up N8 64 16 3) 73 i = tp i := by rw [up_o (by omega)]; exact hT8.2 i hi2
    rw [if_pos up_s, b14, if_pos (by omega), Int.toNat_natCast, b73]
    have b15 : (m_up (m_up N8 64 16 3) 64 17 (tp i)) 64 15 = (i : Int) := by rw [up_k (by omega), up_k (by omega)]; exact a15
    rw [b15, w_id (x := (i : Int) + 1) (by omega) (by omega)]
    have m16 : (m_up (m_up (m_up N8 64 16 3) 64 17 (tp i)) 64 15 ((i : Int) + 1)) 64 16 = 3 := by rw [up_k (by omega), up_k (by omega), up_s]
    rw [stop149 _ (by rw [m16]; omega), Option.bind_some, stop243 _ (by rw [m16]; omega), Option.bind_some]
    have eE : tkE tp n i = i + 1 := by unfold tkE; rw [if_neg d, if_neg g]
    refine ok_ret ⟨⟨by rw [up_k (by omega), up_k (by omega)]; exact b14, by rw [up_s, if_pos hi2, eE]; omega, by rw [m16]; unfold rsT; rw [if_pos hi2, if_neg d, if_neg g], by rw [up_k (by omega), up_s]; unfold rwT; rw [if_pos hi2, if_neg d, if_neg g]⟩, fr_up (fr_up (fr_up f8 (by unfold frNx; omega)) (by unfold frNx; omega)) (by unfold frNx; omega)⟩
/-- the token behind t; behind the last one the end again -/
theorem ref_next {t : Nat} (hn : n ≤ 400) (hT : TPm N tp n) (h : TKm N tp n t) : Ok (f_X12_next X N) (fun M => TKm M tp n (t + 1) ∧ (tkS tp n t = n → TKm M tp n t) ∧ Fr frNx N M) := by
  have b := tkS_n (tp := tp) (n := n) t
  by_cases c : tkS tp n t < n
  · have e := tkE_b (tp := tp) c
    refine ok_mono (ref_next0 (p := tkE tp n (tkS tp n t)) hn hT (by rw [h.2.1, if_pos c]) e.2) ?_
    rintro M ⟨q1, q2⟩
    refine ⟨?_, fun z => by omega, q2⟩
    unfold TKm
    rw [tkS, if_pos c]
    exact q1
  · have en : tkS tp n t = n := by omega
    refine ok_mono (ref_next0 (p := n) hn hT (by rw [h.2.1, if_neg c]) (Nat.le_refl _)) ?_
    rintro M ⟨q1, q2⟩
    have es : skB tp n n = n := rn_e (by omega)
    rw [es] at q1
    refine ⟨?_, fun _ => ?_, q2⟩
    · unfold TKm
      rw [tkS, if_neg c]
      exact q1
    · unfold TKm
      rw [en]
      exact q1
theorem ref_isWord {t k : Nat} (hk : k < 25) (hb : ∀ j, j < n → 0 ≤ tp j ∧ tp j ≤ 255) (h : TKm N tp n t) : f_X12_isWord X N (wC k) = some (if tkK tp n t = 256 + (k : Int) then 1 else 0) := by
  unfold f_X12_isWord f_X12_isWord_j21 f_X12_isWord_j22
  rw [h.2.2.1, h.2.2.2]
  unfold rsT rwT tkK
  by_cases c : tkS tp n t < n
  case neg => rw [if_neg c, if_neg c, if_neg (by omega), if_pos (by omega), if_neg (by omega)]
  rw [if_pos c, if_pos c, if_pos c]
  by_cases d : lt1 (tp (tkS tp n t)) = true
  case neg =>
    simp only [if_neg d]
    rw [if_neg (show ¬ (if dg1 (tp (tkS tp n t)) = true then (2 : Int) else 3) = 1 by split <;> omega), if_pos (by omega)]
    have := hb _ c
    rw [if_neg (show ¬ (if dg1 (tp (tkS tp n t)) = true then (-2 : Int) else tp (tkS tp n t)) = 256 + (k : Int) by split <;> omega)]
  simp only [if_pos d]
  have lets := tk_let (tp := tp) (n := n) d
  have e : wvM (fun j => tp (tkS tp n t + j)) (tkE tp n (tkS tp n t) - tkS tp n t) = wC k ↔ wKd tp (tkS tp n t) (tkE tp n (tkS tp n t) - tkS tp n t) = 256 + (k : Int) := by
    rw [wKd_iff hk]
    unfold wvM
    by_cases l : tkE tp n (tkS tp n t) - tkS tp n t ≤ 10
    · rw [if_pos l]; exact wEq_code hk lets
    · rw [if_neg l]
      have t := w_tab ⟨k, hk⟩
      dsimp only at t
      constructor
      · intro z
        have : 0 ≤ wC k := (cw_b (wL k) fun j hj => t.2.2.2.2 ⟨j, by omega⟩ hj).1
        omega
      · intro z
        have := z.1
        omega
  by_cases q : wvM (fun j => tp (tkS tp n t + j)) (tkE tp n (tkS tp n t) - tkS tp n t) = wC k
  · rw [if_pos trivial, if_pos (lcmp_eq.2 q), if_pos (by omega), if_pos (e.1 q)]
  · rw [if_pos trivial, if_neg (fun z => q (lcmp_eq.1 z)), if_pos (by omega), if_neg (fun z => q (e.2 z))]
theorem ref_isSign {t : Nat} {c : Int} (hc : 33 ≤ c ∧ c ≤ 126) (h1 : lt1 c = false) (h2 : dg1 c = false) (hb : ∀ j, j < n → 0 ≤ tp j ∧ tp j ≤ 255) (h : TKm N tp n t) : f_X12_isSign X N c = some (if tkK tp n t = c then 1 else 0) := by
  unfold f_X12_isSign f_X12_isSign_j22 f_X12_isSign_j23
  rw [h.2.2.1, h.2.2.2]
  unfold rsT rwT tkK
  by_cases d : tkS tp n t < n
  case neg => rw [if_neg d, if_neg d, if_neg (by omega), if_pos (by omega), if_neg (by omega)]
  rw [if_pos d, if_pos d, if_pos d]
  by_cases e : lt1 (tp (tkS tp n t)) = true
  · simp only [if_pos e]
    rw [if_neg (show ¬ (1 : Int) = 3 by omega), if_pos (by omega), if_neg]
    rcases wKd_b (tp := tp) (i := tkS tp n t) (len := tkE tp n (tkS tp n t) - tkS tp n t) with q | q <;> omega
  simp only [if_neg e]
  by_cases g : dg1 (tp (tkS tp n t)) = true
  · simp only [if_pos g]
    rw [if_neg (show ¬ (2 : Int) = 3 by omega), if_pos (by omega), if_neg (show ¬ (-2 : Int) = c by omega)]
  simp only [if_neg g]
  by_cases q : tp (tkS tp n t) = c
  · rw [if_pos trivial, if_pos (lcmp_eq.2 q), if_pos (by omega), if_pos q]
  · rw [if_pos trivial, if_neg (fun z => q (lcmp_eq.1 z)), if_pos (by omega), if_neg q]
theorem ref_num {t : Nat} (hb : ∀ j, j < n → 0 ≤ tp j ∧ tp j ≤ 255) (h : TKm N tp n t) : (N 64 16 = 2 ↔ tkK tp n t = -2) ∧ (tkK tp n t = -2 → tkN tp n t = min (N 64 17) 1001 ∧ 0 ≤ N 64 17 ∧ N 64 17 ≤ 10000009) ∧ (N 64 16 = 0 ↔ tkS tp n t = n) ∧ (tkK tp n t = -1 ↔ tkS tp n t = n) := by
  have bn := tkS_n (tp := tp) (n := n) t
  rw [h.2.2.1, h.2.2.2]
  unfold rsT rwT tkK tkN
  by_cases d : tkS tp n t < n
  case neg =>
    rw [if_neg d, if_neg d, if_neg d]
    refine ⟨by omega, fun z => by omega, by omega, by omega⟩
  rw [if_pos d, if_pos d, if_pos d]
  by_cases e : lt1 (tp (tkS tp n t)) = true
  · rw [if_pos e, if_pos e, if_pos e]
    have q := wKd_b (tp := tp) (i := tkS tp n t) (len := tkE tp n (tkS tp n t) - tkS tp n t)
    refine ⟨by omega, fun z => by omega, by omega, by omega⟩
  rw [if_neg e, if_neg e, if_neg e]
  by_cases g : dg1 (tp (tkS tp n t)) = true
  · rw [if_pos g, if_pos g, if_pos g]
    have q := nv_rv (f := fun j => tp (tkS tp n t + j)) (tkE tp n (tkS tp n t) - tkS tp n t) (tk_dig (Bool.eq_false_iff.mpr e) g)
    exact ⟨by omega, fun _ => ⟨q.1, q.2⟩, by omega, by omega⟩
  · rw [if_neg g, if_neg g, if_neg g]
    have := hb _ d
    exact ⟨by omega, fun z => by omega, by omega, by omega⟩
end NX
