/-! texts: the reference's reckonAll() is that small machine -/
def nA (o : Int) : Int := if o = 0 then 0 else if o < 20 then 1 else o - 18
def nR (ord : Bool) (o p : Int) : Int := if o = 0 then p else if o < 20 then (if ord = true then (if o ≤ 4 then o - 1 else if o = 5 then (if 0 ≤ p ∧ p ≤ 5 then 4 + p else -1) else if o = 6 then (if 0 ≤ p ∧ p ≤ 15 then 10 + p else -1) else if 0 ≤ p ∧ p ≤ 5 then 26 + p else -1) else o - 1) else p
def frRk (o k : Nat) : Prop := o = 83 ∨ (o = 64 ∧ k = 37)
section VR
variable {X : MX} {e : Env} {W : Int} {N : NN}
theorem ref_bin {M : NN} {last : Nat} {k1 op p x y : Int} {rst : List Int} (hl : rst.length ≤ 29) (hx : -1000000000 ≤ x ∧ x ≤ 1000000000) (hy : -1000000000 ≤ y ∧ y ≤ 1000000000) (k0 : 0 ≤ k1) (k2 : k1 ≤ 1000) (ho : 20 ≤ op ∧ op ≤ 27) (hb : M 64 37 = 0) (ex : M 83 rst.length = x) (ey : M 83 (rst.length + 1) = y) :
    Ok (f_X12_reckonAll_l10_j95 X M (last : Int) ((rst.length : Int) + 2) k1 op p) (fun out => ∃ M', out = .inl (M', (last : Int), (rst.length : Int) + 1, k1 + 1) ∧ Fr (fun o k => (o = 83 ∧ k = rst.length) ∨ (o = 64 ∧ k = 37)) M M' ∧ ((bnO (op - 18) x y = none ∧ M' 64 37 = 1) ∨ (∃ v, bnO (op - 18) x y = some v ∧ M' 64 37 = 0 ∧ M' 83 rst.length = v))) := by
  have K : ∀ (M1 : NN) (v : Int), Fr (fun o k => o = 64 ∧ k = 37) M M1 → M1 64 37 = 0 → bnV (op - 18) x y = v → ¬ (((op - 18 = 5) ∨ (op - 18 = 6)) ∧ y = 0) → f_X12_reckon X M op x y = some (v, M1) → Ok (f_X12_reckonAll_l10_j95 X M (last : Int) ((rst.length : Int) + 2) k1 op p) (fun out => ∃ M', out = .inl (M', (last : Int), (rst.length : Int) + 1, k1 + 1) ∧ Fr (fun o k => (o = 83 ∧ k = rst.length) ∨ (o = 64 ∧ k = 37)) M M' ∧ ((bnO (op - 18) x y = none ∧ M' 64 37 = 1) ∨ (∃ v, bnO (op - 18) x y = some v ∧ M' 64 37 = 0 ∧ M' 83 rst.length = v))) := by
    intro M1 v f1 b1 hv nz hr
    unfold f_X12_reckonAll_l10_j95 f_X12_reckonAll_l10_j237 f_X12_reckonAll_l10_j242
    rw [if_neg (by omega), if_pos (by omega), w_id (x := (rst.length : Int) + 2 + -1) (by omega) (by omega), w_id (x := (rst.length : Int) + 2 + -1 - 1) (by omega) (by omega), if_pos (by omega), if_pos (by omega), show ((rst.length : Int) + 2 + -1 - 1).toNat = rst.length by omega, show ((rst.length : Int) + 2 + -1).toNat = rst.length + 1 by omega, ex, ey, hr, Option.bind_some, if_pos (by omega)]
    dsimp only
    rw [if_pos (show m_up M1 83 rst.length v 64 37 = 0 by rw [up_o (by omega)]; exact b1), if_pos (by omega), ref_in, Option.bind_some, up_s, w_id (x := k1 + 1) (by omega) (by omega), show (rst.length : Int) + 2 + -1 = (rst.length : Int) + 1 by omega]
    by_cases c : -1000000000 ≤ v ∧ v ≤ 1000000000
    · rw [if_pos c, i10, if_pos (by omega)]
      refine ok_ret ⟨_, rfl, fr_up (fr_up (fr_mono f1 fun o k q => Or.inr q) (Or.inl ⟨rfl, rfl⟩)) (Or.inr ⟨rfl, rfl⟩), Or.inr ⟨v, ?_, up_s, by rw [up_o (by omega), up_s]⟩⟩
      unfold bnO
      rw [if_neg nz, hv, if_pos c]
    · rw [if_neg c, i00, if_pos (by omega)]
      refine ok_ret ⟨_, rfl, fr_up (fr_up (fr_mono f1 fun o k q => Or.inr q) (Or.inl ⟨rfl, rfl⟩)) (Or.inr ⟨rfl, rfl⟩), Or.inl ⟨?_, up_s⟩⟩
      unfold bnO
      rw [if_neg nz, hv, if_neg c]
  have Z : ∀ (M1 : NN), Fr (fun o k => o = 64 ∧ k = 37) M M1 → M1 64 37 = 1 → ((op - 18 = 5) ∨ (op - 18 = 6)) ∧ y = 0 → f_X12_reckon X M op x y = some (0, M1) → Ok (f_X12_reckonAll_l10_j95 X M (last : Int) ((rst.length : Int) + 2) k1 op p) (fun out => ∃ M', out = .inl (M', (last : Int), (rst.length : Int) + 1, k1 + 1) ∧ Fr (fun o k => (o = 83 ∧ k = rst.length) ∨ (o = 64 ∧ k = 37)) M M' ∧ ((bnO (op - 18) x y = none ∧ M' 64 37 = 1) ∨ (∃ v, bnO (op - 18) x y = some v ∧ M' 64 37 = 0 ∧ M' 83 rst.length = v))) := by
    intro M1 f1 b1 nz hr
    unfold f_X12_reckonAll_l10_j95 f_X12_reckonAll_l10_j237 f_X12_reckonAll_l10_j242
    rw [if_neg (by omega), if_pos (by omega), w_id (x := (rst.length : Int) + 2 + -1) (by omega) (by omega), w_id (x := (rst.length : Int) + 2 + -1 - 1) (by omega) (by omega), if_pos (by omega), if_pos (by omega), show ((rst.length : Int) + 2 + -1 - 1).toNat = rst.length by omega, show ((rst.length : Int) + 2 + -1).toNat = rst.length + 1 by omega, ex, ey, hr, Option.bind_some, if_pos (by omega)]
    dsimp only
    rw [if_neg (show ¬ m_up M1 83 rst.length 0 64 37 = 0 by rw [up_o (by omega), b1]; omega), if_pos (by omega), w_id (x := k1 + 1) (by omega) (by omega), show (rst.length : Int) + 2 + -1 = (rst.length : Int) + 1 by omega]
    refine ok_ret ⟨_, rfl, fr_up (fr_up (fr_mono f1 fun o k q => Or.inr q) (Or.inl ⟨rfl, rfl⟩)) (Or.inr ⟨rfl, rfl⟩), Or.inl ⟨?_, up_s⟩⟩
    unfold bnO
    rw [if_pos nz]
  have mb := mul_big hx hy
  by_cases o0 : op = 20
  · refine K M (x + y) fr_rfl hb (by unfold bnV; rw [if_pos (by omega)]) (by omega) ?_
    unfold f_X12_reckon
    rw [if_pos o0, wl_id (by omega) (by omega)]
  by_cases o1 : op = 21
  · refine K M (x - y) fr_rfl hb (by unfold bnV; rw [if_neg (by omega), if_pos (by omega)]) (by omega) ?_
    unfold f_X12_reckon
    rw [if_neg o0, if_pos o1, wl_id (by omega) (by omega)]
  by_cases o2 : op = 22
  · refine K M (x * y) fr_rfl hb (by unfold bnV; rw [if_neg (by omega), if_neg (by omega), if_pos (by omega)]) (by omega) ?_
    unfold f_X12_reckon
    rw [if_neg o0, if_neg o1, if_pos o2, wl_id (by omega) (by omega)]
  by_cases o3 : op = 23
  · by_cases y0 : y = 0
    · refine Z (m_up M 64 37 1) (fr_up fr_rfl ⟨rfl, rfl⟩) up_s ⟨Or.inl (by omega), y0⟩ ?_
      unfold f_X12_reckon f_X12_reckon_j72 f_X12_reckon_j90
      rw [if_neg o0, if_neg o1, if_neg o2, if_pos o3, if_pos (lcmp_eq.2 y0), if_pos (by omega)]
      dsimp only
      rw [if_neg (by rw [up_s]; omega)]
    · refine K (m_up M 64 37 0) (m_ldiv x y) (fr_up fr_rfl ⟨rfl, rfl⟩) up_s (by unfold bnV; rw [if_neg (by omega), if_neg (by omega), if_neg (by omega), if_pos (by omega)]) (fun z => y0 z.2) ?_
      unfold f_X12_reckon f_X12_reckon_j72 f_X12_reckon_j90
      rw [if_neg o0, if_neg o1, if_neg o2, if_pos o3, if_neg (fun z => y0 (lcmp_eq.1 z)), if_pos (by omega)]
      dsimp only
      rw [if_pos up_s, if_pos y0]
  by_cases o4 : op = 24
  · by_cases y0 : y = 0
    · refine Z (m_up M 64 37 1) (fr_up fr_rfl ⟨rfl, rfl⟩) up_s ⟨Or.inr (by omega), y0⟩ ?_
      unfold f_X12_reckon f_X12_reckon_j104 f_X12_reckon_j122
      rw [if_neg o0, if_neg o1, if_neg o2, if_neg o3, if_pos o4, if_pos (lcmp_eq.2 y0), if_pos (by omega)]
      dsimp only
      rw [if_neg (by rw [up_s]; omega)]
    · refine K (m_up M 64 37 0) (m_lrem x y) (fr_up fr_rfl ⟨rfl, rfl⟩) up_s (by unfold bnV; rw [if_neg (by omega), if_neg (by omega), if_neg (by omega), if_neg (by omega), if_pos (by omega)]) (fun z => y0 z.2) ?_
      unfold f_X12_reckon f_X12_reckon_j104 f_X12_reckon_j122
      rw [if_neg o0, if_neg o1, if_neg o2, if_neg o3, if_pos o4, if_neg (fun z => y0 (lcmp_eq.1 z)), if_pos (by omega)]
      dsimp only
      rw [if_pos up_s, if_pos y0]
  by_cases o5 : op = 25
  · refine K M (if x < y then 1 else 0) fr_rfl hb (by unfold bnV; rw [if_neg (by omega), if_neg (by omega), if_neg (by omega), if_neg (by omega), if_neg (by omega), if_pos (by omega)]) (by omega) ?_
    unfold f_X12_reckon f_X12_reckon_j135
    rw [if_neg o0, if_neg o1, if_neg o2, if_neg o3, if_neg o4, if_pos o5]
    by_cases c : x < y
    · rw [if_pos (lcmp_lt.2 c), if_pos c]
    · rw [if_neg (fun z => c (lcmp_lt.1 z)), if_neg c]
  by_cases o6 : op = 26
  · refine K M (if y < x then 1 else 0) fr_rfl hb (by unfold bnV; rw [if_neg (by omega), if_neg (by omega), if_neg (by omega), if_neg (by omega), if_neg (by omega), if_neg (by omega), if_pos (by omega)]) (by omega) ?_
    unfold f_X12_reckon f_X12_reckon_j148
    rw [if_neg o0, if_neg o1, if_neg o2, if_neg o3, if_neg o4, if_neg o5, if_pos o6]
    by_cases c : y < x
    · rw [if_pos (lcmp_gt.2 c), if_pos c]
    · rw [if_neg (fun z => c (lcmp_gt.1 z)), if_neg c]
  · refine K M (if x = y then 1 else 0) fr_rfl hb (by unfold bnV; rw [if_neg (by omega), if_neg (by omega), if_neg (by omega), if_neg (by omega), if_neg (by omega), if_neg (by omega), if_neg (by omega)]) (by omega) ?_
    unfold f_X12_reckon f_X12_reckon_j161
    rw [if_neg o0, if_neg o1, if_neg o2, if_neg o3, if_neg o4, if_neg o5, if_neg o6]
    by_cases c : x = y
    · rw [if_pos (lcmp_eq.2 c), if_pos c]
    · rw [if_neg (fun z => c (lcmp_eq.1 z)), if_neg c]
theorem ref_rloop {last : Nat} {ord : Bool} {O P : Nat → Int} (hlast : last ≤ 400) (hO : ∀ k, k < last → 0 ≤ O k ∧ O k ≤ 30)
    (hfetch : ∀ (M : NN) (n : Int) (k : Nat), Fr frRk N M → M 64 37 = 0 → k < last → b_X12_reckonAll_10 X M (last : Int) n (k : Int) = f_X12_reckonAll_l10_j95 X M (last : Int) n (k : Int) (O k) (P k))
    (hword : ∀ (M : NN) (n : Int) (k : Nat), Fr frRk N M → k < last → 1 ≤ O k → O k < 20 → 0 ≤ nR ord (O k) (P k) → nR ord (O k) (P k) < W → f_X12_reckonAll_l10_j95 X M (last : Int) n (k : Int) (O k) (P k) = f_X12_reckonAll_l10_j164 X M (last : Int) n ((k : Int) + 1) n (e (nR ord (O k) (P k)).toNat)) :
    ∀ (n k : Nat) (st : List Int) (o : Option (List Int)) (M : NN), rch W (fun k => nA (O k)) (fun k => nR ord (O k) (P k)) e n last k st = some o → SKr M 83 st → st.length ≤ 31 → (∀ v, v ∈ st → -1000000000 ≤ v ∧ v ≤ 1000000000) → M 64 37 = 0 → Fr frRk N M →
    Ok (lp (fun z => b_X12_reckonAll_10 X z.1 z.2.1 z.2.2.1 z.2.2.2) (M, (last : Int), (st.length : Int), (k : Int))) (fun out => Fr frRk N out.1 ∧ ((∃ st1, o = some st1 ∧ out.2 = (st1.length : Int) ∧ SKr out.1 83 st1 ∧ out.1 64 37 = 0) ∨ (o = none ∧ out.1 64 37 = 1))) := by
  intro n
  induction n with
  | zero => intro k st o M h; cases h
  | succ n ih =>
    intro k st o M h hK hl hv hb hf
    rw [rch] at h
    by_cases c : k = last
    · rw [if_pos c] at h
      cases h
      rw [lp_end (t := (M, (st.length : Int))) (by dsimp only; unfold b_X12_reckonAll_10; rw [if_neg (by omega)])]
      exact ok_ret ⟨hf, Or.inl ⟨st, rfl, rfl, hK, hb⟩⟩
    rw [if_neg c] at h
    by_cases c2 : last < k
    · rw [if_pos c2] at h; cases h
    rw [if_neg c2] at h
    have fe := hfetch M (st.length : Int) k hf hb (by omega)
    have hOk := hO k (by omega)
    have go : ∀ (s1 : Nat × List Int) (M' : NN), stp W (fun k => nA (O k)) (fun k => nR ord (O k) (P k)) e k st = some (some s1) → b_X12_reckonAll_10 X M (last : Int) (st.length : Int) (k : Int) = some (.inl (M', (last : Int), (s1.2.length : Int), (s1.1 : Int))) → Fr frRk M M' → SKr M' 83 s1.2 → s1.2.length ≤ 31 → (∀ v, v ∈ s1.2 → -1000000000 ≤ v ∧ v ≤ 1000000000) → M' 64 37 = 0 → Ok (lp (fun z => b_X12_reckonAll_10 X z.1 z.2.1 z.2.2.1 z.2.2.2) (M, (last : Int), (st.length : Int), (k : Int))) (fun out => Fr frRk N out.1 ∧ ((∃ st1, o = some st1 ∧ out.2 = (st1.length : Int) ∧ SKr out.1 83 st1 ∧ out.1 64 37 = 0) ∨ (o = none ∧ out.1 64 37 = 1))) := by
      intro s1 M' hs1 hbb hf' hK' hl' hv' hb'
      rw [hs1] at h
      rw [lp_next (s' := (M', (last : Int), (s1.2.length : Int), (s1.1 : Int))) hbb]
      exact ih s1.1 s1.2 o M' h hK' hl' hv' hb' (fr_tr hf hf')
    have brk : ∀ (M' : NN) (q : Int) (k' : Int), stp W (fun k => nA (O k)) (fun k => nR ord (O k) (P k)) e k st = some none → b_X12_reckonAll_10 X M (last : Int) (st.length : Int) (k : Int) = some (.inl (M', (last : Int), q, k')) → Fr frRk M M' → M' 64 37 = 1 → Ok (lp (fun z => b_X12_reckonAll_10 X z.1 z.2.1 z.2.2.1 z.2.2.2) (M, (last : Int), (st.length : Int), (k : Int))) (fun out => Fr frRk N out.1 ∧ ((∃ st1, o = some st1 ∧ out.2 = (st1.length : Int) ∧ SKr out.1 83 st1 ∧ out.1 64 37 = 0) ∨ (o = none ∧ out.1 64 37 = 1))) := by
      intro M' q k' hs1 hbb hf' hb'
      rw [hs1] at h
      have ho : o = none := by cases h; rfl
      rw [lp_next (s' := (M', (last : Int), q, k')) hbb]
      have e2 : b_X12_reckonAll_10 X M' (last : Int) q k' = some (.inr (M', q)) := by
        unfold b_X12_reckonAll_10
        by_cases z : k' < (last : Int)
        · rw [if_pos z, if_neg (by omega)]
        · rw [if_neg z]
      rw [lp_end (t := (M', q)) e2]
      exact ok_ret ⟨fr_tr hf hf', Or.inr ⟨ho, hb'⟩⟩
    have psh : ∀ v : Int, st.length ≤ 30 → -1000000000 ≤ v ∧ v ≤ 1000000000 → stp W (fun k => nA (O k)) (fun k => nR ord (O k) (P k)) e k st = some (some (k + 1, v :: st)) → b_X12_reckonAll_10 X M (last : Int) (st.length : Int) (k : Int) = f_X12_reckonAll_l10_j164 X M (last : Int) (st.length : Int) ((k : Int) + 1) (st.length : Int) v → Ok (lp (fun z => b_X12_reckonAll_10 X z.1 z.2.1 z.2.2.1 z.2.2.2) (M, (last : Int), (st.length : Int), (k : Int))) (fun out => Fr frRk N out.1 ∧ ((∃ st1, o = some st1 ∧ out.2 = (st1.length : Int) ∧ SKr out.1 83 st1 ∧ out.1 64 37 = 0) ∨ (o = none ∧ out.1 64 37 = 1))) := by
      intro v q qv hs1 hbb
      refine go (k + 1, v :: st) (m_up M 83 st.length v) hs1 ?_ (fr_up fr_rfl (Or.inl rfl)) ⟨up_s, skr_up st (Nat.le_refl _) hK⟩ (by rw [List.length_cons]; omega) (fun x hx => by
        rcases List.mem_cons.1 hx with z | z
        · rw [z]; exact qv
        · exact hv x z) (by rw [up_o (by omega)]; exact hb)
      rw [hbb]
      unfold f_X12_reckonAll_l10_j164
      rw [if_pos (by omega), Int.toNat_natCast, w_id (x := (st.length : Int) + 1) (by omega) (by omega)]
      rfl
    have hs : ∃ q, stp W (fun k => nA (O k)) (fun k => nR ord (O k) (P k)) e k st = some q := by
      cases z : stp W (fun k => nA (O k)) (fun k => nR ord (O k) (P k)) e k st with
      | none => rw [z] at h; cases h
      | some q => exact ⟨q, rfl⟩
    obtain ⟨q, hq⟩ := hs
    have hq' := hq
    unfold stp at hq
    dsimp only at hq
    have na0 : O k = 0 → nA (O k) = 0 := fun z => by unfold nA; rw [if_pos z]
    have na1 : 1 ≤ O k → O k < 20 → nA (O k) = 1 := fun z z2 => by unfold nA; rw [if_neg (by omega), if_pos z2]
    have na2 : 20 ≤ O k → nA (O k) = O k - 18 := fun z => by unfold nA; rw [if_neg (by omega), if_neg (by omega)]
    have nr0 : O k = 0 → nR ord (O k) (P k) = P k := fun z => by unfold nR; rw [if_pos z]
    have nr2 : 20 ≤ O k → nR ord (O k) (P k) = P k := fun z => by unfold nR; rw [if_neg (by omega), if_neg (by omega)]
    by_cases o0 : O k = 0
    · rw [if_pos (na0 o0)] at hq
      split at hq
      · rename_i z
        refine psh _ z.1 z.2 (by rw [hq', ← hq]) ?_
        rw [fe, nr0 o0]
        unfold f_X12_reckonAll_l10_j95
        rw [if_pos (by omega), if_pos o0, w_id (x := (k : Int) + 1) (by omega) (by omega)]
      · cases hq
    by_cases o1 : O k < 20
    · have a1 := na1 (by omega) o1
      rw [if_neg (by omega), if_pos a1] at hq
      split at hq
      · rename_i z
        refine psh _ z.1 z.2.2 (by rw [hq', ← hq]) ?_
        rw [fe]
        exact hword M _ k hf (by omega) (by omega) o1 z.2.1.1 z.2.1.2
      · cases hq
    have a2 := na2 (by omega)
    rw [if_neg (by omega), if_neg (by omega)] at hq
    by_cases o2 : O k ≤ 27
    · rw [if_pos (by omega)] at hq
      cases st with
      | nil => cases hq
      | cons y st1 =>
        cases st1 with
        | nil => cases hq
        | cons x rst =>
          dsimp only at hq
          rw [a2] at hq
          have k1 : M 83 (rst.length + 1) = y := hK.1
          have k2 : M 83 rst.length = x := hK.2.1
          have hx := hv x (List.mem_cons_of_mem _ List.mem_cons_self)
          have hy := hv y List.mem_cons_self
          rw [List.length_cons, List.length_cons] at hl
          have el : (((y :: x :: rst).length : Nat) : Int) = (rst.length : Int) + 2 := by rw [List.length_cons, List.length_cons]; omega
          obtain ⟨out, eo, M', rfl, f1, g⟩ := ref_bin (X := X) (M := M) (last := last) (k1 := (k : Int)) (p := P k) (rst := rst) (by omega) hx hy (by omega) (by omega) (show 20 ≤ O k ∧ O k ≤ 27 by omega) hb k2 k1
          have Bk : b_X12_reckonAll_10 X M (last : Int) (((y :: x :: rst).length : Nat) : Int) (k : Int) = some (.inl (M', (last : Int), (rst.length : Int) + 1, (k : Int) + 1)) := by rw [fe, el]; exact eo
          rcases g with ⟨g1, g2⟩ | ⟨v, g1, g2, g3⟩
          · rw [g1] at hq
            exact brk M' _ _ (by rw [hq', ← hq]; rfl) Bk (fr_mono f1 fun o k q => by unfold frRk; omega) g2
          · rw [g1] at hq
            refine go (k + 1, v :: rst) M' (by rw [hq', ← hq]; rfl) (by rw [Bk]; rfl) (fr_mono f1 fun o k q => by unfold frRk; omega) ⟨g3, ?_⟩ (by rw [List.length_cons]; omega) (fun v' hv' => by
              rcases List.mem_cons.1 hv' with q | q
              · rw [q]; exact bnO_b g1
              · exact hv v' (List.mem_cons_of_mem _ (List.mem_cons_of_mem _ q))) g2
            have low : ∀ l : List Int, l.length ≤ rst.length → SKr M 83 l → SKr M' 83 l := by
              intro l
              induction l with
              | nil => intro _ _; exact trivial
              | cons a l ihl =>
                intro hll hsk
                rw [List.length_cons] at hll
                exact ⟨by rw [f1 83 l.length (by omega)]; exact hsk.1, ihl (by omega) hsk.2⟩
            exact low rst (Nat.le_refl _) hK.2.2
    rw [if_neg (by omega)] at hq
    by_cases o3 : O k = 28
    · rw [if_pos (by omega)] at hq
      cases st with
      | nil => cases hq
      | cons x rst =>
        dsimp only at hq
        have k1 : M 83 rst.length = x := hK.1
        rw [List.length_cons] at hl
        split at hq
        · rename_i z
          refine go (k + 1, (1 - x) :: rst) (m_up M 83 rst.length (1 - x)) (by rw [hq', ← hq]) ?_ (fr_up fr_rfl (Or.inl rfl)) ⟨up_s, skr_up rst (Nat.le_refl _) hK.2⟩ (by rw [List.length_cons]; exact hl) (fun v hv' => by
            rcases List.mem_cons.1 hv' with q | q
            · omega
            · exact hv v (List.mem_cons_of_mem _ q)) (by rw [up_o (by omega)]; exact hb)
          rw [fe, List.length_cons]
          unfold f_X12_reckonAll_l10_j95
          rw [if_neg (by omega), if_neg (by omega), if_pos o3, w_id (x := ((rst.length + 1 : Nat) : Int) - 1) (by omega) (by omega), if_pos (by omega), if_pos (by omega), show (((rst.length + 1 : Nat) : Int) - 1).toNat = rst.length by omega, k1, wl_id (x := 1 - x) (by omega) (by omega), w_id (x := (k : Int) + 1) (by omega) (by omega)]
          rfl
        · cases hq
    rw [if_neg (by omega), if_pos (by omega)] at hq
    cases st with
    | nil => cases hq
    | cons x rst =>
      dsimp only at hq
      have k1 : M 83 rst.length = x := hK.1
      rw [List.length_cons] at hl
      split at hq
      · rename_i z
        rw [nr2 (by omega)] at hq z
        have Bk : b_X12_reckonAll_10 X M (last : Int) (((x :: rst).length : Nat) : Int) (k : Int) = if x = (if nA (O k) = 12 then 1 else 0) then some (.inl (M, (last : Int), (rst.length : Int) + 1, P k)) else some (.inl (M, (last : Int), (rst.length : Int), (k : Int) + 1)) := by
          rw [fe, List.length_cons]
          unfold f_X12_reckonAll_l10_j95 f_X12_reckonAll_l10_j296
          rw [if_neg (by omega), if_neg (by omega), if_neg o3, w_id (x := ((rst.length + 1 : Nat) : Int) - 1) (by omega) (by omega), if_pos (by omega), show (((rst.length + 1 : Nat) : Int) - 1).toNat = rst.length by omega, k1, w_id (x := (k : Int) + 1) (by omega) (by omega), w_id (x := ((rst.length + 1 : Nat) : Int) + -1) (by omega) (by omega), show ((rst.length + 1 : Nat) : Int) + -1 = (rst.length : Int) by omega, show ((rst.length + 1 : Nat) : Int) = (rst.length : Int) + 1 by omega]
          by_cases b : O k = 29
          · rw [if_pos b, if_neg (show ¬ nA (O k) = 12 by omega)]
            by_cases d : x = 0
            · rw [if_pos (lcmp_eq.2 d), if_pos d]
            · rw [if_neg (fun z => d (lcmp_eq.1 z)), if_neg d]
          · rw [if_neg b, if_pos (show nA (O k) = 12 by omega)]
            by_cases d : x = 1
            · rw [if_pos (lcmp_eq.2 d), if_pos d]
            · rw [if_neg (fun z => d (lcmp_eq.1 z)), if_neg d]
        by_cases b : x = (if nA (O k) = 12 then 1 else 0)
        · rw [if_pos b] at hq Bk
          refine go ((P k).toNat, x :: rst) M (by rw [hq', ← hq]) ?_ fr_rfl hK (by rw [List.length_cons]; exact hl) hv hb
          rw [Bk, List.length_cons]
          show some (Sum.inl (M, (last : Int), (rst.length : Int) + 1, P k)) = some (Sum.inl (M, (last : Int), ((rst.length + 1 : Nat) : Int), (((P k).toNat : Nat) : Int)))
          rw [show ((rst.length + 1 : Nat) : Int) = (rst.length : Int) + 1 by omega, show (((P k).toNat : Nat) : Int) = P k by omega]
        · rw [if_neg b] at hq Bk
          exact go (k + 1, rst) M (by rw [hq', ← hq]) (by rw [Bk]; rfl) fr_rfl hK.2 (by dsimp only; omega) (fun v hv' => hv v (List.mem_cons_of_mem _ hv')) hb
      · cases hq
def frRa (o k : Nat) : Prop := o = 83 ∨ (o = 64 ∧ (k = 37 ∨ k = 38))
theorem ref_reckonAll {i j d : Nat} {D : Den} {ord : Bool} {O P : Nat → Int} (hj : j ≤ 400) (hO : ∀ k, k < j → 0 ≤ O k ∧ O k ≤ 30)
    (hfetch : ∀ (M : NN) (n : Int) (k : Nat), Fr frRk N M → M 64 37 = 0 → k < j → b_X12_reckonAll_10 X M (j : Int) n (k : Int) = f_X12_reckonAll_l10_j95 X M (j : Int) n (k : Int) (O k) (P k))
    (hword : ∀ (M : NN) (n : Int) (k : Nat), Fr frRk N M → k < j → 1 ≤ O k → O k < 20 → 0 ≤ nR ord (O k) (P k) → nR ord (O k) (P k) < W → f_X12_reckonAll_l10_j95 X M (j : Int) n (k : Int) (O k) (P k) = f_X12_reckonAll_l10_j164 X M (j : Int) n ((k : Int) + 1) n (e (nR ord (O k) (P k)).toNat))
    (hd : d ≤ 31) (hS : Seg W (fun k => nA (O k)) (fun k => nR ord (O k) (P k)) i j d D) (he : EnvOK e) :
    Ok (f_X12_reckonAll X N (i : Int) (j : Int)) (fun M => Fr frRa N M ∧ ((∃ v, D e = some v ∧ M 64 37 = 0 ∧ M 64 38 = v) ∨ (D e = none ∧ M 64 37 = 1))) := by
  obtain ⟨n, hn⟩ := hS.2 e he [] (by rw [List.length_nil]; omega)
  unfold f_X12_reckonAll f_X12_reckonAll_j328
  dsimp only
  refine ok_bind (ref_rloop (X := X) (N := N) hj hO hfetch hword n i [] _ (m_up N 64 37 0) hn trivial (by rw [List.length_nil]; omega) (fun v hv => by cases hv) up_s (fr_up fr_rfl (Or.inr ⟨rfl, rfl⟩))) ?_
  rintro ⟨M, q⟩ ⟨h1, h2⟩
  dsimp only at h1 h2 ⊢
  have f1 : ∀ v, Fr frRa N (m_up M 64 38 v) := fun v => fr_up (fr_mono h1 fun o k q => by unfold frRk at q; unfold frRa; omega) (Or.inr ⟨rfl, Or.inr rfl⟩)
  rcases h2 with ⟨st1, q1, q2, q3, q4⟩ | ⟨q1, q2⟩
  · cases v1 : D e with
    | none => rw [v1] at q1; cases q1
    | some v =>
      rw [v1] at q1
      cases q1
      rw [if_pos (by rw [q2]; show (0 : Int) < ((0 + 1 : Nat) : Int); omega)]
      exact ok_ret ⟨f1 _, Or.inl ⟨v, rfl, by rw [up_k (by omega)]; exact q4, by rw [up_s]; exact q3.1⟩⟩
  · have d0 : D e = none := by
      cases v1 : D e with
      | none => rfl
      | some v => rw [v1] at q1; cases q1
    by_cases c : 0 < q
    · rw [if_pos c]
      exact ok_ret ⟨f1 _, Or.inr ⟨d0, by rw [up_k (by omega)]; exact q2⟩⟩
    · rw [if_neg c]
      exact ok_ret ⟨f1 _, Or.inr ⟨d0, by rw [up_k (by omega)]; exact q2⟩⟩
end VR
