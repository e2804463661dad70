noncomputable def f_J6_bitCount_0f7a4 (X : MX) (N : NN) (a0 : Int) : Option Int :=
  some (m_and (m_w ((m_w ((m_and (m_w ((m_w ((m_and (m_w (a0 - (m_and (m_ushr a0 1) 1431655765))) 858993459) + (m_and (m_ushr (m_w (a0 - (m_and (m_ushr a0 1) 1431655765))) 2) 858993459))) + (m_ushr (m_w ((m_and (m_w (a0 - (m_and (m_ushr a0 1) 1431655765))) 858993459) + (m_and (m_ushr (m_w (a0 - (m_and (m_ushr a0 1) 1431655765))) 2) 858993459))) 4))) 252645135) + (m_ushr (m_and (m_w ((m_w ((m_and (m_w (a0 - (m_and (m_ushr a0 1) 1431655765))) 858993459) + (m_and (m_ushr (m_w (a0 - (m_and (m_ushr a0 1) 1431655765))) 2) 858993459))) + (m_ushr (m_w ((m_and (m_w (a0 - (m_and (m_ushr a0 1) 1431655765))) 858993459) + (m_and (m_ushr (m_w (a0 - (m_and (m_ushr a0 1) 1431655765))) 2) 858993459))) 4))) 252645135) 8))) + (m_ushr (m_w ((m_and (m_w ((m_w ((m_and (m_w (a0 - (m_and (m_ushr a0 1) 1431655765))) 858993459) + (m_and (m_ushr (m_w (a0 - (m_and (m_ushr a0 1) 1431655765))) 2) 858993459))) + (m_ushr (m_w ((m_and (m_w (a0 - (m_and (m_ushr a0 1) 1431655765))) 858993459) + (m_and (m_ushr (m_w (a0 - (m_and (m_ushr a0 1) 1431655765))) 2) 858993459))) 4))) 252645135) + (m_ushr (m_and (m_w ((m_w ((m_and (m_w (a0 - (m_and (m_ushr a0 1) 1431655765))) 858993459) + (m_and (m_ushr (m_w (a0 - (m_and (m_ushr a0 1) 1431655765))) 2) 858993459))) + (m_ushr (m_w ((m_and (m_w (a0 - (m_and (m_ushr a0 1) 1431655765))) 858993459) + (m_and (m_ushr (m_w (a0 - (m_and (m_ushr a0 1) 1431655765))) 2) 858993459))) 4))) 252645135) 8))) 16))) 63)
noncomputable def f_J6_numberOfTrailingZeros_0f7a4_j74 (X : MX) (N : NN) (a0 : Int) (a1 : Int) : Option Int :=
  some (m_w (a1 + (m_ushr a0 1)))
noncomputable def f_J6_numberOfTrailingZeros_0f7a4_j62 (X : MX) (N : NN) (a0 : Int) (a1 : Int) : Option Int :=
  if 4 < a0 then
    f_J6_numberOfTrailingZeros_0f7a4_j74 X N (m_ushr a0 2) (m_w (a1 + 2))
  else
    f_J6_numberOfTrailingZeros_0f7a4_j74 X N a0 a1
noncomputable def f_J6_numberOfTrailingZeros_0f7a4_j49 (X : MX) (N : NN) (a0 : Int) (a1 : Int) : Option Int :=
  if 16 < a0 then
    f_J6_numberOfTrailingZeros_0f7a4_j62 X N (m_ushr a0 4) (m_w (a1 + 4))
  else
    f_J6_numberOfTrailingZeros_0f7a4_j62 X N a0 a1
noncomputable def f_J6_numberOfTrailingZeros_0f7a4_j34 (X : MX) (N : NN) (a0 : Int) (a1 : Int) : Option Int :=
  if 256 < a0 then
    f_J6_numberOfTrailingZeros_0f7a4_j49 X N (m_ushr a0 8) (m_w (a1 + 8))
  else
    f_J6_numberOfTrailingZeros_0f7a4_j49 X N a0 a1
noncomputable def f_J6_numberOfTrailingZeros_0f7a4 (X : MX) (N : NN) (a0 : Int) : Option Int :=
  if 0 < (m_and (m_xor a0 (-1)) (m_w (a0 - 1))) then
    if 65536 < (m_and (m_xor a0 (-1)) (m_w (a0 - 1))) then
      f_J6_numberOfTrailingZeros_0f7a4_j34 X N (m_ushr (m_and (m_xor a0 (-1)) (m_w (a0 - 1))) 16) (m_w (1 + 16))
    else
      f_J6_numberOfTrailingZeros_0f7a4_j34 X N (m_and (m_xor a0 (-1)) (m_w (a0 - 1))) 1
  else
    some (m_and (m_and (m_xor a0 (-1)) (m_w (a0 - 1))) 32)
noncomputable def b_J7_fill_53178_5 (X : MX) (r0 : Nat) (N : NN) (a1 : Int) (a2 : Int) (a3 : Int) : Option ((NN × Int × Int × Int) ⊕ NN) :=
  if a2 < a3 then
    if 0 ≤ a2 ∧ a2 < ((xK X r0).2 : Int) then
    let N3 : NN := m_up N r0 a2.toNat a1
    some (.inl (N3, a1, m_w (a2 + 1), a3))
    else none
  else
    some (.inr N)
noncomputable def f_J7_fill_53178 (X : MX) (r0 : Nat) (N : NN) (a1 : Int) : Option NN :=
  if ((xK X r0).2 : Int) ≤ 2147483647 then
  Option.bind (lp (fun s => b_J7_fill_53178_5 X r0 s.1 s.2.1 s.2.2.1 s.2.2.2) (N, a1, 0, ((xK X r0).2 : Int))) (fun o5 =>
  some o5)
  else none
noncomputable def f_J7_rangeCheck_23922 (X : MX) (N : NN) (a0 : Int) (a1 : Int) (a2 : Int) : Option Unit :=
  if a2 < a1 then
    none
  else
    if a1 < 0 then
      none
    else
      if a0 < a2 then
        none
      else
        some ()
noncomputable def b_J7_fill_fda19_10 (X : MX) (r0 : Nat) (N : NN) (a2 : Int) (a3 : Int) (a4 : Int) : Option ((NN × Int × Int × Int) ⊕ NN) :=
  if a4 < a2 then
    if 0 ≤ a4 ∧ a4 < ((xK X r0).2 : Int) then
    let N4 : NN := m_up N r0 a4.toNat a3
    some (.inl (N4, a2, a3, m_w (a4 + 1)))
    else none
  else
    some (.inr N)
noncomputable def f_J7_fill_fda19 (X : MX) (r0 : Nat) (N : NN) (a1 : Int) (a2 : Int) (a3 : Int) : Option NN :=
  if ((xK X r0).2 : Int) ≤ 2147483647 then
  Option.bind (f_J7_rangeCheck_23922 X N ((xK X r0).2 : Int) a1 a2) (fun o2 =>
  Option.bind (lp (fun s => b_J7_fill_fda19_10 X r0 s.1 s.2.1 s.2.2.1 s.2.2.2) (N, a2, a3, a1)) (fun o6 =>
  some o6))
  else none
noncomputable def f_X10_settle (X : MX) (r0 : Nat) (N : NN) (a1 : Int) (a2 : Int) : Option NN :=
  if 0 ≤ (m_w ((m_w (119 + (m_w (a1 * 6)))) + a2)) ∧ (m_w ((m_w (119 + (m_w (a1 * 6)))) + a2)) < 266 then
  let N2 : NN := m_up N (r0 + 1) ((m_w ((m_w (119 + (m_w (a1 * 6)))) + a2)).toNat) (-1)
  some N2
  else none
noncomputable def f_X10_since (X : MX) (N : NN) (r0 : Nat) (a1 : Int) (a2 : Int) : Option Int :=
  if 0 ≤ (m_w ((m_w (155 + (m_w (a1 * 6)))) + a2)) ∧ (m_w ((m_w (155 + (m_w (a1 * 6)))) + a2)) < 266 then
  some (N (r0 + 1) ((m_w ((m_w (155 + (m_w (a1 * 6)))) + a2)).toNat))
  else none
noncomputable def f_X10_stand (X : MX) (r0 : Nat) (N : NN) (a1 : Int) (a2 : Int) (a3 : Int) (a4 : Int) : Option NN :=
  if 0 ≤ (m_w ((m_w (119 + (m_w (a1 * 6)))) + a2)) ∧ (m_w ((m_w (119 + (m_w (a1 * 6)))) + a2)) < 266 then
  let N2 : NN := m_up N (r0 + 1) ((m_w ((m_w (119 + (m_w (a1 * 6)))) + a2)).toNat) a3
  if 0 ≤ (m_w ((m_w (155 + (m_w (a1 * 6)))) + a2)) ∧ (m_w ((m_w (155 + (m_w (a1 * 6)))) + a2)) < 266 then
  let N4 : NN := m_up N2 (r0 + 1) ((m_w ((m_w (155 + (m_w (a1 * 6)))) + a2)).toNat) a4
  some N4
  else none
  else none
noncomputable def f_X10_term (X : MX) (N : NN) (r0 : Nat) (a1 : Int) : Option Int :=
  if 0 ≤ a1 ∧ a1 < 266 then
  some (N (r0 + 1) a1.toNat)
  else none
noncomputable def f_X10_worthOwed (X : MX) (N : NN) (r0 : Nat) (a1 : Int) (a2 : Int) : Option Int :=
  if 0 ≤ (m_w ((m_w (119 + (m_w (a1 * 6)))) + a2)) ∧ (m_w ((m_w (119 + (m_w (a1 * 6)))) + a2)) < 266 then
  some (N (r0 + 1) ((m_w ((m_w (119 + (m_w (a1 * 6)))) + a2)).toNat))
  else none
noncomputable def f_X0_challenge_j27 (X : MX) (r0 : Nat) (N : NN) (a1 : Int) (a2 : Int) (a3 : Int) : Option NN :=
  Option.bind (f_X10_worthOwed X N r0 a2 a1) (fun o5 =>
  if o5 = (-1) then
    Option.bind (f_X10_term X N r0 0) (fun o6 =>
    Option.bind (f_X10_stand X r0 N a2 a1 a3 o6) (fun o7 =>
    some o7))
  else
    Option.bind (f_X10_since X N r0 a2 a1) (fun o8 =>
    Option.bind (f_X10_stand X r0 N a2 a1 (m_max o5 a3) o8) (fun o9 =>
    some o9)))
noncomputable def f_X0_challenge (X : MX) (r0 : Nat) (N : NN) (a1 : Int) (a2 : Int) (a3 : Int) : Option NN :=
  Option.bind (f_X10_worthOwed X N r0 a1 a2) (fun o1 =>
  if o1 = (-1) then
    f_X0_challenge_j27 X r0 N a1 a2 a3
  else
    if o1 < a3 then
      Option.bind (f_X10_settle X r0 N a1 a2) (fun o2 =>
      f_X0_challenge_j27 X r0 o2 a1 a2 a3)
    else
      some N)
noncomputable def f_X0_draw_j36 (X : MX) (N : NN) (z0 : Int) : Option (Int × NN) :=
  some (z0, N)
noncomputable def f_X0_draw (X : MX) (N : NN) (a1 : Int) : Option (Int × NN) :=
  let N1 : NN := m_up N 29 2 (m_lrem (m_wl ((m_wl ((N 29 2) * 1103)) + 12345)) 1000003)
  if 0 < a1 then
    if a1 ≠ 0 then
    f_X0_draw_j36 X N1 (m_w (m_lrem (N1 29 2) a1))
    else none
  else
    f_X0_draw_j36 X N1 0
noncomputable def f_X10_many (X : MX) (N : NN) (r0 : Nat) (a1 : Int) : Option Int :=
  if 0 ≤ (m_w (191 + a1)) ∧ (m_w (191 + a1)) < 266 then
  some (N (r0 + 1) ((m_w (191 + a1)).toNat))
  else none
noncomputable def b_X0_dropAllOf_2 (X : MX) (r0 : Nat) (N : NN) (a1 : Int) (a2 : Int) : Option ((NN × Int × Int) ⊕ NN) :=
  Option.bind (f_X10_many X N r0 0) (fun o1 =>
  if a2 < o1 then
    Option.bind (f_X10_settle X r0 N a1 a2) (fun o2 =>
    Option.bind (f_X10_settle X r0 o2 a2 a1) (fun o3 =>
    some (.inl (o3, a1, m_w (a2 + 1)))))
  else
    some (.inr N))
noncomputable def f_X0_dropAllOf (X : MX) (r0 : Nat) (N : NN) (a1 : Int) : Option NN :=
  Option.bind (lp (fun s => b_X0_dropAllOf_2 X r0 s.1 s.2.1 s.2.2) (N, a1, 0)) (fun o5 =>
  some o5)
noncomputable def f_X10_goodAt (X : MX) (N : NN) (r0 : Nat) (a1 : Int) (a2 : Int) : Option Int :=
  if 0 ≤ (m_w ((m_w (39 + (m_w (a1 * 5)))) + a2)) ∧ (m_w ((m_w (39 + (m_w (a1 * 5)))) + a2)) < 266 then
  some (N (r0 + 1) ((m_w ((m_w (39 + (m_w (a1 * 5)))) + a2)).toNat))
  else none
noncomputable def f_X10_oneMoreOf (X : MX) (r0 : Nat) (N : NN) (a1 : Int) (a2 : Int) : Option NN :=
  if 0 ≤ (m_w ((m_w (3 + (m_w (a1 * 6)))) + a2)) ∧ (m_w ((m_w (3 + (m_w (a1 * 6)))) + a2)) < 266 then
  if 0 ≤ (m_w ((m_w (3 + (m_w (a1 * 6)))) + a2)) ∧ (m_w ((m_w (3 + (m_w (a1 * 6)))) + a2)) < 266 then
  let N3 : NN := m_up N (r0 + 1) ((m_w ((m_w (3 + (m_w (a1 * 6)))) + a2)).toNat) (m_w ((N (r0 + 1) ((m_w ((m_w (3 + (m_w (a1 * 6)))) + a2)).toNat)) + 1))
  some N3
  else none
  else none
noncomputable def f_X10_setGood (X : MX) (r0 : Nat) (N : NN) (a1 : Int) (a2 : Int) (a3 : Int) : Option NN :=
  if 0 ≤ (m_w ((m_w (39 + (m_w (a1 * 5)))) + a2)) ∧ (m_w ((m_w (39 + (m_w (a1 * 5)))) + a2)) < 266 then
  let N2 : NN := m_up N (r0 + 1) ((m_w ((m_w (39 + (m_w (a1 * 5)))) + a2)).toNat) a3
  some N2
  else none
noncomputable def f_X10_lawInForce_j35 (X : MX) (N : NN) (r0 : Nat) (q0 : Nat) : Option Nat :=
  some q0
noncomputable def f_X10_lawInForce_j34 (X : MX) (N : NN) (r0 : Nat) : Option Nat :=
  f_X10_lawInForce_j35 X N r0 0
noncomputable def f_X10_lawInForce (X : MX) (N : NN) (r0 : Nat) : Option Nat :=
  if (N (r0 + 1) 196) < 0 then
    f_X10_lawInForce_j34 X N r0
  else
    if (N (r0 + 1) 196) < (N (r0 + 1) 195) then
      if 0 ≤ (N (r0 + 1) 196) ∧ (N (r0 + 1) 196) < 6 then
      f_X10_lawInForce_j35 X N r0 ((N (r0 + 2) ((N (r0 + 1) 196).toNat)).toNat)
      else none
    else
      f_X10_lawInForce_j34 X N r0
noncomputable def f_X2_ask (X : MX) (r1 : Nat) (N : NN) (a2 : Int) (a3 : Int) : Option NN :=
  let N1 : NN := m_up N 26 0 a2
  Option.bind (f_X10_goodAt X N1 r1 a2 2) (fun o2 =>
  let N3 : NN := m_up N1 26 1 o2
  Option.bind (f_X10_goodAt X N3 r1 a2 3) (fun o4 =>
  let N5 : NN := m_up N3 26 2 o4
  Option.bind (f_X10_goodAt X N5 r1 a2 4) (fun o6 =>
  let N7 : NN := m_up N5 26 3 o6
  let N8 : NN := m_up N7 26 4 (-1)
  let N9 : NN := m_up N8 26 5 (-1)
  let N10 : NN := m_up N9 26 6 a3
  let N11 : NN := m_up N10 26 7 (-1)
  Option.bind (f_X10_term X N11 r1 2) (fun o12 =>
  let N13 : NN := m_up N11 26 8 o12
  some N13))))
noncomputable def f_X8_clauses (X : MX) (N : NN) (r0 : Nat) : Option Int :=
  some (N r0 4)
noncomputable def f_X8_value_l32_j119 (X : MX) (r0 : Nat) (r3 : Nat) (r4 : Nat) (N : NN) (a5 : Int) (a6 : Int) (a7 : Int) (z1 : Int) (z2 : Int) : Option ((NN × Int × Int × Int) ⊕ ((NN × Int) ⊕ (NN ⊕ (NN ⊕ (NN ⊕ NN))))) :=
  if 0 ≤ z1 ∧ z1 < ((xK X r4).2 : Int) then
  let N45 : NN := m_up N r4 z1.toNat z2
  some (.inl (N45, m_w (a5 + 1), a6, a7))
  else none
noncomputable def f_X8_value_l32_j100 (X : MX) (r0 : Nat) (r3 : Nat) (r4 : Nat) (N : NN) (a5 : Int) (a6 : Int) (a7 : Int) (a8 : Int) (a9 : Int) : Option ((NN × Int × Int × Int) ⊕ ((NN × Int) ⊕ (NN ⊕ (NN ⊕ (NN ⊕ NN))))) :=
  if a8 = 1 then
    if 0 ≤ a9 ∧ a9 < ((xK X r3).2 : Int) then
    f_X8_value_l32_j119 X r0 r3 r4 N a5 a6 a7 a5 (N r3 a9.toNat)
    else none
  else
    f_X8_value_l32_j119 X r0 r3 r4 N a5 a6 a7 a5 a9
noncomputable def f_X8_value_l32_j71 (X : MX) (r0 : Nat) (r3 : Nat) (r4 : Nat) (N : NN) (a5 : Int) (a6 : Int) (a7 : Int) (a8 : Int) (a9 : Int) : Option ((NN × Int × Int × Int) ⊕ ((NN × Int) ⊕ (NN ⊕ (NN ⊕ (NN ⊕ NN))))) :=
  if ((xK X r4).2 : Int) ≤ 2147483647 then
  if a5 < ((xK X r4).2 : Int) then
    if a8 = 1 then
      if a9 < 0 then
        some (.inr (.inr (.inl N)))
      else
        if ((xK X r3).2 : Int) ≤ 2147483647 then
        if a9 < ((xK X r3).2 : Int) then
          f_X8_value_l32_j100 X r0 r3 r4 N a5 a6 a7 a8 a9
        else
          some (.inr (.inr (.inl N)))
        else none
    else
      f_X8_value_l32_j100 X r0 r3 r4 N a5 a6 a7 a8 a9
  else
    some (.inr (.inr (.inl N)))
  else none
noncomputable def f_X8_value_l32_j231 (X : MX) (r0 : Nat) (r3 : Nat) (r4 : Nat) (N : NN) (a5 : Int) (a7 : Int) (z0 : Int) : Option ((NN × Int × Int × Int) ⊕ ((NN × Int) ⊕ (NN ⊕ (NN ⊕ (NN ⊕ NN))))) :=
  some (.inl (N, a5, z0, a7))
noncomputable def f_X8_value_l32_j214 (X : MX) (r0 : Nat) (r3 : Nat) (r4 : Nat) (N : NN) (a5 : Int) (a6 : Int) (a7 : Int) (a9 : Int) (z0 : Int) (z1 : Int) : Option ((NN × Int × Int × Int) ⊕ ((NN × Int) ⊕ (NN ⊕ (NN ⊕ (NN ⊕ NN))))) :=
  if z0 = z1 then
    if a6 < a9 then
      f_X8_value_l32_j231 X r0 r3 r4 N a5 a7 a9
    else
      f_X8_value_l32_j231 X r0 r3 r4 N a5 a7 a6
  else
    some (.inl (N, m_w (a5 + (-1)), a6, a7))
noncomputable def f_X8_value_l32_j202 (X : MX) (r0 : Nat) (r3 : Nat) (r4 : Nat) (N : NN) (a5 : Int) (a6 : Int) (a7 : Int) (a8 : Int) (a9 : Int) (z0 : Int) : Option ((NN × Int × Int × Int) ⊕ ((NN × Int) ⊕ (NN ⊕ (NN ⊕ (NN ⊕ NN))))) :=
  if a8 = 12 then
    f_X8_value_l32_j214 X r0 r3 r4 N a5 a6 a7 a9 z0 1
  else
    f_X8_value_l32_j214 X r0 r3 r4 N a5 a6 a7 a9 z0 0
noncomputable def f_X8_value_l32_j186 (X : MX) (r0 : Nat) (r3 : Nat) (r4 : Nat) (N : NN) (a5 : Int) (a6 : Int) (a7 : Int) (a8 : Int) (a9 : Int) : Option ((NN × Int × Int × Int) ⊕ ((NN × Int) ⊕ (NN ⊕ (NN ⊕ (NN ⊕ NN))))) :=
  if 0 ≤ (m_w (a5 - 1)) ∧ (m_w (a5 - 1)) < ((xK X r4).2 : Int) then
  if (N r4 ((m_w (a5 - 1)).toNat)) = 1 then
    f_X8_value_l32_j202 X r0 r3 r4 N a5 a6 a7 a8 a9 1
  else
    f_X8_value_l32_j202 X r0 r3 r4 N a5 a6 a7 a8 a9 0
  else none
noncomputable def f_X8_value_l32_j429 (X : MX) (r0 : Nat) (r3 : Nat) (r4 : Nat) (N : NN) (a5 : Int) (a6 : Int) (a7 : Int) (a14 : Int) : Option ((NN × Int × Int × Int) ⊕ ((NN × Int) ⊕ (NN ⊕ (NN ⊕ (NN ⊕ NN))))) :=
  if 0 < (m_lcmp a14 1000000000) then
    some (.inr (.inr (.inr (.inr (.inr N)))))
  else
    if (m_lcmp a14 (-1000000000)) < 0 then
      some (.inr (.inr (.inr (.inr (.inr N)))))
    else
      if 0 ≤ (m_w ((m_w (a5 + (-1))) - 1)) ∧ (m_w ((m_w (a5 + (-1))) - 1)) < ((xK X r4).2 : Int) then
      let N48 : NN := m_up N r4 ((m_w ((m_w (a5 + (-1))) - 1)).toNat) (m_w a14)
      some (.inl (N48, m_w (a5 + (-1)), a6, a7))
      else none
noncomputable def f_X8_value_l32_j391 (X : MX) (r0 : Nat) (r3 : Nat) (r4 : Nat) (N : NN) (a5 : Int) (a6 : Int) (a7 : Int) (z0 : Int) : Option ((NN × Int × Int × Int) ⊕ ((NN × Int) ⊕ (NN ⊕ (NN ⊕ (NN ⊕ NN))))) :=
  f_X8_value_l32_j429 X r0 r3 r4 N a5 a6 a7 z0
noncomputable def f_X8_value_l32_j409 (X : MX) (r0 : Nat) (r3 : Nat) (r4 : Nat) (N : NN) (a5 : Int) (a6 : Int) (a7 : Int) (z0 : Int) : Option ((NN × Int × Int × Int) ⊕ ((NN × Int) ⊕ (NN ⊕ (NN ⊕ (NN ⊕ NN))))) :=
  f_X8_value_l32_j429 X r0 r3 r4 N a5 a6 a7 z0
noncomputable def f_X8_value_l32_j427 (X : MX) (r0 : Nat) (r3 : Nat) (r4 : Nat) (N : NN) (a5 : Int) (a6 : Int) (a7 : Int) (z0 : Int) : Option ((NN × Int × Int × Int) ⊕ ((NN × Int) ⊕ (NN ⊕ (NN ⊕ (NN ⊕ NN))))) :=
  f_X8_value_l32_j429 X r0 r3 r4 N a5 a6 a7 z0
noncomputable def f_X8_value_l32_j285 (X : MX) (r0 : Nat) (r3 : Nat) (r4 : Nat) (N : NN) (a5 : Int) (a6 : Int) (a7 : Int) (a8 : Int) (a10 : Int) (a12 : Int) : Option ((NN × Int × Int × Int) ⊕ ((NN × Int) ⊕ (NN ⊕ (NN ⊕ (NN ⊕ NN))))) :=
  if a8 = 2 then
    f_X8_value_l32_j429 X r0 r3 r4 N a5 a6 a7 (m_wl (a12 + a10))
  else
    if a8 = 3 then
      f_X8_value_l32_j429 X r0 r3 r4 N a5 a6 a7 (m_wl (a12 - a10))
    else
      if a8 = 4 then
        f_X8_value_l32_j429 X r0 r3 r4 N a5 a6 a7 (m_wl (a12 * a10))
      else
        if a8 = 5 then
          if a10 ≠ 0 then
          f_X8_value_l32_j429 X r0 r3 r4 N a5 a6 a7 (m_ldiv a12 a10)
          else none
        else
          if a8 = 6 then
            if a10 ≠ 0 then
            f_X8_value_l32_j429 X r0 r3 r4 N a5 a6 a7 (m_lrem a12 a10)
            else none
          else
            if a8 = 7 then
              if (m_lcmp a12 a10) < 0 then
                f_X8_value_l32_j391 X r0 r3 r4 N a5 a6 a7 1
              else
                f_X8_value_l32_j391 X r0 r3 r4 N a5 a6 a7 0
            else
              if a8 = 8 then
                if 0 < (m_lcmp a12 a10) then
                  f_X8_value_l32_j409 X r0 r3 r4 N a5 a6 a7 1
                else
                  f_X8_value_l32_j409 X r0 r3 r4 N a5 a6 a7 0
              else
                if (m_lcmp a12 a10) = 0 then
                  f_X8_value_l32_j427 X r0 r3 r4 N a5 a6 a7 1
                else
                  f_X8_value_l32_j427 X r0 r3 r4 N a5 a6 a7 0
noncomputable def f_X8_value_l32_j140 (X : MX) (r0 : Nat) (r3 : Nat) (r4 : Nat) (N : NN) (a5 : Int) (a6 : Int) (a7 : Int) (a8 : Int) (a9 : Int) (z0 : Int) (z1 : Int) : Option ((NN × Int × Int × Int) ⊕ ((NN × Int) ⊕ (NN ⊕ (NN ⊕ (NN ⊕ NN))))) :=
  if z0 < z1 then
    some (.inr (.inr (.inr (.inl N))))
  else
    if a8 = 10 then
      if 0 ≤ (m_w (a5 - 1)) ∧ (m_w (a5 - 1)) < ((xK X r4).2 : Int) then
      if 0 ≤ (m_w (a5 - 1)) ∧ (m_w (a5 - 1)) < ((xK X r4).2 : Int) then
      let N17 : NN := m_up N r4 ((m_w (a5 - 1)).toNat) (m_w (1 - (N r4 ((m_w (a5 - 1)).toNat))))
      some (.inl (N17, a5, a6, a7))
      else none
      else none
    else
      if a8 = 11 then
        f_X8_value_l32_j186 X r0 r3 r4 N a5 a6 a7 a8 a9
      else
        if a8 = 12 then
          f_X8_value_l32_j186 X r0 r3 r4 N a5 a6 a7 a8 a9
        else
          if 0 ≤ (m_w (a5 - 1)) ∧ (m_w (a5 - 1)) < ((xK X r4).2 : Int) then
          if 0 ≤ (m_w (a5 - 2)) ∧ (m_w (a5 - 2)) < ((xK X r4).2 : Int) then
          if (m_lcmp (N r4 ((m_w (a5 - 1)).toNat)) 0) = 0 then
            if a8 = 5 then
              some (.inr (.inr (.inr (.inr (.inl N)))))
            else
              if a8 = 6 then
                some (.inr (.inr (.inr (.inr (.inl N)))))
              else
                f_X8_value_l32_j285 X r0 r3 r4 N a5 a6 a7 a8 (N r4 ((m_w (a5 - 1)).toNat)) (N r4 ((m_w (a5 - 2)).toNat))
          else
            f_X8_value_l32_j285 X r0 r3 r4 N a5 a6 a7 a8 (N r4 ((m_w (a5 - 1)).toNat)) (N r4 ((m_w (a5 - 2)).toNat))
          else none
          else none
noncomputable def b_X8_value_32 (X : MX) (r0 : Nat) (r3 : Nat) (r4 : Nat) (N : NN) (a5 : Int) (a6 : Int) (a7 : Int) : Option ((NN × Int × Int × Int) ⊕ ((NN × Int) ⊕ (NN ⊕ (NN ⊕ (NN ⊕ NN))))) :=
  if a6 < a7 then
    if 0 ≤ a6 ∧ a6 < ((xK X (r0 + 1)).2 : Int) then
    if 0 ≤ a6 ∧ a6 < ((xK X (r0 + 2)).2 : Int) then
    if (N (r0 + 1) a6.toNat) = 0 then
      f_X8_value_l32_j71 X r0 r3 r4 N a5 (m_w (a6 + 1)) a7 (N (r0 + 1) a6.toNat) (N (r0 + 2) a6.toNat)
    else
      if (N (r0 + 1) a6.toNat) = 1 then
        f_X8_value_l32_j71 X r0 r3 r4 N a5 (m_w (a6 + 1)) a7 (N (r0 + 1) a6.toNat) (N (r0 + 2) a6.toNat)
      else
        if 9 < (N (r0 + 1) a6.toNat) then
          f_X8_value_l32_j140 X r0 r3 r4 N a5 (m_w (a6 + 1)) a7 (N (r0 + 1) a6.toNat) (N (r0 + 2) a6.toNat) a5 1
        else
          f_X8_value_l32_j140 X r0 r3 r4 N a5 (m_w (a6 + 1)) a7 (N (r0 + 1) a6.toNat) (N (r0 + 2) a6.toNat) a5 2
    else none
    else none
  else
    some (.inr (.inl (N, a5)))
noncomputable def f_X8_value_j481 (X : MX) (r0 : Nat) (r3 : Nat) (r4 : Nat) (N : NN) (z0 : Int) : Option (Int × NN) :=
  some (z0, N)
noncomputable def f_X8_value_j30 (X : MX) (r0 : Nat) (r3 : Nat) (r4 : Nat) (N : NN) (a5 : Int) (a6 : Int) (z0 : Int) : Option (Int × NN) :=
  Option.bind (lp (fun s => b_X8_value_32 X r0 r3 r4 s.1 s.2.1 s.2.2.1 s.2.2.2) (N, a5, a6, z0)) (fun o53 =>
    match o53 with
    | .inl e53 =>
        if e53.2 = 1 then
          if 0 ≤ (0 : Int) ∧ (0 : Int) < ((xK X r4).2 : Int) then
          f_X8_value_j481 X r0 r3 r4 e53.1 (e53.1 r4 0)
          else none
        else
          f_X8_value_j481 X r0 r3 r4 e53.1 (-2000000000)
    | .inr (.inl e53) =>
        some ((-2000000000), e53)
    | .inr (.inr (.inl e53)) =>
        some ((-2000000000), e53)
    | .inr (.inr (.inr (.inl e53))) =>
        some ((-2000000000), e53)
    | .inr (.inr (.inr (.inr e53))) =>
        some ((-2000000000), e53))
noncomputable def f_X8_value_j12 (X : MX) (r0 : Nat) (r3 : Nat) (r4 : Nat) (N : NN) (a2 : Int) (a5 : Int) (z0 : Int) : Option (Int × NN) :=
  if (N r0 3) < a2 then
    f_X8_value_j30 X r0 r3 r4 N a5 z0 (N r0 3)
  else
    f_X8_value_j30 X r0 r3 r4 N a5 z0 a2
noncomputable def f_X8_value (X : MX) (r0 : Nat) (r3 : Nat) (r4 : Nat) (N : NN) (a1 : Int) (a2 : Int) : Option (Int × NN) :=
  if a1 < 0 then
    f_X8_value_j12 X r0 r3 r4 N a2 0 0
  else
    f_X8_value_j12 X r0 r3 r4 N a2 0 a1
noncomputable def f_X8_isSo_j60 (X : MX) (r0 : Nat) (r2 : Nat) (r3 : Nat) (N : NN) (z0 : Int) : Option (Int × NN) :=
  if 0 ≤ z0 ∧ z0 ≤ 1 then
  some (z0, N)
  else none
noncomputable def f_X8_isSo (X : MX) (r0 : Nat) (r2 : Nat) (r3 : Nat) (N : NN) (a1 : Int) : Option (Int × NN) :=
  if 0 ≤ (m_w ((m_w (a1 * 8)) + 2)) ∧ (m_w ((m_w (a1 * 8)) + 2)) < ((xK X (r0 + 3)).2 : Int) then
  if 0 ≤ (m_w ((m_w ((m_w (a1 * 8)) + 2)) + 1)) ∧ (m_w ((m_w ((m_w (a1 * 8)) + 2)) + 1)) < ((xK X (r0 + 3)).2 : Int) then
  if (N (r0 + 3) ((m_w ((m_w (a1 * 8)) + 2)).toNat)) < (N (r0 + 3) ((m_w ((m_w ((m_w (a1 * 8)) + 2)) + 1)).toNat)) then
    if 0 ≤ (m_w ((m_w (a1 * 8)) + 2)) ∧ (m_w ((m_w (a1 * 8)) + 2)) < ((xK X (r0 + 3)).2 : Int) then
    if 0 ≤ (m_w ((m_w ((m_w (a1 * 8)) + 2)) + 1)) ∧ (m_w ((m_w ((m_w (a1 * 8)) + 2)) + 1)) < ((xK X (r0 + 3)).2 : Int) then
    Option.bind (f_X8_value X r0 r2 r3 N (N (r0 + 3) ((m_w ((m_w (a1 * 8)) + 2)).toNat)) (N (r0 + 3) ((m_w ((m_w ((m_w (a1 * 8)) + 2)) + 1)).toNat))) (fun o5 =>
    if o5.1 = 1 then
      f_X8_isSo_j60 X r0 r2 r3 o5.2 1
    else
      f_X8_isSo_j60 X r0 r2 r3 o5.2 0)
    else none
    else none
  else
    some (1, N)
  else none
  else none
noncomputable def f_X8_part (X : MX) (N : NN) (r0 : Nat) (a1 : Int) (a2 : Int) : Option Int :=
  if 0 ≤ (m_w ((m_w (a1 * 8)) + a2)) ∧ (m_w ((m_w (a1 * 8)) + a2)) < ((xK X (r0 + 3)).2 : Int) then
  some (N (r0 + 3) ((m_w ((m_w (a1 * 8)) + a2)).toNat))
  else none
noncomputable def f_X8_sum (X : MX) (r0 : Nat) (r3 : Nat) (r4 : Nat) (N : NN) (a1 : Int) (a2 : Int) : Option (Int × NN) :=
  if 0 ≤ (m_w ((m_w (a1 * 8)) + a2)) ∧ (m_w ((m_w (a1 * 8)) + a2)) < ((xK X (r0 + 3)).2 : Int) then
  if 0 ≤ (m_w ((m_w ((m_w (a1 * 8)) + a2)) + 1)) ∧ (m_w ((m_w ((m_w (a1 * 8)) + a2)) + 1)) < ((xK X (r0 + 3)).2 : Int) then
  Option.bind (f_X8_value X r0 r3 r4 N (N (r0 + 3) ((m_w ((m_w (a1 * 8)) + a2)).toNat)) (N (r0 + 3) ((m_w ((m_w ((m_w (a1 * 8)) + a2)) + 1)).toNat))) (fun o3 =>
  some (o3.1, o3.2))
  else none
  else none
noncomputable def f_X2_told_l14_j83 (X : MX) (r1 : Nat) (N : NN) (a2 : Int) (a3 : Int) (a4 : Int) (a5 : Int) : Option ((NN × Int × Int × Int × Int) ⊕ ((NN × Int) ⊕ (NN × Int × Int))) :=
  some (.inl (N, a2, a3, a4, m_w (a5 + (-1))))
noncomputable def b_X2_told_14 (X : MX) (r1 : Nat) (N : NN) (a2 : Int) (a3 : Int) (a4 : Int) (a5 : Int) : Option ((NN × Int × Int × Int × Int) ⊕ ((NN × Int) ⊕ (NN × Int × Int))) :=
  if a5 < 0 then
    some (.inr (.inl (N, a3)))
  else
    if m_isT X r1 then
    Option.bind (f_X8_part X N r1 a5 0) (fun o4 =>
    if o4 = a2 then
      if m_isT X r1 then
      Option.bind (f_X8_isSo X r1 26 27 N a5) (fun o6 =>
      if o6.1 = 0 then
        f_X2_told_l14_j83 X r1 o6.2 a2 a3 a4 a5
      else
        if m_isT X r1 then
        Option.bind (f_X8_sum X r1 26 27 o6.2 a5 4) (fun o8 =>
        if o8.1 = (-2000000000) then
          f_X2_told_l14_j83 X r1 o8.2 a2 a3 a4 a5
        else
          some (.inr (.inr (o8.2, a4, o8.1))))
        else none)
      else none
    else
      f_X2_told_l14_j83 X r1 N a2 a3 a4 a5)
    else none
noncomputable def f_X2_told (X : MX) (r1 : Nat) (N : NN) (a2 : Int) (a3 : Int) (a4 : Int) : Option (Int × NN) :=
  if r1 = 0 then
    some (a3, N)
  else
    if m_isT X r1 then
    Option.bind (f_X8_clauses X N r1) (fun o2 =>
    Option.bind (lp (fun s => b_X2_told_14 X r1 s.1 s.2.1 s.2.2.1 s.2.2.2.1 s.2.2.2.2) (N, a2, a3, a4, m_w (o2 - 1))) (fun o13 =>
      match o13 with
      | .inl e13 =>
          some (e13.2, e13.1)
      | .inr e13 =>
          some (m_max 0 (m_min e13.2.1 e13.2.2), e13.1)))
    else none
noncomputable def f_X2_worth (X : MX) (r1 : Nat) (N : NN) (a2 : Int) (a3 : Int) (a4 : Int) : Option (Int × NN) :=
  Option.bind (f_X10_term X N r1 0) (fun o1 =>
  Option.bind (f_X2_ask X r1 N a2 o1) (fun o2 =>
  let N3 : NN := m_up o2 26 4 a3
  let N4 : NN := m_up N3 26 5 a4
  Option.bind (f_X10_lawInForce X N4 r1) (fun o5 =>
  Option.bind (f_X10_goodAt X N4 r1 a2 2) (fun o6 =>
  Option.bind (f_X2_told X o5 N4 256 o6 999) (fun o7 =>
  some (o7.1, o7.2))))))
noncomputable def f_X0_hand_j73 (X : MX) (r1 : Nat) (N : NN) (a5 : Int) : Option (Int × NN) :=
  some (a5, N)
noncomputable def f_X0_hand (X : MX) (r1 : Nat) (N : NN) (a2 : Int) (a3 : Int) : Option (Int × NN) :=
  Option.bind (f_X10_goodAt X N r1 a2 0) (fun o1 =>
  Option.bind (f_X2_worth X r1 N a2 o1 a3) (fun o2 =>
  Option.bind (f_X10_setGood X r1 o2.2 a2 0 a3) (fun o3 =>
  Option.bind (f_X10_goodAt X o3 r1 a2 4) (fun o4 =>
  Option.bind (f_X10_setGood X r1 o3 a2 4 (m_w (o4 + 1))) (fun o5 =>
  Option.bind (f_X10_goodAt X o5 r1 a2 1) (fun o6 =>
  if o6 = o1 then
    Option.bind (f_X0_challenge X r1 o5 o1 a3 o2.1) (fun o7 =>
    f_X0_hand_j73 X r1 o7 o2.1)
  else
    Option.bind (f_X10_oneMoreOf X r1 o5 o1 3) (fun o8 =>
    f_X0_hand_j73 X r1 o8 o2.1)))))))
noncomputable def f_X0_latestDrawn (X : MX) (N : NN) : Option Nat :=
  some 30
noncomputable def f_X0_loseOld_l13_j60 (X : MX) (r0 : Nat) (N : NN) (a1 : Int) (a2 : Int) (a3 : Int) : Option ((NN × Int × Int × Int) ⊕ (NN × Int × Int)) :=
  some (.inl (N, a1, a2, m_w (a3 + 1)))
noncomputable def b_X0_loseOld_13 (X : MX) (r0 : Nat) (N : NN) (a1 : Int) (a2 : Int) (a3 : Int) : Option ((NN × Int × Int × Int) ⊕ (NN × Int × Int)) :=
  Option.bind (f_X10_many X N r0 0) (fun o2 =>
  if a3 < o2 then
    Option.bind (f_X10_worthOwed X N r0 a2 a3) (fun o3 =>
    if o3 = (-1) then
      f_X0_loseOld_l13_j60 X r0 N a1 a2 a3
    else
      Option.bind (f_X10_since X N r0 a2 a3) (fun o4 =>
      if a1 < o4 then
        f_X0_loseOld_l13_j60 X r0 N a1 a2 a3
      else
        Option.bind (f_X10_oneMoreOf X r0 N a2 4) (fun o5 =>
        Option.bind (f_X10_oneMoreOf X r0 o5 a3 5) (fun o6 =>
        Option.bind (f_X10_settle X r0 o6 a2 a3) (fun o7 =>
        f_X0_loseOld_l13_j60 X r0 o7 a1 a2 a3)))))
  else
    some (.inr (N, a1, a2)))
noncomputable def b_X0_loseOld_2 (X : MX) (r0 : Nat) (N : NN) (a1 : Int) (a2 : Int) : Option ((NN × Int × Int) ⊕ NN) :=
  Option.bind (f_X10_many X N r0 0) (fun o1 =>
  if a2 < o1 then
    Option.bind (lp (fun s => b_X0_loseOld_13 X r0 s.1 s.2.1 s.2.2.1 s.2.2.2) (N, a1, a2, 0)) (fun o11 =>
    some (.inl (o11.1, o11.2.1, m_w (o11.2.2 + 1))))
  else
    some (.inr N))
noncomputable def f_X0_loseOld (X : MX) (r0 : Nat) (N : NN) (a1 : Int) : Option NN :=
  Option.bind (lp (fun s => b_X0_loseOld_2 X r0 s.1 s.2.1 s.2.2) (N, a1, 0)) (fun o13 =>
  some o13)
noncomputable def f_X10_isRuined_j21 (X : MX) (N : NN) (r0 : Nat) (z0 : Int) : Option Int :=
  if 0 ≤ z0 ∧ z0 ≤ 1 then
  some z0
  else none
noncomputable def f_X10_isRuined (X : MX) (N : NN) (r0 : Nat) (a1 : Int) : Option Int :=
  if 0 ≤ (m_w ((m_w (3 + (m_w (a1 * 6)))) + 2)) ∧ (m_w ((m_w (3 + (m_w (a1 * 6)))) + 2)) < 266 then
  if (N (r0 + 1) ((m_w ((m_w (3 + (m_w (a1 * 6)))) + 2)).toNat)) = 0 then
    f_X10_isRuined_j21 X N r0 0
  else
    f_X10_isRuined_j21 X N r0 1
  else none
noncomputable def f_X2_bars_l42_j86 (X : MX) (r1 : Nat) (N : NN) (r5 : Nat) (a6 : Int) : Option ((NN × Nat × Int) ⊕ (NN ⊕ NN)) :=
  some (.inl (N, r5, m_w (a6 + 1)))
noncomputable def b_X2_bars_42 (X : MX) (r1 : Nat) (N : NN) (r5 : Nat) (a6 : Int) : Option ((NN × Nat × Int) ⊕ (NN ⊕ NN)) :=
  if m_isT X r5 then
  Option.bind (f_X8_clauses X N r5) (fun o7 =>
  if a6 < o7 then
    if m_isT X r5 then
    Option.bind (f_X8_part X N r5 a6 0) (fun o9 =>
    if o9 = 258 then
      if m_isT X r5 then
      Option.bind (f_X8_isSo X r5 26 27 N a6) (fun o11 =>
      if o11.1 = 0 then
        f_X2_bars_l42_j86 X r1 o11.2 r5 a6
      else
        some (.inr (.inr o11.2)))
      else none
    else
      f_X2_bars_l42_j86 X r1 N r5 a6)
    else none
  else
    some (.inr (.inl N)))
  else none
noncomputable def f_X2_bars (X : MX) (r1 : Nat) (N : NN) (a2 : Int) (a3 : Int) (a4 : Int) : Option (Int × NN) :=
  Option.bind (f_X10_lawInForce X N r1) (fun o1 =>
  if o1 = 0 then
    some (0, N)
  else
    Option.bind (f_X10_term X N r1 0) (fun o2 =>
    Option.bind (f_X2_ask X r1 N a2 o2) (fun o3 =>
    let N4 : NN := m_up o3 26 4 a3
    let N5 : NN := m_up N4 26 5 a4
    Option.bind (lp (fun s => b_X2_bars_42 X r1 s.1 s.2.1 s.2.2) (N5, o1, 0)) (fun o15 =>
      match o15 with
      | .inl e15 =>
          some (0, e15)
      | .inr e15 =>
          some (1, e15)))))
noncomputable def f_X0_mayGive_j51 (X : MX) (r1 : Nat) (N : NN) (z0 : Int) : Option (Int × NN) :=
  if 0 ≤ z0 ∧ z0 ≤ 1 then
  some (z0, N)
  else none
noncomputable def f_X0_mayGive_j50 (X : MX) (r1 : Nat) (N : NN) : Option (Int × NN) :=
  f_X0_mayGive_j51 X r1 N 0
noncomputable def f_X0_mayGive (X : MX) (r1 : Nat) (N : NN) (a2 : Int) (a3 : Int) : Option (Int × NN) :=
  Option.bind (f_X10_goodAt X N r1 a2 0) (fun o1 =>
  if o1 = a3 then
    f_X0_mayGive_j50 X r1 N
  else
    Option.bind (f_X10_isRuined X N r1 o1) (fun o2 =>
    if o2 = 0 then
      Option.bind (f_X10_isRuined X N r1 a3) (fun o3 =>
      if o3 = 0 then
        Option.bind (f_X2_bars X r1 N a2 o1 a3) (fun o4 =>
        if o4.1 = 0 then
          f_X0_mayGive_j51 X r1 o4.2 1
        else
          f_X0_mayGive_j50 X r1 o4.2)
      else
        f_X0_mayGive_j50 X r1 N)
    else
      f_X0_mayGive_j50 X r1 N))
noncomputable def f_X10_lordAt (X : MX) (N : NN) (r0 : Nat) (a1 : Int) (a2 : Int) : Option Int :=
  if 0 ≤ (m_w ((m_w (3 + (m_w (a1 * 6)))) + a2)) ∧ (m_w ((m_w (3 + (m_w (a1 * 6)))) + a2)) < 266 then
  some (N (r0 + 1) ((m_w ((m_w (3 + (m_w (a1 * 6)))) + a2)).toNat))
  else none
noncomputable def f_X10_setLord (X : MX) (r0 : Nat) (N : NN) (a1 : Int) (a2 : Int) (a3 : Int) : Option NN :=
  if 0 ≤ (m_w ((m_w (3 + (m_w (a1 * 6)))) + a2)) ∧ (m_w ((m_w (3 + (m_w (a1 * 6)))) + a2)) < 266 then
  let N2 : NN := m_up N (r0 + 1) ((m_w ((m_w (3 + (m_w (a1 * 6)))) + a2)).toNat) a3
  some N2
  else none
noncomputable def f_X10_setTerm (X : MX) (r0 : Nat) (N : NN) (a1 : Int) (a2 : Int) : Option NN :=
  if 0 ≤ a1 ∧ a1 < 266 then
  let N2 : NN := m_up N (r0 + 1) a1.toNat a2
  some N2
  else none
noncomputable def f_X2_upkeep_l6_j67 (X : MX) (r1 : Nat) (N : NN) (a2 : Int) (a3 : Int) (a4 : Int) (a5 : Int) : Option ((NN × Int × Int × Int × Int) ⊕ (NN × Int)) :=
  some (.inl (N, a2, a3, a4, m_w (a5 + 1)))
noncomputable def b_X2_upkeep_6 (X : MX) (r1 : Nat) (N : NN) (a2 : Int) (a3 : Int) (a4 : Int) (a5 : Int) : Option ((NN × Int × Int × Int × Int) ⊕ (NN × Int)) :=
  Option.bind (f_X10_many X N r1 1) (fun o1 =>
  if a5 < o1 then
    Option.bind (f_X10_goodAt X N r1 a5 0) (fun o2 =>
    if o2 = a2 then
      Option.bind (f_X2_ask X r1 N a5 a3) (fun o3 =>
      let N4 : NN := m_up o3 26 5 a2
      Option.bind (f_X10_lawInForce X N4 r1) (fun o5 =>
      Option.bind (f_X10_goodAt X N4 r1 a5 3) (fun o6 =>
      Option.bind (f_X2_told X o5 N4 257 o6 99) (fun o7 =>
      f_X2_upkeep_l6_j67 X r1 o7.2 a2 a3 (m_w (a4 + o7.1)) a5))))
    else
      f_X2_upkeep_l6_j67 X r1 N a2 a3 a4 a5)
  else
    some (.inr (N, a4)))
noncomputable def f_X2_upkeep (X : MX) (r1 : Nat) (N : NN) (a2 : Int) (a3 : Int) : Option (Int × NN) :=
  Option.bind (lp (fun s => b_X2_upkeep_6 X r1 s.1 s.2.1 s.2.2.1 s.2.2.2.1 s.2.2.2.2) (N, a2, a3, 0, 0)) (fun o10 =>
  some (o10.2, o10.1))
noncomputable def f_X0_passYear_l20_j138 (X : MX) (r1 : Nat) (N : NN) (a2 : Int) (a3 : Int) (a4 : Int) (a5 : Int) : Option ((NN × Int × Int × Int × Int) ⊕ (NN × Int × Int)) :=
  some (.inl (N, a2, a3, a4, m_w (a5 + 1)))
noncomputable def f_X0_passYear_l20_j121 (X : MX) (r1 : Nat) (N : NN) (a2 : Int) (a3 : Int) (a5 : Int) (z0 : Int) (z1 : Int) : Option ((NN × Int × Int × Int × Int) ⊕ (NN × Int × Int)) :=
  Option.bind (f_X10_setLord X r1 N a5 2 1) (fun o13 =>
  Option.bind (f_X0_dropAllOf X r1 o13 a5) (fun o14 =>
  f_X0_passYear_l20_j138 X r1 o14 a2 a3 (m_w (z0 + z1)) a5))
noncomputable def f_X0_passYear_l20_j51 (X : MX) (r1 : Nat) (N : NN) (a2 : Int) (a3 : Int) (a4 : Int) (a5 : Int) (z0 : Int) : Option ((NN × Int × Int × Int × Int) ⊕ (NN × Int × Int)) :=
  Option.bind (f_X10_lordAt X N r1 a5 0) (fun o7 =>
  Option.bind (f_X2_upkeep X r1 N a5 a3) (fun o8 =>
  Option.bind (f_X10_setLord X r1 o8.2 a5 0 (m_max 0 (m_w ((m_min 9999 (m_w (o7 + z0))) - o8.1)))) (fun o9 =>
  if (m_w ((m_min 9999 (m_w (o7 + z0))) - o8.1)) < 0 then
    Option.bind (f_X10_isRuined X o9 r1 a5) (fun o10 =>
    if o10 = 0 then
      f_X0_passYear_l20_j121 X r1 o9 a2 a3 a5 a4 1
    else
      f_X0_passYear_l20_j121 X r1 o9 a2 a3 a5 a4 0)
  else
    f_X0_passYear_l20_j138 X r1 o9 a2 a3 a4 a5)))
noncomputable def b_X0_passYear_20 (X : MX) (r1 : Nat) (N : NN) (a2 : Int) (a3 : Int) (a4 : Int) (a5 : Int) : Option ((NN × Int × Int × Int × Int) ⊕ (NN × Int × Int)) :=
  Option.bind (f_X10_many X N r1 0) (fun o3 =>
  if a5 < o3 then
    if (m_and (m_shr a2 a5) 1) = 1 then
      f_X0_passYear_l20_j51 X r1 N a2 a3 a4 a5 0
    else
      Option.bind (f_X10_lordAt X N r1 a5 1) (fun o4 =>
      f_X0_passYear_l20_j51 X r1 N a2 a3 a4 a5 o4)
  else
    some (.inr (N, a3, a4)))
noncomputable def f_X0_passYear (X : MX) (r1 : Nat) (N : NN) (a2 : Int) : Option (Int × NN) :=
  Option.bind (f_X10_term X N r1 0) (fun o1 =>
  Option.bind (f_X10_setTerm X r1 N 0 (m_w (o1 + 1))) (fun o2 =>
  Option.bind (lp (fun s => b_X0_passYear_20 X r1 s.1 s.2.1 s.2.2.1 s.2.2.2.1 s.2.2.2.2) (o2, a2, m_w (o1 + 1), 0, 0)) (fun o15 =>
  Option.bind (f_X10_term X o15.1 r1 1) (fun o16 =>
  Option.bind (f_X0_loseOld X r1 o15.1 (m_w (o15.2.1 - o16))) (fun o17 =>
  some (o15.2.2, o17))))))
noncomputable def b_X10_copyFrom_18 (X : MX) (r0 : Nat) (r1 : Nat) (N : NN) (a2 : Int) : Option ((NN × Int) ⊕ NN) :=
  if a2 < 6 then
    if 0 ≤ a2 ∧ a2 < 6 then
    if 0 ≤ a2 ∧ a2 < 6 then
    if ((N (r1 + 2) a2.toNat).toNat) = 0 ∨ (xK X ((N (r1 + 2) a2.toNat).toNat)).1 = 13 then
    let N6 : NN := m_up N (r0 + 2) a2.toNat ((N (r1 + 2) a2.toNat).toNat : Int)
    some (.inl (N6, m_w (a2 + 1)))
    else none
    else none
    else none
  else
    some (.inr N)
noncomputable def f_X10_copyFrom (X : MX) (r0 : Nat) (r1 : Nat) (N : NN) : Option NN :=
  if 0 ≤ (0 : Int) ∧ 0 ≤ (0 : Int) ∧ 0 ≤ (266 : Int) ∧ (0 : Int) + (266 : Int) ≤ 266 ∧ (0 : Int) + (266 : Int) ≤ 266 then
  let N2 : NN := m_cpy N (r1 + 1) ((0 : Int).toNat) (r0 + 1) ((0 : Int).toNat) ((266 : Int).toNat)
  Option.bind (lp (fun s => b_X10_copyFrom_18 X r0 r1 s.1 s.2) (N2, 0)) (fun o8 =>
  some o8)
  else none
noncomputable def f_X0_playOut_l104_j129 (X : MX) (r1 : Nat) (N : NN) (a3 : Int) (a4 : Int) (a5 : Int) (a6 : Int) (a7 : Int) (a9 : Int) (z0 : Int) (z1 : Int) : Option ((NN × Int × Int × Int × Int × Int × Int × Int) ⊕ (NN × Int × Int × Int × Int × Int × Int)) :=
  some (.inl (N, a3, a4, a5, a6, a7, m_or z0 z1, m_w (a9 + 1)))
noncomputable def b_X0_playOut_104 (X : MX) (r1 : Nat) (N : NN) (a3 : Int) (a4 : Int) (a5 : Int) (a6 : Int) (a7 : Int) (a8 : Int) (a9 : Int) : Option ((NN × Int × Int × Int × Int × Int × Int × Int) ⊕ (NN × Int × Int × Int × Int × Int × Int)) :=
  if a9 < a4 then
    Option.bind (f_X0_draw X N 3) (fun o12 =>
    if o12.1 = 0 then
      f_X0_playOut_l104_j129 X r1 o12.2 a3 a4 a5 a6 a7 a9 a8 (m_shl 1 a9)
    else
      f_X0_playOut_l104_j129 X r1 o12.2 a3 a4 a5 a6 a7 a9 a8 0)
  else
    some (.inr (N, a3, a4, a5, a6, a7, a8))
noncomputable def f_X0_playOut_l40_j98 (X : MX) (r1 : Nat) (N : NN) (a3 : Int) (a4 : Int) (a5 : Int) (a6 : Int) (a7 : Int) : Option ((NN × Int × Int × Int × Int × Int) ⊕ ((NN × Int) ⊕ (NN × Int))) :=
  Option.bind (lp (fun s => b_X0_playOut_104 X r1 s.1 s.2.1 s.2.2.1 s.2.2.2.1 s.2.2.2.2.1 s.2.2.2.2.2.1 s.2.2.2.2.2.2.1 s.2.2.2.2.2.2.2) (N, a3, a4, a5, a6, a7, 0, 0)) (fun o15 =>
  Option.bind (f_X10_term X o15.1 30 0) (fun o16 =>
  if o16 < 999 then
    Option.bind (f_X0_passYear X 30 o15.1 o15.2.2.2.2.2.2) (fun o17 =>
    some (.inl (o17.2, o15.2.1, o15.2.2.1, o15.2.2.2.1, o15.2.2.2.2.1, m_w (o15.2.2.2.2.2.1 + 1))))
  else
    some (.inr (.inr (o15.1, o15.2.2.2.2.1)))))
noncomputable def b_X0_playOut_40 (X : MX) (r1 : Nat) (N : NN) (a3 : Int) (a4 : Int) (a5 : Int) (a6 : Int) (a7 : Int) : Option ((NN × Int × Int × Int × Int × Int) ⊕ ((NN × Int) ⊕ (NN × Int))) :=
  if a7 < a3 then
    if 0 < a5 then
      Option.bind (f_X0_draw X N a5) (fun o5 =>
      Option.bind (f_X0_draw X o5.2 a4) (fun o6 =>
      Option.bind (f_X0_mayGive X 30 o6.2 o5.1 o6.1) (fun o7 =>
      if o7.1 = 0 then
        f_X0_playOut_l40_j98 X r1 o7.2 a3 a4 a5 a6 a7
      else
        Option.bind (f_X0_hand X 30 o7.2 o5.1 o6.1) (fun o8 =>
        f_X0_playOut_l40_j98 X r1 o8.2 a3 a4 a5 (m_w (a6 + 1)) a7))))
    else
      f_X0_playOut_l40_j98 X r1 N a3 a4 a5 a6 a7
  else
    some (.inr (.inl (N, a6)))
noncomputable def f_X0_playOut_j172 (X : MX) (r1 : Nat) (N : NN) (a6 : Int) : Option (Int × NN) :=
  some (a6, N)
noncomputable def f_X0_playOut (X : MX) (r1 : Nat) (N : NN) (a2 : Int) (a3 : Int) : Option (Int × NN) :=
  Option.bind (f_X10_copyFrom X 30 r1 N) (fun o1 =>
  let N2 : NN := m_up o1 29 2 a2
  Option.bind (f_X10_many X N2 30 0) (fun o3 =>
  Option.bind (f_X10_many X N2 30 1) (fun o4 =>
  Option.bind (lp (fun s => b_X0_playOut_40 X r1 s.1 s.2.1 s.2.2.1 s.2.2.2.1 s.2.2.2.2.1 s.2.2.2.2.2) (N2, a3, o3, o4, 0, 0)) (fun o19 =>
    match o19 with
    | .inl e19 =>
        f_X0_playOut_j172 X r1 e19.1 e19.2
    | .inr e19 =>
        f_X0_playOut_j172 X r1 e19.1 e19.2))))
noncomputable def f_X10_addGood (X : MX) (r0 : Nat) (N : NN) (a1 : Int) (a2 : Int) (a3 : Int) : Option (Int × NN) :=
  let N1 : NN := m_up N (r0 + 1) 192 (m_w ((N (r0 + 1) 192) + 1))
  if 0 ≤ (m_w ((m_w (39 + (m_w ((N (r0 + 1) 192) * 5)))) + 0)) ∧ (m_w ((m_w (39 + (m_w ((N (r0 + 1) 192) * 5)))) + 0)) < 266 then
  let N3 : NN := m_up N1 (r0 + 1) ((m_w ((m_w (39 + (m_w ((N (r0 + 1) 192) * 5)))) + 0)).toNat) a1
  if 0 ≤ (m_w ((m_w (39 + (m_w ((N (r0 + 1) 192) * 5)))) + 1)) ∧ (m_w ((m_w (39 + (m_w ((N (r0 + 1) 192) * 5)))) + 1)) < 266 then
  let N5 : NN := m_up N3 (r0 + 1) ((m_w ((m_w (39 + (m_w ((N (r0 + 1) 192) * 5)))) + 1)).toNat) a1
  if 0 ≤ (m_w ((m_w (39 + (m_w ((N (r0 + 1) 192) * 5)))) + 2)) ∧ (m_w ((m_w (39 + (m_w ((N (r0 + 1) 192) * 5)))) + 2)) < 266 then
  let N7 : NN := m_up N5 (r0 + 1) ((m_w ((m_w (39 + (m_w ((N (r0 + 1) 192) * 5)))) + 2)).toNat) a2
  if 0 ≤ (m_w ((m_w (39 + (m_w ((N (r0 + 1) 192) * 5)))) + 3)) ∧ (m_w ((m_w (39 + (m_w ((N (r0 + 1) 192) * 5)))) + 3)) < 266 then
  let N9 : NN := m_up N7 (r0 + 1) ((m_w ((m_w (39 + (m_w ((N (r0 + 1) 192) * 5)))) + 3)).toNat) a3
  if 0 ≤ (m_w ((m_w (39 + (m_w ((N (r0 + 1) 192) * 5)))) + 4)) ∧ (m_w ((m_w (39 + (m_w ((N (r0 + 1) 192) * 5)))) + 4)) < 266 then
  let N11 : NN := m_up N9 (r0 + 1) ((m_w ((m_w (39 + (m_w ((N (r0 + 1) 192) * 5)))) + 4)).toNat) 0
  some (N (r0 + 1) 192, N11)
  else none
  else none
  else none
  else none
  else none
noncomputable def f_X10_addHerald (X : MX) (r0 : Nat) (N : NN) (a1 : Int) : Option (Int × NN) :=
  let N1 : NN := m_up N (r0 + 1) 193 (m_w ((N (r0 + 1) 193) + 1))
  if 0 ≤ (m_w (213 + (N (r0 + 1) 193))) ∧ (m_w (213 + (N (r0 + 1) 193))) < 266 then
  let N3 : NN := m_up N1 (r0 + 1) ((m_w (213 + (N (r0 + 1) 193))).toNat) a1
  some (N (r0 + 1) 193, N3)
  else none
noncomputable def f_X10_addLaw (X : MX) (r0 : Nat) (r1 : Nat) (N : NN) : Option (Int × NN) :=
  let N1 : NN := m_up N (r0 + 1) 195 (m_w ((N (r0 + 1) 195) + 1))
  if 0 ≤ (N (r0 + 1) 195) ∧ (N (r0 + 1) 195) < 6 then
  if r1 = 0 ∨ (xK X r1).1 = 13 then
  let N4 : NN := m_up N1 (r0 + 2) ((N (r0 + 1) 195).toNat) (r1 : Int)
  some (N (r0 + 1) 195, N4)
  else none
  else none
noncomputable def f_X10_addLord (X : MX) (r0 : Nat) (N : NN) (a1 : Int) (a2 : Int) : Option (Int × NN) :=
  let N1 : NN := m_up N (r0 + 1) 191 (m_w ((N (r0 + 1) 191) + 1))
  Option.bind (f_J7_fill_fda19 X (r0 + 1) N1 (m_w (3 + (m_w ((N (r0 + 1) 191) * 6)))) (m_w ((m_w (3 + (m_w ((N (r0 + 1) 191) * 6)))) + 6)) 0) (fun o2 =>
  if 0 ≤ (m_w ((m_w (3 + (m_w ((N (r0 + 1) 191) * 6)))) + 0)) ∧ (m_w ((m_w (3 + (m_w ((N (r0 + 1) 191) * 6)))) + 0)) < 266 then
  let N4 : NN := m_up o2 (r0 + 1) ((m_w ((m_w (3 + (m_w ((N (r0 + 1) 191) * 6)))) + 0)).toNat) a1
  if 0 ≤ (m_w ((m_w (3 + (m_w ((N (r0 + 1) 191) * 6)))) + 1)) ∧ (m_w ((m_w (3 + (m_w ((N (r0 + 1) 191) * 6)))) + 1)) < 266 then
  let N6 : NN := m_up N4 (r0 + 1) ((m_w ((m_w (3 + (m_w ((N (r0 + 1) 191) * 6)))) + 1)).toNat) a2
  some (N (r0 + 1) 191, N6)
  else none
  else none)
noncomputable def f_X10_addRoad (X : MX) (r0 : Nat) (N : NN) (a1 : Int) (a2 : Int) (a3 : Int) (a4 : Int) : Option (Int × NN) :=
  let N1 : NN := m_up N (r0 + 1) 194 (m_w ((N (r0 + 1) 194) + 1))
  if 0 ≤ (m_w ((m_w (218 + (m_w ((N (r0 + 1) 194) * 4)))) + 0)) ∧ (m_w ((m_w (218 + (m_w ((N (r0 + 1) 194) * 4)))) + 0)) < 266 then
  let N3 : NN := m_up N1 (r0 + 1) ((m_w ((m_w (218 + (m_w ((N (r0 + 1) 194) * 4)))) + 0)).toNat) a1
  if 0 ≤ (m_w ((m_w (218 + (m_w ((N (r0 + 1) 194) * 4)))) + 1)) ∧ (m_w ((m_w (218 + (m_w ((N (r0 + 1) 194) * 4)))) + 1)) < 266 then
  let N5 : NN := m_up N3 (r0 + 1) ((m_w ((m_w (218 + (m_w ((N (r0 + 1) 194) * 4)))) + 1)).toNat) a2
  if 0 ≤ (m_w ((m_w (218 + (m_w ((N (r0 + 1) 194) * 4)))) + 2)) ∧ (m_w ((m_w (218 + (m_w ((N (r0 + 1) 194) * 4)))) + 2)) < 266 then
  let N7 : NN := m_up N5 (r0 + 1) ((m_w ((m_w (218 + (m_w ((N (r0 + 1) 194) * 4)))) + 2)).toNat) a3
  if 0 ≤ (m_w ((m_w (218 + (m_w ((N (r0 + 1) 194) * 4)))) + 3)) ∧ (m_w ((m_w (218 + (m_w ((N (r0 + 1) 194) * 4)))) + 3)) < 266 then
  let N9 : NN := m_up N7 (r0 + 1) ((m_w ((m_w (218 + (m_w ((N (r0 + 1) 194) * 4)))) + 3)).toNat) a4
  some (N (r0 + 1) 194, N9)
  else none
  else none
  else none
  else none
noncomputable def f_X10_greatestCreditor_l7_j36 (X : MX) (N : NN) (r0 : Nat) (a1 : Int) (a2 : Int) (a3 : Int) (a4 : Int) : Option ((Int × Int × Int × Int) ⊕ Int) :=
  some (.inl (a1, a2, a3, m_w (a4 + 1)))
noncomputable def b_X10_greatestCreditor_7 (X : MX) (N : NN) (r0 : Nat) (a1 : Int) (a2 : Int) (a3 : Int) (a4 : Int) : Option ((Int × Int × Int × Int) ⊕ Int) :=
  if a4 < 6 then
    Option.bind (f_X10_worthOwed X N r0 a1 a4) (fun o1 =>
    if a3 < o1 then
      Option.bind (f_X10_worthOwed X N r0 a1 a4) (fun o2 =>
      f_X10_greatestCreditor_l7_j36 X N r0 a1 a4 o2 a4)
    else
      f_X10_greatestCreditor_l7_j36 X N r0 a1 a2 a3 a4)
  else
    some (.inr a2)
noncomputable def f_X10_greatestCreditor (X : MX) (N : NN) (r0 : Nat) (a1 : Int) : Option Int :=
  Option.bind (lp (fun s => b_X10_greatestCreditor_7 X N r0 s.1 s.2.1 s.2.2.1 s.2.2.2) (a1, (-1), (-1), 0)) (fun o5 =>
  some o5)
noncomputable def f_X10_held_l4_j26 (X : MX) (N : NN) (r0 : Nat) (a1 : Int) (a2 : Int) (a3 : Int) : Option ((Int × Int × Int) ⊕ Int) :=
  some (.inl (a1, a2, m_w (a3 + 1)))
noncomputable def b_X10_held_4 (X : MX) (N : NN) (r0 : Nat) (a1 : Int) (a2 : Int) (a3 : Int) : Option ((Int × Int × Int) ⊕ Int) :=
  Option.bind (f_X10_many X N r0 1) (fun o1 =>
  if a3 < o1 then
    Option.bind (f_X10_goodAt X N r0 a3 0) (fun o2 =>
    if o2 = a1 then
      f_X10_held_l4_j26 X N r0 a1 (m_w (a2 + 1)) a3
    else
      f_X10_held_l4_j26 X N r0 a1 a2 a3)
  else
    some (.inr a2))
noncomputable def f_X10_held (X : MX) (N : NN) (r0 : Nat) (a1 : Int) : Option Int :=
  Option.bind (lp (fun s => b_X10_held_4 X N r0 s.1 s.2.1 s.2.2) (a1, 0, 0)) (fun o5 =>
  some o5)
noncomputable def f_X10_inForce (X : MX) (N : NN) (r0 : Nat) : Option Int :=
  some (N (r0 + 1) 196)
noncomputable def f_X10_isGood_j21 (X : MX) (N : NN) (r0 : Nat) (z0 : Int) : Option Int :=
  if 0 ≤ z0 ∧ z0 ≤ 1 then
  some z0
  else none
noncomputable def f_X10_isGood_j20 (X : MX) (N : NN) (r0 : Nat) : Option Int :=
  f_X10_isGood_j21 X N r0 0
noncomputable def f_X10_isGood (X : MX) (N : NN) (r0 : Nat) (a1 : Int) : Option Int :=
  if a1 < 0 then
    f_X10_isGood_j20 X N r0
  else
    if a1 < (N (r0 + 1) 192) then
      f_X10_isGood_j21 X N r0 1
    else
      f_X10_isGood_j20 X N r0
noncomputable def f_X10_isKept (X : MX) (N : NN) (r0 : Nat) : Option Int :=
  if 0 ≤ (N r0 2) ∧ (N r0 2) ≤ 1 then
  some (N r0 2)
  else none
noncomputable def f_X10_isLord_j21 (X : MX) (N : NN) (r0 : Nat) (z0 : Int) : Option Int :=
  if 0 ≤ z0 ∧ z0 ≤ 1 then
  some z0
  else none
noncomputable def f_X10_isLord_j20 (X : MX) (N : NN) (r0 : Nat) : Option Int :=
  f_X10_isLord_j21 X N r0 0
noncomputable def f_X10_isLord (X : MX) (N : NN) (r0 : Nat) (a1 : Int) : Option Int :=
  if a1 < 0 then
    f_X10_isLord_j20 X N r0
  else
    if a1 < (N (r0 + 1) 191) then
      f_X10_isLord_j21 X N r0 1
    else
      f_X10_isLord_j20 X N r0
noncomputable def f_X10_isOwnedAndHeld_j36 (X : MX) (N : NN) (r0 : Nat) (z0 : Int) : Option Int :=
  if 0 ≤ z0 ∧ z0 ≤ 1 then
  some z0
  else none
noncomputable def f_X10_isOwnedAndHeld_j35 (X : MX) (N : NN) (r0 : Nat) : Option Int :=
  f_X10_isOwnedAndHeld_j36 X N r0 0
noncomputable def f_X10_isOwnedAndHeld (X : MX) (N : NN) (r0 : Nat) (a1 : Int) (a2 : Int) : Option Int :=
  if 0 ≤ (m_w ((m_w (39 + (m_w (a1 * 5)))) + 0)) ∧ (m_w ((m_w (39 + (m_w (a1 * 5)))) + 0)) < 266 then
  if (N (r0 + 1) ((m_w ((m_w (39 + (m_w (a1 * 5)))) + 0)).toNat)) = a2 then
    if 0 ≤ (m_w ((m_w (39 + (m_w (a1 * 5)))) + 1)) ∧ (m_w ((m_w (39 + (m_w (a1 * 5)))) + 1)) < 266 then
    if (N (r0 + 1) ((m_w ((m_w (39 + (m_w (a1 * 5)))) + 1)).toNat)) = a2 then
      f_X10_isOwnedAndHeld_j36 X N r0 1
    else
      f_X10_isOwnedAndHeld_j35 X N r0
    else none
  else
    f_X10_isOwnedAndHeld_j35 X N r0
  else none
noncomputable def f_X10_markKept (X : MX) (r0 : Nat) (N : NN) : Option NN :=
  let N1 : NN := m_up N r0 2 1
  some N1
noncomputable def f_X10_price (X : MX) (N : NN) (r0 : Nat) (a1 : Int) : Option Int :=
  if 0 ≤ (m_w (213 + a1)) ∧ (m_w (213 + a1)) < 266 then
  some (N (r0 + 1) ((m_w (213 + a1)).toNat))
  else none
noncomputable def f_X10_restoreFrom (X : MX) (r0 : Nat) (r1 : Nat) (N : NN) (a2 : Int) : Option NN :=
  if 0 ≤ a2 ∧ 0 ≤ (0 : Int) ∧ 0 ≤ (191 : Int) ∧ a2 + (191 : Int) ≤ ((xK X r1).2 : Int) ∧ (0 : Int) + (191 : Int) ≤ 266 then
  let N2 : NN := m_cpy N r1 a2.toNat (r0 + 1) ((0 : Int).toNat) ((191 : Int).toNat)
  some N2
  else none
noncomputable def f_X10_roadAt (X : MX) (N : NN) (r0 : Nat) (a1 : Int) (a2 : Int) : Option Int :=
  if 0 ≤ (m_w ((m_w (218 + (m_w (a1 * 4)))) + a2)) ∧ (m_w ((m_w (218 + (m_w (a1 * 4)))) + a2)) < 266 then
  some (N (r0 + 1) ((m_w ((m_w (218 + (m_w (a1 * 4)))) + a2)).toNat))
  else none
noncomputable def f_X10_saveTo (X : MX) (r0 : Nat) (r1 : Nat) (N : NN) (a2 : Int) : Option NN :=
  if 0 ≤ (0 : Int) ∧ 0 ≤ a2 ∧ 0 ≤ (191 : Int) ∧ (0 : Int) + (191 : Int) ≤ 266 ∧ a2 + (191 : Int) ≤ ((xK X r1).2 : Int) then
  let N2 : NN := m_cpy N (r0 + 1) ((0 : Int).toNat) r1 a2.toNat ((191 : Int).toNat)
  some N2
  else none
noncomputable def f_X10_seenOf_j31 (X : MX) (N : NN) (r0 : Nat) (z0 : Int) : Option Int :=
  some z0
noncomputable def f_X10_seenOf_j16 (X : MX) (N : NN) (r0 : Nat) (a1 : Int) (a2 : Int) : Option Int :=
  if a2 = 6 then
    Option.bind (f_X10_held X N r0 a1) (fun o4 =>
    f_X10_seenOf_j31 X N r0 o4)
  else
    f_X10_seenOf_j31 X N r0 (-1)
noncomputable def f_X10_seenOf (X : MX) (N : NN) (r0 : Nat) (a1 : Int) (a2 : Int) : Option Int :=
  if a2 < 0 then
    f_X10_seenOf_j16 X N r0 a1 a2
  else
    if 5 < a2 then
      f_X10_seenOf_j16 X N r0 a1 a2
    else
      Option.bind (f_X10_lordAt X N r0 a1 a2) (fun o1 =>
      some o1)
noncomputable def f_X10_setForce (X : MX) (r0 : Nat) (N : NN) (a1 : Int) : Option NN :=
  let N1 : NN := m_up N (r0 + 1) 196 a1
  some N1
noncomputable def f_X10_standingAgainst_l4_j23 (X : MX) (N : NN) (r0 : Nat) (a1 : Int) (a2 : Int) (a3 : Int) : Option ((Int × Int × Int) ⊕ Int) :=
  some (.inl (a1, a2, m_w (a3 + 1)))
noncomputable def b_X10_standingAgainst_4 (X : MX) (N : NN) (r0 : Nat) (a1 : Int) (a2 : Int) (a3 : Int) : Option ((Int × Int × Int) ⊕ Int) :=
  if a3 < 6 then
    Option.bind (f_X10_worthOwed X N r0 a1 a3) (fun o1 =>
    if o1 = (-1) then
      f_X10_standingAgainst_l4_j23 X N r0 a1 a2 a3
    else
      f_X10_standingAgainst_l4_j23 X N r0 a1 (m_w (a2 + 1)) a3)
  else
    some (.inr a2)
noncomputable def f_X10_standingAgainst (X : MX) (N : NN) (r0 : Nat) (a1 : Int) : Option Int :=
  Option.bind (lp (fun s => b_X10_standingAgainst_4 X N r0 s.1 s.2.1 s.2.2) (a1, 0, 0)) (fun o4 =>
  some o4)
noncomputable def b_X10_standing_4 (X : MX) (N : NN) (r0 : Nat) (a1 : Int) (a2 : Int) : Option ((Int × Int) ⊕ Int) :=
  if a2 < 6 then
    Option.bind (f_X10_standingAgainst X N r0 a2) (fun o1 =>
    some (.inl (m_w (a1 + o1), m_w (a2 + 1))))
  else
    some (.inr a1)
noncomputable def f_X10_standing (X : MX) (N : NN) (r0 : Nat) : Option Int :=
  Option.bind (lp (fun s => b_X10_standing_4 X N r0 s.1 s.2) (0, 0)) (fun o3 =>
  some o3)
noncomputable def f_X10_tellHolder (X : MX) (r0 : Nat) (N : NN) (a1 : Int) (a2 : Int) : Option NN :=
  if 0 ≤ (m_w (197 + a1)) ∧ (m_w (197 + a1)) < 266 then
  let N2 : NN := m_up N (r0 + 1) ((m_w (197 + a1)).toNat) a2
  some N2
  else none
noncomputable def f_X10_toldHolder (X : MX) (N : NN) (r0 : Nat) (a1 : Int) : Option Int :=
  if 0 ≤ (m_w (197 + a1)) ∧ (m_w (197 + a1)) < 266 then
  some (N (r0 + 1) ((m_w (197 + a1)).toNat))
  else none
noncomputable def f_X11_accept (X : MX) (N : NN) (a1 : Int) : Option (Int × NN) :=
  let N1 : NN := m_up N 3 13 0
  some (a1, N1)
noncomputable def f_X11_asks_j22 (X : MX) (N : NN) : Option (Int × NN) :=
  some ((-1), N)
noncomputable def f_X11_asks_j111 (X : MX) (N : NN) (z0 : Int) : Option (Int × NN) :=
  some (z0, N)
noncomputable def f_X11_asks_j131 (X : MX) (N : NN) (z0 : Int) : Option (Int × NN) :=
  some (z0, N)
noncomputable def f_X11_asks (X : MX) (N : NN) (a1 : Int) (a2 : Int) (a3 : Int) : Option (Int × NN) :=
  Option.bind (f_X10_isGood X N 4 a1) (fun o1 =>
  if o1 = 0 then
    f_X11_asks_j22 X N
  else
    Option.bind (f_X10_isLord X N 4 a2) (fun o2 =>
    if o2 = 0 then
      f_X11_asks_j22 X N
    else
      Option.bind (f_X10_goodAt X N 4 a1 0) (fun o3 =>
      if o3 = a2 then
        some ((-1), N)
      else
        if a3 = 0 then
          Option.bind (f_X2_worth X 4 N a1 o3 a2) (fun o4 =>
          some (o4.1, o4.2))
        else
          if a3 = 1 then
            Option.bind (f_X2_bars X 4 N a1 o3 a2) (fun o5 =>
            if o5.1 = 0 then
              f_X11_asks_j111 X o5.2 0
            else
              f_X11_asks_j111 X o5.2 1)
          else
            if a3 = 2 then
              Option.bind (f_X10_goodAt X N 4 a1 1) (fun o7 =>
              if o7 = o3 then
                f_X11_asks_j131 X N 0
              else
                f_X11_asks_j131 X N 1)
            else
              some ((-1), N))))
noncomputable def f_X11_within_j15 (X : MX) (N : NN) (z0 : Int) : Option Int :=
  if 0 ≤ z0 ∧ z0 ≤ 1 then
  some z0
  else none
noncomputable def f_X11_within_j14 (X : MX) (N : NN) : Option Int :=
  f_X11_within_j15 X N 0
noncomputable def f_X11_within (X : MX) (N : NN) (a0 : Int) (a1 : Int) (a2 : Int) : Option Int :=
  if a0 < a1 then
    f_X11_within_j14 X N
  else
    if a2 < a0 then
      f_X11_within_j14 X N
    else
      f_X11_within_j15 X N 1
noncomputable def f_X2_costs (X : MX) (r1 : Nat) (N : NN) (a2 : Int) (a3 : Int) (a4 : Int) : Option (Int × NN) :=
  Option.bind (f_X2_ask X r1 N a2 a4) (fun o1 =>
  let N2 : NN := m_up o1 26 5 a3
  Option.bind (f_X10_lawInForce X N2 r1) (fun o3 =>
  Option.bind (f_X10_goodAt X N2 r1 a2 3) (fun o4 =>
  Option.bind (f_X2_told X o3 N2 257 o4 99) (fun o5 =>
  some (o5.1, o5.2)))))
noncomputable def f_X11_at_j20 (X : MX) (N : NN) : Option (Int × NN) :=
  some ((-1), N)
noncomputable def f_X11_at (X : MX) (N : NN) (a1 : Int) (a2 : Int) : Option (Int × NN) :=
  Option.bind (f_X10_isGood X N 4 a1) (fun o1 =>
  if o1 = 0 then
    f_X11_at_j20 X N
  else
    Option.bind (f_X11_within X N a2 0 5) (fun o2 =>
    if o2 = 0 then
      f_X11_at_j20 X N
    else
      if a2 = 5 then
        Option.bind (f_X10_goodAt X N 4 a1 0) (fun o3 =>
        Option.bind (f_X10_term X N 4 0) (fun o4 =>
        Option.bind (f_X2_costs X 4 N a1 o3 o4) (fun o5 =>
        some (o5.1, o5.2))))
      else
        Option.bind (f_X10_goodAt X N 4 a1 a2) (fun o6 =>
        some (o6, N))))
noncomputable def f_X11_refuse_j30 (X : MX) (N : NN) (a1 : Int) : Option (Int × NN) :=
  some (a1, N)
noncomputable def f_X11_refuse (X : MX) (N : NN) (a1 : Int) : Option (Int × NN) :=
  let N1 : NN := m_up N 3 13 a1
  if a1 < 0 then
    if (m_w (-7)) < a1 then
      if 0 ≤ (m_w (-a1)) ∧ (m_w (-a1)) < 7 then
      if 0 ≤ (m_w (-a1)) ∧ (m_w (-a1)) < 7 then
      let N4 : NN := m_up N1 63 ((m_w (-a1)).toNat) (m_w ((N1 63 ((m_w (-a1)).toNat)) + 1))
      f_X11_refuse_j30 X N4 a1
      else none
      else none
    else
      f_X11_refuse_j30 X N1 a1
  else
    f_X11_refuse_j30 X N1 a1
noncomputable def f_X4_keep (X : MX) (r0 : Nat) (r1 : Nat) (N : NN) (a2 : Int) : Option NN :=
  Option.bind (f_X10_saveTo X r1 (r0 + 1) N (m_w ((N r0 2) * 191))) (fun o1 =>
  if 0 ≤ (o1 r0 2) ∧ (o1 r0 2) < 16 then
  let N3 : NN := m_up o1 (r0 + 2) ((o1 r0 2).toNat) a2
  let N4 : NN := m_up N3 r0 2 (m_rem (m_w ((N3 r0 2) + 1)) 16)
  let N5 : NN := m_up N4 r0 3 (m_min (m_w ((N4 r0 3) + 1)) 16)
  some N5
  else none)
noncomputable def f_X11_await (X : MX) (N : NN) : Option (Int × NN) :=
  Option.bind (f_X10_term X N 4 0) (fun o1 =>
  if o1 < 999 then
    Option.bind (f_X4_keep X 13 4 N 1) (fun o2 =>
    Option.bind (f_X0_passYear X 4 o2 0) (fun o3 =>
    Option.bind (f_X11_accept X o3.2 o3.1) (fun o4 =>
    some (o4.1, o4.2))))
  else
    Option.bind (f_X11_refuse X N (-3)) (fun o5 =>
    some (o5.1, o5.2)))
noncomputable def f_X4_clear (X : MX) (r0 : Nat) (N : NN) : Option NN :=
  let N1 : NN := m_up N r0 3 0
  some N1
noncomputable def f_X11_back_j30 (X : MX) (N : NN) (q0 : Nat) : Option (Int × NN) :=
  Option.bind (f_X10_isKept X N q0) (fun o5 =>
  if o5 = 0 then
    Option.bind (f_X11_refuse X N (-2)) (fun o6 =>
    some (o6.1, o6.2))
  else
    Option.bind (f_X10_copyFrom X 4 q0 N) (fun o7 =>
    Option.bind (f_X4_clear X 13 o7) (fun o8 =>
    Option.bind (f_X11_accept X o8 0) (fun o9 =>
    some (o9.1, o9.2)))))
noncomputable def f_X11_back (X : MX) (N : NN) (a1 : Int) : Option (Int × NN) :=
  Option.bind (f_X11_within X N a1 0 1) (fun o1 =>
  if o1 = 0 then
    Option.bind (f_X11_refuse X N (-1)) (fun o2 =>
    some (o2.1, o2.2))
  else
    if a1 = 0 then
      f_X11_back_j30 X N 7
    else
      f_X11_back_j30 X N 10)
noncomputable def f_X6_beating_l6_j46 (X : MX) (r1 : Nat) (N : NN) (a2 : Int) (a3 : Int) (a4 : Int) (a5 : Int) (a6 : Int) : Option ((NN × Int × Int × Int × Int × Int) ⊕ (NN × Int × Int × Int × Int)) :=
  some (.inl (N, a2, a3, a4, a5, m_w (a6 + 1)))
noncomputable def b_X6_beating_6 (X : MX) (r1 : Nat) (N : NN) (a2 : Int) (a3 : Int) (a4 : Int) (a5 : Int) (a6 : Int) : Option ((NN × Int × Int × Int × Int × Int) ⊕ (NN × Int × Int × Int × Int)) :=
  Option.bind (f_X10_many X N r1 1) (fun o1 =>
  if a6 < o1 then
    Option.bind (f_X10_goodAt X N r1 a6 0) (fun o2 =>
    if o2 = a3 then
      Option.bind (f_X2_worth X r1 N a6 a3 a2) (fun o3 =>
      f_X6_beating_l6_j46 X r1 o3.2 a2 a3 a4 (m_max a5 o3.1) a6)
    else
      f_X6_beating_l6_j46 X r1 N a2 a3 a4 a5 a6)
  else
    some (.inr (N, a2, a3, a4, a5)))
noncomputable def f_X6_beating_l58_j109 (X : MX) (r1 : Nat) (N : NN) (a2 : Int) (a3 : Int) (a4 : Int) (a5 : Int) (a6 : Int) (a7 : Int) : Option ((NN × Int × Int × Int × Int × Int × Int) ⊕ ((NN × Int × Int) ⊕ (NN × Int))) :=
  some (.inl (N, a2, a3, a4, a5, a6, m_w (a7 + 1)))
noncomputable def b_X6_beating_58 (X : MX) (r1 : Nat) (N : NN) (a2 : Int) (a3 : Int) (a4 : Int) (a5 : Int) (a6 : Int) (a7 : Int) : Option ((NN × Int × Int × Int × Int × Int × Int) ⊕ ((NN × Int × Int) ⊕ (NN × Int))) :=
  Option.bind (f_X10_many X N r1 1) (fun o7 =>
  if a7 < o7 then
    Option.bind (f_X10_goodAt X N r1 a7 0) (fun o8 =>
    if o8 = a2 then
      Option.bind (f_X2_worth X r1 N a7 a2 a3) (fun o9 =>
      if a5 < o9.1 then
        if a6 = a4 then
          some (.inr (.inr (o9.2, a7)))
        else
          f_X6_beating_l58_j109 X r1 o9.2 a2 a3 a4 a5 (m_w (a6 + 1)) a7
      else
        f_X6_beating_l58_j109 X r1 o9.2 a2 a3 a4 a5 a6 a7)
    else
      f_X6_beating_l58_j109 X r1 N a2 a3 a4 a5 a6 a7)
  else
    some (.inr (.inl (N, a4, a6))))
noncomputable def f_X6_beating_j127 (X : MX) (r1 : Nat) (N : NN) (z0 : Int) : Option (Int × NN) :=
  some (z0, N)
noncomputable def f_X6_beating (X : MX) (r1 : Nat) (N : NN) (a2 : Int) (a3 : Int) (a4 : Int) : Option (Int × NN) :=
  Option.bind (lp (fun s => b_X6_beating_6 X r1 s.1 s.2.1 s.2.2.1 s.2.2.2.1 s.2.2.2.2.1 s.2.2.2.2.2) (N, a2, a3, a4, (-1), 0)) (fun o6 =>
  Option.bind (lp (fun s => b_X6_beating_58 X r1 s.1 s.2.1 s.2.2.1 s.2.2.2.1 s.2.2.2.2.1 s.2.2.2.2.2.1 s.2.2.2.2.2.2) (o6.1, o6.2.1, o6.2.2.1, o6.2.2.2.1, o6.2.2.2.2, 0, 0)) (fun o14 =>
    match o14 with
    | .inl e14 =>
        if e14.2.1 = (-1) then
          f_X6_beating_j127 X r1 e14.1 e14.2.2
        else
          f_X6_beating_j127 X r1 e14.1 (-1)
    | .inr e14 =>
        some (e14.2, e14.1)))
noncomputable def f_X11_beats_j32 (X : MX) (N : NN) : Option (Int × NN) :=
  some ((-1), N)
noncomputable def f_X11_beats (X : MX) (N : NN) (a1 : Int) (a2 : Int) (a3 : Int) : Option (Int × NN) :=
  Option.bind (f_X10_isLord X N 4 a1) (fun o1 =>
  if o1 = 0 then
    f_X11_beats_j32 X N
  else
    Option.bind (f_X10_isLord X N 4 a2) (fun o2 =>
    if o2 = 0 then
      f_X11_beats_j32 X N
    else
      if a1 = a2 then
        f_X11_beats_j32 X N
      else
        if a3 < (-1) then
          f_X11_beats_j32 X N
        else
          Option.bind (f_X6_beating X 4 N a1 a2 a3) (fun o3 =>
          some (o3.1, o3.2))))
noncomputable def f_X2_voice (X : MX) (r1 : Nat) (N : NN) (a2 : Int) (a3 : Int) : Option (Int × NN) :=
  Option.bind (f_X10_term X N r1 0) (fun o1 =>
  Option.bind (f_X2_ask X r1 N a3 o1) (fun o2 =>
  let N3 : NN := m_up o2 26 7 a2
  Option.bind (f_X10_lawInForce X N3 r1) (fun o4 =>
  Option.bind (f_X10_goodAt X N3 r1 a3 2) (fun o5 =>
  Option.bind (f_X2_told X o4 N3 256 o5 999) (fun o6 =>
  some (o6.1, o6.2))))))
noncomputable def b_X2_hear_13 (X : MX) (r1 : Nat) (N : NN) (a2 : Int) (a3 : Int) (a4 : Int) : Option ((NN × Int × Int × Int) ⊕ (NN × Int)) :=
  if a4 < a3 then
    Option.bind (f_X2_voice X r1 N a4 a2) (fun o2 =>
    if 0 ≤ a4 ∧ a4 < 5 then
    let N4 : NN := m_up o2.2 28 a4.toNat o2.1
    some (.inl (N4, a2, a3, m_w (a4 + 1)))
    else none)
  else
    some (.inr (N, a3))
noncomputable def f_X2_hear (X : MX) (r1 : Nat) (N : NN) (a2 : Int) : Option (Int × NN) :=
  Option.bind (f_X10_many X N r1 2) (fun o1 =>
  Option.bind (lp (fun s => b_X2_hear_13 X r1 s.1 s.2.1 s.2.2.1 s.2.2.2) (N, a2, m_min o1 5, 0)) (fun o6 =>
  some (o6.2, o6.1)))
noncomputable def b_X2_middle_29 (X : MX) (r1 : Nat) (N : NN) (a3 : Int) (a4 : Int) (a5 : Int) (a6 : Int) : Option ((NN × Int × Int × Int × Int) ⊕ (NN × Int × Int × Int × Int)) :=
  if 0 < a6 then
    if 0 ≤ (m_w (a6 - 1)) ∧ (m_w (a6 - 1)) < 5 then
    if a5 < (N 28 ((m_w (a6 - 1)).toNat)) then
      if 0 ≤ (m_w (a6 - 1)) ∧ (m_w (a6 - 1)) < 5 then
      if 0 ≤ a6 ∧ a6 < 5 then
      let N6 : NN := m_up N 28 a6.toNat (N 28 ((m_w (a6 - 1)).toNat))
      some (.inl (N6, a3, a4, a5, m_w (a6 + (-1))))
      else none
      else none
    else
      some (.inr (N, a3, a4, a5, a6))
    else none
  else
    some (.inr (N, a3, a4, a5, a6))
noncomputable def b_X2_middle_10 (X : MX) (r1 : Nat) (N : NN) (a3 : Int) (a4 : Int) : Option ((NN × Int × Int) ⊕ (NN × Int)) :=
  if a4 < a3 then
    if 0 ≤ a4 ∧ a4 < 5 then
    Option.bind (lp (fun s => b_X2_middle_29 X r1 s.1 s.2.1 s.2.2.1 s.2.2.2.1 s.2.2.2.2) (N, a3, a4, N 28 a4.toNat, a4)) (fun o9 =>
    if 0 ≤ o9.2.2.2.2 ∧ o9.2.2.2.2 < 5 then
    let N11 : NN := m_up o9.1 28 o9.2.2.2.2.toNat o9.2.2.2.1
    some (.inl (N11, o9.2.1, m_w (o9.2.2.1 + 1)))
    else none)
    else none
  else
    some (.inr (N, a3))
noncomputable def f_X2_middle_j103 (X : MX) (r1 : Nat) (N : NN) (z0 : Int) : Option (Int × NN) :=
  some (z0, N)
noncomputable def f_X2_middle (X : MX) (r1 : Nat) (N : NN) (a2 : Int) : Option (Int × NN) :=
  Option.bind (f_X2_hear X r1 N a2) (fun o1 =>
  Option.bind (lp (fun s => b_X2_middle_10 X r1 s.1 s.2.1 s.2.2) (o1.2, o1.1, 1)) (fun o13 =>
  if 0 < o13.2 then
    if 0 ≤ (m_div (m_w (o13.2 - 1)) 2) ∧ (m_div (m_w (o13.2 - 1)) 2) < 5 then
    f_X2_middle_j103 X r1 o13.1 (o13.1 28 ((m_div (m_w (o13.2 - 1)) 2).toNat))
    else none
  else
    f_X2_middle_j103 X r1 o13.1 (-1)))
noncomputable def f_X2_cheapestBribe_l77_j161 (X : MX) (r1 : Nat) (N : NN) (a4 : Int) (a5 : Int) (a6 : Int) (a7 : Int) (a8 : Int) (a9 : Int) (a10 : Int) (a11 : Int) (a13 : Int) (z0 : Int) (z1 : Int) : Option ((NN × Int × Int × Int × Int × Int × Int × Int × Int × Int × Int) ⊕ (NN × Int × Int × Int × Int × Int × Int × Int × Int × Int)) :=
  some (.inl (N, a4, a5, a6, a7, a8, a9, a10, a11, m_w (z0 + z1), m_w (a13 + 1)))
noncomputable def f_X2_cheapestBribe_l77_j126 (X : MX) (r1 : Nat) (N : NN) (a4 : Int) (a5 : Int) (a6 : Int) (a7 : Int) (a8 : Int) (a9 : Int) (a10 : Int) (a12 : Int) (a13 : Int) (a14 : Int) (z0 : Int) (z1 : Int) : Option ((NN × Int × Int × Int × Int × Int × Int × Int × Int × Int × Int) ⊕ (NN × Int × Int × Int × Int × Int × Int × Int × Int × Int)) :=
  if a14 = 0 then
    f_X2_cheapestBribe_l77_j161 X r1 N a4 a5 a6 a7 a8 a9 a10 (m_w (z0 + z1)) a13 a12 0
  else
    if 0 ≤ a13 ∧ a13 < 5 then
    Option.bind (f_X10_price X N r1 a13) (fun o9 =>
    f_X2_cheapestBribe_l77_j161 X r1 N a4 a5 a6 a7 a8 a9 a10 (m_w (z0 + z1)) a13 a12 (m_w ((m_max 0 (m_w (a5 - (N 28 a13.toNat)))) * o9)))
    else none
noncomputable def f_X2_cheapestBribe_l77_j121 (X : MX) (r1 : Nat) (N : NN) (a4 : Int) (a5 : Int) (a6 : Int) (a7 : Int) (a8 : Int) (a9 : Int) (a10 : Int) (a12 : Int) (a13 : Int) (a14 : Int) (z0 : Int) : Option ((NN × Int × Int × Int × Int × Int × Int × Int × Int × Int × Int) ⊕ (NN × Int × Int × Int × Int × Int × Int × Int × Int × Int)) :=
  f_X2_cheapestBribe_l77_j126 X r1 N a4 a5 a6 a7 a8 a9 a10 a12 a13 a14 z0 1
noncomputable def f_X2_cheapestBribe_l77_j100 (X : MX) (r1 : Nat) (N : NN) (a4 : Int) (a5 : Int) (a6 : Int) (a7 : Int) (a8 : Int) (a9 : Int) (a10 : Int) (a11 : Int) (a12 : Int) (a13 : Int) (z0 : Int) : Option ((NN × Int × Int × Int × Int × Int × Int × Int × Int × Int × Int) ⊕ (NN × Int × Int × Int × Int × Int × Int × Int × Int × Int)) :=
  if z0 = 0 then
    if 0 ≤ a13 ∧ a13 < 5 then
    if (N 28 a13.toNat) < a5 then
      f_X2_cheapestBribe_l77_j126 X r1 N a4 a5 a6 a7 a8 a9 a10 a12 a13 z0 a11 0
    else
      f_X2_cheapestBribe_l77_j121 X r1 N a4 a5 a6 a7 a8 a9 a10 a12 a13 z0 a11
    else none
  else
    f_X2_cheapestBribe_l77_j121 X r1 N a4 a5 a6 a7 a8 a9 a10 a12 a13 z0 a11
noncomputable def b_X2_cheapestBribe_77 (X : MX) (r1 : Nat) (N : NN) (a4 : Int) (a5 : Int) (a6 : Int) (a7 : Int) (a8 : Int) (a9 : Int) (a10 : Int) (a11 : Int) (a12 : Int) (a13 : Int) : Option ((NN × Int × Int × Int × Int × Int × Int × Int × Int × Int × Int) ⊕ (NN × Int × Int × Int × Int × Int × Int × Int × Int × Int)) :=
  if a13 < a6 then
    if (m_and (m_shr a10 a13) 1) = 1 then
      f_X2_cheapestBribe_l77_j100 X r1 N a4 a5 a6 a7 a8 a9 a10 a11 a12 a13 1
    else
      f_X2_cheapestBribe_l77_j100 X r1 N a4 a5 a6 a7 a8 a9 a10 a11 a12 a13 0
  else
    some (.inr (N, a4, a5, a6, a7, a8, a9, a10, a11, a12))
noncomputable def f_X2_cheapestBribe_l59_j198 (X : MX) (r1 : Nat) (N : NN) (a4 : Int) (a5 : Int) (a6 : Int) (a7 : Int) (a8 : Int) (a9 : Int) (a10 : Int) : Option ((NN × Int × Int × Int × Int × Int × Int × Int) ⊕ (NN × Int × Int × Int)) :=
  some (.inl (N, a4, a5, a6, a7, a8, a9, m_w (a10 + 1)))
noncomputable def f_X2_cheapestBribe_l59_j190 (X : MX) (r1 : Nat) (N : NN) (a4 : Int) (a5 : Int) (a6 : Int) (a7 : Int) (a10 : Int) (a12 : Int) : Option ((NN × Int × Int × Int × Int × Int × Int × Int) ⊕ (NN × Int × Int × Int)) :=
  f_X2_cheapestBribe_l59_j198 X r1 N a4 a5 a6 a7 a12 a10 a10
noncomputable def b_X2_cheapestBribe_59 (X : MX) (r1 : Nat) (N : NN) (a4 : Int) (a5 : Int) (a6 : Int) (a7 : Int) (a8 : Int) (a9 : Int) (a10 : Int) : Option ((NN × Int × Int × Int × Int × Int × Int × Int) ⊕ (NN × Int × Int × Int)) :=
  if a10 < (m_shl 1 a6) then
    Option.bind (lp (fun s => b_X2_cheapestBribe_77 X r1 s.1 s.2.1 s.2.2.1 s.2.2.2.1 s.2.2.2.2.1 s.2.2.2.2.2.1 s.2.2.2.2.2.2.1 s.2.2.2.2.2.2.2.1 s.2.2.2.2.2.2.2.2.1 s.2.2.2.2.2.2.2.2.2.1 s.2.2.2.2.2.2.2.2.2.2) (N, a4, a5, a6, a7, a8, a9, a10, 0, 0, 0)) (fun o11 =>
    if o11.2.2.2.2.2.2.2.2.1 < o11.2.2.2.2.1 then
      f_X2_cheapestBribe_l59_j198 X r1 o11.1 o11.2.1 o11.2.2.1 o11.2.2.2.1 o11.2.2.2.2.1 o11.2.2.2.2.2.1 o11.2.2.2.2.2.2.1 o11.2.2.2.2.2.2.2.1
    else
      if o11.2.2.2.2.2.1 = (-1) then
        f_X2_cheapestBribe_l59_j190 X r1 o11.1 o11.2.1 o11.2.2.1 o11.2.2.2.1 o11.2.2.2.2.1 o11.2.2.2.2.2.2.2.1 o11.2.2.2.2.2.2.2.2.2
      else
        if o11.2.2.2.2.2.2.2.2.2 < o11.2.2.2.2.2.1 then
          f_X2_cheapestBribe_l59_j190 X r1 o11.1 o11.2.1 o11.2.2.1 o11.2.2.2.1 o11.2.2.2.2.1 o11.2.2.2.2.2.2.2.1 o11.2.2.2.2.2.2.2.2.2
        else
          f_X2_cheapestBribe_l59_j198 X r1 o11.1 o11.2.1 o11.2.2.1 o11.2.2.2.1 o11.2.2.2.2.1 o11.2.2.2.2.2.1 o11.2.2.2.2.2.2.1 o11.2.2.2.2.2.2.2.1)
  else
    some (.inr (N, a4, a8, a9))
noncomputable def f_X2_cheapestBribe_j29 (X : MX) (r1 : Nat) (N : NN) : Option (Int × NN) :=
  some ((-1), N)
noncomputable def f_X2_cheapestBribe_j216 (X : MX) (r1 : Nat) (N : NN) (z0 : Int) : Option (Int × NN) :=
  some (z0, N)
noncomputable def f_X2_cheapestBribe (X : MX) (r1 : Nat) (N : NN) (a2 : Int) (a3 : Int) (a4 : Int) : Option (Int × NN) :=
  Option.bind (f_X2_middle X r1 N a3) (fun o1 =>
  if 999 < (m_w (o1.1 + 1)) then
    f_X2_cheapestBribe_j29 X r1 o1.2
  else
    if a4 < 0 then
      f_X2_cheapestBribe_j29 X r1 o1.2
    else
      if 1 < a4 then
        f_X2_cheapestBribe_j29 X r1 o1.2
      else
        Option.bind (f_X2_hear X r1 o1.2 a2) (fun o2 =>
        Option.bind (lp (fun s => b_X2_cheapestBribe_59 X r1 s.1 s.2.1 s.2.2.1 s.2.2.2.1 s.2.2.2.2.1 s.2.2.2.2.2.1 s.2.2.2.2.2.2.1 s.2.2.2.2.2.2.2) (o2.2, a4, m_w (o1.1 + 1), o2.1, m_w (o2.1 - (m_div (m_w (o2.1 - 1)) 2)), (-1), 0, 0)) (fun o16 =>
        if o16.2.1 = 0 then
          f_X2_cheapestBribe_j216 X r1 o16.1 o16.2.2.1
        else
          f_X2_cheapestBribe_j216 X r1 o16.1 o16.2.2.2)))
noncomputable def f_X11_bribe_j38 (X : MX) (N : NN) : Option (Int × NN) :=
  some ((-1), N)
noncomputable def f_X11_bribe (X : MX) (N : NN) (a1 : Int) (a2 : Int) (a3 : Int) : Option (Int × NN) :=
  Option.bind (f_X10_isGood X N 4 a1) (fun o1 =>
  if o1 = 0 then
    f_X11_bribe_j38 X N
  else
    Option.bind (f_X10_isGood X N 4 a2) (fun o2 =>
    if o2 = 0 then
      f_X11_bribe_j38 X N
    else
      if a1 = a2 then
        f_X11_bribe_j38 X N
      else
        Option.bind (f_X10_many X N 4 2) (fun o3 =>
        if o3 = 0 then
          f_X11_bribe_j38 X N
        else
          Option.bind (f_X2_cheapestBribe X 4 N a1 a2 a3) (fun o4 =>
          some (o4.1, o4.2)))))
noncomputable def f_X11_comes_j59 (X : MX) (N : NN) (a4 : Int) : Option (Int × NN) :=
  if 0 ≤ a4 ∧ a4 ≤ 1 then
  some (a4, N)
  else none
noncomputable def f_X11_comes_j41 (X : MX) (N : NN) (a1 : Int) (a2 : Int) (a3 : Int) (z0 : Int) : Option (Int × NN) :=
  if z0 = 0 then
    f_X11_comes_j59 X N z0
  else
    Option.bind (f_X10_addGood X 4 N a1 a2 a3) (fun o7 =>
    f_X11_comes_j59 X o7.2 z0)
noncomputable def f_X11_comes_j40 (X : MX) (N : NN) (a1 : Int) (a2 : Int) (a3 : Int) : Option (Int × NN) :=
  f_X11_comes_j41 X N a1 a2 a3 0
noncomputable def f_X11_comes (X : MX) (N : NN) (a1 : Int) (a2 : Int) (a3 : Int) : Option (Int × NN) :=
  Option.bind (f_X10_isLord X N 4 a1) (fun o1 =>
  if o1 = 0 then
    f_X11_comes_j40 X N a1 a2 a3
  else
    if 99 < a2 then
      f_X11_comes_j40 X N a1 a2 a3
    else
      if 20 < a3 then
        f_X11_comes_j40 X N a1 a2 a3
      else
        Option.bind (f_X10_many X N 4 1) (fun o2 =>
        if o2 < 16 then
          f_X11_comes_j41 X N a1 a2 a3 1
        else
          f_X11_comes_j40 X N a1 a2 a3))
noncomputable def f_X4_size (X : MX) (N : NN) (r0 : Nat) : Option Int :=
  some (N r0 3)
noncomputable def f_X5_length (X : MX) (N : NN) : Option Int :=
  some (N 16 5)
noncomputable def f_X11_count (X : MX) (N : NN) (a1 : Int) : Option Int :=
  Option.bind (f_X11_within X N a1 0 4) (fun o1 =>
  if o1 = 0 then
    Option.bind (f_X11_within X N a1 14 16) (fun o2 =>
    if o2 = 0 then
      if a1 = 5 then
        Option.bind (f_X10_standing X N 4) (fun o3 =>
        some o3)
      else
        if a1 = 6 then
          Option.bind (f_X4_size X N 13) (fun o4 =>
          some o4)
        else
          if a1 = 7 then
            Option.bind (f_X5_length X N) (fun o5 =>
            some o5)
          else
            if a1 = 8 then
              some (N 63 1)
            else
              if a1 = 9 then
                some (N 63 2)
              else
                if a1 = 10 then
                  some (N 63 3)
                else
                  if a1 = 11 then
                    some (N 63 5)
                  else
                    if a1 = 12 then
                      some (N 63 6)
                    else
                      if a1 = 13 then
                        Option.bind (f_X10_inForce X N 4) (fun o6 =>
                        some o6)
                      else
                        some (-1)
    else
      Option.bind (f_X10_term X N 4 (m_w (a1 - 14))) (fun o17 =>
      some o17))
  else
    Option.bind (f_X10_many X N 4 a1) (fun o19 =>
    some o19))
noncomputable def f_X11_debt_j35 (X : MX) (N : NN) : Option Int :=
  some (-1)
noncomputable def f_X11_debt (X : MX) (N : NN) (a1 : Int) (a2 : Int) (a3 : Int) : Option Int :=
  Option.bind (f_X10_isLord X N 4 a1) (fun o1 =>
  if o1 = 0 then
    f_X11_debt_j35 X N
  else
    Option.bind (f_X10_isLord X N 4 a2) (fun o2 =>
    if o2 = 0 then
      f_X11_debt_j35 X N
    else
      Option.bind (f_X10_worthOwed X N 4 a1 a2) (fun o3 =>
      if o3 = (-1) then
        f_X11_debt_j35 X N
      else
        if a3 = 0 then
          Option.bind (f_X10_worthOwed X N 4 a1 a2) (fun o4 =>
          some o4)
        else
          if a3 = 1 then
            Option.bind (f_X10_since X N 4 a1 a2) (fun o6 =>
            some o6)
          else
            some (-1))))
noncomputable def f_X11_drawn_j26 (X : MX) (N : NN) (z0 : Int) : Option Int :=
  some z0
noncomputable def f_X11_drawn (X : MX) (N : NN) (a1 : Int) (a2 : Int) : Option Int :=
  Option.bind (f_X0_latestDrawn X N) (fun o1 =>
  Option.bind (f_X10_isLord X N 30 a1) (fun o2 =>
  if o2 = 0 then
    f_X11_drawn_j26 X N (-1)
  else
    Option.bind (f_X10_seenOf X N 30 a1 a2) (fun o3 =>
    f_X11_drawn_j26 X N o3)))
noncomputable def f_X11_dross (X : MX) (N : NN) : Option Int :=
  some (N 3 14)
noncomputable def f_X1_gather_l32_j151 (X : MX) (r1 : Nat) (N : NN) (a2 : Int) (a3 : Int) (a4 : Int) (a5 : Int) (a6 : Int) (a7 : Int) : Option ((NN × Int × Int × Int × Int × Int × Int) ⊕ NN) :=
  some (.inl (N, a2, a3, a4, a5, a6, m_w (a7 + 1)))
noncomputable def b_X1_gather_32 (X : MX) (r1 : Nat) (N : NN) (a2 : Int) (a3 : Int) (a4 : Int) (a5 : Int) (a6 : Int) (a7 : Int) : Option ((NN × Int × Int × Int × Int × Int × Int) ⊕ NN) :=
  Option.bind (f_X10_many X N r1 1) (fun o7 =>
  if a7 < o7 then
    if a6 < 6 then
      Option.bind (f_X10_isOwnedAndHeld X N r1 a7 a3) (fun o8 =>
      if o8 = 0 then
        f_X1_gather_l32_j151 X r1 N a2 a3 a4 a5 a6 a7
      else
        Option.bind (f_X2_bars X r1 N a7 a3 a4) (fun o9 =>
        if o9.1 = 0 then
          if 0 ≤ a2 ∧ a2 < 2 then
          if 0 ≤ (m_w ((m_w (a2 * 6)) + (o9.2 46 a2.toNat))) ∧ (m_w ((m_w (a2 * 6)) + (o9.2 46 a2.toNat))) < 12 then
          let N12 : NN := m_up o9.2 43 ((m_w ((m_w (a2 * 6)) + (o9.2 46 a2.toNat))).toNat) a7
          Option.bind (f_X2_worth X r1 N12 a7 a3 a4) (fun o13 =>
          if 0 ≤ (m_w ((m_w (a2 * 6)) + (o9.2 46 a2.toNat))) ∧ (m_w ((m_w (a2 * 6)) + (o9.2 46 a2.toNat))) < 12 then
          let N15 : NN := m_up o13.2 44 ((m_w ((m_w (a2 * 6)) + (o9.2 46 a2.toNat))).toNat) o13.1
          Option.bind (f_X2_costs X r1 N15 a7 a4 a5) (fun o16 =>
          if 0 ≤ (m_w ((m_w (a2 * 6)) + (o9.2 46 a2.toNat))) ∧ (m_w ((m_w (a2 * 6)) + (o9.2 46 a2.toNat))) < 12 then
          let N18 : NN := m_up o16.2 45 ((m_w ((m_w (a2 * 6)) + (o9.2 46 a2.toNat))).toNat) o16.1
          if 0 ≤ a2 ∧ a2 < 2 then
          if 0 ≤ a2 ∧ a2 < 2 then
          let N21 : NN := m_up N18 46 a2.toNat (m_w ((N18 46 a2.toNat) + 1))
          f_X1_gather_l32_j151 X r1 N21 a2 a3 a4 a5 (m_w (a6 + 1)) a7
          else none
          else none
          else none)
          else none)
          else none
          else none
        else
          f_X1_gather_l32_j151 X r1 o9.2 a2 a3 a4 a5 (m_w (a6 + 1)) a7))
    else
      some (.inr N)
  else
    some (.inr N))
noncomputable def f_X1_gather (X : MX) (r1 : Nat) (N : NN) (a2 : Int) (a3 : Int) (a4 : Int) : Option NN :=
  Option.bind (f_X10_lordAt X N r1 a3 0) (fun o1 =>
  if 0 ≤ a2 ∧ a2 < 2 then
  let N3 : NN := m_up N 47 a2.toNat o1
  if 0 ≤ a2 ∧ a2 < 2 then
  let N5 : NN := m_up N3 46 a2.toNat 0
  Option.bind (f_X10_term X N5 r1 0) (fun o6 =>
  Option.bind (lp (fun s => b_X1_gather_32 X r1 s.1 s.2.1 s.2.2.1 s.2.2.2.1 s.2.2.2.2.1 s.2.2.2.2.2.1 s.2.2.2.2.2.2) (N5, a2, a3, a4, o6, 0, 0)) (fun o26 =>
  some o26))
  else none
  else none)
noncomputable def b_X1_lowestPossible_2 (X : MX) (N : NN) (a1 : Int) (a2 : Int) (a3 : Int) : Option ((Int × Int × Int) ⊕ (Unit ⊕ (Int × Int))) :=
  if 0 ≤ a1 ∧ a1 < 2 then
  if a3 < (N 46 a1.toNat) then
    if 0 ≤ (m_w ((m_w (a1 * 6)) + a3)) ∧ (m_w ((m_w (a1 * 6)) + a3)) < 12 then
    if a2 < (N 44 ((m_w ((m_w (a1 * 6)) + a3)).toNat)) then
      some (.inr (.inr (a1, a3)))
    else
      some (.inl (a1, a2, m_w (a3 + 1)))
    else none
  else
    some (.inr (.inl ()))
  else none
noncomputable def f_X1_lowestPossible (X : MX) (N : NN) (a1 : Int) (a2 : Int) : Option Int :=
  Option.bind (lp (fun s => b_X1_lowestPossible_2 X N s.1 s.2.1 s.2.2) (a1, a2, 0)) (fun o5 =>
    match o5 with
    | .inl e5 =>
        some (-1)
    | .inr e5 =>
        some (m_w ((m_w (e5.1 * 6)) + e5.2)))
noncomputable def f_X1_winsBy_j46 (fr : NN → Int → Int → Int → Int → Int → Option Int) (X : MX) (N : NN) (z0 : Int) : Option Int :=
  if 0 ≤ z0 ∧ z0 ≤ 1 then
  some z0
  else none
noncomputable def f_X1_winsBy_j41 (fr : NN → Int → Int → Int → Int → Int → Option Int) (X : MX) (N : NN) : Option Int :=
  f_X1_winsBy_j46 fr X N 1
noncomputable def f_X1_winsBy (fr : NN → Int → Int → Int → Int → Int → Option Int) (X : MX) (N : NN) (a1 : Int) (a2 : Int) (a3 : Int) (a4 : Int) : Option Int :=
  if 0 ≤ a1 ∧ a1 < 12 then
  if (m_w (a3 - (N 45 a1.toNat))) < 0 then
    f_X1_winsBy_j41 fr X N
  else
    if 0 ≤ a1 ∧ a1 < 12 then
    Option.bind (fr N (m_w (1 - (m_div a1 6))) (N 44 a1.toNat) (m_w (a3 - (N 45 a1.toNat))) a2 (m_w (a4 + 1))) (fun o3 =>
    if o3 = 0 then
      f_X1_winsBy_j41 fr X N
    else
      f_X1_winsBy_j46 fr X N 0)
    else none
  else none
noncomputable def f_X1_wins_l3_j57 (fr : NN → Int → Int → Int → Int → Int → Option Int) (X : MX) (N : NN) (a1 : Int) (a2 : Int) (a3 : Int) (a4 : Int) (a5 : Int) (a6 : Int) : Option ((Int × Int × Int × Int × Int × Int) ⊕ (Unit ⊕ Unit)) :=
  some (.inl (a1, a2, a3, a4, a5, m_w (a6 + 1)))
noncomputable def b_X1_wins_3 (fr : NN → Int → Int → Int → Int → Int → Option Int) (X : MX) (N : NN) (a1 : Int) (a2 : Int) (a3 : Int) (a4 : Int) (a5 : Int) (a6 : Int) : Option ((Int × Int × Int × Int × Int × Int) ⊕ (Unit ⊕ Unit)) :=
  if 0 ≤ a1 ∧ a1 < 2 then
  if a6 < (N 46 a1.toNat) then
    if 12 < a5 then
      some (.inr (.inl ()))
    else
      if 0 ≤ (m_w ((m_w (a1 * 6)) + a6)) ∧ (m_w ((m_w (a1 * 6)) + a6)) < 12 then
      if a2 < (N 44 ((m_w ((m_w (a1 * 6)) + a6)).toNat)) then
        Option.bind (f_X1_winsBy fr X N (m_w ((m_w (a1 * 6)) + a6)) a3 a4 a5) (fun o3 =>
        if o3 = 0 then
          f_X1_wins_l3_j57 fr X N a1 a2 a3 a4 a5 a6
        else
          some (.inr (.inr ())))
      else
        f_X1_wins_l3_j57 fr X N a1 a2 a3 a4 a5 a6
      else none
  else
    some (.inr (.inl ()))
  else none
noncomputable def f_X1_wins_step (fr : NN → Int → Int → Int → Int → Int → Option Int) (X : MX) (N : NN) (a1 : Int) (a2 : Int) (a3 : Int) (a4 : Int) (a5 : Int) : Option Int :=
  Option.bind (lp (fun s => b_X1_wins_3 fr X N s.1 s.2.1 s.2.2.1 s.2.2.2.1 s.2.2.2.2.1 s.2.2.2.2.2) (a1, a2, a3, a4, a5, 0)) (fun o8 =>
    match o8 with
    | .inl e8 =>
        some 0
    | .inr e8 =>
        some 1)
noncomputable def f_X1_wins (X : MX) : Nat → NN → Int → Int → Int → Int → Int → Option Int
  | 0 => fun _ _ _ _ _ _ => none
  | n + 1 => fun N x1 x2 x3 x4 x5 => f_X1_wins_step (f_X1_wins X n) X N x1 x2 x3 x4 x5
noncomputable def f_X1_lowestWinning_l3_j50 (X : MX) (N : NN) (a1 : Int) (a2 : Int) (a3 : Int) (a4 : Int) (a5 : Int) : Option ((Int × Int × Int × Int × Int) ⊕ (Unit ⊕ Int)) :=
  some (.inl (a1, a2, a3, a4, m_w (a5 + 1)))
noncomputable def b_X1_lowestWinning_3 (X : MX) (N : NN) (a1 : Int) (a2 : Int) (a3 : Int) (a4 : Int) (a5 : Int) : Option ((Int × Int × Int × Int × Int) ⊕ (Unit ⊕ Int)) :=
  if 0 ≤ a1 ∧ a1 < 2 then
  if a5 < (N 46 a1.toNat) then
    if 0 ≤ (m_w ((m_w (a1 * 6)) + a5)) ∧ (m_w ((m_w (a1 * 6)) + a5)) < 12 then
    if a2 < (N 44 ((m_w ((m_w (a1 * 6)) + a5)).toNat)) then
      Option.bind (f_X1_winsBy (f_X1_wins X 16) X N (m_w ((m_w (a1 * 6)) + a5)) a3 a4 0) (fun o3 =>
      if o3 = 0 then
        f_X1_lowestWinning_l3_j50 X N a1 a2 a3 a4 a5
      else
        some (.inr (.inr (m_w ((m_w (a1 * 6)) + a5)))))
    else
      f_X1_lowestWinning_l3_j50 X N a1 a2 a3 a4 a5
    else none
  else
    some (.inr (.inl ()))
  else none
noncomputable def f_X1_lowestWinning (X : MX) (N : NN) (a1 : Int) (a2 : Int) (a3 : Int) (a4 : Int) : Option Int :=
  Option.bind (lp (fun s => b_X1_lowestWinning_3 X N s.1 s.2.1 s.2.2.1 s.2.2.2.1 s.2.2.2.2) (a1, a2, a3, a4, 0)) (fun o7 =>
    match o7 with
    | .inl e7 =>
        some (-1)
    | .inr e7 =>
        some e7)
noncomputable def f_X1_length_l19_j58 (X : MX) (N : NN) (a1 : Int) (a2 : Int) (a4 : Int) (a6 : Int) : Option ((Int × Int × Int × Int) ⊕ (Unit ⊕ (Int ⊕ Int))) :=
  if a6 = (-1) then
    some (.inr (.inr (.inl a4)))
  else
    if 0 ≤ a6 ∧ a6 < 12 then
    if (m_w (a2 - (N 45 a6.toNat))) < 0 then
      some (.inr (.inr (.inr a4)))
    else
      if 0 ≤ a6 ∧ a6 < 12 then
      some (.inl (m_w (a2 - (N 45 a6.toNat)), a1, N 44 a6.toNat, m_w (a4 + 1)))
      else none
    else none
noncomputable def b_X1_length_19 (X : MX) (N : NN) (a1 : Int) (a2 : Int) (a3 : Int) (a4 : Int) : Option ((Int × Int × Int × Int) ⊕ (Unit ⊕ (Int ⊕ Int))) :=
  if a4 < 12 then
    Option.bind (f_X1_lowestWinning X N (m_rem a4 2) a3 a1 a2) (fun o1 =>
    if o1 = (-1) then
      Option.bind (f_X1_lowestPossible X N (m_rem a4 2) a3) (fun o2 =>
      f_X1_length_l19_j58 X N a1 a2 a4 o2)
    else
      f_X1_length_l19_j58 X N a1 a2 a4 o1)
  else
    some (.inr (.inl ()))
noncomputable def f_X1_length (X : MX) (N : NN) : Option Int :=
  Option.bind (lp (fun s => b_X1_length_19 X N s.1 s.2.1 s.2.2.1 s.2.2.2) (N 47 0, N 47 1, (-1), 0)) (fun o9 =>
    match o9 with
    | .inl e9 =>
        some 12
    | .inr (.inl e9) =>
        some e9
    | .inr (.inr e9) =>
        some (m_w (e9 + 1)))
noncomputable def f_X1_winning_l4_j41 (X : MX) (N : NN) (a2 : Int) (z0 : Int) (z1 : Int) : Option ((Int × Int) ⊕ Int) :=
  some (.inl (m_w (z0 + z1), m_w (a2 + 1)))
noncomputable def b_X1_winning_4 (X : MX) (N : NN) (a1 : Int) (a2 : Int) : Option ((Int × Int) ⊕ Int) :=
  if a2 < (N 46 0) then
    Option.bind (f_X1_winsBy (f_X1_wins X 16) X N a2 (N 47 0) (N 47 1) 0) (fun o1 =>
    if o1 = 0 then
      f_X1_winning_l4_j41 X N a2 a1 0
    else
      f_X1_winning_l4_j41 X N a2 a1 1)
  else
    some (.inr a1)
noncomputable def f_X1_winning (X : MX) (N : NN) : Option Int :=
  Option.bind (lp (fun s => b_X1_winning_4 X N s.1 s.2) (0, 0)) (fun o4 =>
  some o4)
noncomputable def f_X1_answer_j75 (X : MX) (r1 : Nat) (N : NN) (z0 : Int) : Option (Int × NN) :=
  some (z0, N)
noncomputable def f_X1_answer_j118 (X : MX) (r1 : Nat) (N : NN) (z0 : Int) : Option (Int × NN) :=
  some (z0, N)
noncomputable def f_X1_answer (X : MX) (r1 : Nat) (N : NN) (a2 : Int) (a3 : Int) (a4 : Int) : Option (Int × NN) :=
  Option.bind (f_X1_gather X r1 N 0 a2 a3) (fun o1 =>
  Option.bind (f_X1_gather X r1 o1 1 a3 a2) (fun o2 =>
  if a4 = 0 then
    Option.bind (f_X1_wins X 16 o2 0 (-1) (o2 47 0) (o2 47 1) 0) (fun o3 =>
    if o3 = 0 then
      f_X1_answer_j75 X r1 o2 a3
    else
      f_X1_answer_j75 X r1 o2 a2)
  else
    if a4 = 1 then
      Option.bind (f_X1_winning X o2) (fun o5 =>
      some (o5, o2))
    else
      if a4 = 2 then
        Option.bind (f_X1_lowestWinning X o2 0 (-1) (o2 47 0) (o2 47 1)) (fun o6 =>
        if o6 = (-1) then
          f_X1_answer_j118 X r1 o2 (-1)
        else
          if 0 ≤ o6 ∧ o6 < 12 then
          f_X1_answer_j118 X r1 o2 (o2 43 o6.toNat)
          else none)
      else
        if a4 = 3 then
          Option.bind (f_X1_length X o2) (fun o9 =>
          some (o9, o2))
        else
          some ((-1), o2)))
noncomputable def f_X11_duel_j27 (X : MX) (N : NN) : Option (Int × NN) :=
  some ((-1), N)
noncomputable def f_X11_duel (X : MX) (N : NN) (a1 : Int) (a2 : Int) (a3 : Int) : Option (Int × NN) :=
  Option.bind (f_X10_isLord X N 4 a1) (fun o1 =>
  if o1 = 0 then
    f_X11_duel_j27 X N
  else
    Option.bind (f_X10_isLord X N 4 a2) (fun o2 =>
    if o2 = 0 then
      f_X11_duel_j27 X N
    else
      if a1 = a2 then
        f_X11_duel_j27 X N
      else
        Option.bind (f_X1_answer X 4 N a1 a2 a3) (fun o3 =>
        some (o3.1, o3.2))))
noncomputable def f_X5_cut (X : MX) (N : NN) (a1 : Int) : Option NN :=
  let N1 : NN := m_up N 16 5 a1
  some N1
noncomputable def f_X11_end (X : MX) (N : NN) (a1 : Int) : Option (Int × NN) :=
  Option.bind (f_X5_length X N) (fun o1 =>
  Option.bind (f_X11_within X N a1 0 o1) (fun o2 =>
  if o2 = 0 then
    some ((-1), N)
  else
    Option.bind (f_X5_cut X N a1) (fun o3 =>
    some (a1, o3))))
noncomputable def f_X5_faultPlace (X : MX) (N : NN) : Option Int :=
  some (N 16 6)
noncomputable def f_X11_fault (X : MX) (N : NN) : Option Int :=
  Option.bind (f_X5_faultPlace X N) (fun o1 =>
  some o1)
noncomputable def b_X5_append_3 (X : MX) (N : NN) (a1 : Int) (a2 : Int) : Option ((NN × Int × Int) ⊕ NN) :=
  if a2 < 0 then
    some (.inr N)
  else
    if (N 16 5) < 400 then
      if 0 ≤ (N 16 5) ∧ (N 16 5) < 400 then
      let N2 : NN := m_up N 17 ((N 16 5).toNat) (m_and (m_ushr a1 a2) 255)
      let N3 : NN := m_up N2 16 5 (m_w ((N2 16 5) + 1))
      some (.inl (N3, a1, m_w (a2 + (-8))))
      else none
    else
      some (.inr N)
noncomputable def f_X5_append (X : MX) (N : NN) (a1 : Int) : Option NN :=
  Option.bind (lp (fun s => b_X5_append_3 X s.1 s.2.1 s.2.2) (N, a1, 24)) (fun o6 =>
  some o6)
noncomputable def f_X5_hasRoom_j17 (X : MX) (N : NN) (z0 : Int) : Option Int :=
  if 0 ≤ z0 ∧ z0 ≤ 1 then
  some z0
  else none
noncomputable def f_X5_hasRoom (X : MX) (N : NN) (a1 : Int) : Option Int :=
  if 400 < (m_w ((N 16 5) + a1)) then
    f_X5_hasRoom_j17 X N 0
  else
    f_X5_hasRoom_j17 X N 1
noncomputable def f_X11_feed (X : MX) (N : NN) (a1 : Int) (a2 : Int) (a3 : Int) (a4 : Int) (a5 : Int) : Option (Int × NN) :=
  Option.bind (f_X5_hasRoom X N 20) (fun o1 =>
  if o1 = 0 then
    some ((-1), N)
  else
    Option.bind (f_X5_append X N a1) (fun o2 =>
    Option.bind (f_X5_append X o2 a2) (fun o3 =>
    Option.bind (f_X5_append X o3 a3) (fun o4 =>
    Option.bind (f_X5_append X o4 a4) (fun o5 =>
    Option.bind (f_X5_append X o5 a5) (fun o6 =>
    Option.bind (f_X5_length X o6) (fun o7 =>
    some (o7, o6))))))))
noncomputable def f_X11_force (X : MX) (N : NN) (a1 : Int) : Option (Int × NN) :=
  Option.bind (f_X10_many X N 4 4) (fun o1 =>
  Option.bind (f_X11_within X N a1 (-1) (m_w (o1 - 1))) (fun o2 =>
  if o2 = 0 then
    Option.bind (f_X11_refuse X N (-2)) (fun o3 =>
    some (o3.1, o3.2))
  else
    Option.bind (f_X10_inForce X N 4) (fun o4 =>
    Option.bind (f_X10_setForce X 4 N a1) (fun o5 =>
    Option.bind (f_X11_accept X o5 o4) (fun o6 =>
    some (o6.1, o6.2))))))
noncomputable def f_X6_lookAt_l22_j98 (X : MX) (r1 : Nat) (N : NN) (a2 : Int) (a3 : Int) (a4 : Int) (a5 : Int) (a6 : Int) (z1 : Int) (z2 : Int) : Option ((NN × Int × Int × Int × Int × Int) ⊕ (NN × Int × Int × Int × Int)) :=
  if 0 ≤ z1 ∧ z1 < 576 then
  if 0 ≤ z2 ∧ z2 ≤ 1 then
  let N13 : NN := m_up N 59 z1.toNat z2
  some (.inl (N13, a2, a3, a4, a5, m_w (a6 + 1)))
  else none
  else none
noncomputable def f_X6_lookAt_l22_j97 (X : MX) (r1 : Nat) (N : NN) (a2 : Int) (a3 : Int) (a4 : Int) (a5 : Int) (a6 : Int) (z1 : Int) : Option ((NN × Int × Int × Int × Int × Int) ⊕ (NN × Int × Int × Int × Int)) :=
  f_X6_lookAt_l22_j98 X r1 N a2 a3 a4 a5 a6 z1 0
noncomputable def b_X6_lookAt_22 (X : MX) (r1 : Nat) (N : NN) (a2 : Int) (a3 : Int) (a4 : Int) (a5 : Int) (a6 : Int) : Option ((NN × Int × Int × Int × Int × Int) ⊕ (NN × Int × Int × Int × Int)) :=
  if a6 < (N 58 5) then
    if 0 < a3 then
      if a5 = a6 then
        f_X6_lookAt_l22_j97 X r1 N a2 a3 a4 a5 a6 (m_w ((m_w ((m_w (a2 * 36)) + (m_w (a5 * 6)))) + a6))
      else
        Option.bind (f_X10_isRuined X N r1 a5) (fun o2 =>
        if o2 = 0 then
          Option.bind (f_X10_isRuined X N r1 a6) (fun o3 =>
          if o3 = 0 then
            Option.bind (f_X2_bars X r1 N a2 a5 a6) (fun o4 =>
            if o4.1 = 0 then
              f_X6_lookAt_l22_j98 X r1 o4.2 a2 a3 a4 a5 a6 (m_w ((m_w ((m_w (a2 * 36)) + (m_w (a5 * 6)))) + a6)) 1
            else
              f_X6_lookAt_l22_j97 X r1 o4.2 a2 a3 a4 a5 a6 (m_w ((m_w ((m_w (a2 * 36)) + (m_w (a5 * 6)))) + a6)))
          else
            f_X6_lookAt_l22_j97 X r1 N a2 a3 a4 a5 a6 (m_w ((m_w ((m_w (a2 * 36)) + (m_w (a5 * 6)))) + a6)))
        else
          f_X6_lookAt_l22_j97 X r1 N a2 a3 a4 a5 a6 (m_w ((m_w ((m_w (a2 * 36)) + (m_w (a5 * 6)))) + a6)))
    else
      f_X6_lookAt_l22_j97 X r1 N a2 a3 a4 a5 a6 (m_w ((m_w ((m_w (a2 * 36)) + (m_w (a5 * 6)))) + a6))
  else
    some (.inr (N, a2, a3, a4, a5))
noncomputable def f_X6_lookAt_l10_j136 (X : MX) (r1 : Nat) (N : NN) (a2 : Int) (a3 : Int) (a4 : Int) (a5 : Int) (z1 : Int) (z2 : Int) : Option ((NN × Int × Int × Int × Int) ⊕ (NN × Int × Int)) :=
  if 0 ≤ z1 ∧ z1 < 384 then
  let N19 : NN := m_up N 60 z1.toNat z2
  some (.inl (N19, a2, a3, a4, m_w (a5 + 1)))
  else none
noncomputable def f_X6_lookAt_l10_j131 (X : MX) (r1 : Nat) (N : NN) (a2 : Int) (a3 : Int) (a4 : Int) (a5 : Int) (z1 : Int) : Option ((NN × Int × Int × Int × Int) ⊕ (NN × Int × Int)) :=
  f_X6_lookAt_l10_j136 X r1 N a2 a3 a4 a5 z1 1
noncomputable def b_X6_lookAt_10 (X : MX) (r1 : Nat) (N : NN) (a2 : Int) (a3 : Int) (a4 : Int) (a5 : Int) : Option ((NN × Int × Int × Int × Int) ⊕ (NN × Int × Int)) :=
  if a5 < (N 58 5) then
    Option.bind (lp (fun s => b_X6_lookAt_22 X r1 s.1 s.2.1 s.2.2.1 s.2.2.2.1 s.2.2.2.2.1 s.2.2.2.2.2) (N, a2, a3, a4, a5, 0)) (fun o14 =>
    if o14.2.2.2.1 = (-1) then
      f_X6_lookAt_l10_j131 X r1 o14.1 o14.2.1 o14.2.2.1 o14.2.2.2.1 o14.2.2.2.2 (m_w ((m_w ((m_w (o14.2.1 * 6)) + o14.2.2.2.2)) * 4))
    else
      if o14.2.2.2.1 = o14.2.2.2.2 then
        f_X6_lookAt_l10_j131 X r1 o14.1 o14.2.1 o14.2.2.1 o14.2.2.2.1 o14.2.2.2.2 (m_w ((m_w ((m_w (o14.2.1 * 6)) + o14.2.2.2.2)) * 4))
      else
        f_X6_lookAt_l10_j136 X r1 o14.1 o14.2.1 o14.2.2.1 o14.2.2.2.1 o14.2.2.2.2 (m_w ((m_w ((m_w (o14.2.1 * 6)) + o14.2.2.2.2)) * 4)) 0)
  else
    some (.inr (N, a2, a3))
noncomputable def f_X6_lookAt_l176_j235 (X : MX) (r1 : Nat) (N : NN) (a2 : Int) (a3 : Int) (a5 : Int) (a6 : Int) (a8 : Int) (z0 : Int) (z1 : Int) : Option ((NN × Int × Int × Int × Int × Int × Int) ⊕ (NN × Int × Int × Int × Int × Int)) :=
  some (.inl (N, a2, a3, a5, a6, m_w (z0 + z1), m_w (a8 + 1)))
noncomputable def b_X6_lookAt_176 (X : MX) (r1 : Nat) (N : NN) (a2 : Int) (a3 : Int) (a5 : Int) (a6 : Int) (a7 : Int) (a8 : Int) : Option ((NN × Int × Int × Int × Int × Int × Int) ⊕ (NN × Int × Int × Int × Int × Int)) :=
  if a8 < (N 58 5) then
    if 0 ≤ (m_w ((m_w ((m_w (a2 * 36)) + (m_w (a6 * 6)))) + a8)) ∧ (m_w ((m_w ((m_w (a2 * 36)) + (m_w (a6 * 6)))) + a8)) < 576 then
    if (N 59 ((m_w ((m_w ((m_w (a2 * 36)) + (m_w (a6 * 6)))) + a8)).toNat)) = 0 then
      f_X6_lookAt_l176_j235 X r1 N a2 a3 a5 a6 a8 a7 0
    else
      if 0 ≤ (m_w ((m_w ((m_w ((m_w ((m_w (a2 * 6)) + a8)) * 4)) + a5)) - 1)) ∧ (m_w ((m_w ((m_w ((m_w ((m_w (a2 * 6)) + a8)) * 4)) + a5)) - 1)) < 384 then
      f_X6_lookAt_l176_j235 X r1 N a2 a3 a5 a6 a8 a7 (N 60 ((m_w ((m_w ((m_w ((m_w ((m_w (a2 * 6)) + a8)) * 4)) + a5)) - 1)).toNat))
      else none
    else none
  else
    some (.inr (N, a2, a3, a5, a6, a7))
noncomputable def b_X6_lookAt_161 (X : MX) (r1 : Nat) (N : NN) (a2 : Int) (a3 : Int) (a5 : Int) (a6 : Int) : Option ((NN × Int × Int × Int × Int) ⊕ (NN × Int × Int × Int)) :=
  if a6 < (N 58 5) then
    Option.bind (lp (fun s => b_X6_lookAt_176 X r1 s.1 s.2.1 s.2.2.1 s.2.2.2.1 s.2.2.2.2.1 s.2.2.2.2.2.1 s.2.2.2.2.2.2) (N, a2, a3, a5, a6, 0, 0)) (fun o25 =>
    if 0 ≤ (m_w ((m_w ((m_w ((m_w (o25.2.1 * 6)) + o25.2.2.2.2.1)) * 4)) + o25.2.2.2.1)) ∧ (m_w ((m_w ((m_w ((m_w (o25.2.1 * 6)) + o25.2.2.2.2.1)) * 4)) + o25.2.2.2.1)) < 384 then
    let N27 : NN := m_up o25.1 60 ((m_w ((m_w ((m_w ((m_w (o25.2.1 * 6)) + o25.2.2.2.2.1)) * 4)) + o25.2.2.2.1)).toNat) o25.2.2.2.2.2
    some (.inl (N27, o25.2.1, o25.2.2.1, o25.2.2.2.1, m_w (o25.2.2.2.2.1 + 1)))
    else none)
  else
    some (.inr (N, a2, a3, a5))
noncomputable def b_X6_lookAt_146 (X : MX) (r1 : Nat) (N : NN) (a2 : Int) (a3 : Int) (a5 : Int) : Option ((NN × Int × Int × Int) ⊕ NN) :=
  if a3 < a5 then
    some (.inr N)
  else
    if a5 < 4 then
      Option.bind (lp (fun s => b_X6_lookAt_161 X r1 s.1 s.2.1 s.2.2.1 s.2.2.2.1 s.2.2.2.2) (N, a2, a3, a5, 0)) (fun o29 =>
      some (.inl (o29.1, o29.2.1, o29.2.2.1, m_w (o29.2.2.2 + 1))))
    else
      some (.inr N)
noncomputable def f_X6_lookAt (X : MX) (r1 : Nat) (N : NN) (a2 : Int) (a3 : Int) : Option NN :=
  Option.bind (f_X10_toldHolder X N r1 a2) (fun o1 =>
  Option.bind (lp (fun s => b_X6_lookAt_10 X r1 s.1 s.2.1 s.2.2.1 s.2.2.2.1 s.2.2.2.2) (N, a2, a3, o1, 0)) (fun o20 =>
  Option.bind (lp (fun s => b_X6_lookAt_146 X r1 s.1 s.2.1 s.2.2.1 s.2.2.2) (o20.1, o20.2.1, o20.2.2, 1)) (fun o32 =>
  some o32)))
noncomputable def f_X6_chosen_j14 (X : MX) (N : NN) (z0 : Int) : Option Int :=
  some z0
noncomputable def f_X6_chosen_j9 (X : MX) (N : NN) : Option Int :=
  f_X6_chosen_j14 X N 1
noncomputable def f_X6_chosen (X : MX) (N : NN) (a0 : Int) (a1 : Int) : Option Int :=
  if a1 = 0 then
    f_X6_chosen_j9 X N
  else
    if a1 = a0 then
      f_X6_chosen_j9 X N
    else
      f_X6_chosen_j14 X N a0
noncomputable def b_X6_rows_57 (X : MX) (N : NN) (a1 : Int) (a2 : Int) (a3 : Int) (a4 : Int) (a5 : Int) (a6 : Int) : Option ((NN × Int × Int × Int × Int × Int × Int) ⊕ (NN × Int × Int × Int × Int × Int)) :=
  if a4 < a6 then
    some (.inr (N, a1, a2, a3, a4, a5))
  else
    Option.bind (f_X6_chosen X N a4 a6) (fun o4 =>
    if 0 ≤ (m_w (a4 - a6)) ∧ (m_w (a4 - a6)) < 4 then
    if 0 ≤ (m_w (a3 + a6)) ∧ (m_w (a3 + a6)) < 384 then
    some (.inl (N, a1, a2, a3, a4, m_w (a5 + (m_w ((m_w (o4 * (N 62 ((m_w (a4 - a6)).toNat)))) * (N 60 ((m_w (a3 + a6)).toNat))))), m_w (a6 + 1)))
    else none
    else none)
noncomputable def b_X6_rows_46 (X : MX) (N : NN) (a1 : Int) (a2 : Int) (a3 : Int) (a4 : Int) : Option ((NN × Int × Int × Int × Int) ⊕ (NN × Int × Int)) :=
  if a4 < 0 then
    some (.inr (N, a1, a2))
  else
    Option.bind (lp (fun s => b_X6_rows_57 X s.1 s.2.1 s.2.2.1 s.2.2.2.1 s.2.2.2.2.1 s.2.2.2.2.2.1 s.2.2.2.2.2.2) (N, a1, a2, a3, a4, 0, 0)) (fun o8 =>
    if 0 ≤ o8.2.2.2.2.1 ∧ o8.2.2.2.2.1 < 4 then
    let N10 : NN := m_up o8.1 62 o8.2.2.2.2.1.toNat o8.2.2.2.2.2
    some (.inl (N10, o8.2.1, o8.2.2.1, o8.2.2.2.1, m_w (o8.2.2.2.2.1 + (-1))))
    else none)
noncomputable def b_X6_rows_17 (X : MX) (N : NN) (a1 : Int) (a2 : Int) : Option ((NN × Int × Int) ⊕ (NN × Int)) :=
  if a2 < (N 58 6) then
    if 0 ≤ a2 ∧ a2 < 16 then
    Option.bind (lp (fun s => b_X6_rows_46 X s.1 s.2.1 s.2.2.1 s.2.2.2.1 s.2.2.2.2) (N, a1, a2, m_w ((m_w ((m_w (a2 * 6)) + (N 61 a2.toNat))) * 4), m_min a1 3)) (fun o12 =>
    some (.inl (o12.1, o12.2.1, m_w (o12.2.2 + 1))))
    else none
  else
    some (.inr (N, a1))
noncomputable def f_X6_rows_j143 (X : MX) (N : NN) (z0 : Int) : Option (Int × NN) :=
  some (z0, N)
noncomputable def f_X6_rows_j142 (X : MX) (N : NN) : Option (Int × NN) :=
  f_X6_rows_j143 X N 0
noncomputable def f_X6_rows (X : MX) (N : NN) (a1 : Int) : Option (Int × NN) :=
  Option.bind (f_J7_fill_53178 X 62 N 0) (fun o1 =>
  let N2 : NN := m_up o1 62 0 1
  Option.bind (lp (fun s => b_X6_rows_17 X s.1 s.2.1 s.2.2) (N2, a1, 0)) (fun o14 =>
  if o14.2 < 0 then
    f_X6_rows_j142 X o14.1
  else
    if o14.2 < 4 then
      if 0 ≤ o14.2 ∧ o14.2 < 4 then
      f_X6_rows_j143 X o14.1 (o14.1 62 o14.2.toNat)
      else none
    else
      f_X6_rows_j142 X o14.1))
noncomputable def f_X6_takeFirst_l20_j78 (X : MX) (N : NN) (a1 : Int) (a2 : Int) (a3 : Int) (a4 : Int) : Option ((NN × Int × Int × Int × Int) ⊕ ((NN × Int × Int × Int) ⊕ (NN × Int × Int))) :=
  some (.inl (N, a1, a2, a3, m_w (a4 + 1)))
noncomputable def b_X6_takeFirst_20 (X : MX) (N : NN) (a1 : Int) (a2 : Int) (a3 : Int) (a4 : Int) : Option ((NN × Int × Int × Int × Int) ⊕ ((NN × Int × Int × Int) ⊕ (NN × Int × Int))) :=
  if a4 < (N 58 5) then
    if 0 ≤ (m_w ((m_w ((m_w (a2 * 36)) + (m_w (a3 * 6)))) + a4)) ∧ (m_w ((m_w ((m_w (a2 * 36)) + (m_w (a3 * 6)))) + a4)) < 576 then
    if (N 59 ((m_w ((m_w ((m_w (a2 * 36)) + (m_w (a3 * 6)))) + a4)).toNat)) = 0 then
      f_X6_takeFirst_l20_j78 X N a1 a2 a3 a4
    else
      if 0 ≤ a2 ∧ a2 < 16 then
      let N4 : NN := m_up N 61 a2.toNat a4
      Option.bind (f_X6_rows X N4 a1) (fun o5 =>
      if 0 < o5.1 then
        some (.inr (.inr (o5.2, a2, a4)))
      else
        f_X6_takeFirst_l20_j78 X o5.2 a1 a2 a3 a4)
      else none
    else none
  else
    some (.inr (.inl (N, a1, a2, a3)))
noncomputable def b_X6_takeFirst_2 (X : MX) (N : NN) (a1 : Int) (a2 : Int) : Option ((NN × Int × Int) ⊕ (NN ⊕ (NN × Int × Int))) :=
  if a2 < (N 58 6) then
    if 0 ≤ a2 ∧ a2 < 16 then
    Option.bind (lp (fun s => b_X6_takeFirst_20 X s.1 s.2.1 s.2.2.1 s.2.2.2.1 s.2.2.2.2) (N, a1, a2, N 61 a2.toNat, 0)) (fun o9 =>
      match o9 with
      | .inl e9 =>
          if 0 ≤ e9.2.2.1 ∧ e9.2.2.1 < 16 then
          let N11 : NN := m_up e9.1 61 e9.2.2.1.toNat e9.2.2.2
          some (.inl (N11, e9.2.1, m_w (e9.2.2.1 + 1)))
          else none
      | .inr e9 =>
          some (.inr (.inr (e9.1, e9.2.1, e9.2.2))))
    else none
  else
    some (.inr (.inl N))
noncomputable def f_X6_takeFirst (X : MX) (N : NN) (a1 : Int) : Option (Int × NN) :=
  Option.bind (lp (fun s => b_X6_takeFirst_2 X s.1 s.2.1 s.2.2) (N, a1, 0)) (fun o13 =>
    match o13 with
    | .inl e13 =>
        some (0, e13)
    | .inr e13 =>
        let N14 : NN := m_up e13.1 58 7 e13.2.1
        let N15 : NN := m_up N14 58 8 e13.2.2
        some (1, N15))
noncomputable def b_X6_answer_31 (X : MX) (r1 : Nat) (N : NN) (a2 : Int) (a3 : Int) (a4 : Int) : Option ((NN × Int × Int × Int) ⊕ (NN × Int × Int)) :=
  if a4 < (N 58 6) then
    Option.bind (f_X10_goodAt X N r1 a4 0) (fun o5 =>
    if 0 ≤ a4 ∧ a4 < 16 then
    let N7 : NN := m_up N 61 a4.toNat o5
    Option.bind (f_X6_lookAt X r1 N7 a4 a2) (fun o8 =>
    some (.inl (o8, a2, a3, m_w (a4 + 1))))
    else none)
  else
    some (.inr (N, a2, a3))
noncomputable def b_X6_answer_88 (X : MX) (r1 : Nat) (N : NN) (a2 : Int) (a3 : Int) (a4 : Int) (a5 : Int) : Option ((NN × Int × Int × Int × Int) ⊕ ((NN × Int) ⊕ NN)) :=
  if a4 < a5 then
    some (.inr (.inl (N, a3)))
  else
    Option.bind (f_X6_takeFirst X N (m_w ((m_w (a2 - 1)) - a5))) (fun o12 =>
    if o12.1 = 0 then
      some (.inr (.inr o12.2))
    else
      some (.inl (o12.2, a2, a3, a4, m_w (a5 + 1))))
noncomputable def f_X6_answer_j134 (X : MX) (r1 : Nat) (N : NN) (z0 : Int) : Option (Int × NN) :=
  some (z0, N)
noncomputable def f_X6_answer (X : MX) (r1 : Nat) (N : NN) (a2 : Int) (a3 : Int) : Option (Int × NN) :=
  Option.bind (f_X10_many X N r1 0) (fun o1 =>
  let N2 : NN := m_up N 58 5 (m_min o1 6)
  Option.bind (f_X10_many X N2 r1 1) (fun o3 =>
  let N4 : NN := m_up N2 58 6 (m_min o3 16)
  Option.bind (lp (fun s => b_X6_answer_31 X r1 s.1 s.2.1 s.2.2.1 s.2.2.2) (N4, a2, a3, 0)) (fun o10 =>
  if o10.2.2 = 0 then
    Option.bind (f_X6_rows X o10.1 o10.2.1) (fun o11 =>
    some (o11.1, o11.2))
  else
    Option.bind (lp (fun s => b_X6_answer_88 X r1 s.1 s.2.1 s.2.2.1 s.2.2.2.1 s.2.2.2.2) (o10.1, o10.2.1, o10.2.2, m_div (m_w (o10.2.2 - 1)) 2, 0)) (fun o15 =>
      match o15 with
      | .inl e15 =>
          if (m_rem e15.2 2) = 1 then
            f_X6_answer_j134 X r1 e15.1 (e15.1 58 7)
          else
            f_X6_answer_j134 X r1 e15.1 (e15.1 58 8)
      | .inr e15 =>
          some ((-1), e15)))))
noncomputable def f_X11_found_j20 (X : MX) (N : NN) : Option (Int × NN) :=
  some ((-1), N)
noncomputable def f_X11_found (X : MX) (N : NN) (a1 : Int) (a2 : Int) : Option (Int × NN) :=
  Option.bind (f_X11_within X N a1 0 3) (fun o1 =>
  if o1 = 0 then
    f_X11_found_j20 X N
  else
    Option.bind (f_X11_within X N a2 0 (m_w (2 * a1))) (fun o2 =>
    if o2 = 0 then
      f_X11_found_j20 X N
    else
      Option.bind (f_X6_answer X 4 N a1 a2) (fun o3 =>
      some (o3.1, o3.2))))
noncomputable def f_X11_generation_j21 (X : MX) (N : NN) : Option (Int × NN) :=
  Option.bind (f_X11_refuse X N (-1)) (fun o10 =>
  some (o10.1, o10.2))
noncomputable def f_X11_generation (X : MX) (N : NN) (a1 : Int) (a2 : Int) : Option (Int × NN) :=
  Option.bind (f_X11_within X N a1 0 1000000) (fun o1 =>
  if o1 = 0 then
    f_X11_generation_j21 X N
  else
    Option.bind (f_X11_within X N a2 1 50) (fun o2 =>
    if o2 = 0 then
      f_X11_generation_j21 X N
    else
      Option.bind (f_X10_many X N 4 0) (fun o3 =>
      if o3 = 0 then
        Option.bind (f_X11_refuse X N (-3)) (fun o4 =>
        some (o4.1, o4.2))
      else
        Option.bind (f_X0_playOut X 4 N a1 a2) (fun o5 =>
        Option.bind (f_X11_accept X o5.2 o5.1) (fun o6 =>
        some (o6.1, o6.2))))))
noncomputable def f_X11_give_j22 (X : MX) (N : NN) : Option (Int × NN) :=
  Option.bind (f_X11_refuse X N (-2)) (fun o11 =>
  some (o11.1, o11.2))
noncomputable def f_X11_give (X : MX) (N : NN) (a1 : Int) (a2 : Int) : Option (Int × NN) :=
  Option.bind (f_X10_isGood X N 4 a1) (fun o1 =>
  if o1 = 0 then
    f_X11_give_j22 X N
  else
    Option.bind (f_X10_isLord X N 4 a2) (fun o2 =>
    if o2 = 0 then
      f_X11_give_j22 X N
    else
      Option.bind (f_X0_mayGive X 4 N a1 a2) (fun o3 =>
      if o3.1 = 0 then
        Option.bind (f_X11_refuse X o3.2 (-3)) (fun o4 =>
        some (o4.1, o4.2))
      else
        Option.bind (f_X4_keep X 13 4 o3.2 0) (fun o5 =>
        Option.bind (f_X0_hand X 4 o5 a1 a2) (fun o6 =>
        Option.bind (f_X11_accept X o6.2 o6.1) (fun o7 =>
        some (o7.1, o7.2)))))))
noncomputable def f_X11_good_j20 (X : MX) (N : NN) : Option (Int × NN) :=
  Option.bind (f_X11_refuse X N (-1)) (fun o14 =>
  some (o14.1, o14.2))
noncomputable def f_X11_good (X : MX) (N : NN) (a1 : Int) (a2 : Int) (a3 : Int) : Option (Int × NN) :=
  Option.bind (f_X11_within X N a2 0 99) (fun o1 =>
  if o1 = 0 then
    f_X11_good_j20 X N
  else
    Option.bind (f_X11_within X N a3 0 20) (fun o2 =>
    if o2 = 0 then
      f_X11_good_j20 X N
    else
      Option.bind (f_X10_isLord X N 4 a1) (fun o3 =>
      if o3 = 0 then
        Option.bind (f_X11_refuse X N (-2)) (fun o4 =>
        some (o4.1, o4.2))
      else
        Option.bind (f_X10_many X N 4 1) (fun o5 =>
        if o5 < 16 then
          Option.bind (f_X4_clear X 13 N) (fun o6 =>
          Option.bind (f_X10_addGood X 4 o6 a1 a2 a3) (fun o7 =>
          Option.bind (f_X11_accept X o7.2 o7.1) (fun o8 =>
          some (o8.1, o8.2))))
        else
          Option.bind (f_X11_refuse X N (-5)) (fun o9 =>
          some (o9.1, o9.2))))))
noncomputable def f_X11_herald (X : MX) (N : NN) (a1 : Int) : Option (Int × NN) :=
  Option.bind (f_X11_within X N a1 1 9) (fun o1 =>
  if o1 = 0 then
    Option.bind (f_X11_refuse X N (-1)) (fun o2 =>
    some (o2.1, o2.2))
  else
    Option.bind (f_X10_many X N 4 2) (fun o3 =>
    if o3 < 5 then
      Option.bind (f_X10_addHerald X 4 N a1) (fun o4 =>
      Option.bind (f_X11_accept X o4.2 o4.1) (fun o5 =>
      some (o5.1, o5.2)))
    else
      Option.bind (f_X11_refuse X N (-5)) (fun o6 =>
      some (o6.1, o6.2))))
noncomputable def f_X11_image_j30 (X : MX) (N : NN) (q0 : Nat) : Option (Int × NN) :=
  Option.bind (f_X10_copyFrom X q0 4 N) (fun o5 =>
  Option.bind (f_X10_markKept X q0 o5) (fun o6 =>
  Option.bind (f_X11_accept X o6 0) (fun o7 =>
  some (o7.1, o7.2))))
noncomputable def f_X11_image (X : MX) (N : NN) (a1 : Int) : Option (Int × NN) :=
  Option.bind (f_X11_within X N a1 0 1) (fun o1 =>
  if o1 = 0 then
    Option.bind (f_X11_refuse X N (-1)) (fun o2 =>
    some (o2.1, o2.2))
  else
    if a1 = 0 then
      f_X11_image_j30 X N 7
    else
      f_X11_image_j30 X N 10)
noncomputable def f_X11_lord_j21 (X : MX) (N : NN) : Option (Int × NN) :=
  Option.bind (f_X11_refuse X N (-1)) (fun o11 =>
  some (o11.1, o11.2))
noncomputable def f_X11_lord (X : MX) (N : NN) (a1 : Int) (a2 : Int) : Option (Int × NN) :=
  Option.bind (f_X11_within X N a1 0 9999) (fun o1 =>
  if o1 = 0 then
    f_X11_lord_j21 X N
  else
    Option.bind (f_X11_within X N a2 0 99) (fun o2 =>
    if o2 = 0 then
      f_X11_lord_j21 X N
    else
      Option.bind (f_X10_many X N 4 0) (fun o3 =>
      if o3 < 6 then
        Option.bind (f_X4_clear X 13 N) (fun o4 =>
        Option.bind (f_X10_addLord X 4 o4 a1 a2) (fun o5 =>
        Option.bind (f_X11_accept X o5.2 o5.1) (fun o6 =>
        some (o6.1, o6.2))))
      else
        Option.bind (f_X11_refuse X N (-5)) (fun o7 =>
        some (o7.1, o7.2)))))
noncomputable def f_X11_of (X : MX) (N : NN) (a1 : Int) (a2 : Int) : Option (Int × NN) :=
  Option.bind (f_X10_isLord X N 4 a1) (fun o1 =>
  if o1 = 0 then
    some ((-1), N)
  else
    if a2 = 7 then
      Option.bind (f_X10_term X N 4 0) (fun o2 =>
      Option.bind (f_X2_upkeep X 4 N a1 o2) (fun o3 =>
      some (o3.1, o3.2)))
    else
      Option.bind (f_X10_seenOf X N 4 a1 a2) (fun o4 =>
      some (o4, N)))
noncomputable def f_X3_forget (X : MX) (N : NN) : Option NN :=
  let N1 : NN := m_up N 33 5 (-1)
  some N1
noncomputable def f_X3_look_l44_j99 (X : MX) (r1 : Nat) (N : NN) (a2 : Int) (z1 : Int) (z2 : Int) : Option ((NN × Int) ⊕ NN) :=
  if 0 ≤ z1 ∧ z1 < 32 then
  let N16 : NN := m_up N 40 z1.toNat z2
  some (.inl (N16, m_w (a2 + 1)))
  else none
noncomputable def f_X3_look_l44_j77 (X : MX) (r1 : Nat) (N : NN) (a2 : Int) (a3 : Int) (z1 : Int) (z2 : Int) : Option ((NN × Int) ⊕ NN) :=
  if 0 ≤ z1 ∧ z1 < 32 then
  let N12 : NN := m_up N 40 z1.toNat z2
  if a3 = 0 then
    f_X3_look_l44_j99 X r1 N12 a2 (m_w (26 + a2)) (-1)
  else
    Option.bind (f_X10_standingAgainst X N12 r1 a2) (fun o13 =>
    f_X3_look_l44_j99 X r1 N12 a2 (m_w (26 + a2)) o13)
  else none
noncomputable def b_X3_look_44 (X : MX) (r1 : Nat) (N : NN) (a2 : Int) : Option ((NN × Int) ⊕ NN) :=
  if a2 < 6 then
    Option.bind (f_X10_isLord X N r1 a2) (fun o7 =>
    if o7 = 0 then
      f_X3_look_l44_j77 X r1 N a2 o7 (m_w (4 + a2)) (-1)
    else
      Option.bind (f_X10_lordAt X N r1 a2 0) (fun o8 =>
      f_X3_look_l44_j77 X r1 N a2 o7 (m_w (4 + a2)) o8))
  else
    some (.inr N)
noncomputable def f_X3_look_l108_j140 (X : MX) (r1 : Nat) (N : NN) (a2 : Int) (z1 : Int) (z2 : Int) : Option ((NN × Int) ⊕ NN) :=
  if 0 ≤ z1 ∧ z1 < 32 then
  let N23 : NN := m_up N 40 z1.toNat z2
  some (.inl (N23, m_w (a2 + 1)))
  else none
noncomputable def b_X3_look_108 (X : MX) (r1 : Nat) (N : NN) (a2 : Int) : Option ((NN × Int) ⊕ NN) :=
  if a2 < 16 then
    Option.bind (f_X10_isGood X N r1 a2) (fun o18 =>
    if o18 = 0 then
      f_X3_look_l108_j140 X r1 N a2 (m_w (10 + a2)) (-1)
    else
      Option.bind (f_X10_goodAt X N r1 a2 0) (fun o19 =>
      f_X3_look_l108_j140 X r1 N a2 (m_w (10 + a2)) o19))
  else
    some (.inr N)
noncomputable def f_X3_look (X : MX) (r1 : Nat) (N : NN) : Option NN :=
  Option.bind (f_X10_term X N r1 0) (fun o1 =>
  let N2 : NN := m_up N 40 0 o1
  Option.bind (f_X10_many X N2 r1 1) (fun o3 =>
  let N4 : NN := m_up N2 40 1 o3
  let N5 : NN := m_up N4 40 2 (N4 33 6)
  let N6 : NN := m_up N5 40 3 (N5 33 7)
  Option.bind (lp (fun s => b_X3_look_44 X r1 s.1 s.2) (N6, 0)) (fun o17 =>
  Option.bind (lp (fun s => b_X3_look_108 X r1 s.1 s.2) (o17, 0)) (fun o24 =>
  some o24))))
noncomputable def f_X3_step_j134 (X : MX) (r1 : Nat) (r3 : Nat) (r4 : Nat) (N : NN) : Option (Int × NN) :=
  some (0, N)
noncomputable def f_X3_step_j159 (X : MX) (r1 : Nat) (r3 : Nat) (r4 : Nat) (N : NN) : Option (Int × NN) :=
  let N25 : NN := m_up N 33 6 (m_w ((N 33 6) + 1))
  some (1, N25)
noncomputable def f_X3_step (X : MX) (r1 : Nat) (r3 : Nat) (r4 : Nat) (N : NN) (a2 : Int) : Option (Int × NN) :=
  Option.bind (f_X3_look X r3 N) (fun o1 =>
  if m_isT X r1 then
  Option.bind (f_X8_isSo X r1 40 41 o1 a2) (fun o3 =>
  if o3.1 = 0 then
    some (1, o3.2)
  else
    if m_isT X r1 then
    Option.bind (f_X8_part X o3.2 r1 a2 0) (fun o5 =>
    if o5 = 265 then
      Option.bind (f_X10_term X o3.2 r3 0) (fun o6 =>
      if o6 < 999 then
        Option.bind (f_X4_keep X r4 r3 o3.2 1) (fun o7 =>
        Option.bind (f_X0_passYear X r3 o7 0) (fun o8 =>
        f_X3_step_j159 X r1 r3 r4 o8.2))
      else
        some (0, o3.2))
    else
      if m_isT X r1 then
      Option.bind (f_X8_sum X r1 40 41 o3.2 a2 4) (fun o11 =>
      if m_isT X r1 then
      Option.bind (f_X8_sum X r1 40 41 o11.2 a2 6) (fun o13 =>
      Option.bind (f_X10_isGood X o13.2 r3 o11.1) (fun o14 =>
      if o14 = 0 then
        f_X3_step_j134 X r1 r3 r4 o13.2
      else
        Option.bind (f_X10_isLord X o13.2 r3 o13.1) (fun o15 =>
        if o15 = 0 then
          f_X3_step_j134 X r1 r3 r4 o13.2
        else
          Option.bind (f_X0_mayGive X r3 o13.2 o11.1 o13.1) (fun o16 =>
          if o16.1 = 0 then
            f_X3_step_j134 X r1 r3 r4 o16.2
          else
            Option.bind (f_X4_keep X r4 r3 o16.2 0) (fun o17 =>
            Option.bind (f_X0_hand X r3 o17 o11.1 o13.1) (fun o18 =>
            let N19 : NN := m_up o18.2 33 7 o18.1
            f_X3_step_j159 X r1 r3 r4 N19))))))
      else none)
      else none)
    else none)
  else none)
noncomputable def f_X4_copyFrom (X : MX) (r0 : Nat) (r1 : Nat) (N : NN) : Option NN :=
  if 0 ≤ (0 : Int) ∧ 0 ≤ (0 : Int) ∧ 0 ≤ (3056 : Int) ∧ (0 : Int) + (3056 : Int) ≤ 3056 ∧ (0 : Int) + (3056 : Int) ≤ 3056 then
  let N2 : NN := m_cpy N (r1 + 1) ((0 : Int).toNat) (r0 + 1) ((0 : Int).toNat) ((3056 : Int).toNat)
  if 0 ≤ (0 : Int) ∧ 0 ≤ (0 : Int) ∧ 0 ≤ (16 : Int) ∧ (0 : Int) + (16 : Int) ≤ 16 ∧ (0 : Int) + (16 : Int) ≤ 16 then
  let N4 : NN := m_cpy N2 (r1 + 2) ((0 : Int).toNat) (r0 + 2) ((0 : Int).toNat) ((16 : Int).toNat)
  let N5 : NN := m_up N4 r0 2 (N4 r1 2)
  let N6 : NN := m_up N5 r0 3 (N5 r1 3)
  some N6
  else none
  else none
noncomputable def b_X3_run_55 (X : MX) (r1 : Nat) (r2 : Nat) (r3 : Nat) (N : NN) (a4 : Int) (a5 : Int) (a6 : Int) : Option ((NN × Int × Int × Int) ⊕ ((NN × Int) ⊕ (NN × Int))) :=
  if a6 < a5 then
    Option.bind (f_X3_step X r1 r2 r3 N a4) (fun o10 =>
    if o10.1 = 0 then
      some (.inr (.inr (o10.2, a4)))
    else
      some (.inl (o10.2, a4, a5, m_w (a6 + 1))))
  else
    some (.inr (.inl (N, a4)))
noncomputable def b_X3_run_34 (X : MX) (r1 : Nat) (r2 : Nat) (r3 : Nat) (N : NN) (a4 : Int) : Option ((NN × Int) ⊕ (NN ⊕ (NN × Int))) :=
  if m_isT X r1 then
  Option.bind (f_X8_clauses X N r1) (fun o7 =>
  if a4 < o7 then
    if m_isT X r1 then
    Option.bind (f_X8_part X N r1 a4 1) (fun o9 =>
    Option.bind (lp (fun s => b_X3_run_55 X r1 r2 r3 s.1 s.2.1 s.2.2.1 s.2.2.2) (N, a4, o9, 0)) (fun o13 =>
      match o13 with
      | .inl e13 =>
          some (.inl (e13.1, m_w (e13.2 + 1)))
      | .inr e13 =>
          some (.inr (.inr (e13.1, e13.2)))))
    else none
  else
    some (.inr (.inl N)))
  else none
noncomputable def f_X3_run (X : MX) (r1 : Nat) (r2 : Nat) (r3 : Nat) (N : NN) : Option (Int × NN) :=
  Option.bind (f_X10_copyFrom X 34 r2 N) (fun o1 =>
  Option.bind (f_X4_copyFrom X 37 r3 o1) (fun o2 =>
  let N3 : NN := m_up o2 33 5 (-1)
  let N4 : NN := m_up N3 33 6 0
  let N5 : NN := m_up N4 33 7 (-1)
  Option.bind (lp (fun s => b_X3_run_34 X r1 r2 r3 s.1 s.2) (N5, 0)) (fun o15 =>
    match o15 with
    | .inl e15 =>
        some (e15 33 6, e15)
    | .inr e15 =>
        Option.bind (f_X10_copyFrom X r2 34 e15.1) (fun o16 =>
        Option.bind (f_X4_copyFrom X r3 37 o16) (fun o17 =>
        let N18 : NN := m_up o17 33 5 e15.2
        some ((-1), N18))))))
noncomputable def f_X5_advance (X : MX) (N : NN) : Option NN :=
  if (N 16 10) = (-1) then
    some N
  else
    if (N 16 9) < 400 then
      let N1 : NN := m_up N 16 9 (m_w ((N 16 9) + 1))
      if 0 ≤ (N1 16 9) ∧ (N1 16 9) < 401 then
      let N3 : NN := m_up N1 16 10 (N1 18 ((N1 16 9).toNat))
      some N3
      else none
    else
      some N
noncomputable def f_X5_lawWord_j78 (X : MX) (N : NN) (z0 : Int) : Option Int :=
  some z0
noncomputable def f_X5_lawWord_j63 (X : MX) (N : NN) : Option Int :=
  if (N 16 10) = 264 then
    f_X5_lawWord_j78 X N 5
  else
    f_X5_lawWord_j78 X N (-1)
noncomputable def f_X5_lawWord_j31 (X : MX) (N : NN) : Option Int :=
  if (N 16 10) < 272 then
    f_X5_lawWord_j63 X N
  else
    if 274 < (N 16 10) then
      f_X5_lawWord_j63 X N
    else
      some (m_w ((m_w ((N 16 10) - 272)) + 6))
noncomputable def f_X5_lawWord (X : MX) (N : NN) : Option Int :=
  if (N 16 10) < 267 then
    f_X5_lawWord_j31 X N
  else
    if 271 < (N 16 10) then
      f_X5_lawWord_j31 X N
    else
      some (m_w ((m_w ((N 16 10) - 267)) + 0))
noncomputable def f_X5_orderWord_j31 (X : MX) (N : NN) : Option Int :=
  if (N 16 10) = 272 then
    some 0
  else
    if (N 16 10) = 273 then
      some (-1)
    else
      if (N 16 10) = 274 then
        some (-1)
      else
        if (N 16 10) = 275 then
          some (-1)
        else
          if (N 16 10) = 276 then
            some (-1)
          else
            if (N 16 10) = 277 then
              some (-1)
            else
              if (N 16 10) = 278 then
                some 4
              else
                if (N 16 10) = 279 then
                  some 10
                else
                  if (N 16 10) = 280 then
                    some 26
                  else
                    some (-1)
noncomputable def f_X5_orderWord (X : MX) (N : NN) : Option Int :=
  if (N 16 10) < 275 then
    f_X5_orderWord_j31 X N
  else
    if 277 < (N 16 10) then
      f_X5_orderWord_j31 X N
    else
      some (m_w ((m_w ((N 16 10) - 275)) + 1))
noncomputable def f_X5_wrong (X : MX) (N : NN) : Option (Int × NN) :=
  if 0 ≤ (N 16 9) ∧ (N 16 9) < 401 then
  let N2 : NN := m_up N 16 6 (N 20 ((N 16 9).toNat))
  some (0, N2)
  else none
noncomputable def f_X8_add_j42 (X : MX) (r0 : Nat) (N : NN) : Option (Int × NN) :=
  some (m_w ((N r0 3) - 1), N)
noncomputable def f_X8_add (X : MX) (r0 : Nat) (N : NN) (a1 : Int) (a2 : Int) : Option (Int × NN) :=
  if ((xK X (r0 + 1)).2 : Int) ≤ 2147483647 then
  if (N r0 3) < ((xK X (r0 + 1)).2 : Int) then
    if 0 ≤ (N r0 3) ∧ (N r0 3) < ((xK X (r0 + 1)).2 : Int) then
    let N3 : NN := m_up N (r0 + 1) ((N r0 3).toNat) a1
    if 0 ≤ (N3 r0 3) ∧ (N3 r0 3) < ((xK X (r0 + 2)).2 : Int) then
    let N5 : NN := m_up N3 (r0 + 2) ((N3 r0 3).toNat) a2
    let N6 : NN := m_up N5 r0 3 (m_w ((N5 r0 3) + 1))
    f_X8_add_j42 X r0 N6
    else none
    else none
  else
    f_X8_add_j42 X r0 N
  else none
noncomputable def f_X5_part_j86 (fr : NN → Int → Int → Int → Option (Int × NN)) (X : MX) (N : NN) : Option (Int × NN) :=
  Option.bind (f_X5_wrong X N) (fun o13 =>
  if 0 ≤ o13.1 ∧ o13.1 ≤ 1 then
  some (o13.1, o13.2)
  else none)
noncomputable def f_X5_part_j224 (fr : NN → Int → Int → Int → Option (Int × NN)) (X : MX) (N : NN) (a5 : Int) (q0 : Nat) (z1 : Int) : Option (Int × NN) :=
  if m_isT X q0 then
  Option.bind (f_X8_add X q0 N z1 a5) (fun o30 =>
  some (1, o30.2))
  else none
noncomputable def f_X5_part_j211 (fr : NN → Int → Int → Int → Option (Int × NN)) (X : MX) (N : NN) (a2 : Int) (a5 : Int) : Option (Int × NN) :=
  if a2 = 0 then
    f_X5_part_j224 fr X N a5 21 1
  else
    f_X5_part_j224 fr X N a5 21 0
noncomputable def f_X5_part_j188 (fr : NN → Int → Int → Int → Option (Int × NN)) (X : MX) (N : NN) : Option (Int × NN) :=
  Option.bind (f_X5_wrong X N) (fun o31 =>
  if 0 ≤ o31.1 ∧ o31.1 ≤ 1 then
  some (o31.1, o31.2)
  else none)
noncomputable def f_X5_part_j163 (fr : NN → Int → Int → Int → Option (Int × NN)) (X : MX) (N : NN) (a2 : Int) (a5 : Int) (z0 : Int) : Option (Int × NN) :=
  if (N 16 10) = (-2) then
    if 0 ≤ (N 16 9) ∧ (N 16 9) < 401 then
    if z0 < (N 19 ((N 16 9).toNat)) then
      f_X5_part_j188 fr X N
    else
      if 0 ≤ (N 16 9) ∧ (N 16 9) < 401 then
      Option.bind (f_X5_advance X N) (fun o26 =>
      f_X5_part_j211 fr X o26 a2 (m_w (a5 + (N 19 ((N 16 9).toNat)))))
      else none
    else none
  else
    f_X5_part_j188 fr X N
noncomputable def f_X5_part_j124 (fr : NN → Int → Int → Int → Option (Int × NN)) (X : MX) (N : NN) (a2 : Int) (a4 : Int) (z0 : Int) : Option (Int × NN) :=
  Option.bind (f_X5_advance X N) (fun o18 =>
  if (o18 16 7) = 0 then
    if a2 = 0 then
      if a4 < 278 then
        f_X5_part_j211 fr X o18 a2 z0
      else
        if a4 = 279 then
          f_X5_part_j163 fr X o18 a2 z0 15
        else
          f_X5_part_j163 fr X o18 a2 z0 5
    else
      f_X5_part_j211 fr X o18 a2 z0
  else
    f_X5_part_j211 fr X o18 a2 z0)
noncomputable def f_X5_part_j91 (fr : NN → Int → Int → Int → Option (Int × NN)) (X : MX) (N : NN) (a2 : Int) (a3 : Int) : Option (Int × NN) :=
  let N15 : NN := m_up N 16 8 (m_w ((N 16 8) + 1))
  if a2 = 0 then
    f_X5_part_j124 fr X N15 a2 (N15 16 10) a3
  else
    if 0 ≤ (N15 16 9) ∧ (N15 16 9) < 401 then
    f_X5_part_j124 fr X N15 a2 (N15 16 10) (N15 19 ((N15 16 9).toNat))
    else none
noncomputable def f_X5_part_j67 (fr : NN → Int → Int → Int → Option (Int × NN)) (X : MX) (N : NN) (a2 : Int) (z0 : Int) : Option (Int × NN) :=
  if (N 16 8) < 50 then
    if a2 = 0 then
      if z0 = (-1) then
        f_X5_part_j86 fr X N
      else
        f_X5_part_j91 fr X N a2 z0
    else
      f_X5_part_j91 fr X N a2 z0
  else
    f_X5_part_j86 fr X N
noncomputable def f_X5_part_j48 (fr : NN → Int → Int → Int → Option (Int × NN)) (X : MX) (N : NN) (z0 : Int) : Option (Int × NN) :=
  if (N 16 7) = 0 then
    Option.bind (f_X5_orderWord X N) (fun o7 =>
    f_X5_part_j67 fr X N z0 o7)
  else
    Option.bind (f_X5_lawWord X N) (fun o8 =>
    f_X5_part_j67 fr X N z0 o8)
noncomputable def f_X5_part_j47 (fr : NN → Int → Int → Int → Option (Int × NN)) (X : MX) (N : NN) : Option (Int × NN) :=
  f_X5_part_j48 fr X N 0
noncomputable def f_X5_part (fr : NN → Int → Int → Int → Option (Int × NN)) (X : MX) (N : NN) (a1 : Int) : Option (Int × NN) :=
  if (N 16 10) = 91 then
    Option.bind (fr N a1 91 93) (fun o1 =>
    if 0 ≤ o1.1 ∧ o1.1 ≤ 1 then
    some (o1.1, o1.2)
    else none)
  else
    if (N 16 10) = (-2) then
      if 0 ≤ (N 16 9) ∧ (N 16 9) < 401 then
      if 1000 < (N 19 ((N 16 9).toNat)) then
        f_X5_part_j47 fr X N
      else
        f_X5_part_j48 fr X N 1
      else none
    else
      f_X5_part_j47 fr X N
noncomputable def f_X5_term_l8_j74 (fr : NN → Int → Int → Int → Option (Int × NN)) (X : MX) (N : NN) (a1 : Int) (a3 : Int) (z0 : Int) : Option ((NN × Int × Int × Int) ⊕ (NN × Int)) :=
  Option.bind (f_X5_advance X N) (fun o9 =>
  Option.bind (f_X5_part fr X o9 a1) (fun o10 =>
  Option.bind (f_X8_add X 21 o10.2 z0 0) (fun o11 =>
  some (.inl (o11.2, a1, o10.1, m_w (a3 + 1))))))
noncomputable def f_X5_term_l8_j46 (fr : NN → Int → Int → Int → Option (Int × NN)) (X : MX) (N : NN) (a1 : Int) (a3 : Int) : Option ((NN × Int × Int × Int) ⊕ (NN × Int)) :=
  if (N 16 10) = 42 then
    f_X5_term_l8_j74 fr X N a1 a3 4
  else
    if (N 16 10) = 47 then
      f_X5_term_l8_j74 fr X N a1 a3 5
    else
      f_X5_term_l8_j74 fr X N a1 a3 6
noncomputable def b_X5_term_8 (fr : NN → Int → Int → Int → Option (Int × NN)) (X : MX) (N : NN) (a1 : Int) (a2 : Int) (a3 : Int) : Option ((NN × Int × Int × Int) ⊕ (NN × Int)) :=
  if a3 < 400 then
    if a2 = 0 then
      some (.inr (N, a2))
    else
      if (N 16 10) = 42 then
        f_X5_term_l8_j46 fr X N a1 a3
      else
        if (N 16 10) = 47 then
          f_X5_term_l8_j46 fr X N a1 a3
        else
          if (N 16 10) = 37 then
            f_X5_term_l8_j46 fr X N a1 a3
          else
            some (.inr (N, a2))
  else
    some (.inr (N, a2))
noncomputable def f_X5_term (fr : NN → Int → Int → Int → Option (Int × NN)) (X : MX) (N : NN) (a1 : Int) : Option (Int × NN) :=
  Option.bind (f_X5_part fr X N a1) (fun o1 =>
  Option.bind (lp (fun s => b_X5_term_8 fr X s.1 s.2.1 s.2.2.1 s.2.2.2) (o1.2, a1, o1.1, 0)) (fun o12 =>
  if 0 ≤ o12.2 ∧ o12.2 ≤ 1 then
  some (o12.2, o12.1)
  else none))
noncomputable def f_X5_sum_l8_j51 (fr : NN → Int → Int → Int → Option (Int × NN)) (X : MX) (N : NN) (a1 : Int) (a3 : Int) (z0 : Int) : Option ((NN × Int × Int × Int) ⊕ (NN × Int)) :=
  Option.bind (f_X5_advance X N) (fun o7 =>
  Option.bind (f_X5_term fr X o7 a1) (fun o8 =>
  Option.bind (f_X8_add X 21 o8.2 z0 0) (fun o9 =>
  some (.inl (o9.2, a1, o8.1, m_w (a3 + 1))))))
noncomputable def f_X5_sum_l8_j37 (fr : NN → Int → Int → Int → Option (Int × NN)) (X : MX) (N : NN) (a1 : Int) (a3 : Int) : Option ((NN × Int × Int × Int) ⊕ (NN × Int)) :=
  if (N 16 10) = 43 then
    f_X5_sum_l8_j51 fr X N a1 a3 2
  else
    f_X5_sum_l8_j51 fr X N a1 a3 3
noncomputable def b_X5_sum_8 (fr : NN → Int → Int → Int → Option (Int × NN)) (X : MX) (N : NN) (a1 : Int) (a2 : Int) (a3 : Int) : Option ((NN × Int × Int × Int) ⊕ (NN × Int)) :=
  if a3 < 400 then
    if a2 = 0 then
      some (.inr (N, a2))
    else
      if (N 16 10) = 43 then
        f_X5_sum_l8_j37 fr X N a1 a3
      else
        if (N 16 10) = 45 then
          f_X5_sum_l8_j37 fr X N a1 a3
        else
          some (.inr (N, a2))
  else
    some (.inr (N, a2))
noncomputable def f_X5_sum (fr : NN → Int → Int → Int → Option (Int × NN)) (X : MX) (N : NN) (a1 : Int) : Option (Int × NN) :=
  Option.bind (f_X5_term fr X N a1) (fun o1 =>
  Option.bind (lp (fun s => b_X5_sum_8 fr X s.1 s.2.1 s.2.2.1 s.2.2.2) (o1.2, a1, o1.1, 0)) (fun o10 =>
  if 0 ≤ o10.2 ∧ o10.2 ≤ 1 then
  some (o10.2, o10.1)
  else none))
noncomputable def f_X5_comparison_j61 (fr : NN → Int → Int → Int → Option (Int × NN)) (X : MX) (N : NN) (a1 : Int) (a2 : Int) : Option (Int × NN) :=
  Option.bind (f_X5_advance X N) (fun o9 =>
  Option.bind (f_X5_sum fr X o9 a1) (fun o10 =>
  Option.bind (f_X8_add X 21 o10.2 a2 0) (fun o11 =>
  if 0 ≤ o10.1 ∧ o10.1 ≤ 1 then
  some (o10.1, o11.2)
  else none)))
noncomputable def f_X5_comparison_j40 (fr : NN → Int → Int → Int → Option (Int × NN)) (X : MX) (N : NN) (a1 : Int) (z0 : Int) : Option (Int × NN) :=
  if z0 = 9 then
    if (N 16 10) = 61 then
      f_X5_comparison_j61 fr X N a1 z0
    else
      Option.bind (f_X5_wrong X N) (fun o5 =>
      if 0 ≤ o5.1 ∧ o5.1 ≤ 1 then
      some (o5.1, o5.2)
      else none)
  else
    f_X5_comparison_j61 fr X N a1 z0
noncomputable def f_X5_comparison (fr : NN → Int → Int → Int → Option (Int × NN)) (X : MX) (N : NN) (a1 : Int) : Option (Int × NN) :=
  Option.bind (f_X5_sum fr X N a1) (fun o1 =>
  if o1.1 = 0 then
    some (0, o1.2)
  else
    if (o1.2 16 10) = 60 then
      f_X5_comparison_j40 fr X o1.2 a1 7
    else
      if (o1.2 16 10) = 62 then
        f_X5_comparison_j40 fr X o1.2 a1 8
      else
        f_X5_comparison_j40 fr X o1.2 a1 9)
noncomputable def f_X5_plain_l4_j30 (fr : NN → Int → Int → Int → Option (Int × NN)) (X : MX) (N : NN) (a1 : Int) (a3 : Int) (z0 : Int) : Option ((NN × Int × Int × Int) ⊕ (NN × Int × Int)) :=
  Option.bind (f_X5_advance X N) (fun o4 =>
  some (.inl (o4, a1, z0, m_w (a3 + 1))))
noncomputable def b_X5_plain_4 (fr : NN → Int → Int → Int → Option (Int × NN)) (X : MX) (N : NN) (a1 : Int) (a2 : Int) (a3 : Int) : Option ((NN × Int × Int × Int) ⊕ (NN × Int × Int)) :=
  if a3 < 400 then
    if (N 16 10) = 262 then
      if a2 = 0 then
        f_X5_plain_l4_j30 fr X N a1 a3 1
      else
        f_X5_plain_l4_j30 fr X N a1 a3 0
    else
      some (.inr (N, a1, a2))
  else
    some (.inr (N, a1, a2))
noncomputable def f_X5_plain_j87 (fr : NN → Int → Int → Int → Option (Int × NN)) (X : MX) (N : NN) (a3 : Int) : Option (Int × NN) :=
  if 0 ≤ a3 ∧ a3 ≤ 1 then
  some (a3, N)
  else none
noncomputable def f_X5_plain_j67 (fr : NN → Int → Int → Int → Option (Int × NN)) (X : MX) (N : NN) (a2 : Int) (z0 : Int) : Option (Int × NN) :=
  if z0 = 0 then
    f_X5_plain_j87 fr X N z0
  else
    if a2 = 0 then
      f_X5_plain_j87 fr X N z0
    else
      Option.bind (f_X8_add X 21 N 10 0) (fun o9 =>
      f_X5_plain_j87 fr X o9.2 z0)
noncomputable def f_X5_plain (fr : NN → Int → Int → Int → Option (Int × NN)) (X : MX) (N : NN) (a1 : Int) : Option (Int × NN) :=
  Option.bind (lp (fun s => b_X5_plain_4 fr X s.1 s.2.1 s.2.2.1 s.2.2.2) (N, a1, 0, 0)) (fun o5 =>
  if (o5.1 16 10) = 40 then
    Option.bind (fr o5.1 o5.2.1 40 41) (fun o6 =>
    f_X5_plain_j67 fr X o6.2 o5.2.2 o6.1)
  else
    Option.bind (f_X5_comparison fr X o5.1 o5.2.1) (fun o7 =>
    f_X5_plain_j67 fr X o7.2 o5.2.2 o7.1))
noncomputable def f_X8_landHere (X : MX) (r0 : Nat) (N : NN) (a1 : Int) : Option NN :=
  if a1 < 0 then
    some N
  else
    if a1 < (N r0 3) then
      if 0 ≤ a1 ∧ a1 < ((xK X (r0 + 2)).2 : Int) then
      let N2 : NN := m_up N (r0 + 2) a1.toNat (N r0 3)
      some N2
      else none
    else
      some N
noncomputable def b_X5_both_8 (fr : NN → Int → Int → Int → Option (Int × NN)) (X : MX) (N : NN) (a1 : Int) (a2 : Int) (a3 : Int) : Option ((NN × Int × Int × Int) ⊕ (NN × Int)) :=
  if a3 < 400 then
    if a2 = 0 then
      some (.inr (N, a2))
    else
      if (N 16 10) = 261 then
        Option.bind (f_X8_add X 21 N 11 0) (fun o2 =>
        Option.bind (f_X5_advance X o2.2) (fun o3 =>
        Option.bind (f_X5_plain fr X o3 a1) (fun o4 =>
        Option.bind (f_X8_landHere X 21 o4.2 o2.1) (fun o5 =>
        some (.inl (o5, a1, o4.1, m_w (a3 + 1)))))))
      else
        some (.inr (N, a2))
  else
    some (.inr (N, a2))
noncomputable def f_X5_both (fr : NN → Int → Int → Int → Option (Int × NN)) (X : MX) (N : NN) (a1 : Int) : Option (Int × NN) :=
  Option.bind (f_X5_plain fr X N a1) (fun o1 =>
  Option.bind (lp (fun s => b_X5_both_8 fr X s.1 s.2.1 s.2.2.1 s.2.2.2) (o1.2, a1, o1.1, 0)) (fun o9 =>
  if 0 ≤ o9.2 ∧ o9.2 ≤ 1 then
  some (o9.2, o9.1)
  else none))
noncomputable def b_X5_test_8 (fr : NN → Int → Int → Int → Option (Int × NN)) (X : MX) (N : NN) (a1 : Int) (a2 : Int) (a3 : Int) : Option ((NN × Int × Int × Int) ⊕ (NN × Int)) :=
  if a3 < 400 then
    if a2 = 0 then
      some (.inr (N, a2))
    else
      if (N 16 10) = 260 then
        Option.bind (f_X8_add X 21 N 12 0) (fun o2 =>
        Option.bind (f_X5_advance X o2.2) (fun o3 =>
        Option.bind (f_X5_both fr X o3 a1) (fun o4 =>
        Option.bind (f_X8_landHere X 21 o4.2 o2.1) (fun o5 =>
        some (.inl (o5, a1, o4.1, m_w (a3 + 1)))))))
      else
        some (.inr (N, a2))
  else
    some (.inr (N, a2))
noncomputable def f_X5_test (fr : NN → Int → Int → Int → Option (Int × NN)) (X : MX) (N : NN) (a1 : Int) : Option (Int × NN) :=
  Option.bind (f_X5_both fr X N a1) (fun o1 =>
  Option.bind (lp (fun s => b_X5_test_8 fr X s.1 s.2.1 s.2.2.1 s.2.2.2) (o1.2, a1, o1.1, 0)) (fun o9 =>
  if 0 ≤ o9.2 ∧ o9.2 ≤ 1 then
  some (o9.2, o9.1)
  else none))
noncomputable def f_X5_bracketed_j14 (fr : NN → Int → Int → Int → Option (Int × NN)) (X : MX) (N : NN) : Option (Int × NN) :=
  Option.bind (f_X5_wrong X N) (fun o12 =>
  if 0 ≤ o12.1 ∧ o12.1 ≤ 1 then
  some (o12.1, o12.2)
  else none)
noncomputable def f_X5_bracketed_j46 (fr : NN → Int → Int → Int → Option (Int × NN)) (X : MX) (N : NN) (a3 : Int) (z0 : Int) : Option (Int × NN) :=
  if z0 = 0 then
    some (0, N)
  else
    if (N 16 10) = a3 then
      Option.bind (f_X5_advance X N) (fun o7 =>
      some (1, o7))
    else
      Option.bind (f_X5_wrong X N) (fun o8 =>
      if 0 ≤ o8.1 ∧ o8.1 ≤ 1 then
      some (o8.1, o8.2)
      else none)
noncomputable def f_X5_bracketed_step (fr : NN → Int → Int → Int → Option (Int × NN)) (X : MX) (N : NN) (a1 : Int) (a2 : Int) (a3 : Int) : Option (Int × NN) :=
  if (N 16 10) = a2 then
    if a1 < 8 then
      Option.bind (f_X5_advance X N) (fun o1 =>
      if a2 = 40 then
        Option.bind (f_X5_test fr X o1 (m_w (a1 + 1))) (fun o2 =>
        f_X5_bracketed_j46 fr X o2.2 a3 o2.1)
      else
        Option.bind (f_X5_sum fr X o1 (m_w (a1 + 1))) (fun o3 =>
        f_X5_bracketed_j46 fr X o3.2 a3 o3.1))
    else
      f_X5_bracketed_j14 fr X N
  else
    f_X5_bracketed_j14 fr X N
noncomputable def f_X5_bracketed (X : MX) : Nat → NN → Int → Int → Int → Option (Int × NN)
  | 0 => fun _ _ _ _ => none
  | n + 1 => fun N x1 x2 x3 => f_X5_bracketed_step (f_X5_bracketed X n) X N x1 x2 x3
noncomputable def f_X8_setPart (X : MX) (r0 : Nat) (N : NN) (a1 : Int) (a2 : Int) (a3 : Int) : Option NN :=
  if 0 ≤ (m_w ((m_w (a1 * 8)) + a2)) ∧ (m_w ((m_w (a1 * 8)) + a2)) < ((xK X (r0 + 3)).2 : Int) then
  let N2 : NN := m_up N (r0 + 3) ((m_w ((m_w (a1 * 8)) + a2)).toNat) a3
  some N2
  else none
noncomputable def f_X8_size (X : MX) (N : NN) (r0 : Nat) : Option Int :=
  some (N r0 3)
noncomputable def f_X5_condition (X : MX) (N : NN) (a1 : Int) : Option (Int × NN) :=
  if (N 16 10) = 259 then
    Option.bind (f_X5_advance X N) (fun o1 =>
    Option.bind (f_X8_size X o1 21) (fun o2 =>
    Option.bind (f_X8_setPart X 21 o1 a1 2 o2) (fun o3 =>
    Option.bind (f_X5_test (f_X5_bracketed X 12) X o3 0) (fun o4 =>
    Option.bind (f_X8_size X o4.2 21) (fun o5 =>
    Option.bind (f_X8_setPart X 21 o4.2 a1 3 o5) (fun o6 =>
    if 0 ≤ o4.1 ∧ o4.1 ≤ 1 then
    some (o4.1, o6)
    else none))))))
  else
    some (1, N)
noncomputable def f_X5_sumOf (X : MX) (N : NN) (a1 : Int) (a2 : Int) : Option (Int × NN) :=
  Option.bind (f_X8_size X N 21) (fun o1 =>
  Option.bind (f_X8_setPart X 21 N a1 a2 o1) (fun o2 =>
  Option.bind (f_X5_sum (f_X5_bracketed X 12) X o2 0) (fun o3 =>
  Option.bind (f_X8_size X o3.2 21) (fun o4 =>
  Option.bind (f_X8_setPart X 21 o3.2 a1 (m_w (a2 + 1)) o4) (fun o5 =>
  if 0 ≤ o3.1 ∧ o3.1 ≤ 1 then
  some (o3.1, o5)
  else none)))))
noncomputable def f_X8_open_j81 (X : MX) (r0 : Nat) (N : NN) : Option (Int × NN) :=
  some (m_w ((N r0 4) - 1), N)
noncomputable def f_X8_open (X : MX) (r0 : Nat) (N : NN) (a1 : Int) : Option (Int × NN) :=
  if ((xK X (r0 + 3)).2 : Int) ≤ 2147483647 then
  if ((xK X (r0 + 3)).2 : Int) < (m_w ((m_w ((N r0 4) + 1)) * 8)) then
    f_X8_open_j81 X r0 N
  else
    Option.bind (f_J7_fill_fda19 X (r0 + 3) N (m_w ((N r0 4) * 8)) (m_w ((m_w ((N r0 4) + 1)) * 8)) 0) (fun o2 =>
    if 0 ≤ (m_w ((m_w ((o2 r0 4) * 8)) + 0)) ∧ (m_w ((m_w ((o2 r0 4) * 8)) + 0)) < ((xK X (r0 + 3)).2 : Int) then
    let N4 : NN := m_up o2 (r0 + 3) ((m_w ((m_w ((o2 r0 4) * 8)) + 0)).toNat) a1
    if 0 ≤ (m_w ((m_w ((N4 r0 4) * 8)) + 1)) ∧ (m_w ((m_w ((N4 r0 4) * 8)) + 1)) < ((xK X (r0 + 3)).2 : Int) then
    let N6 : NN := m_up N4 (r0 + 3) ((m_w ((m_w ((N4 r0 4) * 8)) + 1)).toNat) 1
    let N7 : NN := m_up N6 r0 4 (m_w ((N6 r0 4) + 1))
    f_X8_open_j81 X r0 N7
    else none
    else none)
  else none
noncomputable def f_X5_lawClause_j20 (X : MX) (N : NN) : Option (Int × NN) :=
  Option.bind (f_X5_wrong X N) (fun o8 =>
  if 0 ≤ o8.1 ∧ o8.1 ≤ 1 then
  some (o8.1, o8.2)
  else none)
noncomputable def f_X5_lawClause_j72 (X : MX) (N : NN) (z0 : Int) : Option (Int × NN) :=
  if 0 ≤ z0 ∧ z0 ≤ 1 then
  some (z0, N)
  else none
noncomputable def f_X5_lawClause_j71 (X : MX) (N : NN) : Option (Int × NN) :=
  f_X5_lawClause_j72 X N 0
noncomputable def f_X5_lawClause_j59 (X : MX) (N : NN) (a2 : Int) : Option (Int × NN) :=
  Option.bind (f_X5_condition X N a2) (fun o10 =>
  if o10.1 = 0 then
    f_X5_lawClause_j71 X o10.2
  else
    f_X5_lawClause_j72 X o10.2 1)
noncomputable def f_X5_lawClause (X : MX) (N : NN) : Option (Int × NN) :=
  if (N 16 10) < 256 then
    f_X5_lawClause_j20 X N
  else
    if 258 < (N 16 10) then
      f_X5_lawClause_j20 X N
    else
      Option.bind (f_X8_open X 21 N (N 16 10)) (fun o1 =>
      Option.bind (f_X5_advance X o1.2) (fun o2 =>
      if (N 16 10) = 258 then
        f_X5_lawClause_j59 X o2 o1.1
      else
        Option.bind (f_X5_sumOf X o2 o1.1 4) (fun o3 =>
        if o3.1 = 0 then
          f_X5_lawClause_j71 X o3.2
        else
          f_X5_lawClause_j59 X o3.2 o1.1)))
noncomputable def f_X5_times_j52 (X : MX) (N : NN) : Option (Int × NN) :=
  Option.bind (f_X5_wrong X N) (fun o11 =>
  if 0 ≤ o11.1 ∧ o11.1 ≤ 1 then
  some (o11.1, o11.2)
  else none)
noncomputable def f_X5_times (X : MX) (N : NN) (a1 : Int) : Option (Int × NN) :=
  if (N 16 10) = 266 then
    Option.bind (f_X5_advance X N) (fun o1 =>
    if (o1 16 10) = (-2) then
      if 0 ≤ (o1 16 9) ∧ (o1 16 9) < 401 then
      if (o1 19 ((o1 16 9).toNat)) < 1 then
        f_X5_times_j52 X o1
      else
        if 0 ≤ (o1 16 9) ∧ (o1 16 9) < 401 then
        if 20 < (o1 19 ((o1 16 9).toNat)) then
          f_X5_times_j52 X o1
        else
          if 0 ≤ (o1 16 9) ∧ (o1 16 9) < 401 then
          Option.bind (f_X8_setPart X 21 o1 a1 1 (o1 19 ((o1 16 9).toNat))) (fun o5 =>
          Option.bind (f_X5_advance X o5) (fun o6 =>
          some (1, o6)))
          else none
        else none
      else none
    else
      f_X5_times_j52 X o1)
  else
    some (1, N)
noncomputable def f_X5_orderClause_j113 (X : MX) (N : NN) (z0 : Int) : Option (Int × NN) :=
  if 0 ≤ z0 ∧ z0 ≤ 1 then
  some (z0, N)
  else none
noncomputable def f_X5_orderClause_j112 (X : MX) (N : NN) : Option (Int × NN) :=
  f_X5_orderClause_j113 X N 0
noncomputable def f_X5_orderClause_j92 (X : MX) (N : NN) (a2 : Int) : Option (Int × NN) :=
  Option.bind (f_X5_times X N a2) (fun o16 =>
  if o16.1 = 0 then
    f_X5_orderClause_j112 X o16.2
  else
    Option.bind (f_X5_condition X o16.2 a2) (fun o17 =>
    if o17.1 = 0 then
      f_X5_orderClause_j112 X o17.2
    else
      f_X5_orderClause_j113 X o17.2 1))
noncomputable def f_X5_orderClause_j25 (X : MX) (N : NN) : Option (Int × NN) :=
  Option.bind (f_X8_open X 21 N (N 16 10)) (fun o5 =>
  Option.bind (f_X5_advance X o5.2) (fun o6 =>
  if (N 16 10) = 263 then
    Option.bind (f_X5_sumOf X o6 o5.1 4) (fun o7 =>
    if o7.1 = 0 then
      some (0, o7.2)
    else
      if (o7.2 16 10) = 264 then
        Option.bind (f_X5_advance X o7.2) (fun o8 =>
        Option.bind (f_X5_sumOf X o8 o5.1 6) (fun o9 =>
        if o9.1 = 0 then
          some (0, o9.2)
        else
          f_X5_orderClause_j92 X o9.2 o5.1))
      else
        Option.bind (f_X5_wrong X o7.2) (fun o11 =>
        if 0 ≤ o11.1 ∧ o11.1 ≤ 1 then
        some (o11.1, o11.2)
        else none))
  else
    f_X5_orderClause_j92 X o6 o5.1))
noncomputable def f_X5_orderClause (X : MX) (N : NN) : Option (Int × NN) :=
  if (N 16 10) = 263 then
    f_X5_orderClause_j25 X N
  else
    if (N 16 10) = 265 then
      f_X5_orderClause_j25 X N
    else
      Option.bind (f_X5_wrong X N) (fun o1 =>
      if 0 ≤ o1.1 ∧ o1.1 ≤ 1 then
      some (o1.1, o1.2)
      else none)
noncomputable def f_X5_isDigit_j17 (X : MX) (N : NN) (z0 : Int) : Option Int :=
  if 0 ≤ z0 ∧ z0 ≤ 1 then
  some z0
  else none
noncomputable def f_X5_isDigit_j16 (X : MX) (N : NN) : Option Int :=
  f_X5_isDigit_j17 X N 0
noncomputable def f_X5_isDigit (X : MX) (N : NN) (a0 : Int) : Option Int :=
  if a0 < 48 then
    f_X5_isDigit_j16 X N
  else
    if 57 < a0 then
      f_X5_isDigit_j16 X N
    else
      f_X5_isDigit_j17 X N 1
noncomputable def f_X5_isLetter_j17 (X : MX) (N : NN) (z0 : Int) : Option Int :=
  if 0 ≤ z0 ∧ z0 ≤ 1 then
  some z0
  else none
noncomputable def f_X5_isLetter_j16 (X : MX) (N : NN) : Option Int :=
  f_X5_isLetter_j17 X N 0
noncomputable def f_X5_isLetter (X : MX) (N : NN) (a0 : Int) : Option Int :=
  if a0 < 97 then
    f_X5_isLetter_j16 X N
  else
    if 122 < a0 then
      f_X5_isLetter_j16 X N
    else
      f_X5_isLetter_j17 X N 1
noncomputable def b_X5_numberOf_5 (X : MX) (N : NN) (a2 : Int) (a3 : Int) (a4 : Int) : Option ((Int × Int × Int) ⊕ Int) :=
  if a4 < a2 then
    if 0 ≤ a4 ∧ a4 < 400 then
    some (.inl (a2, m_min (m_w ((m_w ((m_w (a3 * 10)) + (N 17 a4.toNat))) - 48)) 1001, m_w (a4 + 1)))
    else none
  else
    some (.inr a3)
noncomputable def f_X5_numberOf (X : MX) (N : NN) (a1 : Int) (a2 : Int) : Option Int :=
  Option.bind (lp (fun s => b_X5_numberOf_5 X N s.1 s.2.1 s.2.2) (a2, 0, a1)) (fun o3 =>
  some o3)
noncomputable def f_X5_wordOf_l10_j119 (X : MX) (N : NN) (a1 : Int) (a2 : Int) (a3 : Int) (a4 : Int) (a5 : Int) : Option ((Int × Int × Int × Int × Int) ⊕ (Unit ⊕ Int)) :=
  some (.inl (a1, a2, a3, a4, m_w (a5 + 1)))
noncomputable def f_X5_wordOf_l10_j98 (X : MX) (N : NN) (a1 : Int) (a2 : Int) (a3 : Int) (a5 : Int) (z0 : Int) : Option ((Int × Int × Int × Int × Int) ⊕ (Unit ⊕ Int)) :=
  f_X5_wordOf_l10_j119 X N a1 a2 a3 z0 a5
noncomputable def f_X5_wordOf_l10_j83 (X : MX) (N : NN) (a1 : Int) (a2 : Int) (a3 : Int) (a4 : Int) (a5 : Int) (z0 : Int) : Option ((Int × Int × Int × Int × Int) ⊕ (Unit ⊕ Int)) :=
  if z0 = 0 then
    f_X5_wordOf_l10_j98 X N a1 a2 a3 a5 (-1)
  else
    f_X5_wordOf_l10_j98 X N a1 a2 a3 a5 (m_w (a4 + 1))
noncomputable def f_X5_wordOf_l10_j82 (X : MX) (N : NN) (a1 : Int) (a2 : Int) (a3 : Int) (a4 : Int) (a5 : Int) : Option ((Int × Int × Int × Int × Int) ⊕ (Unit ⊕ Int)) :=
  f_X5_wordOf_l10_j83 X N a1 a2 a3 a4 a5 0
noncomputable def f_X5_wordOf_l10_j42 (X : MX) (N : NN) (a1 : Int) (a2 : Int) (a3 : Int) (a4 : Int) (a5 : Int) (z0 : Int) : Option ((Int × Int × Int × Int × Int) ⊕ (Unit ⊕ Int)) :=
  if z0 = 32 then
    if a4 = (m_w (a2 - a1)) then
      some (.inr (.inr a3))
    else
      f_X5_wordOf_l10_j119 X N a1 a2 (m_w (a3 + 1)) 0 a5
  else
    if a4 < 0 then
      f_X5_wordOf_l10_j82 X N a1 a2 a3 a4 a5
    else
      if (m_w (a1 + a4)) < a2 then
        if 0 ≤ (m_w (a1 + a4)) ∧ (m_w (a1 + a4)) < 400 then
        if (N 17 ((m_w (a1 + a4)).toNat)) = z0 then
          f_X5_wordOf_l10_j83 X N a1 a2 a3 a4 a5 1
        else
          f_X5_wordOf_l10_j82 X N a1 a2 a3 a4 a5
        else none
      else
        f_X5_wordOf_l10_j82 X N a1 a2 a3 a4 a5
noncomputable def b_X5_wordOf_10 (X : MX) (N : NN) (a1 : Int) (a2 : Int) (a3 : Int) (a4 : Int) (a5 : Int) : Option ((Int × Int × Int × Int × Int) ⊕ (Unit ⊕ Int)) :=
  if 127 < a5 then
    some (.inr (.inl ()))
  else
    if a5 < 127 then
      if 0 ≤ a5 ∧ a5 < 127 then
      f_X5_wordOf_l10_j42 X N a1 a2 a3 a4 a5 (m_chr a5.toNat)
      else none
    else
      f_X5_wordOf_l10_j42 X N a1 a2 a3 a4 a5 32
noncomputable def f_X5_wordOf (X : MX) (N : NN) (a1 : Int) (a2 : Int) : Option Int :=
  Option.bind (lp (fun s => b_X5_wordOf_10 X N s.1 s.2.1 s.2.2.1 s.2.2.2.1 s.2.2.2.2) (a1, a2, 256, 0, 0)) (fun o11 =>
    match o11 with
    | .inl e11 =>
        some (-3)
    | .inr e11 =>
        some e11)
noncomputable def b_X5_scan_82 (X : MX) (N : NN) (a1 : Int) (a2 : Int) (a3 : Int) (a4 : Int) : Option ((NN × Int × Int × Int × Int) ⊕ (NN × Int × Int × Int × Int)) :=
  if a4 < (N 16 5) then
    if 0 ≤ a4 ∧ a4 < 400 then
    Option.bind (f_X5_isDigit X N (N 17 a4.toNat)) (fun o7 =>
    if o7 = 0 then
      some (.inr (N, a1, a2, a3, a4))
    else
      some (.inl (N, a1, a2, a3, m_w (a4 + 1))))
    else none
  else
    some (.inr (N, a1, a2, a3, a4))
noncomputable def b_X5_scan_31 (X : MX) (N : NN) (a1 : Int) (a2 : Int) (a3 : Int) (a4 : Int) : Option ((NN × Int × Int × Int × Int) ⊕ (NN × Int × Int × Int × Int)) :=
  if a4 < (N 16 5) then
    if 0 ≤ a4 ∧ a4 < 400 then
    Option.bind (f_X5_isLetter X N (N 17 a4.toNat)) (fun o18 =>
    if o18 = 0 then
      some (.inr (N, a1, a2, a3, a4))
    else
      some (.inl (N, a1, a2, a3, m_w (a4 + 1))))
    else none
  else
    some (.inr (N, a1, a2, a3, a4))
noncomputable def f_X5_scan_l4_j157 (X : MX) (N : NN) (a1 : Int) (a4 : Int) : Option ((NN × Int × Int) ⊕ (NN × Int)) :=
  some (.inl (N, a1, a4))
noncomputable def f_X5_scan_l4_j141 (X : MX) (N : NN) (a1 : Int) (a2 : Int) (a3 : Int) (a4 : Int) : Option ((NN × Int × Int) ⊕ (NN × Int)) :=
  if 0 ≤ a1 ∧ a1 < 401 then
  let N28 : NN := m_up N 20 a1.toNat a2
  if a3 = 32 then
    f_X5_scan_l4_j157 X N28 a1 a4
  else
    f_X5_scan_l4_j157 X N28 (m_w (a1 + 1)) a4
  else none
noncomputable def b_X5_scan_4 (X : MX) (N : NN) (a1 : Int) (a2 : Int) : Option ((NN × Int × Int) ⊕ (NN × Int)) :=
  if a2 < (N 16 5) then
    if 0 ≤ a2 ∧ a2 < 400 then
    Option.bind (f_X5_isLetter X N (N 17 a2.toNat)) (fun o2 =>
    if o2 = 0 then
      Option.bind (f_X5_isDigit X N (N 17 a2.toNat)) (fun o3 =>
      if o3 = 0 then
        if 0 ≤ a1 ∧ a1 < 401 then
        let N5 : NN := m_up N 18 a1.toNat (N 17 a2.toNat)
        f_X5_scan_l4_j141 X N5 a1 a2 (N 17 a2.toNat) (m_w (a2 + 1))
        else none
      else
        Option.bind (lp (fun s => b_X5_scan_82 X s.1 s.2.1 s.2.2.1 s.2.2.2.1 s.2.2.2.2) (N, a1, a2, N 17 a2.toNat, m_w (a2 + 1))) (fun o10 =>
        if 0 ≤ o10.2.1 ∧ o10.2.1 < 401 then
        let N12 : NN := m_up o10.1 18 o10.2.1.toNat (-2)
        Option.bind (f_X5_numberOf X N12 o10.2.2.1 o10.2.2.2.2) (fun o13 =>
        if 0 ≤ o10.2.1 ∧ o10.2.1 < 401 then
        let N15 : NN := m_up N12 19 o10.2.1.toNat o13
        f_X5_scan_l4_j141 X N15 o10.2.1 o10.2.2.1 o10.2.2.2.1 o10.2.2.2.2
        else none)
        else none))
    else
      Option.bind (lp (fun s => b_X5_scan_31 X s.1 s.2.1 s.2.2.1 s.2.2.2.1 s.2.2.2.2) (N, a1, a2, N 17 a2.toNat, m_w (a2 + 1))) (fun o21 =>
      Option.bind (f_X5_wordOf X o21.1 o21.2.2.1 o21.2.2.2.2) (fun o22 =>
      if 0 ≤ o21.2.1 ∧ o21.2.1 < 401 then
      let N24 : NN := m_up o21.1 18 o21.2.1.toNat o22
      f_X5_scan_l4_j141 X N24 o21.2.1 o21.2.2.1 o21.2.2.2.1 o21.2.2.2.2
      else none)))
    else none
  else
    some (.inr (N, a1))
noncomputable def f_X5_scan (X : MX) (N : NN) : Option NN :=
  Option.bind (lp (fun s => b_X5_scan_4 X s.1 s.2.1 s.2.2) (N, 0, 0)) (fun o30 =>
  if 0 ≤ o30.2 ∧ o30.2 < 401 then
  let N32 : NN := m_up o30.1 18 o30.2.toNat (-1)
  if 0 ≤ o30.2 ∧ o30.2 < 401 then
  let N34 : NN := m_up N32 20 o30.2.toNat (N32 16 5)
  some N34
  else none
  else none)
noncomputable def f_X8_empty (X : MX) (r0 : Nat) (N : NN) : Option NN :=
  let N1 : NN := m_up N r0 3 0
  let N2 : NN := m_up N1 r0 4 0
  some N2
noncomputable def f_X5_reads_l62_j118 (X : MX) (N : NN) (a2 : Int) (a3 : Int) : Option ((NN × Int × Int) ⊕ (NN × Int)) :=
  some (.inl (N, a2, m_w (a3 + 1)))
noncomputable def f_X5_reads_l62_j117 (X : MX) (N : NN) (a3 : Int) (z0 : Int) : Option ((NN × Int × Int) ⊕ (NN × Int)) :=
  f_X5_reads_l62_j118 X N z0 a3
noncomputable def b_X5_reads_62 (X : MX) (N : NN) (a2 : Int) (a3 : Int) : Option ((NN × Int × Int) ⊕ (NN × Int)) :=
  if 12 < a3 then
    some (.inr (N, a2))
  else
    if a2 = 0 then
      some (.inr (N, a2))
    else
      if (N 16 10) = 59 then
        Option.bind (f_X5_advance X N) (fun o12 =>
        if a3 = 12 then
          Option.bind (f_X5_wrong X o12) (fun o13 =>
          f_X5_reads_l62_j118 X o13.2 o13.1 a3)
        else
          if (o12 16 7) = 0 then
            Option.bind (f_X5_orderClause X o12) (fun o14 =>
            f_X5_reads_l62_j117 X o14.2 a3 o14.1)
          else
            Option.bind (f_X5_lawClause X o12) (fun o15 =>
            f_X5_reads_l62_j117 X o15.2 a3 o15.1))
      else
        some (.inr (N, a2))
noncomputable def f_X5_reads_j148 (X : MX) (N : NN) (z0 : Int) : Option (Int × NN) :=
  if 0 ≤ z0 ∧ z0 ≤ 1 then
  some (z0, N)
  else none
noncomputable def f_X5_reads_j147 (X : MX) (N : NN) : Option (Int × NN) :=
  f_X5_reads_j148 X N 0
noncomputable def f_X5_reads_j143 (X : MX) (N : NN) : Option (Int × NN) :=
  f_X5_reads_j148 X N 1
noncomputable def f_X5_reads_j59 (X : MX) (N : NN) (z0 : Int) : Option (Int × NN) :=
  Option.bind (lp (fun s => b_X5_reads_62 X s.1 s.2.1 s.2.2) (N, z0, 1)) (fun o21 =>
  if o21.2 = 0 then
    f_X5_reads_j147 X o21.1
  else
    if (o21.1 16 10) = (-1) then
      f_X5_reads_j143 X o21.1
    else
      Option.bind (f_X5_wrong X o21.1) (fun o22 =>
      if o22.1 = 0 then
        f_X5_reads_j147 X o22.2
      else
        f_X5_reads_j143 X o22.2))
noncomputable def f_X5_reads (X : MX) (N : NN) (a1 : Int) : Option (Int × NN) :=
  if 0 ≤ a1 ∧ a1 ≤ 1 then
  let N2 : NN := m_up N 16 7 a1
  let N3 : NN := m_up N2 16 8 0
  let N4 : NN := m_up N3 16 6 (-1)
  Option.bind (f_X8_empty X 21 N4) (fun o5 =>
  Option.bind (f_X5_scan X o5) (fun o6 =>
  let N7 : NN := m_up o6 16 9 0
  let N8 : NN := m_up N7 16 10 (N7 18 0)
  if (N8 16 7) = 0 then
    Option.bind (f_X5_orderClause X N8) (fun o9 =>
    f_X5_reads_j59 X o9.2 o9.1)
  else
    Option.bind (f_X5_lawClause X N8) (fun o10 =>
    f_X5_reads_j59 X o10.2 o10.1)))
  else none
noncomputable def f_X5_text (X : MX) (N : NN) : Option Nat :=
  some 21
noncomputable def f_X11_orders_j76 (X : MX) (N : NN) (z0 : Int) : Option (Int × NN) :=
  some (z0, N)
noncomputable def f_X11_orders (X : MX) (N : NN) : Option (Int × NN) :=
  Option.bind (f_X5_reads X N 0) (fun o1 =>
  Option.bind (f_X5_cut X o1.2 0) (fun o2 =>
  if o1.1 = 0 then
    Option.bind (f_X3_forget X o2) (fun o3 =>
    Option.bind (f_X11_refuse X o3 (-6)) (fun o4 =>
    some (o4.1, o4.2)))
  else
    Option.bind (f_X5_text X o2) (fun o5 =>
    Option.bind (f_X3_run X 21 4 13 o2) (fun o6 =>
    if o6.1 < 0 then
      Option.bind (f_X11_refuse X o6.2 (-3)) (fun o7 =>
      f_X11_orders_j76 X o7.2 o7.1)
    else
      Option.bind (f_X11_accept X o6.2 o6.1) (fun o8 =>
      f_X11_orders_j76 X o8.2 o8.1)))))
noncomputable def f_X11_owed (X : MX) (N : NN) (a1 : Int) (a2 : Int) : Option Int :=
  Option.bind (f_X10_isLord X N 4 a1) (fun o1 =>
  if o1 = 0 then
    some (-1)
  else
    if a2 = 0 then
      Option.bind (f_X10_standingAgainst X N 4 a1) (fun o2 =>
      some o2)
    else
      if a2 = 1 then
        Option.bind (f_X10_greatestCreditor X N 4 a1) (fun o4 =>
        some o4)
      else
        some (-1))
noncomputable def f_X11_put_j29 (X : MX) (N : NN) : Option (Int × NN) :=
  Option.bind (f_X11_refuse X N (-1)) (fun o4 =>
  some (o4.1, o4.2))
noncomputable def f_X11_put_j23 (X : MX) (N : NN) (a1 : Int) (a2 : Int) (a3 : Int) (z0 : Int) (z1 : Int) (z2 : Int) : Option (Int × NN) :=
  Option.bind (f_X11_within X N z0 z1 z2) (fun o5 =>
  if o5 = 0 then
    f_X11_put_j29 X N
  else
    Option.bind (f_X10_isLord X N 4 a1) (fun o6 =>
    if o6 = 0 then
      Option.bind (f_X11_refuse X N (-2)) (fun o7 =>
      some (o7.1, o7.2))
    else
      Option.bind (f_X10_lordAt X N 4 a1 a2) (fun o8 =>
      Option.bind (f_X10_setLord X 4 N a1 a2 a3) (fun o9 =>
      Option.bind (f_X4_clear X 13 o9) (fun o10 =>
      Option.bind (f_X11_accept X o10 o8) (fun o11 =>
      some (o11.1, o11.2)))))))
noncomputable def f_X11_put (X : MX) (N : NN) (a1 : Int) (a2 : Int) (a3 : Int) : Option (Int × NN) :=
  Option.bind (f_X11_within X N a2 0 1) (fun o1 =>
  if o1 = 0 then
    f_X11_put_j29 X N
  else
    if a2 = 0 then
      f_X11_put_j23 X N a1 a2 a3 a3 0 9999
    else
      f_X11_put_j23 X N a1 a2 a3 a3 0 99)
noncomputable def f_X9_closes_l37_j109 (fr : NN → Nat → Int → Int → Int → Option (Int × NN)) (X : MX) (r1 : Nat) (N : NN) (a2 : Int) (a3 : Int) (a4 : Int) (a5 : Int) (a6 : Int) : Option ((NN × Int × Int × Int × Int × Int) ⊕ (NN ⊕ NN)) :=
  some (.inl (N, a2, a3, a4, a5, m_w (a6 + 1)))
noncomputable def b_X9_closes_37 (fr : NN → Nat → Int → Int → Int → Option (Int × NN)) (X : MX) (r1 : Nat) (N : NN) (a2 : Int) (a3 : Int) (a4 : Int) (a5 : Int) (a6 : Int) : Option ((NN × Int × Int × Int × Int × Int) ⊕ (NN ⊕ NN)) :=
  if a6 < (N 53 4) then
    if (m_w (a2 + 1)) < a4 then
      if (m_and (m_shr a3 a6) 1) = 1 then
        Option.bind (f_X10_worthOwed X N r1 a5 a6) (fun o4 =>
        if o4 = (-1) then
          f_X9_closes_l37_j109 fr X r1 N a2 a3 a4 a5 a6
        else
          if 0 ≤ (m_w (a2 + 1)) ∧ (m_w (a2 + 1)) < 6 then
          let N6 : NN := m_up N 56 ((m_w (a2 + 1)).toNat) a6
          Option.bind (fr N6 r1 (m_w (a2 + 1)) (m_and a3 (m_xor (m_shl 1 a6) (-1))) a4) (fun o7 =>
          if o7.1 = 0 then
            f_X9_closes_l37_j109 fr X r1 o7.2 a2 a3 a4 a5 a6
          else
            some (.inr (.inr o7.2)))
          else none)
      else
        f_X9_closes_l37_j109 fr X r1 N a2 a3 a4 a5 a6
    else
      some (.inr (.inl N))
  else
    some (.inr (.inl N))
noncomputable def f_X9_closes_j33 (fr : NN → Nat → Int → Int → Int → Option (Int × NN)) (X : MX) (r1 : Nat) (N : NN) (z0 : Int) : Option (Int × NN) :=
  if 0 ≤ z0 ∧ z0 ≤ 1 then
  some (z0, N)
  else none
noncomputable def f_X9_closes_step (fr : NN → Nat → Int → Int → Int → Option (Int × NN)) (X : MX) (r1 : Nat) (N : NN) (a2 : Int) (a3 : Int) (a4 : Int) : Option (Int × NN) :=
  if 0 ≤ a2 ∧ a2 < 6 then
  if a3 = 0 then
    Option.bind (f_X10_worthOwed X N r1 (N 56 a2.toNat) (N 56 0)) (fun o2 =>
    if o2 = (-1) then
      f_X9_closes_j33 fr X r1 N 0
    else
      f_X9_closes_j33 fr X r1 N 1)
  else
    Option.bind (lp (fun s => b_X9_closes_37 fr X r1 s.1 s.2.1 s.2.2.1 s.2.2.2.1 s.2.2.2.2.1 s.2.2.2.2.2) (N, a2, a3, a4, N 56 a2.toNat, 0)) (fun o13 =>
      match o13 with
      | .inl e13 =>
          some (0, e13)
      | .inr e13 =>
          some (1, e13))
  else none
noncomputable def f_X9_closes (X : MX) : Nat → NN → Nat → Int → Int → Int → Option (Int × NN)
  | 0 => fun _ _ _ _ _ => none
  | n + 1 => fun N x1 x2 x3 x4 => f_X9_closes_step (f_X9_closes X n) X x1 N x2 x3 x4
noncomputable def f_X9_ofRing_l40_j113 (X : MX) (r1 : Nat) (N : NN) (a2 : Int) (a3 : Int) (a4 : Int) : Option ((NN × Int × Int × Int) ⊕ ((NN × Int × Int) ⊕ (NN × Int × Int))) :=
  some (.inl (N, a2, a3, m_w (a4 + 1)))
noncomputable def b_X9_ofRing_40 (X : MX) (r1 : Nat) (N : NN) (a2 : Int) (a3 : Int) (a4 : Int) : Option ((NN × Int × Int × Int) ⊕ ((NN × Int × Int) ⊕ (NN × Int × Int))) :=
  if a4 < (m_shl 1 (N 53 4)) then
    Option.bind (f_J6_bitCount_0f7a4 X N a4) (fun o3 =>
    if o3 = a3 then
      Option.bind (f_J6_numberOfTrailingZeros_0f7a4 X N a4) (fun o4 =>
      let N5 : NN := m_up N 56 0 o4
      Option.bind (f_X9_closes X 8 N5 r1 0 (m_and a4 (m_w (a4 - 1))) a3) (fun o6 =>
      if o6.1 = 0 then
        f_X9_ofRing_l40_j113 X r1 o6.2 a2 a3 a4
      else
        some (.inr (.inr (o6.2, a2, a3)))))
    else
      f_X9_ofRing_l40_j113 X r1 N a2 a3 a4)
  else
    some (.inr (.inl (N, a2, a3)))
noncomputable def b_X9_ofRing_29 (X : MX) (r1 : Nat) (N : NN) (a2 : Int) (a3 : Int) : Option ((NN × Int × Int) ⊕ (NN ⊕ (NN × Int × Int))) :=
  if (N 53 4) < a3 then
    some (.inr (.inl N))
  else
    Option.bind (lp (fun s => b_X9_ofRing_40 X r1 s.1 s.2.1 s.2.2.1 s.2.2.2) (N, a2, a3, 0)) (fun o10 =>
      match o10 with
      | .inl e10 =>
          some (.inl (e10.1, e10.2.1, m_w (e10.2.2 + 1)))
      | .inr e10 =>
          some (.inr (.inr (e10.1, e10.2.1, e10.2.2))))
noncomputable def f_X9_ofRing_j11 (X : MX) (r1 : Nat) (N : NN) : Option (Int × NN) :=
  some ((-1), N)
noncomputable def f_X9_ofRing_j112 (X : MX) (r1 : Nat) (N : NN) (z0 : Int) : Option (Int × NN) :=
  some (z0, N)
noncomputable def f_X9_ofRing (X : MX) (r1 : Nat) (N : NN) (a2 : Int) : Option (Int × NN) :=
  if a2 < (-1) then
    f_X9_ofRing_j11 X r1 N
  else
    if a2 < 6 then
      Option.bind (f_X10_many X N r1 0) (fun o1 =>
      let N2 : NN := m_up N 53 4 (m_min o1 6)
      Option.bind (lp (fun s => b_X9_ofRing_29 X r1 s.1 s.2.1 s.2.2) (N2, a2, 2)) (fun o12 =>
        match o12 with
        | .inl e12 =>
            some ((-1), e12)
        | .inr e12 =>
            if e12.2.1 = (-1) then
              f_X9_ofRing_j112 X r1 e12.1 e12.2.2
            else
              if e12.2.1 < e12.2.2 then
                if 0 ≤ e12.2.1 ∧ e12.2.1 < 6 then
                f_X9_ofRing_j112 X r1 e12.1 (e12.1 56 e12.2.1.toNat)
                else none
              else
                f_X9_ofRing_j112 X r1 e12.1 (-1)))
    else
      f_X9_ofRing_j11 X r1 N
noncomputable def f_X11_ring (X : MX) (N : NN) (a1 : Int) : Option (Int × NN) :=
  Option.bind (f_X9_ofRing X 4 N a1) (fun o1 =>
  some (o1.1, o1.2))
noncomputable def f_X11_road_j26 (X : MX) (N : NN) : Option (Int × NN) :=
  Option.bind (f_X11_refuse X N (-1)) (fun o15 =>
  some (o15.1, o15.2))
noncomputable def f_X11_road_j54 (X : MX) (N : NN) : Option (Int × NN) :=
  Option.bind (f_X11_refuse X N (-2)) (fun o16 =>
  some (o16.1, o16.2))
noncomputable def f_X11_road (X : MX) (N : NN) (a1 : Int) (a2 : Int) (a3 : Int) (a4 : Int) : Option (Int × NN) :=
  if a1 = a2 then
    f_X11_road_j26 X N
  else
    Option.bind (f_X11_within X N a3 1 30) (fun o1 =>
    if o1 = 0 then
      f_X11_road_j26 X N
    else
      Option.bind (f_X11_within X N a4 0 10) (fun o2 =>
      if o2 = 0 then
        f_X11_road_j26 X N
      else
        Option.bind (f_X10_isLord X N 4 a1) (fun o3 =>
        if o3 = 0 then
          f_X11_road_j54 X N
        else
          Option.bind (f_X10_isLord X N 4 a2) (fun o4 =>
          if o4 = 0 then
            f_X11_road_j54 X N
          else
            Option.bind (f_X10_many X N 4 3) (fun o5 =>
            if o5 < 12 then
              Option.bind (f_X10_addRoad X 4 N a1 a2 a3 a4) (fun o6 =>
              Option.bind (f_X11_accept X o6.2 o6.1) (fun o7 =>
              some (o7.1, o7.2)))
            else
              Option.bind (f_X11_refuse X N (-5)) (fun o8 =>
              some (o8.1, o8.2)))))))
noncomputable def f_X5_byteAt_j22 (X : MX) (N : NN) (z0 : Int) : Option Int :=
  some z0
noncomputable def f_X5_byteAt_j21 (X : MX) (N : NN) : Option Int :=
  f_X5_byteAt_j22 X N 0
noncomputable def f_X5_byteAt (X : MX) (N : NN) (a1 : Int) : Option Int :=
  if a1 < 0 then
    f_X5_byteAt_j21 X N
  else
    if a1 < (N 16 5) then
      if 0 ≤ a1 ∧ a1 < 400 then
      f_X5_byteAt_j22 X N (N 17 a1.toNat)
      else none
    else
      f_X5_byteAt_j21 X N
noncomputable def f_X11_row_l35_j98 (X : MX) (N : NN) (a1 : Int) (a2 : Int) (a3 : Int) : Option ((NN × Int × Int × Int) ⊕ (NN × Int)) :=
  some (.inl (N, a1, a2, m_w (a3 + 3)))
noncomputable def f_X11_row_l35_j88 (X : MX) (N : NN) (a1 : Int) (a2 : Int) (a3 : Int) : Option ((NN × Int × Int × Int) ⊕ (NN × Int)) :=
  let N12 : NN := m_up N 3 14 (m_w ((N 3 14) + 1))
  f_X11_row_l35_j98 X N12 a1 a2 a3
noncomputable def b_X11_row_35 (X : MX) (N : NN) (a1 : Int) (a2 : Int) (a3 : Int) : Option ((NN × Int × Int × Int) ⊕ (NN × Int)) :=
  if a3 < a1 then
    if a1 < (m_w (a3 + 3)) then
      f_X11_row_l35_j88 X N a1 a2 a3
    else
      Option.bind (f_X5_byteAt X N a3) (fun o5 =>
      Option.bind (f_X5_byteAt X N (m_w (a3 + 1))) (fun o6 =>
      Option.bind (f_X5_byteAt X N (m_w (a3 + 2))) (fun o7 =>
      Option.bind (f_X11_comes X N o5 o6 o7) (fun o8 =>
      if o8.1 = 0 then
        f_X11_row_l35_j88 X o8.2 a1 a2 a3
      else
        f_X11_row_l35_j98 X o8.2 a1 (m_w (a2 + 1)) a3))))
  else
    some (.inr (N, a2))
noncomputable def f_X11_row (X : MX) (N : NN) : Option (Int × NN) :=
  Option.bind (f_X5_length X N) (fun o1 =>
  if o1 = 0 then
    Option.bind (f_X11_refuse X N (-6)) (fun o2 =>
    some (o2.1, o2.2))
  else
    Option.bind (f_X4_clear X 13 N) (fun o3 =>
    let N4 : NN := m_up o3 3 14 0
    Option.bind (lp (fun s => b_X11_row_35 X s.1 s.2.1 s.2.2.1 s.2.2.2) (N4, o1, 0, 0)) (fun o13 =>
    Option.bind (f_X5_cut X o13.1 0) (fun o14 =>
    Option.bind (f_X11_accept X o14 o13.2) (fun o15 =>
    some (o15.1, o15.2))))))
noncomputable def b_X7_fallOf_31 (X : MX) (r1 : Nat) (N : NN) (a2 : Int) (a3 : Int) (a4 : Int) (a5 : Int) (a6 : Int) : Option ((NN × Int × Int × Int × Int × Int) ⊕ (NN ⊕ (NN × Int))) :=
  if (m_w (a5 + a3)) < a6 then
    some (.inr (.inl N))
  else
    Option.bind (f_X10_lordAt X N r1 a2 1) (fun o4 =>
    Option.bind (f_X2_upkeep X r1 N a2 a6) (fun o5 =>
    if (m_w ((m_min 9999 (m_w (a4 + o4))) - o5.1)) < 0 then
      some (.inr (.inr (o5.2, a6)))
    else
      some (.inl (o5.2, a2, a3, m_w ((m_min 9999 (m_w (a4 + o4))) - o5.1), a5, m_w (a6 + 1)))))
noncomputable def f_X7_fallOf (X : MX) (r1 : Nat) (N : NN) (a2 : Int) (a3 : Int) : Option (Int × NN) :=
  Option.bind (f_X10_isRuined X N r1 a2) (fun o1 =>
  if o1 = 0 then
    Option.bind (f_X10_lordAt X N r1 a2 0) (fun o2 =>
    Option.bind (f_X10_term X N r1 0) (fun o3 =>
    Option.bind (lp (fun s => b_X7_fallOf_31 X r1 s.1 s.2.1 s.2.2.1 s.2.2.2.1 s.2.2.2.2.1 s.2.2.2.2.2) (N, a2, a3, o2, o3, m_w (o3 + 1))) (fun o8 =>
      match o8 with
      | .inl e8 =>
          some ((-1), e8)
      | .inr e8 =>
          some (e8.2, e8.1))))
  else
    some ((-1), N))
noncomputable def f_X11_ruin_j21 (X : MX) (N : NN) : Option (Int × NN) :=
  some ((-1), N)
noncomputable def f_X11_ruin (X : MX) (N : NN) (a1 : Int) (a2 : Int) : Option (Int × NN) :=
  Option.bind (f_X10_isLord X N 4 a1) (fun o1 =>
  if o1 = 0 then
    f_X11_ruin_j21 X N
  else
    Option.bind (f_X11_within X N a2 1 99) (fun o2 =>
    if o2 = 0 then
      f_X11_ruin_j21 X N
    else
      Option.bind (f_X7_fallOf X 4 N a1 a2) (fun o3 =>
      some (o3.1, o3.2))))
noncomputable def f_X11_shelf_j38 (X : MX) (N : NN) : Option (Int × NN) :=
  Option.bind (f_X11_refuse X N (-2)) (fun o8 =>
  some (o8.1, o8.2))
noncomputable def f_X11_shelf_j45 (X : MX) (N : NN) (a1 : Int) (a2 : Int) : Option (Int × NN) :=
  Option.bind (f_X10_toldHolder X N 4 a1) (fun o9 =>
  Option.bind (f_X10_tellHolder X 4 N a1 a2) (fun o10 =>
  Option.bind (f_X11_accept X o10 o9) (fun o11 =>
  some (o11.1, o11.2))))
noncomputable def f_X11_shelf (X : MX) (N : NN) (a1 : Int) (a2 : Int) : Option (Int × NN) :=
  if a2 < (-1) then
    Option.bind (f_X11_refuse X N (-1)) (fun o1 =>
    some (o1.1, o1.2))
  else
    Option.bind (f_X10_isGood X N 4 a1) (fun o2 =>
    if o2 = 0 then
      f_X11_shelf_j38 X N
    else
      if a2 = (-1) then
        f_X11_shelf_j45 X N a1 a2
      else
        Option.bind (f_X10_isLord X N 4 a2) (fun o3 =>
        if o3 = 0 then
          f_X11_shelf_j38 X N
        else
          f_X11_shelf_j45 X N a1 a2))
noncomputable def b_X7_bitsOf_4 (X : MX) (N : NN) (a1 : Int) (a2 : Int) (a3 : Int) : Option ((Int × Int × Int) ⊕ Int) :=
  if a3 < (N 48 5) then
    if 0 ≤ a3 ∧ a3 < 10 then
    some (.inl (a1, m_or a2 (m_shl (m_and (m_shr a1 a3) 1) (N 49 a3.toNat)), m_w (a3 + 1)))
    else none
  else
    some (.inr a2)
noncomputable def f_X7_bitsOf (X : MX) (N : NN) (a1 : Int) : Option Int :=
  Option.bind (lp (fun s => b_X7_bitsOf_4 X N s.1 s.2.1 s.2.2) (a1, 0, 0)) (fun o3 =>
  some o3)
noncomputable def b_X7_falls_38 (X : MX) (N : NN) (a1 : Int) (a2 : Int) (a3 : Int) (a4 : Int) (a5 : Int) : Option ((Int × Int × Int × Int × Int) ⊕ (Int × Int × Int × Int)) :=
  if a5 < (N 48 5) then
    if 0 ≤ (m_w ((m_w (a5 * 9)) + a4)) ∧ (m_w ((m_w (a5 * 9)) + a4)) < 90 then
    some (.inl (a1, a2, m_w (a3 - (m_w ((m_and (m_shr a1 a5) 1) * (N 51 ((m_w ((m_w (a5 * 9)) + a4)).toNat))))), a4, m_w (a5 + 1)))
    else none
  else
    some (.inr (a1, a2, a3, a4))
noncomputable def b_X7_falls_8 (X : MX) (N : NN) (a1 : Int) (a2 : Int) (a3 : Int) (a4 : Int) : Option ((Int × Int × Int × Int) ⊕ (Unit ⊕ Unit)) :=
  if a4 < a2 then
    if 0 ≤ a4 ∧ a4 < 9 then
    Option.bind (lp (fun s => b_X7_falls_38 X N s.1 s.2.1 s.2.2.1 s.2.2.2.1 s.2.2.2.2) (a1, a2, m_w ((m_min 9999 (m_w (a3 + (N 48 7)))) - (N 52 a4.toNat)), a4, 0)) (fun o4 =>
    if o4.2.2.1 < 0 then
      some (.inr (.inr ()))
    else
      some (.inl (o4.1, o4.2.1, o4.2.2.1, m_w (o4.2.2.2 + 1))))
    else none
  else
    some (.inr (.inl ()))
noncomputable def f_X7_falls (X : MX) (N : NN) (a1 : Int) (a2 : Int) : Option Int :=
  Option.bind (lp (fun s => b_X7_falls_8 X N s.1 s.2.1 s.2.2.1 s.2.2.2) (a1, a2, N 48 6, 0)) (fun o7 =>
    match o7 with
    | .inl e7 =>
        some 0
    | .inr e7 =>
        some 1)
noncomputable def b_X7_worthOf_4 (X : MX) (N : NN) (a1 : Int) (a2 : Int) (a3 : Int) : Option ((Int × Int × Int) ⊕ Int) :=
  if a3 < (N 48 5) then
    if 0 ≤ a3 ∧ a3 < 10 then
    some (.inl (a1, m_w (a2 + (m_w ((m_and (m_shr a1 a3) 1) * (N 50 a3.toNat)))), m_w (a3 + 1)))
    else none
  else
    some (.inr a2)
noncomputable def f_X7_worthOf (X : MX) (N : NN) (a1 : Int) : Option Int :=
  Option.bind (lp (fun s => b_X7_worthOf_4 X N s.1 s.2.1 s.2.2) (a1, 0, 0)) (fun o3 =>
  some o3)
noncomputable def f_X7_cheapest_l38_j101 (X : MX) (N : NN) (a1 : Int) (a2 : Int) (a3 : Int) (a4 : Int) (a5 : Int) (a6 : Int) : Option ((Int × Int × Int × Int × Int × Int) ⊕ Int) :=
  some (.inl (a1, a2, a3, a4, a5, m_w (a6 + 1)))
noncomputable def f_X7_cheapest_l38_j80 (X : MX) (N : NN) (a1 : Int) (a2 : Int) (a3 : Int) (a4 : Int) (a5 : Int) (a6 : Int) (a7 : Int) (a8 : Int) : Option ((Int × Int × Int × Int × Int × Int) ⊕ Int) :=
  Option.bind (f_X7_falls X N a6 a1) (fun o9 =>
  if o9 = 0 then
    f_X7_cheapest_l38_j101 X N a1 a2 a3 a4 a5 a6
  else
    f_X7_cheapest_l38_j101 X N a1 a2 a6 a7 a8 a6)
noncomputable def b_X7_cheapest_38 (X : MX) (N : NN) (a1 : Int) (a2 : Int) (a3 : Int) (a4 : Int) (a5 : Int) (a6 : Int) : Option ((Int × Int × Int × Int × Int × Int) ⊕ Int) :=
  if a6 < a2 then
    Option.bind (f_J6_bitCount_0f7a4 X N a6) (fun o3 =>
    if a4 < o3 then
      f_X7_cheapest_l38_j101 X N a1 a2 a3 a4 a5 a6
    else
      Option.bind (f_X7_worthOf X N a6) (fun o4 =>
      if o3 < a4 then
        f_X7_cheapest_l38_j80 X N a1 a2 a3 a4 a5 a6 o3 o4
      else
        if o4 < a5 then
          f_X7_cheapest_l38_j80 X N a1 a2 a3 a4 a5 a6 o3 o4
        else
          f_X7_cheapest_l38_j101 X N a1 a2 a3 a4 a5 a6))
  else
    some (.inr a3)
noncomputable def f_X7_cheapest (X : MX) (N : NN) (a1 : Int) : Option Int :=
  Option.bind (f_X7_falls X N (m_w ((m_shl 1 (N 48 5)) - 1)) a1) (fun o1 =>
  if o1 = 0 then
    some (-1)
  else
    Option.bind (f_X7_worthOf X N (m_w ((m_shl 1 (N 48 5)) - 1))) (fun o2 =>
    Option.bind (lp (fun s => b_X7_cheapest_38 X N s.1 s.2.1 s.2.2.1 s.2.2.2.1 s.2.2.2.2.1 s.2.2.2.2.2) (a1, m_w ((m_shl 1 (N 48 5)) - 1), m_w ((m_shl 1 (N 48 5)) - 1), N 48 5, o2, 0)) (fun o11 =>
    some o11)))
noncomputable def b_X7_gather_30 (X : MX) (r1 : Nat) (N : NN) (a2 : Int) (a3 : Int) (a4 : Int) (a5 : Int) (a6 : Int) : Option ((NN × Int × Int × Int × Int × Int) ⊕ (NN × Int × Int × Int × Int)) :=
  if a6 < a4 then
    Option.bind (f_X2_upkeep X r1 N a3 (m_w ((m_w (a5 + 1)) + a6))) (fun o6 =>
    if 0 ≤ a6 ∧ a6 < 9 then
    let N8 : NN := m_up o6.2 52 a6.toNat o6.1
    some (.inl (N8, a2, a3, a4, a5, m_w (a6 + 1)))
    else none)
  else
    some (.inr (N, a2, a3, a4, a5))
noncomputable def b_X7_gather_157 (X : MX) (r1 : Nat) (N : NN) (a2 : Int) (a3 : Int) (a4 : Int) (a5 : Int) (a6 : Int) (a7 : Int) (a8 : Int) : Option ((NN × Int × Int × Int × Int × Int × Int × Int) ⊕ (NN × Int × Int × Int × Int × Int × Int)) :=
  if a8 < a4 then
    Option.bind (f_X2_costs X r1 N a7 a3 (m_w ((m_w (a5 + 1)) + a8))) (fun o20 =>
    if 0 ≤ (m_w ((m_w ((N 48 5) * 9)) + a8)) ∧ (m_w ((m_w ((N 48 5) * 9)) + a8)) < 90 then
    let N22 : NN := m_up o20.2 51 ((m_w ((m_w ((N 48 5) * 9)) + a8)).toNat) o20.1
    some (.inl (N22, a2, a3, a4, a5, a6, a7, m_w (a8 + 1)))
    else none)
  else
    some (.inr (N, a2, a3, a4, a5, a6, a7))
noncomputable def f_X7_gather_l77_j213 (X : MX) (r1 : Nat) (N : NN) (a2 : Int) (a3 : Int) (a4 : Int) (a5 : Int) (a6 : Int) (a7 : Int) : Option ((NN × Int × Int × Int × Int × Int × Int) ⊕ NN) :=
  some (.inl (N, a2, a3, a4, a5, a6, m_w (a7 + 1)))
noncomputable def b_X7_gather_77 (X : MX) (r1 : Nat) (N : NN) (a2 : Int) (a3 : Int) (a4 : Int) (a5 : Int) (a6 : Int) (a7 : Int) : Option ((NN × Int × Int × Int × Int × Int × Int) ⊕ NN) :=
  Option.bind (f_X10_many X N r1 1) (fun o12 =>
  if a7 < o12 then
    if a6 < 10 then
      Option.bind (f_X10_isOwnedAndHeld X N r1 a7 a2) (fun o13 =>
      if o13 = 0 then
        f_X7_gather_l77_j213 X r1 N a2 a3 a4 a5 a6 a7
      else
        Option.bind (f_X2_bars X r1 N a7 a2 a3) (fun o14 =>
        if o14.1 = 0 then
          if 0 ≤ (o14.2 48 5) ∧ (o14.2 48 5) < 10 then
          let N16 : NN := m_up o14.2 49 ((o14.2 48 5).toNat) a7
          Option.bind (f_X2_worth X r1 N16 a7 a2 a3) (fun o17 =>
          if 0 ≤ (N16 48 5) ∧ (N16 48 5) < 10 then
          let N19 : NN := m_up o17.2 50 ((N16 48 5).toNat) o17.1
          Option.bind (lp (fun s => b_X7_gather_157 X r1 s.1 s.2.1 s.2.2.1 s.2.2.2.1 s.2.2.2.2.1 s.2.2.2.2.2.1 s.2.2.2.2.2.2.1 s.2.2.2.2.2.2.2) (N19, a2, a3, a4, a5, m_w (a6 + 1), a7, 0)) (fun o24 =>
          let N25 : NN := m_up o24.1 48 5 (m_w ((o24.1 48 5) + 1))
          f_X7_gather_l77_j213 X r1 N25 o24.2.1 o24.2.2.1 o24.2.2.2.1 o24.2.2.2.2.1 o24.2.2.2.2.2.1 o24.2.2.2.2.2.2)
          else none)
          else none
        else
          f_X7_gather_l77_j213 X r1 o14.2 a2 a3 a4 a5 (m_w (a6 + 1)) a7))
    else
      some (.inr N)
  else
    some (.inr N))
noncomputable def f_X7_gather (X : MX) (r1 : Nat) (N : NN) (a2 : Int) (a3 : Int) (a4 : Int) : Option NN :=
  Option.bind (f_X10_term X N r1 0) (fun o1 =>
  Option.bind (f_X10_lordAt X N r1 a3 0) (fun o2 =>
  let N3 : NN := m_up N 48 6 o2
  Option.bind (f_X10_lordAt X N3 r1 a3 1) (fun o4 =>
  let N5 : NN := m_up N3 48 7 o4
  Option.bind (lp (fun s => b_X7_gather_30 X r1 s.1 s.2.1 s.2.2.1 s.2.2.2.1 s.2.2.2.2.1 s.2.2.2.2.2) (N5, a2, a3, a4, o1, 0)) (fun o10 =>
  let N11 : NN := m_up o10.1 48 5 0
  Option.bind (lp (fun s => b_X7_gather_77 X r1 s.1 s.2.1 s.2.2.1 s.2.2.2.1 s.2.2.2.2.1 s.2.2.2.2.2.1 s.2.2.2.2.2.2) (N11, o10.2.1, o10.2.2.1, o10.2.2.2.1, o10.2.2.2.2, 0, 0)) (fun o30 =>
  some o30)))))
noncomputable def f_X7_answer_j27 (X : MX) (r1 : Nat) (N : NN) : Option (Int × NN) :=
  some ((-1), N)
noncomputable def f_X7_answer_j88 (X : MX) (r1 : Nat) (N : NN) (z0 : Int) : Option (Int × NN) :=
  some (z0, N)
noncomputable def f_X7_answer (X : MX) (r1 : Nat) (N : NN) (a2 : Int) (a3 : Int) (a4 : Int) (a5 : Int) : Option (Int × NN) :=
  Option.bind (f_X10_isRuined X N r1 a2) (fun o1 =>
  if o1 = 0 then
    Option.bind (f_X10_isRuined X N r1 a3) (fun o2 =>
    if o2 = 0 then
      if a5 < 0 then
        f_X7_answer_j27 X r1 N
      else
        if 2 < a5 then
          f_X7_answer_j27 X r1 N
        else
          Option.bind (f_X7_gather X r1 N a2 a3 a4) (fun o3 =>
          Option.bind (f_X7_cheapest X o3 a4) (fun o4 =>
          if o4 = (-1) then
            some ((-1), o3)
          else
            if a5 = 0 then
              Option.bind (f_J6_bitCount_0f7a4 X o3 o4) (fun o5 =>
              f_X7_answer_j88 X r1 o3 o5)
            else
              if a5 = 1 then
                Option.bind (f_X7_worthOf X o3 o4) (fun o6 =>
                f_X7_answer_j88 X r1 o3 o6)
              else
                Option.bind (f_X7_bitsOf X o3 o4) (fun o7 =>
                f_X7_answer_j88 X r1 o3 o7)))
    else
      f_X7_answer_j27 X r1 N)
  else
    f_X7_answer_j27 X r1 N)
noncomputable def f_X11_siege_j37 (X : MX) (N : NN) : Option (Int × NN) :=
  some ((-1), N)
noncomputable def f_X11_siege (X : MX) (N : NN) (a1 : Int) (a2 : Int) (a3 : Int) (a4 : Int) : Option (Int × NN) :=
  Option.bind (f_X10_isLord X N 4 a1) (fun o1 =>
  if o1 = 0 then
    f_X11_siege_j37 X N
  else
    Option.bind (f_X10_isLord X N 4 a2) (fun o2 =>
    if o2 = 0 then
      f_X11_siege_j37 X N
    else
      if a1 = a2 then
        f_X11_siege_j37 X N
      else
        Option.bind (f_X11_within X N a3 1 9) (fun o3 =>
        if o3 = 0 then
          f_X11_siege_j37 X N
        else
          Option.bind (f_X7_answer X 4 N a1 a2 a3 a4) (fun o4 =>
          some (o4.1, o4.2)))))
noncomputable def f_X11_status (X : MX) (N : NN) : Option Int :=
  some (N 3 13)
noncomputable def f_X3_stoppedAt (X : MX) (N : NN) : Option Int :=
  some (N 33 5)
noncomputable def f_X11_stopped (X : MX) (N : NN) : Option Int :=
  Option.bind (f_X3_stoppedAt X N) (fun o1 =>
  some o1)
noncomputable def f_X11_tells_j35 (X : MX) (N : NN) : Option (Int × NN) :=
  some ((-1), N)
noncomputable def f_X11_tells_j70 (X : MX) (N : NN) (z0 : Int) : Option (Int × NN) :=
  some (z0, N)
noncomputable def f_X11_tells (X : MX) (N : NN) (a1 : Int) (a2 : Int) : Option (Int × NN) :=
  Option.bind (f_X10_many X N 4 2) (fun o1 =>
  if o1 = 0 then
    f_X11_tells_j35 X N
  else
    Option.bind (f_X10_isGood X N 4 a2) (fun o2 =>
    if o2 = 0 then
      f_X11_tells_j35 X N
    else
      Option.bind (f_X11_within X N a1 (-1) (m_w (o1 - 1))) (fun o3 =>
      if o3 = 0 then
        f_X11_tells_j35 X N
      else
        if a1 = (-1) then
          Option.bind (f_X2_middle X 4 N a2) (fun o4 =>
          f_X11_tells_j70 X o4.2 o4.1)
        else
          Option.bind (f_X2_voice X 4 N a1 a2) (fun o5 =>
          f_X11_tells_j70 X o5.2 o5.1))))
noncomputable def f_X11_terms_j49 (X : MX) (N : NN) (a1 : Int) (a2 : Int) (z0 : Int) : Option (Int × NN) :=
  if z0 = 0 then
    Option.bind (f_X11_refuse X N (-1)) (fun o10 =>
    some (o10.1, o10.2))
  else
    Option.bind (f_X10_term X N 4 a1) (fun o11 =>
    Option.bind (f_X10_setTerm X 4 N a1 a2) (fun o12 =>
    Option.bind (f_X4_clear X 13 o12) (fun o13 =>
    Option.bind (f_X11_accept X o13 o11) (fun o14 =>
    some (o14.1, o14.2)))))
noncomputable def f_X11_terms_j48 (X : MX) (N : NN) (a1 : Int) (a2 : Int) : Option (Int × NN) :=
  f_X11_terms_j49 X N a1 a2 0
noncomputable def f_X11_terms_j44 (X : MX) (N : NN) (a1 : Int) (a2 : Int) : Option (Int × NN) :=
  f_X11_terms_j49 X N a1 a2 1
noncomputable def f_X11_terms_j29 (X : MX) (N : NN) (a1 : Int) (a2 : Int) : Option (Int × NN) :=
  if a1 = 2 then
    Option.bind (f_X11_within X N a2 0 9) (fun o7 =>
    if o7 = 0 then
      f_X11_terms_j48 X N a1 a2
    else
      f_X11_terms_j44 X N a1 a2)
  else
    f_X11_terms_j48 X N a1 a2
noncomputable def f_X11_terms_j15 (X : MX) (N : NN) (a1 : Int) (a2 : Int) : Option (Int × NN) :=
  if a1 = 1 then
    Option.bind (f_X11_within X N a2 1 3) (fun o4 =>
    if o4 = 0 then
      f_X11_terms_j29 X N a1 a2
    else
      f_X11_terms_j44 X N a1 a2)
  else
    f_X11_terms_j29 X N a1 a2
noncomputable def f_X11_terms (X : MX) (N : NN) (a1 : Int) (a2 : Int) : Option (Int × NN) :=
  if a1 = 0 then
    Option.bind (f_X11_within X N a2 0 999) (fun o1 =>
    if o1 = 0 then
      f_X11_terms_j15 X N a1 a2
    else
      f_X11_terms_j44 X N a1 a2)
  else
    f_X11_terms_j15 X N a1 a2
noncomputable def f_X4_takeBack (X : MX) (r0 : Nat) (r1 : Nat) (N : NN) : Option (Int × NN) :=
  if 0 < (N r0 3) then
    let N1 : NN := m_up N r0 3 (m_w ((N r0 3) - 1))
    let N2 : NN := m_up N1 r0 2 (m_rem (m_w ((m_w ((N1 r0 2) + 16)) - 1)) 16)
    Option.bind (f_X10_restoreFrom X r1 (r0 + 1) N2 (m_w ((N2 r0 2) * 191))) (fun o3 =>
    if 0 ≤ (o3 r0 2) ∧ (o3 r0 2) < 16 then
    some (o3 (r0 + 2) ((o3 r0 2).toNat), o3)
    else none)
  else
    some ((-1), N)
noncomputable def f_X11_undo_j31 (X : MX) (N : NN) (z0 : Int) : Option (Int × NN) :=
  some (z0, N)
noncomputable def f_X11_undo (X : MX) (N : NN) : Option (Int × NN) :=
  Option.bind (f_X4_takeBack X 13 4 N) (fun o1 =>
  if o1.1 = (-1) then
    Option.bind (f_X11_refuse X o1.2 (-3)) (fun o2 =>
    f_X11_undo_j31 X o2.2 o2.1)
  else
    Option.bind (f_X11_accept X o1.2 o1.1) (fun o3 =>
    f_X11_undo_j31 X o3.2 o3.1))
noncomputable def f_X9_draw_l33_j163 (X : MX) (r1 : Nat) (N : NN) (a2 : Int) : Option ((NN × Int) ⊕ NN) :=
  some (.inl (N, m_w (a2 + 1)))
noncomputable def f_X9_draw_l33_j118 (X : MX) (r1 : Nat) (N : NN) (a2 : Int) (a3 : Int) (a4 : Int) (a5 : Int) (a6 : Int) (a7 : Int) : Option ((NN × Int) ⊕ NN) :=
  if 0 ≤ a7 ∧ a7 < 36 then
  let N18 : NN := m_up N 54 a7.toNat a5
  if 0 ≤ (m_w ((m_w (a4 * 6)) + a3)) ∧ (m_w ((m_w (a4 * 6)) + a3)) < 36 then
  let N20 : NN := m_up N18 54 ((m_w ((m_w (a4 * 6)) + a3)).toNat) a5
  if 0 ≤ a7 ∧ a7 < 36 then
  let N22 : NN := m_up N20 55 a7.toNat a6
  if 0 ≤ (m_w ((m_w (a4 * 6)) + a3)) ∧ (m_w ((m_w (a4 * 6)) + a3)) < 36 then
  let N24 : NN := m_up N22 55 ((m_w ((m_w (a4 * 6)) + a3)).toNat) a6
  f_X9_draw_l33_j163 X r1 N24 a2
  else none
  else none
  else none
  else none
noncomputable def b_X9_draw_33 (X : MX) (r1 : Nat) (N : NN) (a2 : Int) : Option ((NN × Int) ⊕ NN) :=
  Option.bind (f_X10_many X N r1 3) (fun o5 =>
  if a2 < o5 then
    Option.bind (f_X10_roadAt X N r1 a2 0) (fun o6 =>
    Option.bind (f_X10_roadAt X N r1 a2 1) (fun o7 =>
    Option.bind (f_X10_roadAt X N r1 a2 3) (fun o8 =>
    Option.bind (f_X10_roadAt X N r1 a2 2) (fun o9 =>
    if 0 ≤ (m_w ((m_w (o6 * 6)) + o7)) ∧ (m_w ((m_w (o6 * 6)) + o7)) < 36 then
    if o8 < (N 54 ((m_w ((m_w (o6 * 6)) + o7)).toNat)) then
      f_X9_draw_l33_j118 X r1 N a2 o6 o7 o8 o9 (m_w ((m_w (o6 * 6)) + o7))
    else
      if 0 ≤ (m_w ((m_w (o6 * 6)) + o7)) ∧ (m_w ((m_w (o6 * 6)) + o7)) < 36 then
      if o8 = (N 54 ((m_w ((m_w (o6 * 6)) + o7)).toNat)) then
        if 0 ≤ (m_w ((m_w (o6 * 6)) + o7)) ∧ (m_w ((m_w (o6 * 6)) + o7)) < 36 then
        if o9 < (N 55 ((m_w ((m_w (o6 * 6)) + o7)).toNat)) then
          f_X9_draw_l33_j118 X r1 N a2 o6 o7 o8 o9 (m_w ((m_w (o6 * 6)) + o7))
        else
          f_X9_draw_l33_j163 X r1 N a2
        else none
      else
        f_X9_draw_l33_j163 X r1 N a2
      else none
    else none))))
  else
    some (.inr N))
noncomputable def f_X9_draw (X : MX) (r1 : Nat) (N : NN) : Option NN :=
  Option.bind (f_X10_many X N r1 0) (fun o1 =>
  let N2 : NN := m_up N 53 4 (m_min o1 6)
  Option.bind (f_J7_fill_53178 X 54 N2 10) (fun o3 =>
  Option.bind (f_J7_fill_53178 X 55 o3 0) (fun o4 =>
  Option.bind (lp (fun s => b_X9_draw_33 X r1 s.1 s.2) (o4, 0)) (fun o25 =>
  some o25))))
noncomputable def f_X9_walk_l78_j171 (fr : NN → Int → Int → Int → Int → Option NN) (X : MX) (N : NN) (a1 : Int) (a2 : Int) (a3 : Int) (a4 : Int) (a5 : Int) (a6 : Int) : Option ((NN × Int × Int × Int × Int × Int × Int) ⊕ NN) :=
  some (.inl (N, a1, a2, a3, a4, a5, m_w (a6 + 1)))
noncomputable def b_X9_walk_78 (fr : NN → Int → Int → Int → Int → Option NN) (X : MX) (N : NN) (a1 : Int) (a2 : Int) (a3 : Int) (a4 : Int) (a5 : Int) (a6 : Int) : Option ((NN × Int × Int × Int × Int × Int × Int) ⊕ NN) :=
  if a6 < (N 53 4) then
    if a1 < 5 then
      if (m_and (m_shr a2 a6) 1) = 0 then
        if 0 ≤ (m_w ((m_w (a5 * 6)) + a6)) ∧ (m_w ((m_w (a5 * 6)) + a6)) < 36 then
        if (N 54 ((m_w ((m_w (a5 * 6)) + a6)).toNat)) < 10 then
          if 0 ≤ (m_w (a1 + 1)) ∧ (m_w (a1 + 1)) < 6 then
          let N7 : NN := m_up N 56 ((m_w (a1 + 1)).toNat) a6
          if 0 ≤ (m_w ((m_w (a5 * 6)) + a6)) ∧ (m_w ((m_w (a5 * 6)) + a6)) < 36 then
          if 0 ≤ (m_w ((m_w (a5 * 6)) + a6)) ∧ (m_w ((m_w (a5 * 6)) + a6)) < 36 then
          Option.bind (fr N7 (m_w (a1 + 1)) (m_or a2 (m_shl 1 a6)) (m_w ((m_div a3 10) * (m_w (10 - (N7 54 ((m_w ((m_w (a5 * 6)) + a6)).toNat)))))) (m_w (a4 + (N7 55 ((m_w ((m_w (a5 * 6)) + a6)).toNat))))) (fun o10 =>
          f_X9_walk_l78_j171 fr X o10 a1 a2 a3 a4 a5 a6)
          else none
          else none
          else none
        else
          f_X9_walk_l78_j171 fr X N a1 a2 a3 a4 a5 a6
        else none
      else
        f_X9_walk_l78_j171 fr X N a1 a2 a3 a4 a5 a6
    else
      some (.inr N)
  else
    some (.inr N)
noncomputable def f_X9_walk_j42 (fr : NN → Int → Int → Int → Int → Option NN) (X : MX) (N : NN) (a1 : Int) (a3 : Int) (a4 : Int) : Option NN :=
  let N17 : NN := m_up N 53 6 a3
  let N18 : NN := m_up N17 53 7 a4
  let N19 : NN := m_up N18 53 8 a1
  if 0 ≤ (0 : Int) ∧ 0 ≤ (0 : Int) ∧ 0 ≤ (m_w (a1 + 1)) ∧ (0 : Int) + (m_w (a1 + 1)) ≤ 6 ∧ (0 : Int) + (m_w (a1 + 1)) ≤ 6 then
  let N21 : NN := m_cpy N19 56 ((0 : Int).toNat) 57 ((0 : Int).toNat) ((m_w (a1 + 1)).toNat)
  some N21
  else none
noncomputable def f_X9_walk_step (fr : NN → Int → Int → Int → Int → Option NN) (X : MX) (N : NN) (a1 : Int) (a2 : Int) (a3 : Int) (a4 : Int) : Option NN :=
  if 0 ≤ a1 ∧ a1 < 6 then
  if (N 56 a1.toNat) = (N 53 5) then
    if (N 53 6) < a3 then
      f_X9_walk_j42 fr X N a1 a3 a4
    else
      if a3 = (N 53 6) then
        if a4 < (N 53 7) then
          f_X9_walk_j42 fr X N a1 a3 a4
        else
          some N
      else
        some N
  else
    Option.bind (lp (fun s => b_X9_walk_78 fr X s.1 s.2.1 s.2.2.1 s.2.2.2.1 s.2.2.2.2.1 s.2.2.2.2.2.1 s.2.2.2.2.2.2) (N, a1, a2, a3, a4, N 56 a1.toNat, 0)) (fun o15 =>
    some o15)
  else none
noncomputable def f_X9_walk (X : MX) : Nat → NN → Int → Int → Int → Int → Option NN
  | 0 => fun _ _ _ _ _ => none
  | n + 1 => fun N x1 x2 x3 x4 => f_X9_walk_step (f_X9_walk X n) X N x1 x2 x3 x4
noncomputable def f_X9_answer_j125 (X : MX) (r1 : Nat) (N : NN) (z0 : Int) : Option (Int × NN) :=
  some (z0, N)
noncomputable def f_X9_answer_j124 (X : MX) (r1 : Nat) (N : NN) : Option (Int × NN) :=
  f_X9_answer_j125 X r1 N (-1)
noncomputable def f_X9_answer (X : MX) (r1 : Nat) (N : NN) (a2 : Int) (a3 : Int) (a4 : Int) : Option (Int × NN) :=
  Option.bind (f_X9_draw X r1 N) (fun o1 =>
  let N2 : NN := m_up o1 53 5 a3
  let N3 : NN := m_up N2 53 6 0
  let N4 : NN := m_up N3 53 7 0
  let N5 : NN := m_up N4 53 8 (-1)
  let N6 : NN := m_up N5 56 0 a2
  Option.bind (f_X9_walk X 8 N6 0 (m_shl 1 a2) 100000 0) (fun o7 =>
  if (o7 53 8) = (-1) then
    some ((-1), o7)
  else
    if a4 = 0 then
      some (o7 53 6, o7)
    else
      if a4 = 1 then
        some (o7 53 7, o7)
      else
        if a4 = 2 then
          some (o7 53 8, o7)
        else
          if a4 < 3 then
            f_X9_answer_j124 X r1 o7
          else
            if (o7 53 8) < (m_w (a4 - 3)) then
              f_X9_answer_j124 X r1 o7
            else
              if 0 ≤ (m_w (a4 - 3)) ∧ (m_w (a4 - 3)) < 6 then
              f_X9_answer_j125 X r1 o7 (o7 57 ((m_w (a4 - 3)).toNat))
              else none))
noncomputable def f_X11_way_j22 (X : MX) (N : NN) : Option (Int × NN) :=
  some ((-1), N)
noncomputable def f_X11_way (X : MX) (N : NN) (a1 : Int) (a2 : Int) (a3 : Int) : Option (Int × NN) :=
  Option.bind (f_X10_isLord X N 4 a1) (fun o1 =>
  if o1 = 0 then
    f_X11_way_j22 X N
  else
    Option.bind (f_X10_isLord X N 4 a2) (fun o2 =>
    if o2 = 0 then
      f_X11_way_j22 X N
    else
      Option.bind (f_X9_answer X 4 N a1 a2 a3) (fun o3 =>
      some (o3.1, o3.2))))
noncomputable def f_X12_debtAt (X : MX) (N : NN) (a0 : Int) (a1 : Int) : Option Int :=
  some (m_w (141 + (m_w (2 * (m_w ((m_w (6 * a0)) + a1))))))
noncomputable def f_X12_debtsOf_l4_j30 (X : MX) (N : NN) (a1 : Int) (a3 : Int) (z0 : Int) (z1 : Int) : Option ((Int × Int × Int) ⊕ Int) :=
  some (.inl (a1, m_w (z0 + z1), m_w (a3 + 1)))
noncomputable def b_X12_debtsOf_4 (X : MX) (N : NN) (a1 : Int) (a2 : Int) (a3 : Int) : Option ((Int × Int × Int) ⊕ Int) :=
  if a3 < 6 then
    Option.bind (f_X12_debtAt X N a1 a3) (fun o1 =>
    if 0 ≤ o1 ∧ o1 < 5670 then
    if (N 66 o1.toNat) = (-1) then
      f_X12_debtsOf_l4_j30 X N a1 a3 a2 0
    else
      f_X12_debtsOf_l4_j30 X N a1 a3 a2 1
    else none)
  else
    some (.inr a2)
noncomputable def f_X12_debtsOf (X : MX) (N : NN) (a1 : Int) : Option Int :=
  Option.bind (lp (fun s => b_X12_debtsOf_4 X N s.1 s.2.1 s.2.2) (a1, 0, 0)) (fun o5 =>
  some o5)
noncomputable def b_X12_allDebts_4 (X : MX) (N : NN) (a1 : Int) (a2 : Int) : Option ((Int × Int) ⊕ Int) :=
  if a2 < 6 then
    Option.bind (f_X12_debtsOf X N a2) (fun o1 =>
    some (.inl (m_w (a1 + o1), m_w (a2 + 1))))
  else
    some (.inr a1)
noncomputable def f_X12_allDebts (X : MX) (N : NN) : Option Int :=
  Option.bind (lp (fun s => b_X12_allDebts_4 X N s.1 s.2) (0, 0)) (fun o3 =>
  some o3)
noncomputable def f_X12_in_j18 (X : MX) (N : NN) (z0 : Int) : Option Int :=
  if 0 ≤ z0 ∧ z0 ≤ 1 then
  some z0
  else none
noncomputable def f_X12_in_j17 (X : MX) (N : NN) : Option Int :=
  f_X12_in_j18 X N 0
noncomputable def f_X12_in (X : MX) (N : NN) (a0 : Int) (a2 : Int) (a4 : Int) : Option Int :=
  if (m_lcmp a0 a2) < 0 then
    f_X12_in_j17 X N
  else
    if 0 < (m_lcmp a0 a4) then
      f_X12_in_j17 X N
    else
      f_X12_in_j18 X N 1
noncomputable def f_X12_isGood (X : MX) (N : NN) (a1 : Int) : Option Int :=
  Option.bind (f_X12_in X N a1 0 (m_wl ((N 66 1) - 1))) (fun o1 =>
  if 0 ≤ o1 ∧ o1 ≤ 1 then
  some o1
  else none)
noncomputable def f_X12_isLord (X : MX) (N : NN) (a1 : Int) : Option Int :=
  Option.bind (f_X12_in X N a1 0 (m_wl ((N 66 0) - 1))) (fun o1 =>
  if 0 ≤ o1 ∧ o1 ≤ 1 then
  some o1
  else none)
noncomputable def f_X12_ofGood (X : MX) (N : NN) (a1 : Int) (a2 : Int) : Option Int :=
  if 0 ≤ (m_w ((m_w (45 + (m_w (6 * a1)))) + a2)) ∧ (m_w ((m_w (45 + (m_w (6 * a1)))) + a2)) < 5670 then
  some (N 66 ((m_w ((m_w (45 + (m_w (6 * a1)))) + a2)).toNat))
  else none
noncomputable def f_X12_ofLord (X : MX) (N : NN) (a1 : Int) (a2 : Int) : Option Int :=
  if 0 ≤ (m_w ((m_w (9 + (m_w (6 * a1)))) + a2)) ∧ (m_w ((m_w (9 + (m_w (6 * a1)))) + a2)) < 5670 then
  some (N 66 ((m_w ((m_w (9 + (m_w (6 * a1)))) + a2)).toNat))
  else none
noncomputable def f_X12_askedOf_j63 (X : MX) (N : NN) (z0 : Int) : Option Int :=
  some z0
noncomputable def f_X12_askedOf_j24 (X : MX) (N : NN) (z0 : Int) : Option Int :=
  f_X12_askedOf_j63 X N z0
noncomputable def f_X12_askedOf (X : MX) (N : NN) (a1 : Int) (a2 : Int) : Option Int :=
  if a1 = 6 then
    Option.bind (f_X12_isGood X N a2) (fun o1 =>
    if o1 = 0 then
      f_X12_askedOf_j24 X N (-1)
    else
      Option.bind (f_X12_ofGood X N a2 0) (fun o2 =>
      f_X12_askedOf_j24 X N o2))
  else
    Option.bind (f_X12_isLord X N a2) (fun o4 =>
    if o4 = 0 then
      f_X12_askedOf_j63 X N (-1)
    else
      if a1 = 5 then
        Option.bind (f_X12_ofLord X N a2 0) (fun o5 =>
        f_X12_askedOf_j63 X N o5)
      else
        Option.bind (f_X12_debtsOf X N a2) (fun o6 =>
        f_X12_askedOf_j63 X N o6))
noncomputable def f_X12_reckon_j90 (X : MX) (N : NN) (z0 : Int) : Option (Int × NN) :=
  some (z0, N)
noncomputable def f_X12_reckon_j72 (X : MX) (N : NN) (a2 : Int) (a4 : Int) (z1 : Int) : Option (Int × NN) :=
  if 0 ≤ z1 ∧ z1 ≤ 1 then
  let N15 : NN := m_up N 64 37 z1
  if (N15 64 37) = 0 then
    if a4 ≠ 0 then
    f_X12_reckon_j90 X N15 (m_ldiv a2 a4)
    else none
  else
    f_X12_reckon_j90 X N15 0
  else none
noncomputable def f_X12_reckon_j122 (X : MX) (N : NN) (z0 : Int) : Option (Int × NN) :=
  some (z0, N)
noncomputable def f_X12_reckon_j104 (X : MX) (N : NN) (a2 : Int) (a4 : Int) (z1 : Int) : Option (Int × NN) :=
  if 0 ≤ z1 ∧ z1 ≤ 1 then
  let N19 : NN := m_up N 64 37 z1
  if (N19 64 37) = 0 then
    if a4 ≠ 0 then
    f_X12_reckon_j122 X N19 (m_lrem a2 a4)
    else none
  else
    f_X12_reckon_j122 X N19 0
  else none
noncomputable def f_X12_reckon_j135 (X : MX) (N : NN) (z0 : Int) : Option (Int × NN) :=
  some (z0, N)
noncomputable def f_X12_reckon_j148 (X : MX) (N : NN) (z0 : Int) : Option (Int × NN) :=
  some (z0, N)
noncomputable def f_X12_reckon_j161 (X : MX) (N : NN) (z0 : Int) : Option (Int × NN) :=
  some (z0, N)
noncomputable def f_X12_reckon (X : MX) (N : NN) (a1 : Int) (a2 : Int) (a4 : Int) : Option (Int × NN) :=
  if a1 = 20 then
    some (m_wl (a2 + a4), N)
  else
    if a1 = 21 then
      some (m_wl (a2 - a4), N)
    else
      if a1 = 22 then
        some (m_wl (a2 * a4), N)
      else
        if a1 = 23 then
          if (m_lcmp a4 0) = 0 then
            f_X12_reckon_j72 X N a2 a4 1
          else
            f_X12_reckon_j72 X N a2 a4 0
        else
          if a1 = 24 then
            if (m_lcmp a4 0) = 0 then
              f_X12_reckon_j104 X N a2 a4 1
            else
              f_X12_reckon_j104 X N a2 a4 0
          else
            if a1 = 25 then
              if (m_lcmp a2 a4) < 0 then
                f_X12_reckon_j135 X N 1
              else
                f_X12_reckon_j135 X N 0
            else
              if a1 = 26 then
                if 0 < (m_lcmp a2 a4) then
                  f_X12_reckon_j148 X N 1
                else
                  f_X12_reckon_j148 X N 0
              else
                if (m_lcmp a2 a4) = 0 then
                  f_X12_reckon_j161 X N 1
                else
                  f_X12_reckon_j161 X N 0
noncomputable def f_X12_reckonAll_l10_j296 (X : MX) (N : NN) (a2 : Int) (a3 : Int) (a4 : Int) (a6 : Int) (z0 : Int) (z1 : Int) : Option ((NN × Int × Int × Int) ⊕ (NN × Int)) :=
  if (m_lcmp z0 z1) = 0 then
    some (.inl (N, a2, a3, a6))
  else
    some (.inl (N, a2, m_w (a3 + (-1)), a4))
noncomputable def f_X12_reckonAll_l10_j242 (X : MX) (N : NN) (a2 : Int) (a3 : Int) (a4 : Int) (z1 : Int) : Option ((NN × Int × Int × Int) ⊕ (NN × Int)) :=
  if 0 ≤ z1 ∧ z1 ≤ 1 then
  let N36 : NN := m_up N 64 37 z1
  some (.inl (N36, a2, a3, a4))
  else none
noncomputable def f_X12_reckonAll_l10_j237 (X : MX) (N : NN) (a2 : Int) (a3 : Int) (a4 : Int) : Option ((NN × Int × Int × Int) ⊕ (NN × Int)) :=
  f_X12_reckonAll_l10_j242 X N a2 a3 a4 1
noncomputable def f_X12_reckonAll_l10_j164 (X : MX) (N : NN) (a2 : Int) (a3 : Int) (a4 : Int) (z1 : Int) (z2 : Int) : Option ((NN × Int × Int × Int) ⊕ (NN × Int)) :=
  if 0 ≤ z1 ∧ z1 < 400 then
  let N34 : NN := m_up N 83 z1.toNat z2
  some (.inl (N34, a2, m_w (a3 + 1), a4))
  else none
noncomputable def f_X12_reckonAll_l10_j95 (X : MX) (N : NN) (a2 : Int) (a3 : Int) (a4 : Int) (a5 : Int) (z0 : Int) : Option ((NN × Int × Int × Int) ⊕ (NN × Int)) :=
  if a5 < 20 then
    if a5 = 0 then
      f_X12_reckonAll_l10_j164 X N a2 a3 (m_w (a4 + 1)) a3 z0
    else
      if (N 64 20) = 0 then
        if 0 ≤ a5 ∧ a5 < 13 then
        f_X12_reckonAll_l10_j164 X N a2 a3 (m_w (a4 + 1)) a3 (N 81 a5.toNat)
        else none
      else
        if a5 < 5 then
          if 0 ≤ a5 ∧ a5 < 13 then
          f_X12_reckonAll_l10_j164 X N a2 a3 (m_w (a4 + 1)) a3 (N 82 a5.toNat)
          else none
        else
          Option.bind (f_X12_askedOf X N a5 z0) (fun o12 =>
          f_X12_reckonAll_l10_j164 X N a2 a3 (m_w (a4 + 1)) a3 o12)
  else
    if a5 < 28 then
      if 0 ≤ (m_w ((m_w (a3 + (-1))) - 1)) ∧ (m_w ((m_w (a3 + (-1))) - 1)) < 400 then
      if 0 ≤ (m_w (a3 + (-1))) ∧ (m_w (a3 + (-1))) < 400 then
      Option.bind (f_X12_reckon X N a5 (N 83 ((m_w ((m_w (a3 + (-1))) - 1)).toNat)) (N 83 ((m_w (a3 + (-1))).toNat))) (fun o18 =>
      if 0 ≤ (m_w ((m_w (a3 + (-1))) - 1)) ∧ (m_w ((m_w (a3 + (-1))) - 1)) < 400 then
      let N20 : NN := m_up o18.2 83 ((m_w ((m_w (a3 + (-1))) - 1)).toNat) o18.1
      if (N20 64 37) = 0 then
        if 0 ≤ (m_w ((m_w (a3 + (-1))) - 1)) ∧ (m_w ((m_w (a3 + (-1))) - 1)) < 400 then
        Option.bind (f_X12_in X N20 (N20 83 ((m_w ((m_w (a3 + (-1))) - 1)).toNat)) (-1000000000) 1000000000) (fun o22 =>
        if o22 = 0 then
          f_X12_reckonAll_l10_j237 X N20 a2 (m_w (a3 + (-1))) (m_w (a4 + 1))
        else
          f_X12_reckonAll_l10_j242 X N20 a2 (m_w (a3 + (-1))) (m_w (a4 + 1)) 0)
        else none
      else
        f_X12_reckonAll_l10_j237 X N20 a2 (m_w (a3 + (-1))) (m_w (a4 + 1))
      else none)
      else none
      else none
    else
      if a5 = 28 then
        if 0 ≤ (m_w (a3 - 1)) ∧ (m_w (a3 - 1)) < 400 then
        if 0 ≤ (m_w (a3 - 1)) ∧ (m_w (a3 - 1)) < 400 then
        let N27 : NN := m_up N 83 ((m_w (a3 - 1)).toNat) (m_wl (1 - (N 83 ((m_w (a3 - 1)).toNat))))
        some (.inl (N27, a2, a3, m_w (a4 + 1)))
        else none
        else none
      else
        if 0 ≤ (m_w (a3 - 1)) ∧ (m_w (a3 - 1)) < 400 then
        if a5 = 29 then
          f_X12_reckonAll_l10_j296 X N a2 a3 (m_w (a4 + 1)) z0 (N 83 ((m_w (a3 - 1)).toNat)) 0
        else
          f_X12_reckonAll_l10_j296 X N a2 a3 (m_w (a4 + 1)) z0 (N 83 ((m_w (a3 - 1)).toNat)) 1
        else none
noncomputable def f_X12_reckonAll_l10_j57 (X : MX) (N : NN) (a2 : Int) (a3 : Int) (a4 : Int) (z0 : Int) : Option ((NN × Int × Int × Int) ⊕ (NN × Int)) :=
  if (N 64 20) = 0 then
    if 0 ≤ (m_w ((m_w ((m_w ((N 64 33) + 98)) + (m_w (2 * a4)))) + 1)) ∧ (m_w ((m_w ((m_w ((N 64 33) + 98)) + (m_w (2 * a4)))) + 1)) < 5670 then
    f_X12_reckonAll_l10_j95 X N a2 a3 a4 z0 (N 66 ((m_w ((m_w ((m_w ((N 64 33) + 98)) + (m_w (2 * a4)))) + 1)).toNat))
    else none
  else
    if 0 ≤ a4 ∧ a4 < 400 then
    f_X12_reckonAll_l10_j95 X N a2 a3 a4 z0 (N 76 a4.toNat)
    else none
noncomputable def b_X12_reckonAll_10 (X : MX) (N : NN) (a2 : Int) (a3 : Int) (a4 : Int) : Option ((NN × Int × Int × Int) ⊕ (NN × Int)) :=
  if a4 < a2 then
    if (N 64 37) = 0 then
      if (N 64 20) = 0 then
        if 0 ≤ (m_w ((m_w ((N 64 33) + 98)) + (m_w (2 * a4)))) ∧ (m_w ((m_w ((N 64 33) + 98)) + (m_w (2 * a4)))) < 5670 then
        f_X12_reckonAll_l10_j57 X N a2 a3 a4 (N 66 ((m_w ((m_w ((N 64 33) + 98)) + (m_w (2 * a4)))).toNat))
        else none
      else
        if 0 ≤ a4 ∧ a4 < 400 then
        f_X12_reckonAll_l10_j57 X N a2 a3 a4 (N 75 a4.toNat)
        else none
    else
      some (.inr (N, a3))
  else
    some (.inr (N, a3))
noncomputable def f_X12_reckonAll_j328 (X : MX) (N : NN) (z1 : Int) : Option NN :=
  let N40 : NN := m_up N 64 38 z1
  some N40
noncomputable def f_X12_reckonAll (X : MX) (N : NN) (a1 : Int) (a2 : Int) : Option NN :=
  let N1 : NN := m_up N 64 37 0
  Option.bind (lp (fun s => b_X12_reckonAll_10 X s.1 s.2.1 s.2.2.1 s.2.2.2) (N1, a2, 0, a1)) (fun o38 =>
  if 0 < o38.2 then
    f_X12_reckonAll_j328 X o38.1 (o38.1 83 0)
  else
    f_X12_reckonAll_j328 X o38.1 0)
noncomputable def f_X12_isSo_j109 (X : MX) (N : NN) (z0 : Int) : Option (Int × NN) :=
  if 0 ≤ z0 ∧ z0 ≤ 1 then
  some (z0, N)
  else none
noncomputable def f_X12_isSo_j59 (X : MX) (N : NN) (a1 : Int) : Option (Int × NN) :=
  if 0 ≤ a1 ∧ a1 < 5670 then
  if (N 66 a1.toNat) = 2 then
    some (1, N)
  else
    if 0 ≤ (m_w (a1 + 3)) ∧ (m_w (a1 + 3)) < 5670 then
    if 0 ≤ (m_w (a1 + 4)) ∧ (m_w (a1 + 4)) < 5670 then
    Option.bind (f_X12_reckonAll X N (N 66 ((m_w (a1 + 3)).toNat)) (N 66 ((m_w (a1 + 4)).toNat))) (fun o12 =>
    let N13 : NN := m_up o12 64 39 (o12 64 38)
    if (N13 64 37) = 0 then
      f_X12_isSo_j109 X N13 1
    else
      f_X12_isSo_j109 X N13 0)
    else none
    else none
  else none
noncomputable def f_X12_isSo_j57 (X : MX) (N : NN) : Option (Int × NN) :=
  some (0, N)
noncomputable def f_X12_isSo (X : MX) (N : NN) (a1 : Int) : Option (Int × NN) :=
  if 0 ≤ (m_w (a1 + 5)) ∧ (m_w (a1 + 5)) < 5670 then
  if 0 ≤ (m_w (a1 + 6)) ∧ (m_w (a1 + 6)) < 5670 then
  if (N 66 ((m_w (a1 + 5)).toNat)) < (N 66 ((m_w (a1 + 6)).toNat)) then
    if 0 ≤ (m_w (a1 + 5)) ∧ (m_w (a1 + 5)) < 5670 then
    if 0 ≤ (m_w (a1 + 6)) ∧ (m_w (a1 + 6)) < 5670 then
    Option.bind (f_X12_reckonAll X N (N 66 ((m_w (a1 + 5)).toNat)) (N 66 ((m_w (a1 + 6)).toNat))) (fun o5 =>
    if (o5 64 37) = 0 then
      if (m_lcmp (o5 64 38) 0) = 0 then
        f_X12_isSo_j57 X o5
      else
        f_X12_isSo_j59 X o5 a1
    else
      f_X12_isSo_j57 X o5)
    else none
    else none
  else
    f_X12_isSo_j59 X N a1
  else none
  else none
noncomputable def f_X12_tells1_l138_j203 (X : MX) (N : NN) (a1 : Int) (a9 : Int) (a11 : Int) : Option ((NN × Int × Int × Int) ⊕ (NN × Int)) :=
  some (.inl (N, a1, a9, m_w (a11 + 1)))
noncomputable def f_X12_tells1_l138_j201 (X : MX) (N : NN) (a1 : Int) (a11 : Int) (z0 : Int) : Option ((NN × Int × Int × Int) ⊕ (NN × Int)) :=
  f_X12_tells1_l138_j203 X N a1 z0 a11
noncomputable def b_X12_tells1_138 (X : MX) (N : NN) (a1 : Int) (a9 : Int) (a11 : Int) : Option ((NN × Int × Int × Int) ⊕ (NN × Int)) :=
  if 0 ≤ (m_w ((N 64 33) + 1)) ∧ (m_w ((N 64 33) + 1)) < 5670 then
  if a11 < (N 66 ((m_w ((N 64 33) + 1)).toNat)) then
    if 0 ≤ (m_w ((m_w ((N 64 33) + 2)) + (m_w (8 * a11)))) ∧ (m_w ((m_w ((N 64 33) + 2)) + (m_w (8 * a11)))) < 5670 then
    if (N 66 ((m_w ((m_w ((N 64 33) + 2)) + (m_w (8 * a11)))).toNat)) = a1 then
      Option.bind (f_X12_isSo X N (m_w ((m_w ((N 64 33) + 2)) + (m_w (8 * a11))))) (fun o16 =>
      if o16.1 = 0 then
        f_X12_tells1_l138_j203 X o16.2 a1 a9 a11
      else
        if a1 = 2 then
          f_X12_tells1_l138_j201 X o16.2 a1 a11 1
        else
          f_X12_tells1_l138_j201 X o16.2 a1 a11 (o16.2 64 39))
    else
      f_X12_tells1_l138_j203 X N a1 a9 a11
    else none
  else
    some (.inr (N, a9))
  else none
noncomputable def f_X12_tells1 (X : MX) (N : NN) (a1 : Int) (a2 : Int) (a3 : Int) (a4 : Int) (a5 : Int) (a6 : Int) (a7 : Int) : Option (Int × NN) :=
  if (N 66 5) = (-1) then
    some (a7, N)
  else
    let N1 : NN := m_up N 64 33 (m_w (270 + (m_w (900 * (N 66 5)))))
    let N2 : NN := m_up N1 81 1 a2
    Option.bind (f_X12_ofGood X N2 a2 2) (fun o3 =>
    let N4 : NN := m_up N2 81 2 o3
    Option.bind (f_X12_ofGood X N4 a2 3) (fun o5 =>
    let N6 : NN := m_up N4 81 3 o5
    Option.bind (f_X12_ofGood X N6 a2 4) (fun o7 =>
    let N8 : NN := m_up N6 81 4 o7
    let N9 : NN := m_up N8 81 5 a3
    let N10 : NN := m_up N9 81 6 a4
    let N11 : NN := m_up N10 81 7 a6
    let N12 : NN := m_up N11 81 8 a5
    let N13 : NN := m_up N12 81 9 (N12 66 8)
    Option.bind (lp (fun s => b_X12_tells1_138 X s.1 s.2.1 s.2.2.1 s.2.2.2) (N13, a1, a7, 0)) (fun o21 =>
    some (o21.2, o21.1)))))
noncomputable def f_X12_year (X : MX) (N : NN) : Option Int :=
  some (N 66 6)
noncomputable def f_X12_isBarred_j24 (X : MX) (N : NN) (z0 : Int) : Option (Int × NN) :=
  if 0 ≤ z0 ∧ z0 ≤ 1 then
  some (z0, N)
  else none
noncomputable def f_X12_isBarred (X : MX) (N : NN) (a1 : Int) (a2 : Int) (a3 : Int) : Option (Int × NN) :=
  Option.bind (f_X12_year X N) (fun o1 =>
  Option.bind (f_X12_tells1 X N 2 a1 a2 a3 (-1) o1 0) (fun o2 =>
  if (m_lcmp o2.1 1) = 0 then
    f_X12_isBarred_j24 X o2.2 1
  else
    f_X12_isBarred_j24 X o2.2 0))
noncomputable def f_X12_within_j24 (X : MX) (N : NN) (z0 : Int) : Option Int :=
  some z0
noncomputable def f_X12_within (X : MX) (N : NN) (a0 : Int) (a2 : Int) (a3 : Int) : Option Int :=
  if (m_lcmp a0 a2) < 0 then
    f_X12_within_j24 X N a2
  else
    if 0 < (m_lcmp a0 a3) then
      f_X12_within_j24 X N a3
    else
      f_X12_within_j24 X N (m_w a0)
noncomputable def f_X12_worthOf (X : MX) (N : NN) (a1 : Int) (a2 : Int) (a3 : Int) : Option (Int × NN) :=
  Option.bind (f_X12_year X N) (fun o1 =>
  Option.bind (f_X12_ofGood X N a1 2) (fun o2 =>
  Option.bind (f_X12_tells1 X N 0 a1 a2 a3 (-1) o1 o2) (fun o3 =>
  Option.bind (f_X12_within X o3.2 o3.1 0 999) (fun o4 =>
  some (o4, o3.2)))))
noncomputable def f_X12_asks_j43 (X : MX) (N : NN) : Option (Int × NN) :=
  some ((-1), N)
noncomputable def f_X12_asks_j108 (X : MX) (N : NN) (z0 : Int) : Option (Int × NN) :=
  some (z0, N)
noncomputable def f_X12_asks (X : MX) (N : NN) (a1 : Int) (a2 : Int) (a3 : Int) : Option (Int × NN) :=
  let N1 : NN := m_up N 64 0 0
  Option.bind (f_X12_isGood X N1 a1) (fun o2 =>
  if o2 = 0 then
    f_X12_asks_j43 X N1
  else
    Option.bind (f_X12_isLord X N1 a2) (fun o3 =>
    if o3 = 0 then
      f_X12_asks_j43 X N1
    else
      Option.bind (f_X12_ofGood X N1 a1 0) (fun o4 =>
      if o4 = a2 then
        f_X12_asks_j43 X N1
      else
        Option.bind (f_X12_in X N1 a3 0 2) (fun o5 =>
        if o5 = 0 then
          f_X12_asks_j43 X N1
        else
          Option.bind (f_X12_ofGood X N1 a1 0) (fun o6 =>
          if a3 = 0 then
            Option.bind (f_X12_worthOf X N1 a1 o6 a2) (fun o7 =>
            f_X12_asks_j108 X o7.2 o7.1)
          else
            if a3 = 1 then
              Option.bind (f_X12_isBarred X N1 a1 o6 a2) (fun o8 =>
              if o8.1 = 0 then
                f_X12_asks_j108 X o8.2 0
              else
                f_X12_asks_j108 X o8.2 1)
            else
              Option.bind (f_X12_ofGood X N1 a1 1) (fun o10 =>
              if o6 = o10 then
                f_X12_asks_j108 X N1 0
              else
                f_X12_asks_j108 X N1 1))))))
noncomputable def f_X12_costOf (X : MX) (N : NN) (a1 : Int) (a2 : Int) (a3 : Int) : Option (Int × NN) :=
  Option.bind (f_X12_ofGood X N a1 3) (fun o1 =>
  Option.bind (f_X12_tells1 X N 1 a1 (-1) a2 (-1) a3 o1) (fun o2 =>
  Option.bind (f_X12_within X o2.2 o2.1 0 99) (fun o3 =>
  some (o3, o2.2))))
noncomputable def f_X12_at_j25 (X : MX) (N : NN) : Option (Int × NN) :=
  some ((-1), N)
noncomputable def f_X12_at_j56 (X : MX) (N : NN) (z0 : Int) : Option (Int × NN) :=
  some (z0, N)
noncomputable def f_X12_at (X : MX) (N : NN) (a1 : Int) (a2 : Int) : Option (Int × NN) :=
  let N1 : NN := m_up N 64 0 0
  Option.bind (f_X12_isGood X N1 a1) (fun o2 =>
  if o2 = 0 then
    f_X12_at_j25 X N1
  else
    Option.bind (f_X12_in X N1 a2 0 5) (fun o3 =>
    if o3 = 0 then
      f_X12_at_j25 X N1
    else
      if a2 < 5 then
        Option.bind (f_X12_ofGood X N1 a1 a2) (fun o4 =>
        f_X12_at_j56 X N1 o4)
      else
        Option.bind (f_X12_ofGood X N1 a1 0) (fun o5 =>
        Option.bind (f_X12_year X N1) (fun o6 =>
        Option.bind (f_X12_costOf X N1 a1 o5 o6) (fun o7 =>
        f_X12_at_j56 X o7.2 o7.1)))))
noncomputable def f_X12_tell_j28 (X : MX) (N : NN) (a1 : Int) : Option (Int × NN) :=
  some (a1, N)
noncomputable def f_X12_tell_j10 (X : MX) (N : NN) (a1 : Int) (z1 : Int) : Option (Int × NN) :=
  let N2 : NN := m_up N 64 1 z1
  if a1 < 0 then
    if 0 ≤ (m_w (-a1)) ∧ (m_w (-a1)) < 7 then
    if 0 ≤ (m_w (-a1)) ∧ (m_w (-a1)) < 7 then
    let N5 : NN := m_up N2 65 ((m_w (-a1)).toNat) (m_w ((N2 65 ((m_w (-a1)).toNat)) + 1))
    f_X12_tell_j28 X N5 a1
    else none
    else none
  else
    f_X12_tell_j28 X N2 a1
noncomputable def f_X12_tell (X : MX) (N : NN) (a1 : Int) : Option (Int × NN) :=
  if a1 < 0 then
    f_X12_tell_j10 X N a1 a1
  else
    f_X12_tell_j10 X N a1 0
noncomputable def b_X12_keepRow_2 (X : MX) (N : NN) (a1 : Int) (a2 : Int) : Option ((NN × Int × Int) ⊕ NN) :=
  if a2 < 270 then
    if 0 ≤ a2 ∧ a2 < 5670 then
    if 0 ≤ (m_w ((m_w (270 * a1)) + a2)) ∧ (m_w ((m_w (270 * a1)) + a2)) < 4860 then
    let N3 : NN := m_up N 69 ((m_w ((m_w (270 * a1)) + a2)).toNat) (N 66 a2.toNat)
    some (.inl (N3, a1, m_w (a2 + 1)))
    else none
    else none
  else
    some (.inr N)
noncomputable def f_X12_keepRow (X : MX) (N : NN) (a1 : Int) : Option NN :=
  Option.bind (lp (fun s => b_X12_keepRow_2 X s.1 s.2.1 s.2.2) (N, a1, 0)) (fun o5 =>
  some o5)
noncomputable def b_X12_remember_11 (X : MX) (N : NN) (a1 : Int) (a2 : Int) : Option ((NN × Int × Int) ⊕ (NN × Int)) :=
  if a2 < 4050 then
    if 0 ≤ (m_w (a2 + 270)) ∧ (m_w (a2 + 270)) < 4860 then
    if 0 ≤ a2 ∧ a2 < 4860 then
    let N3 : NN := m_up N 69 a2.toNat (N 69 ((m_w (a2 + 270)).toNat))
    some (.inl (N3, a1, m_w (a2 + 1)))
    else none
    else none
  else
    some (.inr (N, a1))
noncomputable def b_X12_remember_42 (X : MX) (N : NN) (a1 : Int) (a2 : Int) : Option ((NN × Int × Int) ⊕ (NN × Int)) :=
  if a2 < 15 then
    if 0 ≤ (m_w (a2 + 1)) ∧ (m_w (a2 + 1)) < 16 then
    if 0 ≤ a2 ∧ a2 < 16 then
    let N8 : NN := m_up N 70 a2.toNat (N 70 ((m_w (a2 + 1)).toNat))
    some (.inl (N8, a1, m_w (a2 + 1)))
    else none
    else none
  else
    some (.inr (N, a1))
noncomputable def f_X12_remember_j78 (X : MX) (N : NN) (a1 : Int) : Option NN :=
  Option.bind (f_X12_keepRow X N (N 64 8)) (fun o13 =>
  if 0 ≤ (o13 64 8) ∧ (o13 64 8) < 16 then
  let N15 : NN := m_up o13 70 ((o13 64 8).toNat) a1
  let N16 : NN := m_up N15 64 8 (m_w ((N15 64 8) + 1))
  some N16
  else none)
noncomputable def f_X12_remember (X : MX) (N : NN) (a1 : Int) : Option NN :=
  if (N 64 8) = 16 then
    Option.bind (lp (fun s => b_X12_remember_11 X s.1 s.2.1 s.2.2) (N, a1, 0)) (fun o5 =>
    Option.bind (lp (fun s => b_X12_remember_42 X s.1 s.2.1 s.2.2) (o5.1, o5.2, 0)) (fun o10 =>
    let N11 : NN := m_up o10.1 64 8 (m_w ((o10.1 64 8) - 1))
    f_X12_remember_j78 X N11 o10.2))
  else
    f_X12_remember_j78 X N a1
noncomputable def f_X12_costs_l5_j40 (X : MX) (N : NN) (a1 : Int) (a2 : Int) (a4 : Int) (z0 : Int) (z1 : Int) : Option ((NN × Int × Int × Int × Int) ⊕ (NN × Int)) :=
  some (.inl (N, a1, a2, m_w (z0 + z1), m_w (a4 + 1)))
noncomputable def b_X12_costs_5 (X : MX) (N : NN) (a1 : Int) (a2 : Int) (a3 : Int) (a4 : Int) : Option ((NN × Int × Int × Int × Int) ⊕ (NN × Int)) :=
  if a4 < (N 66 1) then
    Option.bind (f_X12_ofGood X N a4 0) (fun o1 =>
    if o1 = a1 then
      Option.bind (f_X12_costOf X N a4 a1 a2) (fun o2 =>
      f_X12_costs_l5_j40 X o2.2 a1 a2 a4 a3 o2.1)
    else
      f_X12_costs_l5_j40 X N a1 a2 a4 a3 0)
  else
    some (.inr (N, a3))
noncomputable def f_X12_costs (X : MX) (N : NN) (a1 : Int) (a2 : Int) : Option (Int × NN) :=
  Option.bind (lp (fun s => b_X12_costs_5 X s.1 s.2.1 s.2.2.1 s.2.2.2.1 s.2.2.2.2) (N, a1, a2, 0, 0)) (fun o5 =>
  some (o5.2, o5.1))
noncomputable def f_X12_is_j14 (X : MX) (N : NN) (z0 : Int) : Option Int :=
  if 0 ≤ z0 ∧ z0 ≤ 1 then
  some z0
  else none
noncomputable def f_X12_is (X : MX) (N : NN) (a0 : Int) (a1 : Int) : Option Int :=
  if (m_and (m_shr a0 a1) 1) = 1 then
    f_X12_is_j14 X N 1
  else
    f_X12_is_j14 X N 0
noncomputable def b_X12_wait1_144 (X : MX) (N : NN) (a1 : Int) (a2 : Int) (a6 : Int) : Option ((NN × Int × Int × Int) ⊕ (NN × Int × Int)) :=
  if a6 < 6 then
    Option.bind (f_X12_debtAt X N a2 a6) (fun o18 =>
    if 0 ≤ o18 ∧ o18 < 5670 then
    let N20 : NN := m_up N 66 o18.toNat (-1)
    Option.bind (f_X12_debtAt X N20 a6 a2) (fun o21 =>
    if 0 ≤ o21 ∧ o21 < 5670 then
    let N23 : NN := m_up N20 66 o21.toNat (-1)
    some (.inl (N23, a1, a2, m_w (a6 + 1)))
    else none)
    else none)
  else
    some (.inr (N, a1, a2))
noncomputable def f_X12_wait1_l15_j181 (X : MX) (N : NN) (a1 : Int) (a2 : Int) : Option ((NN × Int × Int) ⊕ (NN × Int)) :=
  some (.inl (N, a1, m_w (a2 + 1)))
noncomputable def f_X12_wait1_l15_j130 (X : MX) (N : NN) (a2 : Int) (a3 : Int) (z0 : Int) (z1 : Int) : Option ((NN × Int × Int) ⊕ (NN × Int)) :=
  if 0 ≤ (m_w (a3 + 2)) ∧ (m_w (a3 + 2)) < 5670 then
  let N17 : NN := m_up N 66 ((m_w (a3 + 2)).toNat) 1
  Option.bind (lp (fun s => b_X12_wait1_144 X s.1 s.2.1 s.2.2.1 s.2.2.2) (N17, m_w (z0 + z1), a2, 0)) (fun o25 =>
  f_X12_wait1_l15_j181 X o25.1 o25.2.1 o25.2.2)
  else none
noncomputable def f_X12_wait1_l15_j105 (X : MX) (N : NN) (a1 : Int) (a2 : Int) (a3 : Int) (a4 : Int) (a5 : Int) (z1 : Int) (z2 : Int) : Option ((NN × Int × Int) ⊕ (NN × Int)) :=
  if 0 ≤ z1 ∧ z1 < 5670 then
  let N12 : NN := m_up N 66 z1.toNat z2
  if a4 < a5 then
    if 0 ≤ (m_w (a3 + 2)) ∧ (m_w (a3 + 2)) < 5670 then
    if (N12 66 ((m_w (a3 + 2)).toNat)) = 0 then
      f_X12_wait1_l15_j130 X N12 a2 a3 a1 1
    else
      f_X12_wait1_l15_j130 X N12 a2 a3 a1 0
    else none
  else
    f_X12_wait1_l15_j181 X N12 a1 a2
  else none
noncomputable def f_X12_wait1_l15_j62 (X : MX) (N : NN) (a1 : Int) (a2 : Int) (a3 : Int) (z0 : Int) (z1 : Int) : Option ((NN × Int × Int) ⊕ (NN × Int)) :=
  Option.bind (f_X12_within X N (m_w (z0 + z1)) 0 9999) (fun o7 =>
  Option.bind (f_X12_year X N) (fun o8 =>
  Option.bind (f_X12_costs X N a2 o8) (fun o9 =>
  if o7 < o9.1 then
    f_X12_wait1_l15_j105 X o9.2 a1 a2 a3 o7 o9.1 a3 0
  else
    f_X12_wait1_l15_j105 X o9.2 a1 a2 a3 o7 o9.1 a3 (m_w (o7 - o9.1)))))
noncomputable def b_X12_wait1_15 (X : MX) (N : NN) (a1 : Int) (a2 : Int) : Option ((NN × Int × Int) ⊕ (NN × Int)) :=
  if a2 < (N 66 0) then
    if 0 ≤ (m_w (9 + (m_w (6 * a2)))) ∧ (m_w (9 + (m_w (6 * a2)))) < 5670 then
    Option.bind (f_X12_is X N (N 64 40) a2) (fun o3 =>
    if o3 = 0 then
      if 0 ≤ (m_w ((m_w (9 + (m_w (6 * a2)))) + 1)) ∧ (m_w ((m_w (9 + (m_w (6 * a2)))) + 1)) < 5670 then
      f_X12_wait1_l15_j62 X N a1 a2 (m_w (9 + (m_w (6 * a2)))) (N 66 ((m_w (9 + (m_w (6 * a2)))).toNat)) (N 66 ((m_w ((m_w (9 + (m_w (6 * a2)))) + 1)).toNat))
      else none
    else
      f_X12_wait1_l15_j62 X N a1 a2 (m_w (9 + (m_w (6 * a2)))) (N 66 ((m_w (9 + (m_w (6 * a2)))).toNat)) 0)
    else none
  else
    some (.inr (N, a1))
noncomputable def f_X12_wait1_l189_j285 (X : MX) (N : NN) (a1 : Int) (a2 : Int) : Option ((NN × Int × Int) ⊕ (NN × Int)) :=
  some (.inl (N, a1, m_w (a2 + 1)))
noncomputable def b_X12_wait1_189 (X : MX) (N : NN) (a1 : Int) (a2 : Int) : Option ((NN × Int × Int) ⊕ (NN × Int)) :=
  if a2 < 36 then
    if 0 ≤ (m_w (141 + (m_w (2 * a2)))) ∧ (m_w (141 + (m_w (2 * a2)))) < 5670 then
    if (N 66 ((m_w (141 + (m_w (2 * a2)))).toNat)) = (-1) then
      f_X12_wait1_l189_j285 X N a1 a2
    else
      Option.bind (f_X12_year X N) (fun o28 =>
      if 0 ≤ (m_w ((m_w (141 + (m_w (2 * a2)))) + 1)) ∧ (m_w ((m_w (141 + (m_w (2 * a2)))) + 1)) < 5670 then
      if (m_w (o28 - (N 66 ((m_w ((m_w (141 + (m_w (2 * a2)))) + 1)).toNat)))) < (N 66 7) then
        f_X12_wait1_l189_j285 X N a1 a2
      else
        if 0 ≤ (m_w ((m_w (9 + (m_w (6 * (m_div a2 6))))) + 4)) ∧ (m_w ((m_w (9 + (m_w (6 * (m_div a2 6))))) + 4)) < 5670 then
        if 0 ≤ (m_w ((m_w (9 + (m_w (6 * (m_div a2 6))))) + 4)) ∧ (m_w ((m_w (9 + (m_w (6 * (m_div a2 6))))) + 4)) < 5670 then
        let N32 : NN := m_up N 66 ((m_w ((m_w (9 + (m_w (6 * (m_div a2 6))))) + 4)).toNat) (m_w ((N 66 ((m_w ((m_w (9 + (m_w (6 * (m_div a2 6))))) + 4)).toNat)) + 1))
        if 0 ≤ (m_w ((m_w (9 + (m_w (6 * (m_rem a2 6))))) + 5)) ∧ (m_w ((m_w (9 + (m_w (6 * (m_rem a2 6))))) + 5)) < 5670 then
        if 0 ≤ (m_w ((m_w (9 + (m_w (6 * (m_rem a2 6))))) + 5)) ∧ (m_w ((m_w (9 + (m_w (6 * (m_rem a2 6))))) + 5)) < 5670 then
        let N35 : NN := m_up N32 66 ((m_w ((m_w (9 + (m_w (6 * (m_rem a2 6))))) + 5)).toNat) (m_w ((N32 66 ((m_w ((m_w (9 + (m_w (6 * (m_rem a2 6))))) + 5)).toNat)) + 1))
        if 0 ≤ (m_w (141 + (m_w (2 * a2)))) ∧ (m_w (141 + (m_w (2 * a2)))) < 5670 then
        let N37 : NN := m_up N35 66 ((m_w (141 + (m_w (2 * a2)))).toNat) (-1)
        f_X12_wait1_l189_j285 X N37 a1 a2
        else none
        else none
        else none
        else none
        else none
      else none)
    else none
  else
    some (.inr (N, a1))
noncomputable def f_X12_wait1 (X : MX) (N : NN) : Option (Int × NN) :=
  let N1 : NN := m_up N 66 6 (m_w ((N 66 6) + 1))
  Option.bind (lp (fun s => b_X12_wait1_15 X s.1 s.2.1 s.2.2) (N1, 0, 0)) (fun o26 =>
  Option.bind (lp (fun s => b_X12_wait1_189 X s.1 s.2.1 s.2.2) (o26.1, o26.2, 0)) (fun o41 =>
  some (o41.2, o41.1)))
noncomputable def f_X12_waitNow (X : MX) (N : NN) : Option (Int × NN) :=
  Option.bind (f_X12_year X N) (fun o1 =>
  if o1 = 999 then
    some ((-3), N)
  else
    Option.bind (f_X12_remember X N 1) (fun o2 =>
    let N3 : NN := m_up o2 64 40 0
    Option.bind (f_X12_wait1 X N3) (fun o4 =>
    some (o4.1, o4.2))))
noncomputable def f_X12_await (X : MX) (N : NN) : Option (Int × NN) :=
  let N1 : NN := m_up N 64 0 0
  Option.bind (f_X12_waitNow X N1) (fun o2 =>
  Option.bind (f_X12_tell X o2.2 o2.1) (fun o3 =>
  some (o3.1, o3.2)))
noncomputable def f_X12_settled_j13 (X : MX) (N : NN) (a1 : Int) (z1 : Int) : Option (Int × NN) :=
  let N2 : NN := m_up N 64 8 z1
  Option.bind (f_X12_tell X N2 a1) (fun o3 =>
  some (o3.1, o3.2))
noncomputable def f_X12_settled (X : MX) (N : NN) (a1 : Int) : Option (Int × NN) :=
  if a1 < 0 then
    f_X12_settled_j13 X N a1 (N 64 8)
  else
    f_X12_settled_j13 X N a1 0
noncomputable def b_X12_back_39 (X : MX) (N : NN) (a1 : Int) (a2 : Int) : Option ((NN × Int × Int) ⊕ NN) :=
  if a2 < 5670 then
    if 0 ≤ (m_w ((m_w (5670 * a1)) + a2)) ∧ (m_w ((m_w (5670 * a1)) + a2)) < 11340 then
    if 0 ≤ a2 ∧ a2 < 5670 then
    let N8 : NN := m_up N 66 a2.toNat (N 67 ((m_w ((m_w (5670 * a1)) + a2)).toNat))
    some (.inl (N8, a1, m_w (a2 + 1)))
    else none
    else none
  else
    some (.inr N)
noncomputable def f_X12_back (X : MX) (N : NN) (a1 : Int) : Option (Int × NN) :=
  let N1 : NN := m_up N 64 0 0
  Option.bind (f_X12_in X N1 a1 0 1) (fun o2 =>
  if o2 = 0 then
    Option.bind (f_X12_tell X N1 (-1)) (fun o3 =>
    some (o3.1, o3.2))
  else
    if 0 ≤ a1 ∧ a1 < 2 then
    if (N1 68 a1.toNat) = 0 then
      Option.bind (f_X12_tell X N1 (-2)) (fun o5 =>
      some (o5.1, o5.2))
    else
      Option.bind (lp (fun s => b_X12_back_39 X s.1 s.2.1 s.2.2) (N1, a1, 0)) (fun o10 =>
      Option.bind (f_X12_settled X o10 0) (fun o11 =>
      some (o11.1, o11.2)))
    else none)
noncomputable def f_X12_beats_l34_j84 (X : MX) (N : NN) (a1 : Int) (a2 : Int) (a3 : Int) (a5 : Int) (z0 : Int) : Option ((NN × Int × Int × Int × Int × Int) ⊕ (NN × Int × Int × Int × Int)) :=
  some (.inl (N, a1, a2, a3, z0, m_w (a5 + 1)))
noncomputable def f_X12_beats_l34_j68 (X : MX) (N : NN) (a1 : Int) (a2 : Int) (a3 : Int) (a4 : Int) (a5 : Int) (z0 : Int) : Option ((NN × Int × Int × Int × Int × Int) ⊕ (NN × Int × Int × Int × Int)) :=
  if a4 < z0 then
    f_X12_beats_l34_j84 X N a1 a2 a3 a5 z0
  else
    f_X12_beats_l34_j84 X N a1 a2 a3 a5 a4
noncomputable def b_X12_beats_34 (X : MX) (N : NN) (a1 : Int) (a2 : Int) (a3 : Int) (a4 : Int) (a5 : Int) : Option ((NN × Int × Int × Int × Int × Int) ⊕ (NN × Int × Int × Int × Int)) :=
  if a5 < (N 66 1) then
    Option.bind (f_X12_ofGood X N a5 0) (fun o4 =>
    if o4 = a2 then
      Option.bind (f_X12_worthOf X N a5 a2 a1) (fun o5 =>
      f_X12_beats_l34_j68 X o5.2 a1 a2 a3 a4 a5 o5.1)
    else
      f_X12_beats_l34_j68 X N a1 a2 a3 a4 a5 (-1))
  else
    some (.inr (N, a1, a2, a3, a4))
noncomputable def f_X12_beats_l98_j145 (X : MX) (N : NN) (a1 : Int) (a2 : Int) (a3 : Int) (a4 : Int) (a5 : Int) (a6 : Int) : Option ((NN × Int × Int × Int × Int × Int × Int) ⊕ ((NN × Int × Int) ⊕ (NN × Int))) :=
  some (.inl (N, a1, a2, a3, a4, a5, m_w (a6 + 1)))
noncomputable def b_X12_beats_98 (X : MX) (N : NN) (a1 : Int) (a2 : Int) (a3 : Int) (a4 : Int) (a5 : Int) (a6 : Int) : Option ((NN × Int × Int × Int × Int × Int × Int) ⊕ ((NN × Int × Int) ⊕ (NN × Int))) :=
  if a6 < (N 66 1) then
    Option.bind (f_X12_ofGood X N a6 0) (fun o10 =>
    if o10 = a1 then
      Option.bind (f_X12_worthOf X N a6 a1 a2) (fun o11 =>
      if a4 < o11.1 then
        if a5 = a3 then
          some (.inr (.inr (o11.2, a6)))
        else
          f_X12_beats_l98_j145 X o11.2 a1 a2 a3 a4 (m_w (a5 + 1)) a6
      else
        f_X12_beats_l98_j145 X o11.2 a1 a2 a3 a4 a5 a6)
    else
      f_X12_beats_l98_j145 X N a1 a2 a3 a4 a5 a6)
  else
    some (.inr (.inl (N, a3, a5)))
noncomputable def f_X12_beats_j26 (X : MX) (N : NN) : Option (Int × NN) :=
  some ((-1), N)
noncomputable def f_X12_beats_j162 (X : MX) (N : NN) (z0 : Int) : Option (Int × NN) :=
  some (z0, N)
noncomputable def f_X12_beats (X : MX) (N : NN) (a1 : Int) (a2 : Int) (a3 : Int) : Option (Int × NN) :=
  let N1 : NN := m_up N 64 0 0
  Option.bind (f_X12_isLord X N1 a1) (fun o2 =>
  if o2 = 0 then
    f_X12_beats_j26 X N1
  else
    Option.bind (f_X12_isLord X N1 a2) (fun o3 =>
    if o3 = 0 then
      f_X12_beats_j26 X N1
    else
      if a1 = a2 then
        f_X12_beats_j26 X N1
      else
        Option.bind (lp (fun s => b_X12_beats_34 X s.1 s.2.1 s.2.2.1 s.2.2.2.1 s.2.2.2.2.1 s.2.2.2.2.2) (N1, a1, a2, a3, (-1), 0)) (fun o9 =>
        Option.bind (lp (fun s => b_X12_beats_98 X s.1 s.2.1 s.2.2.1 s.2.2.2.1 s.2.2.2.2.1 s.2.2.2.2.2.1 s.2.2.2.2.2.2) (o9.1, o9.2.1, o9.2.2.1, o9.2.2.2.1, o9.2.2.2.2, 0, 0)) (fun o16 =>
          match o16 with
          | .inl e16 =>
              if e16.2.1 = (-1) then
                f_X12_beats_j162 X e16.1 e16.2.2
              else
                f_X12_beats_j162 X e16.1 (-1)
          | .inr e16 =>
              some (e16.2, e16.1)))))
noncomputable def f_X12_isDigit_j17 (X : MX) (N : NN) (z0 : Int) : Option Int :=
  if 0 ≤ z0 ∧ z0 ≤ 1 then
  some z0
  else none
noncomputable def f_X12_isDigit_j16 (X : MX) (N : NN) : Option Int :=
  f_X12_isDigit_j17 X N 0
noncomputable def f_X12_isDigit (X : MX) (N : NN) (a0 : Int) : Option Int :=
  if a0 < 48 then
    f_X12_isDigit_j16 X N
  else
    if 57 < a0 then
      f_X12_isDigit_j16 X N
    else
      f_X12_isDigit_j17 X N 1
noncomputable def f_X12_isSmall_j17 (X : MX) (N : NN) (z0 : Int) : Option Int :=
  if 0 ≤ z0 ∧ z0 ≤ 1 then
  some z0
  else none
noncomputable def f_X12_isSmall_j16 (X : MX) (N : NN) : Option Int :=
  f_X12_isSmall_j17 X N 0
noncomputable def f_X12_isSmall (X : MX) (N : NN) (a0 : Int) : Option Int :=
  if a0 < 97 then
    f_X12_isSmall_j16 X N
  else
    if 122 < a0 then
      f_X12_isSmall_j16 X N
    else
      f_X12_isSmall_j17 X N 1
noncomputable def b_X12_next_8 (X : MX) (N : NN) : Option (NN ⊕ NN) :=
  if (N 64 14) < (N 64 13) then
    if 0 ≤ (N 64 14) ∧ (N 64 14) < 400 then
    if (N 73 ((N 64 14).toNat)) = 32 then
      let N3 : NN := m_up N 64 14 (m_w ((N 64 14) + 1))
      some (.inl N3)
    else
      some (.inr N)
    else none
  else
    some (.inr N)
noncomputable def f_X12_next_l149_j227 (X : MX) (N : NN) (z1 : Int) : Option (NN ⊕ NN) :=
  let N28 : NN := m_up N 64 17 z1
  let N29 : NN := m_up N28 64 15 (m_w ((N28 64 15) + 1))
  some (.inl N29)
noncomputable def b_X12_next_149 (X : MX) (N : NN) : Option (NN ⊕ NN) :=
  if (N 64 16) = 1 then
    if (N 64 15) < (N 64 13) then
      if 0 ≤ (N 64 15) ∧ (N 64 15) < 400 then
      Option.bind (f_X12_isSmall X N (N 73 ((N 64 15).toNat))) (fun o22 =>
      if o22 = 0 then
        some (.inr N)
      else
        if (m_w ((N 64 15) - (N 64 14))) < 10 then
          if 0 ≤ (N 64 15) ∧ (N 64 15) < 400 then
          f_X12_next_l149_j227 X N (m_wl ((m_wl ((m_wl ((N 64 17) * 32)) + (N 73 ((N 64 15).toNat)))) - 96))
          else none
        else
          f_X12_next_l149_j227 X N (-1))
      else none
    else
      some (.inr N)
  else
    some (.inr N)
noncomputable def f_X12_next_l243_j319 (X : MX) (N : NN) (z1 : Int) : Option (NN ⊕ NN) :=
  let N38 : NN := m_up N 64 17 z1
  let N39 : NN := m_up N38 64 15 (m_w ((N38 64 15) + 1))
  some (.inl N39)
noncomputable def b_X12_next_243 (X : MX) (N : NN) : Option (NN ⊕ NN) :=
  if (N 64 16) = 2 then
    if (N 64 15) < (N 64 13) then
      if 0 ≤ (N 64 15) ∧ (N 64 15) < 400 then
      Option.bind (f_X12_isDigit X N (N 73 ((N 64 15).toNat))) (fun o32 =>
      if o32 = 0 then
        some (.inr N)
      else
        if 0 < (m_lcmp (N 64 17) 1000000) then
          f_X12_next_l243_j319 X N (N 64 17)
        else
          if 0 ≤ (N 64 15) ∧ (N 64 15) < 400 then
          f_X12_next_l243_j319 X N (m_wl ((m_wl ((m_wl ((N 64 17) * 10)) + (N 73 ((N 64 15).toNat)))) - 48))
          else none)
      else none
    else
      some (.inr N)
  else
    some (.inr N)
noncomputable def f_X12_next_j149 (X : MX) (N : NN) : Option NN :=
  Option.bind (lp (fun s => b_X12_next_149 X s) N) (fun o30 =>
  Option.bind (lp (fun s => b_X12_next_243 X s) o30) (fun o40 =>
  some o40))
noncomputable def f_X12_next_j114 (X : MX) (N : NN) (z1 : Int) : Option NN :=
  let N16 : NN := m_up N 64 16 z1
  if (N16 64 16) = 3 then
    if 0 ≤ (N16 64 14) ∧ (N16 64 14) < 400 then
    let N18 : NN := m_up N16 64 17 (N16 73 ((N16 64 14).toNat))
    let N19 : NN := m_up N18 64 15 (m_w ((N18 64 15) + 1))
    f_X12_next_j149 X N19
    else none
  else
    f_X12_next_j149 X N16
noncomputable def f_X12_next (X : MX) (N : NN) : Option NN :=
  let N1 : NN := m_up N 64 14 (N 64 15)
  Option.bind (lp (fun s => b_X12_next_8 X s) N1) (fun o6 =>
  let N7 : NN := m_up o6 64 15 (o6 64 14)
  let N8 : NN := m_up N7 64 17 0
  if (N8 64 14) = (N8 64 13) then
    f_X12_next_j114 X N8 0
  else
    if 0 ≤ (N8 64 14) ∧ (N8 64 14) < 400 then
    Option.bind (f_X12_isSmall X N8 (N8 73 ((N8 64 14).toNat))) (fun o10 =>
    if o10 = 0 then
      if 0 ≤ (N8 64 14) ∧ (N8 64 14) < 400 then
      Option.bind (f_X12_isDigit X N8 (N8 73 ((N8 64 14).toNat))) (fun o12 =>
      if o12 = 0 then
        f_X12_next_j114 X N8 3
      else
        f_X12_next_j114 X N8 2)
      else none
    else
      f_X12_next_j114 X N8 1)
    else none)
noncomputable def f_X12_begin (X : MX) (N : NN) : Option NN :=
  let N1 : NN := m_up N 64 15 0
  let N2 : NN := m_up N1 64 19 0
  let N3 : NN := m_up N2 64 18 (-1)
  Option.bind (f_X12_next X N3) (fun o4 =>
  some o4)
noncomputable def f_X12_beginText (X : MX) (N : NN) (a1 : Int) : Option NN :=
  if 0 ≤ a1 ∧ a1 ≤ 1 then
  let N2 : NN := m_up N 64 20 a1
  Option.bind (f_X12_begin X N2) (fun o3 =>
  let N4 : NN := m_up o3 64 21 0
  let N5 : NN := m_up N4 64 23 0
  let N6 : NN := m_up N5 64 26 0
  some N6)
  else none
noncomputable def f_X12_binds_j62 (X : MX) (N : NN) (z0 : Int) : Option Int :=
  some z0
noncomputable def f_X12_binds (X : MX) (N : NN) (a0 : Int) : Option Int :=
  if a0 < 31 then
    if a0 = 30 then
      f_X12_binds_j62 X N 1
    else
      if a0 = 29 then
        f_X12_binds_j62 X N 2
      else
        if a0 = 28 then
          f_X12_binds_j62 X N 3
        else
          if a0 < 25 then
            if a0 < 22 then
              f_X12_binds_j62 X N 5
            else
              f_X12_binds_j62 X N 6
          else
            f_X12_binds_j62 X N 4
  else
    f_X12_binds_j62 X N 0
noncomputable def f_X12_inner_l4_j33 (X : MX) (N : NN) (a2 : Int) (z0 : Int) : Option ((Int × Int) ⊕ Int) :=
  some (.inl (z0, m_w (a2 + 1)))
noncomputable def b_X12_inner_4 (X : MX) (N : NN) (a1 : Int) (a2 : Int) : Option ((Int × Int) ⊕ Int) :=
  if a2 < (N 64 29) then
    if 0 ≤ a2 ∧ a2 < 400 then
    if (N 77 a2.toNat) < 31 then
      f_X12_inner_l4_j33 X N a2 a1
    else
      if 0 ≤ a2 ∧ a2 < 400 then
      f_X12_inner_l4_j33 X N a2 (N 77 a2.toNat)
      else none
    else none
  else
    some (.inr a1)
noncomputable def f_X12_inner (X : MX) (N : NN) : Option Int :=
  Option.bind (lp (fun s => b_X12_inner_4 X N s.1 s.2) ((-1), 0)) (fun o5 =>
  some o5)
noncomputable def b_X12_isCompared_7 (X : MX) (N : NN) (a1 : Int) : Option (Int ⊕ Int) :=
  if a1 < 0 then
    some (.inr a1)
  else
    if 0 ≤ a1 ∧ a1 < 400 then
    Option.bind (f_X12_in X N (N 77 a1.toNat) 20 24) (fun o2 =>
    if o2 = 0 then
      some (.inr a1)
    else
      some (.inl (m_w (a1 + (-1)))))
    else none
noncomputable def f_X12_isCompared_j64 (X : MX) (N : NN) (z0 : Int) : Option Int :=
  if 0 ≤ z0 ∧ z0 ≤ 1 then
  some z0
  else none
noncomputable def f_X12_isCompared_j63 (X : MX) (N : NN) : Option Int :=
  f_X12_isCompared_j64 X N 0
noncomputable def f_X12_isCompared (X : MX) (N : NN) : Option Int :=
  Option.bind (lp (fun s => b_X12_isCompared_7 X N s) (m_w ((N 64 29) - 1))) (fun o5 =>
  if o5 < 0 then
    f_X12_isCompared_j63 X N
  else
    if 0 ≤ o5 ∧ o5 < 400 then
    Option.bind (f_X12_in X N (N 77 o5.toNat) 25 27) (fun o7 =>
    if o7 = 0 then
      f_X12_isCompared_j63 X N
    else
      f_X12_isCompared_j64 X N 1)
    else none)
noncomputable def f_X12_isSign_j23 (X : MX) (N : NN) (z0 : Int) : Option Int :=
  if 0 ≤ z0 ∧ z0 ≤ 1 then
  some z0
  else none
noncomputable def f_X12_isSign_j22 (X : MX) (N : NN) : Option Int :=
  f_X12_isSign_j23 X N 0
noncomputable def f_X12_isSign (X : MX) (N : NN) (a1 : Int) : Option Int :=
  if (N 64 16) = 3 then
    if (m_lcmp (N 64 17) a1) = 0 then
      f_X12_isSign_j23 X N 1
    else
      f_X12_isSign_j22 X N
  else
    f_X12_isSign_j22 X N
noncomputable def f_X12_must_j24 (X : MX) (N : NN) : Option NN :=
  if (N 64 19) = 0 then
    Option.bind (f_X12_next X N) (fun o5 =>
    some o5)
  else
    some N
noncomputable def f_X12_must (X : MX) (N : NN) (a1 : Int) : Option NN :=
  if (N 64 19) = 0 then
    if a1 = 0 then
      let N1 : NN := m_up N 64 19 1
      let N2 : NN := m_up N1 64 18 (N1 64 14)
      f_X12_must_j24 X N2
    else
      f_X12_must_j24 X N
  else
    f_X12_must_j24 X N
noncomputable def f_X12_push (X : MX) (N : NN) (a1 : Int) (a2 : Int) : Option NN :=
  if 0 ≤ (N 64 29) ∧ (N 64 29) < 400 then
  let N2 : NN := m_up N 77 ((N 64 29).toNat) a1
  if 0 ≤ (N2 64 29) ∧ (N2 64 29) < 400 then
  let N4 : NN := m_up N2 78 ((N2 64 29).toNat) a2
  let N5 : NN := m_up N4 64 29 (m_w ((N4 64 29) + 1))
  some N5
  else none
  else none
noncomputable def f_X12_emit (X : MX) (N : NN) (a1 : Int) (a2 : Int) : Option NN :=
  if 0 ≤ (N 64 23) ∧ (N 64 23) < 400 then
  let N2 : NN := m_up N 75 ((N 64 23).toNat) a1
  if 0 ≤ (N2 64 23) ∧ (N2 64 23) < 400 then
  let N4 : NN := m_up N2 76 ((N2 64 23).toNat) a2
  let N5 : NN := m_up N4 64 23 (m_w ((N4 64 23) + 1))
  some N5
  else none
  else none
noncomputable def f_X12_settle_l0_j63 (X : MX) (N : NN) (a1 : Int) : Option ((NN × Int) ⊕ NN) :=
  if 0 ≤ (N 64 29) ∧ (N 64 29) < 400 then
  if 0 ≤ (N 78 ((N 64 29).toNat)) ∧ (N 78 ((N 64 29).toNat)) < 400 then
  let N14 : NN := m_up N 76 ((N 78 ((N 64 29).toNat)).toNat) (N 64 23)
  some (.inl (N14, a1))
  else none
  else none
noncomputable def b_X12_settle_0 (X : MX) (N : NN) (a1 : Int) : Option ((NN × Int) ⊕ NN) :=
  if 0 < (N 64 29) then
    if 0 ≤ (m_w ((N 64 29) - 1)) ∧ (m_w ((N 64 29) - 1)) < 400 then
    Option.bind (f_X12_binds X N (N 77 ((m_w ((N 64 29) - 1)).toNat))) (fun o2 =>
    if o2 < a1 then
      some (.inr N)
    else
      let N3 : NN := m_up N 64 29 (m_w ((N 64 29) - 1))
      if 0 ≤ (N3 64 29) ∧ (N3 64 29) < 400 then
      if (N3 77 ((N3 64 29).toNat)) = 29 then
        f_X12_settle_l0_j63 X N3 a1
      else
        if 0 ≤ (N3 64 29) ∧ (N3 64 29) < 400 then
        if (N3 77 ((N3 64 29).toNat)) = 30 then
          f_X12_settle_l0_j63 X N3 a1
        else
          if 0 ≤ (N3 64 29) ∧ (N3 64 29) < 400 then
          Option.bind (f_X12_emit X N3 (N3 77 ((N3 64 29).toNat)) 0) (fun o7 =>
          some (.inl (o7, a1)))
          else none
        else none
      else none)
    else none
  else
    some (.inr N)
noncomputable def f_X12_settle (X : MX) (N : NN) (a1 : Int) : Option NN :=
  Option.bind (lp (fun s => b_X12_settle_0 X s.1 s.2) (N, a1)) (fun o15 =>
  some o15)
noncomputable def f_X12_behindSum_j245 (X : MX) (N : NN) : Option (Int × NN) :=
  some (1, N)
noncomputable def f_X12_behindSum_j224 (X : MX) (N : NN) (a2 : Int) (z1 : Int) : Option (Int × NN) :=
  Option.bind (f_X12_must X N z1) (fun o35 =>
  if (o35 64 19) = 0 then
    Option.bind (f_X12_settle X o35 5) (fun o36 =>
    Option.bind (f_X12_push X o36 a2 0) (fun o37 =>
    f_X12_behindSum_j245 X o37))
  else
    f_X12_behindSum_j245 X o35)
noncomputable def f_X12_behindSum_j219 (X : MX) (N : NN) (a2 : Int) : Option (Int × NN) :=
  f_X12_behindSum_j224 X N a2 1
noncomputable def f_X12_behindSum_j202 (X : MX) (N : NN) (z0 : Int) : Option (Int × NN) :=
  if z0 = 27 then
    Option.bind (f_X12_isSign X N 61) (fun o32 =>
    if o32 = 0 then
      f_X12_behindSum_j224 X N z0 0
    else
      f_X12_behindSum_j219 X N z0)
  else
    f_X12_behindSum_j219 X N z0
noncomputable def f_X12_behindSum_j163 (X : MX) (N : NN) : Option (Int × NN) :=
  Option.bind (f_X12_isCompared X N) (fun o26 =>
  if o26 = 0 then
    Option.bind (f_X12_isSign X N 60) (fun o27 =>
    if o27 = 0 then
      Option.bind (f_X12_isSign X N 62) (fun o28 =>
      if o28 = 0 then
        f_X12_behindSum_j202 X N 27
      else
        f_X12_behindSum_j202 X N 26)
    else
      f_X12_behindSum_j202 X N 25)
  else
    some (2, N))
noncomputable def f_X12_behindSum_j150 (X : MX) (N : NN) : Option (Int × NN) :=
  some (3, N)
noncomputable def f_X12_behindSum_j71 (X : MX) (N : NN) (a1 : Int) (z0 : Int) : Option (Int × NN) :=
  if z0 = (-1) then
    Option.bind (f_X12_inner X N) (fun o11 =>
    if o11 = 32 then
      Option.bind (f_X12_isSign X N 93) (fun o12 =>
      Option.bind (f_X12_must X N o12) (fun o13 =>
      if (o13 64 19) = 0 then
        Option.bind (f_X12_settle X o13 5) (fun o14 =>
        let N15 : NN := m_up o14 64 29 (m_w ((o14 64 29) - 1))
        let N16 : NN := m_up N15 64 30 (m_w ((N15 64 30) - 1))
        f_X12_behindSum_j150 X N16)
      else
        f_X12_behindSum_j150 X o13))
    else
      if o11 = (-1) then
        if a1 = 0 then
          some (4, N)
        else
          f_X12_behindSum_j163 X N
      else
        f_X12_behindSum_j163 X N)
  else
    Option.bind (f_X12_binds X N z0) (fun o21 =>
    Option.bind (f_X12_settle X N o21) (fun o22 =>
    Option.bind (f_X12_push X o22 z0 0) (fun o23 =>
    Option.bind (f_X12_next X o23) (fun o24 =>
    some (1, o24)))))
noncomputable def f_X12_behindSum (X : MX) (N : NN) (a1 : Int) : Option (Int × NN) :=
  Option.bind (f_X12_isSign X N 43) (fun o1 =>
  if o1 = 0 then
    Option.bind (f_X12_isSign X N 45) (fun o2 =>
    if o2 = 0 then
      Option.bind (f_X12_isSign X N 42) (fun o3 =>
      if o3 = 0 then
        Option.bind (f_X12_isSign X N 47) (fun o4 =>
        if o4 = 0 then
          Option.bind (f_X12_isSign X N 37) (fun o5 =>
          if o5 = 0 then
            f_X12_behindSum_j71 X N a1 (-1)
          else
            f_X12_behindSum_j71 X N a1 24)
        else
          f_X12_behindSum_j71 X N a1 23)
      else
        f_X12_behindSum_j71 X N a1 22)
    else
      f_X12_behindSum_j71 X N a1 21)
  else
    f_X12_behindSum_j71 X N a1 20)
noncomputable def f_X12_isWord_j22 (X : MX) (N : NN) (z0 : Int) : Option Int :=
  if 0 ≤ z0 ∧ z0 ≤ 1 then
  some z0
  else none
noncomputable def f_X12_isWord_j21 (X : MX) (N : NN) : Option Int :=
  f_X12_isWord_j22 X N 0
noncomputable def f_X12_isWord (X : MX) (N : NN) (a1 : Int) : Option Int :=
  if (N 64 16) = 1 then
    if (m_lcmp (N 64 17) a1) = 0 then
      f_X12_isWord_j22 X N 1
    else
      f_X12_isWord_j21 X N
  else
    f_X12_isWord_j21 X N
noncomputable def f_X12_behindTest_j66 (X : MX) (N : NN) (z1 : Int) : Option (Int × NN) :=
  Option.bind (f_X12_emit X N z1 0) (fun o18 =>
  Option.bind (f_X12_next X o18) (fun o19 =>
  some (0, o19)))
noncomputable def f_X12_behindTest_j47 (X : MX) (N : NN) (a1 : Int) (z1 : Int) : Option (Int × NN) :=
  Option.bind (f_X12_push X N z1 (N 64 23)) (fun o16 =>
  if a1 = 0 then
    f_X12_behindTest_j66 X o16 30
  else
    f_X12_behindTest_j66 X o16 29)
noncomputable def f_X12_behindTest_j32 (X : MX) (N : NN) (a1 : Int) (z1 : Int) : Option (Int × NN) :=
  Option.bind (f_X12_settle X N z1) (fun o14 =>
  if a1 = 0 then
    f_X12_behindTest_j47 X o14 a1 30
  else
    f_X12_behindTest_j47 X o14 a1 29)
noncomputable def f_X12_behindTest_j22 (X : MX) (N : NN) (a1 : Int) : Option (Int × NN) :=
  if a1 = 0 then
    f_X12_behindTest_j32 X N a1 1
  else
    f_X12_behindTest_j32 X N a1 2
noncomputable def f_X12_behindTest_j128 (X : MX) (N : NN) : Option (Int × NN) :=
  some (2, N)
noncomputable def f_X12_behindTest (X : MX) (N : NN) : Option (Int × NN) :=
  Option.bind (f_X12_isWord X N 1476) (fun o1 =>
  if o1 = 0 then
    Option.bind (f_X12_isWord X N 498) (fun o2 =>
    if o2 = 0 then
      Option.bind (f_X12_inner X N) (fun o3 =>
      if o3 = (-1) then
        some (4, N)
      else
        Option.bind (f_X12_isSign X N 41) (fun o4 =>
        Option.bind (f_X12_must X N o4) (fun o5 =>
        if (o5 64 19) = 0 then
          Option.bind (f_X12_settle X o5 1) (fun o6 =>
          let N7 : NN := m_up o6 64 29 (m_w ((o6 64 29) - 1))
          let N8 : NN := m_up N7 64 30 (m_w ((N7 64 30) - 1))
          f_X12_behindTest_j128 X N8)
        else
          f_X12_behindTest_j128 X o5)))
    else
      f_X12_behindTest_j22 X N o1)
  else
    f_X12_behindTest_j22 X N o1)
noncomputable def f_X12_toldBy (X : MX) (N : NN) (a1 : Int) (a2 : Int) : Option (Int × NN) :=
  Option.bind (f_X12_year X N) (fun o1 =>
  Option.bind (f_X12_ofGood X N a2 2) (fun o2 =>
  Option.bind (f_X12_tells1 X N 0 a2 (-1) (-1) a1 o1 o2) (fun o3 =>
  Option.bind (f_X12_within X o3.2 o3.1 0 999) (fun o4 =>
  some (o4, o3.2)))))
noncomputable def b_X12_middle_44 (X : MX) (N : NN) (a1 : Int) (a2 : Int) (a3 : Int) (a4 : Int) (a5 : Int) (a6 : Int) (a7 : Int) : Option ((NN × Int × Int × Int × Int × Int × Int × Int) ⊕ (NN × Int × Int × Int × Int × Int × Int × Int)) :=
  if 0 < a7 then
    if 0 ≤ (m_w (a7 - 1)) ∧ (m_w (a7 - 1)) < 5 then
    if a6 < (N 92 ((m_w (a7 - 1)).toNat)) then
      if 0 ≤ (m_w (a7 - 1)) ∧ (m_w (a7 - 1)) < 5 then
      if 0 ≤ a7 ∧ a7 < 5 then
      let N8 : NN := m_up N 92 a7.toNat (N 92 ((m_w (a7 - 1)).toNat))
      some (.inl (N8, a1, a2, a3, a4, a5, a6, m_w (a7 + (-1))))
      else none
      else none
    else
      some (.inr (N, a1, a2, a3, a4, a5, a6, a7))
    else none
  else
    some (.inr (N, a1, a2, a3, a4, a5, a6, a7))
noncomputable def f_X12_middle_l11_j38 (X : MX) (N : NN) (a1 : Int) (a2 : Int) (a3 : Int) (a4 : Int) (a5 : Int) (z0 : Int) : Option ((NN × Int × Int × Int × Int × Int) ⊕ (NN × Int)) :=
  Option.bind (lp (fun s => b_X12_middle_44 X s.1 s.2.1 s.2.2.1 s.2.2.2.1 s.2.2.2.2.1 s.2.2.2.2.2.1 s.2.2.2.2.2.2.1 s.2.2.2.2.2.2.2) (N, a1, a2, a3, a4, a5, z0, a5)) (fun o11 =>
  if 0 ≤ o11.2.2.2.2.2.2.2 ∧ o11.2.2.2.2.2.2.2 < 5 then
  let N13 : NN := m_up o11.1 92 o11.2.2.2.2.2.2.2.toNat o11.2.2.2.2.2.2.1
  some (.inl (N13, o11.2.1, o11.2.2.1, o11.2.2.2.1, o11.2.2.2.2.1, m_w (o11.2.2.2.2.2.1 + 1)))
  else none)
noncomputable def b_X12_middle_11 (X : MX) (N : NN) (a1 : Int) (a2 : Int) (a3 : Int) (a4 : Int) (a5 : Int) : Option ((NN × Int × Int × Int × Int × Int) ⊕ (NN × Int)) :=
  if a5 < a4 then
    Option.bind (f_X12_is X N a2 a5) (fun o1 =>
    if o1 = 0 then
      Option.bind (f_X12_toldBy X N a5 a1) (fun o2 =>
      f_X12_middle_l11_j38 X o2.2 a1 a2 a3 a4 a5 o2.1)
    else
      f_X12_middle_l11_j38 X N a1 a2 a3 a4 a5 a3)
  else
    some (.inr (N, a4))
noncomputable def f_X12_middle_j120 (X : MX) (N : NN) (z0 : Int) : Option (Int × NN) :=
  some (z0, N)
noncomputable def f_X12_middle (X : MX) (N : NN) (a1 : Int) (a2 : Int) (a3 : Int) : Option (Int × NN) :=
  Option.bind (lp (fun s => b_X12_middle_11 X s.1 s.2.1 s.2.2.1 s.2.2.2.1 s.2.2.2.2.1 s.2.2.2.2.2) (N, a1, a2, a3, N 66 2, 0)) (fun o14 =>
  if o14.2 = 0 then
    f_X12_middle_j120 X o14.1 (-1)
  else
    if 0 ≤ (m_div (m_w (o14.2 - 1)) 2) ∧ (m_div (m_w (o14.2 - 1)) 2) < 5 then
    f_X12_middle_j120 X o14.1 (o14.1 92 ((m_div (m_w (o14.2 - 1)) 2).toNat))
    else none)
noncomputable def f_X12_bribe_l108_j184 (X : MX) (N : NN) (a1 : Int) (a3 : Int) (a4 : Int) (a5 : Int) (a6 : Int) (a7 : Int) (a8 : Int) (a10 : Int) (a11 : Int) (z0 : Int) (z1 : Int) : Option ((NN × Int × Int × Int × Int × Int × Int × Int × Int × Int × Int) ⊕ (NN × Int × Int × Int × Int × Int × Int × Int × Int × Int)) :=
  some (.inl (N, a1, a3, a4, a5, a6, a7, a8, m_w (z0 + z1), a10, m_w (a11 + 1)))
noncomputable def f_X12_bribe_l108_j152 (X : MX) (N : NN) (a1 : Int) (a3 : Int) (a4 : Int) (a5 : Int) (a6 : Int) (a7 : Int) (a8 : Int) (a9 : Int) (a11 : Int) (a12 : Int) (z0 : Int) : Option ((NN × Int × Int × Int × Int × Int × Int × Int × Int × Int × Int) ⊕ (NN × Int × Int × Int × Int × Int × Int × Int × Int × Int)) :=
  Option.bind (f_X12_is X N a8 a11) (fun o15 =>
  if o15 = 0 then
    f_X12_bribe_l108_j184 X N a1 a3 a4 a5 a6 a7 a8 z0 a11 a9 0
  else
    if 0 ≤ (m_w (213 + a11)) ∧ (m_w (213 + a11)) < 5670 then
    f_X12_bribe_l108_j184 X N a1 a3 a4 a5 a6 a7 a8 z0 a11 a9 (m_w (a12 * (N 66 ((m_w (213 + a11)).toNat))))
    else none)
noncomputable def f_X12_bribe_l108_j151 (X : MX) (N : NN) (a1 : Int) (a3 : Int) (a4 : Int) (a5 : Int) (a6 : Int) (a7 : Int) (a8 : Int) (a9 : Int) (a11 : Int) (a12 : Int) : Option ((NN × Int × Int × Int × Int × Int × Int × Int × Int × Int × Int) ⊕ (NN × Int × Int × Int × Int × Int × Int × Int × Int × Int)) :=
  f_X12_bribe_l108_j152 X N a1 a3 a4 a5 a6 a7 a8 a9 a11 a12 0
noncomputable def f_X12_bribe_l108_j147 (X : MX) (N : NN) (a1 : Int) (a3 : Int) (a4 : Int) (a5 : Int) (a6 : Int) (a7 : Int) (a8 : Int) (a9 : Int) (a11 : Int) (a12 : Int) : Option ((NN × Int × Int × Int × Int × Int × Int × Int × Int × Int × Int) ⊕ (NN × Int × Int × Int × Int × Int × Int × Int × Int × Int)) :=
  f_X12_bribe_l108_j152 X N a1 a3 a4 a5 a6 a7 a8 a9 a11 a12 1
noncomputable def b_X12_bribe_108 (X : MX) (N : NN) (a1 : Int) (a3 : Int) (a4 : Int) (a5 : Int) (a6 : Int) (a7 : Int) (a8 : Int) (a9 : Int) (a10 : Int) (a11 : Int) : Option ((NN × Int × Int × Int × Int × Int × Int × Int × Int × Int × Int) ⊕ (NN × Int × Int × Int × Int × Int × Int × Int × Int × Int)) :=
  if a11 < a4 then
    Option.bind (f_X12_toldBy X N a11 a1) (fun o9 =>
    if a10 = 0 then
      f_X12_bribe_l108_j151 X o9.2 a1 a3 a4 a5 a6 a7 a8 a9 a11 (m_w (a5 - o9.1))
    else
      Option.bind (f_X12_is X o9.2 a8 a11) (fun o10 =>
      if o10 = 0 then
        f_X12_bribe_l108_j147 X o9.2 a1 a3 a4 a5 a6 a7 a8 a9 a11 (m_w (a5 - o9.1))
      else
        if 0 < (m_w (a5 - o9.1)) then
          f_X12_bribe_l108_j147 X o9.2 a1 a3 a4 a5 a6 a7 a8 a9 a11 (m_w (a5 - o9.1))
        else
          f_X12_bribe_l108_j151 X o9.2 a1 a3 a4 a5 a6 a7 a8 a9 a11 (m_w (a5 - o9.1))))
  else
    some (.inr (N, a1, a3, a4, a5, a6, a7, a8, a9, a10))
noncomputable def f_X12_bribe_l73_j227 (X : MX) (N : NN) (a1 : Int) (a3 : Int) (a4 : Int) (a5 : Int) (a6 : Int) (a7 : Int) (a8 : Int) : Option ((NN × Int × Int × Int × Int × Int × Int × Int) ⊕ (NN × Int × Int × Int)) :=
  some (.inl (N, a1, a3, a4, a5, a6, a7, m_w (a8 + 1)))
noncomputable def f_X12_bribe_l73_j103 (X : MX) (N : NN) (a1 : Int) (a3 : Int) (a4 : Int) (a5 : Int) (a6 : Int) (a7 : Int) (a8 : Int) (a9 : Int) (z0 : Int) : Option ((NN × Int × Int × Int × Int × Int × Int × Int) ⊕ (NN × Int × Int × Int)) :=
  Option.bind (lp (fun s => b_X12_bribe_108 X s.1 s.2.1 s.2.2.1 s.2.2.2.1 s.2.2.2.2.1 s.2.2.2.2.2.1 s.2.2.2.2.2.2.1 s.2.2.2.2.2.2.2.1 s.2.2.2.2.2.2.2.2.1 s.2.2.2.2.2.2.2.2.2.1 s.2.2.2.2.2.2.2.2.2.2) (N, a1, a3, a4, a5, a6, a7, a8, a9, z0, 0)) (fun o18 =>
  if o18.2.2.2.2.2.2.2.2.2 = 0 then
    f_X12_bribe_l73_j227 X o18.1 o18.2.1 o18.2.2.1 o18.2.2.2.1 o18.2.2.2.2.1 o18.2.2.2.2.2.1 o18.2.2.2.2.2.2.1 o18.2.2.2.2.2.2.2.1
  else
    if o18.2.2.2.2.2.2.2.2.1 < o18.2.2.2.2.2.1 then
      Option.bind (f_X12_middle X o18.1 o18.2.1 o18.2.2.2.2.2.2.2.1 o18.2.2.2.2.1) (fun o19 =>
      if o19.1 < o18.2.2.2.2.1 then
        f_X12_bribe_l73_j227 X o19.2 o18.2.1 o18.2.2.1 o18.2.2.2.1 o18.2.2.2.2.1 o18.2.2.2.2.2.1 o18.2.2.2.2.2.2.1 o18.2.2.2.2.2.2.2.1
      else
        f_X12_bribe_l73_j227 X o19.2 o18.2.1 o18.2.2.1 o18.2.2.2.1 o18.2.2.2.2.1 o18.2.2.2.2.2.2.2.2.1 o18.2.2.2.2.2.2.2.1 o18.2.2.2.2.2.2.2.1)
    else
      f_X12_bribe_l73_j227 X o18.1 o18.2.1 o18.2.2.1 o18.2.2.2.1 o18.2.2.2.2.1 o18.2.2.2.2.2.1 o18.2.2.2.2.2.2.1 o18.2.2.2.2.2.2.2.1)
noncomputable def f_X12_bribe_l73_j98 (X : MX) (N : NN) (a1 : Int) (a3 : Int) (a4 : Int) (a5 : Int) (a6 : Int) (a7 : Int) (a8 : Int) (a9 : Int) : Option ((NN × Int × Int × Int × Int × Int × Int × Int) ⊕ (NN × Int × Int × Int)) :=
  f_X12_bribe_l73_j103 X N a1 a3 a4 a5 a6 a7 a8 a9 1
noncomputable def b_X12_bribe_73 (X : MX) (N : NN) (a1 : Int) (a3 : Int) (a4 : Int) (a5 : Int) (a6 : Int) (a7 : Int) (a8 : Int) : Option ((NN × Int × Int × Int × Int × Int × Int × Int) ⊕ (NN × Int × Int × Int)) :=
  if a8 < (m_shl 1 a4) then
    if a8 = 0 then
      f_X12_bribe_l73_j98 X N a1 a3 a4 a5 a6 a7 a8 0
    else
      if 999 < a5 then
        f_X12_bribe_l73_j103 X N a1 a3 a4 a5 a6 a7 a8 0 0
      else
        f_X12_bribe_l73_j98 X N a1 a3 a4 a5 a6 a7 a8 0
  else
    some (.inr (N, a3, a6, a7))
noncomputable def f_X12_bribe_j49 (X : MX) (N : NN) : Option (Int × NN) :=
  some ((-1), N)
noncomputable def f_X12_bribe_j254 (X : MX) (N : NN) (z0 : Int) : Option (Int × NN) :=
  some (z0, N)
noncomputable def f_X12_bribe (X : MX) (N : NN) (a1 : Int) (a2 : Int) (a3 : Int) : Option (Int × NN) :=
  let N1 : NN := m_up N 64 0 0
  Option.bind (f_X12_isGood X N1 a1) (fun o2 =>
  if o2 = 0 then
    f_X12_bribe_j49 X N1
  else
    Option.bind (f_X12_isGood X N1 a2) (fun o3 =>
    if o3 = 0 then
      f_X12_bribe_j49 X N1
    else
      if a1 = a2 then
        f_X12_bribe_j49 X N1
      else
        Option.bind (f_X12_in X N1 a3 0 1) (fun o4 =>
        if o4 = 0 then
          f_X12_bribe_j49 X N1
        else
          if (N1 66 2) = 0 then
            f_X12_bribe_j49 X N1
          else
            Option.bind (f_X12_middle X N1 a2 0 0) (fun o5 =>
            Option.bind (lp (fun s => b_X12_bribe_73 X s.1 s.2.1 s.2.2.1 s.2.2.2.1 s.2.2.2.2.1 s.2.2.2.2.2.1 s.2.2.2.2.2.2.1 s.2.2.2.2.2.2.2) (o5.2, a1, a3, N1 66 2, m_w (o5.1 + 1), 100000000, (-1), 0)) (fun o23 =>
            if o23.2.2.2 = (-1) then
              f_X12_bribe_j254 X o23.1 (-1)
            else
              if o23.2.1 = 0 then
                f_X12_bribe_j254 X o23.1 o23.2.2.1
              else
                f_X12_bribe_j254 X o23.1 o23.2.2.2)))))
noncomputable def f_X12_canBe_j76 (X : MX) (N : NN) (z0 : Int) : Option Int :=
  if 0 ≤ z0 ∧ z0 ≤ 1 then
  some z0
  else none
noncomputable def f_X12_canBe_j75 (X : MX) (N : NN) : Option Int :=
  f_X12_canBe_j76 X N 0
noncomputable def f_X12_canBe (X : MX) (N : NN) (a1 : Int) : Option Int :=
  if 0 ≤ (m_div a1 6) ∧ (m_div a1 6) < 16 then
  Option.bind (f_X12_isLord X N (m_rem a1 6)) (fun o2 =>
  if o2 = 0 then
    f_X12_canBe_j75 X N
  else
    if (m_rem a1 6) = (N 98 ((m_div a1 6).toNat)) then
      f_X12_canBe_j75 X N
    else
      Option.bind (f_X12_ofLord X N (N 98 ((m_div a1 6).toNat)) 2) (fun o3 =>
      if o3 = 0 then
        Option.bind (f_X12_ofLord X N (m_rem a1 6) 2) (fun o4 =>
        if o4 = 0 then
          if 0 ≤ (m_w ((m_w ((m_w (36 * (m_div a1 6))) + (m_w (6 * (N 98 ((m_div a1 6).toNat)))))) + (m_rem a1 6))) ∧ (m_w ((m_w ((m_w (36 * (m_div a1 6))) + (m_w (6 * (N 98 ((m_div a1 6).toNat)))))) + (m_rem a1 6))) < 576 then
          if (N 97 ((m_w ((m_w ((m_w (36 * (m_div a1 6))) + (m_w (6 * (N 98 ((m_div a1 6).toNat)))))) + (m_rem a1 6))).toNat)) = 0 then
            f_X12_canBe_j76 X N 1
          else
            f_X12_canBe_j75 X N
          else none
        else
          f_X12_canBe_j75 X N)
      else
        f_X12_canBe_j75 X N))
  else none
noncomputable def f_X12_canGive_j55 (X : MX) (N : NN) (z0 : Int) : Option Int :=
  if 0 ≤ z0 ∧ z0 ≤ 1 then
  some z0
  else none
noncomputable def f_X12_canGive_j54 (X : MX) (N : NN) : Option Int :=
  f_X12_canGive_j55 X N 0
noncomputable def f_X12_canGive_j50 (X : MX) (N : NN) : Option Int :=
  f_X12_canGive_j55 X N 1
noncomputable def f_X12_canGive (X : MX) (N : NN) (a1 : Int) (a2 : Int) (a3 : Int) (a4 : Int) : Option Int :=
  if (m_div a4 6) = a3 then
    if 0 ≤ a4 ∧ a4 < 12 then
    if (N 84 a4.toNat) = (-1) then
      f_X12_canGive_j54 X N
    else
      Option.bind (f_X12_is X N a1 a4) (fun o2 =>
      if o2 = 0 then
        if a2 = (-1) then
          f_X12_canGive_j50 X N
        else
          if 0 ≤ a4 ∧ a4 < 12 then
          if 0 ≤ a2 ∧ a2 < 12 then
          if (N 85 a2.toNat) < (N 85 a4.toNat) then
            f_X12_canGive_j50 X N
          else
            f_X12_canGive_j54 X N
          else none
          else none
      else
        f_X12_canGive_j54 X N)
    else none
  else
    f_X12_canGive_j54 X N
noncomputable def f_X12_count_j199 (X : MX) (N : NN) (z0 : Int) : Option (Int × NN) :=
  some (z0, N)
noncomputable def f_X12_count (X : MX) (N : NN) (a1 : Int) : Option (Int × NN) :=
  let N1 : NN := m_up N 64 0 0
  if a1 = 0 then
    some (N1 66 0, N1)
  else
    if a1 = 1 then
      some (N1 66 1, N1)
    else
      if a1 = 2 then
        some (N1 66 2, N1)
      else
        if a1 = 3 then
          some (N1 66 3, N1)
        else
          if a1 = 4 then
            some (N1 66 4, N1)
          else
            if a1 = 5 then
              Option.bind (f_X12_allDebts X N1) (fun o2 =>
              some (o2, N1))
            else
              if a1 = 6 then
                some (N1 64 8, N1)
              else
                if a1 = 7 then
                  some (N1 64 13, N1)
                else
                  if a1 = 8 then
                    some (N1 65 1, N1)
                  else
                    if a1 = 9 then
                      some (N1 65 2, N1)
                    else
                      if a1 = 10 then
                        some (N1 65 3, N1)
                      else
                        if a1 = 11 then
                          some (N1 65 5, N1)
                        else
                          if a1 = 12 then
                            some (N1 65 6, N1)
                          else
                            if a1 = 13 then
                              some (N1 66 5, N1)
                            else
                              Option.bind (f_X12_in X N1 a1 14 16) (fun o3 =>
                              if o3 = 0 then
                                f_X12_count_j199 X N1 (-1)
                              else
                                if 0 ≤ (m_w ((m_w (6 + a1)) - 14)) ∧ (m_w ((m_w (6 + a1)) - 14)) < 5670 then
                                f_X12_count_j199 X N1 (N1 66 ((m_w ((m_w (6 + a1)) - 14)).toNat))
                                else none)
noncomputable def f_X12_debt_j31 (X : MX) (N : NN) : Option (Int × NN) :=
  some ((-1), N)
noncomputable def f_X12_debt_j64 (X : MX) (N : NN) (z0 : Int) : Option (Int × NN) :=
  some (z0, N)
noncomputable def f_X12_debt (X : MX) (N : NN) (a1 : Int) (a2 : Int) (a3 : Int) : Option (Int × NN) :=
  let N1 : NN := m_up N 64 0 0
  Option.bind (f_X12_isLord X N1 a1) (fun o2 =>
  if o2 = 0 then
    f_X12_debt_j31 X N1
  else
    Option.bind (f_X12_isLord X N1 a2) (fun o3 =>
    if o3 = 0 then
      f_X12_debt_j31 X N1
    else
      Option.bind (f_X12_in X N1 a3 0 1) (fun o4 =>
      if o4 = 0 then
        f_X12_debt_j31 X N1
      else
        Option.bind (f_X12_debtAt X N1 a1 a2) (fun o5 =>
        if 0 ≤ o5 ∧ o5 < 5670 then
        if (N1 66 o5.toNat) = (-1) then
          f_X12_debt_j64 X N1 (-1)
        else
          if 0 ≤ (m_w (o5 + a3)) ∧ (m_w (o5 + a3)) < 5670 then
          f_X12_debt_j64 X N1 (N1 66 ((m_w (o5 + a3)).toNat))
          else none
        else none))))
noncomputable def f_X12_draw (X : MX) (N : NN) (a1 : Int) : Option (Int × NN) :=
  let N1 : NN := m_up N 64 70 (m_lrem (m_wl ((m_wl ((N 64 70) * 1103)) + 12345)) 1000003)
  if a1 ≠ 0 then
  some (m_w (m_lrem (N1 64 70) a1), N1)
  else none
noncomputable def f_X12_drawn_j48 (X : MX) (N : NN) (z0 : Int) : Option (Int × NN) :=
  some (z0, N)
noncomputable def f_X12_drawn_j47 (X : MX) (N : NN) : Option (Int × NN) :=
  f_X12_drawn_j48 X N (-1)
noncomputable def f_X12_drawn (X : MX) (N : NN) (a1 : Int) (a2 : Int) : Option (Int × NN) :=
  let N1 : NN := m_up N 64 0 0
  Option.bind (f_X12_in X N1 a1 0 (m_wl ((N1 64 72) - 1))) (fun o2 =>
  if o2 = 0 then
    f_X12_drawn_j47 X N1
  else
    Option.bind (f_X12_in X N1 a2 0 6) (fun o3 =>
    if o3 = 0 then
      f_X12_drawn_j47 X N1
    else
      if 0 ≤ (m_w ((m_w (7 * a1)) + a2)) ∧ (m_w ((m_w (7 * a1)) + a2)) < 42 then
      f_X12_drawn_j48 X N1 (N1 103 ((m_w ((m_w (7 * a1)) + a2)).toNat))
      else none))
noncomputable def f_X12_dross (X : MX) (N : NN) : Option (Int × NN) :=
  let N1 : NN := m_up N 64 0 0
  some (N1 64 11, N1)
noncomputable def f_X12_grainLeft_l10_j47 (X : MX) (N : NN) (a1 : Int) (a2 : Int) (a4 : Int) (z0 : Int) (z1 : Int) : Option ((Int × Int × Int × Int) ⊕ Int) :=
  some (.inl (a1, a2, m_w (z0 - z1), m_w (a4 + 1)))
noncomputable def f_X12_grainLeft_l10_j46 (X : MX) (N : NN) (a1 : Int) (a2 : Int) (a4 : Int) (z0 : Int) : Option ((Int × Int × Int × Int) ⊕ Int) :=
  f_X12_grainLeft_l10_j47 X N a1 a2 a4 z0 0
noncomputable def b_X12_grainLeft_10 (X : MX) (N : NN) (a1 : Int) (a2 : Int) (a3 : Int) (a4 : Int) : Option ((Int × Int × Int × Int) ⊕ Int) :=
  if a4 < 12 then
    Option.bind (f_X12_is X N a1 a4) (fun o2 =>
    if o2 = 0 then
      f_X12_grainLeft_l10_j46 X N a1 a2 a4 a3
    else
      if (m_div a4 6) = a2 then
        f_X12_grainLeft_l10_j46 X N a1 a2 a4 a3
      else
        if 0 ≤ a4 ∧ a4 < 12 then
        f_X12_grainLeft_l10_j47 X N a1 a2 a4 a3 (N 86 a4.toNat)
        else none)
  else
    some (.inr a3)
noncomputable def f_X12_grainLeft (X : MX) (N : NN) (a1 : Int) (a2 : Int) : Option Int :=
  if 0 ≤ a2 ∧ a2 < 2 then
  Option.bind (lp (fun s => b_X12_grainLeft_10 X N s.1 s.2.1 s.2.2.1 s.2.2.2) (a1, a2, N 88 a2.toNat, 0)) (fun o7 =>
  some o7)
  else none
noncomputable def f_X12_isWon_j35 (X : MX) (N : NN) (z0 : Int) : Option Int :=
  if 0 ≤ z0 ∧ z0 ≤ 1 then
  some z0
  else none
noncomputable def f_X12_isWon_j30 (X : MX) (N : NN) : Option Int :=
  f_X12_isWon_j35 X N 1
noncomputable def f_X12_isWon (X : MX) (N : NN) (a1 : Int) (a2 : Int) (a3 : Int) : Option Int :=
  Option.bind (f_X12_grainLeft X N a1 (m_w (1 - a2))) (fun o1 =>
  if 0 ≤ a3 ∧ a3 < 12 then
  if o1 < (N 86 a3.toNat) then
    f_X12_isWon_j30 X N
  else
    if 0 ≤ (m_or a1 (m_shl 1 a3)) ∧ (m_or a1 (m_shl 1 a3)) < 4096 then
    if (N 87 ((m_or a1 (m_shl 1 a3)).toNat)) = 0 then
      f_X12_isWon_j30 X N
    else
      f_X12_isWon_j35 X N 0
    else none
  else none)
noncomputable def f_X12_lastOf_l4_j43 (X : MX) (N : NN) (a1 : Int) (a3 : Int) (z0 : Int) : Option ((Int × Int × Int) ⊕ Int) :=
  some (.inl (a1, z0, m_w (a3 + 1)))
noncomputable def f_X12_lastOf_l4_j42 (X : MX) (N : NN) (a1 : Int) (a2 : Int) (a3 : Int) : Option ((Int × Int × Int) ⊕ Int) :=
  f_X12_lastOf_l4_j43 X N a1 a3 a2
noncomputable def f_X12_lastOf_l4_j38 (X : MX) (N : NN) (a1 : Int) (a3 : Int) : Option ((Int × Int × Int) ⊕ Int) :=
  f_X12_lastOf_l4_j43 X N a1 a3 a3
noncomputable def b_X12_lastOf_4 (X : MX) (N : NN) (a1 : Int) (a2 : Int) (a3 : Int) : Option ((Int × Int × Int) ⊕ Int) :=
  if a3 < 12 then
    Option.bind (f_X12_is X N a1 a3) (fun o1 =>
    if o1 = 0 then
      f_X12_lastOf_l4_j42 X N a1 a2 a3
    else
      if a2 = (-1) then
        f_X12_lastOf_l4_j38 X N a1 a3
      else
        if 0 ≤ a3 ∧ a3 < 12 then
        if 0 ≤ a2 ∧ a2 < 12 then
        if (N 85 a2.toNat) < (N 85 a3.toNat) then
          f_X12_lastOf_l4_j38 X N a1 a3
        else
          f_X12_lastOf_l4_j42 X N a1 a2 a3
        else none
        else none)
  else
    some (.inr a2)
noncomputable def f_X12_lastOf (X : MX) (N : NN) (a1 : Int) : Option Int :=
  Option.bind (lp (fun s => b_X12_lastOf_4 X N s.1 s.2.1 s.2.2) (a1, (-1), 0)) (fun o8 =>
  some o8)
noncomputable def f_X12_findWins_l39_j84 (X : MX) (N : NN) (a1 : Int) (a2 : Int) (a3 : Int) (a5 : Int) (z0 : Int) : Option ((NN × Int × Int × Int × Int × Int) ⊕ (NN × Int × Int)) :=
  some (.inl (N, a1, a2, a3, z0, m_w (a5 + 1)))
noncomputable def f_X12_findWins_l39_j83 (X : MX) (N : NN) (a1 : Int) (a2 : Int) (a3 : Int) (a5 : Int) : Option ((NN × Int × Int × Int × Int × Int) ⊕ (NN × Int × Int)) :=
  f_X12_findWins_l39_j84 X N a1 a2 a3 a5 0
noncomputable def b_X12_findWins_39 (X : MX) (N : NN) (a1 : Int) (a2 : Int) (a3 : Int) (a4 : Int) (a5 : Int) : Option ((NN × Int × Int × Int × Int × Int) ⊕ (NN × Int × Int)) :=
  if a5 < (m_w ((m_w (6 * a3)) + 6)) then
    if a4 = 0 then
      Option.bind (f_X12_canGive X N a1 a2 a3 a5) (fun o4 =>
      if o4 = 0 then
        f_X12_findWins_l39_j83 X N a1 a2 a3 a5
      else
        Option.bind (f_X12_isWon X N a1 a3 a5) (fun o5 =>
        if o5 = 0 then
          f_X12_findWins_l39_j83 X N a1 a2 a3 a5
        else
          f_X12_findWins_l39_j84 X N a1 a2 a3 a5 1))
    else
      some (.inr (N, a1, a4))
  else
    some (.inr (N, a1, a4))
noncomputable def f_X12_findWins_l4_j29 (X : MX) (N : NN) (a1 : Int) (a2 : Int) (z0 : Int) : Option ((NN × Int) ⊕ NN) :=
  Option.bind (lp (fun s => b_X12_findWins_39 X s.1 s.2.1 s.2.2.1 s.2.2.2.1 s.2.2.2.2.1 s.2.2.2.2.2) (N, a1, a2, z0, 0, m_w (6 * z0))) (fun o10 =>
  if 0 ≤ o10.2.1 ∧ o10.2.1 < 4096 then
  if 0 ≤ o10.2.2 ∧ o10.2.2 ≤ 1 then
  let N13 : NN := m_up o10.1 87 o10.2.1.toNat o10.2.2
  some (.inl (N13, m_w (o10.2.1 + (-1))))
  else none
  else none)
noncomputable def b_X12_findWins_4 (X : MX) (N : NN) (a1 : Int) : Option ((NN × Int) ⊕ NN) :=
  if a1 < 0 then
    some (.inr N)
  else
    Option.bind (f_X12_lastOf X N a1) (fun o1 =>
    if o1 = (-1) then
      f_X12_findWins_l4_j29 X N a1 o1 0
    else
      f_X12_findWins_l4_j29 X N a1 o1 (m_w (1 - (m_div o1 6))))
noncomputable def f_X12_findWins (X : MX) (N : NN) : Option NN :=
  Option.bind (lp (fun s => b_X12_findWins_4 X s.1 s.2) (N, 4095)) (fun o14 =>
  some o14)
noncomputable def b_X12_layGoods_6 (X : MX) (N : NN) (a1 : Int) (a2 : Int) (a3 : Int) (a4 : Int) (a5 : Int) : Option ((NN × Int × Int × Int × Int × Int) ⊕ (NN × Int × Int × Int × Int)) :=
  if a5 < 6 then
    if 0 ≤ (m_w ((m_w (6 * a1)) + a5)) ∧ (m_w ((m_w (6 * a1)) + a5)) < 12 then
    let N2 : NN := m_up N 84 ((m_w ((m_w (6 * a1)) + a5)).toNat) (-1)
    some (.inl (N2, a1, a2, a3, a4, m_w (a5 + 1)))
    else none
  else
    some (.inr (N, a1, a2, a3, a4))
noncomputable def f_X12_layGoods_l35_j144 (X : MX) (N : NN) (a1 : Int) (a2 : Int) (a3 : Int) (a4 : Int) (a5 : Int) : Option ((NN × Int × Int × Int × Int × Int) ⊕ (NN × Int × Int)) :=
  some (.inl (N, a1, a2, a3, a4, m_w (a5 + 1)))
noncomputable def f_X12_layGoods_l35_j107 (X : MX) (N : NN) (a1 : Int) (a2 : Int) (a3 : Int) (a4 : Int) (a5 : Int) (a6 : Int) (z1 : Int) (z2 : Int) : Option ((NN × Int × Int × Int × Int × Int) ⊕ (NN × Int × Int)) :=
  if 0 ≤ z1 ∧ z1 < 12 then
  let N14 : NN := m_up N 84 z1.toNat z2
  Option.bind (f_X12_worthOf X N14 a5 a2 a3) (fun o15 =>
  if 0 ≤ a6 ∧ a6 < 12 then
  let N17 : NN := m_up o15.2 85 a6.toNat o15.1
  Option.bind (f_X12_year X N17) (fun o18 =>
  Option.bind (f_X12_costOf X N17 a5 a3 o18) (fun o19 =>
  if 0 ≤ a6 ∧ a6 < 12 then
  let N21 : NN := m_up o19.2 86 a6.toNat o19.1
  f_X12_layGoods_l35_j144 X N21 a1 a2 a3 (m_w (a4 + 1)) a5
  else none))
  else none)
  else none
noncomputable def b_X12_layGoods_35 (X : MX) (N : NN) (a1 : Int) (a2 : Int) (a3 : Int) (a4 : Int) (a5 : Int) : Option ((NN × Int × Int × Int × Int × Int) ⊕ (NN × Int × Int)) :=
  if a5 < (N 66 1) then
    if a4 < 6 then
      Option.bind (f_X12_ofGood X N a5 0) (fun o5 =>
      if o5 = a2 then
        Option.bind (f_X12_ofGood X N a5 1) (fun o6 =>
        if o6 = a2 then
          Option.bind (f_X12_isBarred X N a5 a2 a3) (fun o7 =>
          if o7.1 = 0 then
            f_X12_layGoods_l35_j107 X o7.2 a1 a2 a3 a4 a5 (m_w ((m_w (6 * a1)) + a4)) (m_w ((m_w (6 * a1)) + a4)) a5
          else
            f_X12_layGoods_l35_j107 X o7.2 a1 a2 a3 a4 a5 (m_w ((m_w (6 * a1)) + a4)) (m_w ((m_w (6 * a1)) + a4)) (-1))
        else
          f_X12_layGoods_l35_j144 X N a1 a2 a3 a4 a5)
      else
        f_X12_layGoods_l35_j144 X N a1 a2 a3 a4 a5)
    else
      some (.inr (N, a1, a2))
  else
    some (.inr (N, a1, a2))
noncomputable def f_X12_layGoods (X : MX) (N : NN) (a1 : Int) (a2 : Int) (a3 : Int) : Option NN :=
  Option.bind (lp (fun s => b_X12_layGoods_6 X s.1 s.2.1 s.2.2.1 s.2.2.2.1 s.2.2.2.2.1 s.2.2.2.2.2) (N, a1, a2, a3, 0, 0)) (fun o4 =>
  Option.bind (lp (fun s => b_X12_layGoods_35 X s.1 s.2.1 s.2.2.1 s.2.2.2.1 s.2.2.2.2.1 s.2.2.2.2.2) (o4.1, o4.2.1, o4.2.2.1, o4.2.2.2.1, o4.2.2.2.2, 0)) (fun o22 =>
  Option.bind (f_X12_ofLord X o22.1 o22.2.2 0) (fun o23 =>
  if 0 ≤ o22.2.1 ∧ o22.2.1 < 2 then
  let N25 : NN := m_up o22.1 88 o22.2.1.toNat o23
  some N25
  else none)))
noncomputable def f_X12_playOf_l51_j112 (X : MX) (N : NN) (a1 : Int) (a2 : Int) (a4 : Int) (a5 : Int) (a7 : Int) (a8 : Int) (z0 : Int) : Option ((Int × Int × Int × Int × Int × Int × Int) ⊕ (Int × Int × Int × Int × Int)) :=
  some (.inl (a1, a2, a4, a5, z0, a7, m_w (a8 + (-1))))
noncomputable def f_X12_playOf_l51_j110 (X : MX) (N : NN) (a1 : Int) (a2 : Int) (a4 : Int) (a5 : Int) (a6 : Int) (a7 : Int) (a8 : Int) : Option ((Int × Int × Int × Int × Int × Int × Int) ⊕ (Int × Int × Int × Int × Int)) :=
  f_X12_playOf_l51_j112 X N a1 a2 a4 a5 a7 a8 a6
noncomputable def f_X12_playOf_l51_j86 (X : MX) (N : NN) (a1 : Int) (a2 : Int) (a4 : Int) (a5 : Int) (a6 : Int) (a8 : Int) (a9 : Int) (z0 : Int) : Option ((Int × Int × Int × Int × Int × Int × Int) ⊕ (Int × Int × Int × Int × Int)) :=
  if a9 = 0 then
    f_X12_playOf_l51_j110 X N a1 a2 a4 a5 a6 z0 a8
  else
    Option.bind (f_X12_isWon X N a1 a5 a8) (fun o7 =>
    if o7 = 0 then
      f_X12_playOf_l51_j110 X N a1 a2 a4 a5 a6 z0 a8
    else
      f_X12_playOf_l51_j112 X N a1 a2 a4 a5 z0 a8 a8)
noncomputable def b_X12_playOf_51 (X : MX) (N : NN) (a1 : Int) (a2 : Int) (a4 : Int) (a5 : Int) (a6 : Int) (a7 : Int) (a8 : Int) : Option ((Int × Int × Int × Int × Int × Int × Int) ⊕ (Int × Int × Int × Int × Int)) :=
  if a8 < (m_w (6 * a5)) then
    some (.inr (a1, a2, a5, a6, a7))
  else
    Option.bind (f_X12_canGive X N a1 a4 a5 a8) (fun o4 =>
    if o4 = 0 then
      f_X12_playOf_l51_j86 X N a1 a2 a4 a5 a6 a8 o4 a7
    else
      f_X12_playOf_l51_j86 X N a1 a2 a4 a5 a6 a8 o4 a8)
noncomputable def f_X12_playOf_l6_j195 (X : MX) (N : NN) (a2 : Int) (a3 : Int) (z0 : Int) (z1 : Int) : Option ((Int × Int × Int) ⊕ Int) :=
  some (.inl (m_or z0 z1, a2, a3))
noncomputable def f_X12_playOf_l6_j178 (X : MX) (N : NN) (a1 : Int) (a3 : Int) (a6 : Int) (z0 : Int) (z1 : Int) : Option ((Int × Int × Int) ⊕ Int) :=
  if a6 = (-1) then
    f_X12_playOf_l6_j195 X N (m_w (z0 + z1)) a3 a1 0
  else
    f_X12_playOf_l6_j195 X N (m_w (z0 + z1)) a3 a1 (m_shl 1 a6)
noncomputable def f_X12_playOf_l6_j165 (X : MX) (N : NN) (a1 : Int) (a2 : Int) (a6 : Int) (z0 : Int) : Option ((Int × Int × Int) ⊕ Int) :=
  if a6 = (-1) then
    f_X12_playOf_l6_j178 X N a1 z0 a6 a2 0
  else
    f_X12_playOf_l6_j178 X N a1 z0 a6 a2 1
noncomputable def f_X12_playOf_l6_j164 (X : MX) (N : NN) (a1 : Int) (a2 : Int) (a6 : Int) : Option ((Int × Int × Int) ⊕ Int) :=
  f_X12_playOf_l6_j165 X N a1 a2 a6 0
noncomputable def f_X12_playOf_l6_j133 (X : MX) (N : NN) (a1 : Int) (a2 : Int) (a5 : Int) (z0 : Int) : Option ((Int × Int × Int) ⊕ Int) :=
  if z0 = (-1) then
    f_X12_playOf_l6_j164 X N a1 a2 z0
  else
    Option.bind (f_X12_grainLeft X N a1 (m_w (1 - a5))) (fun o12 =>
    if 0 ≤ z0 ∧ z0 < 12 then
    if o12 < (N 86 z0.toNat) then
      f_X12_playOf_l6_j164 X N a1 a2 z0
    else
      f_X12_playOf_l6_j165 X N a1 a2 z0 1
    else none)
noncomputable def f_X12_playOf_l6_j34 (X : MX) (N : NN) (a1 : Int) (a2 : Int) (a4 : Int) (z0 : Int) : Option ((Int × Int × Int) ⊕ Int) :=
  Option.bind (lp (fun s => b_X12_playOf_51 X N s.1 s.2.1 s.2.2.1 s.2.2.2.1 s.2.2.2.2.1 s.2.2.2.2.2.1 s.2.2.2.2.2.2) (a1, a2, a4, z0, (-1), (-1), m_w ((m_w (6 * z0)) + 5))) (fun o10 =>
  if o10.2.2.2.1 = (-1) then
    f_X12_playOf_l6_j133 X N o10.1 o10.2.1 o10.2.2.1 o10.2.2.2.2
  else
    f_X12_playOf_l6_j133 X N o10.1 o10.2.1 o10.2.2.1 o10.2.2.2.1)
noncomputable def b_X12_playOf_6 (X : MX) (N : NN) (a1 : Int) (a2 : Int) (a3 : Int) : Option ((Int × Int × Int) ⊕ Int) :=
  if a3 = 0 then
    some (.inr a2)
  else
    Option.bind (f_X12_lastOf X N a1) (fun o1 =>
    if o1 = (-1) then
      f_X12_playOf_l6_j34 X N a1 a2 o1 0
    else
      f_X12_playOf_l6_j34 X N a1 a2 o1 (m_w (1 - (m_div o1 6))))
noncomputable def f_X12_playOf (X : MX) (N : NN) : Option Int :=
  Option.bind (lp (fun s => b_X12_playOf_6 X N s.1 s.2.1 s.2.2) (0, 0, 1)) (fun o18 =>
  some o18)
noncomputable def f_X12_duel_l96_j136 (X : MX) (N : NN) (a3 : Int) (a4 : Int) (a5 : Int) (a6 : Int) : Option ((NN × Int × Int × Int × Int) ⊕ (NN × Int × Int × Int)) :=
  some (.inl (N, a3, a4, a5, m_w (a6 + (-1))))
noncomputable def b_X12_duel_96 (X : MX) (N : NN) (a3 : Int) (a4 : Int) (a5 : Int) (a6 : Int) : Option ((NN × Int × Int × Int × Int) ⊕ (NN × Int × Int × Int)) :=
  if a6 < 0 then
    some (.inr (N, a3, a4, a5))
  else
    Option.bind (f_X12_canGive X N 0 (-1) 0 a6) (fun o10 =>
    if o10 = 0 then
      f_X12_duel_l96_j136 X N a3 a4 a5 a6
    else
      Option.bind (f_X12_isWon X N 0 0 a6) (fun o11 =>
      if o11 = 0 then
        f_X12_duel_l96_j136 X N a3 a4 a5 a6
      else
        if 0 ≤ a6 ∧ a6 < 12 then
        f_X12_duel_l96_j136 X N a3 (m_w (a4 + 1)) (N 84 a6.toNat) a6
        else none))
noncomputable def f_X12_duel_j38 (X : MX) (N : NN) : Option (Int × NN) :=
  some ((-1), N)
noncomputable def f_X12_duel_j154 (X : MX) (N : NN) (z0 : Int) : Option (Int × NN) :=
  some (z0, N)
noncomputable def f_X12_duel_j76 (X : MX) (N : NN) (z0 : Int) : Option (Int × NN) :=
  some (z0, N)
noncomputable def f_X12_duel (X : MX) (N : NN) (a1 : Int) (a2 : Int) (a3 : Int) : Option (Int × NN) :=
  let N1 : NN := m_up N 64 0 0
  Option.bind (f_X12_isLord X N1 a1) (fun o2 =>
  if o2 = 0 then
    f_X12_duel_j38 X N1
  else
    Option.bind (f_X12_isLord X N1 a2) (fun o3 =>
    if o3 = 0 then
      f_X12_duel_j38 X N1
    else
      if a1 = a2 then
        f_X12_duel_j38 X N1
      else
        Option.bind (f_X12_in X N1 a3 0 3) (fun o4 =>
        if o4 = 0 then
          f_X12_duel_j38 X N1
        else
          Option.bind (f_X12_layGoods X N1 0 a1 a2) (fun o5 =>
          Option.bind (f_X12_layGoods X o5 1 a2 a1) (fun o6 =>
          Option.bind (f_X12_findWins X o6) (fun o7 =>
          if a3 = 0 then
            if (o7 87 0) = 0 then
              f_X12_duel_j76 X o7 a2
            else
              f_X12_duel_j76 X o7 a1
          else
            if a3 = 3 then
              Option.bind (f_X12_playOf X o7) (fun o9 =>
              some (o9, o7))
            else
              Option.bind (lp (fun s => b_X12_duel_96 X s.1 s.2.1 s.2.2.1 s.2.2.2.1 s.2.2.2.2) (o7, a3, 0, (-1), 5)) (fun o16 =>
              if o16.2.1 = 1 then
                f_X12_duel_j154 X o16.1 o16.2.2.1
              else
                f_X12_duel_j154 X o16.1 o16.2.2.2)))))))
noncomputable def f_X12_end_j17 (X : MX) (N : NN) : Option (Int × NN) :=
  some ((-1), N)
noncomputable def f_X12_end (X : MX) (N : NN) (a1 : Int) : Option (Int × NN) :=
  let N1 : NN := m_up N 64 0 0
  if a1 < 0 then
    f_X12_end_j17 X N1
  else
    if (N1 64 13) < a1 then
      f_X12_end_j17 X N1
    else
      let N2 : NN := m_up N1 64 13 a1
      some (a1, N2)
noncomputable def f_X12_endText_j19 (X : MX) (N : NN) : Option NN :=
  let N4 : NN := m_up N 64 20 0
  let N5 : NN := m_up N4 64 13 0
  some N5
noncomputable def f_X12_endText (X : MX) (N : NN) : Option NN :=
  if (N 64 19) = 0 then
    if (N 64 16) = 0 then
      f_X12_endText_j19 X N
    else
      Option.bind (f_X12_must X N 0) (fun o1 =>
      f_X12_endText_j19 X o1)
  else
    f_X12_endText_j19 X N
noncomputable def f_X12_fault (X : MX) (N : NN) : Option (Int × NN) :=
  let N1 : NN := m_up N 64 0 0
  some (N1 64 18, N1)
noncomputable def b_X12_four_3 (X : MX) (N : NN) (a1 : Int) (a2 : Int) : Option ((NN × Int × Int) ⊕ NN) :=
  if a2 < 0 then
    some (.inr N)
  else
    if 0 ≤ (N 64 13) ∧ (N 64 13) < 400 then
    let N2 : NN := m_up N 73 ((N 64 13).toNat) (m_and (m_shr a1 a2) 255)
    let N3 : NN := m_up N2 64 13 (m_w ((N2 64 13) + 1))
    some (.inl (N3, a1, m_w (a2 + (-8))))
    else none
noncomputable def f_X12_four (X : MX) (N : NN) (a1 : Int) : Option NN :=
  Option.bind (lp (fun s => b_X12_four_3 X s.1 s.2.1 s.2.2) (N, a1, 24)) (fun o5 =>
  some o5)
noncomputable def f_X12_feed (X : MX) (N : NN) (a1 : Int) (a2 : Int) (a3 : Int) (a4 : Int) (a5 : Int) : Option (Int × NN) :=
  let N1 : NN := m_up N 64 0 0
  if 400 < (m_w ((N1 64 13) + 20)) then
    some ((-1), N1)
  else
    Option.bind (f_X12_four X N1 a1) (fun o2 =>
    Option.bind (f_X12_four X o2 a2) (fun o3 =>
    Option.bind (f_X12_four X o3 a3) (fun o4 =>
    Option.bind (f_X12_four X o4 a4) (fun o5 =>
    Option.bind (f_X12_four X o5 a5) (fun o6 =>
    some (o6 64 13, o6))))))
noncomputable def f_X12_isTold_l4_j48 (X : MX) (N : NN) (a2 : Int) (z0 : Int) : Option ((Int × Int) ⊕ Int) :=
  some (.inl (z0, m_w (a2 + 1)))
noncomputable def f_X12_isTold_l4_j47 (X : MX) (N : NN) (a2 : Int) : Option ((Int × Int) ⊕ Int) :=
  f_X12_isTold_l4_j48 X N a2 0
noncomputable def f_X12_isTold_l4_j43 (X : MX) (N : NN) (a2 : Int) : Option ((Int × Int) ⊕ Int) :=
  f_X12_isTold_l4_j48 X N a2 1
noncomputable def b_X12_isTold_4 (X : MX) (N : NN) (a1 : Int) (a2 : Int) : Option ((Int × Int) ⊕ Int) :=
  if a2 < (N 66 1) then
    if a1 = 0 then
      f_X12_isTold_l4_j47 X N a2
    else
      Option.bind (f_X12_ofGood X N a2 5) (fun o1 =>
      if o1 = (-1) then
        f_X12_isTold_l4_j43 X N a2
      else
        Option.bind (f_X12_ofGood X N a2 5) (fun o2 =>
        if 0 ≤ a2 ∧ a2 < 16 then
        if o2 = (N 98 a2.toNat) then
          f_X12_isTold_l4_j43 X N a2
        else
          f_X12_isTold_l4_j47 X N a2
        else none))
  else
    some (.inr a1)
noncomputable def f_X12_isTold (X : MX) (N : NN) : Option Int :=
  Option.bind (lp (fun s => b_X12_isTold_4 X N s.1 s.2) (1, 0)) (fun o8 =>
  if 0 ≤ o8 ∧ o8 ≤ 1 then
  some o8
  else none)
noncomputable def b_X12_keepGifts_2 (X : MX) (N : NN) (a1 : Int) (a2 : Int) : Option ((NN × Int × Int) ⊕ NN) :=
  if a2 < a1 then
    if (N 64 64) = 0 then
      if 0 ≤ a2 ∧ a2 < 3 then
      if 0 ≤ a2 ∧ a2 < 3 then
      let N3 : NN := m_up N 101 a2.toNat (N 99 a2.toNat)
      some (.inl (N3, a1, m_w (a2 + 1)))
      else none
      else none
    else
      some (.inr N)
  else
    some (.inr N)
noncomputable def f_X12_keepGifts (X : MX) (N : NN) (a1 : Int) : Option NN :=
  Option.bind (lp (fun s => b_X12_keepGifts_2 X s.1 s.2.1 s.2.2) (N, a1, 0)) (fun o6 =>
  let N7 : NN := m_up o6 64 64 (m_w ((o6 64 64) + 1))
  some N7)
noncomputable def f_X12_findGifts_l2_j84 (X : MX) (N : NN) (a1 : Int) (a2 : Int) (z1 : Int) (z2 : Int) : Option ((NN × Int × Int) ⊕ (NN × Int)) :=
  if 0 ≤ z1 ∧ z1 < 576 then
  if 0 ≤ z2 ∧ z2 ≤ 1 then
  let N13 : NN := m_up N 97 z1.toNat z2
  some (.inl (N13, a1, m_w (a2 + 1)))
  else none
  else none
noncomputable def f_X12_findGifts_l2_j83 (X : MX) (N : NN) (a1 : Int) (a2 : Int) (z1 : Int) : Option ((NN × Int × Int) ⊕ (NN × Int)) :=
  f_X12_findGifts_l2_j84 X N a1 a2 z1 0
noncomputable def b_X12_findGifts_2 (X : MX) (N : NN) (a1 : Int) (a2 : Int) : Option ((NN × Int × Int) ⊕ (NN × Int)) :=
  if a2 < 576 then
    Option.bind (f_X12_isGood X N (m_div a2 36)) (fun o1 =>
    if o1 = 0 then
      f_X12_findGifts_l2_j83 X N a1 a2 a2
    else
      Option.bind (f_X12_isLord X N (m_rem (m_div a2 6) 6)) (fun o2 =>
      if o2 = 0 then
        f_X12_findGifts_l2_j83 X N a1 a2 a2
      else
        Option.bind (f_X12_isLord X N (m_rem a2 6)) (fun o3 =>
        if o3 = 0 then
          f_X12_findGifts_l2_j83 X N a1 a2 a2
        else
          if (m_rem (m_div a2 6) 6) = (m_rem a2 6) then
            f_X12_findGifts_l2_j83 X N a1 a2 a2
          else
            Option.bind (f_X12_isBarred X N (m_div a2 36) (m_rem (m_div a2 6) 6) (m_rem a2 6)) (fun o4 =>
            if o4.1 = 0 then
              f_X12_findGifts_l2_j83 X o4.2 a1 a2 a2
            else
              f_X12_findGifts_l2_j84 X o4.2 a1 a2 a2 1))))
  else
    some (.inr (N, a1))
noncomputable def b_X12_findGifts_93 (X : MX) (N : NN) (a1 : Int) (a2 : Int) : Option ((NN × Int × Int) ⊕ (NN × Int)) :=
  if a2 < (N 66 1) then
    Option.bind (f_X12_ofGood X N a2 0) (fun o15 =>
    if 0 ≤ a2 ∧ a2 < 16 then
    let N17 : NN := m_up N 98 a2.toNat o15
    some (.inl (N17, a1, m_w (a2 + 1)))
    else none)
  else
    some (.inr (N, a1))
noncomputable def f_X12_findGifts_l152_j296 (X : MX) (N : NN) (a1 : Int) (a2 : Int) (a3 : Int) : Option ((NN × Int × Int) ⊕ NN) :=
  if 0 ≤ a2 ∧ a2 < 3 then
  if 0 ≤ a3 ∧ a3 < 16 then
  let N54 : NN := m_up N 98 a3.toNat (N 100 a2.toNat)
  some (.inl (N54, a1, a2))
  else none
  else none
noncomputable def b_X12_findGifts_152 (X : MX) (N : NN) (a1 : Int) (a2 : Int) : Option ((NN × Int × Int) ⊕ NN) :=
  if a2 < 0 then
    some (.inr N)
  else
    if 0 ≤ a2 ∧ a2 < 3 then
    if 0 ≤ a2 ∧ a2 < 3 then
    let N27 : NN := m_up N 99 a2.toNat (m_w ((N 99 a2.toNat) + 1))
    if 0 ≤ a2 ∧ a2 < 3 then
    if (N27 99 a2.toNat) = (m_w (6 * (N27 66 1))) then
      if (m_w (a2 + (-1))) < 0 then
        some (.inl (N27, a1, m_w (a2 + (-1))))
      else
        if 0 ≤ (m_w (a2 + (-1))) ∧ (m_w (a2 + (-1))) < 3 then
        if 0 ≤ (m_w (a2 + (-1))) ∧ (m_w (a2 + (-1))) < 3 then
        if 0 ≤ (m_div (N27 99 ((m_w (a2 + (-1))).toNat)) 6) ∧ (m_div (N27 99 ((m_w (a2 + (-1))).toNat)) 6) < 16 then
        let N32 : NN := m_up N27 98 ((m_div (N27 99 ((m_w (a2 + (-1))).toNat)) 6).toNat) (N27 100 ((m_w (a2 + (-1))).toNat))
        some (.inl (N32, a1, m_w (a2 + (-1))))
        else none
        else none
        else none
    else
      if 0 ≤ a2 ∧ a2 < 3 then
      Option.bind (f_X12_canBe X N27 (N27 99 a2.toNat)) (fun o35 =>
      if o35 = 0 then
        some (.inl (N27, a1, a2))
      else
        if 0 ≤ a2 ∧ a2 < 3 then
        if 0 ≤ (m_div (N27 99 a2.toNat) 6) ∧ (m_div (N27 99 a2.toNat) 6) < 16 then
        if 0 ≤ a2 ∧ a2 < 3 then
        let N39 : NN := m_up N27 100 a2.toNat (N27 98 ((m_div (N27 99 a2.toNat) 6).toNat))
        if 0 ≤ a2 ∧ a2 < 3 then
        if 0 ≤ (m_div (N27 99 a2.toNat) 6) ∧ (m_div (N27 99 a2.toNat) 6) < 16 then
        let N42 : NN := m_up N39 98 ((m_div (N27 99 a2.toNat) 6).toNat) (m_rem (N39 99 a2.toNat) 6)
        if a2 < (m_w (a1 - 1)) then
          if 0 ≤ (m_w (a2 + 1)) ∧ (m_w (a2 + 1)) < 3 then
          let N44 : NN := m_up N42 99 ((m_w (a2 + 1)).toNat) (-1)
          some (.inl (N44, a1, m_w (a2 + 1)))
          else none
        else
          Option.bind (f_X12_isTold X N42) (fun o45 =>
          if o45 = 0 then
            f_X12_findGifts_l152_j296 X N42 a1 a2 (m_div (N27 99 a2.toNat) 6)
          else
            Option.bind (f_X12_keepGifts X N42 a1) (fun o46 =>
            f_X12_findGifts_l152_j296 X o46 a1 a2 (m_div (N27 99 a2.toNat) 6)))
        else none
        else none
        else none
        else none
        else none)
      else none
    else none
    else none
    else none
noncomputable def f_X12_findGifts (X : MX) (N : NN) (a1 : Int) : Option NN :=
  Option.bind (lp (fun s => b_X12_findGifts_2 X s.1 s.2.1 s.2.2) (N, a1, 0)) (fun o14 =>
  Option.bind (lp (fun s => b_X12_findGifts_93 X s.1 s.2.1 s.2.2) (o14.1, o14.2, 0)) (fun o19 =>
  let N20 : NN := m_up o19.1 64 64 0
  if o19.2 = 0 then
    Option.bind (f_X12_isTold X N20) (fun o21 =>
    if o21 = 0 then
      some N20
    else
      Option.bind (f_X12_keepGifts X N20 0) (fun o22 =>
      some o22))
  else
    let N24 : NN := m_up N20 99 0 (-1)
    Option.bind (lp (fun s => b_X12_findGifts_152 X s.1 s.2.1 s.2.2) (N24, o19.2, 0)) (fun o55 =>
    some o55)))
noncomputable def f_X12_isFresh_l23_j52 (X : MX) (N : NN) (a1 : Int) (a3 : Int) (z0 : Int) : Option ((Int × Int × Int) ⊕ Int) :=
  some (.inl (a1, z0, m_w (a3 + 1)))
noncomputable def f_X12_isFresh_l23_j51 (X : MX) (N : NN) (a1 : Int) (a3 : Int) : Option ((Int × Int × Int) ⊕ Int) :=
  f_X12_isFresh_l23_j52 X N a1 a3 0
noncomputable def b_X12_isFresh_23 (X : MX) (N : NN) (a1 : Int) (a2 : Int) (a3 : Int) : Option ((Int × Int × Int) ⊕ Int) :=
  if a3 < a1 then
    if a2 = 0 then
      f_X12_isFresh_l23_j51 X N a1 a3
    else
      if 0 ≤ a3 ∧ a3 < 6 then
      if 0 ≤ a1 ∧ a1 < 6 then
      if (N 93 a3.toNat) = (N 93 a1.toNat) then
        f_X12_isFresh_l23_j51 X N a1 a3
      else
        f_X12_isFresh_l23_j52 X N a1 a3 1
      else none
      else none
  else
    some (.inr a2)
noncomputable def f_X12_isFresh_j20 (X : MX) (N : NN) (a1 : Int) (z0 : Int) : Option Int :=
  Option.bind (lp (fun s => b_X12_isFresh_23 X N s.1 s.2.1 s.2.2) (a1, z0, 0)) (fun o8 =>
  if 0 ≤ o8 ∧ o8 ≤ 1 then
  some o8
  else none)
noncomputable def f_X12_isFresh (X : MX) (N : NN) (a1 : Int) : Option Int :=
  if 0 ≤ a1 ∧ a1 < 6 then
  if (N 93 0) < (N 93 a1.toNat) then
    f_X12_isFresh_j20 X N a1 1
  else
    f_X12_isFresh_j20 X N a1 0
  else none
noncomputable def b_X12_weighRing_4 (X : MX) (N : NN) (a1 : Int) (a2 : Int) (a3 : Int) : Option ((NN × Int × Int × Int) ⊕ (NN × Int × Int)) :=
  if a3 < a1 then
    if 0 ≤ a3 ∧ a3 < 6 then
    some (.inl (N, a1, m_or a2 (m_shl 1 (N 93 a3.toNat)), m_w (a3 + 1)))
    else none
  else
    some (.inr (N, a1, a2))
noncomputable def b_X12_weighRing_62 (X : MX) (N : NN) (a1 : Int) (a3 : Int) : Option ((NN × Int × Int) ⊕ NN) :=
  if a3 < a1 then
    if 0 ≤ a3 ∧ a3 < 6 then
    if 0 ≤ a3 ∧ a3 < 6 then
    let N11 : NN := m_up N 96 a3.toNat (N 93 a3.toNat)
    some (.inl (N11, a1, m_w (a3 + 1)))
    else none
    else none
  else
    some (.inr N)
noncomputable def f_X12_weighRing_j50 (X : MX) (N : NN) (a1 : Int) (a2 : Int) : Option NN :=
  let N7 : NN := m_up N 64 57 a1
  let N8 : NN := m_up N7 64 56 a2
  Option.bind (lp (fun s => b_X12_weighRing_62 X s.1 s.2.1 s.2.2) (N8, a1, 0)) (fun o13 =>
  some o13)
noncomputable def f_X12_weighRing (X : MX) (N : NN) (a1 : Int) : Option NN :=
  Option.bind (lp (fun s => b_X12_weighRing_4 X s.1 s.2.1 s.2.2.1 s.2.2.2) (N, a1, 0, 0)) (fun o3 =>
  if o3.2.1 < (o3.1 64 57) then
    f_X12_weighRing_j50 X o3.1 o3.2.1 o3.2.2
  else
    if o3.2.1 = (o3.1 64 57) then
      if o3.2.2 < (o3.1 64 56) then
        f_X12_weighRing_j50 X o3.1 o3.2.1 o3.2.2
      else
        some o3.1
    else
      some o3.1)
noncomputable def f_X12_findRing_l40_j135 (X : MX) (N : NN) (a1 : Int) (a2 : Int) : Option ((NN × Int × Int) ⊕ (NN × Int)) :=
  if a2 < 5 then
    if 0 ≤ (m_w (a2 + 1)) ∧ (m_w (a2 + 1)) < 6 then
    let N24 : NN := m_up N 93 ((m_w (a2 + 1)).toNat) (-1)
    some (.inl (N24, a1, m_w (a2 + 1)))
    else none
  else
    some (.inl (N, a1, a2))
noncomputable def b_X12_findRing_40 (X : MX) (N : NN) (a1 : Int) (a2 : Int) : Option ((NN × Int × Int) ⊕ (NN × Int)) :=
  if 0 < a2 then
    if 0 ≤ a2 ∧ a2 < 6 then
    if 0 ≤ a2 ∧ a2 < 6 then
    let N7 : NN := m_up N 93 a2.toNat (m_w ((N 93 a2.toNat) + 1))
    if 0 ≤ a2 ∧ a2 < 6 then
    if (N7 93 a2.toNat) = (N7 66 0) then
      some (.inl (N7, a1, m_w (a2 + (-1))))
    else
      Option.bind (f_X12_isFresh X N7 a2) (fun o9 =>
      if o9 = 0 then
        some (.inl (N7, a1, a2))
      else
        if 0 ≤ (m_w (a2 - 1)) ∧ (m_w (a2 - 1)) < 6 then
        if 0 ≤ a2 ∧ a2 < 6 then
        Option.bind (f_X12_debtAt X N7 (N7 93 ((m_w (a2 - 1)).toNat)) (N7 93 a2.toNat)) (fun o12 =>
        if 0 ≤ o12 ∧ o12 < 5670 then
        if (N7 66 o12.toNat) = (-1) then
          some (.inl (N7, a1, a2))
        else
          if 0 ≤ a2 ∧ a2 < 6 then
          Option.bind (f_X12_debtAt X N7 (N7 93 a2.toNat) a1) (fun o15 =>
          if 0 ≤ o15 ∧ o15 < 5670 then
          if (N7 66 o15.toNat) = (-1) then
            f_X12_findRing_l40_j135 X N7 a1 a2
          else
            Option.bind (f_X12_weighRing X N7 (m_w (a2 + 1))) (fun o17 =>
            f_X12_findRing_l40_j135 X o17 a1 a2)
          else none)
          else none
        else none)
        else none
        else none)
    else none
    else none
    else none
  else
    some (.inr (N, a1))
noncomputable def b_X12_findRing_14 (X : MX) (N : NN) (a1 : Int) : Option ((NN × Int) ⊕ NN) :=
  if a1 < (N 66 0) then
    let N3 : NN := m_up N 93 0 a1
    let N4 : NN := m_up N3 93 1 (-1)
    Option.bind (lp (fun s => b_X12_findRing_40 X s.1 s.2.1 s.2.2) (N4, a1, 1)) (fun o26 =>
    some (.inl (o26.1, m_w (o26.2 + 1))))
  else
    some (.inr N)
noncomputable def f_X12_findRing (X : MX) (N : NN) : Option NN :=
  let N1 : NN := m_up N 64 57 100000000
  let N2 : NN := m_up N1 64 56 0
  Option.bind (lp (fun s => b_X12_findRing_14 X s.1 s.2) (N2, 0)) (fun o28 =>
  some o28)
noncomputable def f_X12_goesOn_l68_j96 (X : MX) (N : NN) (a1 : Int) (a5 : Int) (a7 : Int) (z0 : Int) : Option ((NN × Int × Int × Int × Int) ⊕ (NN × Int × Int × Int)) :=
  some (.inl (N, a1, a5, z0, m_w (a7 + 1)))
noncomputable def f_X12_goesOn_l68_j95 (X : MX) (N : NN) (a1 : Int) (a5 : Int) (a7 : Int) : Option ((NN × Int × Int × Int × Int) ⊕ (NN × Int × Int × Int)) :=
  f_X12_goesOn_l68_j96 X N a1 a5 a7 0
noncomputable def b_X12_goesOn_68 (X : MX) (N : NN) (a1 : Int) (a5 : Int) (a6 : Int) (a7 : Int) : Option ((NN × Int × Int × Int × Int) ⊕ (NN × Int × Int × Int)) :=
  if a1 < a7 then
    some (.inr (N, a1, a5, a6))
  else
    if a6 = 0 then
      f_X12_goesOn_l68_j95 X N a1 a5 a7
    else
      if 0 ≤ a7 ∧ a7 < 6 then
      if (N 93 a7.toNat) = a5 then
        f_X12_goesOn_l68_j95 X N a1 a5 a7
      else
        f_X12_goesOn_l68_j96 X N a1 a5 a7 1
      else none
noncomputable def f_X12_goesOn_j129 (X : MX) (N : NN) (a6 : Int) (z1 : Int) (z2 : Int) : Option (Int × NN) :=
  if 0 ≤ z1 ∧ z1 < 6 then
  let N16 : NN := m_up N 93 z1.toNat z2
  if 0 ≤ a6 ∧ a6 ≤ 1 then
  some (a6, N16)
  else none
  else none
noncomputable def f_X12_goesOn_j42 (X : MX) (N : NN) (a1 : Int) (a3 : Int) (a4 : Int) : Option (Int × NN) :=
  if 0 ≤ a3 ∧ a3 < 5670 then
  if 0 ≤ (m_w (a3 + 1)) ∧ (m_w (a3 + 1)) < 5670 then
  Option.bind (lp (fun s => b_X12_goesOn_68 X s.1 s.2.1 s.2.2.1 s.2.2.2.1 s.2.2.2.2) (N, a1, m_w ((m_w ((N 66 a3.toNat) + (N 66 ((m_w (a3 + 1)).toNat)))) - a4), 1, 0)) (fun o12 =>
  if o12.2.2.2 = 0 then
    if 0 ≤ (m_w (o12.2.1 + 1)) ∧ (m_w (o12.2.1 + 1)) < 6 then
    f_X12_goesOn_j129 X o12.1 o12.2.2.2 (m_w (o12.2.1 + 1)) (o12.1 93 ((m_w (o12.2.1 + 1)).toNat))
    else none
  else
    f_X12_goesOn_j129 X o12.1 o12.2.2.2 (m_w (o12.2.1 + 1)) o12.2.2.1)
  else none
  else none
noncomputable def f_X12_goesOn (X : MX) (N : NN) (a1 : Int) (a2 : Int) : Option (Int × NN) :=
  if 0 ≤ a1 ∧ a1 < 6 then
  if 0 ≤ (m_w (218 + (m_w (4 * a2)))) ∧ (m_w (218 + (m_w (4 * a2)))) < 5670 then
  if (N 66 ((m_w (218 + (m_w (4 * a2)))).toNat)) = (N 93 a1.toNat) then
    f_X12_goesOn_j42 X N a1 (m_w (218 + (m_w (4 * a2)))) (N 93 a1.toNat)
  else
    if 0 ≤ (m_w ((m_w (218 + (m_w (4 * a2)))) + 1)) ∧ (m_w ((m_w (218 + (m_w (4 * a2)))) + 1)) < 5670 then
    if (N 66 ((m_w ((m_w (218 + (m_w (4 * a2)))) + 1)).toNat)) = (N 93 a1.toNat) then
      f_X12_goesOn_j42 X N a1 (m_w (218 + (m_w (4 * a2)))) (N 93 a1.toNat)
    else
      some (0, N)
    else none
  else none
  else none
noncomputable def b_X12_isAhead_2 (X : MX) (N : NN) (a1 : Int) (a2 : Int) : Option ((Int × Int) ⊕ (Int ⊕ Int)) :=
  if a1 < a2 then
    some (.inr (.inl a1))
  else
    if (N 64 55) < a2 then
      some (.inr (.inl a1))
    else
      if 0 ≤ a2 ∧ a2 < 6 then
      if 0 ≤ a2 ∧ a2 < 6 then
      if (N 93 a2.toNat) = (N 94 a2.toNat) then
        some (.inl (a1, m_w (a2 + 1)))
      else
        some (.inr (.inr a2))
      else none
      else none
noncomputable def f_X12_isAhead_j70 (X : MX) (N : NN) (z0 : Int) : Option Int :=
  if 0 ≤ z0 ∧ z0 ≤ 1 then
  some z0
  else none
noncomputable def f_X12_isAhead_j50 (X : MX) (N : NN) (z0 : Int) : Option Int :=
  if 0 ≤ z0 ∧ z0 ≤ 1 then
  some z0
  else none
noncomputable def f_X12_isAhead (X : MX) (N : NN) (a1 : Int) : Option Int :=
  Option.bind (lp (fun s => b_X12_isAhead_2 X N s.1 s.2) (a1, 0)) (fun o6 =>
    match o6 with
    | .inl e6 =>
        if e6 < (N 64 55) then
          f_X12_isAhead_j70 X N 1
        else
          f_X12_isAhead_j70 X N 0
    | .inr e6 =>
        if 0 ≤ e6 ∧ e6 < 6 then
        if 0 ≤ e6 ∧ e6 < 6 then
        if (N 93 e6.toNat) < (N 94 e6.toNat) then
          f_X12_isAhead_j50 X N 1
        else
          f_X12_isAhead_j50 X N 0
        else none
        else none)
noncomputable def b_X12_weighWay_13 (X : MX) (N : NN) (a1 : Int) (a2 : Int) (a3 : Int) (a4 : Int) : Option ((NN × Int × Int × Int × Int) ⊕ (NN × Int × Int × Int)) :=
  if a4 < a1 then
    if 0 ≤ a4 ∧ a4 < 6 then
    if 0 ≤ (m_w ((m_w (218 + (m_w (4 * (N 95 a4.toNat))))) + 3)) ∧ (m_w ((m_w (218 + (m_w (4 * (N 95 a4.toNat))))) + 3)) < 5670 then
    if 0 ≤ a4 ∧ a4 < 6 then
    if 0 ≤ (m_w ((m_w (218 + (m_w (4 * (N 95 a4.toNat))))) + 2)) ∧ (m_w ((m_w (218 + (m_w (4 * (N 95 a4.toNat))))) + 2)) < 5670 then
    some (.inl (N, a1, m_w (a2 * (m_w (10 - (N 66 ((m_w ((m_w (218 + (m_w (4 * (N 95 a4.toNat))))) + 3)).toNat))))), m_w (a3 + (N 66 ((m_w ((m_w (218 + (m_w (4 * (N 95 a4.toNat))))) + 2)).toNat))), m_w (a4 + 1)))
    else none
    else none
    else none
    else none
  else
    some (.inr (N, a1, a2, a3))
noncomputable def b_X12_weighWay_149 (X : MX) (N : NN) (a1 : Int) (a5 : Int) : Option ((NN × Int × Int) ⊕ NN) :=
  if a1 < a5 then
    some (.inr N)
  else
    if 0 ≤ a5 ∧ a5 < 6 then
    if 0 ≤ a5 ∧ a5 < 6 then
    let N20 : NN := m_up N 94 a5.toNat (N 93 a5.toNat)
    some (.inl (N20, a1, m_w (a5 + 1)))
    else none
    else none
noncomputable def f_X12_weighWay_j123 (X : MX) (N : NN) (a1 : Int) (a2 : Int) (a3 : Int) (z0 : Int) : Option NN :=
  if z0 = 0 then
    some N
  else
    let N15 : NN := m_up N 64 53 a2
    let N16 : NN := m_up N15 64 54 a3
    let N17 : NN := m_up N16 64 55 a1
    Option.bind (lp (fun s => b_X12_weighWay_149 X s.1 s.2.1 s.2.2) (N17, a1, 0)) (fun o22 =>
    some o22)
noncomputable def f_X12_weighWay_j118 (X : MX) (N : NN) (a1 : Int) (a2 : Int) (a3 : Int) : Option NN :=
  f_X12_weighWay_j123 X N a1 a2 a3 1
noncomputable def f_X12_weighWay_j122 (X : MX) (N : NN) (a1 : Int) (a2 : Int) (a3 : Int) : Option NN :=
  f_X12_weighWay_j123 X N a1 a2 a3 0
noncomputable def f_X12_weighWay (X : MX) (N : NN) (a1 : Int) : Option NN :=
  if 0 ≤ (m_w (5 - a1)) ∧ (m_w (5 - a1)) < 6 then
  Option.bind (lp (fun s => b_X12_weighWay_13 X s.1 s.2.1 s.2.2.1 s.2.2.2.1 s.2.2.2.2) (N, a1, m_tens (m_w (5 - a1)).toNat, 0, 0)) (fun o7 =>
  if (o7.1 64 53) < o7.2.2.1 then
    f_X12_weighWay_j118 X o7.1 o7.2.1 o7.2.2.1 o7.2.2.2
  else
    if o7.2.2.1 = (o7.1 64 53) then
      if 0 < o7.2.2.1 then
        if o7.2.2.2 < (o7.1 64 54) then
          f_X12_weighWay_j118 X o7.1 o7.2.1 o7.2.2.1 o7.2.2.2
        else
          if o7.2.2.2 = (o7.1 64 54) then
            Option.bind (f_X12_isAhead X o7.1 o7.2.1) (fun o8 =>
            if o8 = 0 then
              f_X12_weighWay_j122 X o7.1 o7.2.1 o7.2.2.1 o7.2.2.2
            else
              f_X12_weighWay_j118 X o7.1 o7.2.1 o7.2.2.1 o7.2.2.2)
          else
            f_X12_weighWay_j122 X o7.1 o7.2.1 o7.2.2.1 o7.2.2.2
      else
        f_X12_weighWay_j122 X o7.1 o7.2.1 o7.2.2.1 o7.2.2.2
    else
      f_X12_weighWay_j122 X o7.1 o7.2.1 o7.2.2.1 o7.2.2.2)
  else none
noncomputable def b_X12_findWay_42 (X : MX) (N : NN) (a2 : Int) (a3 : Int) : Option ((NN × Int × Int) ⊕ NN) :=
  if a3 < 0 then
    some (.inr N)
  else
    if 0 ≤ a3 ∧ a3 < 6 then
    if 0 ≤ a3 ∧ a3 < 6 then
    let N9 : NN := m_up N 95 a3.toNat (m_w ((N 95 a3.toNat) + 1))
    if 0 ≤ a3 ∧ a3 < 6 then
    if (N9 95 a3.toNat) = (N9 66 3) then
      some (.inl (N9, a2, m_w (a3 + (-1))))
    else
      if 0 ≤ a3 ∧ a3 < 6 then
      Option.bind (f_X12_goesOn X N9 a3 (N9 95 a3.toNat)) (fun o12 =>
      if o12.1 = 0 then
        some (.inl (o12.2, a2, a3))
      else
        if 0 ≤ (m_w (a3 + 1)) ∧ (m_w (a3 + 1)) < 6 then
        if (o12.2 93 ((m_w (a3 + 1)).toNat)) = a2 then
          Option.bind (f_X12_weighWay X o12.2 (m_w (a3 + 1))) (fun o14 =>
          some (.inl (o14, a2, a3)))
        else
          if a3 < 4 then
            if 0 ≤ (m_w (a3 + 1)) ∧ (m_w (a3 + 1)) < 6 then
            let N16 : NN := m_up o12.2 95 ((m_w (a3 + 1)).toNat) (-1)
            some (.inl (N16, a2, m_w (a3 + 1)))
            else none
          else
            some (.inl (o12.2, a2, a3))
        else none)
      else none
    else none
    else none
    else none
noncomputable def f_X12_findWay (X : MX) (N : NN) (a1 : Int) (a2 : Int) : Option NN :=
  let N1 : NN := m_up N 64 53 0
  let N2 : NN := m_up N1 64 54 0
  let N3 : NN := m_up N2 64 55 0
  let N4 : NN := m_up N3 93 0 a1
  if a1 = a2 then
    Option.bind (f_X12_weighWay X N4 0) (fun o5 =>
    some o5)
  else
    let N6 : NN := m_up N4 95 0 (-1)
    Option.bind (lp (fun s => b_X12_findWay_42 X s.1 s.2.1 s.2.2) (N6, a2, 0)) (fun o22 =>
    some o22)
noncomputable def f_X12_was (X : MX) (N : NN) (a1 : Int) : Option (Int × NN) :=
  let N1 : NN := m_up N 64 1 0
  some (a1, N1)
noncomputable def f_X12_force_j35 (X : MX) (N : NN) (a1 : Int) : Option (Int × NN) :=
  let N6 : NN := m_up N 66 5 a1
  Option.bind (f_X12_was X N6 (N 66 5)) (fun o7 =>
  some (o7.1, o7.2))
noncomputable def f_X12_force (X : MX) (N : NN) (a1 : Int) : Option (Int × NN) :=
  let N1 : NN := m_up N 64 0 0
  if a1 = (-1) then
    f_X12_force_j35 X N1 a1
  else
    Option.bind (f_X12_in X N1 a1 0 (m_wl ((N1 66 4) - 1))) (fun o2 =>
    if o2 = 0 then
      Option.bind (f_X12_tell X N1 (-2)) (fun o3 =>
      some (o3.1, o3.2))
    else
      f_X12_force_j35 X N1 a1)
noncomputable def f_X12_found_j32 (X : MX) (N : NN) : Option (Int × NN) :=
  some ((-1), N)
noncomputable def f_X12_found_j62 (X : MX) (N : NN) (z0 : Int) : Option (Int × NN) :=
  some (z0, N)
noncomputable def f_X12_found_j50 (X : MX) (N : NN) (a2 : Int) : Option (Int × NN) :=
  if a2 = 0 then
    f_X12_found_j62 X N (N 64 64)
  else
    f_X12_found_j62 X N (-1)
noncomputable def f_X12_found_j92 (X : MX) (N : NN) (z0 : Int) : Option (Int × NN) :=
  some (z0, N)
noncomputable def f_X12_found (X : MX) (N : NN) (a1 : Int) (a2 : Int) : Option (Int × NN) :=
  let N1 : NN := m_up N 64 0 0
  Option.bind (f_X12_in X N1 a1 0 3) (fun o2 =>
  if o2 = 0 then
    f_X12_found_j32 X N1
  else
    Option.bind (f_X12_in X N1 a2 0 (m_wl (2 * a1))) (fun o3 =>
    if o3 = 0 then
      f_X12_found_j32 X N1
    else
      Option.bind (f_X12_findGifts X N1 a1) (fun o4 =>
      if a2 = 0 then
        f_X12_found_j50 X o4 a2
      else
        if (o4 64 64) = 0 then
          f_X12_found_j50 X o4 a2
        else
          if 0 ≤ (m_div (m_w (a2 - 1)) 2) ∧ (m_div (m_w (a2 - 1)) 2) < 3 then
          if (m_rem a2 2) = 1 then
            f_X12_found_j92 X o4 (m_div (o4 101 ((m_div (m_w (a2 - 1)) 2).toNat)) 6)
          else
            f_X12_found_j92 X o4 (m_rem (o4 101 ((m_div (m_w (a2 - 1)) 2).toNat)) 6)
          else none)))
noncomputable def f_X12_gift_j42 (X : MX) (N : NN) : Option (Int × NN) :=
  some ((-3), N)
noncomputable def f_X12_gift_j220 (X : MX) (N : NN) (a4 : Int) (z1 : Int) (z2 : Int) : Option (Int × NN) :=
  if 0 ≤ z1 ∧ z1 < 5670 then
  let N37 : NN := m_up N 66 z1.toNat z2
  some (a4, N37)
  else none
noncomputable def f_X12_gift_j190 (X : MX) (N : NN) (a4 : Int) (a6 : Int) : Option (Int × NN) :=
  if 0 ≤ a6 ∧ a6 < 5670 then
  if (N 66 a6.toNat) < a4 then
    f_X12_gift_j220 X N a4 a6 a4
  else
    if 0 ≤ a6 ∧ a6 < 5670 then
    f_X12_gift_j220 X N a4 a6 (N 66 a6.toNat)
    else none
  else none
noncomputable def f_X12_gift_j158 (X : MX) (N : NN) (a4 : Int) (a5 : Int) (a6 : Int) : Option (Int × NN) :=
  if 0 ≤ a5 ∧ a5 < 5670 then
  let N27 : NN := m_up N 66 a5.toNat (-1)
  if 0 ≤ a6 ∧ a6 < 5670 then
  if (N27 66 a6.toNat) = (-1) then
    Option.bind (f_X12_year X N27) (fun o29 =>
    if 0 ≤ (m_w (a6 + 1)) ∧ (m_w (a6 + 1)) < 5670 then
    let N31 : NN := m_up N27 66 ((m_w (a6 + 1)).toNat) o29
    f_X12_gift_j190 X N31 a4 a6
    else none)
  else
    f_X12_gift_j190 X N27 a4 a6
  else none
  else none
noncomputable def f_X12_gift (X : MX) (N : NN) (a1 : Int) (a2 : Int) : Option (Int × NN) :=
  Option.bind (f_X12_ofGood X N a1 0) (fun o1 =>
  if o1 = a2 then
    f_X12_gift_j42 X N
  else
    Option.bind (f_X12_ofLord X N o1 2) (fun o2 =>
    if o2 = 1 then
      f_X12_gift_j42 X N
    else
      Option.bind (f_X12_ofLord X N a2 2) (fun o3 =>
      if o3 = 1 then
        f_X12_gift_j42 X N
      else
        Option.bind (f_X12_isBarred X N a1 o1 a2) (fun o4 =>
        if o4.1 = 0 then
          Option.bind (f_X12_worthOf X o4.2 a1 o1 a2) (fun o5 =>
          if 0 ≤ (m_w ((m_w (45 + (m_w (6 * a1)))) + 0)) ∧ (m_w ((m_w (45 + (m_w (6 * a1)))) + 0)) < 5670 then
          let N7 : NN := m_up o5.2 66 ((m_w ((m_w (45 + (m_w (6 * a1)))) + 0)).toNat) a2
          if 0 ≤ (m_w ((m_w (45 + (m_w (6 * a1)))) + 4)) ∧ (m_w ((m_w (45 + (m_w (6 * a1)))) + 4)) < 5670 then
          if 0 ≤ (m_w ((m_w (45 + (m_w (6 * a1)))) + 4)) ∧ (m_w ((m_w (45 + (m_w (6 * a1)))) + 4)) < 5670 then
          let N10 : NN := m_up N7 66 ((m_w ((m_w (45 + (m_w (6 * a1)))) + 4)).toNat) (m_w ((N7 66 ((m_w ((m_w (45 + (m_w (6 * a1)))) + 4)).toNat)) + 1))
          Option.bind (f_X12_ofGood X N10 a1 1) (fun o11 =>
          if o11 = o1 then
            Option.bind (f_X12_debtAt X N10 o1 a2) (fun o12 =>
            Option.bind (f_X12_debtAt X N10 a2 o1) (fun o13 =>
            if 0 ≤ o12 ∧ o12 < 5670 then
            if (N10 66 o12.toNat) = (-1) then
              f_X12_gift_j158 X N10 o5.1 o12 o13
            else
              if 0 ≤ o12 ∧ o12 < 5670 then
              if (N10 66 o12.toNat) < o5.1 then
                f_X12_gift_j158 X N10 o5.1 o12 o13
              else
                some (o5.1, N10)
              else none
            else none))
          else
            if 0 ≤ (m_w ((m_w (9 + (m_w (6 * o1)))) + 3)) ∧ (m_w ((m_w (9 + (m_w (6 * o1)))) + 3)) < 5670 then
            if 0 ≤ (m_w ((m_w (9 + (m_w (6 * o1)))) + 3)) ∧ (m_w ((m_w (9 + (m_w (6 * o1)))) + 3)) < 5670 then
            let N20 : NN := m_up N10 66 ((m_w ((m_w (9 + (m_w (6 * o1)))) + 3)).toNat) (m_w ((N10 66 ((m_w ((m_w (9 + (m_w (6 * o1)))) + 3)).toNat)) + 1))
            some (o5.1, N20)
            else none
            else none)
          else none
          else none
          else none)
        else
          f_X12_gift_j42 X o4.2))))
noncomputable def f_X12_held_l4_j30 (X : MX) (N : NN) (a1 : Int) (a3 : Int) (z0 : Int) (z1 : Int) : Option ((Int × Int × Int) ⊕ Int) :=
  some (.inl (a1, m_w (z0 + z1), m_w (a3 + 1)))
noncomputable def b_X12_held_4 (X : MX) (N : NN) (a1 : Int) (a2 : Int) (a3 : Int) : Option ((Int × Int × Int) ⊕ Int) :=
  if a3 < (N 66 1) then
    Option.bind (f_X12_ofGood X N a3 0) (fun o1 =>
    if o1 = a1 then
      f_X12_held_l4_j30 X N a1 a3 a2 1
    else
      f_X12_held_l4_j30 X N a1 a3 a2 0)
  else
    some (.inr a2)
noncomputable def f_X12_held (X : MX) (N : NN) (a1 : Int) : Option Int :=
  Option.bind (lp (fun s => b_X12_held_4 X N s.1 s.2.1 s.2.2) (a1, 0, 0)) (fun o4 =>
  some o4)
noncomputable def b_X12_putBack_2 (X : MX) (N : NN) (a1 : Int) (a2 : Int) : Option ((NN × Int × Int) ⊕ NN) :=
  if a2 < 270 then
    if 0 ≤ (m_w ((m_w (270 * a1)) + a2)) ∧ (m_w ((m_w (270 * a1)) + a2)) < 4860 then
    if 0 ≤ a2 ∧ a2 < 5670 then
    let N3 : NN := m_up N 66 a2.toNat (N 69 ((m_w ((m_w (270 * a1)) + a2)).toNat))
    some (.inl (N3, a1, m_w (a2 + 1)))
    else none
    else none
  else
    some (.inr N)
noncomputable def f_X12_putBack (X : MX) (N : NN) (a1 : Int) : Option NN :=
  Option.bind (lp (fun s => b_X12_putBack_2 X s.1 s.2.1 s.2.2) (N, a1, 0)) (fun o5 =>
  some o5)
noncomputable def f_X12_generation_l138_j170 (X : MX) (N : NN) (a2 : Int) (a3 : Int) (a5 : Int) (a6 : Int) (z1 : Int) (z2 : Int) : Option ((NN × Int × Int × Int × Int) ⊕ (NN × Int × Int × Int)) :=
  let N18 : NN := m_up N 64 40 (m_or z1 z2)
  some (.inl (N18, a2, a3, a5, m_w (a6 + 1)))
noncomputable def b_X12_generation_138 (X : MX) (N : NN) (a2 : Int) (a3 : Int) (a5 : Int) (a6 : Int) : Option ((NN × Int × Int × Int × Int) ⊕ (NN × Int × Int × Int)) :=
  if a6 < (N 66 0) then
    Option.bind (f_X12_draw X N 3) (fun o15 =>
    if o15.1 = 0 then
      f_X12_generation_l138_j170 X o15.2 a2 a3 a5 a6 (N 64 40) (m_shl 1 a6)
    else
      f_X12_generation_l138_j170 X o15.2 a2 a3 a5 a6 (N 64 40) 0)
  else
    some (.inr (N, a2, a3, a5))
noncomputable def f_X12_generation_l71_j207 (X : MX) (N : NN) (a2 : Int) (a3 : Int) (a4 : Int) (a5 : Int) : Option ((NN × Int × Int × Int × Int) ⊕ (NN × Int)) :=
  some (.inl (N, a2, a3, a4, m_w (a5 + 1)))
noncomputable def f_X12_generation_l71_j195 (X : MX) (N : NN) (a2 : Int) (a3 : Int) (a5 : Int) (z0 : Int) : Option ((NN × Int × Int × Int × Int) ⊕ (NN × Int)) :=
  if z0 = 0 then
    f_X12_generation_l71_j207 X N a2 a3 z0 a5
  else
    Option.bind (f_X12_wait1 X N) (fun o22 =>
    f_X12_generation_l71_j207 X o22.2 a2 a3 z0 a5)
noncomputable def f_X12_generation_l71_j130 (X : MX) (N : NN) (a2 : Int) (a3 : Int) (a5 : Int) : Option ((NN × Int × Int × Int × Int) ⊕ (NN × Int)) :=
  let N14 : NN := m_up N 64 40 0
  Option.bind (lp (fun s => b_X12_generation_138 X s.1 s.2.1 s.2.2.1 s.2.2.2.1 s.2.2.2.2) (N14, a2, a3, a5, 0)) (fun o19 =>
  Option.bind (f_X12_year X o19.1) (fun o20 =>
  if o20 < 999 then
    f_X12_generation_l71_j195 X o19.1 o19.2.1 o19.2.2.1 o19.2.2.2 1
  else
    f_X12_generation_l71_j195 X o19.1 o19.2.1 o19.2.2.1 o19.2.2.2 0))
noncomputable def f_X12_generation_l71_j128 (X : MX) (N : NN) (a2 : Int) (a5 : Int) (z0 : Int) (z1 : Int) : Option ((NN × Int × Int × Int × Int) ⊕ (NN × Int)) :=
  f_X12_generation_l71_j130 X N a2 (m_w (z0 + z1)) a5
noncomputable def b_X12_generation_71 (X : MX) (N : NN) (a2 : Int) (a3 : Int) (a4 : Int) (a5 : Int) : Option ((NN × Int × Int × Int × Int) ⊕ (NN × Int)) :=
  if a5 < a2 then
    if a4 = 0 then
      some (.inr (N, a3))
    else
      if 0 < (N 66 1) then
        Option.bind (f_X12_draw X N (N 66 1)) (fun o7 =>
        Option.bind (f_X12_draw X o7.2 (o7.2 66 0)) (fun o8 =>
        Option.bind (f_X12_gift X o8.2 o7.1 o8.1) (fun o9 =>
        if o9.1 < 0 then
          f_X12_generation_l71_j128 X o9.2 a2 a5 a3 0
        else
          f_X12_generation_l71_j128 X o9.2 a2 a5 a3 1)))
      else
        f_X12_generation_l71_j130 X N a2 a3 a5
  else
    some (.inr (N, a3))
noncomputable def b_X12_generation_238 (X : MX) (N : NN) (a3 : Int) (a5 : Int) (a6 : Int) : Option ((NN × Int × Int × Int) ⊕ (NN × Int × Int)) :=
  if a6 < 6 then
    Option.bind (f_X12_ofLord X N a5 a6) (fun o26 =>
    if 0 ≤ (m_w ((m_w (7 * a5)) + a6)) ∧ (m_w ((m_w (7 * a5)) + a6)) < 42 then
    let N28 : NN := m_up N 103 ((m_w ((m_w (7 * a5)) + a6)).toNat) o26
    some (.inl (N28, a3, a5, m_w (a6 + 1)))
    else none)
  else
    some (.inr (N, a3, a5))
noncomputable def b_X12_generation_226 (X : MX) (N : NN) (a3 : Int) (a5 : Int) : Option ((NN × Int × Int) ⊕ (NN × Int)) :=
  if a5 < (N 64 72) then
    Option.bind (lp (fun s => b_X12_generation_238 X s.1 s.2.1 s.2.2.1 s.2.2.2) (N, a3, a5, 0)) (fun o30 =>
    Option.bind (f_X12_held X o30.1 o30.2.2) (fun o31 =>
    if 0 ≤ (m_w ((m_w (7 * o30.2.2)) + 6)) ∧ (m_w ((m_w (7 * o30.2.2)) + 6)) < 42 then
    let N33 : NN := m_up o30.1 103 ((m_w ((m_w (7 * o30.2.2)) + 6)).toNat) o31
    some (.inl (N33, o30.2.1, m_w (o30.2.2 + 1)))
    else none))
  else
    some (.inr (N, a3))
noncomputable def f_X12_generation_j29 (X : MX) (N : NN) : Option (Int × NN) :=
  Option.bind (f_X12_tell X N (-1)) (fun o41 =>
  some (o41.1, o41.2))
noncomputable def f_X12_generation (X : MX) (N : NN) (a1 : Int) (a2 : Int) : Option (Int × NN) :=
  let N1 : NN := m_up N 64 0 0
  Option.bind (f_X12_in X N1 a1 0 1000000) (fun o2 =>
  if o2 = 0 then
    f_X12_generation_j29 X N1
  else
    Option.bind (f_X12_in X N1 a2 1 50) (fun o3 =>
    if o3 = 0 then
      f_X12_generation_j29 X N1
    else
      if (N1 66 0) = 0 then
        Option.bind (f_X12_tell X N1 (-3)) (fun o4 =>
        some (o4.1, o4.2))
      else
        Option.bind (f_X12_keepRow X N1 16) (fun o5 =>
        let N6 : NN := m_up o5 64 70 a1
        Option.bind (lp (fun s => b_X12_generation_71 X s.1 s.2.1 s.2.2.1 s.2.2.2.1 s.2.2.2.2) (N6, a2, 0, 1, 0)) (fun o24 =>
        let N25 : NN := m_up o24.1 64 72 (o24.1 66 0)
        Option.bind (lp (fun s => b_X12_generation_226 X s.1 s.2.1 s.2.2) (N25, o24.2, 0)) (fun o35 =>
        Option.bind (f_X12_putBack X o35.1 16) (fun o36 =>
        Option.bind (f_X12_tell X o36 o35.2) (fun o37 =>
        some (o37.1, o37.2))))))))
noncomputable def b_X12_giveNow_20 (X : MX) (N : NN) (a3 : Int) (a4 : Int) : Option ((NN × Int × Int) ⊕ (NN × Int)) :=
  if a4 < 270 then
    if 0 ≤ a4 ∧ a4 < 5670 then
    if 0 ≤ (m_w (4320 + a4)) ∧ (m_w (4320 + a4)) < 4860 then
    if 0 ≤ a4 ∧ a4 < 5670 then
    let N6 : NN := m_up N 66 a4.toNat (N 69 ((m_w (4320 + a4)).toNat))
    if 0 ≤ (m_w (4320 + a4)) ∧ (m_w (4320 + a4)) < 4860 then
    let N8 : NN := m_up N6 69 ((m_w (4320 + a4)).toNat) (N 66 a4.toNat)
    some (.inl (N8, a3, m_w (a4 + 1)))
    else none
    else none
    else none
    else none
  else
    some (.inr (N, a3))
noncomputable def f_X12_giveNow_j85 (X : MX) (N : NN) (a3 : Int) : Option (Int × NN) :=
  some (a3, N)
noncomputable def f_X12_giveNow (X : MX) (N : NN) (a1 : Int) (a2 : Int) : Option (Int × NN) :=
  Option.bind (f_X12_keepRow X N 16) (fun o1 =>
  Option.bind (f_X12_gift X o1 a1 a2) (fun o2 =>
  if o2.1 < 0 then
    f_X12_giveNow_j85 X o2.2 o2.1
  else
    Option.bind (lp (fun s => b_X12_giveNow_20 X s.1 s.2.1 s.2.2) (o2.2, o2.1, 0)) (fun o10 =>
    Option.bind (f_X12_remember X o10.1 0) (fun o11 =>
    Option.bind (f_X12_putBack X o11 16) (fun o12 =>
    f_X12_giveNow_j85 X o12 o10.2)))))
noncomputable def f_X12_give_j33 (X : MX) (N : NN) (z1 : Int) : Option (Int × NN) :=
  Option.bind (f_X12_tell X N z1) (fun o7 =>
  some (o7.1, o7.2))
noncomputable def f_X12_give_j31 (X : MX) (N : NN) : Option (Int × NN) :=
  f_X12_give_j33 X N (-2)
noncomputable def f_X12_give (X : MX) (N : NN) (a1 : Int) (a2 : Int) : Option (Int × NN) :=
  let N1 : NN := m_up N 64 0 0
  Option.bind (f_X12_isGood X N1 a1) (fun o2 =>
  if o2 = 0 then
    f_X12_give_j31 X N1
  else
    Option.bind (f_X12_isLord X N1 a2) (fun o3 =>
    if o3 = 0 then
      f_X12_give_j31 X N1
    else
      Option.bind (f_X12_giveNow X N1 a1 a2) (fun o4 =>
      f_X12_give_j33 X o4.2 o4.1)))
noncomputable def f_X12_good1_j24 (X : MX) (N : NN) : Option (Int × NN) :=
  some ((-1), N)
noncomputable def f_X12_good1 (X : MX) (N : NN) (a1 : Int) (a2 : Int) (a3 : Int) : Option (Int × NN) :=
  Option.bind (f_X12_in X N a2 0 99) (fun o1 =>
  if o1 = 0 then
    f_X12_good1_j24 X N
  else
    Option.bind (f_X12_in X N a3 0 20) (fun o2 =>
    if o2 = 0 then
      f_X12_good1_j24 X N
    else
      Option.bind (f_X12_isLord X N a1) (fun o3 =>
      if o3 = 0 then
        some ((-2), N)
      else
        if (N 66 1) = 16 then
          some ((-5), N)
        else
          if 0 ≤ (m_w (45 + (m_w (6 * (N 66 1))))) ∧ (m_w (45 + (m_w (6 * (N 66 1))))) < 5670 then
          let N5 : NN := m_up N 66 ((m_w (45 + (m_w (6 * (N 66 1))))).toNat) a1
          if 0 ≤ (m_w ((m_w (45 + (m_w (6 * (N 66 1))))) + 1)) ∧ (m_w ((m_w (45 + (m_w (6 * (N 66 1))))) + 1)) < 5670 then
          let N7 : NN := m_up N5 66 ((m_w ((m_w (45 + (m_w (6 * (N 66 1))))) + 1)).toNat) a1
          if 0 ≤ (m_w ((m_w (45 + (m_w (6 * (N 66 1))))) + 2)) ∧ (m_w ((m_w (45 + (m_w (6 * (N 66 1))))) + 2)) < 5670 then
          let N9 : NN := m_up N7 66 ((m_w ((m_w (45 + (m_w (6 * (N 66 1))))) + 2)).toNat) a2
          if 0 ≤ (m_w ((m_w (45 + (m_w (6 * (N 66 1))))) + 3)) ∧ (m_w ((m_w (45 + (m_w (6 * (N 66 1))))) + 3)) < 5670 then
          let N11 : NN := m_up N9 66 ((m_w ((m_w (45 + (m_w (6 * (N 66 1))))) + 3)).toNat) a3
          if 0 ≤ (m_w ((m_w (45 + (m_w (6 * (N 66 1))))) + 4)) ∧ (m_w ((m_w (45 + (m_w (6 * (N 66 1))))) + 4)) < 5670 then
          let N13 : NN := m_up N11 66 ((m_w ((m_w (45 + (m_w (6 * (N 66 1))))) + 4)).toNat) 0
          if 0 ≤ (m_w ((m_w (45 + (m_w (6 * (N 66 1))))) + 5)) ∧ (m_w ((m_w (45 + (m_w (6 * (N 66 1))))) + 5)) < 5670 then
          let N15 : NN := m_up N13 66 ((m_w ((m_w (45 + (m_w (6 * (N 66 1))))) + 5)).toNat) (-1)
          let N16 : NN := m_up N15 66 1 (m_w ((N15 66 1) + 1))
          some (N 66 1, N16)
          else none
          else none
          else none
          else none
          else none
          else none)))
noncomputable def f_X12_good (X : MX) (N : NN) (a1 : Int) (a2 : Int) (a3 : Int) : Option (Int × NN) :=
  let N1 : NN := m_up N 64 0 0
  Option.bind (f_X12_good1 X N1 a1 a2 a3) (fun o2 =>
  Option.bind (f_X12_settled X o2.2 o2.1) (fun o3 =>
  some (o3.1, o3.2)))
noncomputable def f_X12_herald (X : MX) (N : NN) (a1 : Int) : Option (Int × NN) :=
  let N1 : NN := m_up N 64 0 0
  Option.bind (f_X12_in X N1 a1 1 9) (fun o2 =>
  if o2 = 0 then
    Option.bind (f_X12_tell X N1 (-1)) (fun o3 =>
    some (o3.1, o3.2))
  else
    if (N1 66 2) = 5 then
      Option.bind (f_X12_tell X N1 (-5)) (fun o4 =>
      some (o4.1, o4.2))
    else
      if 0 ≤ (m_w (213 + (N1 66 2))) ∧ (m_w (213 + (N1 66 2))) < 5670 then
      let N6 : NN := m_up N1 66 ((m_w (213 + (N1 66 2))).toNat) a1
      let N7 : NN := m_up N6 66 2 (m_w ((N6 66 2) + 1))
      Option.bind (f_X12_tell X N7 (N1 66 2)) (fun o8 =>
      some (o8.1, o8.2))
      else none)
noncomputable def b_X12_image_23 (X : MX) (N : NN) (a1 : Int) (a2 : Int) : Option ((NN × Int × Int) ⊕ (NN × Int)) :=
  if a2 < 5670 then
    if 0 ≤ a2 ∧ a2 < 5670 then
    if 0 ≤ (m_w ((m_w (5670 * a1)) + a2)) ∧ (m_w ((m_w (5670 * a1)) + a2)) < 11340 then
    let N6 : NN := m_up N 67 ((m_w ((m_w (5670 * a1)) + a2)).toNat) (N 66 a2.toNat)
    some (.inl (N6, a1, m_w (a2 + 1)))
    else none
    else none
  else
    some (.inr (N, a1))
noncomputable def f_X12_image (X : MX) (N : NN) (a1 : Int) : Option (Int × NN) :=
  let N1 : NN := m_up N 64 0 0
  Option.bind (f_X12_in X N1 a1 0 1) (fun o2 =>
  if o2 = 0 then
    Option.bind (f_X12_tell X N1 (-1)) (fun o3 =>
    some (o3.1, o3.2))
  else
    Option.bind (lp (fun s => b_X12_image_23 X s.1 s.2.1 s.2.2) (N1, a1, 0)) (fun o8 =>
    if 0 ≤ o8.2 ∧ o8.2 < 2 then
    let N10 : NN := m_up o8.1 68 o8.2.toNat 1
    Option.bind (f_X12_tell X N10 0) (fun o11 =>
    some (o11.1, o11.2))
    else none))
noncomputable def f_X12_leaf_j19 (X : MX) (N : NN) (a2 : Int) (a3 : Int) (z1 : Int) : Option NN :=
  Option.bind (f_X12_must X N z1) (fun o3 =>
  if (o3 64 19) = 0 then
    Option.bind (f_X12_emit X o3 a2 a3) (fun o4 =>
    let N5 : NN := m_up o4 64 26 (m_w ((o4 64 26) + 1))
    some N5)
  else
    some o3)
noncomputable def f_X12_leaf_j18 (X : MX) (N : NN) (a2 : Int) (a3 : Int) : Option NN :=
  f_X12_leaf_j19 X N a2 a3 0
noncomputable def f_X12_leaf (X : MX) (N : NN) (a1 : Int) (a2 : Int) (a3 : Int) : Option NN :=
  if a1 = 0 then
    f_X12_leaf_j18 X N a2 a3
  else
    if (N 64 26) < 50 then
      f_X12_leaf_j19 X N a2 a3 1
    else
      f_X12_leaf_j18 X N a2 a3
noncomputable def f_X12_number_j33 (X : MX) (N : NN) (a5 : Int) (z1 : Int) : Option (Int × NN) :=
  Option.bind (f_X12_must X N z1) (fun o4 =>
  some (a5, o4))
noncomputable def f_X12_number_j32 (X : MX) (N : NN) (a5 : Int) : Option (Int × NN) :=
  f_X12_number_j33 X N a5 0
noncomputable def f_X12_number (X : MX) (N : NN) (a1 : Int) (a3 : Int) : Option (Int × NN) :=
  if (N 64 16) = 2 then
    Option.bind (f_X12_in X N (N 64 17) a1 a3) (fun o1 =>
    if o1 = 0 then
      f_X12_number_j32 X N (m_w (N 64 17))
    else
      f_X12_number_j33 X N (m_w (N 64 17)) 1)
  else
    f_X12_number_j32 X N (m_w (N 64 17))
noncomputable def f_X12_openBracket_j15 (X : MX) (N : NN) (a1 : Int) (z1 : Int) : Option NN :=
  Option.bind (f_X12_must X N z1) (fun o2 =>
  if (o2 64 19) = 0 then
    let N3 : NN := m_up o2 64 30 (m_w ((o2 64 30) + 1))
    Option.bind (f_X12_push X N3 a1 0) (fun o4 =>
    some o4)
  else
    some o2)
noncomputable def f_X12_openBracket (X : MX) (N : NN) (a1 : Int) : Option NN :=
  if (N 64 30) < 8 then
    f_X12_openBracket_j15 X N a1 1
  else
    f_X12_openBracket_j15 X N a1 0
noncomputable def f_X12_orderPartAt_l4_j30 (X : MX) (N : NN) (a2 : Int) (z0 : Int) : Option ((Int × Int) ⊕ Int) :=
  some (.inl (z0, m_w (a2 + 1)))
noncomputable def b_X12_orderPartAt_4 (X : MX) (N : NN) (a1 : Int) (a2 : Int) : Option ((Int × Int) ⊕ Int) :=
  if a2 < 7 then
    if 0 ≤ a2 ∧ a2 < 7 then
    Option.bind (f_X12_isWord X N (N 80 a2.toNat)) (fun o2 =>
    if o2 = 0 then
      f_X12_orderPartAt_l4_j30 X N a2 a1
    else
      f_X12_orderPartAt_l4_j30 X N a2 (m_w (a2 + 1)))
    else none
  else
    some (.inr a1)
noncomputable def f_X12_orderPartAt (X : MX) (N : NN) : Option Int :=
  Option.bind (lp (fun s => b_X12_orderPartAt_4 X N s.1 s.2) ((-1), 0)) (fun o5 =>
  some o5)
noncomputable def f_X12_partAt_l4_j30 (X : MX) (N : NN) (a2 : Int) (z0 : Int) : Option ((Int × Int) ⊕ Int) :=
  some (.inl (z0, m_w (a2 + 1)))
noncomputable def b_X12_partAt_4 (X : MX) (N : NN) (a1 : Int) (a2 : Int) : Option ((Int × Int) ⊕ Int) :=
  if a2 < 9 then
    if 0 ≤ a2 ∧ a2 < 9 then
    Option.bind (f_X12_isWord X N (N 79 a2.toNat)) (fun o2 =>
    if o2 = 0 then
      f_X12_partAt_l4_j30 X N a2 a1
    else
      f_X12_partAt_l4_j30 X N a2 (m_w (a2 + 1)))
    else none
  else
    some (.inr a1)
noncomputable def f_X12_partAt (X : MX) (N : NN) : Option Int :=
  Option.bind (lp (fun s => b_X12_partAt_4 X N s.1 s.2) ((-1), 0)) (fun o5 =>
  some o5)
noncomputable def f_X12_readPart_j154 (X : MX) (N : NN) : Option (Int × NN) :=
  some (3, N)
noncomputable def f_X12_readPart_j150 (X : MX) (N : NN) (z1 : Int) (z3 : Int) (z4 : Int) : Option (Int × NN) :=
  Option.bind (f_X12_number X N z3 z4) (fun o18 =>
  if 0 ≤ z1 ∧ z1 < 400 then
  let N20 : NN := m_up o18.2 76 z1.toNat o18.1
  f_X12_readPart_j154 X N20
  else none)
noncomputable def f_X12_readPart_j99 (X : MX) (N : NN) (a1 : Int) (z1 : Int) (z2 : Int) (z3 : Int) : Option (Int × NN) :=
  Option.bind (f_X12_leaf X N z1 z2 z3) (fun o13 =>
  if (o13 64 20) = 0 then
    f_X12_readPart_j154 X o13
  else
    if a1 < 5 then
      f_X12_readPart_j154 X o13
    else
      if (o13 64 19) = 0 then
        if a1 = 6 then
          f_X12_readPart_j150 X o13 (m_w ((o13 64 23) - 1)) 0 15
        else
          f_X12_readPart_j150 X o13 (m_w ((o13 64 23) - 1)) 0 5
      else
        f_X12_readPart_j154 X o13)
noncomputable def f_X12_readPart_j86 (X : MX) (N : NN) (a1 : Int) (a2 : Int) (z1 : Int) (z2 : Int) : Option (Int × NN) :=
  if a2 = 0 then
    f_X12_readPart_j99 X N a1 z1 z2 0
  else
    f_X12_readPart_j99 X N a1 z1 z2 (m_w (N 64 17))
noncomputable def f_X12_readPart_j76 (X : MX) (N : NN) (a1 : Int) (a2 : Int) (z1 : Int) : Option (Int × NN) :=
  if a1 = (-1) then
    f_X12_readPart_j86 X N a1 a2 z1 0
  else
    f_X12_readPart_j86 X N a1 a2 z1 a1
noncomputable def f_X12_readPart_j71 (X : MX) (N : NN) (a1 : Int) (a2 : Int) : Option (Int × NN) :=
  f_X12_readPart_j76 X N a1 a2 1
noncomputable def f_X12_readPart_j60 (X : MX) (N : NN) (a1 : Int) (z0 : Int) : Option (Int × NN) :=
  if a1 = (-1) then
    if z0 = 0 then
      f_X12_readPart_j76 X N a1 z0 0
    else
      f_X12_readPart_j71 X N a1 z0
  else
    f_X12_readPart_j71 X N a1 z0
noncomputable def f_X12_readPart_j59 (X : MX) (N : NN) (a1 : Int) : Option (Int × NN) :=
  f_X12_readPart_j60 X N a1 0
noncomputable def f_X12_readPart_j35 (X : MX) (N : NN) (z0 : Int) : Option (Int × NN) :=
  if (N 64 16) = 2 then
    if 0 < (m_lcmp (N 64 17) 1000) then
      f_X12_readPart_j59 X N z0
    else
      f_X12_readPart_j60 X N z0 1
  else
    f_X12_readPart_j59 X N z0
noncomputable def f_X12_readPart (X : MX) (N : NN) : Option (Int × NN) :=
  Option.bind (f_X12_isSign X N 91) (fun o1 =>
  if o1 = 0 then
    if (N 64 20) = 0 then
      Option.bind (f_X12_partAt X N) (fun o2 =>
      f_X12_readPart_j35 X N o2)
    else
      Option.bind (f_X12_orderPartAt X N) (fun o3 =>
      f_X12_readPart_j35 X N o3)
  else
    Option.bind (f_X12_openBracket X N 32) (fun o5 =>
    some (1, o5)))
noncomputable def f_X12_readPlain (X : MX) (N : NN) : Option (Int × NN) :=
  Option.bind (f_X12_isWord X N 14836) (fun o1 =>
  if o1 = 0 then
    Option.bind (f_X12_isSign X N 40) (fun o2 =>
    if o2 = 0 then
      Option.bind (f_X12_readPart X N) (fun o3 =>
      some (o3.1, o3.2))
    else
      Option.bind (f_X12_openBracket X N 31) (fun o4 =>
      some (0, o4)))
  else
    Option.bind (f_X12_push X N 28 0) (fun o6 =>
    Option.bind (f_X12_next X o6) (fun o7 =>
    some (0, o7))))
noncomputable def f_X12_readExpression_l20_j72 (X : MX) (N : NN) (a1 : Int) (z0 : Int) : Option ((NN × Int × Int) ⊕ NN) :=
  some (.inl (N, a1, z0))
noncomputable def b_X12_readExpression_20 (X : MX) (N : NN) (a1 : Int) (a2 : Int) : Option ((NN × Int × Int) ⊕ NN) :=
  if (N 64 19) = 0 then
    if a2 = 4 then
      some (.inr N)
    else
      if a2 = 0 then
        Option.bind (f_X12_readPlain X N) (fun o4 =>
        f_X12_readExpression_l20_j72 X o4.2 a1 o4.1)
      else
        if a2 = 1 then
          Option.bind (f_X12_readPart X N) (fun o5 =>
          f_X12_readExpression_l20_j72 X o5.2 a1 o5.1)
        else
          if a2 = 3 then
            Option.bind (f_X12_behindSum X N a1) (fun o6 =>
            f_X12_readExpression_l20_j72 X o6.2 a1 o6.1)
          else
            Option.bind (f_X12_behindTest X N) (fun o7 =>
            f_X12_readExpression_l20_j72 X o7.2 a1 o7.1)
  else
    some (.inr N)
noncomputable def f_X12_readExpression_j19 (X : MX) (N : NN) (a1 : Int) (z0 : Int) : Option NN :=
  Option.bind (lp (fun s => b_X12_readExpression_20 X s.1 s.2.1 s.2.2) (N, a1, z0)) (fun o13 =>
  Option.bind (f_X12_settle X o13 1) (fun o14 =>
  some o14))
noncomputable def f_X12_readExpression (X : MX) (N : NN) (a1 : Int) : Option NN :=
  let N1 : NN := m_up N 64 29 0
  let N2 : NN := m_up N1 64 30 0
  if a1 = 0 then
    f_X12_readExpression_j19 X N2 a1 1
  else
    f_X12_readExpression_j19 X N2 a1 0
noncomputable def b_X12_readLaw_85 (X : MX) (N : NN) (a1 : Int) (a2 : Int) (a3 : Int) : Option ((NN × Int × Int × Int) ⊕ (NN × Int × Int)) :=
  if a3 < 8 then
    if 0 ≤ (m_w (a2 + a3)) ∧ (m_w (a2 + a3)) < 96 then
    let N11 : NN := m_up N 74 ((m_w (a2 + a3)).toNat) 0
    some (.inl (N11, a1, a2, m_w (a3 + 1)))
    else none
  else
    some (.inr (N, a1, a2))
noncomputable def f_X12_readLaw_j195 (X : MX) (N : NN) (a2 : Int) : Option NN :=
  if 0 ≤ (m_w (a2 + 6)) ∧ (m_w (a2 + 6)) < 96 then
  let N32 : NN := m_up N 74 ((m_w (a2 + 6)).toNat) (N 64 23)
  some N32
  else none
noncomputable def f_X12_readLaw_j145 (X : MX) (N : NN) (a2 : Int) : Option NN :=
  if 0 ≤ (m_w (a2 + 4)) ∧ (m_w (a2 + 4)) < 96 then
  let N23 : NN := m_up N 74 ((m_w (a2 + 4)).toNat) (N 64 23)
  if 0 ≤ (m_w (a2 + 5)) ∧ (m_w (a2 + 5)) < 96 then
  let N25 : NN := m_up N23 74 ((m_w (a2 + 5)).toNat) (N23 64 23)
  if (N25 64 19) = 0 then
    Option.bind (f_X12_isWord X N25 294) (fun o26 =>
    if o26 = 0 then
      f_X12_readLaw_j195 X N25 a2
    else
      Option.bind (f_X12_next X N25) (fun o27 =>
      Option.bind (f_X12_readExpression X o27 1) (fun o28 =>
      f_X12_readLaw_j195 X o28 a2)))
  else
    f_X12_readLaw_j195 X N25 a2
  else none
  else none
noncomputable def f_X12_readLaw_j64 (X : MX) (N : NN) (a1 : Int) (z1 : Int) : Option NN :=
  Option.bind (f_X12_must X N z1) (fun o9 =>
  if (o9 64 19) = 0 then
    Option.bind (lp (fun s => b_X12_readLaw_85 X s.1 s.2.1 s.2.2.1 s.2.2.2) (o9, a1, m_w (8 * (o9 64 21)), 0)) (fun o13 =>
    if 0 ≤ o13.2.2 ∧ o13.2.2 < 96 then
    let N15 : NN := m_up o13.1 74 o13.2.2.toNat o13.2.1
    let N16 : NN := m_up N15 64 21 (m_w ((N15 64 21) + 1))
    if 0 ≤ (m_w (o13.2.2 + 3)) ∧ (m_w (o13.2.2 + 3)) < 96 then
    let N18 : NN := m_up N16 74 ((m_w (o13.2.2 + 3)).toNat) (N16 64 23)
    if o13.2.1 = 2 then
      f_X12_readLaw_j145 X N18 o13.2.2
    else
      Option.bind (f_X12_readExpression X N18 0) (fun o19 =>
      f_X12_readLaw_j145 X o19 o13.2.2)
    else none
    else none)
  else
    some o9)
noncomputable def f_X12_readLaw_j63 (X : MX) (N : NN) (a1 : Int) : Option NN :=
  f_X12_readLaw_j64 X N a1 0
noncomputable def f_X12_readLaw_j43 (X : MX) (N : NN) (z0 : Int) : Option NN :=
  if z0 = (-1) then
    f_X12_readLaw_j63 X N z0
  else
    if (N 64 21) < 12 then
      f_X12_readLaw_j64 X N z0 1
    else
      f_X12_readLaw_j63 X N z0
noncomputable def f_X12_readLaw (X : MX) (N : NN) : Option NN :=
  Option.bind (f_X12_isWord X N 24627848) (fun o1 =>
  if o1 = 0 then
    Option.bind (f_X12_isWord X N 11703827) (fun o2 =>
    if o2 = 0 then
      Option.bind (f_X12_isWord X N 67155) (fun o3 =>
      if o3 = 0 then
        f_X12_readLaw_j43 X N (-1)
      else
        f_X12_readLaw_j43 X N 2)
    else
      f_X12_readLaw_j43 X N 1)
  else
    f_X12_readLaw_j43 X N 0)
noncomputable def b_X12_law_37 (X : MX) (N : NN) : Option (NN ⊕ NN) :=
  if (N 64 19) = 0 then
    Option.bind (f_X12_isSign X N 59) (fun o6 =>
    if o6 = 0 then
      some (.inr N)
    else
      Option.bind (f_X12_next X N) (fun o7 =>
      Option.bind (f_X12_readLaw X o7) (fun o8 =>
      some (.inl o8))))
  else
    some (.inr N)
noncomputable def b_X12_law_111 (X : MX) (N : NN) (a1 : Int) (a2 : Int) : Option ((NN × Int × Int) ⊕ (NN × Int)) :=
  if a2 < (m_w (8 * (N 64 21))) then
    if 0 ≤ a2 ∧ a2 < 96 then
    if 0 ≤ (m_w ((m_w (a1 + 2)) + a2)) ∧ (m_w ((m_w (a1 + 2)) + a2)) < 5670 then
    let N17 : NN := m_up N 66 ((m_w ((m_w (a1 + 2)) + a2)).toNat) (N 74 a2.toNat)
    some (.inl (N17, a1, m_w (a2 + 1)))
    else none
    else none
  else
    some (.inr (N, a1))
noncomputable def b_X12_law_146 (X : MX) (N : NN) (a1 : Int) (a2 : Int) : Option ((NN × Int × Int) ⊕ NN) :=
  if a2 < (N 64 23) then
    if 0 ≤ a2 ∧ a2 < 400 then
    if 0 ≤ (m_w ((m_w (a1 + 98)) + (m_w (2 * a2)))) ∧ (m_w ((m_w (a1 + 98)) + (m_w (2 * a2)))) < 5670 then
    let N22 : NN := m_up N 66 ((m_w ((m_w (a1 + 98)) + (m_w (2 * a2)))).toNat) (N 75 a2.toNat)
    if 0 ≤ a2 ∧ a2 < 400 then
    if 0 ≤ (m_w ((m_w ((m_w (a1 + 98)) + (m_w (2 * a2)))) + 1)) ∧ (m_w ((m_w ((m_w (a1 + 98)) + (m_w (2 * a2)))) + 1)) < 5670 then
    let N25 : NN := m_up N22 66 ((m_w ((m_w ((m_w (a1 + 98)) + (m_w (2 * a2)))) + 1)).toNat) (N22 76 a2.toNat)
    some (.inl (N25, a1, m_w (a2 + 1)))
    else none
    else none
    else none
    else none
  else
    some (.inr N)
noncomputable def f_X12_law (X : MX) (N : NN) : Option (Int × NN) :=
  let N1 : NN := m_up N 64 0 0
  if (N1 66 4) = 6 then
    let N2 : NN := m_up N1 64 13 0
    Option.bind (f_X12_tell X N2 (-5)) (fun o3 =>
    some (o3.1, o3.2))
  else
    Option.bind (f_X12_beginText X N1 0) (fun o4 =>
    Option.bind (f_X12_readLaw X o4) (fun o5 =>
    Option.bind (lp (fun s => b_X12_law_37 X s) o5) (fun o11 =>
    Option.bind (f_X12_endText X o11) (fun o12 =>
    if (o12 64 19) = 0 then
      if 0 ≤ (m_w ((m_w (270 + (m_w (900 * (o12 66 4))))) + 1)) ∧ (m_w ((m_w (270 + (m_w (900 * (o12 66 4))))) + 1)) < 5670 then
      let N14 : NN := m_up o12 66 ((m_w ((m_w (270 + (m_w (900 * (o12 66 4))))) + 1)).toNat) (o12 64 21)
      Option.bind (lp (fun s => b_X12_law_111 X s.1 s.2.1 s.2.2) (N14, m_w (270 + (m_w (900 * (o12 66 4)))), 0)) (fun o19 =>
      Option.bind (lp (fun s => b_X12_law_146 X s.1 s.2.1 s.2.2) (o19.1, o19.2, 0)) (fun o27 =>
      let N28 : NN := m_up o27 66 4 (m_w ((o27 66 4) + 1))
      Option.bind (f_X12_tell X N28 (m_w ((N28 66 4) - 1))) (fun o29 =>
      some (o29.1, o29.2))))
      else none
    else
      Option.bind (f_X12_tell X o12 (-6)) (fun o30 =>
      some (o30.1, o30.2))))))
noncomputable def b_X12_layYears_2 (X : MX) (N : NN) (a1 : Int) (a2 : Int) (a3 : Int) : Option ((NN × Int × Int × Int) ⊕ NN) :=
  if a2 < a3 then
    some (.inr N)
  else
    Option.bind (f_X12_year X N) (fun o1 =>
    Option.bind (f_X12_costs X N a1 (m_w (o1 + a3))) (fun o2 =>
    if 0 ≤ a3 ∧ a3 < 100 then
    let N4 : NN := m_up o2.2 89 a3.toNat o2.1
    some (.inl (N4, a1, a2, m_w (a3 + 1)))
    else none))
noncomputable def f_X12_layYears (X : MX) (N : NN) (a1 : Int) (a2 : Int) : Option NN :=
  Option.bind (lp (fun s => b_X12_layYears_2 X s.1 s.2.1 s.2.2.1 s.2.2.2) (N, a1, a2, 1)) (fun o6 =>
  some o6)
noncomputable def b_X12_lord_85 (X : MX) (N : NN) (a3 : Int) (a4 : Int) (a5 : Int) : Option ((NN × Int × Int × Int) ⊕ (NN × Int)) :=
  if a5 < 6 then
    if 0 ≤ (m_w (a4 + a5)) ∧ (m_w (a4 + a5)) < 5670 then
    let N10 : NN := m_up N 66 ((m_w (a4 + a5)).toNat) 0
    some (.inl (N10, a3, a4, m_w (a5 + 1)))
    else none
  else
    some (.inr (N, a3))
noncomputable def f_X12_lord_j29 (X : MX) (N : NN) : Option (Int × NN) :=
  Option.bind (f_X12_tell X N (-1)) (fun o18 =>
  some (o18.1, o18.2))
noncomputable def f_X12_lord (X : MX) (N : NN) (a1 : Int) (a2 : Int) : Option (Int × NN) :=
  let N1 : NN := m_up N 64 0 0
  Option.bind (f_X12_in X N1 a1 0 9999) (fun o2 =>
  if o2 = 0 then
    f_X12_lord_j29 X N1
  else
    Option.bind (f_X12_in X N1 a2 0 99) (fun o3 =>
    if o3 = 0 then
      f_X12_lord_j29 X N1
    else
      if (N1 66 0) = 6 then
        Option.bind (f_X12_tell X N1 (-5)) (fun o4 =>
        some (o4.1, o4.2))
      else
        if 0 ≤ (m_w (9 + (m_w (6 * (N1 66 0))))) ∧ (m_w (9 + (m_w (6 * (N1 66 0))))) < 5670 then
        let N6 : NN := m_up N1 66 ((m_w (9 + (m_w (6 * (N1 66 0))))).toNat) a1
        if 0 ≤ (m_w ((m_w (9 + (m_w (6 * (N1 66 0))))) + 1)) ∧ (m_w ((m_w (9 + (m_w (6 * (N1 66 0))))) + 1)) < 5670 then
        let N8 : NN := m_up N6 66 ((m_w ((m_w (9 + (m_w (6 * (N1 66 0))))) + 1)).toNat) a2
        Option.bind (lp (fun s => b_X12_lord_85 X s.1 s.2.1 s.2.2.1 s.2.2.2) (N8, N1 66 0, m_w (9 + (m_w (6 * (N1 66 0)))), 2)) (fun o12 =>
        let N13 : NN := m_up o12.1 66 0 (m_w ((o12.1 66 0) + 1))
        Option.bind (f_X12_settled X N13 o12.2) (fun o14 =>
        some (o14.1, o14.2)))
        else none
        else none))
noncomputable def f_X12_of_j25 (X : MX) (N : NN) : Option (Int × NN) :=
  some ((-1), N)
noncomputable def f_X12_of_j65 (X : MX) (N : NN) (z0 : Int) : Option (Int × NN) :=
  some (z0, N)
noncomputable def f_X12_of (X : MX) (N : NN) (a1 : Int) (a2 : Int) : Option (Int × NN) :=
  let N1 : NN := m_up N 64 0 0
  Option.bind (f_X12_isLord X N1 a1) (fun o2 =>
  if o2 = 0 then
    f_X12_of_j25 X N1
  else
    Option.bind (f_X12_in X N1 a2 0 7) (fun o3 =>
    if o3 = 0 then
      f_X12_of_j25 X N1
    else
      if a2 < 6 then
        Option.bind (f_X12_ofLord X N1 a1 a2) (fun o4 =>
        f_X12_of_j65 X N1 o4)
      else
        if a2 = 6 then
          Option.bind (f_X12_held X N1 a1) (fun o5 =>
          f_X12_of_j65 X N1 o5)
        else
          Option.bind (f_X12_year X N1) (fun o6 =>
          Option.bind (f_X12_costs X N1 a1 o6) (fun o7 =>
          f_X12_of_j65 X o7.2 o7.1))))
noncomputable def b_X12_ones_4 (X : MX) (N : NN) (a0 : Int) (a1 : Int) (a2 : Int) : Option ((Int × Int × Int) ⊕ Int) :=
  if a2 < 16 then
    some (.inl (a0, m_w (a1 + (m_and (m_shr a0 a2) 1)), m_w (a2 + 1)))
  else
    some (.inr a1)
noncomputable def f_X12_ones (X : MX) (N : NN) (a0 : Int) : Option Int :=
  Option.bind (lp (fun s => b_X12_ones_4 X N s.1 s.2.1 s.2.2) (a0, 0, 0)) (fun o2 =>
  some o2)
noncomputable def f_X12_readSum_j22 (X : MX) (N : NN) (a1 : Int) : Option NN :=
  if 0 ≤ (m_w (a1 + 1)) ∧ (m_w (a1 + 1)) < 96 then
  let N6 : NN := m_up N 102 ((m_w (a1 + 1)).toNat) (N 64 23)
  some N6
  else none
noncomputable def f_X12_readSum (X : MX) (N : NN) (a1 : Int) : Option NN :=
  if 0 ≤ a1 ∧ a1 < 96 then
  let N2 : NN := m_up N 102 a1.toNat (N 64 23)
  if (N2 64 19) = 0 then
    Option.bind (f_X12_readExpression X N2 0) (fun o3 =>
    f_X12_readSum_j22 X o3 a1)
  else
    f_X12_readSum_j22 X N2 a1
  else none
noncomputable def f_X12_readOrder_j208 (X : MX) (N : NN) (a2 : Int) : Option NN :=
  if 0 ≤ (m_w (a2 + 6)) ∧ (m_w (a2 + 6)) < 96 then
  let N35 : NN := m_up N 102 ((m_w (a2 + 6)).toNat) (N 64 23)
  some N35
  else none
noncomputable def f_X12_readOrder_j170 (X : MX) (N : NN) (a2 : Int) : Option NN :=
  if 0 ≤ (m_w (a2 + 5)) ∧ (m_w (a2 + 5)) < 96 then
  let N28 : NN := m_up N 102 ((m_w (a2 + 5)).toNat) (N 64 23)
  if (N28 64 19) = 0 then
    Option.bind (f_X12_isWord X N28 294) (fun o29 =>
    if o29 = 0 then
      f_X12_readOrder_j208 X N28 a2
    else
      Option.bind (f_X12_next X N28) (fun o30 =>
      Option.bind (f_X12_readExpression X o30 1) (fun o31 =>
      f_X12_readOrder_j208 X o31 a2)))
  else
    f_X12_readOrder_j208 X N28 a2
  else none
noncomputable def f_X12_readOrder_j122 (X : MX) (N : NN) (a2 : Int) : Option NN :=
  if 0 ≤ (m_w (a2 + 7)) ∧ (m_w (a2 + 7)) < 96 then
  let N19 : NN := m_up N 102 ((m_w (a2 + 7)).toNat) 1
  if (N19 64 19) = 0 then
    Option.bind (f_X12_isWord X N19 21279923) (fun o20 =>
    if o20 = 0 then
      f_X12_readOrder_j170 X N19 a2
    else
      Option.bind (f_X12_next X N19) (fun o21 =>
      Option.bind (f_X12_number X o21 1 20) (fun o22 =>
      if 0 ≤ (m_w (a2 + 7)) ∧ (m_w (a2 + 7)) < 96 then
      let N24 : NN := m_up o22.2 102 ((m_w (a2 + 7)).toNat) o22.1
      f_X12_readOrder_j170 X N24 a2
      else none)))
  else
    f_X12_readOrder_j170 X N19 a2
  else none
noncomputable def f_X12_readOrder_j115 (X : MX) (N : NN) (a2 : Int) : Option NN :=
  Option.bind (f_X12_readSum X N (m_w (a2 + 3))) (fun o17 =>
  f_X12_readOrder_j122 X o17 a2)
noncomputable def f_X12_readOrder_j50 (X : MX) (N : NN) (a1 : Int) (z1 : Int) : Option NN :=
  Option.bind (f_X12_must X N z1) (fun o7 =>
  if (o7 64 19) = 0 then
    let N8 : NN := m_up o7 64 21 (m_w ((o7 64 21) + 1))
    if 0 ≤ (m_w (8 * (o7 64 21))) ∧ (m_w (8 * (o7 64 21))) < 96 then
    let N10 : NN := m_up N8 102 ((m_w (8 * (o7 64 21))).toNat) a1
    if a1 = 0 then
      Option.bind (f_X12_readSum X N10 (m_w ((m_w (8 * (o7 64 21))) + 1))) (fun o11 =>
      if (o11 64 19) = 0 then
        Option.bind (f_X12_isWord X o11 655) (fun o12 =>
        Option.bind (f_X12_must X o11 o12) (fun o13 =>
        f_X12_readOrder_j115 X o13 (m_w (8 * (o7 64 21)))))
      else
        f_X12_readOrder_j115 X o11 (m_w (8 * (o7 64 21))))
    else
      f_X12_readOrder_j122 X N10 (m_w (8 * (o7 64 21)))
    else none
  else
    some o7)
noncomputable def f_X12_readOrder_j49 (X : MX) (N : NN) (a1 : Int) : Option NN :=
  f_X12_readOrder_j50 X N a1 0
noncomputable def f_X12_readOrder_j29 (X : MX) (N : NN) (z0 : Int) : Option NN :=
  if z0 = (-1) then
    f_X12_readOrder_j49 X N z0
  else
    if (N 64 21) < 12 then
      f_X12_readOrder_j50 X N z0 1
    else
      f_X12_readOrder_j49 X N z0
noncomputable def f_X12_readOrder (X : MX) (N : NN) : Option NN :=
  Option.bind (f_X12_isWord X N 239301) (fun o1 =>
  if o1 = 0 then
    Option.bind (f_X12_isWord X N 754996) (fun o2 =>
    if o2 = 0 then
      f_X12_readOrder_j29 X N (-1)
    else
      f_X12_readOrder_j29 X N 1)
  else
    f_X12_readOrder_j29 X N 0)
noncomputable def f_X12_sumOf (X : MX) (N : NN) (a1 : Int) : Option (Int × NN) :=
  if (N 64 69) = 0 then
    let N1 : NN := m_up N 64 20 1
    if 0 ≤ a1 ∧ a1 < 96 then
    if 0 ≤ (m_w (a1 + 1)) ∧ (m_w (a1 + 1)) < 96 then
    Option.bind (f_X12_reckonAll X N1 (N1 102 a1.toNat) (N1 102 ((m_w (a1 + 1)).toNat))) (fun o4 =>
    let N5 : NN := m_up o4 64 20 0
    if 0 ≤ (N5 64 37) ∧ (N5 64 37) ≤ 1 then
    let N7 : NN := m_up N5 64 69 (N5 64 37)
    some (N7 64 38, N7)
    else none)
    else none
    else none
  else
    some (0, N)
noncomputable def f_X12_run_j173 (X : MX) (N : NN) : Option (Int × NN) :=
  some ((-3), N)
noncomputable def f_X12_run_j201 (X : MX) (N : NN) : Option (Int × NN) :=
  let N27 : NN := m_up N 64 66 (m_w ((N 64 66) + 1))
  some (0, N27)
noncomputable def f_X12_run_j94 (X : MX) (N : NN) (a1 : Int) : Option (Int × NN) :=
  if 0 ≤ a1 ∧ a1 < 96 then
  if (N 102 a1.toNat) = 1 then
    Option.bind (f_X12_waitNow X N) (fun o14 =>
    if o14.1 < 0 then
      some ((-3), o14.2)
    else
      f_X12_run_j201 X o14.2)
  else
    Option.bind (f_X12_sumOf X N (m_w (a1 + 1))) (fun o16 =>
    Option.bind (f_X12_sumOf X o16.2 (m_w (a1 + 3))) (fun o17 =>
    if (o17.2 64 69) = 0 then
      Option.bind (f_X12_in X o17.2 o16.1 0 (m_wl ((o17.2 66 1) - 1))) (fun o18 =>
      if o18 = 0 then
        f_X12_run_j173 X o17.2
      else
        Option.bind (f_X12_in X o17.2 o17.1 0 (m_wl ((o17.2 66 0) - 1))) (fun o19 =>
        if o19 = 0 then
          f_X12_run_j173 X o17.2
        else
          Option.bind (f_X12_giveNow X o17.2 (m_w o16.1) (m_w o17.1)) (fun o20 =>
          if o20.1 < 0 then
            some ((-3), o20.2)
          else
            let N21 : NN := m_up o20.2 64 67 o20.1
            f_X12_run_j201 X N21)))
    else
      f_X12_run_j173 X o17.2))
  else none
noncomputable def f_X12_run_j92 (X : MX) (N : NN) : Option (Int × NN) :=
  some (0, N)
noncomputable def f_X12_run (X : MX) (N : NN) (a1 : Int) : Option (Int × NN) :=
  Option.bind (f_X12_year X N) (fun o1 =>
  let N2 : NN := m_up N 82 1 o1
  let N3 : NN := m_up N2 82 2 (N2 66 1)
  let N4 : NN := m_up N3 82 3 (N3 64 66)
  let N5 : NN := m_up N4 82 4 (N4 64 67)
  let N6 : NN := m_up N5 64 69 0
  if 0 ≤ (m_w (a1 + 5)) ∧ (m_w (a1 + 5)) < 96 then
  if 0 ≤ (m_w (a1 + 6)) ∧ (m_w (a1 + 6)) < 96 then
  if (N6 102 ((m_w (a1 + 5)).toNat)) < (N6 102 ((m_w (a1 + 6)).toNat)) then
    Option.bind (f_X12_sumOf X N6 (m_w (a1 + 5))) (fun o9 =>
    if (o9.2 64 69) = 0 then
      if (m_lcmp o9.1 0) = 0 then
        f_X12_run_j92 X o9.2
      else
        f_X12_run_j94 X o9.2 a1
    else
      f_X12_run_j92 X o9.2)
  else
    f_X12_run_j94 X N6 a1
  else none
  else none)
noncomputable def b_X12_orders_19 (X : MX) (N : NN) : Option (NN ⊕ NN) :=
  if (N 64 19) = 0 then
    Option.bind (f_X12_isSign X N 59) (fun o5 =>
    if o5 = 0 then
      some (.inr N)
    else
      Option.bind (f_X12_next X N) (fun o6 =>
      Option.bind (f_X12_readOrder X o6) (fun o7 =>
      some (.inl o7))))
  else
    some (.inr N)
noncomputable def b_X12_orders_77 (X : MX) (N : NN) (a1 : Int) (a2 : Int) : Option ((NN × Int × Int) ⊕ (NN × Int)) :=
  if a2 < 4320 then
    if 0 ≤ a2 ∧ a2 < 4860 then
    if 0 ≤ a2 ∧ a2 < 4320 then
    let N15 : NN := m_up N 71 a2.toNat (N 69 a2.toNat)
    some (.inl (N15, a1, m_w (a2 + 1)))
    else none
    else none
  else
    some (.inr (N, a1))
noncomputable def b_X12_orders_104 (X : MX) (N : NN) (a1 : Int) (a2 : Int) : Option ((NN × Int × Int) ⊕ (NN × Int)) :=
  if a2 < 16 then
    if 0 ≤ a2 ∧ a2 < 16 then
    if 0 ≤ a2 ∧ a2 < 16 then
    let N20 : NN := m_up N 72 a2.toNat (N 70 a2.toNat)
    some (.inl (N20, a1, m_w (a2 + 1)))
    else none
    else none
  else
    some (.inr (N, a1))
noncomputable def b_X12_orders_150 (X : MX) (N : NN) (a1 : Int) (a2 : Int) (a3 : Int) : Option ((NN × Int × Int × Int) ⊕ ((NN × Int × Int) ⊕ (NN × Int × Int))) :=
  if 0 ≤ (m_w ((m_w (8 * a2)) + 7)) ∧ (m_w ((m_w (8 * a2)) + 7)) < 96 then
  if a3 < (N 102 ((m_w ((m_w (8 * a2)) + 7)).toNat)) then
    Option.bind (f_X12_run X N (m_w (8 * a2))) (fun o26 =>
    if o26.1 < 0 then
      some (.inr (.inr (o26.2, a1, a2)))
    else
      some (.inl (o26.2, a1, a2, m_w (a3 + 1))))
  else
    some (.inr (.inl (N, a1, a2)))
  else none
noncomputable def b_X12_orders_140 (X : MX) (N : NN) (a1 : Int) (a2 : Int) : Option ((NN × Int × Int) ⊕ (NN ⊕ (NN × Int × Int))) :=
  if a2 < (N 64 21) then
    Option.bind (lp (fun s => b_X12_orders_150 X s.1 s.2.1 s.2.2.1 s.2.2.2) (N, a1, a2, 0)) (fun o29 =>
      match o29 with
      | .inl e29 =>
          some (.inl (e29.1, e29.2.1, m_w (e29.2.2 + 1)))
      | .inr e29 =>
          some (.inr (.inr (e29.1, e29.2.1, e29.2.2))))
  else
    some (.inr (.inl N))
noncomputable def b_X12_orders_186 (X : MX) (N : NN) (a1 : Int) (a2 : Int) (a4 : Int) : Option ((NN × Int × Int × Int) ⊕ (NN × Int × Int)) :=
  if a4 < 4320 then
    if 0 ≤ a4 ∧ a4 < 4320 then
    if 0 ≤ a4 ∧ a4 < 4860 then
    let N36 : NN := m_up N 69 a4.toNat (N 71 a4.toNat)
    some (.inl (N36, a1, a2, m_w (a4 + 1)))
    else none
    else none
  else
    some (.inr (N, a1, a2))
noncomputable def b_X12_orders_217 (X : MX) (N : NN) (a1 : Int) (a2 : Int) (a4 : Int) : Option ((NN × Int × Int × Int) ⊕ (NN × Int × Int)) :=
  if a4 < 16 then
    if 0 ≤ a4 ∧ a4 < 16 then
    if 0 ≤ a4 ∧ a4 < 16 then
    let N41 : NN := m_up N 70 a4.toNat (N 72 a4.toNat)
    some (.inl (N41, a1, a2, m_w (a4 + 1)))
    else none
    else none
  else
    some (.inr (N, a1, a2))
noncomputable def f_X12_orders (X : MX) (N : NN) : Option (Int × NN) :=
  let N1 : NN := m_up N 64 0 0
  let N2 : NN := m_up N1 64 68 (-1)
  Option.bind (f_X12_beginText X N2 1) (fun o3 =>
  Option.bind (f_X12_readOrder X o3) (fun o4 =>
  Option.bind (lp (fun s => b_X12_orders_19 X s) o4) (fun o10 =>
  Option.bind (f_X12_endText X o10) (fun o11 =>
  if (o11 64 19) = 0 then
    Option.bind (f_X12_keepRow X o11 17) (fun o12 =>
    Option.bind (lp (fun s => b_X12_orders_77 X s.1 s.2.1 s.2.2) (o12, o12 64 8, 0)) (fun o17 =>
    Option.bind (lp (fun s => b_X12_orders_104 X s.1 s.2.1 s.2.2) (o17.1, o17.2, 0)) (fun o22 =>
    let N23 : NN := m_up o22.1 64 66 0
    let N24 : NN := m_up N23 64 67 (-1)
    Option.bind (lp (fun s => b_X12_orders_140 X s.1 s.2.1 s.2.2) (N24, o22.2, 0)) (fun o31 =>
      match o31 with
      | .inl e31 =>
          Option.bind (f_X12_tell X e31 (e31 64 66)) (fun o32 =>
          some (o32.1, o32.2))
      | .inr e31 =>
          Option.bind (f_X12_putBack X e31.1 17) (fun o33 =>
          Option.bind (lp (fun s => b_X12_orders_186 X s.1 s.2.1 s.2.2.1 s.2.2.2) (o33, e31.2.1, e31.2.2, 0)) (fun o38 =>
          Option.bind (lp (fun s => b_X12_orders_217 X s.1 s.2.1 s.2.2.1 s.2.2.2) (o38.1, o38.2.1, o38.2.2, 0)) (fun o43 =>
          let N44 : NN := m_up o43.1 64 8 o43.2.1
          let N45 : NN := m_up N44 64 68 o43.2.2
          Option.bind (f_X12_tell X N45 (-3)) (fun o46 =>
          some (o46.1, o46.2)))))))))
  else
    Option.bind (f_X12_tell X o11 (-6)) (fun o47 =>
    some (o47.1, o47.2))))))
noncomputable def f_X12_owed_l33_j81 (X : MX) (N : NN) (a1 : Int) (a2 : Int) (a3 : Int) (a5 : Int) (z0 : Int) : Option ((NN × Int × Int × Int × Int × Int) ⊕ (NN × Int × Int × Int)) :=
  some (.inl (N, a1, a2, a3, z0, m_w (a5 + 1)))
noncomputable def f_X12_owed_l33_j66 (X : MX) (N : NN) (a1 : Int) (a2 : Int) (a4 : Int) (a5 : Int) (a6 : Int) (z0 : Int) : Option ((NN × Int × Int × Int × Int × Int) ⊕ (NN × Int × Int × Int)) :=
  if a4 < a6 then
    f_X12_owed_l33_j81 X N a1 a2 z0 a5 a6
  else
    f_X12_owed_l33_j81 X N a1 a2 z0 a5 a4
noncomputable def b_X12_owed_33 (X : MX) (N : NN) (a1 : Int) (a2 : Int) (a3 : Int) (a4 : Int) (a5 : Int) : Option ((NN × Int × Int × Int × Int × Int) ⊕ (NN × Int × Int × Int)) :=
  if a5 < 6 then
    Option.bind (f_X12_debtAt X N a1 a5) (fun o4 =>
    if 0 ≤ o4 ∧ o4 < 5670 then
    if a4 < (N 66 o4.toNat) then
      f_X12_owed_l33_j66 X N a1 a2 a4 a5 (N 66 o4.toNat) a5
    else
      f_X12_owed_l33_j66 X N a1 a2 a4 a5 (N 66 o4.toNat) a3
    else none)
  else
    some (.inr (N, a1, a2, a3))
noncomputable def f_X12_owed_j23 (X : MX) (N : NN) : Option (Int × NN) :=
  some ((-1), N)
noncomputable def f_X12_owed_j102 (X : MX) (N : NN) (z0 : Int) : Option (Int × NN) :=
  some (z0, N)
noncomputable def f_X12_owed (X : MX) (N : NN) (a1 : Int) (a2 : Int) : Option (Int × NN) :=
  let N1 : NN := m_up N 64 0 0
  Option.bind (f_X12_isLord X N1 a1) (fun o2 =>
  if o2 = 0 then
    f_X12_owed_j23 X N1
  else
    Option.bind (f_X12_in X N1 a2 0 1) (fun o3 =>
    if o3 = 0 then
      f_X12_owed_j23 X N1
    else
      Option.bind (lp (fun s => b_X12_owed_33 X s.1 s.2.1 s.2.2.1 s.2.2.2.1 s.2.2.2.2.1 s.2.2.2.2.2) (N1, a1, a2, (-1), (-1), 0)) (fun o9 =>
      if o9.2.2.1 = 0 then
        Option.bind (f_X12_debtsOf X o9.1 o9.2.1) (fun o10 =>
        f_X12_owed_j102 X o9.1 o10)
      else
        f_X12_owed_j102 X o9.1 o9.2.2.2)))
noncomputable def f_X12_put_j43 (X : MX) (N : NN) (a1 : Int) (a2 : Int) (a3 : Int) (z0 : Int) : Option (Int × NN) :=
  if z0 = 0 then
    Option.bind (f_X12_tell X N (-1)) (fun o7 =>
    some (o7.1, o7.2))
  else
    Option.bind (f_X12_isLord X N a1) (fun o8 =>
    if o8 = 0 then
      Option.bind (f_X12_tell X N (-2)) (fun o9 =>
      some (o9.1, o9.2))
    else
      Option.bind (f_X12_ofLord X N a1 a2) (fun o10 =>
      if 0 ≤ (m_w ((m_w (9 + (m_w (6 * a1)))) + a2)) ∧ (m_w ((m_w (9 + (m_w (6 * a1)))) + a2)) < 5670 then
      let N12 : NN := m_up N 66 ((m_w ((m_w (9 + (m_w (6 * a1)))) + a2)).toNat) a3
      let N13 : NN := m_up N12 64 8 0
      Option.bind (f_X12_was X N13 o10) (fun o14 =>
      some (o14.1, o14.2))
      else none))
noncomputable def f_X12_put_j42 (X : MX) (N : NN) (a1 : Int) (a2 : Int) (a3 : Int) : Option (Int × NN) :=
  f_X12_put_j43 X N a1 a2 a3 0
noncomputable def f_X12_put (X : MX) (N : NN) (a1 : Int) (a2 : Int) (a3 : Int) : Option (Int × NN) :=
  let N1 : NN := m_up N 64 0 0
  if a2 = 0 then
    Option.bind (f_X12_in X N1 a3 0 9999) (fun o2 =>
    f_X12_put_j43 X N1 a1 a2 a3 o2)
  else
    if a2 = 1 then
      Option.bind (f_X12_in X N1 a3 0 99) (fun o3 =>
      if o3 = 0 then
        f_X12_put_j42 X N1 a1 a2 a3
      else
        f_X12_put_j43 X N1 a1 a2 a3 1)
    else
      f_X12_put_j42 X N1 a1 a2 a3
noncomputable def f_X12_ring_j59 (X : MX) (N : NN) (z0 : Int) : Option (Int × NN) :=
  some (z0, N)
noncomputable def f_X12_ring (X : MX) (N : NN) (a1 : Int) : Option (Int × NN) :=
  let N1 : NN := m_up N 64 0 0
  Option.bind (f_X12_findRing X N1) (fun o2 =>
  if (o2 64 57) = 100000000 then
    some ((-1), o2)
  else
    if a1 = (-1) then
      f_X12_ring_j59 X o2 (o2 64 57)
    else
      Option.bind (f_X12_in X o2 a1 0 (m_wl ((o2 64 57) - 1))) (fun o3 =>
      if o3 = 0 then
        f_X12_ring_j59 X o2 (-1)
      else
        if 0 ≤ a1 ∧ a1 < 6 then
        f_X12_ring_j59 X o2 (o2 96 a1.toNat)
        else none))
noncomputable def f_X12_road_j35 (X : MX) (N : NN) : Option (Int × NN) :=
  Option.bind (f_X12_tell X N (-1)) (fun o23 =>
  some (o23.1, o23.2))
noncomputable def f_X12_road_j57 (X : MX) (N : NN) : Option (Int × NN) :=
  Option.bind (f_X12_tell X N (-2)) (fun o24 =>
  some (o24.1, o24.2))
noncomputable def f_X12_road (X : MX) (N : NN) (a1 : Int) (a2 : Int) (a3 : Int) (a4 : Int) : Option (Int × NN) :=
  let N1 : NN := m_up N 64 0 0
  if a1 = a2 then
    f_X12_road_j35 X N1
  else
    Option.bind (f_X12_in X N1 a3 1 30) (fun o2 =>
    if o2 = 0 then
      f_X12_road_j35 X N1
    else
      Option.bind (f_X12_in X N1 a4 0 10) (fun o3 =>
      if o3 = 0 then
        f_X12_road_j35 X N1
      else
        Option.bind (f_X12_isLord X N1 a1) (fun o4 =>
        if o4 = 0 then
          f_X12_road_j57 X N1
        else
          Option.bind (f_X12_isLord X N1 a2) (fun o5 =>
          if o5 = 0 then
            f_X12_road_j57 X N1
          else
            if (N1 66 3) = 12 then
              Option.bind (f_X12_tell X N1 (-5)) (fun o6 =>
              some (o6.1, o6.2))
            else
              if 0 ≤ (m_w (218 + (m_w (4 * (N1 66 3))))) ∧ (m_w (218 + (m_w (4 * (N1 66 3))))) < 5670 then
              let N8 : NN := m_up N1 66 ((m_w (218 + (m_w (4 * (N1 66 3))))).toNat) a1
              if 0 ≤ (m_w ((m_w (218 + (m_w (4 * (N1 66 3))))) + 1)) ∧ (m_w ((m_w (218 + (m_w (4 * (N1 66 3))))) + 1)) < 5670 then
              let N10 : NN := m_up N8 66 ((m_w ((m_w (218 + (m_w (4 * (N1 66 3))))) + 1)).toNat) a2
              if 0 ≤ (m_w ((m_w (218 + (m_w (4 * (N1 66 3))))) + 2)) ∧ (m_w ((m_w (218 + (m_w (4 * (N1 66 3))))) + 2)) < 5670 then
              let N12 : NN := m_up N10 66 ((m_w ((m_w (218 + (m_w (4 * (N1 66 3))))) + 2)).toNat) a3
              if 0 ≤ (m_w ((m_w (218 + (m_w (4 * (N1 66 3))))) + 3)) ∧ (m_w ((m_w (218 + (m_w (4 * (N1 66 3))))) + 3)) < 5670 then
              let N14 : NN := m_up N12 66 ((m_w ((m_w (218 + (m_w (4 * (N1 66 3))))) + 3)).toNat) a4
              let N15 : NN := m_up N14 66 3 (m_w ((N14 66 3) + 1))
              Option.bind (f_X12_tell X N15 (N1 66 3)) (fun o16 =>
              some (o16.1, o16.2))
              else none
              else none
              else none
              else none))))
noncomputable def f_X12_row_l35_j92 (X : MX) (N : NN) (a1 : Int) (a2 : Int) (a3 : Int) : Option ((NN × Int × Int × Int) ⊕ (NN × Int)) :=
  some (.inl (N, a1, a2, m_w (a3 + 3)))
noncomputable def f_X12_row_l35_j82 (X : MX) (N : NN) (a1 : Int) (a2 : Int) (a3 : Int) : Option ((NN × Int × Int × Int) ⊕ (NN × Int)) :=
  let N12 : NN := m_up N 64 11 (m_w ((N 64 11) + 1))
  f_X12_row_l35_j92 X N12 a1 a2 a3
noncomputable def b_X12_row_35 (X : MX) (N : NN) (a1 : Int) (a2 : Int) (a3 : Int) : Option ((NN × Int × Int × Int) ⊕ (NN × Int)) :=
  if a3 < a1 then
    if (m_w (a3 + 2)) < a1 then
      if 0 ≤ a3 ∧ a3 < 400 then
      if 0 ≤ (m_w (a3 + 1)) ∧ (m_w (a3 + 1)) < 400 then
      if 0 ≤ (m_w (a3 + 2)) ∧ (m_w (a3 + 2)) < 400 then
      Option.bind (f_X12_good1 X N (N 73 a3.toNat) (N 73 ((m_w (a3 + 1)).toNat)) (N 73 ((m_w (a3 + 2)).toNat))) (fun o8 =>
      if o8.1 < 0 then
        f_X12_row_l35_j82 X o8.2 a1 a2 a3
      else
        f_X12_row_l35_j92 X o8.2 a1 (m_w (a2 + 1)) a3)
      else none
      else none
      else none
    else
      f_X12_row_l35_j82 X N a1 a2 a3
  else
    some (.inr (N, a2))
noncomputable def f_X12_row (X : MX) (N : NN) : Option (Int × NN) :=
  let N1 : NN := m_up N 64 0 0
  let N2 : NN := m_up N1 64 13 0
  if (N1 64 13) = 0 then
    Option.bind (f_X12_tell X N2 (-6)) (fun o3 =>
    some (o3.1, o3.2))
  else
    let N4 : NN := m_up N2 64 11 0
    Option.bind (lp (fun s => b_X12_row_35 X s.1 s.2.1 s.2.2.1 s.2.2.2) (N4, N1 64 13, 0, 0)) (fun o13 =>
    Option.bind (f_X12_settled X o13.1 o13.2) (fun o14 =>
    some (o14.1, o14.2)))
noncomputable def f_X12_ruinedIn_l29_j73 (X : MX) (N : NN) (a1 : Int) (a2 : Int) (a3 : Int) (a4 : Int) (a5 : Int) (a7 : Int) (z0 : Int) (z1 : Int) : Option ((Int × Int × Int × Int × Int × Int × Int) ⊕ (Int × Int × Int × Int × Int × Int)) :=
  some (.inl (a1, a2, a3, a4, a5, m_w (z0 + z1), m_w (a7 + 1)))
noncomputable def b_X12_ruinedIn_29 (X : MX) (N : NN) (a1 : Int) (a2 : Int) (a3 : Int) (a4 : Int) (a5 : Int) (a6 : Int) (a7 : Int) : Option ((Int × Int × Int × Int × Int × Int × Int) ⊕ (Int × Int × Int × Int × Int × Int)) :=
  if a7 < 10 then
    if a5 < 10 then
      Option.bind (f_X12_is X N a3 a7) (fun o3 =>
      if o3 = 0 then
        f_X12_ruinedIn_l29_j73 X N a1 a2 a3 a4 a5 a7 a6 0
      else
        if 0 ≤ (m_w ((m_w ((m_w (9 * a7)) + a5)) - 1)) ∧ (m_w ((m_w ((m_w (9 * a7)) + a5)) - 1)) < 90 then
        f_X12_ruinedIn_l29_j73 X N a1 a2 a3 a4 a5 a7 a6 (N 91 ((m_w ((m_w ((m_w (9 * a7)) + a5)) - 1)).toNat))
        else none)
    else
      some (.inr (a1, a2, a3, a4, a5, a6))
  else
    some (.inr (a1, a2, a3, a4, a5, a6))
noncomputable def b_X12_ruinedIn_11 (X : MX) (N : NN) (a1 : Int) (a2 : Int) (a3 : Int) (a4 : Int) (a5 : Int) : Option ((Int × Int × Int × Int × Int) ⊕ (Unit ⊕ Int)) :=
  if a2 < a5 then
    some (.inr (.inl ()))
  else
    if 0 ≤ a5 ∧ a5 < 100 then
    Option.bind (lp (fun s => b_X12_ruinedIn_29 X N s.1 s.2.1 s.2.2.1 s.2.2.2.1 s.2.2.2.2.1 s.2.2.2.2.2.1 s.2.2.2.2.2.2) (a1, a2, a3, a4, a5, N 89 a5.toNat, 0)) (fun o8 =>
    Option.bind (f_X12_ofLord X N o8.1 1) (fun o9 =>
    Option.bind (f_X12_within X N (m_w (o8.2.2.2.1 + o9)) 0 9999) (fun o10 =>
    if (m_w (o10 - o8.2.2.2.2.2)) < 0 then
      some (.inr (.inr o8.2.2.2.2.1))
    else
      some (.inl (o8.1, o8.2.1, o8.2.2.1, m_w (o10 - o8.2.2.2.2.2), m_w (o8.2.2.2.2.1 + 1))))))
    else none
noncomputable def f_X12_ruinedIn (X : MX) (N : NN) (a1 : Int) (a2 : Int) (a3 : Int) : Option Int :=
  Option.bind (f_X12_ofLord X N a1 0) (fun o1 =>
  Option.bind (lp (fun s => b_X12_ruinedIn_11 X N s.1 s.2.1 s.2.2.1 s.2.2.2.1 s.2.2.2.2) (a1, a2, a3, o1, 1)) (fun o13 =>
    match o13 with
    | .inl e13 =>
        some (-1)
    | .inr e13 =>
        some e13))
noncomputable def f_X12_ruin_j35 (X : MX) (N : NN) : Option (Int × NN) :=
  some ((-1), N)
noncomputable def f_X12_ruin_j66 (X : MX) (N : NN) (z0 : Int) : Option (Int × NN) :=
  some (z0, N)
noncomputable def f_X12_ruin (X : MX) (N : NN) (a1 : Int) (a2 : Int) : Option (Int × NN) :=
  let N1 : NN := m_up N 64 0 0
  Option.bind (f_X12_isLord X N1 a1) (fun o2 =>
  if o2 = 0 then
    f_X12_ruin_j35 X N1
  else
    Option.bind (f_X12_in X N1 a2 1 99) (fun o3 =>
    if o3 = 0 then
      f_X12_ruin_j35 X N1
    else
      Option.bind (f_X12_ofLord X N1 a1 2) (fun o4 =>
      if o4 = 1 then
        f_X12_ruin_j35 X N1
      else
        Option.bind (f_X12_layYears X N1 a1 a2) (fun o5 =>
        Option.bind (f_X12_ruinedIn X o5 a1 a2 0) (fun o6 =>
        if o6 = (-1) then
          f_X12_ruin_j66 X o5 (-1)
        else
          Option.bind (f_X12_year X o5) (fun o7 =>
          f_X12_ruin_j66 X o5 (m_w (o7 + o6))))))))
noncomputable def f_X12_shelf_j37 (X : MX) (N : NN) : Option (Int × NN) :=
  Option.bind (f_X12_tell X N (-2)) (fun o9 =>
  some (o9.1, o9.2))
noncomputable def f_X12_shelf_j44 (X : MX) (N : NN) (a1 : Int) (a2 : Int) : Option (Int × NN) :=
  Option.bind (f_X12_ofGood X N a1 5) (fun o10 =>
  if 0 ≤ (m_w ((m_w (45 + (m_w (6 * a1)))) + 5)) ∧ (m_w ((m_w (45 + (m_w (6 * a1)))) + 5)) < 5670 then
  let N12 : NN := m_up N 66 ((m_w ((m_w (45 + (m_w (6 * a1)))) + 5)).toNat) a2
  Option.bind (f_X12_was X N12 o10) (fun o13 =>
  some (o13.1, o13.2))
  else none)
noncomputable def f_X12_shelf (X : MX) (N : NN) (a1 : Int) (a2 : Int) : Option (Int × NN) :=
  let N1 : NN := m_up N 64 0 0
  if a2 < (-1) then
    Option.bind (f_X12_tell X N1 (-1)) (fun o2 =>
    some (o2.1, o2.2))
  else
    Option.bind (f_X12_isGood X N1 a1) (fun o3 =>
    if o3 = 0 then
      f_X12_shelf_j37 X N1
    else
      if a2 = (-1) then
        f_X12_shelf_j44 X N1 a1 a2
      else
        Option.bind (f_X12_isLord X N1 a2) (fun o4 =>
        if o4 = 0 then
          f_X12_shelf_j37 X N1
        else
          f_X12_shelf_j44 X N1 a1 a2))
noncomputable def b_X12_siege_164 (X : MX) (N : NN) (a1 : Int) (a2 : Int) (a3 : Int) (a4 : Int) (a5 : Int) (a6 : Int) (a7 : Int) (a8 : Int) : Option ((NN × Int × Int × Int × Int × Int × Int × Int × Int) ⊕ (NN × Int × Int × Int × Int × Int × Int × Int)) :=
  if a3 < a8 then
    some (.inr (N, a1, a2, a3, a4, a5, a6, a7))
  else
    Option.bind (f_X12_year X N) (fun o19 =>
    Option.bind (f_X12_costOf X N a7 a2 (m_w (o19 + a8))) (fun o20 =>
    if 0 ≤ (m_w ((m_w ((m_w (9 * a5)) + a8)) - 1)) ∧ (m_w ((m_w ((m_w (9 * a5)) + a8)) - 1)) < 90 then
    let N22 : NN := m_up o20.2 91 ((m_w ((m_w ((m_w (9 * a5)) + a8)) - 1)).toNat) o20.1
    some (.inl (N22, a1, a2, a3, a4, a5, a6, a7, m_w (a8 + 1)))
    else none))
noncomputable def f_X12_siege_l88_j208 (X : MX) (N : NN) (a1 : Int) (a2 : Int) (a3 : Int) (a4 : Int) (a5 : Int) (a6 : Int) (a7 : Int) : Option ((NN × Int × Int × Int × Int × Int × Int × Int) ⊕ (NN × Int × Int × Int × Int × Int × Int)) :=
  some (.inl (N, a1, a2, a3, a4, a5, a6, m_w (a7 + 1)))
noncomputable def f_X12_siege_l88_j158 (X : MX) (N : NN) (a1 : Int) (a2 : Int) (a3 : Int) (a4 : Int) (a5 : Int) (a7 : Int) (z0 : Int) (z1 : Int) : Option ((NN × Int × Int × Int × Int × Int × Int × Int) ⊕ (NN × Int × Int × Int × Int × Int × Int)) :=
  Option.bind (lp (fun s => b_X12_siege_164 X s.1 s.2.1 s.2.2.1 s.2.2.2.1 s.2.2.2.2.1 s.2.2.2.2.2.1 s.2.2.2.2.2.2.1 s.2.2.2.2.2.2.2.1 s.2.2.2.2.2.2.2.2) (N, a1, a2, a3, a4, a5, m_or z0 z1, a7, 1)) (fun o24 =>
  f_X12_siege_l88_j208 X o24.1 o24.2.1 o24.2.2.1 o24.2.2.2.1 o24.2.2.2.2.1 (m_w (o24.2.2.2.2.2.1 + 1)) o24.2.2.2.2.2.2.1 o24.2.2.2.2.2.2.2)
noncomputable def b_X12_siege_88 (X : MX) (N : NN) (a1 : Int) (a2 : Int) (a3 : Int) (a4 : Int) (a5 : Int) (a6 : Int) (a7 : Int) : Option ((NN × Int × Int × Int × Int × Int × Int × Int) ⊕ (NN × Int × Int × Int × Int × Int × Int)) :=
  if a7 < (N 66 1) then
    if a5 < 10 then
      Option.bind (f_X12_ofGood X N a7 0) (fun o9 =>
      if o9 = a1 then
        Option.bind (f_X12_ofGood X N a7 1) (fun o10 =>
        if o10 = a1 then
          if 0 ≤ a5 ∧ a5 < 10 then
          let N12 : NN := m_up N 90 a5.toNat a7
          Option.bind (f_X12_isBarred X N12 a7 a1 a2) (fun o13 =>
          if o13.1 = 0 then
            f_X12_siege_l88_j158 X o13.2 a1 a2 a3 a4 a5 a7 a6 (m_shl 1 a5)
          else
            f_X12_siege_l88_j158 X o13.2 a1 a2 a3 a4 a5 a7 a6 0)
          else none
        else
          f_X12_siege_l88_j208 X N a1 a2 a3 a4 a5 a6 a7)
      else
        f_X12_siege_l88_j208 X N a1 a2 a3 a4 a5 a6 a7)
    else
      some (.inr (N, a1, a2, a3, a4, a5, a6))
  else
    some (.inr (N, a1, a2, a3, a4, a5, a6))
noncomputable def f_X12_siege_l245_j281 (X : MX) (N : NN) (a1 : Int) (a2 : Int) (a3 : Int) (a4 : Int) (a5 : Int) (a6 : Int) (a7 : Int) (a8 : Int) (a9 : Int) (a10 : Int) (a12 : Int) (z0 : Int) (z1 : Int) : Option ((NN × Int × Int × Int × Int × Int × Int × Int × Int × Int × Int × Int × Int) ⊕ (NN × Int × Int × Int × Int × Int × Int × Int × Int × Int × Int × Int)) :=
  some (.inl (N, a1, a2, a3, a4, a5, a6, a7, a8, a9, a10, m_w (z0 + z1), m_w (a12 + 1)))
noncomputable def b_X12_siege_245 (X : MX) (N : NN) (a1 : Int) (a2 : Int) (a3 : Int) (a4 : Int) (a5 : Int) (a6 : Int) (a7 : Int) (a8 : Int) (a9 : Int) (a10 : Int) (a11 : Int) (a12 : Int) : Option ((NN × Int × Int × Int × Int × Int × Int × Int × Int × Int × Int × Int × Int) ⊕ (NN × Int × Int × Int × Int × Int × Int × Int × Int × Int × Int × Int)) :=
  if a12 < a5 then
    Option.bind (f_X12_is X N a10 a12) (fun o26 =>
    if o26 = 0 then
      f_X12_siege_l245_j281 X N a1 a2 a3 a4 a5 a6 a7 a8 a9 a10 a12 a11 0
    else
      if 0 ≤ a12 ∧ a12 < 10 then
      Option.bind (f_X12_worthOf X N (N 90 a12.toNat) a1 a2) (fun o28 =>
      f_X12_siege_l245_j281 X o28.2 a1 a2 a3 a4 a5 a6 a7 a8 a9 a10 a12 a11 o28.1)
      else none)
  else
    some (.inr (N, a1, a2, a3, a4, a5, a6, a7, a8, a9, a10, a11))
noncomputable def f_X12_siege_l230_j389 (X : MX) (N : NN) (a1 : Int) (a2 : Int) (a3 : Int) (a4 : Int) (a5 : Int) (a6 : Int) (a7 : Int) (a9 : Int) (a10 : Int) (z0 : Int) : Option ((NN × Int × Int × Int × Int × Int × Int × Int × Int × Int × Int) ⊕ (NN × Int × Int × Int × Int × Int)) :=
  some (.inl (N, a1, a2, a3, a4, a5, a6, a7, z0, a9, m_w (a10 + 1)))
noncomputable def f_X12_siege_l230_j375 (X : MX) (N : NN) (a1 : Int) (a2 : Int) (a3 : Int) (a4 : Int) (a5 : Int) (a6 : Int) (a8 : Int) (a9 : Int) (a10 : Int) (a11 : Int) (a12 : Int) (z0 : Int) : Option ((NN × Int × Int × Int × Int × Int × Int × Int × Int × Int × Int) ⊕ (NN × Int × Int × Int × Int × Int)) :=
  if a12 = 0 then
    f_X12_siege_l230_j389 X N a1 a2 a3 a4 a5 a6 z0 a9 a10 a8
  else
    f_X12_siege_l230_j389 X N a1 a2 a3 a4 a5 a6 z0 a9 a10 a11
noncomputable def f_X12_siege_l230_j358 (X : MX) (N : NN) (a1 : Int) (a2 : Int) (a3 : Int) (a4 : Int) (a5 : Int) (a6 : Int) (a7 : Int) (a8 : Int) (a10 : Int) (a11 : Int) (a12 : Int) (z0 : Int) : Option ((NN × Int × Int × Int × Int × Int × Int × Int × Int × Int × Int) ⊕ (NN × Int × Int × Int × Int × Int)) :=
  if a12 = 0 then
    f_X12_siege_l230_j375 X N a1 a2 a3 a4 a5 a6 a8 z0 a10 a11 a12 a7
  else
    Option.bind (f_X12_ones X N a10) (fun o42 =>
    f_X12_siege_l230_j375 X N a1 a2 a3 a4 a5 a6 a8 z0 a10 a11 a12 o42)
noncomputable def f_X12_siege_l230_j344 (X : MX) (N : NN) (a1 : Int) (a2 : Int) (a3 : Int) (a4 : Int) (a5 : Int) (a6 : Int) (a7 : Int) (a8 : Int) (a9 : Int) (a10 : Int) (a11 : Int) (z0 : Int) : Option ((NN × Int × Int × Int × Int × Int × Int × Int × Int × Int × Int) ⊕ (NN × Int × Int × Int × Int × Int)) :=
  if z0 = 0 then
    f_X12_siege_l230_j358 X N a1 a2 a3 a4 a5 a6 a7 a8 a10 a11 z0 a9
  else
    f_X12_siege_l230_j358 X N a1 a2 a3 a4 a5 a6 a7 a8 a10 a11 z0 a10
noncomputable def f_X12_siege_l230_j343 (X : MX) (N : NN) (a1 : Int) (a2 : Int) (a3 : Int) (a4 : Int) (a5 : Int) (a6 : Int) (a7 : Int) (a8 : Int) (a9 : Int) (a10 : Int) (a11 : Int) : Option ((NN × Int × Int × Int × Int × Int × Int × Int × Int × Int × Int) ⊕ (NN × Int × Int × Int × Int × Int)) :=
  f_X12_siege_l230_j344 X N a1 a2 a3 a4 a5 a6 a7 a8 a9 a10 a11 0
noncomputable def f_X12_siege_l230_j327 (X : MX) (N : NN) (a1 : Int) (a2 : Int) (a3 : Int) (a4 : Int) (a5 : Int) (a6 : Int) (a7 : Int) (a8 : Int) (a9 : Int) (a10 : Int) (a11 : Int) : Option ((NN × Int × Int × Int × Int × Int × Int × Int × Int × Int × Int) ⊕ (NN × Int × Int × Int × Int × Int)) :=
  Option.bind (f_X12_ruinedIn X N a2 a3 a10) (fun o39 =>
  if o39 = (-1) then
    f_X12_siege_l230_j343 X N a1 a2 a3 a4 a5 a6 a7 a8 a9 a10 a11
  else
    f_X12_siege_l230_j344 X N a1 a2 a3 a4 a5 a6 a7 a8 a9 a10 a11 1)
noncomputable def b_X12_siege_230 (X : MX) (N : NN) (a1 : Int) (a2 : Int) (a3 : Int) (a4 : Int) (a5 : Int) (a6 : Int) (a7 : Int) (a8 : Int) (a9 : Int) (a10 : Int) : Option ((NN × Int × Int × Int × Int × Int × Int × Int × Int × Int × Int) ⊕ (NN × Int × Int × Int × Int × Int)) :=
  if a10 < (m_shl 1 a5) then
    Option.bind (lp (fun s => b_X12_siege_245 X s.1 s.2.1 s.2.2.1 s.2.2.2.1 s.2.2.2.2.1 s.2.2.2.2.2.1 s.2.2.2.2.2.2.1 s.2.2.2.2.2.2.2.1 s.2.2.2.2.2.2.2.2.1 s.2.2.2.2.2.2.2.2.2.1 s.2.2.2.2.2.2.2.2.2.2.1 s.2.2.2.2.2.2.2.2.2.2.2.1 s.2.2.2.2.2.2.2.2.2.2.2.2) (N, a1, a2, a3, a4, a5, a6, a7, a8, a9, a10, 0, 0)) (fun o31 =>
    if (m_and o31.2.2.2.2.2.2.2.2.2.2.1 (m_xor o31.2.2.2.2.2.2.1 (-1))) = 0 then
      Option.bind (f_X12_ones X o31.1 o31.2.2.2.2.2.2.2.2.2.2.1) (fun o32 =>
      if o32 < o31.2.2.2.2.2.2.2.1 then
        f_X12_siege_l230_j327 X o31.1 o31.2.1 o31.2.2.1 o31.2.2.2.1 o31.2.2.2.2.1 o31.2.2.2.2.2.1 o31.2.2.2.2.2.2.1 o31.2.2.2.2.2.2.2.1 o31.2.2.2.2.2.2.2.2.1 o31.2.2.2.2.2.2.2.2.2.1 o31.2.2.2.2.2.2.2.2.2.2.1 o31.2.2.2.2.2.2.2.2.2.2.2
      else
        Option.bind (f_X12_ones X o31.1 o31.2.2.2.2.2.2.2.2.2.2.1) (fun o33 =>
        if o33 = o31.2.2.2.2.2.2.2.1 then
          if o31.2.2.2.2.2.2.2.2.2.2.2 < o31.2.2.2.2.2.2.2.2.1 then
            f_X12_siege_l230_j327 X o31.1 o31.2.1 o31.2.2.1 o31.2.2.2.1 o31.2.2.2.2.1 o31.2.2.2.2.2.1 o31.2.2.2.2.2.2.1 o31.2.2.2.2.2.2.2.1 o31.2.2.2.2.2.2.2.2.1 o31.2.2.2.2.2.2.2.2.2.1 o31.2.2.2.2.2.2.2.2.2.2.1 o31.2.2.2.2.2.2.2.2.2.2.2
          else
            f_X12_siege_l230_j343 X o31.1 o31.2.1 o31.2.2.1 o31.2.2.2.1 o31.2.2.2.2.1 o31.2.2.2.2.2.1 o31.2.2.2.2.2.2.1 o31.2.2.2.2.2.2.2.1 o31.2.2.2.2.2.2.2.2.1 o31.2.2.2.2.2.2.2.2.2.1 o31.2.2.2.2.2.2.2.2.2.2.1 o31.2.2.2.2.2.2.2.2.2.2.2
        else
          f_X12_siege_l230_j343 X o31.1 o31.2.1 o31.2.2.1 o31.2.2.2.1 o31.2.2.2.2.1 o31.2.2.2.2.2.1 o31.2.2.2.2.2.2.1 o31.2.2.2.2.2.2.2.1 o31.2.2.2.2.2.2.2.2.1 o31.2.2.2.2.2.2.2.2.2.1 o31.2.2.2.2.2.2.2.2.2.2.1 o31.2.2.2.2.2.2.2.2.2.2.2))
    else
      f_X12_siege_l230_j343 X o31.1 o31.2.1 o31.2.2.1 o31.2.2.2.1 o31.2.2.2.2.1 o31.2.2.2.2.2.1 o31.2.2.2.2.2.2.1 o31.2.2.2.2.2.2.2.1 o31.2.2.2.2.2.2.2.2.1 o31.2.2.2.2.2.2.2.2.2.1 o31.2.2.2.2.2.2.2.2.2.2.1 o31.2.2.2.2.2.2.2.2.2.2.2)
  else
    some (.inr (N, a4, a5, a7, a8, a9))
noncomputable def f_X12_siege_l438_j470 (X : MX) (N : NN) (a5 : Int) (a9 : Int) (a11 : Int) (z0 : Int) (z1 : Int) : Option ((NN × Int × Int × Int × Int) ⊕ (NN × Int)) :=
  some (.inl (N, a5, a9, m_or z0 z1, m_w (a11 + 1)))
noncomputable def b_X12_siege_438 (X : MX) (N : NN) (a5 : Int) (a9 : Int) (a10 : Int) (a11 : Int) : Option ((NN × Int × Int × Int × Int) ⊕ (NN × Int)) :=
  if a11 < a5 then
    Option.bind (f_X12_is X N a9 a11) (fun o46 =>
    if o46 = 0 then
      f_X12_siege_l438_j470 X N a5 a9 a11 a10 0
    else
      if 0 ≤ a11 ∧ a11 < 10 then
      f_X12_siege_l438_j470 X N a5 a9 a11 a10 (m_shl 1 (N 90 a11.toNat))
      else none)
  else
    some (.inr (N, a10))
noncomputable def f_X12_siege_j71 (X : MX) (N : NN) : Option (Int × NN) :=
  some ((-1), N)
noncomputable def f_X12_siege_j431 (X : MX) (N : NN) (z0 : Int) : Option (Int × NN) :=
  some (z0, N)
noncomputable def f_X12_siege_j409 (X : MX) (N : NN) (a4 : Int) (a7 : Int) (a8 : Int) (a9 : Int) : Option (Int × NN) :=
  if a9 = (-1) then
    f_X12_siege_j431 X N (-1)
  else
    if a4 = 0 then
      f_X12_siege_j431 X N a7
    else
      f_X12_siege_j431 X N a8
noncomputable def f_X12_siege (X : MX) (N : NN) (a1 : Int) (a2 : Int) (a3 : Int) (a4 : Int) : Option (Int × NN) :=
  let N1 : NN := m_up N 64 0 0
  Option.bind (f_X12_isLord X N1 a1) (fun o2 =>
  if o2 = 0 then
    f_X12_siege_j71 X N1
  else
    Option.bind (f_X12_isLord X N1 a2) (fun o3 =>
    if o3 = 0 then
      f_X12_siege_j71 X N1
    else
      if a1 = a2 then
        f_X12_siege_j71 X N1
      else
        Option.bind (f_X12_in X N1 a3 1 9) (fun o4 =>
        if o4 = 0 then
          f_X12_siege_j71 X N1
        else
          Option.bind (f_X12_in X N1 a4 0 2) (fun o5 =>
          if o5 = 0 then
            f_X12_siege_j71 X N1
          else
            Option.bind (f_X12_ofLord X N1 a2 2) (fun o6 =>
            if o6 = 1 then
              f_X12_siege_j71 X N1
            else
              Option.bind (f_X12_ofLord X N1 a1 2) (fun o7 =>
              if o7 = 1 then
                f_X12_siege_j71 X N1
              else
                Option.bind (f_X12_layYears X N1 a2 a3) (fun o8 =>
                Option.bind (lp (fun s => b_X12_siege_88 X s.1 s.2.1 s.2.2.1 s.2.2.2.1 s.2.2.2.2.1 s.2.2.2.2.2.1 s.2.2.2.2.2.2.1 s.2.2.2.2.2.2.2) (o8, a1, a2, a3, a4, 0, 0, 0)) (fun o25 =>
                Option.bind (lp (fun s => b_X12_siege_230 X s.1 s.2.1 s.2.2.1 s.2.2.2.1 s.2.2.2.2.1 s.2.2.2.2.2.1 s.2.2.2.2.2.2.1 s.2.2.2.2.2.2.2.1 s.2.2.2.2.2.2.2.2.1 s.2.2.2.2.2.2.2.2.2.1 s.2.2.2.2.2.2.2.2.2.2) (o25.1, o25.2.1, o25.2.2.1, o25.2.2.2.1, o25.2.2.2.2.1, o25.2.2.2.2.2.1, o25.2.2.2.2.2.2, 100000000, 100000000, (-1), 0)) (fun o45 =>
                if o45.2.2.2.2.2 = (-1) then
                  f_X12_siege_j409 X o45.1 o45.2.1 o45.2.2.2.1 o45.2.2.2.2.1 o45.2.2.2.2.2
                else
                  if o45.2.1 < 2 then
                    f_X12_siege_j409 X o45.1 o45.2.1 o45.2.2.2.1 o45.2.2.2.2.1 o45.2.2.2.2.2
                  else
                    Option.bind (lp (fun s => b_X12_siege_438 X s.1 s.2.1 s.2.2.1 s.2.2.2.1 s.2.2.2.2) (o45.1, o45.2.2.1, o45.2.2.2.2.2, 0, 0)) (fun o50 =>
                    some (o50.2, o50.1)))))))))))
noncomputable def f_X12_status (X : MX) (N : NN) : Option (Int × NN) :=
  let N1 : NN := m_up N 64 0 0
  some (N1 64 1, N1)
noncomputable def f_X12_stopped (X : MX) (N : NN) : Option (Int × NN) :=
  let N1 : NN := m_up N 64 0 0
  some (N1 64 68, N1)
noncomputable def f_X12_tells_j36 (X : MX) (N : NN) : Option (Int × NN) :=
  some ((-1), N)
noncomputable def f_X12_tells_j59 (X : MX) (N : NN) (z0 : Int) : Option (Int × NN) :=
  some (z0, N)
noncomputable def f_X12_tells_j38 (X : MX) (N : NN) (a1 : Int) (a2 : Int) : Option (Int × NN) :=
  if a1 = (-1) then
    Option.bind (f_X12_middle X N a2 0 0) (fun o7 =>
    f_X12_tells_j59 X o7.2 o7.1)
  else
    Option.bind (f_X12_toldBy X N a1 a2) (fun o8 =>
    f_X12_tells_j59 X o8.2 o8.1)
noncomputable def f_X12_tells (X : MX) (N : NN) (a1 : Int) (a2 : Int) : Option (Int × NN) :=
  let N1 : NN := m_up N 64 0 0
  Option.bind (f_X12_isGood X N1 a2) (fun o2 =>
  if o2 = 0 then
    f_X12_tells_j36 X N1
  else
    if a1 = (-1) then
      f_X12_tells_j38 X N1 a1 a2
    else
      Option.bind (f_X12_in X N1 a1 0 (m_wl ((N1 66 2) - 1))) (fun o3 =>
      if o3 = 0 then
        f_X12_tells_j36 X N1
      else
        f_X12_tells_j38 X N1 a1 a2))
noncomputable def f_X12_terms_j60 (X : MX) (N : NN) (a1 : Int) (a2 : Int) (z0 : Int) : Option (Int × NN) :=
  if z0 = 0 then
    Option.bind (f_X12_tell X N (-1)) (fun o9 =>
    some (o9.1, o9.2))
  else
    if 0 ≤ (m_w (6 + a1)) ∧ (m_w (6 + a1)) < 5670 then
    if 0 ≤ (m_w (6 + a1)) ∧ (m_w (6 + a1)) < 5670 then
    let N12 : NN := m_up N 66 ((m_w (6 + a1)).toNat) a2
    let N13 : NN := m_up N12 64 8 0
    Option.bind (f_X12_was X N13 (N 66 ((m_w (6 + a1)).toNat))) (fun o14 =>
    some (o14.1, o14.2))
    else none
    else none
noncomputable def f_X12_terms_j59 (X : MX) (N : NN) (a1 : Int) (a2 : Int) : Option (Int × NN) :=
  f_X12_terms_j60 X N a1 a2 0
noncomputable def f_X12_terms (X : MX) (N : NN) (a1 : Int) (a2 : Int) : Option (Int × NN) :=
  let N1 : NN := m_up N 64 0 0
  if a1 = 0 then
    Option.bind (f_X12_in X N1 a2 0 999) (fun o2 =>
    f_X12_terms_j60 X N1 a1 a2 o2)
  else
    if a1 = 1 then
      Option.bind (f_X12_in X N1 a2 1 3) (fun o3 =>
      f_X12_terms_j60 X N1 a1 a2 o3)
    else
      if a1 = 2 then
        Option.bind (f_X12_in X N1 a2 0 9) (fun o4 =>
        if o4 = 0 then
          f_X12_terms_j59 X N1 a1 a2
        else
          f_X12_terms_j60 X N1 a1 a2 1)
      else
        f_X12_terms_j59 X N1 a1 a2
noncomputable def f_X12_undoRow_l3_j70 (X : MX) (N : NN) (a1 : Int) (a2 : Int) (z1 : Int) (z2 : Int) : Option ((NN × Int × Int) ⊕ (NN × Int)) :=
  if 0 ≤ z1 ∧ z1 < 5670 then
  let N9 : NN := m_up N 66 z1.toNat z2
  some (.inl (N9, a1, m_w (a2 + 1)))
  else none
noncomputable def f_X12_undoRow_l3_j39 (X : MX) (N : NN) (a1 : Int) (a2 : Int) (z0 : Int) : Option ((NN × Int × Int) ⊕ (NN × Int)) :=
  if z0 = 0 then
    if 0 ≤ (m_w ((m_w (270 * a1)) + a2)) ∧ (m_w ((m_w (270 * a1)) + a2)) < 4860 then
    f_X12_undoRow_l3_j70 X N a1 a2 a2 (N 69 ((m_w ((m_w (270 * a1)) + a2)).toNat))
    else none
  else
    if 0 ≤ a2 ∧ a2 < 5670 then
    f_X12_undoRow_l3_j70 X N a1 a2 a2 (N 66 a2.toNat)
    else none
noncomputable def f_X12_undoRow_l3_j38 (X : MX) (N : NN) (a1 : Int) (a2 : Int) : Option ((NN × Int × Int) ⊕ (NN × Int)) :=
  f_X12_undoRow_l3_j39 X N a1 a2 0
noncomputable def b_X12_undoRow_3 (X : MX) (N : NN) (a1 : Int) (a2 : Int) : Option ((NN × Int × Int) ⊕ (NN × Int)) :=
  if a2 < 213 then
    if a2 < 45 then
      f_X12_undoRow_l3_j38 X N a1 a2
    else
      if a2 < 141 then
        if (m_rem (m_w (a2 - 45)) 6) = 5 then
          f_X12_undoRow_l3_j39 X N a1 a2 1
        else
          f_X12_undoRow_l3_j38 X N a1 a2
      else
        f_X12_undoRow_l3_j38 X N a1 a2
  else
    some (.inr (N, a1))
noncomputable def f_X12_undoRow (X : MX) (N : NN) (a1 : Int) : Option NN :=
  Option.bind (lp (fun s => b_X12_undoRow_3 X s.1 s.2.1 s.2.2) (N, a1, 9)) (fun o10 =>
  if 0 ≤ (m_w ((m_w ((m_w (270 * o10.2)) + 6)) + 0)) ∧ (m_w ((m_w ((m_w (270 * o10.2)) + 6)) + 0)) < 4860 then
  let N12 : NN := m_up o10.1 66 6 (o10.1 69 ((m_w ((m_w ((m_w (270 * o10.2)) + 6)) + 0)).toNat))
  some N12
  else none)
noncomputable def f_X12_undo (X : MX) (N : NN) : Option (Int × NN) :=
  let N1 : NN := m_up N 64 0 0
  if (N1 64 8) = 0 then
    Option.bind (f_X12_tell X N1 (-3)) (fun o2 =>
    some (o2.1, o2.2))
  else
    let N3 : NN := m_up N1 64 8 (m_w ((N1 64 8) - 1))
    Option.bind (f_X12_undoRow X N3 (N3 64 8)) (fun o4 =>
    if 0 ≤ (o4 64 8) ∧ (o4 64 8) < 16 then
    Option.bind (f_X12_tell X o4 (o4 70 ((o4 64 8).toNat))) (fun o6 =>
    some (o6.1, o6.2))
    else none)
noncomputable def f_X12_way_j33 (X : MX) (N : NN) : Option (Int × NN) :=
  some ((-1), N)
noncomputable def f_X12_way_j58 (X : MX) (N : NN) : Option (Int × NN) :=
  some ((-1), N)
noncomputable def f_X12_way_j103 (X : MX) (N : NN) (z0 : Int) : Option (Int × NN) :=
  some (z0, N)
noncomputable def f_X12_way (X : MX) (N : NN) (a1 : Int) (a2 : Int) (a3 : Int) : Option (Int × NN) :=
  let N1 : NN := m_up N 64 0 0
  Option.bind (f_X12_isLord X N1 a1) (fun o2 =>
  if o2 = 0 then
    f_X12_way_j33 X N1
  else
    Option.bind (f_X12_isLord X N1 a2) (fun o3 =>
    if o3 = 0 then
      f_X12_way_j33 X N1
    else
      Option.bind (f_X12_in X N1 a3 0 8) (fun o4 =>
      if o4 = 0 then
        f_X12_way_j33 X N1
      else
        Option.bind (f_X12_findWay X N1 a1 a2) (fun o5 =>
        if (o5 64 53) = 0 then
          f_X12_way_j58 X o5
        else
          if (m_w (3 + (o5 64 55))) < a3 then
            f_X12_way_j58 X o5
          else
            if a3 = 0 then
              f_X12_way_j103 X o5 (o5 64 53)
            else
              if a3 = 1 then
                f_X12_way_j103 X o5 (o5 64 54)
              else
                if a3 = 2 then
                  f_X12_way_j103 X o5 (o5 64 55)
                else
                  if 0 ≤ (m_w (a3 - 3)) ∧ (m_w (a3 - 3)) < 6 then
                  f_X12_way_j103 X o5 (o5 94 ((m_w (a3 - 3)).toNat))
                  else none))))
