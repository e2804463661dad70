/-! the text of the words: ldc, length, charAt -/
section MTx
variable {d : Nat} {own nm : String} {cc : ByteArray} {nL n0 s0 nF sF : Nat} {Ω : Nat → MS → Prop} {pc : Nat} {ls : ML} {st : List MV} {N : NN} {X : MX}
theorem s_ldcs (hΩ : m_G d RX5 nm cc nL n0 s0 nF sF Ω) (h3 : 1 < xn X) (hd : decode cc pc = .ok (.ldc 91, 2)) (kk : Ω (pc + 2) (ls, .inr (.inr 1) :: st, N, X)) : Ω pc (ls, st, N, X) := sorry
theorem s_slen (hΩ : m_G d RX5 nm cc nL n0 s0 nF sF Ω) (hd1 : 5 ≤ d) {idx : Nat} (hd : decode cc pc = .ok (.invokevirtual idx, 3)) (hl : Cond.methodLink RX5 idx yJ0_length_8abf5 ∈ lw_g) (hcs : m_cs st ≤ 8) (kk : Ω (pc + 3) (ls, .inl 127 :: st, N, X)) : Ω pc (ls, .inr (.inr 1) :: st, N, X) := sorry
theorem s_schr (hΩ : m_G d RX5 nm cc nL n0 s0 nF sF Ω) (hd1 : 5 ≤ d) {idx : Nat} {i : Int} (hd : decode cc pc = .ok (.invokevirtual idx, 3)) (hl : Cond.methodLink RX5 idx yJ0_charAt_5068e ∈ lw_g) (hcs : m_cs st ≤ 8) (hi : 0 ≤ i ∧ i < 127) (kk : Ω (pc + 3) (ls, .inl (m_chr i.toNat) :: st, N, X)) : Ω pc (ls, .inl i :: .inr (.inr 1) :: st, N, X) := sorry
end MTx
