/-! the text of the words: ldc, length, charAt; the JDK's methods for it, which change nothing -/
theorem dJ0_length_8abf5_0T : decode cJ0_length_8abf5 0 = .ok (.aload_n 0, 1) := by decide +kernel
theorem dJ0_length_8abf5_1T : decode cJ0_length_8abf5 1 = .ok (.getfield 9, 3) := by decide +kernel
theorem dJ0_length_8abf5_4T : decode cJ0_length_8abf5 4 = .ok (.arraylength, 1) := by decide +kernel
theorem dJ0_length_8abf5_5T : decode cJ0_length_8abf5 5 = .ok (.aload_n 0, 1) := by decide +kernel
theorem dJ0_length_8abf5_6T : decode cJ0_length_8abf5 6 = .ok (.invokevirtual 335, 3) := by decide +kernel
theorem dJ0_length_8abf5_9T : decode cJ0_length_8abf5 9 = .ok (.ishr, 1) := by decide +kernel
theorem dJ0_length_8abf5_10T : decode cJ0_length_8abf5 10 = .ok (.ireturn, 1) := by decide +kernel
theorem dJ0_coder_7d493_0T : decode cJ0_coder_7d493 0 = .ok (.getstatic 38, 3) := by decide +kernel
theorem dJ0_coder_7d493_3T : decode cJ0_coder_7d493 3 = .ok (.ifCond .eq 10, 3) := by decide +kernel
theorem dJ0_coder_7d493_6T : decode cJ0_coder_7d493 6 = .ok (.aload_n 0, 1) := by decide +kernel
theorem dJ0_coder_7d493_7T : decode cJ0_coder_7d493 7 = .ok (.getfield 15, 3) := by decide +kernel
theorem dJ0_coder_7d493_10T : decode cJ0_coder_7d493 10 = .ok (.goto 4, 3) := by decide +kernel
theorem dJ0_coder_7d493_13T : decode cJ0_coder_7d493 13 = .ok (.iconst 1, 1) := by decide +kernel
theorem dJ0_coder_7d493_14T : decode cJ0_coder_7d493 14 = .ok (.ireturn, 1) := by decide +kernel
theorem dJ0_charAt_5068e_0T : decode cJ0_charAt_5068e 0 = .ok (.aload_n 0, 1) := by decide +kernel
theorem dJ0_charAt_5068e_1T : decode cJ0_charAt_5068e 1 = .ok (.invokevirtual 492, 3) := by decide +kernel
theorem dJ0_charAt_5068e_4T : decode cJ0_charAt_5068e 4 = .ok (.ifCond .eq 12, 3) := by decide +kernel
theorem dJ0_charAt_5068e_7T : decode cJ0_charAt_5068e 7 = .ok (.aload_n 0, 1) := by decide +kernel
theorem dJ0_charAt_5068e_8T : decode cJ0_charAt_5068e 8 = .ok (.getfield 9, 3) := by decide +kernel
theorem dJ0_charAt_5068e_11T : decode cJ0_charAt_5068e 11 = .ok (.iload_n 1, 1) := by decide +kernel
theorem dJ0_charAt_5068e_12T : decode cJ0_charAt_5068e 12 = .ok (.invokestatic 495, 3) := by decide +kernel
theorem dJ0_charAt_5068e_15T : decode cJ0_charAt_5068e 15 = .ok (.ireturn, 1) := by decide +kernel
theorem dJ0_charAt_5068e_16T : decode cJ0_charAt_5068e 16 = .ok (.aload_n 0, 1) := by decide +kernel
theorem dJ0_charAt_5068e_17T : decode cJ0_charAt_5068e 17 = .ok (.getfield 9, 3) := by decide +kernel
theorem dJ0_charAt_5068e_20T : decode cJ0_charAt_5068e 20 = .ok (.iload_n 1, 1) := by decide +kernel
theorem dJ0_charAt_5068e_21T : decode cJ0_charAt_5068e 21 = .ok (.invokestatic 498, 3) := by decide +kernel
theorem dJ0_charAt_5068e_24T : decode cJ0_charAt_5068e 24 = .ok (.ireturn, 1) := by decide +kernel
theorem dJ0_isLatin1_aae02_0T : decode cJ0_isLatin1_aae02 0 = .ok (.getstatic 38, 3) := by decide +kernel
theorem dJ0_isLatin1_aae02_3T : decode cJ0_isLatin1_aae02 3 = .ok (.ifCond .eq 14, 3) := by decide +kernel
theorem dJ0_isLatin1_aae02_6T : decode cJ0_isLatin1_aae02 6 = .ok (.aload_n 0, 1) := by decide +kernel
theorem dJ0_isLatin1_aae02_7T : decode cJ0_isLatin1_aae02 7 = .ok (.getfield 15, 3) := by decide +kernel
theorem dJ0_isLatin1_aae02_10T : decode cJ0_isLatin1_aae02 10 = .ok (.ifCond .ne 7, 3) := by decide +kernel
theorem dJ0_isLatin1_aae02_13T : decode cJ0_isLatin1_aae02 13 = .ok (.iconst 1, 1) := by decide +kernel
theorem dJ0_isLatin1_aae02_14T : decode cJ0_isLatin1_aae02 14 = .ok (.goto 4, 3) := by decide +kernel
theorem dJ0_isLatin1_aae02_17T : decode cJ0_isLatin1_aae02 17 = .ok (.iconst 0, 1) := by decide +kernel
theorem dJ0_isLatin1_aae02_18T : decode cJ0_isLatin1_aae02 18 = .ok (.ireturn, 1) := by decide +kernel
theorem dJ1_charAt_3b067_0T : decode cJ1_charAt_3b067 0 = .ok (.iload_n 1, 1) := by decide +kernel
theorem dJ1_charAt_3b067_1T : decode cJ1_charAt_3b067 1 = .ok (.aload_n 0, 1) := by decide +kernel
theorem dJ1_charAt_3b067_2T : decode cJ1_charAt_3b067 2 = .ok (.arraylength, 1) := by decide +kernel
theorem dJ1_charAt_3b067_3T : decode cJ1_charAt_3b067 3 = .ok (.invokestatic 9, 3) := by decide +kernel
theorem dJ1_charAt_3b067_6T : decode cJ1_charAt_3b067 6 = .ok (.aload_n 0, 1) := by decide +kernel
theorem dJ1_charAt_3b067_7T : decode cJ1_charAt_3b067 7 = .ok (.iload_n 1, 1) := by decide +kernel
theorem dJ1_charAt_3b067_8T : decode cJ1_charAt_3b067 8 = .ok (.baload, 1) := by decide +kernel
theorem dJ1_charAt_3b067_9T : decode cJ1_charAt_3b067 9 = .ok (.sipush 255, 3) := by decide +kernel
theorem dJ1_charAt_3b067_12T : decode cJ1_charAt_3b067 12 = .ok (.iand, 1) := by decide +kernel
theorem dJ1_charAt_3b067_13T : decode cJ1_charAt_3b067 13 = .ok (.i2c, 1) := by decide +kernel
theorem dJ1_charAt_3b067_14T : decode cJ1_charAt_3b067 14 = .ok (.ireturn, 1) := by decide +kernel
theorem dJ0_checkIndex_df160_0T : decode cJ0_checkIndex_df160 0 = .ok (.iload_n 0, 1) := by decide +kernel
theorem dJ0_checkIndex_df160_1T : decode cJ0_checkIndex_df160 1 = .ok (.iload_n 1, 1) := by decide +kernel
theorem dJ0_checkIndex_df160_2T : decode cJ0_checkIndex_df160 2 = .ok (.getstatic 1053, 3) := by decide +kernel
theorem dJ0_checkIndex_df160_5T : decode cJ0_checkIndex_df160 5 = .ok (.invokestatic 1059, 3) := by decide +kernel
theorem dJ0_checkIndex_df160_8T : decode cJ0_checkIndex_df160 8 = .ok (.pop, 1) := by decide +kernel
theorem dJ0_checkIndex_df160_9T : decode cJ0_checkIndex_df160 9 = .ok (.return_, 1) := by decide +kernel
theorem dJ3_checkIndex_8e157_0T : decode cJ3_checkIndex_8e157 0 = .ok (.iload_n 0, 1) := by decide +kernel
theorem dJ3_checkIndex_8e157_1T : decode cJ3_checkIndex_8e157 1 = .ok (.ifCond .lt 8, 3) := by decide +kernel
theorem dJ3_checkIndex_8e157_4T : decode cJ3_checkIndex_8e157 4 = .ok (.iload_n 0, 1) := by decide +kernel
theorem dJ3_checkIndex_8e157_5T : decode cJ3_checkIndex_8e157 5 = .ok (.iload_n 1, 1) := by decide +kernel
theorem dJ3_checkIndex_8e157_6T : decode cJ3_checkIndex_8e157 6 = .ok (.if_icmp .lt 10, 3) := by decide +kernel
theorem dJ3_checkIndex_8e157_9T : decode cJ3_checkIndex_8e157 9 = .ok (.aload_n 2, 1) := by decide +kernel
theorem dJ3_checkIndex_8e157_10T : decode cJ3_checkIndex_8e157 10 = .ok (.iload_n 0, 1) := by decide +kernel
theorem dJ3_checkIndex_8e157_11T : decode cJ3_checkIndex_8e157 11 = .ok (.iload_n 1, 1) := by decide +kernel
theorem dJ3_checkIndex_8e157_12T : decode cJ3_checkIndex_8e157 12 = .ok (.invokestatic 95, 3) := by decide +kernel
theorem dJ3_checkIndex_8e157_15T : decode cJ3_checkIndex_8e157 15 = .ok (.athrow, 1) := by decide +kernel
theorem dJ3_checkIndex_8e157_16T : decode cJ3_checkIndex_8e157 16 = .ok (.iload_n 0, 1) := by decide +kernel
theorem dJ3_checkIndex_8e157_17T : decode cJ3_checkIndex_8e157 17 = .ok (.ireturn, 1) := by decide +kernel
theorem wd_145T : Cond.initialized "java/lang/String" ∈ lw_g := lw_g1 16 rfl rfl
theorem wd_146T : Cond.initialized "java/lang/StringLatin1" ∈ lw_g := lw_g1 17 rfl rfl
theorem wd_147T : Cond.initialized "jdk/internal/util/Preconditions" ∈ lw_g := lw_g1 18 rfl rfl
theorem wd_714T : Cond.instanceMethod ⟨"java/lang/String", "length", "()I"⟩ ∈ lw_g := lw_g3 105 rfl rfl
theorem wd_715T : Cond.selects "java/lang/String" ⟨"java/lang/String", "length", "()I"⟩ ⟨"java/lang/String", "length", "()I"⟩ ∈ lw_g := lw_g3 106 rfl rfl
theorem wd_716T : Cond.code ⟨"java/lang/String", "length", "()I"⟩ prog_17_method_54_code 1 (some .int) ∈ lw_g := lw_g3 107 rfl rfl
theorem wd_717T : Cond.methodLink "java/lang/String" 335 ⟨"java/lang/String", "coder", "()B"⟩ ∈ lw_g := lw_g3 108 rfl rfl
theorem wd_718T : Cond.instanceMethod ⟨"java/lang/String", "coder", "()B"⟩ ∈ lw_g := lw_g3 109 rfl rfl
theorem wd_719T : Cond.selects "java/lang/String" ⟨"java/lang/String", "coder", "()B"⟩ ⟨"java/lang/String", "coder", "()B"⟩ ∈ lw_g := lw_g3 110 rfl rfl
theorem wd_720T : Cond.code ⟨"java/lang/String", "coder", "()B"⟩ prog_17_method_152_code 1 (some .byte) ∈ lw_g := lw_g3 111 rfl rfl
theorem wd_721T : Cond.fieldLink "java/lang/String" 38 "java/lang/String" "COMPACT_STRINGS" "Z" ∈ lw_g := lw_g3 112 rfl rfl
theorem wd_724T : Cond.instanceMethod ⟨"java/lang/String", "charAt", "(I)C"⟩ ∈ lw_g := lw_g3 115 rfl rfl
theorem wd_725T : Cond.selects "java/lang/String" ⟨"java/lang/String", "charAt", "(I)C"⟩ ⟨"java/lang/String", "charAt", "(I)C"⟩ ∈ lw_g := lw_g3 116 rfl rfl
theorem wd_726T : Cond.code ⟨"java/lang/String", "charAt", "(I)C"⟩ prog_17_method_56_code 2 (some .char) ∈ lw_g := lw_g3 117 rfl rfl
theorem wd_727T : Cond.methodLink "java/lang/String" 492 ⟨"java/lang/String", "isLatin1", "()Z"⟩ ∈ lw_g := lw_g3 118 rfl rfl
theorem wd_728T : Cond.instanceMethod ⟨"java/lang/String", "isLatin1", "()Z"⟩ ∈ lw_g := lw_g3 119 rfl rfl
theorem wd_729T : Cond.selects "java/lang/String" ⟨"java/lang/String", "isLatin1", "()Z"⟩ ⟨"java/lang/String", "isLatin1", "()Z"⟩ ∈ lw_g := lw_g3 120 rfl rfl
theorem wd_730T : Cond.code ⟨"java/lang/String", "isLatin1", "()Z"⟩ prog_17_method_154_code 1 (some .boolean) ∈ lw_g := lw_g3 121 rfl rfl
theorem wd_731T : Cond.methodLink "java/lang/String" 495 ⟨"java/lang/StringLatin1", "charAt", "([BI)C"⟩ ∈ lw_g := lw_g3 122 rfl rfl
theorem wd_732T : Cond.static ⟨"java/lang/StringLatin1", "charAt", "([BI)C"⟩ ∈ lw_g := lw_g3 123 rfl rfl
theorem wd_733T : Cond.code ⟨"java/lang/StringLatin1", "charAt", "([BI)C"⟩ prog_18_method_2_code 2 (some .char) ∈ lw_g := lw_g3 124 rfl rfl
theorem wd_734T : Cond.methodLink "java/lang/StringLatin1" 9 ⟨"java/lang/String", "checkIndex", "(II)V"⟩ ∈ lw_g := lw_g3 125 rfl rfl
theorem wd_735T : Cond.static ⟨"java/lang/String", "checkIndex", "(II)V"⟩ ∈ lw_g := lw_g3 126 rfl rfl
theorem wd_736T : Cond.code ⟨"java/lang/String", "checkIndex", "(II)V"⟩ prog_17_method_155_code 2 none ∈ lw_g := lw_g3 127 rfl rfl
theorem wd_737T : Cond.fieldLink "java/lang/String" 1053 "jdk/internal/util/Preconditions" "SIOOBE_FORMATTER" "Ljava/util/function/BiFunction;" ∈ lw_g := lw_g3 128 rfl rfl
theorem wd_739T : Cond.methodLink "java/lang/String" 1059 ⟨"jdk/internal/util/Preconditions", "checkIndex", "(IILjava/util/function/BiFunction;)I"⟩ ∈ lw_g := lw_g3 130 rfl rfl
theorem wd_740T : Cond.static ⟨"jdk/internal/util/Preconditions", "checkIndex", "(IILjava/util/function/BiFunction;)I"⟩ ∈ lw_g := lw_g3 131 rfl rfl
theorem wd_741T : Cond.code ⟨"jdk/internal/util/Preconditions", "checkIndex", "(IILjava/util/function/BiFunction;)I"⟩ prog_22_method_11_code 3 (some .int) ∈ lw_g := lw_g3 132 rfl rfl
theorem wd_2158T : Cond.fieldLink "java/lang/String" 9 "java/lang/String" "value" "[B" ∈ lw_g := lw_g9 109 rfl rfl
theorem wd_2159T : Cond.fieldLink "java/lang/String" 15 "java/lang/String" "coder" "B" ∈ lw_g := lw_g9 110 rfl rfl
theorem cs_RJ0_1059T : m_CS RJ0 1059 yJ3_checkIndex_8e157 := ⟨wd_739T, wd_740T⟩
theorem cs_RJ0_495T : m_CS RJ0 495 yJ1_charAt_3b067 := ⟨wd_731T, wd_732T⟩
theorem cs_RJ1_9T : m_CS RJ1 9 yJ0_checkIndex_df160 := ⟨wd_734T, wd_735T⟩
theorem cv_RJ0_335T : m_CV RJ0 335 yJ0_coder_7d493 := ⟨wd_717T, wd_718T, wd_719T⟩
theorem cv_RJ0_492T : m_CV RJ0 492 yJ0_isLatin1_aae02 := ⟨wd_727T, wd_728T, wd_729T⟩
theorem cw_J0_charAt_5068eT : m_CW yJ0_charAt_5068e cJ0_charAt_5068e 2 (some .char) 1 := ⟨wd_145T, wd_726T, by decide +kernel, by decide⟩
theorem cw_J0_checkIndex_df160T : m_CW yJ0_checkIndex_df160 cJ0_checkIndex_df160 2 none 2 := ⟨wd_145T, wd_736T, by decide +kernel, by decide⟩
theorem cw_J0_coder_7d493T : m_CW yJ0_coder_7d493 cJ0_coder_7d493 1 (some .byte) 0 := ⟨wd_145T, wd_720T, by decide +kernel, by decide⟩
theorem cw_J0_isLatin1_aae02T : m_CW yJ0_isLatin1_aae02 cJ0_isLatin1_aae02 1 (some .boolean) 0 := ⟨wd_145T, wd_730T, by decide +kernel, by decide⟩
theorem cw_J0_length_8abf5T : m_CW yJ0_length_8abf5 cJ0_length_8abf5 1 (some .int) 0 := ⟨wd_145T, wd_716T, by decide +kernel, by decide⟩
theorem cw_J1_charAt_3b067T : m_CW yJ1_charAt_3b067 cJ1_charAt_3b067 2 (some .char) 2 := ⟨wd_146T, wd_733T, by decide +kernel, by decide⟩
theorem cw_J3_checkIndex_8e157T : m_CW yJ3_checkIndex_8e157 cJ3_checkIndex_8e157 3 (some .int) 3 := ⟨wd_147T, wd_741T, by decide +kernel, by decide⟩
def T_E (a av : Nat) (A : Nat → Prop) (U : State) (H : Heap) : Prop := vk_S 1 [127] [m_byt] (fun _ => a) (fun _ => av) A U H ∧ va_Z "java/lang/String" "COMPACT_STRINGS" "Z" (.int 1) A U H ∧ va_Zq "jdk/internal/util/Preconditions" "SIOOBE_FORMATTER" "Ljava/util/function/BiFunction;" A U H
theorem T_E.moved {a av : Nat} {A : Nat → Prop} {u U : State} {H : Heap} (hvm : u.vm.Alike U.vm) (h : T_E a av A u H) : T_E a av A U H := ⟨vk_S.moved hvm h.1, va_Z.moved hvm h.2.1, va_Zq.moved hvm h.2.2⟩
theorem T_E.kept {a av : Nat} {A : Nat → Prop} {U : State} {H H1 : Heap} (h : T_E a av A U H) (hq : ∀ a : Nat, a < H.size → ¬ A a → H1[a]? = H[a]?) : T_E a av A U H1 := ⟨h.1.kept hq, h.2.1.kept hq, h.2.2.kept hq⟩
theorem T_E.narrow {a av : Nat} {A B : Nat → Prop} {U : State} {H : Heap} (h : T_E a av A U H) (hAB : ∀ q, B q → A q) : T_E a av B U H := ⟨h.1.narrow hAB, h.2.1.narrow hAB, h.2.2.narrow hAB⟩
def T_Pc (a av sz : Nat) (vs : List Value) : Array Value → State → Prop := va_Pc vs (fun U => U.heap.size = sz ∧ T_E a av (fun q => sz ≤ q) U U.heap)
def T_Qc (v : Option Value) : Array Value → State → Outcome → State → Prop := fun _ st oc t => oc = .returned v ∧ t.heap = st.heap
def T_Call (d : Nat) (y : MethodName) (cc : ByteArray) (nL : Nat) (ret : Option FieldType) (a av : Nat) (vs : List Value) (v : Option Value) : Prop := ∀ (l : Launch) (sz : Nat), Met l y (.code y cc nL ret :: lw_g) (m_rm d 0 0) (T_Pc a av sz vs) (T_Qc v) 0 0 (fun _ => False)
theorem T_blind {a av sz : Nat} {vs : List Value} : FrameBlind (T_Pc a av sz vs) := by
  intro z U g' mk q
  obtain ⟨q0, q1, q2⟩ := q
  exact ⟨q0, q1, T_E.moved (u := U) (U := U.calling g' mk z) (Vm.Alike.refl U.vm) q2⟩
theorem T_mk {d : Nat} {y : MethodName} {cc : ByteArray} {nL : Nat} {ret : Option FieldType} {a av : Nat} {vs : List Value} {v : Option Value} (hy : plainName y.cls = true) (hlen : (lg_sl vs).length ≤ nL)
    (body : ∀ (p : Program) (l : Launch) (e : Jvm.Env) (s : State) (m : MethodId) (args : Array Value) (below : List Frame) (meth : Method) (c : Code) (L : Array Slot), p.tables.exec = Jvm.exec → c.code = cc → c.maxLocals = nL → s.vm.findClass y.cls = some m.cls → (∀ w ∈ lw_g, w.before args s = true) → meth.sig.returnType = ret → meth.locks = false → T_E a av (fun q => s.heap.size ≤ q) s s.heap → L.size = nL → (∀ q ∈ lv_args 0 vs, L[q.1]? = some (.val q.2)) → W p l e (m_rm d 0 0) s m args below meth c s.heap [] 0 0 (MQ below (T_Qc v) args s 0 0 (fun _ => False)) (F0 m 0 L [])) : T_Call d y cc nL ret a av vs v := by
  intro l sz
  refine Met.ofW (cc := cc) (maxL := nL) (ret := ret) hy rfl ?_
  intro p e s m av' below meth c s₁ B hml hv
  obtain ⟨rfl, hsz, hE⟩ := hv
  subst hsz
  have hts := atoms_spec (ws := .code y cc nL ret :: lw_g) B.pre
  have hl := lv_entry vs (n := nL) hlen
  rw [lg_entry_eq]
  exact body p l e s m _ below meth c _ B.exec B.bytes hml (findClass_of_methodNamed B.named) (fun w hw => hts w (List.mem_cons_of_mem _ hw)) B.returns B.notSynchronized hE hl.1 hl.2.2
section TG
variable {p : Program} {l : Launch} {e : Jvm.Env} {R : Room} {s : State} {m : MethodId} {args : Array Value} {below : List Frame} {meth : Method} {c : Code} {H : Heap} {locs : List Loc} {cells slots : Nat} {Q : State → Prop} {L : Array Slot} {pc nL : Nat} {st1 rest : List Value} {v : Option Value} {own : String} {cc : ByteArray} {A : Nat → Prop} {a av : Nat}
theorem T_go {z : Array Value} (hr : va_Run p l e R s m args below meth c H locs cells slots 0 0 (F0 m pc L st1) rest (T_Qc v z) (fun _ => False)) (kk : W p l e R s m args below meth c H locs cells slots Q (F0 m (pc + 3) L (v.toList ++ rest))) : W p l e R s m args below meth c H locs cells slots Q (F0 m pc L st1) := by
  intro T hT XX
  obtain ⟨v0, st₀, t, T', L', h0, X'', hL', e1, e2, ⟨hv, hh⟩, stp⟩ := hr T hT XX
  cases hv
  have hL0 : L' = [] := List.eq_nil_iff_forall_not_mem.mpr (fun q hq => hL' q hq)
  subst hL0
  rw [List.append_nil] at X''
  obtain ⟨t2, a1, b1⟩ := kk T' (by rw [e1, hh, h0]) X''
  exact ⟨t2, stp t2 a1, b1⟩
theorem T_pre (hS : va_S A s.heap H locs) (hE : T_E a av A s s.heap) (hA : ∀ q, H.size ≤ q → A q) {vs : List Value} (U : State) (hU : U.heap = H) (hW : s.WarmedH U.vm) : T_Pc a av H.size vs vs.toArray U := ⟨rfl, by rw [hU], by
  rw [hU]
  exact T_E.moved hW.alike ((hE.kept hS.2.1).narrow hA)⟩
theorem T_callS (hx : p.tables.exec = Jvm.exec) (hb : c.code = cc) (hml : c.maxLocals = nL) (hown : s.vm.findClass own = some m.cls) (hts : ∀ w ∈ lw_g, w.before args s = true) {y : MethodName} {cc' : ByteArray} {nL' idx n d' : Nat} {ret : Option FieldType} {vs : List Value} (hd : decode cc pc = .ok (.invokestatic idx, 3)) (hw : m_CS own idx y) (hcw : m_CW y cc' nL' ret n) (hn : vs.length = n) (hfr : d' + 1 ≤ R.frames) (hlo : 8 + (nL' + 11) + 200 * d' ≤ R.locals) (hce : cells ≤ R.cells ∧ slots ≤ R.slots) (hC : T_Call d' y cc' nL' ret a av vs v) (hS : va_S A s.heap H locs) (hE : T_E a av A s s.heap) (hA : ∀ q, H.size ≤ q → A q) (hLs : L.size = nL) (hcs : (rest.map fun v => v.category).sum ≤ 8) (hst : vs.reverse ++ rest = st1) (kk : W p l e R s m args below meth c H locs cells slots Q (F0 m (pc + 3) L (v.toList ++ rest))) : W p l e R s m args below meth c H locs cells slots Q (F0 m pc L st1) := by
  subst hst
  obtain ⟨w1, w2⟩ := hw
  obtain ⟨c1, c2, c3, c4⟩ := hcw
  have hg := lw_g_GoodInC c2
  refine T_go (z := vs.toArray) ?_ kk
  exact va_runS (As := vs) (rest := rest) ⟨hx, hb, hml, hown, hts⟩ (hC l H.size) ⟨callB_of n hts hg rfl rfl rfl (hts _ c1) (hts _ w1) c3 ⟨hfr, hlo⟩, hts _ w2⟩ ⟨T_blind, fun U hU hW => T_pre hS hE hA U hU hW⟩ rfl hn hLs rfl (lv_room hcs) hd hce
theorem T_callV (hx : p.tables.exec = Jvm.exec) (hb : c.code = cc) (hml : c.maxLocals = nL) (hown : s.vm.findClass own = some m.cls) (hts : ∀ w ∈ lw_g, w.before args s = true) {y : MethodName} {cc' : ByteArray} {nL' idx n d' : Nat} {ret : Option FieldType} {vs : List Value} (hd : decode cc pc = .ok (.invokevirtual idx, 3)) (hw : m_CV own idx y) (hcw : m_CW y cc' nL' ret n) (hyc : y.cls = "java/lang/String") (hn : vs.length = n) (hfr : d' + 1 ≤ R.frames) (hlo : 8 + (nL' + 11) + 200 * d' ≤ R.locals) (hce : cells ≤ R.cells ∧ slots ≤ R.slots) (hC : T_Call d' y cc' nL' ret a av (.ref a :: vs) v) (hS : va_S A s.heap H locs) (hE : T_E a av A s s.heap) (hA : ∀ q, H.size ≤ q → A q) (hLs : L.size = nL) (hcs : (rest.map fun v => v.category).sum ≤ 8) (hst : vs.reverse ++ .ref a :: rest = st1) (kk : W p l e R s m args below meth c H locs cells slots Q (F0 m (pc + 3) L (v.toList ++ rest))) : W p l e R s m args below meth c H locs cells slots Q (F0 m pc L st1) := by
  subst hst
  obtain ⟨w1, w2, w3⟩ := hw
  obtain ⟨c1, c2, c3, c4⟩ := hcw
  have hg := lw_g_GoodInC c2
  refine T_go (z := (Value.ref a :: vs).toArray) ?_ kk
  exact va_runV (As := vs) (rest := rest) (b := a) (C := y.cls) ⟨hx, hb, hml, hown, hts⟩ (hC l H.size) ⟨callB_of n hts hg rfl rfl rfl (hts _ c1) (hts _ w1) c3 ⟨hfr, hlo⟩, hts _ w2, hts _ w3⟩ ⟨T_blind, by rw [hyc]; exact vk_recv (i := 0) hE.1 (by decide) hS, fun U hU hW => T_pre hS hE hA U hU hW⟩ rfl hn hLs rfl (lv_room hcs) hd hce
end TG
theorem T_coder {a av : Nat} : T_Call 1 yJ0_coder_7d493 cJ0_coder_7d493 1 (some .byte) a av [.ref a] (some (.int 0)) := by
  refine T_mk (by decide) (Nat.le_of_ble_eq_true rfl) (fun p l e s m args below meth c L hx hb hml hown hts hret hlk hE hLs hL => ?_)
  have h0 : L[0]? = some (.val (.ref a)) := hL (0, .ref a) List.mem_cons_self
  refine va_gets hx hb hE.2.1 va_S.rf hown (hts _ wd_721T) (fun x h => h) dJ0_coder_7d493_0T ?_
  refine lv_if_eq (tgt := 13) hx hb dJ0_coder_7d493_3T (by decide) (fun q => absurd q (by decide)) (fun _ => ?_)
  refine lv_aload_n hx hb dJ0_coder_7d493_6T rfl h0 ?_
  refine vk_getf hx hb (hE.1.1 0 (by decide)).2.1 va_S.rf hown (hts _ wd_2159T) (fun x h => h) dJ0_coder_7d493_7T ?_
  refine lv_goto (tgt := 14) hx hb dJ0_coder_7d493_10T (by decide) ?_
  exact W.zret hx hb hret (by decide +kernel) (fun t ht _ => ⟨rfl, ht⟩) (fun q hq => by cases hq) dJ0_coder_7d493_14T hlk
theorem T_isLatin1 {a av : Nat} : T_Call 1 yJ0_isLatin1_aae02 cJ0_isLatin1_aae02 1 (some .boolean) a av [.ref a] (some (.int 1)) := by
  refine T_mk (by decide) (Nat.le_of_ble_eq_true rfl) (fun p l e s m args below meth c L hx hb hml hown hts hret hlk hE hLs hL => ?_)
  have h0 : L[0]? = some (.val (.ref a)) := hL (0, .ref a) List.mem_cons_self
  refine va_gets hx hb hE.2.1 va_S.rf hown (hts _ wd_721T) (fun x h => h) dJ0_isLatin1_aae02_0T ?_
  refine lv_if_eq (tgt := 17) hx hb dJ0_isLatin1_aae02_3T (by decide) (fun q => absurd q (by decide)) (fun _ => ?_)
  refine lv_aload_n hx hb dJ0_isLatin1_aae02_6T rfl h0 ?_
  refine vk_getf hx hb (hE.1.1 0 (by decide)).2.1 va_S.rf hown (hts _ wd_2159T) (fun x h => h) dJ0_isLatin1_aae02_7T ?_
  refine lv_if_ne (tgt := 17) hx hb dJ0_isLatin1_aae02_10T (by decide) (fun q => absurd rfl q) (fun _ => ?_)
  refine lv_iconst (v := 1) hx hb dJ0_isLatin1_aae02_13T rfl ?_
  refine lv_goto (tgt := 18) hx hb dJ0_isLatin1_aae02_14T (by decide) ?_
  exact W.zret hx hb hret (by decide +kernel) (fun t ht _ => ⟨rfl, ht⟩) (fun q hq => by cases hq) dJ0_isLatin1_aae02_18T hlk
theorem T_length {a av : Nat} : T_Call 2 yJ0_length_8abf5 cJ0_length_8abf5 1 (some .int) a av [.ref a] (some (.int 127)) := by
  refine T_mk (by decide) (Nat.le_of_ble_eq_true rfl) (fun p l e s m args below meth c L hx hb hml hown hts hret hlk hE hLs hL => ?_)
  have h0 : L[0]? = some (.val (.ref a)) := hL (0, .ref a) List.mem_cons_self
  refine lv_aload_n hx hb dJ0_length_8abf5_0T rfl h0 ?_
  refine vk_getf hx hb (hE.1.1 0 (by decide)).2.2.1 va_S.rf hown (hts _ wd_2158T) (fun x h => h) dJ0_length_8abf5_1T ?_
  refine va_tlen (v := 127) hx hb (hE.1.1 0 (by decide)).2.2.2 va_S.rf rfl dJ0_length_8abf5_4T ?_
  refine lv_aload_n hx hb dJ0_length_8abf5_5T rfl h0 ?_
  refine T_callV (vs := []) (rest := [.int 127]) hx hb hml hown hts dJ0_length_8abf5_6T cv_RJ0_335T cw_J0_coder_7d493T rfl rfl (by decide) (by decide) ⟨Nat.zero_le _, Nat.zero_le _⟩ T_coder va_S.rf hE (fun q h => h) hLs (by decide) rfl ?_
  refine lv_ishr hx hb dJ0_length_8abf5_9T ?_
  exact W.iret hx hb hret (fun t ht _ => ⟨rfl, ht⟩) (fun q hq => by cases hq) dJ0_length_8abf5_10T hlk
theorem T_pcheck {a av : Nat} {i n : Int32} {w : Value} (h0 : ¬ i < 0) (h1 : i < n) (hw : w = .null ∨ ∃ t, w = .ref t) : T_Call 1 yJ3_checkIndex_8e157 cJ3_checkIndex_8e157 3 (some .int) a av [.int i, .int n, w] (some (.int i)) := by
  refine T_mk (by decide) (by rcases hw with rfl | ⟨t, rfl⟩ <;> exact Nat.le_of_ble_eq_true rfl) (fun p l e s m args below meth c L hx hb hml hown hts hret hlk hE hLs hL => ?_)
  have l0 : L[0]? = some (.val (.int i)) := hL (0, .int i) List.mem_cons_self
  have l1 : L[1]? = some (.val (.int n)) := hL (1, .int n) (List.mem_cons_of_mem _ List.mem_cons_self)
  refine lv_iload_n hx hb dJ3_checkIndex_8e157_0T rfl l0 ?_
  refine lv_if_lt (tgt := 9) hx hb dJ3_checkIndex_8e157_1T (by decide) (fun q => absurd q h0) (fun _ => ?_)
  refine lv_iload_n hx hb dJ3_checkIndex_8e157_4T rfl l0 ?_
  refine lv_iload_n hx hb dJ3_checkIndex_8e157_5T rfl l1 ?_
  refine lv_icmp_lt (tgt := 16) hx hb dJ3_checkIndex_8e157_6T (by decide) (fun _ => ?_) (fun q => absurd h1 q)
  refine lv_iload_n hx hb dJ3_checkIndex_8e157_16T rfl l0 ?_
  exact W.iret hx hb hret (fun t ht _ => ⟨rfl, ht⟩) (fun q hq => by cases hq) dJ3_checkIndex_8e157_17T hlk
theorem T_scheck {a av : Nat} {i n : Int32} (h0 : ¬ i < 0) (h1 : i < n) : T_Call 2 yJ0_checkIndex_df160 cJ0_checkIndex_df160 2 none a av [.int i, .int n] none := by
  refine T_mk (by decide) (Nat.le_of_ble_eq_true rfl) (fun p l e s m args below meth c L hx hb hml hown hts hret hlk hE hLs hL => ?_)
  have l0 : L[0]? = some (.val (.int i)) := hL (0, .int i) List.mem_cons_self
  have l1 : L[1]? = some (.val (.int n)) := hL (1, .int n) (List.mem_cons_of_mem _ List.mem_cons_self)
  refine lv_iload_n hx hb dJ0_checkIndex_df160_0T rfl l0 ?_
  refine lv_iload_n hx hb dJ0_checkIndex_df160_1T rfl l1 ?_
  have K : ∀ w : Value, (w = .null ∨ ∃ t, w = .ref t) → W p l e (m_rm 2 0 0) s m args below meth c s.heap [] 0 0 (MQ below (T_Qc none) args s 0 0 (fun _ => False)) (F0 m 5 L [w, .int n, .int i]) := fun w hw => by
    refine T_callS (vs := [.int i, .int n, w]) (rest := []) hx hb hml hown hts dJ0_checkIndex_df160_5T cs_RJ0_1059T cw_J3_checkIndex_8e157T rfl (by decide) (by decide) ⟨Nat.zero_le _, Nat.zero_le _⟩ (T_pcheck h0 h1 hw) va_S.rf hE (fun q h => h) hLs (by decide) rfl ?_
    refine lv_pop hx hb dJ0_checkIndex_df160_8T rfl ?_
    exact W.vret hx hb hret (fun t ht _ => ⟨rfl, ht⟩) (fun q hq => by cases hq) dJ0_checkIndex_df160_9T hlk
  rcases hE.2.2 with hZ | ⟨t, hZ⟩
  · exact va_gets hx hb hZ va_S.rf hown (hts _ wd_737T) (fun x h => h) dJ0_checkIndex_df160_2T (K _ (Or.inl rfl))
  · exact va_gets hx hb hZ va_S.rf hown (hts _ wd_737T) (fun x h => h) dJ0_checkIndex_df160_2T (K _ (Or.inr ⟨t, rfl⟩))
theorem T_byte : ∀ j, j < 127 → ((m_byt.getD j 0 &&& 255).toUInt32 % 65536).toInt32 = m_byt.getD j 0 ∧ narrow .char (.int (m_byt.getD j 0)) = .int (m_byt.getD j 0) := by decide +kernel
theorem T_lchar {a av : Nat} {i : Int32} (h0 : ¬ i < 0) (h1 : i < 127) (hj : i.toNatClampNeg < 127) : T_Call 3 yJ1_charAt_3b067 cJ1_charAt_3b067 2 (some .char) a av [.ref av, .int i] (some (.int (m_byt.getD i.toNatClampNeg 0))) := by
  refine T_mk (by decide) (Nat.le_of_ble_eq_true rfl) (fun p l e s m args below meth c L hx hb hml hown hts hret hlk hE hLs hL => ?_)
  have l0 : L[0]? = some (.val (.ref av)) := hL (0, .ref av) List.mem_cons_self
  have l1 : L[1]? = some (.val (.int i)) := hL (1, .int i) (List.mem_cons_of_mem _ List.mem_cons_self)
  obtain ⟨b1, b2⟩ := T_byte _ hj
  refine lv_iload_n hx hb dJ1_charAt_3b067_0T rfl l1 ?_
  refine lv_aload_n hx hb dJ1_charAt_3b067_1T rfl l0 ?_
  refine va_tlen (v := 127) hx hb (hE.1.1 0 (by decide)).2.2.2 va_S.rf rfl dJ1_charAt_3b067_2T ?_
  refine T_callS (vs := [.int i, .int 127]) (rest := []) hx hb hml hown hts dJ1_charAt_3b067_3T cs_RJ1_9T cw_J0_checkIndex_df160T rfl (by decide) (by decide) ⟨Nat.zero_le _, Nat.zero_le _⟩ (T_scheck h0 h1) va_S.rf hE (fun q h => h) hLs (by decide) rfl ?_
  refine lv_aload_n hx hb dJ1_charAt_3b067_6T rfl l0 ?_
  refine lv_iload_n hx hb dJ1_charAt_3b067_7T rfl l1 ?_
  refine va_tb (v := .int (m_byt.getD i.toNatClampNeg 0)) hx hb (hE.1.1 0 (by decide)).2.2.2 va_S.rf (fun q => by rcases q with q | q; exact h0 q; exact absurd hj (Nat.not_lt.mpr q)) rfl dJ1_charAt_3b067_8T ?_
  refine lv_sipush (v := 255) hx hb dJ1_charAt_3b067_9T (by decide +kernel) ?_
  refine lv_iand hx hb dJ1_charAt_3b067_12T ?_
  refine lv_i2c (v := m_byt.getD i.toNatClampNeg 0) hx hb dJ1_charAt_3b067_13T b1 ?_
  exact W.zret hx hb hret b2 (fun t ht _ => ⟨rfl, ht⟩) (fun q hq => by cases hq) dJ1_charAt_3b067_14T hlk
theorem T_char {a av : Nat} {i : Int32} (h0 : ¬ i < 0) (h1 : i < 127) (hj : i.toNatClampNeg < 127) : T_Call 4 yJ0_charAt_5068e cJ0_charAt_5068e 2 (some .char) a av [.ref a, .int i] (some (.int (m_byt.getD i.toNatClampNeg 0))) := by
  refine T_mk (by decide) (Nat.le_of_ble_eq_true rfl) (fun p l e s m args below meth c L hx hb hml hown hts hret hlk hE hLs hL => ?_)
  have l0 : L[0]? = some (.val (.ref a)) := hL (0, .ref a) List.mem_cons_self
  have l1 : L[1]? = some (.val (.int i)) := hL (1, .int i) (List.mem_cons_of_mem _ List.mem_cons_self)
  obtain ⟨b1, b2⟩ := T_byte _ hj
  refine lv_aload_n hx hb dJ0_charAt_5068e_0T rfl l0 ?_
  refine T_callV (vs := []) (rest := []) hx hb hml hown hts dJ0_charAt_5068e_1T cv_RJ0_492T cw_J0_isLatin1_aae02T rfl rfl (by decide) (by decide) ⟨Nat.zero_le _, Nat.zero_le _⟩ T_isLatin1 va_S.rf hE (fun q h => h) hLs (by decide) rfl ?_
  refine lv_if_eq (tgt := 16) hx hb dJ0_charAt_5068e_4T (by decide) (fun q => absurd q (by decide)) (fun _ => ?_)
  refine lv_aload_n hx hb dJ0_charAt_5068e_7T rfl l0 ?_
  refine vk_getf hx hb (hE.1.1 0 (by decide)).2.2.1 va_S.rf hown (hts _ wd_2158T) (fun x h => h) dJ0_charAt_5068e_8T ?_
  refine lv_iload_n hx hb dJ0_charAt_5068e_11T rfl l1 ?_
  refine T_callS (vs := [.ref av, .int i]) (rest := []) hx hb hml hown hts dJ0_charAt_5068e_12T cs_RJ0_495T cw_J1_charAt_3b067T rfl (by decide) (by decide) ⟨Nat.zero_le _, Nat.zero_le _⟩ (T_lchar h0 h1 hj) va_S.rf hE (fun q h => h) hLs (by decide) rfl ?_
  exact W.zret hx hb hret b2 (fun t ht _ => ⟨rfl, ht⟩) (fun q hq => by cases hq) dJ0_charAt_5068e_15T hlk
section MTx
variable {d : Nat} {own nm : String} {cc : ByteArray} {nL n0 s0 nF sF : Nat} {Ω : Nat → MS → Prop} {pc : Nat} {ls : ML} {st : List MV} {N : NN} {X : MX}
theorem m_r1 {α : Nat → Nat} : m_rv α (.inr (.inr 1)) = .ref (α 1) := rfl
theorem s_ldcs (hΩ : m_G d RX5 nm cc nL n0 s0 nF sF Ω) (h3 : 1 < xn X) (hd : decode cc pc = .ok (.ldc 91, 2)) (kk : Ω (pc + 2) (ls, .inr (.inr 1) :: st, N, X)) : Ω pc (ls, st, N, X) := by
  obtain ⟨p, l, e, R, s, m, args, below, meth, c, Q, D, g, A, α0, ⟨hx, hb, hml, hown, hts, hKK, hA, hnm, -, hRf, hRl, hRc, hRs, hn3, hEx⟩, rfl⟩ := hΩ
  obtain ⟨k1, k2, k3⟩ := kk
  refine ⟨k1, k2, fun α H locs L hr => ?_⟩
  obtain ⟨r1, r2, r3, r4, r5, r6, r7⟩ := hr
  dsimp only at r1 r2 r3 r4 r5 r6 r7 ⊢
  have hW := k3 α H locs L ⟨r1, r2, r3, r4, r5, r6, m_cp h3 r7⟩
  dsimp only at hW
  rw [List.map_cons, m_r1, r5 1 (by omega)] at hW
  exact va_ldcS hx hb hown hEx.2.2.2.2.1 hd hW
theorem s_slen (hΩ : m_G d RX5 nm cc nL n0 s0 nF sF Ω) (hd1 : 5 ≤ d) {idx : Nat} (hd : decode cc pc = .ok (.invokevirtual idx, 3)) (hl : Cond.methodLink RX5 idx yJ0_length_8abf5 ∈ lw_g) (hcs : m_cs st ≤ 8) (kk : Ω (pc + 3) (ls, .inl 127 :: st, N, X)) : Ω pc (ls, .inr (.inr 1) :: st, N, X) := by
  obtain ⟨p, l, e, R, s, m, args, below, meth, c, Q, D, g, A, α0, ⟨hx, hb, hml, hown, hts, hKK, hA, hnm, -, hRf, hRl, hRc, hRs, hn3, hEx⟩, rfl⟩ := hΩ
  obtain ⟨k1, k2, k3⟩ := kk
  dsimp only at k1 k2
  refine ⟨k1, k2, fun α H locs L hr => ?_⟩
  obtain ⟨r1, r2, r3, r4, r5, r6, r7⟩ := hr
  dsimp only at r1 r2 r3 r4 r5 r6 r7 ⊢
  obtain ⟨av, hS⟩ := hEx.2.2.2.2.2.1
  have hW := k3 α H locs L ⟨r1, r2, r3, r4, r5, r6, m_cp ⟨by decide, by decide⟩ (m_c1 r7).2⟩
  dsimp only at hW
  rw [List.map_cons, m_r1, r5 1 (by omega)]
  exact T_callV (a := α0 1) (av := av) (vs := []) (rest := st.map (m_rv α)) (v := some (.int 127)) hx hb hml hown hts hd ⟨hl, wd_714T, wd_715T⟩ cw_J0_length_8abf5T rfl rfl (show 2 + 1 ≤ R.frames by omega) (show 8 + (1 + 11) + 200 * 2 ≤ R.locals by omega) ⟨by omega, by omega⟩ T_length r3 ⟨hS, hEx.2.2.2.2.2.2.1, hEx.2.2.2.2.2.2.2⟩ (fun q h => hA q (Nat.le_trans r3.1 h)) r6.1 (by rw [m_cs_eq]; exact hcs) rfl hW
theorem s_schr (hΩ : m_G d RX5 nm cc nL n0 s0 nF sF Ω) (hd1 : 5 ≤ d) {idx : Nat} {i : Int} (hd : decode cc pc = .ok (.invokevirtual idx, 3)) (hl : Cond.methodLink RX5 idx yJ0_charAt_5068e ∈ lw_g) (hcs : m_cs st ≤ 8) (hi : 0 ≤ i ∧ i < 127) (kk : Ω (pc + 3) (ls, .inl (m_chr i.toNat) :: st, N, X)) : Ω pc (ls, .inl i :: .inr (.inr 1) :: st, N, X) := by
  obtain ⟨p, l, e, R, s, m, args, below, meth, c, Q, D, g, A, α0, ⟨hx, hb, hml, hown, hts, hKK, hA, hnm, -, hRf, hRl, hRc, hRs, hn3, hEx⟩, rfl⟩ := hΩ
  obtain ⟨k1, k2, k3⟩ := kk
  dsimp only at k1 k2
  refine ⟨k1, k2, fun α H locs L hr => ?_⟩
  obtain ⟨r1, r2, r3, r4, r5, r6, r7⟩ := hr
  dsimp only at r1 r2 r3 r4 r5 r6 r7 ⊢
  obtain ⟨av, hS⟩ := hEx.2.2.2.2.2.1
  have hi32 := (m_c1 r7).1
  have hW := k3 α H locs L ⟨r1, r2, r3, r4, r5, r6, m_cp (m_cv_i _ _) (m_c1 (m_c1 r7).2).2⟩
  dsimp only at hW
  rw [List.map_cons, show m_rv α (.inl (m_chr i.toNat)) = .int (m_byt.getD (Int32.ofInt i).toNatClampNeg 0) by
    rw [m_clamp hi32]
    show Value.int (Int32.ofInt (m_byt.getD i.toNat 0).toInt) = _
    rw [Int32.ofInt_toInt]] at hW
  rw [List.map_cons, List.map_cons, m_r1, r5 1 (by omega)]
  have z0 : ¬ Int32.ofInt i < 0 := by
    rw [show (0 : Int32) = Int32.ofInt 0 from rfl, m_lt hi32 ⟨by decide, by decide⟩]
    omega
  have z1 : Int32.ofInt i < 127 := by
    rw [show (127 : Int32) = Int32.ofInt 127 from rfl, m_lt hi32 ⟨by decide, by decide⟩]
    omega
  have z2 : (Int32.ofInt i).toNatClampNeg < 127 := by rw [m_clamp hi32]; omega
  exact T_callV (a := α0 1) (av := av) (vs := [.int (Int32.ofInt i)]) (rest := st.map (m_rv α)) (v := some (.int (m_byt.getD (Int32.ofInt i).toNatClampNeg 0))) hx hb hml hown hts hd ⟨hl, wd_724T, wd_725T⟩ cw_J0_charAt_5068eT rfl rfl (show 4 + 1 ≤ R.frames by omega) (show 8 + (2 + 11) + 200 * 4 ≤ R.locals by omega) ⟨by omega, by omega⟩ (T_char z0 z1 z2) r3 ⟨hS, hEx.2.2.2.2.2.2.1, hEx.2.2.2.2.2.2.2⟩ (fun q h => hA q (Nat.le_trans r3.1 h)) r6.1 (by rw [m_cs_eq]; exact hcs) rfl hW
end MTx
