-- ===== PART A: goes FIRST, ahead of the names: the tables' words, and 'selects' of the private methods out of them =====
/-- a private method of a class that the tables say can be made, by its rows of tables_1 -/
def lw_okq (q : MethodName × Nat) : Prop := (q.1.cls ≠ "java/lang/invoke/MethodHandle" ∧ q.1.cls ≠ "java/lang/invoke/VarHandle") ∧ Cond.instantiable q.1.cls q.2 ∈ tables_1 ∧ Cond.privateMethod q.1 ∈ tables_1 ∧ Cond.instanceMethod q.1 ∈ tables_1
theorem lw_p0 : lw_okq (⟨"GiftDuel", "refuse", "(I)I"⟩, 15) := ⟨⟨by decide +kernel, by decide +kernel⟩, List.mem_of_getElem? (i := 23) (by decide +kernel), List.mem_of_getElem? (i := 387) (by decide +kernel), List.mem_of_getElem? (i := 388) (by decide +kernel)⟩
theorem lw_p1 : lw_okq (⟨"GiftDuel", "accept", "(I)I"⟩, 15) := ⟨⟨by decide +kernel, by decide +kernel⟩, List.mem_of_getElem? (i := 23) (by decide +kernel), List.mem_of_getElem? (i := 403) (by decide +kernel), List.mem_of_getElem? (i := 404) (by decide +kernel)⟩
theorem lw_p2 : lw_okq (⟨"GiftDuel$Judge", "ask", "(LGiftDuel$World;II)V"⟩, 3) := ⟨⟨by decide +kernel, by decide +kernel⟩, List.mem_of_getElem? (i := 140) (by decide +kernel), List.mem_of_getElem? (i := 428) (by decide +kernel), List.mem_of_getElem? (i := 429) (by decide +kernel)⟩
theorem lw_p3 : lw_okq (⟨"GiftDuel$Judge", "told", "(LGiftDuel$Text;III)I"⟩, 3) := ⟨⟨by decide +kernel, by decide +kernel⟩, List.mem_of_getElem? (i := 140) (by decide +kernel), List.mem_of_getElem? (i := 437) (by decide +kernel), List.mem_of_getElem? (i := 438) (by decide +kernel)⟩
theorem lw_p4 : lw_okq (⟨"GiftDuel$Text", "value", "(II[I[I)I"⟩, 5) := ⟨⟨by decide +kernel, by decide +kernel⟩, List.mem_of_getElem? (i := 81) (by decide +kernel), List.mem_of_getElem? (i := 453) (by decide +kernel), List.mem_of_getElem? (i := 454) (by decide +kernel)⟩
theorem lw_p5 : lw_okq (⟨"GiftDuel$World", "held", "(I)I"⟩, 3) := ⟨⟨by decide +kernel, by decide +kernel⟩, List.mem_of_getElem? (i := 31) (by decide +kernel), List.mem_of_getElem? (i := 477) (by decide +kernel), List.mem_of_getElem? (i := 478) (by decide +kernel)⟩
theorem lw_p6 : lw_okq (⟨"GiftDuel", "comes", "(III)Z"⟩, 15) := ⟨⟨by decide +kernel, by decide +kernel⟩, List.mem_of_getElem? (i := 23) (by decide +kernel), List.mem_of_getElem? (i := 553) (by decide +kernel), List.mem_of_getElem? (i := 554) (by decide +kernel)⟩
theorem lw_p7 : lw_okq (⟨"GiftDuel$Reader", "scan", "()V"⟩, 11) := ⟨⟨by decide +kernel, by decide +kernel⟩, List.mem_of_getElem? (i := 75) (by decide +kernel), List.mem_of_getElem? (i := 573) (by decide +kernel), List.mem_of_getElem? (i := 574) (by decide +kernel)⟩
theorem lw_p8 : lw_okq (⟨"GiftDuel$Reader", "wordOf", "(II)I"⟩, 11) := ⟨⟨by decide +kernel, by decide +kernel⟩, List.mem_of_getElem? (i := 75) (by decide +kernel), List.mem_of_getElem? (i := 580) (by decide +kernel), List.mem_of_getElem? (i := 581) (by decide +kernel)⟩
theorem lw_p9 : lw_okq (⟨"GiftDuel$Reader", "numberOf", "(II)I"⟩, 11) := ⟨⟨by decide +kernel, by decide +kernel⟩, List.mem_of_getElem? (i := 75) (by decide +kernel), List.mem_of_getElem? (i := 636) (by decide +kernel), List.mem_of_getElem? (i := 637) (by decide +kernel)⟩
theorem lw_p10 : lw_okq (⟨"GiftDuel$Reader", "lawClause", "()Z"⟩, 11) := ⟨⟨by decide +kernel, by decide +kernel⟩, List.mem_of_getElem? (i := 75) (by decide +kernel), List.mem_of_getElem? (i := 641) (by decide +kernel), List.mem_of_getElem? (i := 642) (by decide +kernel)⟩
theorem lw_p11 : lw_okq (⟨"GiftDuel$Reader", "wrong", "()Z"⟩, 11) := ⟨⟨by decide +kernel, by decide +kernel⟩, List.mem_of_getElem? (i := 75) (by decide +kernel), List.mem_of_getElem? (i := 645) (by decide +kernel), List.mem_of_getElem? (i := 646) (by decide +kernel)⟩
theorem lw_p12 : lw_okq (⟨"GiftDuel$Reader", "advance", "()V"⟩, 11) := ⟨⟨by decide +kernel, by decide +kernel⟩, List.mem_of_getElem? (i := 75) (by decide +kernel), List.mem_of_getElem? (i := 654) (by decide +kernel), List.mem_of_getElem? (i := 655) (by decide +kernel)⟩
theorem lw_p13 : lw_okq (⟨"GiftDuel$Reader", "sumOf", "(II)Z"⟩, 11) := ⟨⟨by decide +kernel, by decide +kernel⟩, List.mem_of_getElem? (i := 75) (by decide +kernel), List.mem_of_getElem? (i := 658) (by decide +kernel), List.mem_of_getElem? (i := 659) (by decide +kernel)⟩
theorem lw_p14 : lw_okq (⟨"GiftDuel$Reader", "sum", "(I)Z"⟩, 11) := ⟨⟨by decide +kernel, by decide +kernel⟩, List.mem_of_getElem? (i := 75) (by decide +kernel), List.mem_of_getElem? (i := 670) (by decide +kernel), List.mem_of_getElem? (i := 671) (by decide +kernel)⟩
theorem lw_p15 : lw_okq (⟨"GiftDuel$Reader", "term", "(I)Z"⟩, 11) := ⟨⟨by decide +kernel, by decide +kernel⟩, List.mem_of_getElem? (i := 75) (by decide +kernel), List.mem_of_getElem? (i := 674) (by decide +kernel), List.mem_of_getElem? (i := 675) (by decide +kernel)⟩
def lw_privs_1 : List (MethodName × Nat) := [(⟨"GiftDuel", "refuse", "(I)I"⟩, 15), (⟨"GiftDuel", "accept", "(I)I"⟩, 15), (⟨"GiftDuel$Judge", "ask", "(LGiftDuel$World;II)V"⟩, 3), (⟨"GiftDuel$Judge", "told", "(LGiftDuel$Text;III)I"⟩, 3), (⟨"GiftDuel$Text", "value", "(II[I[I)I"⟩, 5), (⟨"GiftDuel$World", "held", "(I)I"⟩, 3), (⟨"GiftDuel", "comes", "(III)Z"⟩, 15), (⟨"GiftDuel$Reader", "scan", "()V"⟩, 11), (⟨"GiftDuel$Reader", "wordOf", "(II)I"⟩, 11), (⟨"GiftDuel$Reader", "numberOf", "(II)I"⟩, 11), (⟨"GiftDuel$Reader", "lawClause", "()Z"⟩, 11), (⟨"GiftDuel$Reader", "wrong", "()Z"⟩, 11), (⟨"GiftDuel$Reader", "advance", "()V"⟩, 11), (⟨"GiftDuel$Reader", "sumOf", "(II)Z"⟩, 11), (⟨"GiftDuel$Reader", "sum", "(I)Z"⟩, 11), (⟨"GiftDuel$Reader", "term", "(I)Z"⟩, 11)]
theorem lw_r1 : ∀ q ∈ lw_privs_1, lw_okq q := List.forall_mem_cons.mpr ⟨lw_p0, List.forall_mem_cons.mpr ⟨lw_p1, List.forall_mem_cons.mpr ⟨lw_p2, List.forall_mem_cons.mpr ⟨lw_p3, List.forall_mem_cons.mpr ⟨lw_p4, List.forall_mem_cons.mpr ⟨lw_p5, List.forall_mem_cons.mpr ⟨lw_p6, List.forall_mem_cons.mpr ⟨lw_p7, List.forall_mem_cons.mpr ⟨lw_p8, List.forall_mem_cons.mpr ⟨lw_p9, List.forall_mem_cons.mpr ⟨lw_p10, List.forall_mem_cons.mpr ⟨lw_p11, List.forall_mem_cons.mpr ⟨lw_p12, List.forall_mem_cons.mpr ⟨lw_p13, List.forall_mem_cons.mpr ⟨lw_p14, List.forall_mem_cons.mpr ⟨lw_p15, fun _ h => absurd h List.not_mem_nil⟩⟩⟩⟩⟩⟩⟩⟩⟩⟩⟩⟩⟩⟩⟩⟩
theorem lw_p16 : lw_okq (⟨"GiftDuel$Reader", "part", "(I)Z"⟩, 11) := ⟨⟨by decide +kernel, by decide +kernel⟩, List.mem_of_getElem? (i := 75) (by decide +kernel), List.mem_of_getElem? (i := 678) (by decide +kernel), List.mem_of_getElem? (i := 679) (by decide +kernel)⟩
theorem lw_p17 : lw_okq (⟨"GiftDuel$Reader", "bracketed", "(III)Z"⟩, 11) := ⟨⟨by decide +kernel, by decide +kernel⟩, List.mem_of_getElem? (i := 75) (by decide +kernel), List.mem_of_getElem? (i := 682) (by decide +kernel), List.mem_of_getElem? (i := 683) (by decide +kernel)⟩
theorem lw_p18 : lw_okq (⟨"GiftDuel$Reader", "test", "(I)Z"⟩, 11) := ⟨⟨by decide +kernel, by decide +kernel⟩, List.mem_of_getElem? (i := 75) (by decide +kernel), List.mem_of_getElem? (i := 686) (by decide +kernel), List.mem_of_getElem? (i := 687) (by decide +kernel)⟩
theorem lw_p19 : lw_okq (⟨"GiftDuel$Reader", "both", "(I)Z"⟩, 11) := ⟨⟨by decide +kernel, by decide +kernel⟩, List.mem_of_getElem? (i := 75) (by decide +kernel), List.mem_of_getElem? (i := 690) (by decide +kernel), List.mem_of_getElem? (i := 691) (by decide +kernel)⟩
theorem lw_p20 : lw_okq (⟨"GiftDuel$Reader", "plain", "(I)Z"⟩, 11) := ⟨⟨by decide +kernel, by decide +kernel⟩, List.mem_of_getElem? (i := 75) (by decide +kernel), List.mem_of_getElem? (i := 694) (by decide +kernel), List.mem_of_getElem? (i := 695) (by decide +kernel)⟩
theorem lw_p21 : lw_okq (⟨"GiftDuel$Reader", "comparison", "(I)Z"⟩, 11) := ⟨⟨by decide +kernel, by decide +kernel⟩, List.mem_of_getElem? (i := 75) (by decide +kernel), List.mem_of_getElem? (i := 698) (by decide +kernel), List.mem_of_getElem? (i := 699) (by decide +kernel)⟩
theorem lw_p22 : lw_okq (⟨"GiftDuel$Reader", "lawWord", "()I"⟩, 11) := ⟨⟨by decide +kernel, by decide +kernel⟩, List.mem_of_getElem? (i := 75) (by decide +kernel), List.mem_of_getElem? (i := 710) (by decide +kernel), List.mem_of_getElem? (i := 711) (by decide +kernel)⟩
theorem lw_p23 : lw_okq (⟨"GiftDuel$Reader", "orderWord", "()I"⟩, 11) := ⟨⟨by decide +kernel, by decide +kernel⟩, List.mem_of_getElem? (i := 75) (by decide +kernel), List.mem_of_getElem? (i := 714) (by decide +kernel), List.mem_of_getElem? (i := 715) (by decide +kernel)⟩
theorem lw_p24 : lw_okq (⟨"GiftDuel$Reader", "condition", "(I)Z"⟩, 11) := ⟨⟨by decide +kernel, by decide +kernel⟩, List.mem_of_getElem? (i := 75) (by decide +kernel), List.mem_of_getElem? (i := 718) (by decide +kernel), List.mem_of_getElem? (i := 719) (by decide +kernel)⟩
theorem lw_p25 : lw_okq (⟨"GiftDuel$Reader", "orderClause", "()Z"⟩, 11) := ⟨⟨by decide +kernel, by decide +kernel⟩, List.mem_of_getElem? (i := 75) (by decide +kernel), List.mem_of_getElem? (i := 722) (by decide +kernel), List.mem_of_getElem? (i := 723) (by decide +kernel)⟩
theorem lw_p26 : lw_okq (⟨"GiftDuel$Reader", "times", "(I)Z"⟩, 11) := ⟨⟨by decide +kernel, by decide +kernel⟩, List.mem_of_getElem? (i := 75) (by decide +kernel), List.mem_of_getElem? (i := 726) (by decide +kernel), List.mem_of_getElem? (i := 727) (by decide +kernel)⟩
theorem lw_p27 : lw_okq (⟨"GiftDuel$Orders", "step", "(LGiftDuel$Text;ILGiftDuel$World;LGiftDuel$Past;)Z"⟩, 8) := ⟨⟨by decide +kernel, by decide +kernel⟩, List.mem_of_getElem? (i := 174) (by decide +kernel), List.mem_of_getElem? (i := 772) (by decide +kernel), List.mem_of_getElem? (i := 773) (by decide +kernel)⟩
theorem lw_p28 : lw_okq (⟨"GiftDuel$Orders", "look", "(LGiftDuel$World;)V"⟩, 8) := ⟨⟨by decide +kernel, by decide +kernel⟩, List.mem_of_getElem? (i := 174) (by decide +kernel), List.mem_of_getElem? (i := 776) (by decide +kernel), List.mem_of_getElem? (i := 777) (by decide +kernel)⟩
theorem lw_p29 : lw_okq (⟨"GiftDuel$Duels", "gather", "(LGiftDuel$World;III)V"⟩, 6) := ⟨⟨by decide +kernel, by decide +kernel⟩, List.mem_of_getElem? (i := 209) (by decide +kernel), List.mem_of_getElem? (i := 949) (by decide +kernel), List.mem_of_getElem? (i := 950) (by decide +kernel)⟩
theorem lw_p30 : lw_okq (⟨"GiftDuel$Duels", "wins", "(IIIII)Z"⟩, 6) := ⟨⟨by decide +kernel, by decide +kernel⟩, List.mem_of_getElem? (i := 209) (by decide +kernel), List.mem_of_getElem? (i := 963) (by decide +kernel), List.mem_of_getElem? (i := 964) (by decide +kernel)⟩
theorem lw_p31 : lw_okq (⟨"GiftDuel$Duels", "winsBy", "(IIII)Z"⟩, 6) := ⟨⟨by decide +kernel, by decide +kernel⟩, List.mem_of_getElem? (i := 209) (by decide +kernel), List.mem_of_getElem? (i := 967) (by decide +kernel), List.mem_of_getElem? (i := 968) (by decide +kernel)⟩
def lw_privs_2 : List (MethodName × Nat) := [(⟨"GiftDuel$Reader", "part", "(I)Z"⟩, 11), (⟨"GiftDuel$Reader", "bracketed", "(III)Z"⟩, 11), (⟨"GiftDuel$Reader", "test", "(I)Z"⟩, 11), (⟨"GiftDuel$Reader", "both", "(I)Z"⟩, 11), (⟨"GiftDuel$Reader", "plain", "(I)Z"⟩, 11), (⟨"GiftDuel$Reader", "comparison", "(I)Z"⟩, 11), (⟨"GiftDuel$Reader", "lawWord", "()I"⟩, 11), (⟨"GiftDuel$Reader", "orderWord", "()I"⟩, 11), (⟨"GiftDuel$Reader", "condition", "(I)Z"⟩, 11), (⟨"GiftDuel$Reader", "orderClause", "()Z"⟩, 11), (⟨"GiftDuel$Reader", "times", "(I)Z"⟩, 11), (⟨"GiftDuel$Orders", "step", "(LGiftDuel$Text;ILGiftDuel$World;LGiftDuel$Past;)Z"⟩, 8), (⟨"GiftDuel$Orders", "look", "(LGiftDuel$World;)V"⟩, 8), (⟨"GiftDuel$Duels", "gather", "(LGiftDuel$World;III)V"⟩, 6), (⟨"GiftDuel$Duels", "wins", "(IIIII)Z"⟩, 6), (⟨"GiftDuel$Duels", "winsBy", "(IIII)Z"⟩, 6)]
theorem lw_r2 : ∀ q ∈ lw_privs_2, lw_okq q := List.forall_mem_cons.mpr ⟨lw_p16, List.forall_mem_cons.mpr ⟨lw_p17, List.forall_mem_cons.mpr ⟨lw_p18, List.forall_mem_cons.mpr ⟨lw_p19, List.forall_mem_cons.mpr ⟨lw_p20, List.forall_mem_cons.mpr ⟨lw_p21, List.forall_mem_cons.mpr ⟨lw_p22, List.forall_mem_cons.mpr ⟨lw_p23, List.forall_mem_cons.mpr ⟨lw_p24, List.forall_mem_cons.mpr ⟨lw_p25, List.forall_mem_cons.mpr ⟨lw_p26, List.forall_mem_cons.mpr ⟨lw_p27, List.forall_mem_cons.mpr ⟨lw_p28, List.forall_mem_cons.mpr ⟨lw_p29, List.forall_mem_cons.mpr ⟨lw_p30, List.forall_mem_cons.mpr ⟨lw_p31, fun _ h => absurd h List.not_mem_nil⟩⟩⟩⟩⟩⟩⟩⟩⟩⟩⟩⟩⟩⟩⟩⟩
theorem lw_p32 : lw_okq (⟨"GiftDuel$Duels", "winning", "()I"⟩, 6) := ⟨⟨by decide +kernel, by decide +kernel⟩, List.mem_of_getElem? (i := 209) (by decide +kernel), List.mem_of_getElem? (i := 971) (by decide +kernel), List.mem_of_getElem? (i := 972) (by decide +kernel)⟩
theorem lw_p33 : lw_okq (⟨"GiftDuel$Duels", "lowestWinning", "(IIII)I"⟩, 6) := ⟨⟨by decide +kernel, by decide +kernel⟩, List.mem_of_getElem? (i := 209) (by decide +kernel), List.mem_of_getElem? (i := 975) (by decide +kernel), List.mem_of_getElem? (i := 976) (by decide +kernel)⟩
theorem lw_p34 : lw_okq (⟨"GiftDuel$Duels", "length", "()I"⟩, 6) := ⟨⟨by decide +kernel, by decide +kernel⟩, List.mem_of_getElem? (i := 209) (by decide +kernel), List.mem_of_getElem? (i := 979) (by decide +kernel), List.mem_of_getElem? (i := 980) (by decide +kernel)⟩
theorem lw_p35 : lw_okq (⟨"GiftDuel$Duels", "lowestPossible", "(II)I"⟩, 6) := ⟨⟨by decide +kernel, by decide +kernel⟩, List.mem_of_getElem? (i := 209) (by decide +kernel), List.mem_of_getElem? (i := 983) (by decide +kernel), List.mem_of_getElem? (i := 984) (by decide +kernel)⟩
theorem lw_p36 : lw_okq (⟨"GiftDuel$Sieges", "gather", "(LGiftDuel$World;III)V"⟩, 8) := ⟨⟨by decide +kernel, by decide +kernel⟩, List.mem_of_getElem? (i := 234) (by decide +kernel), List.mem_of_getElem? (i := 1008) (by decide +kernel), List.mem_of_getElem? (i := 1009) (by decide +kernel)⟩
theorem lw_p37 : lw_okq (⟨"GiftDuel$Sieges", "cheapest", "(I)I"⟩, 8) := ⟨⟨by decide +kernel, by decide +kernel⟩, List.mem_of_getElem? (i := 234) (by decide +kernel), List.mem_of_getElem? (i := 1017) (by decide +kernel), List.mem_of_getElem? (i := 1018) (by decide +kernel)⟩
theorem lw_p38 : lw_okq (⟨"GiftDuel$Sieges", "falls", "(II)Z"⟩, 8) := ⟨⟨by decide +kernel, by decide +kernel⟩, List.mem_of_getElem? (i := 234) (by decide +kernel), List.mem_of_getElem? (i := 1021) (by decide +kernel), List.mem_of_getElem? (i := 1022) (by decide +kernel)⟩
theorem lw_p39 : lw_okq (⟨"GiftDuel$Sieges", "worthOf", "(I)I"⟩, 8) := ⟨⟨by decide +kernel, by decide +kernel⟩, List.mem_of_getElem? (i := 234) (by decide +kernel), List.mem_of_getElem? (i := 1025) (by decide +kernel), List.mem_of_getElem? (i := 1026) (by decide +kernel)⟩
theorem lw_p40 : lw_okq (⟨"GiftDuel$Sieges", "bitsOf", "(I)I"⟩, 8) := ⟨⟨by decide +kernel, by decide +kernel⟩, List.mem_of_getElem? (i := 234) (by decide +kernel), List.mem_of_getElem? (i := 1035) (by decide +kernel), List.mem_of_getElem? (i := 1036) (by decide +kernel)⟩
theorem lw_p41 : lw_okq (⟨"GiftDuel$Judge", "hear", "(LGiftDuel$World;I)I"⟩, 3) := ⟨⟨by decide +kernel, by decide +kernel⟩, List.mem_of_getElem? (i := 140) (by decide +kernel), List.mem_of_getElem? (i := 1055) (by decide +kernel), List.mem_of_getElem? (i := 1056) (by decide +kernel)⟩
theorem lw_p42 : lw_okq (⟨"GiftDuel$Ways", "draw", "(LGiftDuel$World;)V"⟩, 9) := ⟨⟨by decide +kernel, by decide +kernel⟩, List.mem_of_getElem? (i := 265) (by decide +kernel), List.mem_of_getElem? (i := 1093) (by decide +kernel), List.mem_of_getElem? (i := 1094) (by decide +kernel)⟩
theorem lw_p43 : lw_okq (⟨"GiftDuel$Ways", "walk", "(IIII)V"⟩, 9) := ⟨⟨by decide +kernel, by decide +kernel⟩, List.mem_of_getElem? (i := 265) (by decide +kernel), List.mem_of_getElem? (i := 1107) (by decide +kernel), List.mem_of_getElem? (i := 1108) (by decide +kernel)⟩
theorem lw_p44 : lw_okq (⟨"GiftDuel$Ways", "closes", "(LGiftDuel$World;III)Z"⟩, 9) := ⟨⟨by decide +kernel, by decide +kernel⟩, List.mem_of_getElem? (i := 265) (by decide +kernel), List.mem_of_getElem? (i := 1125) (by decide +kernel), List.mem_of_getElem? (i := 1126) (by decide +kernel)⟩
theorem lw_p45 : lw_okq (⟨"GiftDuel$Shelves", "lookAt", "(LGiftDuel$World;II)V"⟩, 9) := ⟨⟨by decide +kernel, by decide +kernel⟩, List.mem_of_getElem? (i := 299) (by decide +kernel), List.mem_of_getElem? (i := 1153) (by decide +kernel), List.mem_of_getElem? (i := 1154) (by decide +kernel)⟩
theorem lw_p46 : lw_okq (⟨"GiftDuel$Shelves", "rows", "(I)I"⟩, 9) := ⟨⟨by decide +kernel, by decide +kernel⟩, List.mem_of_getElem? (i := 299) (by decide +kernel), List.mem_of_getElem? (i := 1160) (by decide +kernel), List.mem_of_getElem? (i := 1161) (by decide +kernel)⟩
theorem lw_p47 : lw_okq (⟨"GiftDuel$Shelves", "takeFirst", "(I)Z"⟩, 9) := ⟨⟨by decide +kernel, by decide +kernel⟩, List.mem_of_getElem? (i := 299) (by decide +kernel), List.mem_of_getElem? (i := 1168) (by decide +kernel), List.mem_of_getElem? (i := 1169) (by decide +kernel)⟩
def lw_privs_3 : List (MethodName × Nat) := [(⟨"GiftDuel$Duels", "winning", "()I"⟩, 6), (⟨"GiftDuel$Duels", "lowestWinning", "(IIII)I"⟩, 6), (⟨"GiftDuel$Duels", "length", "()I"⟩, 6), (⟨"GiftDuel$Duels", "lowestPossible", "(II)I"⟩, 6), (⟨"GiftDuel$Sieges", "gather", "(LGiftDuel$World;III)V"⟩, 8), (⟨"GiftDuel$Sieges", "cheapest", "(I)I"⟩, 8), (⟨"GiftDuel$Sieges", "falls", "(II)Z"⟩, 8), (⟨"GiftDuel$Sieges", "worthOf", "(I)I"⟩, 8), (⟨"GiftDuel$Sieges", "bitsOf", "(I)I"⟩, 8), (⟨"GiftDuel$Judge", "hear", "(LGiftDuel$World;I)I"⟩, 3), (⟨"GiftDuel$Ways", "draw", "(LGiftDuel$World;)V"⟩, 9), (⟨"GiftDuel$Ways", "walk", "(IIII)V"⟩, 9), (⟨"GiftDuel$Ways", "closes", "(LGiftDuel$World;III)Z"⟩, 9), (⟨"GiftDuel$Shelves", "lookAt", "(LGiftDuel$World;II)V"⟩, 9), (⟨"GiftDuel$Shelves", "rows", "(I)I"⟩, 9), (⟨"GiftDuel$Shelves", "takeFirst", "(I)Z"⟩, 9)]
theorem lw_r3 : ∀ q ∈ lw_privs_3, lw_okq q := List.forall_mem_cons.mpr ⟨lw_p32, List.forall_mem_cons.mpr ⟨lw_p33, List.forall_mem_cons.mpr ⟨lw_p34, List.forall_mem_cons.mpr ⟨lw_p35, List.forall_mem_cons.mpr ⟨lw_p36, List.forall_mem_cons.mpr ⟨lw_p37, List.forall_mem_cons.mpr ⟨lw_p38, List.forall_mem_cons.mpr ⟨lw_p39, List.forall_mem_cons.mpr ⟨lw_p40, List.forall_mem_cons.mpr ⟨lw_p41, List.forall_mem_cons.mpr ⟨lw_p42, List.forall_mem_cons.mpr ⟨lw_p43, List.forall_mem_cons.mpr ⟨lw_p44, List.forall_mem_cons.mpr ⟨lw_p45, List.forall_mem_cons.mpr ⟨lw_p46, List.forall_mem_cons.mpr ⟨lw_p47, fun _ h => absurd h List.not_mem_nil⟩⟩⟩⟩⟩⟩⟩⟩⟩⟩⟩⟩⟩⟩⟩⟩
theorem lw_p48 : lw_okq (⟨"GiftDuel$Deeds", "draw", "(I)I"⟩, 3) := ⟨⟨by decide +kernel, by decide +kernel⟩, List.mem_of_getElem? (i := 156) (by decide +kernel), List.mem_of_getElem? (i := 1192) (by decide +kernel), List.mem_of_getElem? (i := 1193) (by decide +kernel)⟩
theorem lw_p49 : lw_okq (⟨"GiftDuelModel", "tell", "(I)I"⟩, 73) := ⟨⟨by decide +kernel, by decide +kernel⟩, List.mem_of_getElem? (i := 1244) (by decide +kernel), List.mem_of_getElem? (i := 1493) (by decide +kernel), List.mem_of_getElem? (i := 1494) (by decide +kernel)⟩
theorem lw_p50 : lw_okq (⟨"GiftDuelModel", "settled", "(I)I"⟩, 73) := ⟨⟨by decide +kernel, by decide +kernel⟩, List.mem_of_getElem? (i := 1244) (by decide +kernel), List.mem_of_getElem? (i := 1501) (by decide +kernel), List.mem_of_getElem? (i := 1502) (by decide +kernel)⟩
theorem lw_p51 : lw_okq (⟨"GiftDuelModel", "isLord", "(I)Z"⟩, 73) := ⟨⟨by decide +kernel, by decide +kernel⟩, List.mem_of_getElem? (i := 1244) (by decide +kernel), List.mem_of_getElem? (i := 1515) (by decide +kernel), List.mem_of_getElem? (i := 1516) (by decide +kernel)⟩
theorem lw_p52 : lw_okq (⟨"GiftDuelModel", "ofLord", "(II)I"⟩, 73) := ⟨⟨by decide +kernel, by decide +kernel⟩, List.mem_of_getElem? (i := 1244) (by decide +kernel), List.mem_of_getElem? (i := 1520) (by decide +kernel), List.mem_of_getElem? (i := 1521) (by decide +kernel)⟩
theorem lw_p53 : lw_okq (⟨"GiftDuelModel", "held", "(I)I"⟩, 73) := ⟨⟨by decide +kernel, by decide +kernel⟩, List.mem_of_getElem? (i := 1244) (by decide +kernel), List.mem_of_getElem? (i := 1524) (by decide +kernel), List.mem_of_getElem? (i := 1525) (by decide +kernel)⟩
theorem lw_p54 : lw_okq (⟨"GiftDuelModel", "ofGood", "(II)I"⟩, 73) := ⟨⟨by decide +kernel, by decide +kernel⟩, List.mem_of_getElem? (i := 1244) (by decide +kernel), List.mem_of_getElem? (i := 1528) (by decide +kernel), List.mem_of_getElem? (i := 1529) (by decide +kernel)⟩
theorem lw_p55 : lw_okq (⟨"GiftDuelModel", "year", "()I"⟩, 73) := ⟨⟨by decide +kernel, by decide +kernel⟩, List.mem_of_getElem? (i := 1244) (by decide +kernel), List.mem_of_getElem? (i := 1532) (by decide +kernel), List.mem_of_getElem? (i := 1533) (by decide +kernel)⟩
theorem lw_p56 : lw_okq (⟨"GiftDuelModel", "costs", "(II)I"⟩, 73) := ⟨⟨by decide +kernel, by decide +kernel⟩, List.mem_of_getElem? (i := 1244) (by decide +kernel), List.mem_of_getElem? (i := 1536) (by decide +kernel), List.mem_of_getElem? (i := 1537) (by decide +kernel)⟩
theorem lw_p57 : lw_okq (⟨"GiftDuelModel", "costOf", "(III)I"⟩, 73) := ⟨⟨by decide +kernel, by decide +kernel⟩, List.mem_of_getElem? (i := 1244) (by decide +kernel), List.mem_of_getElem? (i := 1540) (by decide +kernel), List.mem_of_getElem? (i := 1541) (by decide +kernel)⟩
theorem lw_p58 : lw_okq (⟨"GiftDuelModel", "tells1", "(IIIIIIJ)J"⟩, 73) := ⟨⟨by decide +kernel, by decide +kernel⟩, List.mem_of_getElem? (i := 1244) (by decide +kernel), List.mem_of_getElem? (i := 1544) (by decide +kernel), List.mem_of_getElem? (i := 1545) (by decide +kernel)⟩
theorem lw_p59 : lw_okq (⟨"GiftDuelModel", "isSo", "(I)Z"⟩, 73) := ⟨⟨by decide +kernel, by decide +kernel⟩, List.mem_of_getElem? (i := 1244) (by decide +kernel), List.mem_of_getElem? (i := 1548) (by decide +kernel), List.mem_of_getElem? (i := 1549) (by decide +kernel)⟩
theorem lw_p60 : lw_okq (⟨"GiftDuelModel", "reckonAll", "(II)V"⟩, 73) := ⟨⟨by decide +kernel, by decide +kernel⟩, List.mem_of_getElem? (i := 1244) (by decide +kernel), List.mem_of_getElem? (i := 1552) (by decide +kernel), List.mem_of_getElem? (i := 1553) (by decide +kernel)⟩
theorem lw_p61 : lw_okq (⟨"GiftDuelModel", "askedOf", "(II)J"⟩, 73) := ⟨⟨by decide +kernel, by decide +kernel⟩, List.mem_of_getElem? (i := 1244) (by decide +kernel), List.mem_of_getElem? (i := 1556) (by decide +kernel), List.mem_of_getElem? (i := 1557) (by decide +kernel)⟩
theorem lw_p62 : lw_okq (⟨"GiftDuelModel", "isGood", "(I)Z"⟩, 73) := ⟨⟨by decide +kernel, by decide +kernel⟩, List.mem_of_getElem? (i := 1244) (by decide +kernel), List.mem_of_getElem? (i := 1560) (by decide +kernel), List.mem_of_getElem? (i := 1561) (by decide +kernel)⟩
theorem lw_p63 : lw_okq (⟨"GiftDuelModel", "debtsOf", "(I)I"⟩, 73) := ⟨⟨by decide +kernel, by decide +kernel⟩, List.mem_of_getElem? (i := 1244) (by decide +kernel), List.mem_of_getElem? (i := 1565) (by decide +kernel), List.mem_of_getElem? (i := 1566) (by decide +kernel)⟩
def lw_privs_4 : List (MethodName × Nat) := [(⟨"GiftDuel$Deeds", "draw", "(I)I"⟩, 3), (⟨"GiftDuelModel", "tell", "(I)I"⟩, 73), (⟨"GiftDuelModel", "settled", "(I)I"⟩, 73), (⟨"GiftDuelModel", "isLord", "(I)Z"⟩, 73), (⟨"GiftDuelModel", "ofLord", "(II)I"⟩, 73), (⟨"GiftDuelModel", "held", "(I)I"⟩, 73), (⟨"GiftDuelModel", "ofGood", "(II)I"⟩, 73), (⟨"GiftDuelModel", "year", "()I"⟩, 73), (⟨"GiftDuelModel", "costs", "(II)I"⟩, 73), (⟨"GiftDuelModel", "costOf", "(III)I"⟩, 73), (⟨"GiftDuelModel", "tells1", "(IIIIIIJ)J"⟩, 73), (⟨"GiftDuelModel", "isSo", "(I)Z"⟩, 73), (⟨"GiftDuelModel", "reckonAll", "(II)V"⟩, 73), (⟨"GiftDuelModel", "askedOf", "(II)J"⟩, 73), (⟨"GiftDuelModel", "isGood", "(I)Z"⟩, 73), (⟨"GiftDuelModel", "debtsOf", "(I)I"⟩, 73)]
theorem lw_r4 : ∀ q ∈ lw_privs_4, lw_okq q := List.forall_mem_cons.mpr ⟨lw_p48, List.forall_mem_cons.mpr ⟨lw_p49, List.forall_mem_cons.mpr ⟨lw_p50, List.forall_mem_cons.mpr ⟨lw_p51, List.forall_mem_cons.mpr ⟨lw_p52, List.forall_mem_cons.mpr ⟨lw_p53, List.forall_mem_cons.mpr ⟨lw_p54, List.forall_mem_cons.mpr ⟨lw_p55, List.forall_mem_cons.mpr ⟨lw_p56, List.forall_mem_cons.mpr ⟨lw_p57, List.forall_mem_cons.mpr ⟨lw_p58, List.forall_mem_cons.mpr ⟨lw_p59, List.forall_mem_cons.mpr ⟨lw_p60, List.forall_mem_cons.mpr ⟨lw_p61, List.forall_mem_cons.mpr ⟨lw_p62, List.forall_mem_cons.mpr ⟨lw_p63, fun _ h => absurd h List.not_mem_nil⟩⟩⟩⟩⟩⟩⟩⟩⟩⟩⟩⟩⟩⟩⟩⟩
theorem lw_p64 : lw_okq (⟨"GiftDuelModel", "reckon", "(IJJ)J"⟩, 73) := ⟨⟨by decide +kernel, by decide +kernel⟩, List.mem_of_getElem? (i := 1244) (by decide +kernel), List.mem_of_getElem? (i := 1572) (by decide +kernel), List.mem_of_getElem? (i := 1573) (by decide +kernel)⟩
theorem lw_p65 : lw_okq (⟨"GiftDuelModel", "was", "(I)I"⟩, 73) := ⟨⟨by decide +kernel, by decide +kernel⟩, List.mem_of_getElem? (i := 1244) (by decide +kernel), List.mem_of_getElem? (i := 1585) (by decide +kernel), List.mem_of_getElem? (i := 1586) (by decide +kernel)⟩
theorem lw_p66 : lw_okq (⟨"GiftDuelModel", "good1", "(III)I"⟩, 73) := ⟨⟨by decide +kernel, by decide +kernel⟩, List.mem_of_getElem? (i := 1244) (by decide +kernel), List.mem_of_getElem? (i := 1593) (by decide +kernel), List.mem_of_getElem? (i := 1594) (by decide +kernel)⟩
theorem lw_p67 : lw_okq (⟨"GiftDuelModel", "four", "(I)V"⟩, 73) := ⟨⟨by decide +kernel, by decide +kernel⟩, List.mem_of_getElem? (i := 1244) (by decide +kernel), List.mem_of_getElem? (i := 1622) (by decide +kernel), List.mem_of_getElem? (i := 1623) (by decide +kernel)⟩
theorem lw_p68 : lw_okq (⟨"GiftDuelModel", "beginText", "(Z)V"⟩, 73) := ⟨⟨by decide +kernel, by decide +kernel⟩, List.mem_of_getElem? (i := 1244) (by decide +kernel), List.mem_of_getElem? (i := 1638) (by decide +kernel), List.mem_of_getElem? (i := 1639) (by decide +kernel)⟩
theorem lw_p69 : lw_okq (⟨"GiftDuelModel", "begin", "()V"⟩, 73) := ⟨⟨by decide +kernel, by decide +kernel⟩, List.mem_of_getElem? (i := 1244) (by decide +kernel), List.mem_of_getElem? (i := 1642) (by decide +kernel), List.mem_of_getElem? (i := 1643) (by decide +kernel)⟩
theorem lw_p70 : lw_okq (⟨"GiftDuelModel", "next", "()V"⟩, 73) := ⟨⟨by decide +kernel, by decide +kernel⟩, List.mem_of_getElem? (i := 1244) (by decide +kernel), List.mem_of_getElem? (i := 1646) (by decide +kernel), List.mem_of_getElem? (i := 1647) (by decide +kernel)⟩
theorem lw_p71 : lw_okq (⟨"GiftDuelModel", "readLaw", "()V"⟩, 73) := ⟨⟨by decide +kernel, by decide +kernel⟩, List.mem_of_getElem? (i := 1244) (by decide +kernel), List.mem_of_getElem? (i := 1661) (by decide +kernel), List.mem_of_getElem? (i := 1662) (by decide +kernel)⟩
theorem lw_p72 : lw_okq (⟨"GiftDuelModel", "isWord", "(J)Z"⟩, 73) := ⟨⟨by decide +kernel, by decide +kernel⟩, List.mem_of_getElem? (i := 1244) (by decide +kernel), List.mem_of_getElem? (i := 1666) (by decide +kernel), List.mem_of_getElem? (i := 1667) (by decide +kernel)⟩
theorem lw_p73 : lw_okq (⟨"GiftDuelModel", "must", "(Z)V"⟩, 73) := ⟨⟨by decide +kernel, by decide +kernel⟩, List.mem_of_getElem? (i := 1244) (by decide +kernel), List.mem_of_getElem? (i := 1672) (by decide +kernel), List.mem_of_getElem? (i := 1673) (by decide +kernel)⟩
theorem lw_p74 : lw_okq (⟨"GiftDuelModel", "readExpression", "(Z)V"⟩, 73) := ⟨⟨by decide +kernel, by decide +kernel⟩, List.mem_of_getElem? (i := 1244) (by decide +kernel), List.mem_of_getElem? (i := 1676) (by decide +kernel), List.mem_of_getElem? (i := 1677) (by decide +kernel)⟩
theorem lw_p75 : lw_okq (⟨"GiftDuelModel", "readPlain", "()I"⟩, 73) := ⟨⟨by decide +kernel, by decide +kernel⟩, List.mem_of_getElem? (i := 1244) (by decide +kernel), List.mem_of_getElem? (i := 1680) (by decide +kernel), List.mem_of_getElem? (i := 1681) (by decide +kernel)⟩
theorem lw_p76 : lw_okq (⟨"GiftDuelModel", "push", "(II)V"⟩, 73) := ⟨⟨by decide +kernel, by decide +kernel⟩, List.mem_of_getElem? (i := 1244) (by decide +kernel), List.mem_of_getElem? (i := 1685) (by decide +kernel), List.mem_of_getElem? (i := 1686) (by decide +kernel)⟩
theorem lw_p77 : lw_okq (⟨"GiftDuelModel", "isSign", "(I)Z"⟩, 73) := ⟨⟨by decide +kernel, by decide +kernel⟩, List.mem_of_getElem? (i := 1244) (by decide +kernel), List.mem_of_getElem? (i := 1689) (by decide +kernel), List.mem_of_getElem? (i := 1690) (by decide +kernel)⟩
theorem lw_p78 : lw_okq (⟨"GiftDuelModel", "openBracket", "(I)V"⟩, 73) := ⟨⟨by decide +kernel, by decide +kernel⟩, List.mem_of_getElem? (i := 1244) (by decide +kernel), List.mem_of_getElem? (i := 1693) (by decide +kernel), List.mem_of_getElem? (i := 1694) (by decide +kernel)⟩
theorem lw_p79 : lw_okq (⟨"GiftDuelModel", "readPart", "()I"⟩, 73) := ⟨⟨by decide +kernel, by decide +kernel⟩, List.mem_of_getElem? (i := 1244) (by decide +kernel), List.mem_of_getElem? (i := 1697) (by decide +kernel), List.mem_of_getElem? (i := 1698) (by decide +kernel)⟩
def lw_privs_5 : List (MethodName × Nat) := [(⟨"GiftDuelModel", "reckon", "(IJJ)J"⟩, 73), (⟨"GiftDuelModel", "was", "(I)I"⟩, 73), (⟨"GiftDuelModel", "good1", "(III)I"⟩, 73), (⟨"GiftDuelModel", "four", "(I)V"⟩, 73), (⟨"GiftDuelModel", "beginText", "(Z)V"⟩, 73), (⟨"GiftDuelModel", "begin", "()V"⟩, 73), (⟨"GiftDuelModel", "next", "()V"⟩, 73), (⟨"GiftDuelModel", "readLaw", "()V"⟩, 73), (⟨"GiftDuelModel", "isWord", "(J)Z"⟩, 73), (⟨"GiftDuelModel", "must", "(Z)V"⟩, 73), (⟨"GiftDuelModel", "readExpression", "(Z)V"⟩, 73), (⟨"GiftDuelModel", "readPlain", "()I"⟩, 73), (⟨"GiftDuelModel", "push", "(II)V"⟩, 73), (⟨"GiftDuelModel", "isSign", "(I)Z"⟩, 73), (⟨"GiftDuelModel", "openBracket", "(I)V"⟩, 73), (⟨"GiftDuelModel", "readPart", "()I"⟩, 73)]
theorem lw_r5 : ∀ q ∈ lw_privs_5, lw_okq q := List.forall_mem_cons.mpr ⟨lw_p64, List.forall_mem_cons.mpr ⟨lw_p65, List.forall_mem_cons.mpr ⟨lw_p66, List.forall_mem_cons.mpr ⟨lw_p67, List.forall_mem_cons.mpr ⟨lw_p68, List.forall_mem_cons.mpr ⟨lw_p69, List.forall_mem_cons.mpr ⟨lw_p70, List.forall_mem_cons.mpr ⟨lw_p71, List.forall_mem_cons.mpr ⟨lw_p72, List.forall_mem_cons.mpr ⟨lw_p73, List.forall_mem_cons.mpr ⟨lw_p74, List.forall_mem_cons.mpr ⟨lw_p75, List.forall_mem_cons.mpr ⟨lw_p76, List.forall_mem_cons.mpr ⟨lw_p77, List.forall_mem_cons.mpr ⟨lw_p78, List.forall_mem_cons.mpr ⟨lw_p79, fun _ h => absurd h List.not_mem_nil⟩⟩⟩⟩⟩⟩⟩⟩⟩⟩⟩⟩⟩⟩⟩⟩
theorem lw_p80 : lw_okq (⟨"GiftDuelModel", "orderPartAt", "()I"⟩, 73) := ⟨⟨by decide +kernel, by decide +kernel⟩, List.mem_of_getElem? (i := 1244) (by decide +kernel), List.mem_of_getElem? (i := 1701) (by decide +kernel), List.mem_of_getElem? (i := 1702) (by decide +kernel)⟩
theorem lw_p81 : lw_okq (⟨"GiftDuelModel", "partAt", "()I"⟩, 73) := ⟨⟨by decide +kernel, by decide +kernel⟩, List.mem_of_getElem? (i := 1244) (by decide +kernel), List.mem_of_getElem? (i := 1705) (by decide +kernel), List.mem_of_getElem? (i := 1706) (by decide +kernel)⟩
theorem lw_p82 : lw_okq (⟨"GiftDuelModel", "leaf", "(ZII)V"⟩, 73) := ⟨⟨by decide +kernel, by decide +kernel⟩, List.mem_of_getElem? (i := 1244) (by decide +kernel), List.mem_of_getElem? (i := 1710) (by decide +kernel), List.mem_of_getElem? (i := 1711) (by decide +kernel)⟩
theorem lw_p83 : lw_okq (⟨"GiftDuelModel", "emit", "(II)V"⟩, 73) := ⟨⟨by decide +kernel, by decide +kernel⟩, List.mem_of_getElem? (i := 1244) (by decide +kernel), List.mem_of_getElem? (i := 1714) (by decide +kernel), List.mem_of_getElem? (i := 1715) (by decide +kernel)⟩
theorem lw_p84 : lw_okq (⟨"GiftDuelModel", "number", "(JJ)I"⟩, 73) := ⟨⟨by decide +kernel, by decide +kernel⟩, List.mem_of_getElem? (i := 1244) (by decide +kernel), List.mem_of_getElem? (i := 1719) (by decide +kernel), List.mem_of_getElem? (i := 1720) (by decide +kernel)⟩
theorem lw_p85 : lw_okq (⟨"GiftDuelModel", "behindSum", "(Z)I"⟩, 73) := ⟨⟨by decide +kernel, by decide +kernel⟩, List.mem_of_getElem? (i := 1244) (by decide +kernel), List.mem_of_getElem? (i := 1723) (by decide +kernel), List.mem_of_getElem? (i := 1724) (by decide +kernel)⟩
theorem lw_p86 : lw_okq (⟨"GiftDuelModel", "settle", "(I)V"⟩, 73) := ⟨⟨by decide +kernel, by decide +kernel⟩, List.mem_of_getElem? (i := 1244) (by decide +kernel), List.mem_of_getElem? (i := 1730) (by decide +kernel), List.mem_of_getElem? (i := 1731) (by decide +kernel)⟩
theorem lw_p87 : lw_okq (⟨"GiftDuelModel", "inner", "()I"⟩, 73) := ⟨⟨by decide +kernel, by decide +kernel⟩, List.mem_of_getElem? (i := 1244) (by decide +kernel), List.mem_of_getElem? (i := 1734) (by decide +kernel), List.mem_of_getElem? (i := 1735) (by decide +kernel)⟩
theorem lw_p88 : lw_okq (⟨"GiftDuelModel", "isCompared", "()Z"⟩, 73) := ⟨⟨by decide +kernel, by decide +kernel⟩, List.mem_of_getElem? (i := 1244) (by decide +kernel), List.mem_of_getElem? (i := 1738) (by decide +kernel), List.mem_of_getElem? (i := 1739) (by decide +kernel)⟩
theorem lw_p89 : lw_okq (⟨"GiftDuelModel", "behindTest", "()I"⟩, 73) := ⟨⟨by decide +kernel, by decide +kernel⟩, List.mem_of_getElem? (i := 1244) (by decide +kernel), List.mem_of_getElem? (i := 1745) (by decide +kernel), List.mem_of_getElem? (i := 1746) (by decide +kernel)⟩
theorem lw_p90 : lw_okq (⟨"GiftDuelModel", "endText", "()V"⟩, 73) := ⟨⟨by decide +kernel, by decide +kernel⟩, List.mem_of_getElem? (i := 1244) (by decide +kernel), List.mem_of_getElem? (i := 1752) (by decide +kernel), List.mem_of_getElem? (i := 1753) (by decide +kernel)⟩
theorem lw_p91 : lw_okq (⟨"GiftDuelModel", "worthOf", "(III)I"⟩, 73) := ⟨⟨by decide +kernel, by decide +kernel⟩, List.mem_of_getElem? (i := 1244) (by decide +kernel), List.mem_of_getElem? (i := 1765) (by decide +kernel), List.mem_of_getElem? (i := 1766) (by decide +kernel)⟩
theorem lw_p92 : lw_okq (⟨"GiftDuelModel", "isBarred", "(III)Z"⟩, 73) := ⟨⟨by decide +kernel, by decide +kernel⟩, List.mem_of_getElem? (i := 1244) (by decide +kernel), List.mem_of_getElem? (i := 1769) (by decide +kernel), List.mem_of_getElem? (i := 1770) (by decide +kernel)⟩
theorem lw_p93 : lw_okq (⟨"GiftDuelModel", "giveNow", "(II)I"⟩, 73) := ⟨⟨by decide +kernel, by decide +kernel⟩, List.mem_of_getElem? (i := 1244) (by decide +kernel), List.mem_of_getElem? (i := 1777) (by decide +kernel), List.mem_of_getElem? (i := 1778) (by decide +kernel)⟩
theorem lw_p94 : lw_okq (⟨"GiftDuelModel", "keepRow", "(I)V"⟩, 73) := ⟨⟨by decide +kernel, by decide +kernel⟩, List.mem_of_getElem? (i := 1244) (by decide +kernel), List.mem_of_getElem? (i := 1781) (by decide +kernel), List.mem_of_getElem? (i := 1782) (by decide +kernel)⟩
theorem lw_p95 : lw_okq (⟨"GiftDuelModel", "gift", "(II)I"⟩, 73) := ⟨⟨by decide +kernel, by decide +kernel⟩, List.mem_of_getElem? (i := 1244) (by decide +kernel), List.mem_of_getElem? (i := 1785) (by decide +kernel), List.mem_of_getElem? (i := 1786) (by decide +kernel)⟩
def lw_privs_6 : List (MethodName × Nat) := [(⟨"GiftDuelModel", "orderPartAt", "()I"⟩, 73), (⟨"GiftDuelModel", "partAt", "()I"⟩, 73), (⟨"GiftDuelModel", "leaf", "(ZII)V"⟩, 73), (⟨"GiftDuelModel", "emit", "(II)V"⟩, 73), (⟨"GiftDuelModel", "number", "(JJ)I"⟩, 73), (⟨"GiftDuelModel", "behindSum", "(Z)I"⟩, 73), (⟨"GiftDuelModel", "settle", "(I)V"⟩, 73), (⟨"GiftDuelModel", "inner", "()I"⟩, 73), (⟨"GiftDuelModel", "isCompared", "()Z"⟩, 73), (⟨"GiftDuelModel", "behindTest", "()I"⟩, 73), (⟨"GiftDuelModel", "endText", "()V"⟩, 73), (⟨"GiftDuelModel", "worthOf", "(III)I"⟩, 73), (⟨"GiftDuelModel", "isBarred", "(III)Z"⟩, 73), (⟨"GiftDuelModel", "giveNow", "(II)I"⟩, 73), (⟨"GiftDuelModel", "keepRow", "(I)V"⟩, 73), (⟨"GiftDuelModel", "gift", "(II)I"⟩, 73)]
theorem lw_r6 : ∀ q ∈ lw_privs_6, lw_okq q := List.forall_mem_cons.mpr ⟨lw_p80, List.forall_mem_cons.mpr ⟨lw_p81, List.forall_mem_cons.mpr ⟨lw_p82, List.forall_mem_cons.mpr ⟨lw_p83, List.forall_mem_cons.mpr ⟨lw_p84, List.forall_mem_cons.mpr ⟨lw_p85, List.forall_mem_cons.mpr ⟨lw_p86, List.forall_mem_cons.mpr ⟨lw_p87, List.forall_mem_cons.mpr ⟨lw_p88, List.forall_mem_cons.mpr ⟨lw_p89, List.forall_mem_cons.mpr ⟨lw_p90, List.forall_mem_cons.mpr ⟨lw_p91, List.forall_mem_cons.mpr ⟨lw_p92, List.forall_mem_cons.mpr ⟨lw_p93, List.forall_mem_cons.mpr ⟨lw_p94, List.forall_mem_cons.mpr ⟨lw_p95, fun _ h => absurd h List.not_mem_nil⟩⟩⟩⟩⟩⟩⟩⟩⟩⟩⟩⟩⟩⟩⟩⟩
theorem lw_p96 : lw_okq (⟨"GiftDuelModel", "remember", "(I)V"⟩, 73) := ⟨⟨by decide +kernel, by decide +kernel⟩, List.mem_of_getElem? (i := 1244) (by decide +kernel), List.mem_of_getElem? (i := 1789) (by decide +kernel), List.mem_of_getElem? (i := 1790) (by decide +kernel)⟩
theorem lw_p97 : lw_okq (⟨"GiftDuelModel", "putBack", "(I)V"⟩, 73) := ⟨⟨by decide +kernel, by decide +kernel⟩, List.mem_of_getElem? (i := 1244) (by decide +kernel), List.mem_of_getElem? (i := 1793) (by decide +kernel), List.mem_of_getElem? (i := 1794) (by decide +kernel)⟩
theorem lw_p98 : lw_okq (⟨"GiftDuelModel", "waitNow", "()I"⟩, 73) := ⟨⟨by decide +kernel, by decide +kernel⟩, List.mem_of_getElem? (i := 1244) (by decide +kernel), List.mem_of_getElem? (i := 1801) (by decide +kernel), List.mem_of_getElem? (i := 1802) (by decide +kernel)⟩
theorem lw_p99 : lw_okq (⟨"GiftDuelModel", "wait1", "()I"⟩, 73) := ⟨⟨by decide +kernel, by decide +kernel⟩, List.mem_of_getElem? (i := 1244) (by decide +kernel), List.mem_of_getElem? (i := 1805) (by decide +kernel), List.mem_of_getElem? (i := 1806) (by decide +kernel)⟩
theorem lw_p100 : lw_okq (⟨"GiftDuelModel", "undoRow", "(I)V"⟩, 73) := ⟨⟨by decide +kernel, by decide +kernel⟩, List.mem_of_getElem? (i := 1244) (by decide +kernel), List.mem_of_getElem? (i := 1816) (by decide +kernel), List.mem_of_getElem? (i := 1817) (by decide +kernel)⟩
theorem lw_p101 : lw_okq (⟨"GiftDuelModel", "layGoods", "(III)V"⟩, 73) := ⟨⟨by decide +kernel, by decide +kernel⟩, List.mem_of_getElem? (i := 1244) (by decide +kernel), List.mem_of_getElem? (i := 1832) (by decide +kernel), List.mem_of_getElem? (i := 1833) (by decide +kernel)⟩
theorem lw_p102 : lw_okq (⟨"GiftDuelModel", "findWins", "()V"⟩, 73) := ⟨⟨by decide +kernel, by decide +kernel⟩, List.mem_of_getElem? (i := 1244) (by decide +kernel), List.mem_of_getElem? (i := 1836) (by decide +kernel), List.mem_of_getElem? (i := 1837) (by decide +kernel)⟩
theorem lw_p103 : lw_okq (⟨"GiftDuelModel", "lastOf", "(I)I"⟩, 73) := ⟨⟨by decide +kernel, by decide +kernel⟩, List.mem_of_getElem? (i := 1244) (by decide +kernel), List.mem_of_getElem? (i := 1840) (by decide +kernel), List.mem_of_getElem? (i := 1841) (by decide +kernel)⟩
theorem lw_p104 : lw_okq (⟨"GiftDuelModel", "canGive", "(IIII)Z"⟩, 73) := ⟨⟨by decide +kernel, by decide +kernel⟩, List.mem_of_getElem? (i := 1244) (by decide +kernel), List.mem_of_getElem? (i := 1844) (by decide +kernel), List.mem_of_getElem? (i := 1845) (by decide +kernel)⟩
theorem lw_p105 : lw_okq (⟨"GiftDuelModel", "isWon", "(III)Z"⟩, 73) := ⟨⟨by decide +kernel, by decide +kernel⟩, List.mem_of_getElem? (i := 1244) (by decide +kernel), List.mem_of_getElem? (i := 1848) (by decide +kernel), List.mem_of_getElem? (i := 1849) (by decide +kernel)⟩
theorem lw_p106 : lw_okq (⟨"GiftDuelModel", "grainLeft", "(II)I"⟩, 73) := ⟨⟨by decide +kernel, by decide +kernel⟩, List.mem_of_getElem? (i := 1244) (by decide +kernel), List.mem_of_getElem? (i := 1852) (by decide +kernel), List.mem_of_getElem? (i := 1853) (by decide +kernel)⟩
theorem lw_p107 : lw_okq (⟨"GiftDuelModel", "playOf", "()I"⟩, 73) := ⟨⟨by decide +kernel, by decide +kernel⟩, List.mem_of_getElem? (i := 1244) (by decide +kernel), List.mem_of_getElem? (i := 1856) (by decide +kernel), List.mem_of_getElem? (i := 1857) (by decide +kernel)⟩
theorem lw_p108 : lw_okq (⟨"GiftDuelModel", "layYears", "(II)V"⟩, 73) := ⟨⟨by decide +kernel, by decide +kernel⟩, List.mem_of_getElem? (i := 1244) (by decide +kernel), List.mem_of_getElem? (i := 1864) (by decide +kernel), List.mem_of_getElem? (i := 1865) (by decide +kernel)⟩
theorem lw_p109 : lw_okq (⟨"GiftDuelModel", "ruinedIn", "(III)I"⟩, 73) := ⟨⟨by decide +kernel, by decide +kernel⟩, List.mem_of_getElem? (i := 1244) (by decide +kernel), List.mem_of_getElem? (i := 1868) (by decide +kernel), List.mem_of_getElem? (i := 1869) (by decide +kernel)⟩
theorem lw_p110 : lw_okq (⟨"GiftDuelModel", "middle", "(III)I"⟩, 73) := ⟨⟨by decide +kernel, by decide +kernel⟩, List.mem_of_getElem? (i := 1244) (by decide +kernel), List.mem_of_getElem? (i := 1888) (by decide +kernel), List.mem_of_getElem? (i := 1889) (by decide +kernel)⟩
theorem lw_p111 : lw_okq (⟨"GiftDuelModel", "toldBy", "(II)I"⟩, 73) := ⟨⟨by decide +kernel, by decide +kernel⟩, List.mem_of_getElem? (i := 1244) (by decide +kernel), List.mem_of_getElem? (i := 1892) (by decide +kernel), List.mem_of_getElem? (i := 1893) (by decide +kernel)⟩
def lw_privs_7 : List (MethodName × Nat) := [(⟨"GiftDuelModel", "remember", "(I)V"⟩, 73), (⟨"GiftDuelModel", "putBack", "(I)V"⟩, 73), (⟨"GiftDuelModel", "waitNow", "()I"⟩, 73), (⟨"GiftDuelModel", "wait1", "()I"⟩, 73), (⟨"GiftDuelModel", "undoRow", "(I)V"⟩, 73), (⟨"GiftDuelModel", "layGoods", "(III)V"⟩, 73), (⟨"GiftDuelModel", "findWins", "()V"⟩, 73), (⟨"GiftDuelModel", "lastOf", "(I)I"⟩, 73), (⟨"GiftDuelModel", "canGive", "(IIII)Z"⟩, 73), (⟨"GiftDuelModel", "isWon", "(III)Z"⟩, 73), (⟨"GiftDuelModel", "grainLeft", "(II)I"⟩, 73), (⟨"GiftDuelModel", "playOf", "()I"⟩, 73), (⟨"GiftDuelModel", "layYears", "(II)V"⟩, 73), (⟨"GiftDuelModel", "ruinedIn", "(III)I"⟩, 73), (⟨"GiftDuelModel", "middle", "(III)I"⟩, 73), (⟨"GiftDuelModel", "toldBy", "(II)I"⟩, 73)]
theorem lw_r7 : ∀ q ∈ lw_privs_7, lw_okq q := List.forall_mem_cons.mpr ⟨lw_p96, List.forall_mem_cons.mpr ⟨lw_p97, List.forall_mem_cons.mpr ⟨lw_p98, List.forall_mem_cons.mpr ⟨lw_p99, List.forall_mem_cons.mpr ⟨lw_p100, List.forall_mem_cons.mpr ⟨lw_p101, List.forall_mem_cons.mpr ⟨lw_p102, List.forall_mem_cons.mpr ⟨lw_p103, List.forall_mem_cons.mpr ⟨lw_p104, List.forall_mem_cons.mpr ⟨lw_p105, List.forall_mem_cons.mpr ⟨lw_p106, List.forall_mem_cons.mpr ⟨lw_p107, List.forall_mem_cons.mpr ⟨lw_p108, List.forall_mem_cons.mpr ⟨lw_p109, List.forall_mem_cons.mpr ⟨lw_p110, List.forall_mem_cons.mpr ⟨lw_p111, fun _ h => absurd h List.not_mem_nil⟩⟩⟩⟩⟩⟩⟩⟩⟩⟩⟩⟩⟩⟩⟩⟩
theorem lw_p112 : lw_okq (⟨"GiftDuelModel", "findWay", "(II)V"⟩, 73) := ⟨⟨by decide +kernel, by decide +kernel⟩, List.mem_of_getElem? (i := 1244) (by decide +kernel), List.mem_of_getElem? (i := 1910) (by decide +kernel), List.mem_of_getElem? (i := 1911) (by decide +kernel)⟩
theorem lw_p113 : lw_okq (⟨"GiftDuelModel", "weighWay", "(I)V"⟩, 73) := ⟨⟨by decide +kernel, by decide +kernel⟩, List.mem_of_getElem? (i := 1244) (by decide +kernel), List.mem_of_getElem? (i := 1914) (by decide +kernel), List.mem_of_getElem? (i := 1915) (by decide +kernel)⟩
theorem lw_p114 : lw_okq (⟨"GiftDuelModel", "isAhead", "(I)Z"⟩, 73) := ⟨⟨by decide +kernel, by decide +kernel⟩, List.mem_of_getElem? (i := 1244) (by decide +kernel), List.mem_of_getElem? (i := 1920) (by decide +kernel), List.mem_of_getElem? (i := 1921) (by decide +kernel)⟩
theorem lw_p115 : lw_okq (⟨"GiftDuelModel", "goesOn", "(II)Z"⟩, 73) := ⟨⟨by decide +kernel, by decide +kernel⟩, List.mem_of_getElem? (i := 1244) (by decide +kernel), List.mem_of_getElem? (i := 1924) (by decide +kernel), List.mem_of_getElem? (i := 1925) (by decide +kernel)⟩
theorem lw_p116 : lw_okq (⟨"GiftDuelModel", "findRing", "()V"⟩, 73) := ⟨⟨by decide +kernel, by decide +kernel⟩, List.mem_of_getElem? (i := 1244) (by decide +kernel), List.mem_of_getElem? (i := 1932) (by decide +kernel), List.mem_of_getElem? (i := 1933) (by decide +kernel)⟩
theorem lw_p117 : lw_okq (⟨"GiftDuelModel", "isFresh", "(I)Z"⟩, 73) := ⟨⟨by decide +kernel, by decide +kernel⟩, List.mem_of_getElem? (i := 1244) (by decide +kernel), List.mem_of_getElem? (i := 1936) (by decide +kernel), List.mem_of_getElem? (i := 1937) (by decide +kernel)⟩
theorem lw_p118 : lw_okq (⟨"GiftDuelModel", "weighRing", "(I)V"⟩, 73) := ⟨⟨by decide +kernel, by decide +kernel⟩, List.mem_of_getElem? (i := 1244) (by decide +kernel), List.mem_of_getElem? (i := 1940) (by decide +kernel), List.mem_of_getElem? (i := 1941) (by decide +kernel)⟩
theorem lw_p119 : lw_okq (⟨"GiftDuelModel", "findGifts", "(I)V"⟩, 73) := ⟨⟨by decide +kernel, by decide +kernel⟩, List.mem_of_getElem? (i := 1244) (by decide +kernel), List.mem_of_getElem? (i := 1952) (by decide +kernel), List.mem_of_getElem? (i := 1953) (by decide +kernel)⟩
theorem lw_p120 : lw_okq (⟨"GiftDuelModel", "isTold", "()Z"⟩, 73) := ⟨⟨by decide +kernel, by decide +kernel⟩, List.mem_of_getElem? (i := 1244) (by decide +kernel), List.mem_of_getElem? (i := 1956) (by decide +kernel), List.mem_of_getElem? (i := 1957) (by decide +kernel)⟩
theorem lw_p121 : lw_okq (⟨"GiftDuelModel", "keepGifts", "(I)V"⟩, 73) := ⟨⟨by decide +kernel, by decide +kernel⟩, List.mem_of_getElem? (i := 1244) (by decide +kernel), List.mem_of_getElem? (i := 1960) (by decide +kernel), List.mem_of_getElem? (i := 1961) (by decide +kernel)⟩
theorem lw_p122 : lw_okq (⟨"GiftDuelModel", "canBe", "(I)Z"⟩, 73) := ⟨⟨by decide +kernel, by decide +kernel⟩, List.mem_of_getElem? (i := 1244) (by decide +kernel), List.mem_of_getElem? (i := 1964) (by decide +kernel), List.mem_of_getElem? (i := 1965) (by decide +kernel)⟩
theorem lw_p123 : lw_okq (⟨"GiftDuelModel", "readOrder", "()V"⟩, 73) := ⟨⟨by decide +kernel, by decide +kernel⟩, List.mem_of_getElem? (i := 1244) (by decide +kernel), List.mem_of_getElem? (i := 1976) (by decide +kernel), List.mem_of_getElem? (i := 1977) (by decide +kernel)⟩
theorem lw_p124 : lw_okq (⟨"GiftDuelModel", "readSum", "(I)V"⟩, 73) := ⟨⟨by decide +kernel, by decide +kernel⟩, List.mem_of_getElem? (i := 1244) (by decide +kernel), List.mem_of_getElem? (i := 1982) (by decide +kernel), List.mem_of_getElem? (i := 1983) (by decide +kernel)⟩
theorem lw_p125 : lw_okq (⟨"GiftDuelModel", "run", "(I)I"⟩, 73) := ⟨⟨by decide +kernel, by decide +kernel⟩, List.mem_of_getElem? (i := 1244) (by decide +kernel), List.mem_of_getElem? (i := 1987) (by decide +kernel), List.mem_of_getElem? (i := 1988) (by decide +kernel)⟩
theorem lw_p126 : lw_okq (⟨"GiftDuelModel", "sumOf", "(I)J"⟩, 73) := ⟨⟨by decide +kernel, by decide +kernel⟩, List.mem_of_getElem? (i := 1244) (by decide +kernel), List.mem_of_getElem? (i := 1991) (by decide +kernel), List.mem_of_getElem? (i := 1992) (by decide +kernel)⟩
theorem lw_p127 : lw_okq (⟨"GiftDuelModel", "draw", "(I)I"⟩, 73) := ⟨⟨by decide +kernel, by decide +kernel⟩, List.mem_of_getElem? (i := 1244) (by decide +kernel), List.mem_of_getElem? (i := 2004) (by decide +kernel), List.mem_of_getElem? (i := 2005) (by decide +kernel)⟩
def lw_privs_8 : List (MethodName × Nat) := [(⟨"GiftDuelModel", "findWay", "(II)V"⟩, 73), (⟨"GiftDuelModel", "weighWay", "(I)V"⟩, 73), (⟨"GiftDuelModel", "isAhead", "(I)Z"⟩, 73), (⟨"GiftDuelModel", "goesOn", "(II)Z"⟩, 73), (⟨"GiftDuelModel", "findRing", "()V"⟩, 73), (⟨"GiftDuelModel", "isFresh", "(I)Z"⟩, 73), (⟨"GiftDuelModel", "weighRing", "(I)V"⟩, 73), (⟨"GiftDuelModel", "findGifts", "(I)V"⟩, 73), (⟨"GiftDuelModel", "isTold", "()Z"⟩, 73), (⟨"GiftDuelModel", "keepGifts", "(I)V"⟩, 73), (⟨"GiftDuelModel", "canBe", "(I)Z"⟩, 73), (⟨"GiftDuelModel", "readOrder", "()V"⟩, 73), (⟨"GiftDuelModel", "readSum", "(I)V"⟩, 73), (⟨"GiftDuelModel", "run", "(I)I"⟩, 73), (⟨"GiftDuelModel", "sumOf", "(I)J"⟩, 73), (⟨"GiftDuelModel", "draw", "(I)I"⟩, 73)]
theorem lw_r8 : ∀ q ∈ lw_privs_8, lw_okq q := List.forall_mem_cons.mpr ⟨lw_p112, List.forall_mem_cons.mpr ⟨lw_p113, List.forall_mem_cons.mpr ⟨lw_p114, List.forall_mem_cons.mpr ⟨lw_p115, List.forall_mem_cons.mpr ⟨lw_p116, List.forall_mem_cons.mpr ⟨lw_p117, List.forall_mem_cons.mpr ⟨lw_p118, List.forall_mem_cons.mpr ⟨lw_p119, List.forall_mem_cons.mpr ⟨lw_p120, List.forall_mem_cons.mpr ⟨lw_p121, List.forall_mem_cons.mpr ⟨lw_p122, List.forall_mem_cons.mpr ⟨lw_p123, List.forall_mem_cons.mpr ⟨lw_p124, List.forall_mem_cons.mpr ⟨lw_p125, List.forall_mem_cons.mpr ⟨lw_p126, List.forall_mem_cons.mpr ⟨lw_p127, fun _ h => absurd h List.not_mem_nil⟩⟩⟩⟩⟩⟩⟩⟩⟩⟩⟩⟩⟩⟩⟩⟩
theorem lw_p128 : lw_okq (⟨"GiftDuelModel", "allDebts", "()I"⟩, 73) := ⟨⟨by decide +kernel, by decide +kernel⟩, List.mem_of_getElem? (i := 1244) (by decide +kernel), List.mem_of_getElem? (i := 2020) (by decide +kernel), List.mem_of_getElem? (i := 2021) (by decide +kernel)⟩
def lw_privs_9 : List (MethodName × Nat) := [(⟨"GiftDuelModel", "allDebts", "()I"⟩, 73)]
theorem lw_r9 : ∀ q ∈ lw_privs_9, lw_okq q := List.forall_mem_cons.mpr ⟨lw_p128, fun _ h => absurd h List.not_mem_nil⟩
def lw_privs : List (MethodName × Nat) := lw_privs_1 ++ (lw_privs_2 ++ (lw_privs_3 ++ (lw_privs_4 ++ (lw_privs_5 ++ (lw_privs_6 ++ (lw_privs_7 ++ (lw_privs_8 ++ (lw_privs_9))))))))
def lw_tbl : List Cond := k2_sels lw_privs ++ tables_1
theorem lw_privs_ok : ∀ q ∈ lw_privs, lw_okq q := by
  show ∀ q ∈ lw_privs_1 ++ (lw_privs_2 ++ (lw_privs_3 ++ (lw_privs_4 ++ (lw_privs_5 ++ (lw_privs_6 ++ (lw_privs_7 ++ (lw_privs_8 ++ (lw_privs_9)))))))), lw_okq q
  exact List.forall_mem_append.mpr ⟨lw_r1, List.forall_mem_append.mpr ⟨lw_r2, List.forall_mem_append.mpr ⟨lw_r3, List.forall_mem_append.mpr ⟨lw_r4, List.forall_mem_append.mpr ⟨lw_r5, List.forall_mem_append.mpr ⟨lw_r6, List.forall_mem_append.mpr ⟨lw_r7, List.forall_mem_append.mpr ⟨lw_r8, lw_r9⟩⟩⟩⟩⟩⟩⟩⟩
-- ===== end of PART A; then your names; then what follows =====
def RX0 : String := "GiftDuel$Deeds"
def TX0 : u_T := fun k => match k with
  | 0 => ("GiftDuel$Deeds", "judge", "LGiftDuel$Judge;", true)
  | 1 => ("GiftDuel$Deeds", "paper", "LGiftDuel$World;", true)
  | _ => ("GiftDuel$Deeds", "seed", "J", false)
def tyX0 : Nat → FieldType := fun k => match k with
  | 0 => .object "GiftDuel$Judge"
  | 1 => .object "GiftDuel$World"
  | _ => .long
abbrev wsX00 : List Cond := u_ws RX0 TX0 3
theorem nmX0 : ∀ a, a < 3 → ∀ b, b < 3 → a ≠ b → (TX0 a).2.1 ≠ (TX0 b).2.1 := by decide +kernel
theorem tyX0_ok : ∀ k, k < 3 → parseFieldDescriptor (TX0 k).2.2.1 = some (tyX0 k) := by decide +kernel
abbrev cX0_init : ByteArray := prog_2_method_1_code
def yX0_init : MethodName := ⟨RX0, "<init>", "(LGiftDuel$Judge;)V"⟩
abbrev cX0_mayGive : ByteArray := prog_2_method_2_code
def yX0_mayGive : MethodName := ⟨RX0, "mayGive", "(LGiftDuel$World;II)Z"⟩
abbrev cX0_hand : ByteArray := prog_2_method_3_code
def yX0_hand : MethodName := ⟨RX0, "hand", "(LGiftDuel$World;II)I"⟩
abbrev cX0_challenge : ByteArray := prog_2_method_4_code
def yX0_challenge : MethodName := ⟨RX0, "challenge", "(LGiftDuel$World;III)V"⟩
abbrev cX0_passYear : ByteArray := prog_2_method_5_code
def yX0_passYear : MethodName := ⟨RX0, "passYear", "(LGiftDuel$World;I)I"⟩
abbrev cX0_dropAllOf : ByteArray := prog_2_method_6_code
def yX0_dropAllOf : MethodName := ⟨RX0, "dropAllOf", "(LGiftDuel$World;I)V"⟩
abbrev cX0_loseOld : ByteArray := prog_2_method_7_code
def yX0_loseOld : MethodName := ⟨RX0, "loseOld", "(LGiftDuel$World;I)V"⟩
abbrev cX0_latestDrawn : ByteArray := prog_2_method_8_code
def yX0_latestDrawn : MethodName := ⟨RX0, "latestDrawn", "()LGiftDuel$World;"⟩
abbrev cX0_playOut : ByteArray := prog_2_method_9_code
def yX0_playOut : MethodName := ⟨RX0, "playOut", "(LGiftDuel$World;II)I"⟩
abbrev cX0_draw : ByteArray := prog_2_method_10_code
def yX0_draw : MethodName := ⟨RX0, "draw", "(I)I"⟩
def RX1 : String := "GiftDuel$Duels"
def TX1 : u_T := fun k => match k with
  | 0 => ("GiftDuel$Duels", "judge", "LGiftDuel$Judge;", true)
  | 1 => ("GiftDuel$Duels", "goods", "[I", true)
  | 2 => ("GiftDuel$Duels", "worths", "[I", true)
  | 3 => ("GiftDuel$Duels", "costs", "[I", true)
  | 4 => ("GiftDuel$Duels", "many", "[I", true)
  | _ => ("GiftDuel$Duels", "grains", "[I", true)
def tyX1 : Nat → FieldType := fun k => match k with
  | 0 => .object "GiftDuel$Judge"
  | 1 => .array .int
  | 2 => .array .int
  | 3 => .array .int
  | 4 => .array .int
  | _ => .array .int
abbrev wsX10 : List Cond := u_ws RX1 TX1 6
theorem nmX1 : ∀ a, a < 6 → ∀ b, b < 6 → a ≠ b → (TX1 a).2.1 ≠ (TX1 b).2.1 := by decide +kernel
theorem tyX1_ok : ∀ k, k < 6 → parseFieldDescriptor (TX1 k).2.2.1 = some (tyX1 k) := by decide +kernel
abbrev cX1_init : ByteArray := prog_3_method_1_code
def yX1_init : MethodName := ⟨RX1, "<init>", "(LGiftDuel$Judge;)V"⟩
abbrev cX1_answer : ByteArray := prog_3_method_2_code
def yX1_answer : MethodName := ⟨RX1, "answer", "(LGiftDuel$World;III)I"⟩
abbrev cX1_gather : ByteArray := prog_3_method_3_code
def yX1_gather : MethodName := ⟨RX1, "gather", "(LGiftDuel$World;III)V"⟩
abbrev cX1_wins : ByteArray := prog_3_method_4_code
def yX1_wins : MethodName := ⟨RX1, "wins", "(IIIII)Z"⟩
abbrev cX1_winsBy : ByteArray := prog_3_method_5_code
def yX1_winsBy : MethodName := ⟨RX1, "winsBy", "(IIII)Z"⟩
abbrev cX1_winning : ByteArray := prog_3_method_6_code
def yX1_winning : MethodName := ⟨RX1, "winning", "()I"⟩
abbrev cX1_lowestWinning : ByteArray := prog_3_method_7_code
def yX1_lowestWinning : MethodName := ⟨RX1, "lowestWinning", "(IIII)I"⟩
abbrev cX1_lowestPossible : ByteArray := prog_3_method_8_code
def yX1_lowestPossible : MethodName := ⟨RX1, "lowestPossible", "(II)I"⟩
abbrev cX1_length : ByteArray := prog_3_method_9_code
def yX1_length : MethodName := ⟨RX1, "length", "()I"⟩
def RX2 : String := "GiftDuel$Judge"
def TX2 : u_T := fun k => match k with
  | 0 => ("GiftDuel$Judge", "words", "[I", true)
  | 1 => ("GiftDuel$Judge", "stack", "[I", true)
  | _ => ("GiftDuel$Judge", "voices", "[I", true)
def tyX2 : Nat → FieldType := fun k => match k with
  | 0 => .array .int
  | 1 => .array .int
  | _ => .array .int
abbrev wsX20 : List Cond := u_ws RX2 TX2 3
theorem nmX2 : ∀ a, a < 3 → ∀ b, b < 3 → a ≠ b → (TX2 a).2.1 ≠ (TX2 b).2.1 := by decide +kernel
theorem tyX2_ok : ∀ k, k < 3 → parseFieldDescriptor (TX2 k).2.2.1 = some (tyX2 k) := by decide +kernel
abbrev cX2_init : ByteArray := prog_4_method_1_code
def yX2_init : MethodName := ⟨RX2, "<init>", "()V"⟩
abbrev cX2_worth : ByteArray := prog_4_method_2_code
def yX2_worth : MethodName := ⟨RX2, "worth", "(LGiftDuel$World;III)I"⟩
abbrev cX2_bars : ByteArray := prog_4_method_3_code
def yX2_bars : MethodName := ⟨RX2, "bars", "(LGiftDuel$World;III)Z"⟩
abbrev cX2_costs : ByteArray := prog_4_method_4_code
def yX2_costs : MethodName := ⟨RX2, "costs", "(LGiftDuel$World;III)I"⟩
abbrev cX2_upkeep : ByteArray := prog_4_method_5_code
def yX2_upkeep : MethodName := ⟨RX2, "upkeep", "(LGiftDuel$World;II)I"⟩
abbrev cX2_voice : ByteArray := prog_4_method_6_code
def yX2_voice : MethodName := ⟨RX2, "voice", "(LGiftDuel$World;II)I"⟩
abbrev cX2_ask : ByteArray := prog_4_method_7_code
def yX2_ask : MethodName := ⟨RX2, "ask", "(LGiftDuel$World;II)V"⟩
abbrev cX2_told : ByteArray := prog_4_method_8_code
def yX2_told : MethodName := ⟨RX2, "told", "(LGiftDuel$Text;III)I"⟩
abbrev cX2_hear : ByteArray := prog_4_method_9_code
def yX2_hear : MethodName := ⟨RX2, "hear", "(LGiftDuel$World;I)I"⟩
abbrev cX2_middle : ByteArray := prog_4_method_10_code
def yX2_middle : MethodName := ⟨RX2, "middle", "(LGiftDuel$World;I)I"⟩
abbrev cX2_cheapestBribe : ByteArray := prog_4_method_11_code
def yX2_cheapestBribe : MethodName := ⟨RX2, "cheapestBribe", "(LGiftDuel$World;III)I"⟩
def RX3 : String := "GiftDuel$Orders"
def TX3 : u_T := fun k => match k with
  | 0 => ("GiftDuel$Orders", "deeds", "LGiftDuel$Deeds;", true)
  | 1 => ("GiftDuel$Orders", "aheadWorld", "LGiftDuel$World;", true)
  | 2 => ("GiftDuel$Orders", "aheadPast", "LGiftDuel$Past;", true)
  | 3 => ("GiftDuel$Orders", "words", "[I", true)
  | 4 => ("GiftDuel$Orders", "stack", "[I", true)
  | 5 => ("GiftDuel$Orders", "stoppedClause", "I", false)
  | 6 => ("GiftDuel$Orders", "done", "I", false)
  | _ => ("GiftDuel$Orders", "last", "I", false)
def tyX3 : Nat → FieldType := fun k => match k with
  | 0 => .object "GiftDuel$Deeds"
  | 1 => .object "GiftDuel$World"
  | 2 => .object "GiftDuel$Past"
  | 3 => .array .int
  | 4 => .array .int
  | 5 => .int
  | 6 => .int
  | _ => .int
abbrev wsX30 : List Cond := u_ws RX3 TX3 8
theorem nmX3 : ∀ a, a < 8 → ∀ b, b < 8 → a ≠ b → (TX3 a).2.1 ≠ (TX3 b).2.1 := by decide +kernel
theorem tyX3_ok : ∀ k, k < 8 → parseFieldDescriptor (TX3 k).2.2.1 = some (tyX3 k) := by decide +kernel
abbrev cX3_init : ByteArray := prog_5_method_1_code
def yX3_init : MethodName := ⟨RX3, "<init>", "(LGiftDuel$Deeds;)V"⟩
abbrev cX3_stoppedAt : ByteArray := prog_5_method_2_code
def yX3_stoppedAt : MethodName := ⟨RX3, "stoppedAt", "()I"⟩
abbrev cX3_forget : ByteArray := prog_5_method_3_code
def yX3_forget : MethodName := ⟨RX3, "forget", "()V"⟩
abbrev cX3_run : ByteArray := prog_5_method_4_code
def yX3_run : MethodName := ⟨RX3, "run", "(LGiftDuel$Text;LGiftDuel$World;LGiftDuel$Past;)I"⟩
abbrev cX3_step : ByteArray := prog_5_method_5_code
def yX3_step : MethodName := ⟨RX3, "step", "(LGiftDuel$Text;ILGiftDuel$World;LGiftDuel$Past;)Z"⟩
abbrev cX3_look : ByteArray := prog_5_method_6_code
def yX3_look : MethodName := ⟨RX3, "look", "(LGiftDuel$World;)V"⟩
def RX4 : String := "GiftDuel$Past"
def TX4 : u_T := fun k => match k with
  | 0 => ("GiftDuel$Past", "rows", "[I", true)
  | 1 => ("GiftDuel$Past", "kinds", "[I", true)
  | 2 => ("GiftDuel$Past", "next", "I", false)
  | _ => ("GiftDuel$Past", "size", "I", false)
def tyX4 : Nat → FieldType := fun k => match k with
  | 0 => .array .int
  | 1 => .array .int
  | 2 => .int
  | _ => .int
abbrev wsX40 : List Cond := u_ws RX4 TX4 4
theorem nmX4 : ∀ a, a < 4 → ∀ b, b < 4 → a ≠ b → (TX4 a).2.1 ≠ (TX4 b).2.1 := by decide +kernel
theorem tyX4_ok : ∀ k, k < 4 → parseFieldDescriptor (TX4 k).2.2.1 = some (tyX4 k) := by decide +kernel
abbrev cX4_init : ByteArray := prog_6_method_1_code
def yX4_init : MethodName := ⟨RX4, "<init>", "()V"⟩
abbrev cX4_size : ByteArray := prog_6_method_2_code
def yX4_size : MethodName := ⟨RX4, "size", "()I"⟩
abbrev cX4_clear : ByteArray := prog_6_method_3_code
def yX4_clear : MethodName := ⟨RX4, "clear", "()V"⟩
abbrev cX4_copyFrom : ByteArray := prog_6_method_4_code
def yX4_copyFrom : MethodName := ⟨RX4, "copyFrom", "(LGiftDuel$Past;)V"⟩
abbrev cX4_keep : ByteArray := prog_6_method_5_code
def yX4_keep : MethodName := ⟨RX4, "keep", "(LGiftDuel$World;I)V"⟩
abbrev cX4_takeBack : ByteArray := prog_6_method_6_code
def yX4_takeBack : MethodName := ⟨RX4, "takeBack", "(LGiftDuel$World;)I"⟩
def RX5 : String := "GiftDuel$Reader"
def TX5 : u_T := fun k => match k with
  | 0 => ("GiftDuel$Reader", "tape", "[I", true)
  | 1 => ("GiftDuel$Reader", "kinds", "[I", true)
  | 2 => ("GiftDuel$Reader", "numbers", "[I", true)
  | 3 => ("GiftDuel$Reader", "places", "[I", true)
  | 4 => ("GiftDuel$Reader", "text", "LGiftDuel$Text;", true)
  | 5 => ("GiftDuel$Reader", "length", "I", false)
  | 6 => ("GiftDuel$Reader", "fault", "I", false)
  | 7 => ("GiftDuel$Reader", "isLaw", "Z", false)
  | 8 => ("GiftDuel$Reader", "parts", "I", false)
  | 9 => ("GiftDuel$Reader", "at", "I", false)
  | _ => ("GiftDuel$Reader", "token", "I", false)
def tyX5 : Nat → FieldType := fun k => match k with
  | 0 => .array .int
  | 1 => .array .int
  | 2 => .array .int
  | 3 => .array .int
  | 4 => .object "GiftDuel$Text"
  | 5 => .int
  | 6 => .int
  | 7 => .boolean
  | 8 => .int
  | 9 => .int
  | _ => .int
abbrev wsX50 : List Cond := u_ws RX5 TX5 11
theorem nmX5 : ∀ a, a < 11 → ∀ b, b < 11 → a ≠ b → (TX5 a).2.1 ≠ (TX5 b).2.1 := by decide +kernel
theorem tyX5_ok : ∀ k, k < 11 → parseFieldDescriptor (TX5 k).2.2.1 = some (tyX5 k) := by decide +kernel
abbrev cX5_init : ByteArray := prog_7_method_1_code
def yX5_init : MethodName := ⟨RX5, "<init>", "()V"⟩
abbrev cX5_length : ByteArray := prog_7_method_2_code
def yX5_length : MethodName := ⟨RX5, "length", "()I"⟩
abbrev cX5_hasRoom : ByteArray := prog_7_method_3_code
def yX5_hasRoom : MethodName := ⟨RX5, "hasRoom", "(I)Z"⟩
abbrev cX5_append : ByteArray := prog_7_method_4_code
def yX5_append : MethodName := ⟨RX5, "append", "(I)V"⟩
abbrev cX5_cut : ByteArray := prog_7_method_5_code
def yX5_cut : MethodName := ⟨RX5, "cut", "(I)V"⟩
abbrev cX5_byteAt : ByteArray := prog_7_method_6_code
def yX5_byteAt : MethodName := ⟨RX5, "byteAt", "(I)I"⟩
abbrev cX5_text : ByteArray := prog_7_method_7_code
def yX5_text : MethodName := ⟨RX5, "text", "()LGiftDuel$Text;"⟩
abbrev cX5_faultPlace : ByteArray := prog_7_method_8_code
def yX5_faultPlace : MethodName := ⟨RX5, "faultPlace", "()I"⟩
abbrev cX5_reads : ByteArray := prog_7_method_9_code
def yX5_reads : MethodName := ⟨RX5, "reads", "(Z)Z"⟩
abbrev cX5_scan : ByteArray := prog_7_method_10_code
def yX5_scan : MethodName := ⟨RX5, "scan", "()V"⟩
abbrev cX5_isLetter : ByteArray := prog_7_method_11_code
def yX5_isLetter : MethodName := ⟨RX5, "isLetter", "(I)Z"⟩
abbrev cX5_isDigit : ByteArray := prog_7_method_12_code
def yX5_isDigit : MethodName := ⟨RX5, "isDigit", "(I)Z"⟩
abbrev cX5_numberOf : ByteArray := prog_7_method_13_code
def yX5_numberOf : MethodName := ⟨RX5, "numberOf", "(II)I"⟩
abbrev cX5_wordOf : ByteArray := prog_7_method_14_code
def yX5_wordOf : MethodName := ⟨RX5, "wordOf", "(II)I"⟩
abbrev cX5_advance : ByteArray := prog_7_method_15_code
def yX5_advance : MethodName := ⟨RX5, "advance", "()V"⟩
abbrev cX5_wrong : ByteArray := prog_7_method_16_code
def yX5_wrong : MethodName := ⟨RX5, "wrong", "()Z"⟩
abbrev cX5_lawClause : ByteArray := prog_7_method_17_code
def yX5_lawClause : MethodName := ⟨RX5, "lawClause", "()Z"⟩
abbrev cX5_orderClause : ByteArray := prog_7_method_18_code
def yX5_orderClause : MethodName := ⟨RX5, "orderClause", "()Z"⟩
abbrev cX5_times : ByteArray := prog_7_method_19_code
def yX5_times : MethodName := ⟨RX5, "times", "(I)Z"⟩
abbrev cX5_condition : ByteArray := prog_7_method_20_code
def yX5_condition : MethodName := ⟨RX5, "condition", "(I)Z"⟩
abbrev cX5_sumOf : ByteArray := prog_7_method_21_code
def yX5_sumOf : MethodName := ⟨RX5, "sumOf", "(II)Z"⟩
abbrev cX5_test : ByteArray := prog_7_method_22_code
def yX5_test : MethodName := ⟨RX5, "test", "(I)Z"⟩
abbrev cX5_both : ByteArray := prog_7_method_23_code
def yX5_both : MethodName := ⟨RX5, "both", "(I)Z"⟩
abbrev cX5_plain : ByteArray := prog_7_method_24_code
def yX5_plain : MethodName := ⟨RX5, "plain", "(I)Z"⟩
abbrev cX5_bracketed : ByteArray := prog_7_method_25_code
def yX5_bracketed : MethodName := ⟨RX5, "bracketed", "(III)Z"⟩
abbrev cX5_comparison : ByteArray := prog_7_method_26_code
def yX5_comparison : MethodName := ⟨RX5, "comparison", "(I)Z"⟩
abbrev cX5_sum : ByteArray := prog_7_method_27_code
def yX5_sum : MethodName := ⟨RX5, "sum", "(I)Z"⟩
abbrev cX5_term : ByteArray := prog_7_method_28_code
def yX5_term : MethodName := ⟨RX5, "term", "(I)Z"⟩
abbrev cX5_part : ByteArray := prog_7_method_29_code
def yX5_part : MethodName := ⟨RX5, "part", "(I)Z"⟩
abbrev cX5_lawWord : ByteArray := prog_7_method_30_code
def yX5_lawWord : MethodName := ⟨RX5, "lawWord", "()I"⟩
abbrev cX5_orderWord : ByteArray := prog_7_method_31_code
def yX5_orderWord : MethodName := ⟨RX5, "orderWord", "()I"⟩
def RX6 : String := "GiftDuel$Shelves"
def TX6 : u_T := fun k => match k with
  | 0 => ("GiftDuel$Shelves", "judge", "LGiftDuel$Judge;", true)
  | 1 => ("GiftDuel$Shelves", "open", "[Z", true)
  | 2 => ("GiftDuel$Shelves", "walks", "[I", true)
  | 3 => ("GiftDuel$Shelves", "holders", "[I", true)
  | 4 => ("GiftDuel$Shelves", "mixed", "[I", true)
  | 5 => ("GiftDuel$Shelves", "lords", "I", false)
  | 6 => ("GiftDuel$Shelves", "goods", "I", false)
  | 7 => ("GiftDuel$Shelves", "firstGood", "I", false)
  | _ => ("GiftDuel$Shelves", "firstLord", "I", false)
def tyX6 : Nat → FieldType := fun k => match k with
  | 0 => .object "GiftDuel$Judge"
  | 1 => .array .boolean
  | 2 => .array .int
  | 3 => .array .int
  | 4 => .array .int
  | 5 => .int
  | 6 => .int
  | 7 => .int
  | _ => .int
abbrev wsX60 : List Cond := u_ws RX6 TX6 9
theorem nmX6 : ∀ a, a < 9 → ∀ b, b < 9 → a ≠ b → (TX6 a).2.1 ≠ (TX6 b).2.1 := by decide +kernel
theorem tyX6_ok : ∀ k, k < 9 → parseFieldDescriptor (TX6 k).2.2.1 = some (tyX6 k) := by decide +kernel
abbrev cX6_init : ByteArray := prog_8_method_1_code
def yX6_init : MethodName := ⟨RX6, "<init>", "(LGiftDuel$Judge;)V"⟩
abbrev cX6_answer : ByteArray := prog_8_method_2_code
def yX6_answer : MethodName := ⟨RX6, "answer", "(LGiftDuel$World;II)I"⟩
abbrev cX6_lookAt : ByteArray := prog_8_method_3_code
def yX6_lookAt : MethodName := ⟨RX6, "lookAt", "(LGiftDuel$World;II)V"⟩
abbrev cX6_rows : ByteArray := prog_8_method_4_code
def yX6_rows : MethodName := ⟨RX6, "rows", "(I)I"⟩
abbrev cX6_chosen : ByteArray := prog_8_method_5_code
def yX6_chosen : MethodName := ⟨RX6, "chosen", "(II)I"⟩
abbrev cX6_takeFirst : ByteArray := prog_8_method_6_code
def yX6_takeFirst : MethodName := ⟨RX6, "takeFirst", "(I)Z"⟩
abbrev cX6_beating : ByteArray := prog_8_method_7_code
def yX6_beating : MethodName := ⟨RX6, "beating", "(LGiftDuel$World;III)I"⟩
def RX7 : String := "GiftDuel$Sieges"
def TX7 : u_T := fun k => match k with
  | 0 => ("GiftDuel$Sieges", "judge", "LGiftDuel$Judge;", true)
  | 1 => ("GiftDuel$Sieges", "goods", "[I", true)
  | 2 => ("GiftDuel$Sieges", "worths", "[I", true)
  | 3 => ("GiftDuel$Sieges", "costs", "[I", true)
  | 4 => ("GiftDuel$Sieges", "upkeeps", "[I", true)
  | 5 => ("GiftDuel$Sieges", "many", "I", false)
  | 6 => ("GiftDuel$Sieges", "grain", "I", false)
  | _ => ("GiftDuel$Sieges", "harvest", "I", false)
def tyX7 : Nat → FieldType := fun k => match k with
  | 0 => .object "GiftDuel$Judge"
  | 1 => .array .int
  | 2 => .array .int
  | 3 => .array .int
  | 4 => .array .int
  | 5 => .int
  | 6 => .int
  | _ => .int
abbrev wsX70 : List Cond := u_ws RX7 TX7 8
theorem nmX7 : ∀ a, a < 8 → ∀ b, b < 8 → a ≠ b → (TX7 a).2.1 ≠ (TX7 b).2.1 := by decide +kernel
theorem tyX7_ok : ∀ k, k < 8 → parseFieldDescriptor (TX7 k).2.2.1 = some (tyX7 k) := by decide +kernel
abbrev cX7_init : ByteArray := prog_9_method_1_code
def yX7_init : MethodName := ⟨RX7, "<init>", "(LGiftDuel$Judge;)V"⟩
abbrev cX7_fallOf : ByteArray := prog_9_method_2_code
def yX7_fallOf : MethodName := ⟨RX7, "fallOf", "(LGiftDuel$World;II)I"⟩
abbrev cX7_answer : ByteArray := prog_9_method_3_code
def yX7_answer : MethodName := ⟨RX7, "answer", "(LGiftDuel$World;IIII)I"⟩
abbrev cX7_gather : ByteArray := prog_9_method_4_code
def yX7_gather : MethodName := ⟨RX7, "gather", "(LGiftDuel$World;III)V"⟩
abbrev cX7_cheapest : ByteArray := prog_9_method_5_code
def yX7_cheapest : MethodName := ⟨RX7, "cheapest", "(I)I"⟩
abbrev cX7_falls : ByteArray := prog_9_method_6_code
def yX7_falls : MethodName := ⟨RX7, "falls", "(II)Z"⟩
abbrev cX7_worthOf : ByteArray := prog_9_method_7_code
def yX7_worthOf : MethodName := ⟨RX7, "worthOf", "(I)I"⟩
abbrev cX7_bitsOf : ByteArray := prog_9_method_8_code
def yX7_bitsOf : MethodName := ⟨RX7, "bitsOf", "(I)I"⟩
def RX8 : String := "GiftDuel$Text"
def TX8 : u_T := fun k => match k with
  | 0 => ("GiftDuel$Text", "acts", "[I", true)
  | 1 => ("GiftDuel$Text", "args", "[I", true)
  | 2 => ("GiftDuel$Text", "clauses", "[I", true)
  | 3 => ("GiftDuel$Text", "size", "I", false)
  | _ => ("GiftDuel$Text", "many", "I", false)
def tyX8 : Nat → FieldType := fun k => match k with
  | 0 => .array .int
  | 1 => .array .int
  | 2 => .array .int
  | 3 => .int
  | _ => .int
abbrev wsX80 : List Cond := u_ws RX8 TX8 5
theorem nmX8 : ∀ a, a < 5 → ∀ b, b < 5 → a ≠ b → (TX8 a).2.1 ≠ (TX8 b).2.1 := by decide +kernel
theorem tyX8_ok : ∀ k, k < 5 → parseFieldDescriptor (TX8 k).2.2.1 = some (tyX8 k) := by decide +kernel
abbrev cX8_init : ByteArray := prog_10_method_1_code
def yX8_init : MethodName := ⟨RX8, "<init>", "(II)V"⟩
abbrev cX8_empty : ByteArray := prog_10_method_2_code
def yX8_empty : MethodName := ⟨RX8, "empty", "()V"⟩
abbrev cX8_clauses : ByteArray := prog_10_method_3_code
def yX8_clauses : MethodName := ⟨RX8, "clauses", "()I"⟩
abbrev cX8_size : ByteArray := prog_10_method_4_code
def yX8_size : MethodName := ⟨RX8, "size", "()I"⟩
abbrev cX8_add : ByteArray := prog_10_method_5_code
def yX8_add : MethodName := ⟨RX8, "add", "(II)I"⟩
abbrev cX8_landHere : ByteArray := prog_10_method_6_code
def yX8_landHere : MethodName := ⟨RX8, "landHere", "(I)V"⟩
abbrev cX8_open : ByteArray := prog_10_method_7_code
def yX8_open : MethodName := ⟨RX8, "open", "(I)I"⟩
abbrev cX8_part : ByteArray := prog_10_method_8_code
def yX8_part : MethodName := ⟨RX8, "part", "(II)I"⟩
abbrev cX8_setPart : ByteArray := prog_10_method_9_code
def yX8_setPart : MethodName := ⟨RX8, "setPart", "(III)V"⟩
abbrev cX8_trimmed : ByteArray := prog_10_method_10_code
def yX8_trimmed : MethodName := ⟨RX8, "trimmed", "()LGiftDuel$Text;"⟩
abbrev cX8_isSo : ByteArray := prog_10_method_11_code
def yX8_isSo : MethodName := ⟨RX8, "isSo", "(I[I[I)Z"⟩
abbrev cX8_sum : ByteArray := prog_10_method_12_code
def yX8_sum : MethodName := ⟨RX8, "sum", "(II[I[I)I"⟩
abbrev cX8_value : ByteArray := prog_10_method_13_code
def yX8_value : MethodName := ⟨RX8, "value", "(II[I[I)I"⟩
def RX9 : String := "GiftDuel$Ways"
def TX9 : u_T := fun k => match k with
  | 0 => ("GiftDuel$Ways", "thieves", "[I", true)
  | 1 => ("GiftDuel$Ways", "days", "[I", true)
  | 2 => ("GiftDuel$Ways", "path", "[I", true)
  | 3 => ("GiftDuel$Ways", "best", "[I", true)
  | 4 => ("GiftDuel$Ways", "lords", "I", false)
  | 5 => ("GiftDuel$Ways", "goal", "I", false)
  | 6 => ("GiftDuel$Ways", "bestLikely", "I", false)
  | 7 => ("GiftDuel$Ways", "bestDays", "I", false)
  | _ => ("GiftDuel$Ways", "bestSteps", "I", false)
def tyX9 : Nat → FieldType := fun k => match k with
  | 0 => .array .int
  | 1 => .array .int
  | 2 => .array .int
  | 3 => .array .int
  | 4 => .int
  | 5 => .int
  | 6 => .int
  | 7 => .int
  | _ => .int
abbrev wsX90 : List Cond := u_ws RX9 TX9 9
theorem nmX9 : ∀ a, a < 9 → ∀ b, b < 9 → a ≠ b → (TX9 a).2.1 ≠ (TX9 b).2.1 := by decide +kernel
theorem tyX9_ok : ∀ k, k < 9 → parseFieldDescriptor (TX9 k).2.2.1 = some (tyX9 k) := by decide +kernel
abbrev cX9_init : ByteArray := prog_11_method_1_code
def yX9_init : MethodName := ⟨RX9, "<init>", "()V"⟩
abbrev cX9_answer : ByteArray := prog_11_method_2_code
def yX9_answer : MethodName := ⟨RX9, "answer", "(LGiftDuel$World;III)I"⟩
abbrev cX9_draw : ByteArray := prog_11_method_3_code
def yX9_draw : MethodName := ⟨RX9, "draw", "(LGiftDuel$World;)V"⟩
abbrev cX9_walk : ByteArray := prog_11_method_4_code
def yX9_walk : MethodName := ⟨RX9, "walk", "(IIII)V"⟩
abbrev cX9_ofRing : ByteArray := prog_11_method_5_code
def yX9_ofRing : MethodName := ⟨RX9, "ofRing", "(LGiftDuel$World;I)I"⟩
abbrev cX9_closes : ByteArray := prog_11_method_6_code
def yX9_closes : MethodName := ⟨RX9, "closes", "(LGiftDuel$World;III)Z"⟩
def RX10 : String := "GiftDuel$World"
def TX10 : u_T := fun k => match k with
  | 0 => ("GiftDuel$World", "cells", "[I", true)
  | 1 => ("GiftDuel$World", "laws", "[LGiftDuel$Text;", true)
  | _ => ("GiftDuel$World", "kept", "Z", false)
def tyX10 : Nat → FieldType := fun k => match k with
  | 0 => .array .int
  | 1 => .array (.object "GiftDuel$Text")
  | _ => .boolean
abbrev wsX100 : List Cond := u_ws RX10 TX10 3
theorem nmX10 : ∀ a, a < 3 → ∀ b, b < 3 → a ≠ b → (TX10 a).2.1 ≠ (TX10 b).2.1 := by decide +kernel
theorem tyX10_ok : ∀ k, k < 3 → parseFieldDescriptor (TX10 k).2.2.1 = some (tyX10 k) := by decide +kernel
abbrev cX10_init : ByteArray := prog_12_method_1_code
def yX10_init : MethodName := ⟨RX10, "<init>", "()V"⟩
abbrev cX10_copyFrom : ByteArray := prog_12_method_2_code
def yX10_copyFrom : MethodName := ⟨RX10, "copyFrom", "(LGiftDuel$World;)V"⟩
abbrev cX10_markKept : ByteArray := prog_12_method_3_code
def yX10_markKept : MethodName := ⟨RX10, "markKept", "()V"⟩
abbrev cX10_isKept : ByteArray := prog_12_method_4_code
def yX10_isKept : MethodName := ⟨RX10, "isKept", "()Z"⟩
abbrev cX10_saveTo : ByteArray := prog_12_method_5_code
def yX10_saveTo : MethodName := ⟨RX10, "saveTo", "([II)V"⟩
abbrev cX10_restoreFrom : ByteArray := prog_12_method_6_code
def yX10_restoreFrom : MethodName := ⟨RX10, "restoreFrom", "([II)V"⟩
abbrev cX10_isLord : ByteArray := prog_12_method_7_code
def yX10_isLord : MethodName := ⟨RX10, "isLord", "(I)Z"⟩
abbrev cX10_isGood : ByteArray := prog_12_method_8_code
def yX10_isGood : MethodName := ⟨RX10, "isGood", "(I)Z"⟩
abbrev cX10_term : ByteArray := prog_12_method_9_code
def yX10_term : MethodName := ⟨RX10, "term", "(I)I"⟩
abbrev cX10_setTerm : ByteArray := prog_12_method_10_code
def yX10_setTerm : MethodName := ⟨RX10, "setTerm", "(II)V"⟩
abbrev cX10_many : ByteArray := prog_12_method_11_code
def yX10_many : MethodName := ⟨RX10, "many", "(I)I"⟩
abbrev cX10_lordAt : ByteArray := prog_12_method_12_code
def yX10_lordAt : MethodName := ⟨RX10, "lordAt", "(II)I"⟩
abbrev cX10_setLord : ByteArray := prog_12_method_13_code
def yX10_setLord : MethodName := ⟨RX10, "setLord", "(III)V"⟩
abbrev cX10_oneMoreOf : ByteArray := prog_12_method_14_code
def yX10_oneMoreOf : MethodName := ⟨RX10, "oneMoreOf", "(II)V"⟩
abbrev cX10_isRuined : ByteArray := prog_12_method_15_code
def yX10_isRuined : MethodName := ⟨RX10, "isRuined", "(I)Z"⟩
abbrev cX10_goodAt : ByteArray := prog_12_method_16_code
def yX10_goodAt : MethodName := ⟨RX10, "goodAt", "(II)I"⟩
abbrev cX10_setGood : ByteArray := prog_12_method_17_code
def yX10_setGood : MethodName := ⟨RX10, "setGood", "(III)V"⟩
abbrev cX10_isOwnedAndHeld : ByteArray := prog_12_method_18_code
def yX10_isOwnedAndHeld : MethodName := ⟨RX10, "isOwnedAndHeld", "(II)Z"⟩
abbrev cX10_roadAt : ByteArray := prog_12_method_19_code
def yX10_roadAt : MethodName := ⟨RX10, "roadAt", "(II)I"⟩
abbrev cX10_price : ByteArray := prog_12_method_20_code
def yX10_price : MethodName := ⟨RX10, "price", "(I)I"⟩
abbrev cX10_toldHolder : ByteArray := prog_12_method_21_code
def yX10_toldHolder : MethodName := ⟨RX10, "toldHolder", "(I)I"⟩
abbrev cX10_tellHolder : ByteArray := prog_12_method_22_code
def yX10_tellHolder : MethodName := ⟨RX10, "tellHolder", "(II)V"⟩
abbrev cX10_inForce : ByteArray := prog_12_method_23_code
def yX10_inForce : MethodName := ⟨RX10, "inForce", "()I"⟩
abbrev cX10_setForce : ByteArray := prog_12_method_24_code
def yX10_setForce : MethodName := ⟨RX10, "setForce", "(I)V"⟩
abbrev cX10_lawInForce : ByteArray := prog_12_method_25_code
def yX10_lawInForce : MethodName := ⟨RX10, "lawInForce", "()LGiftDuel$Text;"⟩
abbrev cX10_addLord : ByteArray := prog_12_method_26_code
def yX10_addLord : MethodName := ⟨RX10, "addLord", "(II)I"⟩
abbrev cX10_addGood : ByteArray := prog_12_method_27_code
def yX10_addGood : MethodName := ⟨RX10, "addGood", "(III)I"⟩
abbrev cX10_addHerald : ByteArray := prog_12_method_28_code
def yX10_addHerald : MethodName := ⟨RX10, "addHerald", "(I)I"⟩
abbrev cX10_addRoad : ByteArray := prog_12_method_29_code
def yX10_addRoad : MethodName := ⟨RX10, "addRoad", "(IIII)I"⟩
abbrev cX10_addLaw : ByteArray := prog_12_method_30_code
def yX10_addLaw : MethodName := ⟨RX10, "addLaw", "(LGiftDuel$Text;)I"⟩
abbrev cX10_seenOf : ByteArray := prog_12_method_31_code
def yX10_seenOf : MethodName := ⟨RX10, "seenOf", "(II)I"⟩
abbrev cX10_held : ByteArray := prog_12_method_32_code
def yX10_held : MethodName := ⟨RX10, "held", "(I)I"⟩
abbrev cX10_worthOwed : ByteArray := prog_12_method_33_code
def yX10_worthOwed : MethodName := ⟨RX10, "worthOwed", "(II)I"⟩
abbrev cX10_since : ByteArray := prog_12_method_34_code
def yX10_since : MethodName := ⟨RX10, "since", "(II)I"⟩
abbrev cX10_stand : ByteArray := prog_12_method_35_code
def yX10_stand : MethodName := ⟨RX10, "stand", "(IIII)V"⟩
abbrev cX10_settle : ByteArray := prog_12_method_36_code
def yX10_settle : MethodName := ⟨RX10, "settle", "(II)V"⟩
abbrev cX10_standingAgainst : ByteArray := prog_12_method_37_code
def yX10_standingAgainst : MethodName := ⟨RX10, "standingAgainst", "(I)I"⟩
abbrev cX10_standing : ByteArray := prog_12_method_38_code
def yX10_standing : MethodName := ⟨RX10, "standing", "()I"⟩
abbrev cX10_greatestCreditor : ByteArray := prog_12_method_39_code
def yX10_greatestCreditor : MethodName := ⟨RX10, "greatestCreditor", "(I)I"⟩
def RX11 : String := "GiftDuel"
def TX11 : u_T := fun k => match k with
  | 0 => ("GiftDuel", "world", "LGiftDuel$World;", true)
  | 1 => ("GiftDuel", "firstImage", "LGiftDuel$World;", true)
  | 2 => ("GiftDuel", "secondImage", "LGiftDuel$World;", true)
  | 3 => ("GiftDuel", "past", "LGiftDuel$Past;", true)
  | 4 => ("GiftDuel", "reader", "LGiftDuel$Reader;", true)
  | 5 => ("GiftDuel", "judge", "LGiftDuel$Judge;", true)
  | 6 => ("GiftDuel", "deeds", "LGiftDuel$Deeds;", true)
  | 7 => ("GiftDuel", "runner", "LGiftDuel$Orders;", true)
  | 8 => ("GiftDuel", "duels", "LGiftDuel$Duels;", true)
  | 9 => ("GiftDuel", "sieges", "LGiftDuel$Sieges;", true)
  | 10 => ("GiftDuel", "ways", "LGiftDuel$Ways;", true)
  | 11 => ("GiftDuel", "shelves", "LGiftDuel$Shelves;", true)
  | 12 => ("GiftDuel", "refusals", "[I", true)
  | 13 => ("GiftDuel", "latest", "I", false)
  | _ => ("GiftDuel", "drossSeen", "I", false)
def tyX11 : Nat → FieldType := fun k => match k with
  | 0 => .object "GiftDuel$World"
  | 1 => .object "GiftDuel$World"
  | 2 => .object "GiftDuel$World"
  | 3 => .object "GiftDuel$Past"
  | 4 => .object "GiftDuel$Reader"
  | 5 => .object "GiftDuel$Judge"
  | 6 => .object "GiftDuel$Deeds"
  | 7 => .object "GiftDuel$Orders"
  | 8 => .object "GiftDuel$Duels"
  | 9 => .object "GiftDuel$Sieges"
  | 10 => .object "GiftDuel$Ways"
  | 11 => .object "GiftDuel$Shelves"
  | 12 => .array .int
  | 13 => .int
  | _ => .int
abbrev wsX110 : List Cond := u_ws RX11 TX11 15
theorem nmX11 : ∀ a, a < 15 → ∀ b, b < 15 → a ≠ b → (TX11 a).2.1 ≠ (TX11 b).2.1 := by decide +kernel
theorem tyX11_ok : ∀ k, k < 15 → parseFieldDescriptor (TX11 k).2.2.1 = some (tyX11 k) := by decide +kernel
abbrev cX11_init : ByteArray := prog_1_method_1_code
def yX11_init : MethodName := ⟨RX11, "<init>", "()V"⟩
abbrev cX11_refuse : ByteArray := prog_1_method_2_code
def yX11_refuse : MethodName := ⟨RX11, "refuse", "(I)I"⟩
abbrev cX11_accept : ByteArray := prog_1_method_3_code
def yX11_accept : MethodName := ⟨RX11, "accept", "(I)I"⟩
abbrev cX11_within : ByteArray := prog_1_method_4_code
def yX11_within : MethodName := ⟨RX11, "within", "(III)Z"⟩
abbrev cX11_lord : ByteArray := prog_1_method_5_code
def yX11_lord : MethodName := ⟨RX11, "lord", "(II)I"⟩
abbrev cX11_of : ByteArray := prog_1_method_6_code
def yX11_of : MethodName := ⟨RX11, "of", "(II)I"⟩
abbrev cX11_put : ByteArray := prog_1_method_7_code
def yX11_put : MethodName := ⟨RX11, "put", "(III)I"⟩
abbrev cX11_good : ByteArray := prog_1_method_8_code
def yX11_good : MethodName := ⟨RX11, "good", "(III)I"⟩
abbrev cX11_at : ByteArray := prog_1_method_9_code
def yX11_at : MethodName := ⟨RX11, "at", "(II)I"⟩
abbrev cX11_terms : ByteArray := prog_1_method_10_code
def yX11_terms : MethodName := ⟨RX11, "terms", "(II)I"⟩
abbrev cX11_feed : ByteArray := prog_1_method_11_code
def yX11_feed : MethodName := ⟨RX11, "feed", "(IIIII)I"⟩
abbrev cX11_end : ByteArray := prog_1_method_12_code
def yX11_end : MethodName := ⟨RX11, "end", "(I)I"⟩
abbrev cX11_row : ByteArray := prog_1_method_13_code
def yX11_row : MethodName := ⟨RX11, "row", "()I"⟩
abbrev cX11_comes : ByteArray := prog_1_method_14_code
def yX11_comes : MethodName := ⟨RX11, "comes", "(III)Z"⟩
abbrev cX11_dross : ByteArray := prog_1_method_15_code
def yX11_dross : MethodName := ⟨RX11, "dross", "()I"⟩
abbrev cX11_law : ByteArray := prog_1_method_16_code
def yX11_law : MethodName := ⟨RX11, "law", "()I"⟩
abbrev cX11_orders : ByteArray := prog_1_method_17_code
def yX11_orders : MethodName := ⟨RX11, "orders", "()I"⟩
abbrev cX11_fault : ByteArray := prog_1_method_18_code
def yX11_fault : MethodName := ⟨RX11, "fault", "()I"⟩
abbrev cX11_stopped : ByteArray := prog_1_method_19_code
def yX11_stopped : MethodName := ⟨RX11, "stopped", "()I"⟩
abbrev cX11_force : ByteArray := prog_1_method_20_code
def yX11_force : MethodName := ⟨RX11, "force", "(I)I"⟩
abbrev cX11_asks : ByteArray := prog_1_method_21_code
def yX11_asks : MethodName := ⟨RX11, "asks", "(III)I"⟩
abbrev cX11_give : ByteArray := prog_1_method_22_code
def yX11_give : MethodName := ⟨RX11, "give", "(II)I"⟩
abbrev cX11_await : ByteArray := prog_1_method_23_code
def yX11_await : MethodName := ⟨RX11, "await", "()I"⟩
abbrev cX11_undo : ByteArray := prog_1_method_24_code
def yX11_undo : MethodName := ⟨RX11, "undo", "()I"⟩
abbrev cX11_debt : ByteArray := prog_1_method_25_code
def yX11_debt : MethodName := ⟨RX11, "debt", "(III)I"⟩
abbrev cX11_owed : ByteArray := prog_1_method_26_code
def yX11_owed : MethodName := ⟨RX11, "owed", "(II)I"⟩
abbrev cX11_duel : ByteArray := prog_1_method_27_code
def yX11_duel : MethodName := ⟨RX11, "duel", "(III)I"⟩
abbrev cX11_ruin : ByteArray := prog_1_method_28_code
def yX11_ruin : MethodName := ⟨RX11, "ruin", "(II)I"⟩
abbrev cX11_siege : ByteArray := prog_1_method_29_code
def yX11_siege : MethodName := ⟨RX11, "siege", "(IIII)I"⟩
abbrev cX11_herald : ByteArray := prog_1_method_30_code
def yX11_herald : MethodName := ⟨RX11, "herald", "(I)I"⟩
abbrev cX11_tells : ByteArray := prog_1_method_31_code
def yX11_tells : MethodName := ⟨RX11, "tells", "(II)I"⟩
abbrev cX11_bribe : ByteArray := prog_1_method_32_code
def yX11_bribe : MethodName := ⟨RX11, "bribe", "(III)I"⟩
abbrev cX11_road : ByteArray := prog_1_method_33_code
def yX11_road : MethodName := ⟨RX11, "road", "(IIII)I"⟩
abbrev cX11_way : ByteArray := prog_1_method_34_code
def yX11_way : MethodName := ⟨RX11, "way", "(III)I"⟩
abbrev cX11_ring : ByteArray := prog_1_method_35_code
def yX11_ring : MethodName := ⟨RX11, "ring", "(I)I"⟩
abbrev cX11_shelf : ByteArray := prog_1_method_36_code
def yX11_shelf : MethodName := ⟨RX11, "shelf", "(II)I"⟩
abbrev cX11_found : ByteArray := prog_1_method_37_code
def yX11_found : MethodName := ⟨RX11, "found", "(II)I"⟩
abbrev cX11_beats : ByteArray := prog_1_method_38_code
def yX11_beats : MethodName := ⟨RX11, "beats", "(III)I"⟩
abbrev cX11_generation : ByteArray := prog_1_method_39_code
def yX11_generation : MethodName := ⟨RX11, "generation", "(II)I"⟩
abbrev cX11_drawn : ByteArray := prog_1_method_40_code
def yX11_drawn : MethodName := ⟨RX11, "drawn", "(II)I"⟩
abbrev cX11_image : ByteArray := prog_1_method_41_code
def yX11_image : MethodName := ⟨RX11, "image", "(I)I"⟩
abbrev cX11_back : ByteArray := prog_1_method_42_code
def yX11_back : MethodName := ⟨RX11, "back", "(I)I"⟩
abbrev cX11_count : ByteArray := prog_1_method_43_code
def yX11_count : MethodName := ⟨RX11, "count", "(I)I"⟩
abbrev cX11_status : ByteArray := prog_1_method_44_code
def yX11_status : MethodName := ⟨RX11, "status", "()I"⟩
def RX12 : String := "GiftDuelModel"
def TX12 : u_T := fun k => match k with
  | 0 => ("GiftDuelModel", "thrown", "I", false)
  | 1 => ("GiftDuelModel", "status", "I", false)
  | 2 => ("GiftDuelModel", "refusals", "[I", true)
  | 3 => ("GiftDuelModel", "row", "[I", true)
  | 4 => ("GiftDuelModel", "images", "[I", true)
  | 5 => ("GiftDuelModel", "isKept", "[Z", true)
  | 6 => ("GiftDuelModel", "undos", "[I", true)
  | 7 => ("GiftDuelModel", "sorts", "[I", true)
  | 8 => ("GiftDuelModel", "nUndo", "I", false)
  | 9 => ("GiftDuelModel", "undosBefore", "[I", true)
  | 10 => ("GiftDuelModel", "sortsBefore", "[I", true)
  | 11 => ("GiftDuelModel", "dross", "I", false)
  | 12 => ("GiftDuelModel", "tape", "[I", true)
  | 13 => ("GiftDuelModel", "taped", "I", false)
  | 14 => ("GiftDuelModel", "from", "I", false)
  | 15 => ("GiftDuelModel", "to", "I", false)
  | 16 => ("GiftDuelModel", "sort", "I", false)
  | 17 => ("GiftDuelModel", "worth", "J", false)
  | 18 => ("GiftDuelModel", "fault", "I", false)
  | 19 => ("GiftDuelModel", "bad", "Z", false)
  | 20 => ("GiftDuelModel", "ordered", "Z", false)
  | 21 => ("GiftDuelModel", "nClauses", "I", false)
  | 22 => ("GiftDuelModel", "nClause", "[I", true)
  | 23 => ("GiftDuelModel", "nCode", "I", false)
  | 24 => ("GiftDuelModel", "nOp", "[I", true)
  | 25 => ("GiftDuelModel", "nArg", "[I", true)
  | 26 => ("GiftDuelModel", "nLeaves", "I", false)
  | 27 => ("GiftDuelModel", "pile", "[I", true)
  | 28 => ("GiftDuelModel", "pileAt", "[I", true)
  | 29 => ("GiftDuelModel", "piled", "I", false)
  | 30 => ("GiftDuelModel", "opened", "I", false)
  | 31 => ("GiftDuelModel", "words", "[J", true)
  | 32 => ("GiftDuelModel", "orderWords", "[J", true)
  | 33 => ("GiftDuelModel", "law", "I", false)
  | 34 => ("GiftDuelModel", "set", "[J", true)
  | 35 => ("GiftDuelModel", "now", "[J", true)
  | 36 => ("GiftDuelModel", "rest", "[J", true)
  | 37 => ("GiftDuelModel", "broken", "Z", false)
  | 38 => ("GiftDuelModel", "value", "J", false)
  | 39 => ("GiftDuelModel", "sum", "J", false)
  | 40 => ("GiftDuelModel", "barren", "I", false)
  | 41 => ("GiftDuelModel", "goodOf", "[I", true)
  | 42 => ("GiftDuelModel", "worths", "[I", true)
  | 43 => ("GiftDuelModel", "costs1", "[I", true)
  | 44 => ("GiftDuelModel", "wins", "[Z", true)
  | 45 => ("GiftDuelModel", "grains", "[I", true)
  | 46 => ("GiftDuelModel", "yearly", "[I", true)
  | 47 => ("GiftDuelModel", "besieged", "[I", true)
  | 48 => ("GiftDuelModel", "dear", "[I", true)
  | 49 => ("GiftDuelModel", "told", "[I", true)
  | 50 => ("GiftDuelModel", "wayOf", "[I", true)
  | 51 => ("GiftDuelModel", "bestWay", "[I", true)
  | 52 => ("GiftDuelModel", "roadAt", "[I", true)
  | 53 => ("GiftDuelModel", "bestSafe", "I", false)
  | 54 => ("GiftDuelModel", "bestDays", "I", false)
  | 55 => ("GiftDuelModel", "bestRoads", "I", false)
  | 56 => ("GiftDuelModel", "ringSet", "I", false)
  | 57 => ("GiftDuelModel", "ringMany", "I", false)
  | 58 => ("GiftDuelModel", "bestRing", "[I", true)
  | 59 => ("GiftDuelModel", "bars", "[Z", true)
  | 60 => ("GiftDuelModel", "holders", "[I", true)
  | 61 => ("GiftDuelModel", "giftOf", "[I", true)
  | 62 => ("GiftDuelModel", "hadBy", "[I", true)
  | 63 => ("GiftDuelModel", "firstGifts", "[I", true)
  | 64 => ("GiftDuelModel", "giftWays", "I", false)
  | 65 => ("GiftDuelModel", "nOrder", "[I", true)
  | 66 => ("GiftDuelModel", "done", "I", false)
  | 67 => ("GiftDuelModel", "last", "I", false)
  | 68 => ("GiftDuelModel", "stopped", "I", false)
  | 69 => ("GiftDuelModel", "off", "Z", false)
  | 70 => ("GiftDuelModel", "state", "J", false)
  | 71 => ("GiftDuelModel", "drawn", "[I", true)
  | _ => ("GiftDuelModel", "nDrawn", "I", false)
def tyX12 : Nat → FieldType := fun k => match k with
  | 0 => .int
  | 1 => .int
  | 2 => .array .int
  | 3 => .array .int
  | 4 => .array .int
  | 5 => .array .boolean
  | 6 => .array .int
  | 7 => .array .int
  | 8 => .int
  | 9 => .array .int
  | 10 => .array .int
  | 11 => .int
  | 12 => .array .int
  | 13 => .int
  | 14 => .int
  | 15 => .int
  | 16 => .int
  | 17 => .long
  | 18 => .int
  | 19 => .boolean
  | 20 => .boolean
  | 21 => .int
  | 22 => .array .int
  | 23 => .int
  | 24 => .array .int
  | 25 => .array .int
  | 26 => .int
  | 27 => .array .int
  | 28 => .array .int
  | 29 => .int
  | 30 => .int
  | 31 => .array .long
  | 32 => .array .long
  | 33 => .int
  | 34 => .array .long
  | 35 => .array .long
  | 36 => .array .long
  | 37 => .boolean
  | 38 => .long
  | 39 => .long
  | 40 => .int
  | 41 => .array .int
  | 42 => .array .int
  | 43 => .array .int
  | 44 => .array .boolean
  | 45 => .array .int
  | 46 => .array .int
  | 47 => .array .int
  | 48 => .array .int
  | 49 => .array .int
  | 50 => .array .int
  | 51 => .array .int
  | 52 => .array .int
  | 53 => .int
  | 54 => .int
  | 55 => .int
  | 56 => .int
  | 57 => .int
  | 58 => .array .int
  | 59 => .array .boolean
  | 60 => .array .int
  | 61 => .array .int
  | 62 => .array .int
  | 63 => .array .int
  | 64 => .int
  | 65 => .array .int
  | 66 => .int
  | 67 => .int
  | 68 => .int
  | 69 => .boolean
  | 70 => .long
  | 71 => .array .int
  | _ => .int
abbrev wsX120 : List Cond := u_ws RX12 TX12 73
theorem nmX12 : ∀ a, a < 73 → ∀ b, b < 73 → a ≠ b → (TX12 a).2.1 ≠ (TX12 b).2.1 := by decide +kernel
theorem tyX12_ok : ∀ k, k < 73 → parseFieldDescriptor (TX12 k).2.2.1 = some (tyX12 k) := by decide +kernel
abbrev cX12_init : ByteArray := prog_14_method_1_code
def yX12_init : MethodName := ⟨RX12, "<init>", "()V"⟩
abbrev cX12_in : ByteArray := prog_14_method_3_code
def yX12_in : MethodName := ⟨RX12, "in", "(JJJ)Z"⟩
abbrev cX12_is : ByteArray := prog_14_method_4_code
def yX12_is : MethodName := ⟨RX12, "is", "(II)Z"⟩
abbrev cX12_within : ByteArray := prog_14_method_5_code
def yX12_within : MethodName := ⟨RX12, "within", "(JII)I"⟩
abbrev cX12_ones : ByteArray := prog_14_method_6_code
def yX12_ones : MethodName := ⟨RX12, "ones", "(I)I"⟩
abbrev cX12_tell : ByteArray := prog_14_method_7_code
def yX12_tell : MethodName := ⟨RX12, "tell", "(I)I"⟩
abbrev cX12_was : ByteArray := prog_14_method_8_code
def yX12_was : MethodName := ⟨RX12, "was", "(I)I"⟩
abbrev cX12_settled : ByteArray := prog_14_method_9_code
def yX12_settled : MethodName := ⟨RX12, "settled", "(I)I"⟩
abbrev cX12_keepRow : ByteArray := prog_14_method_10_code
def yX12_keepRow : MethodName := ⟨RX12, "keepRow", "(I)V"⟩
abbrev cX12_putBack : ByteArray := prog_14_method_11_code
def yX12_putBack : MethodName := ⟨RX12, "putBack", "(I)V"⟩
abbrev cX12_image : ByteArray := prog_14_method_12_code
def yX12_image : MethodName := ⟨RX12, "image", "(I)I"⟩
abbrev cX12_back : ByteArray := prog_14_method_13_code
def yX12_back : MethodName := ⟨RX12, "back", "(I)I"⟩
abbrev cX12_ofLord : ByteArray := prog_14_method_14_code
def yX12_ofLord : MethodName := ⟨RX12, "ofLord", "(II)I"⟩
abbrev cX12_ofGood : ByteArray := prog_14_method_15_code
def yX12_ofGood : MethodName := ⟨RX12, "ofGood", "(II)I"⟩
abbrev cX12_isLord : ByteArray := prog_14_method_16_code
def yX12_isLord : MethodName := ⟨RX12, "isLord", "(I)Z"⟩
abbrev cX12_isGood : ByteArray := prog_14_method_17_code
def yX12_isGood : MethodName := ⟨RX12, "isGood", "(I)Z"⟩
abbrev cX12_year : ByteArray := prog_14_method_18_code
def yX12_year : MethodName := ⟨RX12, "year", "()I"⟩
abbrev cX12_lord : ByteArray := prog_14_method_19_code
def yX12_lord : MethodName := ⟨RX12, "lord", "(II)I"⟩
abbrev cX12_held : ByteArray := prog_14_method_20_code
def yX12_held : MethodName := ⟨RX12, "held", "(I)I"⟩
abbrev cX12_costs : ByteArray := prog_14_method_21_code
def yX12_costs : MethodName := ⟨RX12, "costs", "(II)I"⟩
abbrev cX12_of : ByteArray := prog_14_method_22_code
def yX12_of : MethodName := ⟨RX12, "of", "(II)I"⟩
abbrev cX12_put : ByteArray := prog_14_method_23_code
def yX12_put : MethodName := ⟨RX12, "put", "(III)I"⟩
abbrev cX12_good1 : ByteArray := prog_14_method_24_code
def yX12_good1 : MethodName := ⟨RX12, "good1", "(III)I"⟩
abbrev cX12_good : ByteArray := prog_14_method_25_code
def yX12_good : MethodName := ⟨RX12, "good", "(III)I"⟩
abbrev cX12_at : ByteArray := prog_14_method_26_code
def yX12_at : MethodName := ⟨RX12, "at", "(II)I"⟩
abbrev cX12_terms : ByteArray := prog_14_method_27_code
def yX12_terms : MethodName := ⟨RX12, "terms", "(II)I"⟩
abbrev cX12_row : ByteArray := prog_14_method_28_code
def yX12_row : MethodName := ⟨RX12, "row", "()I"⟩
abbrev cX12_dross : ByteArray := prog_14_method_29_code
def yX12_dross : MethodName := ⟨RX12, "dross", "()I"⟩
abbrev cX12_four : ByteArray := prog_14_method_30_code
def yX12_four : MethodName := ⟨RX12, "four", "(I)V"⟩
abbrev cX12_feed : ByteArray := prog_14_method_31_code
def yX12_feed : MethodName := ⟨RX12, "feed", "(IIIII)I"⟩
abbrev cX12_end : ByteArray := prog_14_method_32_code
def yX12_end : MethodName := ⟨RX12, "end", "(I)I"⟩
abbrev cX12_isSmall : ByteArray := prog_14_method_33_code
def yX12_isSmall : MethodName := ⟨RX12, "isSmall", "(I)Z"⟩
abbrev cX12_isDigit : ByteArray := prog_14_method_34_code
def yX12_isDigit : MethodName := ⟨RX12, "isDigit", "(I)Z"⟩
abbrev cX12_begin : ByteArray := prog_14_method_35_code
def yX12_begin : MethodName := ⟨RX12, "begin", "()V"⟩
abbrev cX12_next : ByteArray := prog_14_method_36_code
def yX12_next : MethodName := ⟨RX12, "next", "()V"⟩
abbrev cX12_isWord : ByteArray := prog_14_method_37_code
def yX12_isWord : MethodName := ⟨RX12, "isWord", "(J)Z"⟩
abbrev cX12_isSign : ByteArray := prog_14_method_38_code
def yX12_isSign : MethodName := ⟨RX12, "isSign", "(I)Z"⟩
abbrev cX12_must : ByteArray := prog_14_method_39_code
def yX12_must : MethodName := ⟨RX12, "must", "(Z)V"⟩
abbrev cX12_number : ByteArray := prog_14_method_40_code
def yX12_number : MethodName := ⟨RX12, "number", "(JJ)I"⟩
abbrev cX12_fault : ByteArray := prog_14_method_41_code
def yX12_fault : MethodName := ⟨RX12, "fault", "()I"⟩
abbrev cX12_emit : ByteArray := prog_14_method_42_code
def yX12_emit : MethodName := ⟨RX12, "emit", "(II)V"⟩
abbrev cX12_push : ByteArray := prog_14_method_43_code
def yX12_push : MethodName := ⟨RX12, "push", "(II)V"⟩
abbrev cX12_binds : ByteArray := prog_14_method_44_code
def yX12_binds : MethodName := ⟨RX12, "binds", "(I)I"⟩
abbrev cX12_settle : ByteArray := prog_14_method_45_code
def yX12_settle : MethodName := ⟨RX12, "settle", "(I)V"⟩
abbrev cX12_inner : ByteArray := prog_14_method_46_code
def yX12_inner : MethodName := ⟨RX12, "inner", "()I"⟩
abbrev cX12_isCompared : ByteArray := prog_14_method_47_code
def yX12_isCompared : MethodName := ⟨RX12, "isCompared", "()Z"⟩
abbrev cX12_partAt : ByteArray := prog_14_method_48_code
def yX12_partAt : MethodName := ⟨RX12, "partAt", "()I"⟩
abbrev cX12_orderPartAt : ByteArray := prog_14_method_49_code
def yX12_orderPartAt : MethodName := ⟨RX12, "orderPartAt", "()I"⟩
abbrev cX12_openBracket : ByteArray := prog_14_method_50_code
def yX12_openBracket : MethodName := ⟨RX12, "openBracket", "(I)V"⟩
abbrev cX12_leaf : ByteArray := prog_14_method_51_code
def yX12_leaf : MethodName := ⟨RX12, "leaf", "(ZII)V"⟩
abbrev cX12_readPart : ByteArray := prog_14_method_52_code
def yX12_readPart : MethodName := ⟨RX12, "readPart", "()I"⟩
abbrev cX12_readPlain : ByteArray := prog_14_method_53_code
def yX12_readPlain : MethodName := ⟨RX12, "readPlain", "()I"⟩
abbrev cX12_behindSum : ByteArray := prog_14_method_54_code
def yX12_behindSum : MethodName := ⟨RX12, "behindSum", "(Z)I"⟩
abbrev cX12_behindTest : ByteArray := prog_14_method_55_code
def yX12_behindTest : MethodName := ⟨RX12, "behindTest", "()I"⟩
abbrev cX12_readExpression : ByteArray := prog_14_method_56_code
def yX12_readExpression : MethodName := ⟨RX12, "readExpression", "(Z)V"⟩
abbrev cX12_beginText : ByteArray := prog_14_method_57_code
def yX12_beginText : MethodName := ⟨RX12, "beginText", "(Z)V"⟩
abbrev cX12_endText : ByteArray := prog_14_method_58_code
def yX12_endText : MethodName := ⟨RX12, "endText", "()V"⟩
abbrev cX12_readLaw : ByteArray := prog_14_method_59_code
def yX12_readLaw : MethodName := ⟨RX12, "readLaw", "()V"⟩
abbrev cX12_law : ByteArray := prog_14_method_60_code
def yX12_law : MethodName := ⟨RX12, "law", "()I"⟩
abbrev cX12_force : ByteArray := prog_14_method_61_code
def yX12_force : MethodName := ⟨RX12, "force", "(I)I"⟩
abbrev cX12_reckon : ByteArray := prog_14_method_62_code
def yX12_reckon : MethodName := ⟨RX12, "reckon", "(IJJ)J"⟩
abbrev cX12_reckonAll : ByteArray := prog_14_method_63_code
def yX12_reckonAll : MethodName := ⟨RX12, "reckonAll", "(II)V"⟩
abbrev cX12_askedOf : ByteArray := prog_14_method_64_code
def yX12_askedOf : MethodName := ⟨RX12, "askedOf", "(II)J"⟩
abbrev cX12_isSo : ByteArray := prog_14_method_65_code
def yX12_isSo : MethodName := ⟨RX12, "isSo", "(I)Z"⟩
abbrev cX12_tells1 : ByteArray := prog_14_method_66_code
def yX12_tells1 : MethodName := ⟨RX12, "tells1", "(IIIIIIJ)J"⟩
abbrev cX12_worthOf : ByteArray := prog_14_method_67_code
def yX12_worthOf : MethodName := ⟨RX12, "worthOf", "(III)I"⟩
abbrev cX12_costOf : ByteArray := prog_14_method_68_code
def yX12_costOf : MethodName := ⟨RX12, "costOf", "(III)I"⟩
abbrev cX12_isBarred : ByteArray := prog_14_method_69_code
def yX12_isBarred : MethodName := ⟨RX12, "isBarred", "(III)Z"⟩
abbrev cX12_asks : ByteArray := prog_14_method_70_code
def yX12_asks : MethodName := ⟨RX12, "asks", "(III)I"⟩
abbrev cX12_debtAt : ByteArray := prog_14_method_71_code
def yX12_debtAt : MethodName := ⟨RX12, "debtAt", "(II)I"⟩
abbrev cX12_debtsOf : ByteArray := prog_14_method_72_code
def yX12_debtsOf : MethodName := ⟨RX12, "debtsOf", "(I)I"⟩
abbrev cX12_gift : ByteArray := prog_14_method_73_code
def yX12_gift : MethodName := ⟨RX12, "gift", "(II)I"⟩
abbrev cX12_wait1 : ByteArray := prog_14_method_74_code
def yX12_wait1 : MethodName := ⟨RX12, "wait1", "()I"⟩
abbrev cX12_remember : ByteArray := prog_14_method_75_code
def yX12_remember : MethodName := ⟨RX12, "remember", "(I)V"⟩
abbrev cX12_giveNow : ByteArray := prog_14_method_76_code
def yX12_giveNow : MethodName := ⟨RX12, "giveNow", "(II)I"⟩
abbrev cX12_waitNow : ByteArray := prog_14_method_77_code
def yX12_waitNow : MethodName := ⟨RX12, "waitNow", "()I"⟩
abbrev cX12_give : ByteArray := prog_14_method_78_code
def yX12_give : MethodName := ⟨RX12, "give", "(II)I"⟩
abbrev cX12_await : ByteArray := prog_14_method_79_code
def yX12_await : MethodName := ⟨RX12, "await", "()I"⟩
abbrev cX12_undo : ByteArray := prog_14_method_80_code
def yX12_undo : MethodName := ⟨RX12, "undo", "()I"⟩
abbrev cX12_undoRow : ByteArray := prog_14_method_81_code
def yX12_undoRow : MethodName := ⟨RX12, "undoRow", "(I)V"⟩
abbrev cX12_debt : ByteArray := prog_14_method_82_code
def yX12_debt : MethodName := ⟨RX12, "debt", "(III)I"⟩
abbrev cX12_owed : ByteArray := prog_14_method_83_code
def yX12_owed : MethodName := ⟨RX12, "owed", "(II)I"⟩
abbrev cX12_layGoods : ByteArray := prog_14_method_84_code
def yX12_layGoods : MethodName := ⟨RX12, "layGoods", "(III)V"⟩
abbrev cX12_lastOf : ByteArray := prog_14_method_85_code
def yX12_lastOf : MethodName := ⟨RX12, "lastOf", "(I)I"⟩
abbrev cX12_grainLeft : ByteArray := prog_14_method_86_code
def yX12_grainLeft : MethodName := ⟨RX12, "grainLeft", "(II)I"⟩
abbrev cX12_canGive : ByteArray := prog_14_method_87_code
def yX12_canGive : MethodName := ⟨RX12, "canGive", "(IIII)Z"⟩
abbrev cX12_isWon : ByteArray := prog_14_method_88_code
def yX12_isWon : MethodName := ⟨RX12, "isWon", "(III)Z"⟩
abbrev cX12_findWins : ByteArray := prog_14_method_89_code
def yX12_findWins : MethodName := ⟨RX12, "findWins", "()V"⟩
abbrev cX12_duel : ByteArray := prog_14_method_90_code
def yX12_duel : MethodName := ⟨RX12, "duel", "(III)I"⟩
abbrev cX12_playOf : ByteArray := prog_14_method_91_code
def yX12_playOf : MethodName := ⟨RX12, "playOf", "()I"⟩
abbrev cX12_ruinedIn : ByteArray := prog_14_method_92_code
def yX12_ruinedIn : MethodName := ⟨RX12, "ruinedIn", "(III)I"⟩
abbrev cX12_layYears : ByteArray := prog_14_method_93_code
def yX12_layYears : MethodName := ⟨RX12, "layYears", "(II)V"⟩
abbrev cX12_ruin : ByteArray := prog_14_method_94_code
def yX12_ruin : MethodName := ⟨RX12, "ruin", "(II)I"⟩
abbrev cX12_siege : ByteArray := prog_14_method_95_code
def yX12_siege : MethodName := ⟨RX12, "siege", "(IIII)I"⟩
abbrev cX12_herald : ByteArray := prog_14_method_96_code
def yX12_herald : MethodName := ⟨RX12, "herald", "(I)I"⟩
abbrev cX12_toldBy : ByteArray := prog_14_method_97_code
def yX12_toldBy : MethodName := ⟨RX12, "toldBy", "(II)I"⟩
abbrev cX12_middle : ByteArray := prog_14_method_98_code
def yX12_middle : MethodName := ⟨RX12, "middle", "(III)I"⟩
abbrev cX12_tells : ByteArray := prog_14_method_99_code
def yX12_tells : MethodName := ⟨RX12, "tells", "(II)I"⟩
abbrev cX12_bribe : ByteArray := prog_14_method_100_code
def yX12_bribe : MethodName := ⟨RX12, "bribe", "(III)I"⟩
abbrev cX12_road : ByteArray := prog_14_method_101_code
def yX12_road : MethodName := ⟨RX12, "road", "(IIII)I"⟩
abbrev cX12_weighWay : ByteArray := prog_14_method_102_code
def yX12_weighWay : MethodName := ⟨RX12, "weighWay", "(I)V"⟩
abbrev cX12_isAhead : ByteArray := prog_14_method_103_code
def yX12_isAhead : MethodName := ⟨RX12, "isAhead", "(I)Z"⟩
abbrev cX12_goesOn : ByteArray := prog_14_method_104_code
def yX12_goesOn : MethodName := ⟨RX12, "goesOn", "(II)Z"⟩
abbrev cX12_findWay : ByteArray := prog_14_method_105_code
def yX12_findWay : MethodName := ⟨RX12, "findWay", "(II)V"⟩
abbrev cX12_way : ByteArray := prog_14_method_106_code
def yX12_way : MethodName := ⟨RX12, "way", "(III)I"⟩
abbrev cX12_weighRing : ByteArray := prog_14_method_107_code
def yX12_weighRing : MethodName := ⟨RX12, "weighRing", "(I)V"⟩
abbrev cX12_isFresh : ByteArray := prog_14_method_108_code
def yX12_isFresh : MethodName := ⟨RX12, "isFresh", "(I)Z"⟩
abbrev cX12_findRing : ByteArray := prog_14_method_109_code
def yX12_findRing : MethodName := ⟨RX12, "findRing", "()V"⟩
abbrev cX12_ring : ByteArray := prog_14_method_110_code
def yX12_ring : MethodName := ⟨RX12, "ring", "(I)I"⟩
abbrev cX12_shelf : ByteArray := prog_14_method_111_code
def yX12_shelf : MethodName := ⟨RX12, "shelf", "(II)I"⟩
abbrev cX12_isTold : ByteArray := prog_14_method_112_code
def yX12_isTold : MethodName := ⟨RX12, "isTold", "()Z"⟩
abbrev cX12_canBe : ByteArray := prog_14_method_113_code
def yX12_canBe : MethodName := ⟨RX12, "canBe", "(I)Z"⟩
abbrev cX12_keepGifts : ByteArray := prog_14_method_114_code
def yX12_keepGifts : MethodName := ⟨RX12, "keepGifts", "(I)V"⟩
abbrev cX12_findGifts : ByteArray := prog_14_method_115_code
def yX12_findGifts : MethodName := ⟨RX12, "findGifts", "(I)V"⟩
abbrev cX12_found : ByteArray := prog_14_method_116_code
def yX12_found : MethodName := ⟨RX12, "found", "(II)I"⟩
abbrev cX12_beats : ByteArray := prog_14_method_117_code
def yX12_beats : MethodName := ⟨RX12, "beats", "(III)I"⟩
abbrev cX12_readSum : ByteArray := prog_14_method_118_code
def yX12_readSum : MethodName := ⟨RX12, "readSum", "(I)V"⟩
abbrev cX12_readOrder : ByteArray := prog_14_method_119_code
def yX12_readOrder : MethodName := ⟨RX12, "readOrder", "()V"⟩
abbrev cX12_sumOf : ByteArray := prog_14_method_120_code
def yX12_sumOf : MethodName := ⟨RX12, "sumOf", "(I)J"⟩
abbrev cX12_run : ByteArray := prog_14_method_121_code
def yX12_run : MethodName := ⟨RX12, "run", "(I)I"⟩
abbrev cX12_orders : ByteArray := prog_14_method_122_code
def yX12_orders : MethodName := ⟨RX12, "orders", "()I"⟩
abbrev cX12_stopped : ByteArray := prog_14_method_123_code
def yX12_stopped : MethodName := ⟨RX12, "stopped", "()I"⟩
abbrev cX12_draw : ByteArray := prog_14_method_124_code
def yX12_draw : MethodName := ⟨RX12, "draw", "(I)I"⟩
abbrev cX12_generation : ByteArray := prog_14_method_125_code
def yX12_generation : MethodName := ⟨RX12, "generation", "(II)I"⟩
abbrev cX12_drawn : ByteArray := prog_14_method_126_code
def yX12_drawn : MethodName := ⟨RX12, "drawn", "(II)I"⟩
abbrev cX12_count : ByteArray := prog_14_method_127_code
def yX12_count : MethodName := ⟨RX12, "count", "(I)I"⟩
abbrev cX12_allDebts : ByteArray := prog_14_method_128_code
def yX12_allDebts : MethodName := ⟨RX12, "allDebts", "()I"⟩
abbrev cX12_status : ByteArray := prog_14_method_129_code
def yX12_status : MethodName := ⟨RX12, "status", "()I"⟩
def RJx145de : String := "java/io/Serializable"
def RJx9f9b0 : String := "java/lang/CharSequence"
def RJxb160c : String := "java/lang/Comparable"
def RJ6 : String := "java/lang/Integer"
abbrev cJ6_numberOfTrailingZeros_0f7a4 : ByteArray := prog_15_method_48_code
def yJ6_numberOfTrailingZeros_0f7a4 : MethodName := ⟨RJ6, "numberOfTrailingZeros", "(I)I"⟩
abbrev cJ6_bitCount_0f7a4 : ByteArray := prog_15_method_49_code
def yJ6_bitCount_0f7a4 : MethodName := ⟨RJ6, "bitCount", "(I)I"⟩
def RJ9 : String := "java/lang/Math"
abbrev cJ9_max_7cf53 : ByteArray := prog_16_method_65_code
def yJ9_max_7cf53 : MethodName := ⟨RJ9, "max", "(II)I"⟩
abbrev cJ9_min_7cf53 : ByteArray := prog_16_method_69_code
def yJ9_min_7cf53 : MethodName := ⟨RJ9, "min", "(II)I"⟩
def RJ0 : String := "java/lang/String"
abbrev cJ0_length_8abf5 : ByteArray := prog_17_method_54_code
def yJ0_length_8abf5 : MethodName := ⟨RJ0, "length", "()I"⟩
abbrev cJ0_charAt_5068e : ByteArray := prog_17_method_56_code
def yJ0_charAt_5068e : MethodName := ⟨RJ0, "charAt", "(I)C"⟩
abbrev cJ0_coder_7d493 : ByteArray := prog_17_method_152_code
def yJ0_coder_7d493 : MethodName := ⟨RJ0, "coder", "()B"⟩
abbrev cJ0_isLatin1_aae02 : ByteArray := prog_17_method_154_code
def yJ0_isLatin1_aae02 : MethodName := ⟨RJ0, "isLatin1", "()Z"⟩
abbrev cJ0_checkIndex_df160 : ByteArray := prog_17_method_155_code
def yJ0_checkIndex_df160 : MethodName := ⟨RJ0, "checkIndex", "(II)V"⟩
def RJ1 : String := "java/lang/StringLatin1"
abbrev cJ1_charAt_3b067 : ByteArray := prog_18_method_2_code
def yJ1_charAt_3b067 : MethodName := ⟨RJ1, "charAt", "([BI)C"⟩
def RJ2 : String := "java/lang/StringUTF16"
abbrev cJ2_getChar_3b067 : ByteArray := prog_19_method_5_code
def yJ2_getChar_3b067 : MethodName := ⟨RJ2, "getChar", "([BI)C"⟩
abbrev cJ2_length_9d52b : ByteArray := prog_19_method_6_code
def yJ2_length_9d52b : MethodName := ⟨RJ2, "length", "([B)I"⟩
abbrev cJ2_charAt_3b067 : ByteArray := prog_19_method_83_code
def yJ2_charAt_3b067 : MethodName := ⟨RJ2, "charAt", "([BI)C"⟩
abbrev cJ2_checkIndex_2214a : ByteArray := prog_19_method_91_code
def yJ2_checkIndex_2214a : MethodName := ⟨RJ2, "checkIndex", "(I[B)V"⟩
def RJ10 : String := "java/lang/System"
def RJxfd54e : String := "java/lang/constant/Constable"
def RJx3cf43 : String := "java/lang/constant/ConstantDesc"
def RJ7 : String := "java/util/Arrays"
abbrev cJ7_rangeCheck_23922 : ByteArray := prog_21_method_30_code
def yJ7_rangeCheck_23922 : MethodName := ⟨RJ7, "rangeCheck", "(III)V"⟩
abbrev cJ7_fill_53178 : ByteArray := prog_21_method_103_code
def yJ7_fill_53178 : MethodName := ⟨RJ7, "fill", "([II)V"⟩
abbrev cJ7_fill_fda19 : ByteArray := prog_21_method_104_code
def yJ7_fill_fda19 : MethodName := ⟨RJ7, "fill", "([IIII)V"⟩
def RJ3 : String := "jdk/internal/util/Preconditions"
abbrev cJ3_checkIndex_8e157 : ByteArray := prog_22_method_11_code
def yJ3_checkIndex_8e157 : MethodName := ⟨RJ3, "checkIndex", "(IILjava/util/function/BiFunction;)I"⟩
def RL : String := "GiftDuelLaw"
abbrev cL_law : ByteArray := code
def yL_law : MethodName := ⟨RL, "law", "([I)Z"⟩
abbrev vwCl : List vw_C := [(RX0, TX0, 3), (RX1, TX1, 6), (RX2, TX2, 3), (RX3, TX3, 8), (RX4, TX4, 4), (RX5, TX5, 11), (RX6, TX6, 9), (RX7, TX7, 8), (RX8, TX8, 5), (RX9, TX9, 9), (RX10, TX10, 3), (RX11, TX11, 15), (RX12, TX12, 73)]
def lw_gd (w : Cond) : Cond := if goodWord w = true then w else Cond.tt
def lw_g : List Cond := lw_tbl.map lw_gd
theorem lw_gd_good (w : Cond) : goodWord (lw_gd w) = true := by
  unfold lw_gd
  by_cases h : goodWord w = true
  · rw [if_pos h]; exact h
  · rw [if_neg h]; rfl
theorem lw_g_in {w : Cond} (h : w ∈ lw_tbl) (hg : goodWord w = true) : w ∈ lw_g := List.mem_map.mpr ⟨w, h, by rw [lw_gd, if_pos hg]⟩
theorem lw_g_at {w : Cond} (i : Nat) (h : lw_tbl[i]? = some w) (hg : goodWord w = true) : w ∈ lw_g := lw_g_in (List.mem_of_getElem? h) hg
theorem lw_g_good : lw_g.all goodWord = true := List.all_eq_true.mpr fun w hw => by
  obtain ⟨x, -, rfl⟩ := List.mem_map.mp hw
  exact lw_gd_good x
theorem lw_g_hts {args : Array Value} {s : State} (h : ∀ w ∈ lw_tbl, w.before args s = true) : ∀ w ∈ lw_g, w.before args s = true := by
  intro w hw
  obtain ⟨x, hx, rfl⟩ := List.mem_map.mp hw
  unfold lw_gd
  by_cases h1 : goodWord x = true
  · rw [if_pos h1]; exact h x hx
  · rw [if_neg h1]; rfl
theorem lw_g_GoodIn (a : Cond) : GoodIn (a :: lw_g) lw_g := fun w hw => ⟨List.mem_cons_of_mem _ hw, good_of_word (List.all_eq_true.mp lw_g_good w hw)⟩
theorem lw_g_GoodInC {a : Cond} (h : a ∈ lw_g) : GoodIn lw_g (a :: lw_g) := fun w hw => by
  rcases List.mem_cons.mp hw with rfl | hw
  · exact ⟨h, good_of_word (List.all_eq_true.mp lw_g_good _ h)⟩
  · exact ⟨hw, good_of_word (List.all_eq_true.mp lw_g_good w hw)⟩
theorem lw_inX {R : String} {T : u_T} {N : Nat} {ps : List Nat} (h : ((List.range N).zip ps).all (fun q => decide (lw_tbl[q.2]? = some (u_lay R T q.1))) = true) (hl : ps.length = N) : ∀ w ∈ u_ws R T N, w ∈ lw_g := by
  intro w hw
  obtain ⟨k, hk, rfl⟩ := List.mem_map.mp hw
  have hk' : k < N := List.mem_range.mp hk
  have hm : (k, ps[k]'(by omega)) ∈ (List.range N).zip ps := by
    rw [List.mem_iff_getElem]
    exact ⟨k, by simp; omega, by simp⟩
  have h1 := List.all_eq_true.mp h _ hm
  simp only [decide_eq_true_eq] at h1
  refine lw_g_at _ h1 ?_
  unfold u_lay; split <;> rfl
set_option maxRecDepth 100000 in
theorem inX0_k : ((List.range 3).zip [295, 297, 299]).all (fun q => decide (lw_tbl[q.2]? = some (u_lay RX0 TX0 q.1))) = true := by decide +kernel
theorem inX0 : ∀ w ∈ u_ws RX0 TX0 3, w ∈ lw_g := lw_inX inX0_k rfl
set_option maxRecDepth 100000 in
theorem inX1_k : ((List.range 6).zip [349, 351, 353, 355, 357, 359]).all (fun q => decide (lw_tbl[q.2]? = some (u_lay RX1 TX1 q.1))) = true := by decide +kernel
theorem inX1 : ∀ w ∈ u_ws RX1 TX1 6, w ∈ lw_g := lw_inX inX1_k rfl
set_option maxRecDepth 100000 in
theorem inX2_k : ((List.range 3).zip [277, 279, 281]).all (fun q => decide (lw_tbl[q.2]? = some (u_lay RX2 TX2 q.1))) = true := by decide +kernel
theorem inX2 : ∀ w ∈ u_ws RX2 TX2 3, w ∈ lw_g := lw_inX inX2_k rfl
set_option maxRecDepth 100000 in
theorem inX3_k : ((List.range 8).zip [320, 322, 324, 326, 328, 330, 332, 334]).all (fun q => decide (lw_tbl[q.2]? = some (u_lay RX3 TX3 q.1))) = true := by decide +kernel
theorem inX3 : ∀ w ∈ u_ws RX3 TX3 8, w ∈ lw_g := lw_inX inX3_k rfl
set_option maxRecDepth 100000 in
theorem inX4_k : ((List.range 4).zip [194, 196, 198, 200]).all (fun q => decide (lw_tbl[q.2]? = some (u_lay RX4 TX4 q.1))) = true := by decide +kernel
theorem inX4 : ∀ w ∈ u_ws RX4 TX4 4, w ∈ lw_g := lw_inX inX4_k rfl
set_option maxRecDepth 100000 in
theorem inX5_k : ((List.range 11).zip [245, 247, 249, 251, 253, 255, 257, 259, 261, 263, 265]).all (fun q => decide (lw_tbl[q.2]? = some (u_lay RX5 TX5 q.1))) = true := by decide +kernel
theorem inX5 : ∀ w ∈ u_ws RX5 TX5 11, w ∈ lw_g := lw_inX inX5_k rfl
set_option maxRecDepth 100000 in
theorem inX6_k : ((List.range 9).zip [442, 444, 446, 448, 450, 452, 454, 456, 458]).all (fun q => decide (lw_tbl[q.2]? = some (u_lay RX6 TX6 q.1))) = true := by decide +kernel
theorem inX6 : ∀ w ∈ u_ws RX6 TX6 9, w ∈ lw_g := lw_inX inX6_k rfl
set_option maxRecDepth 100000 in
theorem inX7_k : ((List.range 8).zip [376, 378, 380, 382, 384, 386, 388, 390]).all (fun q => decide (lw_tbl[q.2]? = some (u_lay RX7 TX7 q.1))) = true := by decide +kernel
theorem inX7 : ∀ w ∈ u_ws RX7 TX7 8, w ∈ lw_g := lw_inX inX7_k rfl
set_option maxRecDepth 100000 in
theorem inX8_k : ((List.range 5).zip [223, 225, 227, 229, 231]).all (fun q => decide (lw_tbl[q.2]? = some (u_lay RX8 TX8 q.1))) = true := by decide +kernel
theorem inX8 : ∀ w ∈ u_ws RX8 TX8 5, w ∈ lw_g := lw_inX inX8_k rfl
set_option maxRecDepth 100000 in
theorem inX9_k : ((List.range 9).zip [408, 410, 412, 414, 416, 418, 420, 422, 424]).all (fun q => decide (lw_tbl[q.2]? = some (u_lay RX9 TX9 q.1))) = true := by decide +kernel
theorem inX9 : ∀ w ∈ u_ws RX9 TX9 9, w ∈ lw_g := lw_inX inX9_k rfl
set_option maxRecDepth 100000 in
theorem inX10_k : ((List.range 3).zip [176, 178, 180]).all (fun q => decide (lw_tbl[q.2]? = some (u_lay RX10 TX10 q.1))) = true := by decide +kernel
theorem inX10 : ∀ w ∈ u_ws RX10 TX10 3, w ∈ lw_g := lw_inX inX10_k rfl
set_option maxRecDepth 100000 in
theorem inX11_k : ((List.range 15).zip [477, 479, 481, 483, 485, 487, 489, 491, 493, 495, 497, 499, 501, 503, 505]).all (fun q => decide (lw_tbl[q.2]? = some (u_lay RX11 TX11 q.1))) = true := by decide +kernel
theorem inX11 : ∀ w ∈ u_ws RX11 TX11 15, w ∈ lw_g := lw_inX inX11_k rfl
set_option maxRecDepth 100000 in
theorem inX12_k : ((List.range 73).zip [1466, 1468, 1470, 1472, 1474, 1476, 1478, 1480, 1482, 1484, 1486, 1488, 1490, 1492, 1494, 1496, 1498, 1500, 1502, 1504, 1506, 1508, 1510, 1512, 1514, 1516, 1518, 1520, 1522, 1524, 1526, 1528, 1530, 1532, 1534, 1536, 1538, 1540, 1542, 1544, 1546, 1548, 1550, 1552, 1554, 1556, 1558, 1560, 1562, 1564, 1566, 1568, 1570, 1572, 1574, 1576, 1578, 1580, 1582, 1584, 1586, 1588, 1590, 1592, 1594, 1596, 1598, 1600, 1602, 1604, 1606, 1608, 1610]).all (fun q => decide (lw_tbl[q.2]? = some (u_lay RX12 TX12 q.1))) = true := by decide +kernel
theorem inX12 : ∀ w ∈ u_ws RX12 TX12 73, w ∈ lw_g := lw_inX inX12_k rfl
