theorem lw_g1 {w : Cond} (i : Nat) (h : tables_1_1[i]? = some w) (hg : goodWord w = true) : w ∈ lw_g := lw_g_in (List.mem_append_right _ (show w ∈ tables_1 from List.mem_append_left _ (List.mem_of_getElem? h))) hg
theorem lw_g2 {w : Cond} (i : Nat) (h : tables_1_2[i]? = some w) (hg : goodWord w = true) : w ∈ lw_g := lw_g_in (List.mem_append_right _ (show w ∈ tables_1 from List.mem_append_right _ (List.mem_append_left _ (List.mem_of_getElem? h)))) hg
theorem lw_g3 {w : Cond} (i : Nat) (h : tables_1_3[i]? = some w) (hg : goodWord w = true) : w ∈ lw_g := lw_g_in (List.mem_append_right _ (show w ∈ tables_1 from List.mem_append_right _ (List.mem_append_right _ (List.mem_append_left _ (List.mem_of_getElem? h))))) hg
theorem lw_g4 {w : Cond} (i : Nat) (h : tables_1_4[i]? = some w) (hg : goodWord w = true) : w ∈ lw_g := lw_g_in (List.mem_append_right _ (show w ∈ tables_1 from List.mem_append_right _ (List.mem_append_right _ (List.mem_append_right _ (List.mem_append_left _ (List.mem_of_getElem? h)))))) hg
theorem lw_g5 {w : Cond} (i : Nat) (h : tables_1_5[i]? = some w) (hg : goodWord w = true) : w ∈ lw_g := lw_g_in (List.mem_append_right _ (show w ∈ tables_1 from List.mem_append_right _ (List.mem_append_right _ (List.mem_append_right _ (List.mem_append_right _ (List.mem_append_left _ (List.mem_of_getElem? h))))))) hg
theorem lw_g6 {w : Cond} (i : Nat) (h : tables_1_6[i]? = some w) (hg : goodWord w = true) : w ∈ lw_g := lw_g_in (List.mem_append_right _ (show w ∈ tables_1 from List.mem_append_right _ (List.mem_append_right _ (List.mem_append_right _ (List.mem_append_right _ (List.mem_append_right _ (List.mem_append_left _ (List.mem_of_getElem? h)))))))) hg
theorem lw_g7 {w : Cond} (i : Nat) (h : tables_1_7[i]? = some w) (hg : goodWord w = true) : w ∈ lw_g := lw_g_in (List.mem_append_right _ (show w ∈ tables_1 from List.mem_append_right _ (List.mem_append_right _ (List.mem_append_right _ (List.mem_append_right _ (List.mem_append_right _ (List.mem_append_right _ (List.mem_append_left _ (List.mem_of_getElem? h))))))))) hg
theorem lw_g8 {w : Cond} (i : Nat) (h : tables_1_8[i]? = some w) (hg : goodWord w = true) : w ∈ lw_g := lw_g_in (List.mem_append_right _ (show w ∈ tables_1 from List.mem_append_right _ (List.mem_append_right _ (List.mem_append_right _ (List.mem_append_right _ (List.mem_append_right _ (List.mem_append_right _ (List.mem_append_right _ (List.mem_append_left _ (List.mem_of_getElem? h)))))))))) hg
theorem lw_g9 {w : Cond} (i : Nat) (h : tables_1_9[i]? = some w) (hg : goodWord w = true) : w ∈ lw_g := lw_g_in (List.mem_append_right _ (show w ∈ tables_1 from List.mem_append_right _ (List.mem_append_right _ (List.mem_append_right _ (List.mem_append_right _ (List.mem_append_right _ (List.mem_append_right _ (List.mem_append_right _ (List.mem_append_right _ (List.mem_of_getElem? h)))))))))) hg
theorem lw_gs {w : Cond} (i : Nat) (h : (k2_sels lw_privs)[i]? = some w) : w ∈ lw_g := by
  have hm : w ∈ k2_sels lw_privs := List.mem_of_getElem? h
  refine lw_g_in (List.mem_append_left _ hm) ?_
  obtain ⟨q, -, rfl⟩ := List.mem_map.mp hm
  rfl
theorem wd_0 : Cond.selects "GiftDuel" ⟨"GiftDuel", "refuse", "(I)I"⟩ ⟨"GiftDuel", "refuse", "(I)I"⟩ ∈ lw_g := lw_gs 0 rfl
theorem wd_1 : Cond.selects "GiftDuel" ⟨"GiftDuel", "accept", "(I)I"⟩ ⟨"GiftDuel", "accept", "(I)I"⟩ ∈ lw_g := lw_gs 1 rfl
theorem wd_2 : Cond.selects "GiftDuel$Judge" ⟨"GiftDuel$Judge", "ask", "(LGiftDuel$World;II)V"⟩ ⟨"GiftDuel$Judge", "ask", "(LGiftDuel$World;II)V"⟩ ∈ lw_g := lw_gs 2 rfl
theorem wd_3 : Cond.selects "GiftDuel$Judge" ⟨"GiftDuel$Judge", "told", "(LGiftDuel$Text;III)I"⟩ ⟨"GiftDuel$Judge", "told", "(LGiftDuel$Text;III)I"⟩ ∈ lw_g := lw_gs 3 rfl
theorem wd_4 : Cond.selects "GiftDuel$Text" ⟨"GiftDuel$Text", "value", "(II[I[I)I"⟩ ⟨"GiftDuel$Text", "value", "(II[I[I)I"⟩ ∈ lw_g := lw_gs 4 rfl
theorem wd_5 : Cond.selects "GiftDuel$World" ⟨"GiftDuel$World", "held", "(I)I"⟩ ⟨"GiftDuel$World", "held", "(I)I"⟩ ∈ lw_g := lw_gs 5 rfl
theorem wd_6 : Cond.selects "GiftDuel" ⟨"GiftDuel", "comes", "(III)Z"⟩ ⟨"GiftDuel", "comes", "(III)Z"⟩ ∈ lw_g := lw_gs 6 rfl
theorem wd_7 : Cond.selects "GiftDuel$Reader" ⟨"GiftDuel$Reader", "scan", "()V"⟩ ⟨"GiftDuel$Reader", "scan", "()V"⟩ ∈ lw_g := lw_gs 7 rfl
theorem wd_8 : Cond.selects "GiftDuel$Reader" ⟨"GiftDuel$Reader", "wordOf", "(II)I"⟩ ⟨"GiftDuel$Reader", "wordOf", "(II)I"⟩ ∈ lw_g := lw_gs 8 rfl
theorem wd_9 : Cond.selects "GiftDuel$Reader" ⟨"GiftDuel$Reader", "numberOf", "(II)I"⟩ ⟨"GiftDuel$Reader", "numberOf", "(II)I"⟩ ∈ lw_g := lw_gs 9 rfl
theorem wd_10 : Cond.selects "GiftDuel$Reader" ⟨"GiftDuel$Reader", "lawClause", "()Z"⟩ ⟨"GiftDuel$Reader", "lawClause", "()Z"⟩ ∈ lw_g := lw_gs 10 rfl
theorem wd_11 : Cond.selects "GiftDuel$Reader" ⟨"GiftDuel$Reader", "wrong", "()Z"⟩ ⟨"GiftDuel$Reader", "wrong", "()Z"⟩ ∈ lw_g := lw_gs 11 rfl
theorem wd_12 : Cond.selects "GiftDuel$Reader" ⟨"GiftDuel$Reader", "advance", "()V"⟩ ⟨"GiftDuel$Reader", "advance", "()V"⟩ ∈ lw_g := lw_gs 12 rfl
theorem wd_13 : Cond.selects "GiftDuel$Reader" ⟨"GiftDuel$Reader", "sumOf", "(II)Z"⟩ ⟨"GiftDuel$Reader", "sumOf", "(II)Z"⟩ ∈ lw_g := lw_gs 13 rfl
theorem wd_14 : Cond.selects "GiftDuel$Reader" ⟨"GiftDuel$Reader", "sum", "(I)Z"⟩ ⟨"GiftDuel$Reader", "sum", "(I)Z"⟩ ∈ lw_g := lw_gs 14 rfl
theorem wd_15 : Cond.selects "GiftDuel$Reader" ⟨"GiftDuel$Reader", "term", "(I)Z"⟩ ⟨"GiftDuel$Reader", "term", "(I)Z"⟩ ∈ lw_g := lw_gs 15 rfl
theorem wd_16 : Cond.selects "GiftDuel$Reader" ⟨"GiftDuel$Reader", "part", "(I)Z"⟩ ⟨"GiftDuel$Reader", "part", "(I)Z"⟩ ∈ lw_g := lw_gs 16 rfl
theorem wd_17 : Cond.selects "GiftDuel$Reader" ⟨"GiftDuel$Reader", "bracketed", "(III)Z"⟩ ⟨"GiftDuel$Reader", "bracketed", "(III)Z"⟩ ∈ lw_g := lw_gs 17 rfl
theorem wd_18 : Cond.selects "GiftDuel$Reader" ⟨"GiftDuel$Reader", "test", "(I)Z"⟩ ⟨"GiftDuel$Reader", "test", "(I)Z"⟩ ∈ lw_g := lw_gs 18 rfl
theorem wd_19 : Cond.selects "GiftDuel$Reader" ⟨"GiftDuel$Reader", "both", "(I)Z"⟩ ⟨"GiftDuel$Reader", "both", "(I)Z"⟩ ∈ lw_g := lw_gs 19 rfl
theorem wd_20 : Cond.selects "GiftDuel$Reader" ⟨"GiftDuel$Reader", "plain", "(I)Z"⟩ ⟨"GiftDuel$Reader", "plain", "(I)Z"⟩ ∈ lw_g := lw_gs 20 rfl
theorem wd_21 : Cond.selects "GiftDuel$Reader" ⟨"GiftDuel$Reader", "comparison", "(I)Z"⟩ ⟨"GiftDuel$Reader", "comparison", "(I)Z"⟩ ∈ lw_g := lw_gs 21 rfl
theorem wd_22 : Cond.selects "GiftDuel$Reader" ⟨"GiftDuel$Reader", "lawWord", "()I"⟩ ⟨"GiftDuel$Reader", "lawWord", "()I"⟩ ∈ lw_g := lw_gs 22 rfl
theorem wd_23 : Cond.selects "GiftDuel$Reader" ⟨"GiftDuel$Reader", "orderWord", "()I"⟩ ⟨"GiftDuel$Reader", "orderWord", "()I"⟩ ∈ lw_g := lw_gs 23 rfl
theorem wd_24 : Cond.selects "GiftDuel$Reader" ⟨"GiftDuel$Reader", "condition", "(I)Z"⟩ ⟨"GiftDuel$Reader", "condition", "(I)Z"⟩ ∈ lw_g := lw_gs 24 rfl
theorem wd_25 : Cond.selects "GiftDuel$Reader" ⟨"GiftDuel$Reader", "orderClause", "()Z"⟩ ⟨"GiftDuel$Reader", "orderClause", "()Z"⟩ ∈ lw_g := lw_gs 25 rfl
theorem wd_26 : Cond.selects "GiftDuel$Reader" ⟨"GiftDuel$Reader", "times", "(I)Z"⟩ ⟨"GiftDuel$Reader", "times", "(I)Z"⟩ ∈ lw_g := lw_gs 26 rfl
theorem wd_27 : Cond.selects "GiftDuel$Orders" ⟨"GiftDuel$Orders", "step", "(LGiftDuel$Text;ILGiftDuel$World;LGiftDuel$Past;)Z"⟩ ⟨"GiftDuel$Orders", "step", "(LGiftDuel$Text;ILGiftDuel$World;LGiftDuel$Past;)Z"⟩ ∈ lw_g := lw_gs 27 rfl
theorem wd_28 : Cond.selects "GiftDuel$Orders" ⟨"GiftDuel$Orders", "look", "(LGiftDuel$World;)V"⟩ ⟨"GiftDuel$Orders", "look", "(LGiftDuel$World;)V"⟩ ∈ lw_g := lw_gs 28 rfl
theorem wd_29 : Cond.selects "GiftDuel$Duels" ⟨"GiftDuel$Duels", "gather", "(LGiftDuel$World;III)V"⟩ ⟨"GiftDuel$Duels", "gather", "(LGiftDuel$World;III)V"⟩ ∈ lw_g := lw_gs 29 rfl
theorem wd_30 : Cond.selects "GiftDuel$Duels" ⟨"GiftDuel$Duels", "wins", "(IIIII)Z"⟩ ⟨"GiftDuel$Duels", "wins", "(IIIII)Z"⟩ ∈ lw_g := lw_gs 30 rfl
theorem wd_31 : Cond.selects "GiftDuel$Duels" ⟨"GiftDuel$Duels", "winsBy", "(IIII)Z"⟩ ⟨"GiftDuel$Duels", "winsBy", "(IIII)Z"⟩ ∈ lw_g := lw_gs 31 rfl
theorem wd_32 : Cond.selects "GiftDuel$Duels" ⟨"GiftDuel$Duels", "winning", "()I"⟩ ⟨"GiftDuel$Duels", "winning", "()I"⟩ ∈ lw_g := lw_gs 32 rfl
theorem wd_33 : Cond.selects "GiftDuel$Duels" ⟨"GiftDuel$Duels", "lowestWinning", "(IIII)I"⟩ ⟨"GiftDuel$Duels", "lowestWinning", "(IIII)I"⟩ ∈ lw_g := lw_gs 33 rfl
theorem wd_34 : Cond.selects "GiftDuel$Duels" ⟨"GiftDuel$Duels", "length", "()I"⟩ ⟨"GiftDuel$Duels", "length", "()I"⟩ ∈ lw_g := lw_gs 34 rfl
theorem wd_35 : Cond.selects "GiftDuel$Duels" ⟨"GiftDuel$Duels", "lowestPossible", "(II)I"⟩ ⟨"GiftDuel$Duels", "lowestPossible", "(II)I"⟩ ∈ lw_g := lw_gs 35 rfl
theorem wd_36 : Cond.selects "GiftDuel$Sieges" ⟨"GiftDuel$Sieges", "gather", "(LGiftDuel$World;III)V"⟩ ⟨"GiftDuel$Sieges", "gather", "(LGiftDuel$World;III)V"⟩ ∈ lw_g := lw_gs 36 rfl
theorem wd_37 : Cond.selects "GiftDuel$Sieges" ⟨"GiftDuel$Sieges", "cheapest", "(I)I"⟩ ⟨"GiftDuel$Sieges", "cheapest", "(I)I"⟩ ∈ lw_g := lw_gs 37 rfl
theorem wd_38 : Cond.selects "GiftDuel$Sieges" ⟨"GiftDuel$Sieges", "falls", "(II)Z"⟩ ⟨"GiftDuel$Sieges", "falls", "(II)Z"⟩ ∈ lw_g := lw_gs 38 rfl
theorem wd_39 : Cond.selects "GiftDuel$Sieges" ⟨"GiftDuel$Sieges", "worthOf", "(I)I"⟩ ⟨"GiftDuel$Sieges", "worthOf", "(I)I"⟩ ∈ lw_g := lw_gs 39 rfl
theorem wd_40 : Cond.selects "GiftDuel$Sieges" ⟨"GiftDuel$Sieges", "bitsOf", "(I)I"⟩ ⟨"GiftDuel$Sieges", "bitsOf", "(I)I"⟩ ∈ lw_g := lw_gs 40 rfl
theorem wd_41 : Cond.selects "GiftDuel$Judge" ⟨"GiftDuel$Judge", "hear", "(LGiftDuel$World;I)I"⟩ ⟨"GiftDuel$Judge", "hear", "(LGiftDuel$World;I)I"⟩ ∈ lw_g := lw_gs 41 rfl
theorem wd_42 : Cond.selects "GiftDuel$Ways" ⟨"GiftDuel$Ways", "draw", "(LGiftDuel$World;)V"⟩ ⟨"GiftDuel$Ways", "draw", "(LGiftDuel$World;)V"⟩ ∈ lw_g := lw_gs 42 rfl
theorem wd_43 : Cond.selects "GiftDuel$Ways" ⟨"GiftDuel$Ways", "walk", "(IIII)V"⟩ ⟨"GiftDuel$Ways", "walk", "(IIII)V"⟩ ∈ lw_g := lw_gs 43 rfl
theorem wd_44 : Cond.selects "GiftDuel$Ways" ⟨"GiftDuel$Ways", "closes", "(LGiftDuel$World;III)Z"⟩ ⟨"GiftDuel$Ways", "closes", "(LGiftDuel$World;III)Z"⟩ ∈ lw_g := lw_gs 44 rfl
theorem wd_45 : Cond.selects "GiftDuel$Shelves" ⟨"GiftDuel$Shelves", "lookAt", "(LGiftDuel$World;II)V"⟩ ⟨"GiftDuel$Shelves", "lookAt", "(LGiftDuel$World;II)V"⟩ ∈ lw_g := lw_gs 45 rfl
theorem wd_46 : Cond.selects "GiftDuel$Shelves" ⟨"GiftDuel$Shelves", "rows", "(I)I"⟩ ⟨"GiftDuel$Shelves", "rows", "(I)I"⟩ ∈ lw_g := lw_gs 46 rfl
theorem wd_47 : Cond.selects "GiftDuel$Shelves" ⟨"GiftDuel$Shelves", "takeFirst", "(I)Z"⟩ ⟨"GiftDuel$Shelves", "takeFirst", "(I)Z"⟩ ∈ lw_g := lw_gs 47 rfl
theorem wd_48 : Cond.selects "GiftDuel$Deeds" ⟨"GiftDuel$Deeds", "draw", "(I)I"⟩ ⟨"GiftDuel$Deeds", "draw", "(I)I"⟩ ∈ lw_g := lw_gs 48 rfl
theorem wd_49 : Cond.selects "GiftDuelModel" ⟨"GiftDuelModel", "tell", "(I)I"⟩ ⟨"GiftDuelModel", "tell", "(I)I"⟩ ∈ lw_g := lw_gs 49 rfl
theorem wd_50 : Cond.selects "GiftDuelModel" ⟨"GiftDuelModel", "settled", "(I)I"⟩ ⟨"GiftDuelModel", "settled", "(I)I"⟩ ∈ lw_g := lw_gs 50 rfl
theorem wd_51 : Cond.selects "GiftDuelModel" ⟨"GiftDuelModel", "isLord", "(I)Z"⟩ ⟨"GiftDuelModel", "isLord", "(I)Z"⟩ ∈ lw_g := lw_gs 51 rfl
theorem wd_52 : Cond.selects "GiftDuelModel" ⟨"GiftDuelModel", "ofLord", "(II)I"⟩ ⟨"GiftDuelModel", "ofLord", "(II)I"⟩ ∈ lw_g := lw_gs 52 rfl
theorem wd_53 : Cond.selects "GiftDuelModel" ⟨"GiftDuelModel", "held", "(I)I"⟩ ⟨"GiftDuelModel", "held", "(I)I"⟩ ∈ lw_g := lw_gs 53 rfl
theorem wd_54 : Cond.selects "GiftDuelModel" ⟨"GiftDuelModel", "ofGood", "(II)I"⟩ ⟨"GiftDuelModel", "ofGood", "(II)I"⟩ ∈ lw_g := lw_gs 54 rfl
theorem wd_55 : Cond.selects "GiftDuelModel" ⟨"GiftDuelModel", "year", "()I"⟩ ⟨"GiftDuelModel", "year", "()I"⟩ ∈ lw_g := lw_gs 55 rfl
theorem wd_56 : Cond.selects "GiftDuelModel" ⟨"GiftDuelModel", "costs", "(II)I"⟩ ⟨"GiftDuelModel", "costs", "(II)I"⟩ ∈ lw_g := lw_gs 56 rfl
theorem wd_57 : Cond.selects "GiftDuelModel" ⟨"GiftDuelModel", "costOf", "(III)I"⟩ ⟨"GiftDuelModel", "costOf", "(III)I"⟩ ∈ lw_g := lw_gs 57 rfl
theorem wd_58 : Cond.selects "GiftDuelModel" ⟨"GiftDuelModel", "tells1", "(IIIIIIJ)J"⟩ ⟨"GiftDuelModel", "tells1", "(IIIIIIJ)J"⟩ ∈ lw_g := lw_gs 58 rfl
theorem wd_59 : Cond.selects "GiftDuelModel" ⟨"GiftDuelModel", "isSo", "(I)Z"⟩ ⟨"GiftDuelModel", "isSo", "(I)Z"⟩ ∈ lw_g := lw_gs 59 rfl
theorem wd_60 : Cond.selects "GiftDuelModel" ⟨"GiftDuelModel", "reckonAll", "(II)V"⟩ ⟨"GiftDuelModel", "reckonAll", "(II)V"⟩ ∈ lw_g := lw_gs 60 rfl
theorem wd_61 : Cond.selects "GiftDuelModel" ⟨"GiftDuelModel", "askedOf", "(II)J"⟩ ⟨"GiftDuelModel", "askedOf", "(II)J"⟩ ∈ lw_g := lw_gs 61 rfl
theorem wd_62 : Cond.selects "GiftDuelModel" ⟨"GiftDuelModel", "isGood", "(I)Z"⟩ ⟨"GiftDuelModel", "isGood", "(I)Z"⟩ ∈ lw_g := lw_gs 62 rfl
theorem wd_63 : Cond.selects "GiftDuelModel" ⟨"GiftDuelModel", "debtsOf", "(I)I"⟩ ⟨"GiftDuelModel", "debtsOf", "(I)I"⟩ ∈ lw_g := lw_gs 63 rfl
theorem wd_64 : Cond.selects "GiftDuelModel" ⟨"GiftDuelModel", "reckon", "(IJJ)J"⟩ ⟨"GiftDuelModel", "reckon", "(IJJ)J"⟩ ∈ lw_g := lw_gs 64 rfl
theorem wd_65 : Cond.selects "GiftDuelModel" ⟨"GiftDuelModel", "was", "(I)I"⟩ ⟨"GiftDuelModel", "was", "(I)I"⟩ ∈ lw_g := lw_gs 65 rfl
theorem wd_66 : Cond.selects "GiftDuelModel" ⟨"GiftDuelModel", "good1", "(III)I"⟩ ⟨"GiftDuelModel", "good1", "(III)I"⟩ ∈ lw_g := lw_gs 66 rfl
theorem wd_67 : Cond.selects "GiftDuelModel" ⟨"GiftDuelModel", "four", "(I)V"⟩ ⟨"GiftDuelModel", "four", "(I)V"⟩ ∈ lw_g := lw_gs 67 rfl
theorem wd_68 : Cond.selects "GiftDuelModel" ⟨"GiftDuelModel", "beginText", "(Z)V"⟩ ⟨"GiftDuelModel", "beginText", "(Z)V"⟩ ∈ lw_g := lw_gs 68 rfl
theorem wd_69 : Cond.selects "GiftDuelModel" ⟨"GiftDuelModel", "begin", "()V"⟩ ⟨"GiftDuelModel", "begin", "()V"⟩ ∈ lw_g := lw_gs 69 rfl
theorem wd_70 : Cond.selects "GiftDuelModel" ⟨"GiftDuelModel", "next", "()V"⟩ ⟨"GiftDuelModel", "next", "()V"⟩ ∈ lw_g := lw_gs 70 rfl
theorem wd_71 : Cond.selects "GiftDuelModel" ⟨"GiftDuelModel", "readLaw", "()V"⟩ ⟨"GiftDuelModel", "readLaw", "()V"⟩ ∈ lw_g := lw_gs 71 rfl
theorem wd_72 : Cond.selects "GiftDuelModel" ⟨"GiftDuelModel", "isWord", "(J)Z"⟩ ⟨"GiftDuelModel", "isWord", "(J)Z"⟩ ∈ lw_g := lw_gs 72 rfl
theorem wd_73 : Cond.selects "GiftDuelModel" ⟨"GiftDuelModel", "must", "(Z)V"⟩ ⟨"GiftDuelModel", "must", "(Z)V"⟩ ∈ lw_g := lw_gs 73 rfl
theorem wd_74 : Cond.selects "GiftDuelModel" ⟨"GiftDuelModel", "readExpression", "(Z)V"⟩ ⟨"GiftDuelModel", "readExpression", "(Z)V"⟩ ∈ lw_g := lw_gs 74 rfl
theorem wd_75 : Cond.selects "GiftDuelModel" ⟨"GiftDuelModel", "readPlain", "()I"⟩ ⟨"GiftDuelModel", "readPlain", "()I"⟩ ∈ lw_g := lw_gs 75 rfl
theorem wd_76 : Cond.selects "GiftDuelModel" ⟨"GiftDuelModel", "push", "(II)V"⟩ ⟨"GiftDuelModel", "push", "(II)V"⟩ ∈ lw_g := lw_gs 76 rfl
theorem wd_77 : Cond.selects "GiftDuelModel" ⟨"GiftDuelModel", "isSign", "(I)Z"⟩ ⟨"GiftDuelModel", "isSign", "(I)Z"⟩ ∈ lw_g := lw_gs 77 rfl
theorem wd_78 : Cond.selects "GiftDuelModel" ⟨"GiftDuelModel", "openBracket", "(I)V"⟩ ⟨"GiftDuelModel", "openBracket", "(I)V"⟩ ∈ lw_g := lw_gs 78 rfl
theorem wd_79 : Cond.selects "GiftDuelModel" ⟨"GiftDuelModel", "readPart", "()I"⟩ ⟨"GiftDuelModel", "readPart", "()I"⟩ ∈ lw_g := lw_gs 79 rfl
theorem wd_80 : Cond.selects "GiftDuelModel" ⟨"GiftDuelModel", "orderPartAt", "()I"⟩ ⟨"GiftDuelModel", "orderPartAt", "()I"⟩ ∈ lw_g := lw_gs 80 rfl
theorem wd_81 : Cond.selects "GiftDuelModel" ⟨"GiftDuelModel", "partAt", "()I"⟩ ⟨"GiftDuelModel", "partAt", "()I"⟩ ∈ lw_g := lw_gs 81 rfl
theorem wd_82 : Cond.selects "GiftDuelModel" ⟨"GiftDuelModel", "leaf", "(ZII)V"⟩ ⟨"GiftDuelModel", "leaf", "(ZII)V"⟩ ∈ lw_g := lw_gs 82 rfl
theorem wd_83 : Cond.selects "GiftDuelModel" ⟨"GiftDuelModel", "emit", "(II)V"⟩ ⟨"GiftDuelModel", "emit", "(II)V"⟩ ∈ lw_g := lw_gs 83 rfl
theorem wd_84 : Cond.selects "GiftDuelModel" ⟨"GiftDuelModel", "number", "(JJ)I"⟩ ⟨"GiftDuelModel", "number", "(JJ)I"⟩ ∈ lw_g := lw_gs 84 rfl
theorem wd_85 : Cond.selects "GiftDuelModel" ⟨"GiftDuelModel", "behindSum", "(Z)I"⟩ ⟨"GiftDuelModel", "behindSum", "(Z)I"⟩ ∈ lw_g := lw_gs 85 rfl
theorem wd_86 : Cond.selects "GiftDuelModel" ⟨"GiftDuelModel", "settle", "(I)V"⟩ ⟨"GiftDuelModel", "settle", "(I)V"⟩ ∈ lw_g := lw_gs 86 rfl
theorem wd_87 : Cond.selects "GiftDuelModel" ⟨"GiftDuelModel", "inner", "()I"⟩ ⟨"GiftDuelModel", "inner", "()I"⟩ ∈ lw_g := lw_gs 87 rfl
theorem wd_88 : Cond.selects "GiftDuelModel" ⟨"GiftDuelModel", "isCompared", "()Z"⟩ ⟨"GiftDuelModel", "isCompared", "()Z"⟩ ∈ lw_g := lw_gs 88 rfl
theorem wd_89 : Cond.selects "GiftDuelModel" ⟨"GiftDuelModel", "behindTest", "()I"⟩ ⟨"GiftDuelModel", "behindTest", "()I"⟩ ∈ lw_g := lw_gs 89 rfl
theorem wd_90 : Cond.selects "GiftDuelModel" ⟨"GiftDuelModel", "endText", "()V"⟩ ⟨"GiftDuelModel", "endText", "()V"⟩ ∈ lw_g := lw_gs 90 rfl
theorem wd_91 : Cond.selects "GiftDuelModel" ⟨"GiftDuelModel", "worthOf", "(III)I"⟩ ⟨"GiftDuelModel", "worthOf", "(III)I"⟩ ∈ lw_g := lw_gs 91 rfl
theorem wd_92 : Cond.selects "GiftDuelModel" ⟨"GiftDuelModel", "isBarred", "(III)Z"⟩ ⟨"GiftDuelModel", "isBarred", "(III)Z"⟩ ∈ lw_g := lw_gs 92 rfl
theorem wd_93 : Cond.selects "GiftDuelModel" ⟨"GiftDuelModel", "giveNow", "(II)I"⟩ ⟨"GiftDuelModel", "giveNow", "(II)I"⟩ ∈ lw_g := lw_gs 93 rfl
theorem wd_94 : Cond.selects "GiftDuelModel" ⟨"GiftDuelModel", "keepRow", "(I)V"⟩ ⟨"GiftDuelModel", "keepRow", "(I)V"⟩ ∈ lw_g := lw_gs 94 rfl
theorem wd_95 : Cond.selects "GiftDuelModel" ⟨"GiftDuelModel", "gift", "(II)I"⟩ ⟨"GiftDuelModel", "gift", "(II)I"⟩ ∈ lw_g := lw_gs 95 rfl
theorem wd_96 : Cond.selects "GiftDuelModel" ⟨"GiftDuelModel", "remember", "(I)V"⟩ ⟨"GiftDuelModel", "remember", "(I)V"⟩ ∈ lw_g := lw_gs 96 rfl
theorem wd_97 : Cond.selects "GiftDuelModel" ⟨"GiftDuelModel", "putBack", "(I)V"⟩ ⟨"GiftDuelModel", "putBack", "(I)V"⟩ ∈ lw_g := lw_gs 97 rfl
theorem wd_98 : Cond.selects "GiftDuelModel" ⟨"GiftDuelModel", "waitNow", "()I"⟩ ⟨"GiftDuelModel", "waitNow", "()I"⟩ ∈ lw_g := lw_gs 98 rfl
theorem wd_99 : Cond.selects "GiftDuelModel" ⟨"GiftDuelModel", "wait1", "()I"⟩ ⟨"GiftDuelModel", "wait1", "()I"⟩ ∈ lw_g := lw_gs 99 rfl
theorem wd_100 : Cond.selects "GiftDuelModel" ⟨"GiftDuelModel", "undoRow", "(I)V"⟩ ⟨"GiftDuelModel", "undoRow", "(I)V"⟩ ∈ lw_g := lw_gs 100 rfl
theorem wd_101 : Cond.selects "GiftDuelModel" ⟨"GiftDuelModel", "layGoods", "(III)V"⟩ ⟨"GiftDuelModel", "layGoods", "(III)V"⟩ ∈ lw_g := lw_gs 101 rfl
theorem wd_102 : Cond.selects "GiftDuelModel" ⟨"GiftDuelModel", "findWins", "()V"⟩ ⟨"GiftDuelModel", "findWins", "()V"⟩ ∈ lw_g := lw_gs 102 rfl
theorem wd_103 : Cond.selects "GiftDuelModel" ⟨"GiftDuelModel", "lastOf", "(I)I"⟩ ⟨"GiftDuelModel", "lastOf", "(I)I"⟩ ∈ lw_g := lw_gs 103 rfl
theorem wd_104 : Cond.selects "GiftDuelModel" ⟨"GiftDuelModel", "canGive", "(IIII)Z"⟩ ⟨"GiftDuelModel", "canGive", "(IIII)Z"⟩ ∈ lw_g := lw_gs 104 rfl
theorem wd_105 : Cond.selects "GiftDuelModel" ⟨"GiftDuelModel", "isWon", "(III)Z"⟩ ⟨"GiftDuelModel", "isWon", "(III)Z"⟩ ∈ lw_g := lw_gs 105 rfl
theorem wd_106 : Cond.selects "GiftDuelModel" ⟨"GiftDuelModel", "grainLeft", "(II)I"⟩ ⟨"GiftDuelModel", "grainLeft", "(II)I"⟩ ∈ lw_g := lw_gs 106 rfl
theorem wd_107 : Cond.selects "GiftDuelModel" ⟨"GiftDuelModel", "playOf", "()I"⟩ ⟨"GiftDuelModel", "playOf", "()I"⟩ ∈ lw_g := lw_gs 107 rfl
theorem wd_108 : Cond.selects "GiftDuelModel" ⟨"GiftDuelModel", "layYears", "(II)V"⟩ ⟨"GiftDuelModel", "layYears", "(II)V"⟩ ∈ lw_g := lw_gs 108 rfl
theorem wd_109 : Cond.selects "GiftDuelModel" ⟨"GiftDuelModel", "ruinedIn", "(III)I"⟩ ⟨"GiftDuelModel", "ruinedIn", "(III)I"⟩ ∈ lw_g := lw_gs 109 rfl
theorem wd_110 : Cond.selects "GiftDuelModel" ⟨"GiftDuelModel", "middle", "(III)I"⟩ ⟨"GiftDuelModel", "middle", "(III)I"⟩ ∈ lw_g := lw_gs 110 rfl
theorem wd_111 : Cond.selects "GiftDuelModel" ⟨"GiftDuelModel", "toldBy", "(II)I"⟩ ⟨"GiftDuelModel", "toldBy", "(II)I"⟩ ∈ lw_g := lw_gs 111 rfl
theorem wd_112 : Cond.selects "GiftDuelModel" ⟨"GiftDuelModel", "findWay", "(II)V"⟩ ⟨"GiftDuelModel", "findWay", "(II)V"⟩ ∈ lw_g := lw_gs 112 rfl
theorem wd_113 : Cond.selects "GiftDuelModel" ⟨"GiftDuelModel", "weighWay", "(I)V"⟩ ⟨"GiftDuelModel", "weighWay", "(I)V"⟩ ∈ lw_g := lw_gs 113 rfl
theorem wd_114 : Cond.selects "GiftDuelModel" ⟨"GiftDuelModel", "isAhead", "(I)Z"⟩ ⟨"GiftDuelModel", "isAhead", "(I)Z"⟩ ∈ lw_g := lw_gs 114 rfl
theorem wd_115 : Cond.selects "GiftDuelModel" ⟨"GiftDuelModel", "goesOn", "(II)Z"⟩ ⟨"GiftDuelModel", "goesOn", "(II)Z"⟩ ∈ lw_g := lw_gs 115 rfl
theorem wd_116 : Cond.selects "GiftDuelModel" ⟨"GiftDuelModel", "findRing", "()V"⟩ ⟨"GiftDuelModel", "findRing", "()V"⟩ ∈ lw_g := lw_gs 116 rfl
theorem wd_117 : Cond.selects "GiftDuelModel" ⟨"GiftDuelModel", "isFresh", "(I)Z"⟩ ⟨"GiftDuelModel", "isFresh", "(I)Z"⟩ ∈ lw_g := lw_gs 117 rfl
theorem wd_118 : Cond.selects "GiftDuelModel" ⟨"GiftDuelModel", "weighRing", "(I)V"⟩ ⟨"GiftDuelModel", "weighRing", "(I)V"⟩ ∈ lw_g := lw_gs 118 rfl
theorem wd_119 : Cond.selects "GiftDuelModel" ⟨"GiftDuelModel", "findGifts", "(I)V"⟩ ⟨"GiftDuelModel", "findGifts", "(I)V"⟩ ∈ lw_g := lw_gs 119 rfl
theorem wd_120 : Cond.selects "GiftDuelModel" ⟨"GiftDuelModel", "isTold", "()Z"⟩ ⟨"GiftDuelModel", "isTold", "()Z"⟩ ∈ lw_g := lw_gs 120 rfl
theorem wd_121 : Cond.selects "GiftDuelModel" ⟨"GiftDuelModel", "keepGifts", "(I)V"⟩ ⟨"GiftDuelModel", "keepGifts", "(I)V"⟩ ∈ lw_g := lw_gs 121 rfl
theorem wd_122 : Cond.selects "GiftDuelModel" ⟨"GiftDuelModel", "canBe", "(I)Z"⟩ ⟨"GiftDuelModel", "canBe", "(I)Z"⟩ ∈ lw_g := lw_gs 122 rfl
theorem wd_123 : Cond.selects "GiftDuelModel" ⟨"GiftDuelModel", "readOrder", "()V"⟩ ⟨"GiftDuelModel", "readOrder", "()V"⟩ ∈ lw_g := lw_gs 123 rfl
theorem wd_124 : Cond.selects "GiftDuelModel" ⟨"GiftDuelModel", "readSum", "(I)V"⟩ ⟨"GiftDuelModel", "readSum", "(I)V"⟩ ∈ lw_g := lw_gs 124 rfl
theorem wd_125 : Cond.selects "GiftDuelModel" ⟨"GiftDuelModel", "run", "(I)I"⟩ ⟨"GiftDuelModel", "run", "(I)I"⟩ ∈ lw_g := lw_gs 125 rfl
theorem wd_126 : Cond.selects "GiftDuelModel" ⟨"GiftDuelModel", "sumOf", "(I)J"⟩ ⟨"GiftDuelModel", "sumOf", "(I)J"⟩ ∈ lw_g := lw_gs 126 rfl
theorem wd_127 : Cond.selects "GiftDuelModel" ⟨"GiftDuelModel", "draw", "(I)I"⟩ ⟨"GiftDuelModel", "draw", "(I)I"⟩ ∈ lw_g := lw_gs 127 rfl
theorem wd_128 : Cond.selects "GiftDuelModel" ⟨"GiftDuelModel", "allDebts", "()I"⟩ ⟨"GiftDuelModel", "allDebts", "()I"⟩ ∈ lw_g := lw_gs 128 rfl
theorem wd_130 : Cond.initialized "GiftDuel" ∈ lw_g := lw_g1 1 rfl rfl
theorem wd_131 : Cond.initialized "GiftDuel$World" ∈ lw_g := lw_g1 2 rfl rfl
theorem wd_132 : Cond.initialized "java/util/Arrays" ∈ lw_g := lw_g1 3 rfl rfl
theorem wd_133 : Cond.initialized "GiftDuel$Past" ∈ lw_g := lw_g1 4 rfl rfl
theorem wd_134 : Cond.initialized "GiftDuel$Reader" ∈ lw_g := lw_g1 5 rfl rfl
theorem wd_135 : Cond.initialized "GiftDuel$Text" ∈ lw_g := lw_g1 6 rfl rfl
theorem wd_137 : Cond.initialized "GiftDuel$Judge" ∈ lw_g := lw_g1 8 rfl rfl
theorem wd_138 : Cond.initialized "GiftDuel$Deeds" ∈ lw_g := lw_g1 9 rfl rfl
theorem wd_139 : Cond.initialized "GiftDuel$Orders" ∈ lw_g := lw_g1 10 rfl rfl
theorem wd_140 : Cond.initialized "GiftDuel$Duels" ∈ lw_g := lw_g1 11 rfl rfl
theorem wd_141 : Cond.initialized "GiftDuel$Sieges" ∈ lw_g := lw_g1 12 rfl rfl
theorem wd_142 : Cond.initialized "GiftDuel$Ways" ∈ lw_g := lw_g1 13 rfl rfl
theorem wd_143 : Cond.initialized "GiftDuel$Shelves" ∈ lw_g := lw_g1 14 rfl rfl
theorem wd_144 : Cond.initialized "GiftDuelModel" ∈ lw_g := lw_g1 15 rfl rfl
theorem wd_150 : Cond.initialized "java/lang/Integer" ∈ lw_g := lw_g1 21 rfl rfl
theorem wd_167 : Cond.methodLink "GiftDuel$World" 25 ⟨"java/util/Arrays", "fill", "([IIII)V"⟩ ∈ lw_g := lw_g1 38 rfl rfl
theorem wd_168 : Cond.static ⟨"java/util/Arrays", "fill", "([IIII)V"⟩ ∈ lw_g := lw_g1 39 rfl rfl
theorem wd_169 : Cond.code ⟨"java/util/Arrays", "fill", "([IIII)V"⟩ prog_21_method_104_code 5 none ∈ lw_g := lw_g1 40 rfl rfl
theorem wd_170 : Cond.methodLink "java/util/Arrays" 13 ⟨"java/util/Arrays", "rangeCheck", "(III)V"⟩ ∈ lw_g := lw_g1 41 rfl rfl
theorem wd_171 : Cond.static ⟨"java/util/Arrays", "rangeCheck", "(III)V"⟩ ∈ lw_g := lw_g1 42 rfl rfl
theorem wd_172 : Cond.code ⟨"java/util/Arrays", "rangeCheck", "(III)V"⟩ prog_21_method_30_code 3 none ∈ lw_g := lw_g1 43 rfl rfl
theorem wd_173 : Cond.fieldLink "GiftDuel$World" 11 "GiftDuel$World" "cells" "[I" ∈ lw_g := lw_g1 44 rfl rfl
theorem wd_174 : Cond.fieldLink "GiftDuel$World" 17 "GiftDuel$World" "laws" "[LGiftDuel$Text;" ∈ lw_g := lw_g1 45 rfl rfl
theorem wd_175 : Cond.fieldLink "GiftDuel$World" 21 "GiftDuel$World" "kept" "Z" ∈ lw_g := lw_g1 46 rfl rfl
theorem wd_190 : Cond.fieldLink "GiftDuel$Past" 13 "GiftDuel$Past" "rows" "[I" ∈ lw_g := lw_g1 61 rfl rfl
theorem wd_191 : Cond.fieldLink "GiftDuel$Past" 17 "GiftDuel$Past" "kinds" "[I" ∈ lw_g := lw_g1 62 rfl rfl
theorem wd_192 : Cond.fieldLink "GiftDuel$Past" 20 "GiftDuel$Past" "next" "I" ∈ lw_g := lw_g1 63 rfl rfl
theorem wd_193 : Cond.fieldLink "GiftDuel$Past" 24 "GiftDuel$Past" "size" "I" ∈ lw_g := lw_g1 64 rfl rfl
theorem wd_218 : Cond.fieldLink "GiftDuel$Text" 13 "GiftDuel$Text" "acts" "[I" ∈ lw_g := lw_g1 89 rfl rfl
theorem wd_219 : Cond.fieldLink "GiftDuel$Text" 19 "GiftDuel$Text" "args" "[I" ∈ lw_g := lw_g1 90 rfl rfl
theorem wd_220 : Cond.fieldLink "GiftDuel$Text" 22 "GiftDuel$Text" "clauses" "[I" ∈ lw_g := lw_g1 91 rfl rfl
theorem wd_221 : Cond.fieldLink "GiftDuel$Text" 25 "GiftDuel$Text" "size" "I" ∈ lw_g := lw_g1 92 rfl rfl
theorem wd_222 : Cond.fieldLink "GiftDuel$Text" 29 "GiftDuel$Text" "many" "I" ∈ lw_g := lw_g1 93 rfl rfl
theorem wd_234 : Cond.fieldLink "GiftDuel$Reader" 11 "GiftDuel$Reader" "tape" "[I" ∈ lw_g := lw_g1 105 rfl rfl
theorem wd_235 : Cond.fieldLink "GiftDuel$Reader" 15 "GiftDuel$Reader" "kinds" "[I" ∈ lw_g := lw_g1 106 rfl rfl
theorem wd_236 : Cond.fieldLink "GiftDuel$Reader" 18 "GiftDuel$Reader" "numbers" "[I" ∈ lw_g := lw_g1 107 rfl rfl
theorem wd_237 : Cond.fieldLink "GiftDuel$Reader" 21 "GiftDuel$Reader" "places" "[I" ∈ lw_g := lw_g1 108 rfl rfl
theorem wd_238 : Cond.fieldLink "GiftDuel$Reader" 29 "GiftDuel$Reader" "text" "LGiftDuel$Text;" ∈ lw_g := lw_g1 109 rfl rfl
theorem wd_239 : Cond.fieldLink "GiftDuel$Reader" 33 "GiftDuel$Reader" "length" "I" ∈ lw_g := lw_g1 110 rfl rfl
theorem wd_240 : Cond.fieldLink "GiftDuel$Reader" 37 "GiftDuel$Reader" "fault" "I" ∈ lw_g := lw_g1 111 rfl rfl
theorem wd_241 : Cond.fieldLink "GiftDuel$Reader" 40 "GiftDuel$Reader" "isLaw" "Z" ∈ lw_g := lw_g1 112 rfl rfl
theorem wd_242 : Cond.fieldLink "GiftDuel$Reader" 44 "GiftDuel$Reader" "parts" "I" ∈ lw_g := lw_g1 113 rfl rfl
theorem wd_243 : Cond.fieldLink "GiftDuel$Reader" 47 "GiftDuel$Reader" "at" "I" ∈ lw_g := lw_g1 114 rfl rfl
theorem wd_244 : Cond.fieldLink "GiftDuel$Reader" 50 "GiftDuel$Reader" "token" "I" ∈ lw_g := lw_g1 115 rfl rfl
theorem wd_274 : Cond.fieldLink "GiftDuel$Judge" 11 "GiftDuel$Judge" "words" "[I" ∈ lw_g := lw_g1 145 rfl rfl
theorem wd_275 : Cond.fieldLink "GiftDuel$Judge" 17 "GiftDuel$Judge" "stack" "[I" ∈ lw_g := lw_g1 146 rfl rfl
theorem wd_276 : Cond.fieldLink "GiftDuel$Judge" 20 "GiftDuel$Judge" "voices" "[I" ∈ lw_g := lw_g1 147 rfl rfl
theorem wd_292 : Cond.fieldLink "GiftDuel$Deeds" 22 "GiftDuel$Deeds" "judge" "LGiftDuel$Judge;" ∈ lw_g := lw_g1 163 rfl rfl
theorem wd_293 : Cond.fieldLink "GiftDuel$Deeds" 12 "GiftDuel$Deeds" "paper" "LGiftDuel$World;" ∈ lw_g := lw_g1 164 rfl rfl
theorem wd_294 : Cond.fieldLink "GiftDuel$Deeds" 18 "GiftDuel$Deeds" "seed" "J" ∈ lw_g := lw_g1 165 rfl rfl
theorem wd_312 : Cond.fieldLink "GiftDuel$Orders" 44 "GiftDuel$Orders" "deeds" "LGiftDuel$Deeds;" ∈ lw_g := lw_g1 183 rfl rfl
theorem wd_313 : Cond.fieldLink "GiftDuel$Orders" 14 "GiftDuel$Orders" "aheadWorld" "LGiftDuel$World;" ∈ lw_g := lw_g1 184 rfl rfl
theorem wd_314 : Cond.fieldLink "GiftDuel$Orders" 21 "GiftDuel$Orders" "aheadPast" "LGiftDuel$Past;" ∈ lw_g := lw_g1 185 rfl rfl
theorem wd_315 : Cond.fieldLink "GiftDuel$Orders" 25 "GiftDuel$Orders" "words" "[I" ∈ lw_g := lw_g1 186 rfl rfl
theorem wd_316 : Cond.fieldLink "GiftDuel$Orders" 31 "GiftDuel$Orders" "stack" "[I" ∈ lw_g := lw_g1 187 rfl rfl
theorem wd_317 : Cond.fieldLink "GiftDuel$Orders" 34 "GiftDuel$Orders" "stoppedClause" "I" ∈ lw_g := lw_g1 188 rfl rfl
theorem wd_318 : Cond.fieldLink "GiftDuel$Orders" 38 "GiftDuel$Orders" "done" "I" ∈ lw_g := lw_g1 189 rfl rfl
theorem wd_319 : Cond.fieldLink "GiftDuel$Orders" 41 "GiftDuel$Orders" "last" "I" ∈ lw_g := lw_g1 190 rfl rfl
theorem wd_343 : Cond.fieldLink "GiftDuel$Duels" 27 "GiftDuel$Duels" "judge" "LGiftDuel$Judge;" ∈ lw_g := lw_g1 214 rfl rfl
theorem wd_344 : Cond.fieldLink "GiftDuel$Duels" 11 "GiftDuel$Duels" "goods" "[I" ∈ lw_g := lw_g1 215 rfl rfl
theorem wd_345 : Cond.fieldLink "GiftDuel$Duels" 15 "GiftDuel$Duels" "worths" "[I" ∈ lw_g := lw_g1 216 rfl rfl
theorem wd_346 : Cond.fieldLink "GiftDuel$Duels" 18 "GiftDuel$Duels" "costs" "[I" ∈ lw_g := lw_g1 217 rfl rfl
theorem wd_347 : Cond.fieldLink "GiftDuel$Duels" 21 "GiftDuel$Duels" "many" "[I" ∈ lw_g := lw_g1 218 rfl rfl
theorem wd_348 : Cond.fieldLink "GiftDuel$Duels" 24 "GiftDuel$Duels" "grains" "[I" ∈ lw_g := lw_g1 219 rfl rfl
theorem wd_368 : Cond.fieldLink "GiftDuel$Sieges" 34 "GiftDuel$Sieges" "judge" "LGiftDuel$Judge;" ∈ lw_g := lw_g1 239 rfl rfl
theorem wd_369 : Cond.fieldLink "GiftDuel$Sieges" 11 "GiftDuel$Sieges" "goods" "[I" ∈ lw_g := lw_g2 0 rfl rfl
theorem wd_370 : Cond.fieldLink "GiftDuel$Sieges" 15 "GiftDuel$Sieges" "worths" "[I" ∈ lw_g := lw_g2 1 rfl rfl
theorem wd_371 : Cond.fieldLink "GiftDuel$Sieges" 18 "GiftDuel$Sieges" "costs" "[I" ∈ lw_g := lw_g2 2 rfl rfl
theorem wd_372 : Cond.fieldLink "GiftDuel$Sieges" 21 "GiftDuel$Sieges" "upkeeps" "[I" ∈ lw_g := lw_g2 3 rfl rfl
theorem wd_373 : Cond.fieldLink "GiftDuel$Sieges" 24 "GiftDuel$Sieges" "many" "I" ∈ lw_g := lw_g2 4 rfl rfl
theorem wd_374 : Cond.fieldLink "GiftDuel$Sieges" 28 "GiftDuel$Sieges" "grain" "I" ∈ lw_g := lw_g2 5 rfl rfl
theorem wd_375 : Cond.fieldLink "GiftDuel$Sieges" 31 "GiftDuel$Sieges" "harvest" "I" ∈ lw_g := lw_g2 6 rfl rfl
theorem wd_399 : Cond.fieldLink "GiftDuel$Ways" 9 "GiftDuel$Ways" "thieves" "[I" ∈ lw_g := lw_g2 30 rfl rfl
theorem wd_400 : Cond.fieldLink "GiftDuel$Ways" 15 "GiftDuel$Ways" "days" "[I" ∈ lw_g := lw_g2 31 rfl rfl
theorem wd_401 : Cond.fieldLink "GiftDuel$Ways" 18 "GiftDuel$Ways" "path" "[I" ∈ lw_g := lw_g2 32 rfl rfl
theorem wd_402 : Cond.fieldLink "GiftDuel$Ways" 21 "GiftDuel$Ways" "best" "[I" ∈ lw_g := lw_g2 33 rfl rfl
theorem wd_403 : Cond.fieldLink "GiftDuel$Ways" 24 "GiftDuel$Ways" "lords" "I" ∈ lw_g := lw_g2 34 rfl rfl
theorem wd_404 : Cond.fieldLink "GiftDuel$Ways" 28 "GiftDuel$Ways" "goal" "I" ∈ lw_g := lw_g2 35 rfl rfl
theorem wd_405 : Cond.fieldLink "GiftDuel$Ways" 31 "GiftDuel$Ways" "bestLikely" "I" ∈ lw_g := lw_g2 36 rfl rfl
theorem wd_406 : Cond.fieldLink "GiftDuel$Ways" 34 "GiftDuel$Ways" "bestDays" "I" ∈ lw_g := lw_g2 37 rfl rfl
theorem wd_407 : Cond.fieldLink "GiftDuel$Ways" 37 "GiftDuel$Ways" "bestSteps" "I" ∈ lw_g := lw_g2 38 rfl rfl
theorem wd_433 : Cond.fieldLink "GiftDuel$Shelves" 38 "GiftDuel$Shelves" "judge" "LGiftDuel$Judge;" ∈ lw_g := lw_g2 64 rfl rfl
theorem wd_434 : Cond.fieldLink "GiftDuel$Shelves" 11 "GiftDuel$Shelves" "open" "[Z" ∈ lw_g := lw_g2 65 rfl rfl
theorem wd_435 : Cond.fieldLink "GiftDuel$Shelves" 15 "GiftDuel$Shelves" "walks" "[I" ∈ lw_g := lw_g2 66 rfl rfl
theorem wd_436 : Cond.fieldLink "GiftDuel$Shelves" 19 "GiftDuel$Shelves" "holders" "[I" ∈ lw_g := lw_g2 67 rfl rfl
theorem wd_437 : Cond.fieldLink "GiftDuel$Shelves" 22 "GiftDuel$Shelves" "mixed" "[I" ∈ lw_g := lw_g2 68 rfl rfl
theorem wd_438 : Cond.fieldLink "GiftDuel$Shelves" 25 "GiftDuel$Shelves" "lords" "I" ∈ lw_g := lw_g2 69 rfl rfl
theorem wd_439 : Cond.fieldLink "GiftDuel$Shelves" 29 "GiftDuel$Shelves" "goods" "I" ∈ lw_g := lw_g2 70 rfl rfl
theorem wd_440 : Cond.fieldLink "GiftDuel$Shelves" 32 "GiftDuel$Shelves" "firstGood" "I" ∈ lw_g := lw_g2 71 rfl rfl
theorem wd_441 : Cond.fieldLink "GiftDuel$Shelves" 35 "GiftDuel$Shelves" "firstLord" "I" ∈ lw_g := lw_g2 72 rfl rfl
theorem wd_462 : Cond.fieldLink "GiftDuel" 10 "GiftDuel" "world" "LGiftDuel$World;" ∈ lw_g := lw_g2 93 rfl rfl
theorem wd_463 : Cond.fieldLink "GiftDuel" 16 "GiftDuel" "firstImage" "LGiftDuel$World;" ∈ lw_g := lw_g2 94 rfl rfl
theorem wd_464 : Cond.fieldLink "GiftDuel" 19 "GiftDuel" "secondImage" "LGiftDuel$World;" ∈ lw_g := lw_g2 95 rfl rfl
theorem wd_465 : Cond.fieldLink "GiftDuel" 25 "GiftDuel" "past" "LGiftDuel$Past;" ∈ lw_g := lw_g2 96 rfl rfl
theorem wd_466 : Cond.fieldLink "GiftDuel" 32 "GiftDuel" "reader" "LGiftDuel$Reader;" ∈ lw_g := lw_g2 97 rfl rfl
theorem wd_467 : Cond.fieldLink "GiftDuel" 39 "GiftDuel" "judge" "LGiftDuel$Judge;" ∈ lw_g := lw_g2 98 rfl rfl
theorem wd_468 : Cond.fieldLink "GiftDuel" 48 "GiftDuel" "deeds" "LGiftDuel$Deeds;" ∈ lw_g := lw_g2 99 rfl rfl
theorem wd_469 : Cond.fieldLink "GiftDuel" 57 "GiftDuel" "runner" "LGiftDuel$Orders;" ∈ lw_g := lw_g2 100 rfl rfl
theorem wd_470 : Cond.fieldLink "GiftDuel" 64 "GiftDuel" "duels" "LGiftDuel$Duels;" ∈ lw_g := lw_g2 101 rfl rfl
theorem wd_471 : Cond.fieldLink "GiftDuel" 71 "GiftDuel" "sieges" "LGiftDuel$Sieges;" ∈ lw_g := lw_g2 102 rfl rfl
theorem wd_472 : Cond.fieldLink "GiftDuel" 78 "GiftDuel" "ways" "LGiftDuel$Ways;" ∈ lw_g := lw_g2 103 rfl rfl
theorem wd_473 : Cond.fieldLink "GiftDuel" 85 "GiftDuel" "shelves" "LGiftDuel$Shelves;" ∈ lw_g := lw_g2 104 rfl rfl
theorem wd_474 : Cond.fieldLink "GiftDuel" 89 "GiftDuel" "refusals" "[I" ∈ lw_g := lw_g2 105 rfl rfl
theorem wd_475 : Cond.fieldLink "GiftDuel" 93 "GiftDuel" "latest" "I" ∈ lw_g := lw_g2 106 rfl rfl
theorem wd_476 : Cond.fieldLink "GiftDuel" 97 "GiftDuel" "drossSeen" "I" ∈ lw_g := lw_g2 107 rfl rfl
theorem wd_512 : Cond.methodLink "GiftDuel" 100 ⟨"GiftDuel", "within", "(III)Z"⟩ ∈ lw_g := lw_g2 143 rfl rfl
theorem wd_513 : Cond.static ⟨"GiftDuel", "within", "(III)Z"⟩ ∈ lw_g := lw_g2 144 rfl rfl
theorem wd_514 : Cond.code ⟨"GiftDuel", "within", "(III)Z"⟩ prog_1_method_4_code 3 (some .boolean) ∈ lw_g := lw_g2 145 rfl rfl
theorem wd_515 : Cond.methodLink "GiftDuel" 104 ⟨"GiftDuel", "refuse", "(I)I"⟩ ∈ lw_g := lw_g2 146 rfl rfl
theorem wd_517 : Cond.instanceMethod ⟨"GiftDuel", "refuse", "(I)I"⟩ ∈ lw_g := lw_g2 148 rfl rfl
theorem wd_518 : Cond.code ⟨"GiftDuel", "refuse", "(I)I"⟩ prog_1_method_2_code 2 (some .int) ∈ lw_g := lw_g2 149 rfl rfl
theorem wd_519 : Cond.methodLink "GiftDuel" 108 ⟨"GiftDuel$World", "many", "(I)I"⟩ ∈ lw_g := lw_g2 150 rfl rfl
theorem wd_520 : Cond.instanceMethod ⟨"GiftDuel$World", "many", "(I)I"⟩ ∈ lw_g := lw_g2 151 rfl rfl
theorem wd_521 : Cond.selects "GiftDuel$World" ⟨"GiftDuel$World", "many", "(I)I"⟩ ⟨"GiftDuel$World", "many", "(I)I"⟩ ∈ lw_g := lw_g2 152 rfl rfl
theorem wd_522 : Cond.code ⟨"GiftDuel$World", "many", "(I)I"⟩ prog_12_method_11_code 2 (some .int) ∈ lw_g := lw_g2 153 rfl rfl
theorem wd_523 : Cond.methodLink "GiftDuel" 111 ⟨"GiftDuel$Past", "clear", "()V"⟩ ∈ lw_g := lw_g2 154 rfl rfl
theorem wd_524 : Cond.instanceMethod ⟨"GiftDuel$Past", "clear", "()V"⟩ ∈ lw_g := lw_g2 155 rfl rfl
theorem wd_525 : Cond.selects "GiftDuel$Past" ⟨"GiftDuel$Past", "clear", "()V"⟩ ⟨"GiftDuel$Past", "clear", "()V"⟩ ∈ lw_g := lw_g2 156 rfl rfl
theorem wd_526 : Cond.code ⟨"GiftDuel$Past", "clear", "()V"⟩ prog_6_method_3_code 1 none ∈ lw_g := lw_g2 157 rfl rfl
theorem wd_527 : Cond.methodLink "GiftDuel" 114 ⟨"GiftDuel$World", "addLord", "(II)I"⟩ ∈ lw_g := lw_g2 158 rfl rfl
theorem wd_528 : Cond.instanceMethod ⟨"GiftDuel$World", "addLord", "(II)I"⟩ ∈ lw_g := lw_g2 159 rfl rfl
theorem wd_529 : Cond.selects "GiftDuel$World" ⟨"GiftDuel$World", "addLord", "(II)I"⟩ ⟨"GiftDuel$World", "addLord", "(II)I"⟩ ∈ lw_g := lw_g2 160 rfl rfl
theorem wd_530 : Cond.code ⟨"GiftDuel$World", "addLord", "(II)I"⟩ prog_12_method_26_code 5 (some .int) ∈ lw_g := lw_g2 161 rfl rfl
theorem wd_531 : Cond.methodLink "GiftDuel" 118 ⟨"GiftDuel", "accept", "(I)I"⟩ ∈ lw_g := lw_g2 162 rfl rfl
theorem wd_533 : Cond.instanceMethod ⟨"GiftDuel", "accept", "(I)I"⟩ ∈ lw_g := lw_g2 164 rfl rfl
theorem wd_534 : Cond.code ⟨"GiftDuel", "accept", "(I)I"⟩ prog_1_method_3_code 2 (some .int) ∈ lw_g := lw_g2 165 rfl rfl
theorem wd_539 : Cond.methodLink "GiftDuel" 121 ⟨"GiftDuel$World", "isLord", "(I)Z"⟩ ∈ lw_g := lw_g2 170 rfl rfl
theorem wd_540 : Cond.instanceMethod ⟨"GiftDuel$World", "isLord", "(I)Z"⟩ ∈ lw_g := lw_g2 171 rfl rfl
theorem wd_541 : Cond.selects "GiftDuel$World" ⟨"GiftDuel$World", "isLord", "(I)Z"⟩ ⟨"GiftDuel$World", "isLord", "(I)Z"⟩ ∈ lw_g := lw_g2 172 rfl rfl
theorem wd_542 : Cond.code ⟨"GiftDuel$World", "isLord", "(I)Z"⟩ prog_12_method_7_code 2 (some .boolean) ∈ lw_g := lw_g2 173 rfl rfl
theorem wd_543 : Cond.methodLink "GiftDuel" 125 ⟨"GiftDuel$World", "term", "(I)I"⟩ ∈ lw_g := lw_g2 174 rfl rfl
theorem wd_544 : Cond.instanceMethod ⟨"GiftDuel$World", "term", "(I)I"⟩ ∈ lw_g := lw_g2 175 rfl rfl
theorem wd_545 : Cond.selects "GiftDuel$World" ⟨"GiftDuel$World", "term", "(I)I"⟩ ⟨"GiftDuel$World", "term", "(I)I"⟩ ∈ lw_g := lw_g2 176 rfl rfl
theorem wd_546 : Cond.code ⟨"GiftDuel$World", "term", "(I)I"⟩ prog_12_method_9_code 2 (some .int) ∈ lw_g := lw_g2 177 rfl rfl
theorem wd_547 : Cond.methodLink "GiftDuel" 128 ⟨"GiftDuel$Judge", "upkeep", "(LGiftDuel$World;II)I"⟩ ∈ lw_g := lw_g2 178 rfl rfl
theorem wd_548 : Cond.instanceMethod ⟨"GiftDuel$Judge", "upkeep", "(LGiftDuel$World;II)I"⟩ ∈ lw_g := lw_g2 179 rfl rfl
theorem wd_549 : Cond.selects "GiftDuel$Judge" ⟨"GiftDuel$Judge", "upkeep", "(LGiftDuel$World;II)I"⟩ ⟨"GiftDuel$Judge", "upkeep", "(LGiftDuel$World;II)I"⟩ ∈ lw_g := lw_g2 180 rfl rfl
theorem wd_550 : Cond.code ⟨"GiftDuel$Judge", "upkeep", "(LGiftDuel$World;II)I"⟩ prog_4_method_5_code 6 (some .int) ∈ lw_g := lw_g2 181 rfl rfl
theorem wd_551 : Cond.methodLink "GiftDuel$Judge" 58 ⟨"GiftDuel$World", "many", "(I)I"⟩ ∈ lw_g := lw_g2 182 rfl rfl
theorem wd_552 : Cond.methodLink "GiftDuel$Judge" 39 ⟨"GiftDuel$World", "goodAt", "(II)I"⟩ ∈ lw_g := lw_g2 183 rfl rfl
theorem wd_553 : Cond.instanceMethod ⟨"GiftDuel$World", "goodAt", "(II)I"⟩ ∈ lw_g := lw_g2 184 rfl rfl
theorem wd_554 : Cond.selects "GiftDuel$World" ⟨"GiftDuel$World", "goodAt", "(II)I"⟩ ⟨"GiftDuel$World", "goodAt", "(II)I"⟩ ∈ lw_g := lw_g2 185 rfl rfl
theorem wd_555 : Cond.code ⟨"GiftDuel$World", "goodAt", "(II)I"⟩ prog_12_method_16_code 3 (some .int) ∈ lw_g := lw_g2 186 rfl rfl
theorem wd_556 : Cond.methodLink "GiftDuel$Judge" 29 ⟨"GiftDuel$Judge", "ask", "(LGiftDuel$World;II)V"⟩ ∈ lw_g := lw_g2 187 rfl rfl
theorem wd_558 : Cond.instanceMethod ⟨"GiftDuel$Judge", "ask", "(LGiftDuel$World;II)V"⟩ ∈ lw_g := lw_g2 189 rfl rfl
theorem wd_559 : Cond.code ⟨"GiftDuel$Judge", "ask", "(LGiftDuel$World;II)V"⟩ prog_4_method_7_code 4 none ∈ lw_g := lw_g2 190 rfl rfl
theorem wd_560 : Cond.methodLink "GiftDuel$Judge" 25 ⟨"GiftDuel$World", "term", "(I)I"⟩ ∈ lw_g := lw_g2 191 rfl rfl
theorem wd_561 : Cond.methodLink "GiftDuel$Judge" 33 ⟨"GiftDuel$World", "lawInForce", "()LGiftDuel$Text;"⟩ ∈ lw_g := lw_g2 192 rfl rfl
theorem wd_562 : Cond.instanceMethod ⟨"GiftDuel$World", "lawInForce", "()LGiftDuel$Text;"⟩ ∈ lw_g := lw_g2 193 rfl rfl
theorem wd_563 : Cond.selects "GiftDuel$World" ⟨"GiftDuel$World", "lawInForce", "()LGiftDuel$Text;"⟩ ⟨"GiftDuel$World", "lawInForce", "()LGiftDuel$Text;"⟩ ∈ lw_g := lw_g2 194 rfl rfl
theorem wd_564 : Cond.code ⟨"GiftDuel$World", "lawInForce", "()LGiftDuel$Text;"⟩ prog_12_method_25_code 2 (some (.object "GiftDuel$Text")) ∈ lw_g := lw_g2 195 rfl rfl
theorem wd_565 : Cond.methodLink "GiftDuel$Judge" 43 ⟨"GiftDuel$Judge", "told", "(LGiftDuel$Text;III)I"⟩ ∈ lw_g := lw_g2 196 rfl rfl
theorem wd_567 : Cond.instanceMethod ⟨"GiftDuel$Judge", "told", "(LGiftDuel$Text;III)I"⟩ ∈ lw_g := lw_g2 198 rfl rfl
theorem wd_568 : Cond.code ⟨"GiftDuel$Judge", "told", "(LGiftDuel$Text;III)I"⟩ prog_4_method_8_code 7 (some .int) ∈ lw_g := lw_g2 199 rfl rfl
theorem wd_569 : Cond.methodLink "GiftDuel$Judge" 47 ⟨"GiftDuel$Text", "clauses", "()I"⟩ ∈ lw_g := lw_g2 200 rfl rfl
theorem wd_570 : Cond.instanceMethod ⟨"GiftDuel$Text", "clauses", "()I"⟩ ∈ lw_g := lw_g2 201 rfl rfl
theorem wd_571 : Cond.selects "GiftDuel$Text" ⟨"GiftDuel$Text", "clauses", "()I"⟩ ⟨"GiftDuel$Text", "clauses", "()I"⟩ ∈ lw_g := lw_g2 202 rfl rfl
theorem wd_572 : Cond.code ⟨"GiftDuel$Text", "clauses", "()I"⟩ prog_10_method_3_code 1 (some .int) ∈ lw_g := lw_g2 203 rfl rfl
theorem wd_573 : Cond.methodLink "GiftDuel$Judge" 51 ⟨"GiftDuel$Text", "part", "(II)I"⟩ ∈ lw_g := lw_g2 204 rfl rfl
theorem wd_574 : Cond.instanceMethod ⟨"GiftDuel$Text", "part", "(II)I"⟩ ∈ lw_g := lw_g2 205 rfl rfl
theorem wd_575 : Cond.selects "GiftDuel$Text" ⟨"GiftDuel$Text", "part", "(II)I"⟩ ⟨"GiftDuel$Text", "part", "(II)I"⟩ ∈ lw_g := lw_g2 206 rfl rfl
theorem wd_576 : Cond.code ⟨"GiftDuel$Text", "part", "(II)I"⟩ prog_10_method_8_code 3 (some .int) ∈ lw_g := lw_g2 207 rfl rfl
theorem wd_577 : Cond.methodLink "GiftDuel$Judge" 54 ⟨"GiftDuel$Text", "isSo", "(I[I[I)Z"⟩ ∈ lw_g := lw_g2 208 rfl rfl
theorem wd_578 : Cond.instanceMethod ⟨"GiftDuel$Text", "isSo", "(I[I[I)Z"⟩ ∈ lw_g := lw_g2 209 rfl rfl
theorem wd_579 : Cond.selects "GiftDuel$Text" ⟨"GiftDuel$Text", "isSo", "(I[I[I)Z"⟩ ⟨"GiftDuel$Text", "isSo", "(I[I[I)Z"⟩ ∈ lw_g := lw_g2 210 rfl rfl
theorem wd_580 : Cond.code ⟨"GiftDuel$Text", "isSo", "(I[I[I)Z"⟩ prog_10_method_11_code 5 (some .boolean) ∈ lw_g := lw_g2 211 rfl rfl
theorem wd_581 : Cond.methodLink "GiftDuel$Text" 47 ⟨"GiftDuel$Text", "value", "(II[I[I)I"⟩ ∈ lw_g := lw_g2 212 rfl rfl
theorem wd_583 : Cond.instanceMethod ⟨"GiftDuel$Text", "value", "(II[I[I)I"⟩ ∈ lw_g := lw_g2 214 rfl rfl
theorem wd_584 : Cond.code ⟨"GiftDuel$Text", "value", "(II[I[I)I"⟩ prog_10_method_13_code 16 (some .int) ∈ lw_g := lw_g2 215 rfl rfl
theorem wd_585 : Cond.constant "GiftDuel$Text" 51 (-2000000000) ∈ lw_g := lw_g2 216 rfl rfl
theorem wd_586 : Cond.constantLong "GiftDuel$Text" 52 1000000000 ∈ lw_g := lw_g2 217 rfl rfl
theorem wd_587 : Cond.constantLong "GiftDuel$Text" 54 (-1000000000) ∈ lw_g := lw_g2 218 rfl rfl
theorem wd_588 : Cond.methodLink "GiftDuel$Judge" 61 ⟨"GiftDuel$Text", "sum", "(II[I[I)I"⟩ ∈ lw_g := lw_g2 219 rfl rfl
theorem wd_589 : Cond.instanceMethod ⟨"GiftDuel$Text", "sum", "(II[I[I)I"⟩ ∈ lw_g := lw_g2 220 rfl rfl
theorem wd_590 : Cond.selects "GiftDuel$Text" ⟨"GiftDuel$Text", "sum", "(II[I[I)I"⟩ ⟨"GiftDuel$Text", "sum", "(II[I[I)I"⟩ ∈ lw_g := lw_g2 221 rfl rfl
theorem wd_591 : Cond.code ⟨"GiftDuel$Text", "sum", "(II[I[I)I"⟩ prog_10_method_12_code 6 (some .int) ∈ lw_g := lw_g2 222 rfl rfl
theorem wd_592 : Cond.constant "GiftDuel$Judge" 65 (-2000000000) ∈ lw_g := lw_g2 223 rfl rfl
theorem wd_593 : Cond.methodLink "GiftDuel$Judge" 66 ⟨"java/lang/Math", "min", "(II)I"⟩ ∈ lw_g := lw_g2 224 rfl rfl
theorem wd_596 : Cond.methodLink "GiftDuel$Judge" 71 ⟨"java/lang/Math", "max", "(II)I"⟩ ∈ lw_g := lw_g2 227 rfl rfl
theorem wd_597 : Cond.methodLink "GiftDuel" 132 ⟨"GiftDuel$World", "seenOf", "(II)I"⟩ ∈ lw_g := lw_g2 228 rfl rfl
theorem wd_598 : Cond.instanceMethod ⟨"GiftDuel$World", "seenOf", "(II)I"⟩ ∈ lw_g := lw_g2 229 rfl rfl
theorem wd_599 : Cond.selects "GiftDuel$World" ⟨"GiftDuel$World", "seenOf", "(II)I"⟩ ⟨"GiftDuel$World", "seenOf", "(II)I"⟩ ∈ lw_g := lw_g2 230 rfl rfl
theorem wd_600 : Cond.code ⟨"GiftDuel$World", "seenOf", "(II)I"⟩ prog_12_method_31_code 3 (some .int) ∈ lw_g := lw_g2 231 rfl rfl
theorem wd_601 : Cond.methodLink "GiftDuel$World" 37 ⟨"GiftDuel$World", "lordAt", "(II)I"⟩ ∈ lw_g := lw_g2 232 rfl rfl
theorem wd_602 : Cond.instanceMethod ⟨"GiftDuel$World", "lordAt", "(II)I"⟩ ∈ lw_g := lw_g2 233 rfl rfl
theorem wd_603 : Cond.selects "GiftDuel$World" ⟨"GiftDuel$World", "lordAt", "(II)I"⟩ ⟨"GiftDuel$World", "lordAt", "(II)I"⟩ ∈ lw_g := lw_g2 234 rfl rfl
theorem wd_604 : Cond.code ⟨"GiftDuel$World", "lordAt", "(II)I"⟩ prog_12_method_12_code 3 (some .int) ∈ lw_g := lw_g2 235 rfl rfl
theorem wd_605 : Cond.methodLink "GiftDuel$World" 41 ⟨"GiftDuel$World", "held", "(I)I"⟩ ∈ lw_g := lw_g2 236 rfl rfl
theorem wd_607 : Cond.instanceMethod ⟨"GiftDuel$World", "held", "(I)I"⟩ ∈ lw_g := lw_g2 238 rfl rfl
theorem wd_608 : Cond.code ⟨"GiftDuel$World", "held", "(I)I"⟩ prog_12_method_32_code 4 (some .int) ∈ lw_g := lw_g2 239 rfl rfl
theorem wd_609 : Cond.methodLink "GiftDuel$World" 45 ⟨"GiftDuel$World", "many", "(I)I"⟩ ∈ lw_g := lw_g3 0 rfl rfl
theorem wd_610 : Cond.methodLink "GiftDuel$World" 48 ⟨"GiftDuel$World", "goodAt", "(II)I"⟩ ∈ lw_g := lw_g3 1 rfl rfl
theorem wd_615 : Cond.methodLink "GiftDuel" 135 ⟨"GiftDuel$World", "lordAt", "(II)I"⟩ ∈ lw_g := lw_g3 6 rfl rfl
theorem wd_616 : Cond.methodLink "GiftDuel" 138 ⟨"GiftDuel$World", "setLord", "(III)V"⟩ ∈ lw_g := lw_g3 7 rfl rfl
theorem wd_617 : Cond.instanceMethod ⟨"GiftDuel$World", "setLord", "(III)V"⟩ ∈ lw_g := lw_g3 8 rfl rfl
theorem wd_618 : Cond.selects "GiftDuel$World" ⟨"GiftDuel$World", "setLord", "(III)V"⟩ ⟨"GiftDuel$World", "setLord", "(III)V"⟩ ∈ lw_g := lw_g3 9 rfl rfl
theorem wd_619 : Cond.code ⟨"GiftDuel$World", "setLord", "(III)V"⟩ prog_12_method_13_code 4 none ∈ lw_g := lw_g3 10 rfl rfl
theorem wd_624 : Cond.methodLink "GiftDuel" 142 ⟨"GiftDuel$World", "addGood", "(III)I"⟩ ∈ lw_g := lw_g3 15 rfl rfl
theorem wd_625 : Cond.instanceMethod ⟨"GiftDuel$World", "addGood", "(III)I"⟩ ∈ lw_g := lw_g3 16 rfl rfl
theorem wd_626 : Cond.selects "GiftDuel$World" ⟨"GiftDuel$World", "addGood", "(III)I"⟩ ⟨"GiftDuel$World", "addGood", "(III)I"⟩ ∈ lw_g := lw_g3 17 rfl rfl
theorem wd_627 : Cond.code ⟨"GiftDuel$World", "addGood", "(III)I"⟩ prog_12_method_27_code 6 (some .int) ∈ lw_g := lw_g3 18 rfl rfl
theorem wd_632 : Cond.methodLink "GiftDuel" 146 ⟨"GiftDuel$World", "isGood", "(I)Z"⟩ ∈ lw_g := lw_g3 23 rfl rfl
theorem wd_633 : Cond.instanceMethod ⟨"GiftDuel$World", "isGood", "(I)Z"⟩ ∈ lw_g := lw_g3 24 rfl rfl
theorem wd_634 : Cond.selects "GiftDuel$World" ⟨"GiftDuel$World", "isGood", "(I)Z"⟩ ⟨"GiftDuel$World", "isGood", "(I)Z"⟩ ∈ lw_g := lw_g3 25 rfl rfl
theorem wd_635 : Cond.code ⟨"GiftDuel$World", "isGood", "(I)Z"⟩ prog_12_method_8_code 2 (some .boolean) ∈ lw_g := lw_g3 26 rfl rfl
theorem wd_636 : Cond.methodLink "GiftDuel" 149 ⟨"GiftDuel$World", "goodAt", "(II)I"⟩ ∈ lw_g := lw_g3 27 rfl rfl
theorem wd_637 : Cond.methodLink "GiftDuel" 152 ⟨"GiftDuel$Judge", "costs", "(LGiftDuel$World;III)I"⟩ ∈ lw_g := lw_g3 28 rfl rfl
theorem wd_638 : Cond.instanceMethod ⟨"GiftDuel$Judge", "costs", "(LGiftDuel$World;III)I"⟩ ∈ lw_g := lw_g3 29 rfl rfl
theorem wd_639 : Cond.selects "GiftDuel$Judge" ⟨"GiftDuel$Judge", "costs", "(LGiftDuel$World;III)I"⟩ ⟨"GiftDuel$Judge", "costs", "(LGiftDuel$World;III)I"⟩ ∈ lw_g := lw_g3 30 rfl rfl
theorem wd_640 : Cond.code ⟨"GiftDuel$Judge", "costs", "(LGiftDuel$World;III)I"⟩ prog_4_method_4_code 5 (some .int) ∈ lw_g := lw_g3 31 rfl rfl
theorem wd_645 : Cond.methodLink "GiftDuel" 156 ⟨"GiftDuel$World", "setTerm", "(II)V"⟩ ∈ lw_g := lw_g3 36 rfl rfl
theorem wd_646 : Cond.instanceMethod ⟨"GiftDuel$World", "setTerm", "(II)V"⟩ ∈ lw_g := lw_g3 37 rfl rfl
theorem wd_647 : Cond.selects "GiftDuel$World" ⟨"GiftDuel$World", "setTerm", "(II)V"⟩ ⟨"GiftDuel$World", "setTerm", "(II)V"⟩ ∈ lw_g := lw_g3 38 rfl rfl
theorem wd_648 : Cond.code ⟨"GiftDuel$World", "setTerm", "(II)V"⟩ prog_12_method_10_code 3 none ∈ lw_g := lw_g3 39 rfl rfl
theorem wd_653 : Cond.methodLink "GiftDuel" 160 ⟨"GiftDuel$Reader", "hasRoom", "(I)Z"⟩ ∈ lw_g := lw_g3 44 rfl rfl
theorem wd_654 : Cond.instanceMethod ⟨"GiftDuel$Reader", "hasRoom", "(I)Z"⟩ ∈ lw_g := lw_g3 45 rfl rfl
theorem wd_655 : Cond.selects "GiftDuel$Reader" ⟨"GiftDuel$Reader", "hasRoom", "(I)Z"⟩ ⟨"GiftDuel$Reader", "hasRoom", "(I)Z"⟩ ∈ lw_g := lw_g3 46 rfl rfl
theorem wd_656 : Cond.code ⟨"GiftDuel$Reader", "hasRoom", "(I)Z"⟩ prog_7_method_3_code 2 (some .boolean) ∈ lw_g := lw_g3 47 rfl rfl
theorem wd_657 : Cond.methodLink "GiftDuel" 163 ⟨"GiftDuel$Reader", "append", "(I)V"⟩ ∈ lw_g := lw_g3 48 rfl rfl
theorem wd_658 : Cond.instanceMethod ⟨"GiftDuel$Reader", "append", "(I)V"⟩ ∈ lw_g := lw_g3 49 rfl rfl
theorem wd_659 : Cond.selects "GiftDuel$Reader" ⟨"GiftDuel$Reader", "append", "(I)V"⟩ ⟨"GiftDuel$Reader", "append", "(I)V"⟩ ∈ lw_g := lw_g3 50 rfl rfl
theorem wd_660 : Cond.code ⟨"GiftDuel$Reader", "append", "(I)V"⟩ prog_7_method_4_code 3 none ∈ lw_g := lw_g3 51 rfl rfl
theorem wd_661 : Cond.methodLink "GiftDuel" 167 ⟨"GiftDuel$Reader", "length", "()I"⟩ ∈ lw_g := lw_g3 52 rfl rfl
theorem wd_662 : Cond.instanceMethod ⟨"GiftDuel$Reader", "length", "()I"⟩ ∈ lw_g := lw_g3 53 rfl rfl
theorem wd_663 : Cond.selects "GiftDuel$Reader" ⟨"GiftDuel$Reader", "length", "()I"⟩ ⟨"GiftDuel$Reader", "length", "()I"⟩ ∈ lw_g := lw_g3 54 rfl rfl
theorem wd_664 : Cond.code ⟨"GiftDuel$Reader", "length", "()I"⟩ prog_7_method_2_code 1 (some .int) ∈ lw_g := lw_g3 55 rfl rfl
theorem wd_669 : Cond.methodLink "GiftDuel" 171 ⟨"GiftDuel$Reader", "cut", "(I)V"⟩ ∈ lw_g := lw_g3 60 rfl rfl
theorem wd_670 : Cond.instanceMethod ⟨"GiftDuel$Reader", "cut", "(I)V"⟩ ∈ lw_g := lw_g3 61 rfl rfl
theorem wd_671 : Cond.selects "GiftDuel$Reader" ⟨"GiftDuel$Reader", "cut", "(I)V"⟩ ⟨"GiftDuel$Reader", "cut", "(I)V"⟩ ∈ lw_g := lw_g3 62 rfl rfl
theorem wd_672 : Cond.code ⟨"GiftDuel$Reader", "cut", "(I)V"⟩ prog_7_method_5_code 2 none ∈ lw_g := lw_g3 63 rfl rfl
theorem wd_677 : Cond.methodLink "GiftDuel" 174 ⟨"GiftDuel$Reader", "byteAt", "(I)I"⟩ ∈ lw_g := lw_g3 68 rfl rfl
theorem wd_678 : Cond.instanceMethod ⟨"GiftDuel$Reader", "byteAt", "(I)I"⟩ ∈ lw_g := lw_g3 69 rfl rfl
theorem wd_679 : Cond.selects "GiftDuel$Reader" ⟨"GiftDuel$Reader", "byteAt", "(I)I"⟩ ⟨"GiftDuel$Reader", "byteAt", "(I)I"⟩ ∈ lw_g := lw_g3 70 rfl rfl
theorem wd_680 : Cond.code ⟨"GiftDuel$Reader", "byteAt", "(I)I"⟩ prog_7_method_6_code 2 (some .int) ∈ lw_g := lw_g3 71 rfl rfl
theorem wd_681 : Cond.methodLink "GiftDuel" 177 ⟨"GiftDuel", "comes", "(III)Z"⟩ ∈ lw_g := lw_g3 72 rfl rfl
theorem wd_683 : Cond.instanceMethod ⟨"GiftDuel", "comes", "(III)Z"⟩ ∈ lw_g := lw_g3 74 rfl rfl
theorem wd_684 : Cond.code ⟨"GiftDuel", "comes", "(III)Z"⟩ prog_1_method_14_code 5 (some .boolean) ∈ lw_g := lw_g3 75 rfl rfl
theorem wd_693 : Cond.methodLink "GiftDuel" 180 ⟨"GiftDuel$Reader", "reads", "(Z)Z"⟩ ∈ lw_g := lw_g3 84 rfl rfl
theorem wd_694 : Cond.instanceMethod ⟨"GiftDuel$Reader", "reads", "(Z)Z"⟩ ∈ lw_g := lw_g3 85 rfl rfl
theorem wd_695 : Cond.selects "GiftDuel$Reader" ⟨"GiftDuel$Reader", "reads", "(Z)Z"⟩ ⟨"GiftDuel$Reader", "reads", "(Z)Z"⟩ ∈ lw_g := lw_g3 86 rfl rfl
theorem wd_696 : Cond.code ⟨"GiftDuel$Reader", "reads", "(Z)Z"⟩ prog_7_method_9_code 4 (some .boolean) ∈ lw_g := lw_g3 87 rfl rfl
theorem wd_697 : Cond.methodLink "GiftDuel$Reader" 53 ⟨"GiftDuel$Text", "empty", "()V"⟩ ∈ lw_g := lw_g3 88 rfl rfl
theorem wd_698 : Cond.instanceMethod ⟨"GiftDuel$Text", "empty", "()V"⟩ ∈ lw_g := lw_g3 89 rfl rfl
theorem wd_699 : Cond.selects "GiftDuel$Text" ⟨"GiftDuel$Text", "empty", "()V"⟩ ⟨"GiftDuel$Text", "empty", "()V"⟩ ∈ lw_g := lw_g3 90 rfl rfl
theorem wd_700 : Cond.code ⟨"GiftDuel$Text", "empty", "()V"⟩ prog_10_method_2_code 1 none ∈ lw_g := lw_g3 91 rfl rfl
theorem wd_701 : Cond.methodLink "GiftDuel$Reader" 56 ⟨"GiftDuel$Reader", "scan", "()V"⟩ ∈ lw_g := lw_g3 92 rfl rfl
theorem wd_703 : Cond.instanceMethod ⟨"GiftDuel$Reader", "scan", "()V"⟩ ∈ lw_g := lw_g3 94 rfl rfl
theorem wd_704 : Cond.code ⟨"GiftDuel$Reader", "scan", "()V"⟩ prog_7_method_10_code 5 none ∈ lw_g := lw_g3 95 rfl rfl
theorem wd_705 : Cond.methodLink "GiftDuel$Reader" 72 ⟨"GiftDuel$Reader", "isLetter", "(I)Z"⟩ ∈ lw_g := lw_g3 96 rfl rfl
theorem wd_706 : Cond.static ⟨"GiftDuel$Reader", "isLetter", "(I)Z"⟩ ∈ lw_g := lw_g3 97 rfl rfl
theorem wd_707 : Cond.code ⟨"GiftDuel$Reader", "isLetter", "(I)Z"⟩ prog_7_method_11_code 1 (some .boolean) ∈ lw_g := lw_g3 98 rfl rfl
theorem wd_708 : Cond.methodLink "GiftDuel$Reader" 76 ⟨"GiftDuel$Reader", "wordOf", "(II)I"⟩ ∈ lw_g := lw_g3 99 rfl rfl
theorem wd_710 : Cond.instanceMethod ⟨"GiftDuel$Reader", "wordOf", "(II)I"⟩ ∈ lw_g := lw_g3 101 rfl rfl
theorem wd_711 : Cond.code ⟨"GiftDuel$Reader", "wordOf", "(II)I"⟩ prog_7_method_14_code 8 (some .int) ∈ lw_g := lw_g3 102 rfl rfl
theorem wd_713 : Cond.methodLink "GiftDuel$Reader" 93 ⟨"java/lang/String", "length", "()I"⟩ ∈ lw_g := lw_g3 104 rfl rfl
theorem wd_723 : Cond.methodLink "GiftDuel$Reader" 98 ⟨"java/lang/String", "charAt", "(I)C"⟩ ∈ lw_g := lw_g3 114 rfl rfl
theorem wd_761 : Cond.methodLink "GiftDuel$Reader" 80 ⟨"GiftDuel$Reader", "isDigit", "(I)Z"⟩ ∈ lw_g := lw_g3 152 rfl rfl
theorem wd_762 : Cond.static ⟨"GiftDuel$Reader", "isDigit", "(I)Z"⟩ ∈ lw_g := lw_g3 153 rfl rfl
theorem wd_763 : Cond.code ⟨"GiftDuel$Reader", "isDigit", "(I)Z"⟩ prog_7_method_12_code 1 (some .boolean) ∈ lw_g := lw_g3 154 rfl rfl
theorem wd_764 : Cond.methodLink "GiftDuel$Reader" 83 ⟨"GiftDuel$Reader", "numberOf", "(II)I"⟩ ∈ lw_g := lw_g3 155 rfl rfl
theorem wd_766 : Cond.instanceMethod ⟨"GiftDuel$Reader", "numberOf", "(II)I"⟩ ∈ lw_g := lw_g3 157 rfl rfl
theorem wd_767 : Cond.code ⟨"GiftDuel$Reader", "numberOf", "(II)I"⟩ prog_7_method_13_code 5 (some .int) ∈ lw_g := lw_g3 158 rfl rfl
theorem wd_768 : Cond.methodLink "GiftDuel$Reader" 86 ⟨"java/lang/Math", "min", "(II)I"⟩ ∈ lw_g := lw_g3 159 rfl rfl
theorem wd_769 : Cond.methodLink "GiftDuel$Reader" 59 ⟨"GiftDuel$Reader", "lawClause", "()Z"⟩ ∈ lw_g := lw_g3 160 rfl rfl
theorem wd_771 : Cond.instanceMethod ⟨"GiftDuel$Reader", "lawClause", "()Z"⟩ ∈ lw_g := lw_g3 162 rfl rfl
theorem wd_772 : Cond.code ⟨"GiftDuel$Reader", "lawClause", "()Z"⟩ prog_7_method_17_code 3 (some .boolean) ∈ lw_g := lw_g3 163 rfl rfl
theorem wd_773 : Cond.methodLink "GiftDuel$Reader" 69 ⟨"GiftDuel$Reader", "wrong", "()Z"⟩ ∈ lw_g := lw_g3 164 rfl rfl
theorem wd_775 : Cond.instanceMethod ⟨"GiftDuel$Reader", "wrong", "()Z"⟩ ∈ lw_g := lw_g3 166 rfl rfl
theorem wd_776 : Cond.code ⟨"GiftDuel$Reader", "wrong", "()Z"⟩ prog_7_method_16_code 1 (some .boolean) ∈ lw_g := lw_g3 167 rfl rfl
theorem wd_777 : Cond.methodLink "GiftDuel$Reader" 102 ⟨"GiftDuel$Text", "open", "(I)I"⟩ ∈ lw_g := lw_g3 168 rfl rfl
theorem wd_778 : Cond.instanceMethod ⟨"GiftDuel$Text", "open", "(I)I"⟩ ∈ lw_g := lw_g3 169 rfl rfl
theorem wd_779 : Cond.selects "GiftDuel$Text" ⟨"GiftDuel$Text", "open", "(I)I"⟩ ⟨"GiftDuel$Text", "open", "(I)I"⟩ ∈ lw_g := lw_g3 170 rfl rfl
theorem wd_780 : Cond.code ⟨"GiftDuel$Text", "open", "(I)I"⟩ prog_10_method_7_code 2 (some .int) ∈ lw_g := lw_g3 171 rfl rfl
theorem wd_781 : Cond.methodLink "GiftDuel$Text" 32 ⟨"java/util/Arrays", "fill", "([IIII)V"⟩ ∈ lw_g := lw_g3 172 rfl rfl
theorem wd_782 : Cond.methodLink "GiftDuel$Reader" 66 ⟨"GiftDuel$Reader", "advance", "()V"⟩ ∈ lw_g := lw_g3 173 rfl rfl
theorem wd_784 : Cond.instanceMethod ⟨"GiftDuel$Reader", "advance", "()V"⟩ ∈ lw_g := lw_g3 175 rfl rfl
theorem wd_785 : Cond.code ⟨"GiftDuel$Reader", "advance", "()V"⟩ prog_7_method_15_code 1 none ∈ lw_g := lw_g3 176 rfl rfl
theorem wd_786 : Cond.methodLink "GiftDuel$Reader" 106 ⟨"GiftDuel$Reader", "sumOf", "(II)Z"⟩ ∈ lw_g := lw_g3 177 rfl rfl
theorem wd_788 : Cond.instanceMethod ⟨"GiftDuel$Reader", "sumOf", "(II)Z"⟩ ∈ lw_g := lw_g3 179 rfl rfl
theorem wd_789 : Cond.code ⟨"GiftDuel$Reader", "sumOf", "(II)Z"⟩ prog_7_method_21_code 4 (some .boolean) ∈ lw_g := lw_g3 180 rfl rfl
theorem wd_790 : Cond.methodLink "GiftDuel$Reader" 120 ⟨"GiftDuel$Text", "size", "()I"⟩ ∈ lw_g := lw_g3 181 rfl rfl
theorem wd_791 : Cond.instanceMethod ⟨"GiftDuel$Text", "size", "()I"⟩ ∈ lw_g := lw_g3 182 rfl rfl
theorem wd_792 : Cond.selects "GiftDuel$Text" ⟨"GiftDuel$Text", "size", "()I"⟩ ⟨"GiftDuel$Text", "size", "()I"⟩ ∈ lw_g := lw_g3 183 rfl rfl
theorem wd_793 : Cond.code ⟨"GiftDuel$Text", "size", "()I"⟩ prog_10_method_4_code 1 (some .int) ∈ lw_g := lw_g3 184 rfl rfl
theorem wd_794 : Cond.methodLink "GiftDuel$Reader" 116 ⟨"GiftDuel$Text", "setPart", "(III)V"⟩ ∈ lw_g := lw_g3 185 rfl rfl
theorem wd_795 : Cond.instanceMethod ⟨"GiftDuel$Text", "setPart", "(III)V"⟩ ∈ lw_g := lw_g3 186 rfl rfl
theorem wd_796 : Cond.selects "GiftDuel$Text" ⟨"GiftDuel$Text", "setPart", "(III)V"⟩ ⟨"GiftDuel$Text", "setPart", "(III)V"⟩ ∈ lw_g := lw_g3 187 rfl rfl
theorem wd_797 : Cond.code ⟨"GiftDuel$Text", "setPart", "(III)V"⟩ prog_10_method_9_code 4 none ∈ lw_g := lw_g3 188 rfl rfl
theorem wd_798 : Cond.methodLink "GiftDuel$Reader" 126 ⟨"GiftDuel$Reader", "sum", "(I)Z"⟩ ∈ lw_g := lw_g3 189 rfl rfl
theorem wd_800 : Cond.instanceMethod ⟨"GiftDuel$Reader", "sum", "(I)Z"⟩ ∈ lw_g := lw_g3 191 rfl rfl
theorem wd_801 : Cond.code ⟨"GiftDuel$Reader", "sum", "(I)Z"⟩ prog_7_method_27_code 5 (some .boolean) ∈ lw_g := lw_g3 192 rfl rfl
theorem wd_802 : Cond.methodLink "GiftDuel$Reader" 149 ⟨"GiftDuel$Reader", "term", "(I)Z"⟩ ∈ lw_g := lw_g3 193 rfl rfl
theorem wd_804 : Cond.instanceMethod ⟨"GiftDuel$Reader", "term", "(I)Z"⟩ ∈ lw_g := lw_g3 195 rfl rfl
theorem wd_805 : Cond.code ⟨"GiftDuel$Reader", "term", "(I)Z"⟩ prog_7_method_28_code 5 (some .boolean) ∈ lw_g := lw_g3 196 rfl rfl
theorem wd_806 : Cond.methodLink "GiftDuel$Reader" 152 ⟨"GiftDuel$Reader", "part", "(I)Z"⟩ ∈ lw_g := lw_g3 197 rfl rfl
theorem wd_808 : Cond.instanceMethod ⟨"GiftDuel$Reader", "part", "(I)Z"⟩ ∈ lw_g := lw_g3 199 rfl rfl
theorem wd_809 : Cond.code ⟨"GiftDuel$Reader", "part", "(I)Z"⟩ prog_7_method_29_code 7 (some .boolean) ∈ lw_g := lw_g3 200 rfl rfl
theorem wd_810 : Cond.methodLink "GiftDuel$Reader" 142 ⟨"GiftDuel$Reader", "bracketed", "(III)Z"⟩ ∈ lw_g := lw_g3 201 rfl rfl
theorem wd_812 : Cond.instanceMethod ⟨"GiftDuel$Reader", "bracketed", "(III)Z"⟩ ∈ lw_g := lw_g3 203 rfl rfl
theorem wd_813 : Cond.code ⟨"GiftDuel$Reader", "bracketed", "(III)Z"⟩ prog_7_method_25_code 5 (some .boolean) ∈ lw_g := lw_g3 204 rfl rfl
theorem wd_814 : Cond.methodLink "GiftDuel$Reader" 123 ⟨"GiftDuel$Reader", "test", "(I)Z"⟩ ∈ lw_g := lw_g3 205 rfl rfl
theorem wd_816 : Cond.instanceMethod ⟨"GiftDuel$Reader", "test", "(I)Z"⟩ ∈ lw_g := lw_g3 207 rfl rfl
theorem wd_817 : Cond.code ⟨"GiftDuel$Reader", "test", "(I)Z"⟩ prog_7_method_22_code 5 (some .boolean) ∈ lw_g := lw_g3 208 rfl rfl
theorem wd_818 : Cond.methodLink "GiftDuel$Reader" 129 ⟨"GiftDuel$Reader", "both", "(I)Z"⟩ ∈ lw_g := lw_g3 209 rfl rfl
theorem wd_820 : Cond.instanceMethod ⟨"GiftDuel$Reader", "both", "(I)Z"⟩ ∈ lw_g := lw_g3 211 rfl rfl
theorem wd_821 : Cond.code ⟨"GiftDuel$Reader", "both", "(I)Z"⟩ prog_7_method_23_code 5 (some .boolean) ∈ lw_g := lw_g3 212 rfl rfl
theorem wd_822 : Cond.methodLink "GiftDuel$Reader" 139 ⟨"GiftDuel$Reader", "plain", "(I)Z"⟩ ∈ lw_g := lw_g3 213 rfl rfl
theorem wd_824 : Cond.instanceMethod ⟨"GiftDuel$Reader", "plain", "(I)Z"⟩ ∈ lw_g := lw_g3 215 rfl rfl
theorem wd_825 : Cond.code ⟨"GiftDuel$Reader", "plain", "(I)Z"⟩ prog_7_method_24_code 4 (some .boolean) ∈ lw_g := lw_g3 216 rfl rfl
theorem wd_826 : Cond.methodLink "GiftDuel$Reader" 146 ⟨"GiftDuel$Reader", "comparison", "(I)Z"⟩ ∈ lw_g := lw_g3 217 rfl rfl
theorem wd_828 : Cond.instanceMethod ⟨"GiftDuel$Reader", "comparison", "(I)Z"⟩ ∈ lw_g := lw_g3 219 rfl rfl
theorem wd_829 : Cond.code ⟨"GiftDuel$Reader", "comparison", "(I)Z"⟩ prog_7_method_26_code 4 (some .boolean) ∈ lw_g := lw_g3 220 rfl rfl
theorem wd_830 : Cond.methodLink "GiftDuel$Reader" 132 ⟨"GiftDuel$Text", "add", "(II)I"⟩ ∈ lw_g := lw_g3 221 rfl rfl
theorem wd_831 : Cond.instanceMethod ⟨"GiftDuel$Text", "add", "(II)I"⟩ ∈ lw_g := lw_g3 222 rfl rfl
theorem wd_832 : Cond.selects "GiftDuel$Text" ⟨"GiftDuel$Text", "add", "(II)I"⟩ ⟨"GiftDuel$Text", "add", "(II)I"⟩ ∈ lw_g := lw_g3 223 rfl rfl
theorem wd_833 : Cond.code ⟨"GiftDuel$Text", "add", "(II)I"⟩ prog_10_method_5_code 3 (some .int) ∈ lw_g := lw_g3 224 rfl rfl
theorem wd_834 : Cond.methodLink "GiftDuel$Reader" 135 ⟨"GiftDuel$Text", "landHere", "(I)V"⟩ ∈ lw_g := lw_g3 225 rfl rfl
theorem wd_835 : Cond.instanceMethod ⟨"GiftDuel$Text", "landHere", "(I)V"⟩ ∈ lw_g := lw_g3 226 rfl rfl
theorem wd_836 : Cond.selects "GiftDuel$Text" ⟨"GiftDuel$Text", "landHere", "(I)V"⟩ ⟨"GiftDuel$Text", "landHere", "(I)V"⟩ ∈ lw_g := lw_g3 227 rfl rfl
theorem wd_837 : Cond.code ⟨"GiftDuel$Text", "landHere", "(I)V"⟩ prog_10_method_6_code 2 none ∈ lw_g := lw_g3 228 rfl rfl
theorem wd_838 : Cond.methodLink "GiftDuel$Reader" 155 ⟨"GiftDuel$Reader", "lawWord", "()I"⟩ ∈ lw_g := lw_g3 229 rfl rfl
theorem wd_840 : Cond.instanceMethod ⟨"GiftDuel$Reader", "lawWord", "()I"⟩ ∈ lw_g := lw_g3 231 rfl rfl
theorem wd_841 : Cond.code ⟨"GiftDuel$Reader", "lawWord", "()I"⟩ prog_7_method_30_code 1 (some .int) ∈ lw_g := lw_g3 232 rfl rfl
theorem wd_842 : Cond.methodLink "GiftDuel$Reader" 158 ⟨"GiftDuel$Reader", "orderWord", "()I"⟩ ∈ lw_g := lw_g3 233 rfl rfl
theorem wd_844 : Cond.instanceMethod ⟨"GiftDuel$Reader", "orderWord", "()I"⟩ ∈ lw_g := lw_g3 235 rfl rfl
theorem wd_845 : Cond.code ⟨"GiftDuel$Reader", "orderWord", "()I"⟩ prog_7_method_31_code 1 (some .int) ∈ lw_g := lw_g3 236 rfl rfl
theorem wd_846 : Cond.methodLink "GiftDuel$Reader" 110 ⟨"GiftDuel$Reader", "condition", "(I)Z"⟩ ∈ lw_g := lw_g3 237 rfl rfl
theorem wd_848 : Cond.instanceMethod ⟨"GiftDuel$Reader", "condition", "(I)Z"⟩ ∈ lw_g := lw_g3 239 rfl rfl
theorem wd_849 : Cond.code ⟨"GiftDuel$Reader", "condition", "(I)Z"⟩ prog_7_method_20_code 3 (some .boolean) ∈ lw_g := lw_g4 0 rfl rfl
theorem wd_850 : Cond.methodLink "GiftDuel$Reader" 63 ⟨"GiftDuel$Reader", "orderClause", "()Z"⟩ ∈ lw_g := lw_g4 1 rfl rfl
theorem wd_852 : Cond.instanceMethod ⟨"GiftDuel$Reader", "orderClause", "()Z"⟩ ∈ lw_g := lw_g4 3 rfl rfl
theorem wd_853 : Cond.code ⟨"GiftDuel$Reader", "orderClause", "()Z"⟩ prog_7_method_18_code 3 (some .boolean) ∈ lw_g := lw_g4 4 rfl rfl
theorem wd_854 : Cond.methodLink "GiftDuel$Reader" 113 ⟨"GiftDuel$Reader", "times", "(I)Z"⟩ ∈ lw_g := lw_g4 5 rfl rfl
theorem wd_856 : Cond.instanceMethod ⟨"GiftDuel$Reader", "times", "(I)Z"⟩ ∈ lw_g := lw_g4 7 rfl rfl
theorem wd_857 : Cond.code ⟨"GiftDuel$Reader", "times", "(I)Z"⟩ prog_7_method_19_code 2 (some .boolean) ∈ lw_g := lw_g4 8 rfl rfl
theorem wd_858 : Cond.methodLink "GiftDuel" 184 ⟨"GiftDuel$Reader", "text", "()LGiftDuel$Text;"⟩ ∈ lw_g := lw_g4 9 rfl rfl
theorem wd_859 : Cond.instanceMethod ⟨"GiftDuel$Reader", "text", "()LGiftDuel$Text;"⟩ ∈ lw_g := lw_g4 10 rfl rfl
theorem wd_860 : Cond.selects "GiftDuel$Reader" ⟨"GiftDuel$Reader", "text", "()LGiftDuel$Text;"⟩ ⟨"GiftDuel$Reader", "text", "()LGiftDuel$Text;"⟩ ∈ lw_g := lw_g4 11 rfl rfl
theorem wd_861 : Cond.code ⟨"GiftDuel$Reader", "text", "()LGiftDuel$Text;"⟩ prog_7_method_7_code 1 (some (.object "GiftDuel$Text")) ∈ lw_g := lw_g4 12 rfl rfl
theorem wd_880 : Cond.methodLink "GiftDuel" 197 ⟨"GiftDuel$Orders", "forget", "()V"⟩ ∈ lw_g := lw_g4 31 rfl rfl
theorem wd_881 : Cond.instanceMethod ⟨"GiftDuel$Orders", "forget", "()V"⟩ ∈ lw_g := lw_g4 32 rfl rfl
theorem wd_882 : Cond.selects "GiftDuel$Orders" ⟨"GiftDuel$Orders", "forget", "()V"⟩ ⟨"GiftDuel$Orders", "forget", "()V"⟩ ∈ lw_g := lw_g4 33 rfl rfl
theorem wd_883 : Cond.code ⟨"GiftDuel$Orders", "forget", "()V"⟩ prog_5_method_3_code 1 none ∈ lw_g := lw_g4 34 rfl rfl
theorem wd_884 : Cond.methodLink "GiftDuel" 200 ⟨"GiftDuel$Orders", "run", "(LGiftDuel$Text;LGiftDuel$World;LGiftDuel$Past;)I"⟩ ∈ lw_g := lw_g4 35 rfl rfl
theorem wd_885 : Cond.instanceMethod ⟨"GiftDuel$Orders", "run", "(LGiftDuel$Text;LGiftDuel$World;LGiftDuel$Past;)I"⟩ ∈ lw_g := lw_g4 36 rfl rfl
theorem wd_886 : Cond.selects "GiftDuel$Orders" ⟨"GiftDuel$Orders", "run", "(LGiftDuel$Text;LGiftDuel$World;LGiftDuel$Past;)I"⟩ ⟨"GiftDuel$Orders", "run", "(LGiftDuel$Text;LGiftDuel$World;LGiftDuel$Past;)I"⟩ ∈ lw_g := lw_g4 37 rfl rfl
theorem wd_887 : Cond.code ⟨"GiftDuel$Orders", "run", "(LGiftDuel$Text;LGiftDuel$World;LGiftDuel$Past;)I"⟩ prog_5_method_4_code 7 (some .int) ∈ lw_g := lw_g4 38 rfl rfl
theorem wd_888 : Cond.methodLink "GiftDuel$Orders" 48 ⟨"GiftDuel$World", "copyFrom", "(LGiftDuel$World;)V"⟩ ∈ lw_g := lw_g4 39 rfl rfl
theorem wd_889 : Cond.instanceMethod ⟨"GiftDuel$World", "copyFrom", "(LGiftDuel$World;)V"⟩ ∈ lw_g := lw_g4 40 rfl rfl
theorem wd_890 : Cond.selects "GiftDuel$World" ⟨"GiftDuel$World", "copyFrom", "(LGiftDuel$World;)V"⟩ ⟨"GiftDuel$World", "copyFrom", "(LGiftDuel$World;)V"⟩ ∈ lw_g := lw_g4 41 rfl rfl
theorem wd_891 : Cond.code ⟨"GiftDuel$World", "copyFrom", "(LGiftDuel$World;)V"⟩ prog_12_method_2_code 3 none ∈ lw_g := lw_g4 42 rfl rfl
theorem wd_892 : Cond.methodLink "GiftDuel$World" 31 ⟨"java/lang/System", "arraycopy", "(Ljava/lang/Object;ILjava/lang/Object;II)V"⟩ ∈ lw_g := lw_g4 43 rfl rfl
theorem wd_893 : Cond.methodLink "GiftDuel$Orders" 52 ⟨"GiftDuel$Past", "copyFrom", "(LGiftDuel$Past;)V"⟩ ∈ lw_g := lw_g4 44 rfl rfl
theorem wd_894 : Cond.instanceMethod ⟨"GiftDuel$Past", "copyFrom", "(LGiftDuel$Past;)V"⟩ ∈ lw_g := lw_g4 45 rfl rfl
theorem wd_895 : Cond.selects "GiftDuel$Past" ⟨"GiftDuel$Past", "copyFrom", "(LGiftDuel$Past;)V"⟩ ⟨"GiftDuel$Past", "copyFrom", "(LGiftDuel$Past;)V"⟩ ∈ lw_g := lw_g4 46 rfl rfl
theorem wd_896 : Cond.code ⟨"GiftDuel$Past", "copyFrom", "(LGiftDuel$Past;)V"⟩ prog_6_method_4_code 2 none ∈ lw_g := lw_g4 47 rfl rfl
theorem wd_897 : Cond.methodLink "GiftDuel$Past" 27 ⟨"java/lang/System", "arraycopy", "(Ljava/lang/Object;ILjava/lang/Object;II)V"⟩ ∈ lw_g := lw_g4 48 rfl rfl
theorem wd_898 : Cond.methodLink "GiftDuel$Orders" 55 ⟨"GiftDuel$Text", "clauses", "()I"⟩ ∈ lw_g := lw_g4 49 rfl rfl
theorem wd_899 : Cond.methodLink "GiftDuel$Orders" 59 ⟨"GiftDuel$Text", "part", "(II)I"⟩ ∈ lw_g := lw_g4 50 rfl rfl
theorem wd_900 : Cond.methodLink "GiftDuel$Orders" 63 ⟨"GiftDuel$Orders", "step", "(LGiftDuel$Text;ILGiftDuel$World;LGiftDuel$Past;)Z"⟩ ∈ lw_g := lw_g4 51 rfl rfl
theorem wd_902 : Cond.instanceMethod ⟨"GiftDuel$Orders", "step", "(LGiftDuel$Text;ILGiftDuel$World;LGiftDuel$Past;)Z"⟩ ∈ lw_g := lw_g4 53 rfl rfl
theorem wd_903 : Cond.code ⟨"GiftDuel$Orders", "step", "(LGiftDuel$Text;ILGiftDuel$World;LGiftDuel$Past;)Z"⟩ prog_5_method_5_code 7 (some .boolean) ∈ lw_g := lw_g4 54 rfl rfl
theorem wd_904 : Cond.methodLink "GiftDuel$Orders" 67 ⟨"GiftDuel$Orders", "look", "(LGiftDuel$World;)V"⟩ ∈ lw_g := lw_g4 55 rfl rfl
theorem wd_906 : Cond.instanceMethod ⟨"GiftDuel$Orders", "look", "(LGiftDuel$World;)V"⟩ ∈ lw_g := lw_g4 57 rfl rfl
theorem wd_907 : Cond.code ⟨"GiftDuel$Orders", "look", "(LGiftDuel$World;)V"⟩ prog_5_method_6_code 4 none ∈ lw_g := lw_g4 58 rfl rfl
theorem wd_908 : Cond.methodLink "GiftDuel$Orders" 76 ⟨"GiftDuel$World", "term", "(I)I"⟩ ∈ lw_g := lw_g4 59 rfl rfl
theorem wd_909 : Cond.methodLink "GiftDuel$Orders" 109 ⟨"GiftDuel$World", "many", "(I)I"⟩ ∈ lw_g := lw_g4 60 rfl rfl
theorem wd_910 : Cond.methodLink "GiftDuel$Orders" 98 ⟨"GiftDuel$World", "isLord", "(I)Z"⟩ ∈ lw_g := lw_g4 61 rfl rfl
theorem wd_911 : Cond.methodLink "GiftDuel$Orders" 112 ⟨"GiftDuel$World", "lordAt", "(II)I"⟩ ∈ lw_g := lw_g4 62 rfl rfl
theorem wd_912 : Cond.methodLink "GiftDuel$Orders" 115 ⟨"GiftDuel$World", "standingAgainst", "(I)I"⟩ ∈ lw_g := lw_g4 63 rfl rfl
theorem wd_913 : Cond.instanceMethod ⟨"GiftDuel$World", "standingAgainst", "(I)I"⟩ ∈ lw_g := lw_g4 64 rfl rfl
theorem wd_914 : Cond.selects "GiftDuel$World" ⟨"GiftDuel$World", "standingAgainst", "(I)I"⟩ ⟨"GiftDuel$World", "standingAgainst", "(I)I"⟩ ∈ lw_g := lw_g4 65 rfl rfl
theorem wd_915 : Cond.code ⟨"GiftDuel$World", "standingAgainst", "(I)I"⟩ prog_12_method_37_code 4 (some .int) ∈ lw_g := lw_g4 66 rfl rfl
theorem wd_916 : Cond.methodLink "GiftDuel$World" 51 ⟨"GiftDuel$World", "worthOwed", "(II)I"⟩ ∈ lw_g := lw_g4 67 rfl rfl
theorem wd_917 : Cond.instanceMethod ⟨"GiftDuel$World", "worthOwed", "(II)I"⟩ ∈ lw_g := lw_g4 68 rfl rfl
theorem wd_918 : Cond.selects "GiftDuel$World" ⟨"GiftDuel$World", "worthOwed", "(II)I"⟩ ⟨"GiftDuel$World", "worthOwed", "(II)I"⟩ ∈ lw_g := lw_g4 69 rfl rfl
theorem wd_919 : Cond.code ⟨"GiftDuel$World", "worthOwed", "(II)I"⟩ prog_12_method_33_code 3 (some .int) ∈ lw_g := lw_g4 70 rfl rfl
theorem wd_920 : Cond.methodLink "GiftDuel$Orders" 94 ⟨"GiftDuel$World", "isGood", "(I)Z"⟩ ∈ lw_g := lw_g4 71 rfl rfl
theorem wd_921 : Cond.methodLink "GiftDuel$Orders" 118 ⟨"GiftDuel$World", "goodAt", "(II)I"⟩ ∈ lw_g := lw_g4 72 rfl rfl
theorem wd_922 : Cond.methodLink "GiftDuel$Orders" 70 ⟨"GiftDuel$Text", "isSo", "(I[I[I)Z"⟩ ∈ lw_g := lw_g4 73 rfl rfl
theorem wd_923 : Cond.methodLink "GiftDuel$Orders" 80 ⟨"GiftDuel$Past", "keep", "(LGiftDuel$World;I)V"⟩ ∈ lw_g := lw_g4 74 rfl rfl
theorem wd_924 : Cond.instanceMethod ⟨"GiftDuel$Past", "keep", "(LGiftDuel$World;I)V"⟩ ∈ lw_g := lw_g4 75 rfl rfl
theorem wd_925 : Cond.selects "GiftDuel$Past" ⟨"GiftDuel$Past", "keep", "(LGiftDuel$World;I)V"⟩ ⟨"GiftDuel$Past", "keep", "(LGiftDuel$World;I)V"⟩ ∈ lw_g := lw_g4 76 rfl rfl
theorem wd_926 : Cond.code ⟨"GiftDuel$Past", "keep", "(LGiftDuel$World;I)V"⟩ prog_6_method_5_code 3 none ∈ lw_g := lw_g4 77 rfl rfl
theorem wd_927 : Cond.methodLink "GiftDuel$Past" 33 ⟨"GiftDuel$World", "saveTo", "([II)V"⟩ ∈ lw_g := lw_g4 78 rfl rfl
theorem wd_928 : Cond.instanceMethod ⟨"GiftDuel$World", "saveTo", "([II)V"⟩ ∈ lw_g := lw_g4 79 rfl rfl
theorem wd_929 : Cond.selects "GiftDuel$World" ⟨"GiftDuel$World", "saveTo", "([II)V"⟩ ⟨"GiftDuel$World", "saveTo", "([II)V"⟩ ∈ lw_g := lw_g4 80 rfl rfl
theorem wd_930 : Cond.code ⟨"GiftDuel$World", "saveTo", "([II)V"⟩ prog_12_method_5_code 3 none ∈ lw_g := lw_g4 81 rfl rfl
theorem wd_931 : Cond.methodLink "GiftDuel$Past" 37 ⟨"java/lang/Math", "min", "(II)I"⟩ ∈ lw_g := lw_g4 82 rfl rfl
theorem wd_932 : Cond.methodLink "GiftDuel$Orders" 84 ⟨"GiftDuel$Deeds", "passYear", "(LGiftDuel$World;I)I"⟩ ∈ lw_g := lw_g4 83 rfl rfl
theorem wd_933 : Cond.instanceMethod ⟨"GiftDuel$Deeds", "passYear", "(LGiftDuel$World;I)I"⟩ ∈ lw_g := lw_g4 84 rfl rfl
theorem wd_934 : Cond.selects "GiftDuel$Deeds" ⟨"GiftDuel$Deeds", "passYear", "(LGiftDuel$World;I)I"⟩ ⟨"GiftDuel$Deeds", "passYear", "(LGiftDuel$World;I)I"⟩ ∈ lw_g := lw_g4 85 rfl rfl
theorem wd_935 : Cond.code ⟨"GiftDuel$Deeds", "passYear", "(LGiftDuel$World;I)I"⟩ prog_2_method_5_code 9 (some .int) ∈ lw_g := lw_g4 86 rfl rfl
theorem wd_936 : Cond.methodLink "GiftDuel$Deeds" 62 ⟨"GiftDuel$World", "term", "(I)I"⟩ ∈ lw_g := lw_g4 87 rfl rfl
theorem wd_937 : Cond.methodLink "GiftDuel$Deeds" 78 ⟨"GiftDuel$World", "setTerm", "(II)V"⟩ ∈ lw_g := lw_g4 88 rfl rfl
theorem wd_938 : Cond.methodLink "GiftDuel$Deeds" 81 ⟨"GiftDuel$World", "many", "(I)I"⟩ ∈ lw_g := lw_g4 89 rfl rfl
theorem wd_939 : Cond.methodLink "GiftDuel$Deeds" 84 ⟨"GiftDuel$World", "lordAt", "(II)I"⟩ ∈ lw_g := lw_g4 90 rfl rfl
theorem wd_940 : Cond.methodLink "GiftDuel$Deeds" 87 ⟨"java/lang/Math", "min", "(II)I"⟩ ∈ lw_g := lw_g4 91 rfl rfl
theorem wd_941 : Cond.methodLink "GiftDuel$Deeds" 90 ⟨"GiftDuel$Judge", "upkeep", "(LGiftDuel$World;II)I"⟩ ∈ lw_g := lw_g4 92 rfl rfl
theorem wd_942 : Cond.methodLink "GiftDuel$Deeds" 70 ⟨"java/lang/Math", "max", "(II)I"⟩ ∈ lw_g := lw_g4 93 rfl rfl
theorem wd_943 : Cond.methodLink "GiftDuel$Deeds" 94 ⟨"GiftDuel$World", "setLord", "(III)V"⟩ ∈ lw_g := lw_g4 94 rfl rfl
theorem wd_944 : Cond.methodLink "GiftDuel$Deeds" 30 ⟨"GiftDuel$World", "isRuined", "(I)Z"⟩ ∈ lw_g := lw_g4 95 rfl rfl
theorem wd_945 : Cond.instanceMethod ⟨"GiftDuel$World", "isRuined", "(I)Z"⟩ ∈ lw_g := lw_g4 96 rfl rfl
theorem wd_946 : Cond.selects "GiftDuel$World" ⟨"GiftDuel$World", "isRuined", "(I)Z"⟩ ⟨"GiftDuel$World", "isRuined", "(I)Z"⟩ ∈ lw_g := lw_g4 97 rfl rfl
theorem wd_947 : Cond.code ⟨"GiftDuel$World", "isRuined", "(I)Z"⟩ prog_12_method_15_code 2 (some .boolean) ∈ lw_g := lw_g4 98 rfl rfl
theorem wd_948 : Cond.methodLink "GiftDuel$Deeds" 97 ⟨"GiftDuel$Deeds", "dropAllOf", "(LGiftDuel$World;I)V"⟩ ∈ lw_g := lw_g4 99 rfl rfl
theorem wd_949 : Cond.static ⟨"GiftDuel$Deeds", "dropAllOf", "(LGiftDuel$World;I)V"⟩ ∈ lw_g := lw_g4 100 rfl rfl
theorem wd_950 : Cond.code ⟨"GiftDuel$Deeds", "dropAllOf", "(LGiftDuel$World;I)V"⟩ prog_2_method_6_code 3 none ∈ lw_g := lw_g4 101 rfl rfl
theorem wd_951 : Cond.methodLink "GiftDuel$Deeds" 59 ⟨"GiftDuel$World", "settle", "(II)V"⟩ ∈ lw_g := lw_g4 102 rfl rfl
theorem wd_952 : Cond.instanceMethod ⟨"GiftDuel$World", "settle", "(II)V"⟩ ∈ lw_g := lw_g4 103 rfl rfl
theorem wd_953 : Cond.selects "GiftDuel$World" ⟨"GiftDuel$World", "settle", "(II)V"⟩ ⟨"GiftDuel$World", "settle", "(II)V"⟩ ∈ lw_g := lw_g4 104 rfl rfl
theorem wd_954 : Cond.code ⟨"GiftDuel$World", "settle", "(II)V"⟩ prog_12_method_36_code 3 none ∈ lw_g := lw_g4 105 rfl rfl
theorem wd_955 : Cond.methodLink "GiftDuel$Deeds" 101 ⟨"GiftDuel$Deeds", "loseOld", "(LGiftDuel$World;I)V"⟩ ∈ lw_g := lw_g4 106 rfl rfl
theorem wd_956 : Cond.static ⟨"GiftDuel$Deeds", "loseOld", "(LGiftDuel$World;I)V"⟩ ∈ lw_g := lw_g4 107 rfl rfl
theorem wd_957 : Cond.code ⟨"GiftDuel$Deeds", "loseOld", "(LGiftDuel$World;I)V"⟩ prog_2_method_7_code 4 none ∈ lw_g := lw_g4 108 rfl rfl
theorem wd_958 : Cond.methodLink "GiftDuel$Deeds" 56 ⟨"GiftDuel$World", "worthOwed", "(II)I"⟩ ∈ lw_g := lw_g4 109 rfl rfl
theorem wd_959 : Cond.methodLink "GiftDuel$Deeds" 75 ⟨"GiftDuel$World", "since", "(II)I"⟩ ∈ lw_g := lw_g4 110 rfl rfl
theorem wd_960 : Cond.instanceMethod ⟨"GiftDuel$World", "since", "(II)I"⟩ ∈ lw_g := lw_g4 111 rfl rfl
theorem wd_961 : Cond.selects "GiftDuel$World" ⟨"GiftDuel$World", "since", "(II)I"⟩ ⟨"GiftDuel$World", "since", "(II)I"⟩ ∈ lw_g := lw_g4 112 rfl rfl
theorem wd_962 : Cond.code ⟨"GiftDuel$World", "since", "(II)I"⟩ prog_12_method_34_code 3 (some .int) ∈ lw_g := lw_g4 113 rfl rfl
theorem wd_963 : Cond.methodLink "GiftDuel$Deeds" 48 ⟨"GiftDuel$World", "oneMoreOf", "(II)V"⟩ ∈ lw_g := lw_g4 114 rfl rfl
theorem wd_964 : Cond.instanceMethod ⟨"GiftDuel$World", "oneMoreOf", "(II)V"⟩ ∈ lw_g := lw_g4 115 rfl rfl
theorem wd_965 : Cond.selects "GiftDuel$World" ⟨"GiftDuel$World", "oneMoreOf", "(II)V"⟩ ⟨"GiftDuel$World", "oneMoreOf", "(II)V"⟩ ∈ lw_g := lw_g4 116 rfl rfl
theorem wd_966 : Cond.code ⟨"GiftDuel$World", "oneMoreOf", "(II)V"⟩ prog_12_method_14_code 3 none ∈ lw_g := lw_g4 117 rfl rfl
theorem wd_967 : Cond.methodLink "GiftDuel$Orders" 90 ⟨"GiftDuel$Text", "sum", "(II[I[I)I"⟩ ∈ lw_g := lw_g4 118 rfl rfl
theorem wd_968 : Cond.methodLink "GiftDuel$Orders" 101 ⟨"GiftDuel$Deeds", "mayGive", "(LGiftDuel$World;II)Z"⟩ ∈ lw_g := lw_g4 119 rfl rfl
theorem wd_969 : Cond.instanceMethod ⟨"GiftDuel$Deeds", "mayGive", "(LGiftDuel$World;II)Z"⟩ ∈ lw_g := lw_g4 120 rfl rfl
theorem wd_970 : Cond.selects "GiftDuel$Deeds" ⟨"GiftDuel$Deeds", "mayGive", "(LGiftDuel$World;II)Z"⟩ ⟨"GiftDuel$Deeds", "mayGive", "(LGiftDuel$World;II)Z"⟩ ∈ lw_g := lw_g4 121 rfl rfl
theorem wd_971 : Cond.code ⟨"GiftDuel$Deeds", "mayGive", "(LGiftDuel$World;II)Z"⟩ prog_2_method_2_code 5 (some .boolean) ∈ lw_g := lw_g4 122 rfl rfl
theorem wd_972 : Cond.methodLink "GiftDuel$Deeds" 26 ⟨"GiftDuel$World", "goodAt", "(II)I"⟩ ∈ lw_g := lw_g4 123 rfl rfl
theorem wd_973 : Cond.methodLink "GiftDuel$Deeds" 34 ⟨"GiftDuel$Judge", "bars", "(LGiftDuel$World;III)Z"⟩ ∈ lw_g := lw_g4 124 rfl rfl
theorem wd_974 : Cond.instanceMethod ⟨"GiftDuel$Judge", "bars", "(LGiftDuel$World;III)Z"⟩ ∈ lw_g := lw_g4 125 rfl rfl
theorem wd_975 : Cond.selects "GiftDuel$Judge" ⟨"GiftDuel$Judge", "bars", "(LGiftDuel$World;III)Z"⟩ ⟨"GiftDuel$Judge", "bars", "(LGiftDuel$World;III)Z"⟩ ∈ lw_g := lw_g4 126 rfl rfl
theorem wd_976 : Cond.code ⟨"GiftDuel$Judge", "bars", "(LGiftDuel$World;III)Z"⟩ prog_4_method_3_code 7 (some .boolean) ∈ lw_g := lw_g4 127 rfl rfl
theorem wd_977 : Cond.methodLink "GiftDuel$Orders" 105 ⟨"GiftDuel$Deeds", "hand", "(LGiftDuel$World;II)I"⟩ ∈ lw_g := lw_g4 128 rfl rfl
theorem wd_978 : Cond.instanceMethod ⟨"GiftDuel$Deeds", "hand", "(LGiftDuel$World;II)I"⟩ ∈ lw_g := lw_g4 129 rfl rfl
theorem wd_979 : Cond.selects "GiftDuel$Deeds" ⟨"GiftDuel$Deeds", "hand", "(LGiftDuel$World;II)I"⟩ ⟨"GiftDuel$Deeds", "hand", "(LGiftDuel$World;II)I"⟩ ∈ lw_g := lw_g4 130 rfl rfl
theorem wd_980 : Cond.code ⟨"GiftDuel$Deeds", "hand", "(LGiftDuel$World;II)I"⟩ prog_2_method_3_code 6 (some .int) ∈ lw_g := lw_g4 131 rfl rfl
theorem wd_981 : Cond.methodLink "GiftDuel$Deeds" 40 ⟨"GiftDuel$Judge", "worth", "(LGiftDuel$World;III)I"⟩ ∈ lw_g := lw_g4 132 rfl rfl
theorem wd_982 : Cond.instanceMethod ⟨"GiftDuel$Judge", "worth", "(LGiftDuel$World;III)I"⟩ ∈ lw_g := lw_g4 133 rfl rfl
theorem wd_983 : Cond.selects "GiftDuel$Judge" ⟨"GiftDuel$Judge", "worth", "(LGiftDuel$World;III)I"⟩ ⟨"GiftDuel$Judge", "worth", "(LGiftDuel$World;III)I"⟩ ∈ lw_g := lw_g4 134 rfl rfl
theorem wd_984 : Cond.code ⟨"GiftDuel$Judge", "worth", "(LGiftDuel$World;III)I"⟩ prog_4_method_2_code 5 (some .int) ∈ lw_g := lw_g4 135 rfl rfl
theorem wd_985 : Cond.methodLink "GiftDuel$Deeds" 44 ⟨"GiftDuel$World", "setGood", "(III)V"⟩ ∈ lw_g := lw_g4 136 rfl rfl
theorem wd_986 : Cond.instanceMethod ⟨"GiftDuel$World", "setGood", "(III)V"⟩ ∈ lw_g := lw_g4 137 rfl rfl
theorem wd_987 : Cond.selects "GiftDuel$World" ⟨"GiftDuel$World", "setGood", "(III)V"⟩ ⟨"GiftDuel$World", "setGood", "(III)V"⟩ ∈ lw_g := lw_g4 138 rfl rfl
theorem wd_988 : Cond.code ⟨"GiftDuel$World", "setGood", "(III)V"⟩ prog_12_method_17_code 4 none ∈ lw_g := lw_g4 139 rfl rfl
theorem wd_989 : Cond.methodLink "GiftDuel$Deeds" 52 ⟨"GiftDuel$Deeds", "challenge", "(LGiftDuel$World;III)V"⟩ ∈ lw_g := lw_g4 140 rfl rfl
theorem wd_990 : Cond.static ⟨"GiftDuel$Deeds", "challenge", "(LGiftDuel$World;III)V"⟩ ∈ lw_g := lw_g4 141 rfl rfl
theorem wd_991 : Cond.code ⟨"GiftDuel$Deeds", "challenge", "(LGiftDuel$World;III)V"⟩ prog_2_method_4_code 6 none ∈ lw_g := lw_g4 142 rfl rfl
theorem wd_992 : Cond.methodLink "GiftDuel$Deeds" 66 ⟨"GiftDuel$World", "stand", "(IIII)V"⟩ ∈ lw_g := lw_g4 143 rfl rfl
theorem wd_993 : Cond.instanceMethod ⟨"GiftDuel$World", "stand", "(IIII)V"⟩ ∈ lw_g := lw_g4 144 rfl rfl
theorem wd_994 : Cond.selects "GiftDuel$World" ⟨"GiftDuel$World", "stand", "(IIII)V"⟩ ⟨"GiftDuel$World", "stand", "(IIII)V"⟩ ∈ lw_g := lw_g4 145 rfl rfl
theorem wd_995 : Cond.code ⟨"GiftDuel$World", "stand", "(IIII)V"⟩ prog_12_method_35_code 5 none ∈ lw_g := lw_g4 146 rfl rfl
theorem wd_1000 : Cond.methodLink "GiftDuel" 204 ⟨"GiftDuel$Reader", "faultPlace", "()I"⟩ ∈ lw_g := lw_g4 151 rfl rfl
theorem wd_1001 : Cond.instanceMethod ⟨"GiftDuel$Reader", "faultPlace", "()I"⟩ ∈ lw_g := lw_g4 152 rfl rfl
theorem wd_1002 : Cond.selects "GiftDuel$Reader" ⟨"GiftDuel$Reader", "faultPlace", "()I"⟩ ⟨"GiftDuel$Reader", "faultPlace", "()I"⟩ ∈ lw_g := lw_g4 153 rfl rfl
theorem wd_1003 : Cond.code ⟨"GiftDuel$Reader", "faultPlace", "()I"⟩ prog_7_method_8_code 1 (some .int) ∈ lw_g := lw_g4 154 rfl rfl
theorem wd_1008 : Cond.methodLink "GiftDuel" 207 ⟨"GiftDuel$Orders", "stoppedAt", "()I"⟩ ∈ lw_g := lw_g4 159 rfl rfl
theorem wd_1009 : Cond.instanceMethod ⟨"GiftDuel$Orders", "stoppedAt", "()I"⟩ ∈ lw_g := lw_g4 160 rfl rfl
theorem wd_1010 : Cond.selects "GiftDuel$Orders" ⟨"GiftDuel$Orders", "stoppedAt", "()I"⟩ ⟨"GiftDuel$Orders", "stoppedAt", "()I"⟩ ∈ lw_g := lw_g4 161 rfl rfl
theorem wd_1011 : Cond.code ⟨"GiftDuel$Orders", "stoppedAt", "()I"⟩ prog_5_method_2_code 1 (some .int) ∈ lw_g := lw_g4 162 rfl rfl
theorem wd_1016 : Cond.methodLink "GiftDuel" 210 ⟨"GiftDuel$World", "inForce", "()I"⟩ ∈ lw_g := lw_g4 167 rfl rfl
theorem wd_1017 : Cond.instanceMethod ⟨"GiftDuel$World", "inForce", "()I"⟩ ∈ lw_g := lw_g4 168 rfl rfl
theorem wd_1018 : Cond.selects "GiftDuel$World" ⟨"GiftDuel$World", "inForce", "()I"⟩ ⟨"GiftDuel$World", "inForce", "()I"⟩ ∈ lw_g := lw_g4 169 rfl rfl
theorem wd_1019 : Cond.code ⟨"GiftDuel$World", "inForce", "()I"⟩ prog_12_method_23_code 1 (some .int) ∈ lw_g := lw_g4 170 rfl rfl
theorem wd_1020 : Cond.methodLink "GiftDuel" 213 ⟨"GiftDuel$World", "setForce", "(I)V"⟩ ∈ lw_g := lw_g4 171 rfl rfl
theorem wd_1021 : Cond.instanceMethod ⟨"GiftDuel$World", "setForce", "(I)V"⟩ ∈ lw_g := lw_g4 172 rfl rfl
theorem wd_1022 : Cond.selects "GiftDuel$World" ⟨"GiftDuel$World", "setForce", "(I)V"⟩ ⟨"GiftDuel$World", "setForce", "(I)V"⟩ ∈ lw_g := lw_g4 173 rfl rfl
theorem wd_1023 : Cond.code ⟨"GiftDuel$World", "setForce", "(I)V"⟩ prog_12_method_24_code 2 none ∈ lw_g := lw_g4 174 rfl rfl
theorem wd_1028 : Cond.methodLink "GiftDuel" 216 ⟨"GiftDuel$Judge", "worth", "(LGiftDuel$World;III)I"⟩ ∈ lw_g := lw_g4 179 rfl rfl
theorem wd_1029 : Cond.methodLink "GiftDuel" 219 ⟨"GiftDuel$Judge", "bars", "(LGiftDuel$World;III)Z"⟩ ∈ lw_g := lw_g4 180 rfl rfl
theorem wd_1034 : Cond.methodLink "GiftDuel" 223 ⟨"GiftDuel$Deeds", "mayGive", "(LGiftDuel$World;II)Z"⟩ ∈ lw_g := lw_g4 185 rfl rfl
theorem wd_1035 : Cond.methodLink "GiftDuel" 227 ⟨"GiftDuel$Past", "keep", "(LGiftDuel$World;I)V"⟩ ∈ lw_g := lw_g4 186 rfl rfl
theorem wd_1036 : Cond.methodLink "GiftDuel" 231 ⟨"GiftDuel$Deeds", "hand", "(LGiftDuel$World;II)I"⟩ ∈ lw_g := lw_g4 187 rfl rfl
theorem wd_1041 : Cond.methodLink "GiftDuel" 234 ⟨"GiftDuel$Deeds", "passYear", "(LGiftDuel$World;I)I"⟩ ∈ lw_g := lw_g4 192 rfl rfl
theorem wd_1046 : Cond.methodLink "GiftDuel" 238 ⟨"GiftDuel$Past", "takeBack", "(LGiftDuel$World;)I"⟩ ∈ lw_g := lw_g4 197 rfl rfl
theorem wd_1047 : Cond.instanceMethod ⟨"GiftDuel$Past", "takeBack", "(LGiftDuel$World;)I"⟩ ∈ lw_g := lw_g4 198 rfl rfl
theorem wd_1048 : Cond.selects "GiftDuel$Past" ⟨"GiftDuel$Past", "takeBack", "(LGiftDuel$World;)I"⟩ ⟨"GiftDuel$Past", "takeBack", "(LGiftDuel$World;)I"⟩ ∈ lw_g := lw_g4 199 rfl rfl
theorem wd_1049 : Cond.code ⟨"GiftDuel$Past", "takeBack", "(LGiftDuel$World;)I"⟩ prog_6_method_6_code 2 (some .int) ∈ lw_g := lw_g4 200 rfl rfl
theorem wd_1050 : Cond.methodLink "GiftDuel$Past" 43 ⟨"GiftDuel$World", "restoreFrom", "([II)V"⟩ ∈ lw_g := lw_g4 201 rfl rfl
theorem wd_1051 : Cond.instanceMethod ⟨"GiftDuel$World", "restoreFrom", "([II)V"⟩ ∈ lw_g := lw_g4 202 rfl rfl
theorem wd_1052 : Cond.selects "GiftDuel$World" ⟨"GiftDuel$World", "restoreFrom", "([II)V"⟩ ⟨"GiftDuel$World", "restoreFrom", "([II)V"⟩ ∈ lw_g := lw_g4 203 rfl rfl
theorem wd_1053 : Cond.code ⟨"GiftDuel$World", "restoreFrom", "([II)V"⟩ prog_12_method_6_code 3 none ∈ lw_g := lw_g4 204 rfl rfl
theorem wd_1058 : Cond.methodLink "GiftDuel" 242 ⟨"GiftDuel$World", "worthOwed", "(II)I"⟩ ∈ lw_g := lw_g4 209 rfl rfl
theorem wd_1059 : Cond.methodLink "GiftDuel" 245 ⟨"GiftDuel$World", "since", "(II)I"⟩ ∈ lw_g := lw_g4 210 rfl rfl
theorem wd_1064 : Cond.methodLink "GiftDuel" 248 ⟨"GiftDuel$World", "standingAgainst", "(I)I"⟩ ∈ lw_g := lw_g4 215 rfl rfl
theorem wd_1065 : Cond.methodLink "GiftDuel" 251 ⟨"GiftDuel$World", "greatestCreditor", "(I)I"⟩ ∈ lw_g := lw_g4 216 rfl rfl
theorem wd_1066 : Cond.instanceMethod ⟨"GiftDuel$World", "greatestCreditor", "(I)I"⟩ ∈ lw_g := lw_g4 217 rfl rfl
theorem wd_1067 : Cond.selects "GiftDuel$World" ⟨"GiftDuel$World", "greatestCreditor", "(I)I"⟩ ⟨"GiftDuel$World", "greatestCreditor", "(I)I"⟩ ∈ lw_g := lw_g4 218 rfl rfl
theorem wd_1068 : Cond.code ⟨"GiftDuel$World", "greatestCreditor", "(I)I"⟩ prog_12_method_39_code 5 (some .int) ∈ lw_g := lw_g4 219 rfl rfl
theorem wd_1073 : Cond.methodLink "GiftDuel" 254 ⟨"GiftDuel$Duels", "answer", "(LGiftDuel$World;III)I"⟩ ∈ lw_g := lw_g4 224 rfl rfl
theorem wd_1074 : Cond.instanceMethod ⟨"GiftDuel$Duels", "answer", "(LGiftDuel$World;III)I"⟩ ∈ lw_g := lw_g4 225 rfl rfl
theorem wd_1075 : Cond.selects "GiftDuel$Duels" ⟨"GiftDuel$Duels", "answer", "(LGiftDuel$World;III)I"⟩ ⟨"GiftDuel$Duels", "answer", "(LGiftDuel$World;III)I"⟩ ∈ lw_g := lw_g4 226 rfl rfl
theorem wd_1076 : Cond.code ⟨"GiftDuel$Duels", "answer", "(LGiftDuel$World;III)I"⟩ prog_3_method_2_code 6 (some .int) ∈ lw_g := lw_g4 227 rfl rfl
theorem wd_1077 : Cond.methodLink "GiftDuel$Duels" 31 ⟨"GiftDuel$Duels", "gather", "(LGiftDuel$World;III)V"⟩ ∈ lw_g := lw_g4 228 rfl rfl
theorem wd_1079 : Cond.instanceMethod ⟨"GiftDuel$Duels", "gather", "(LGiftDuel$World;III)V"⟩ ∈ lw_g := lw_g4 230 rfl rfl
theorem wd_1080 : Cond.code ⟨"GiftDuel$Duels", "gather", "(LGiftDuel$World;III)V"⟩ prog_3_method_3_code 9 none ∈ lw_g := lw_g4 231 rfl rfl
theorem wd_1081 : Cond.methodLink "GiftDuel$Duels" 52 ⟨"GiftDuel$World", "lordAt", "(II)I"⟩ ∈ lw_g := lw_g4 232 rfl rfl
theorem wd_1082 : Cond.methodLink "GiftDuel$Duels" 56 ⟨"GiftDuel$World", "term", "(I)I"⟩ ∈ lw_g := lw_g4 233 rfl rfl
theorem wd_1083 : Cond.methodLink "GiftDuel$Duels" 60 ⟨"GiftDuel$World", "many", "(I)I"⟩ ∈ lw_g := lw_g4 234 rfl rfl
theorem wd_1084 : Cond.methodLink "GiftDuel$Duels" 62 ⟨"GiftDuel$World", "isOwnedAndHeld", "(II)Z"⟩ ∈ lw_g := lw_g4 235 rfl rfl
theorem wd_1085 : Cond.instanceMethod ⟨"GiftDuel$World", "isOwnedAndHeld", "(II)Z"⟩ ∈ lw_g := lw_g4 236 rfl rfl
theorem wd_1086 : Cond.selects "GiftDuel$World" ⟨"GiftDuel$World", "isOwnedAndHeld", "(II)Z"⟩ ⟨"GiftDuel$World", "isOwnedAndHeld", "(II)Z"⟩ ∈ lw_g := lw_g4 237 rfl rfl
theorem wd_1087 : Cond.code ⟨"GiftDuel$World", "isOwnedAndHeld", "(II)Z"⟩ prog_12_method_18_code 4 (some .boolean) ∈ lw_g := lw_g4 238 rfl rfl
theorem wd_1088 : Cond.methodLink "GiftDuel$Duels" 66 ⟨"GiftDuel$Judge", "bars", "(LGiftDuel$World;III)Z"⟩ ∈ lw_g := lw_g4 239 rfl rfl
theorem wd_1089 : Cond.methodLink "GiftDuel$Duels" 72 ⟨"GiftDuel$Judge", "worth", "(LGiftDuel$World;III)I"⟩ ∈ lw_g := lw_g5 0 rfl rfl
theorem wd_1090 : Cond.methodLink "GiftDuel$Duels" 76 ⟨"GiftDuel$Judge", "costs", "(LGiftDuel$World;III)I"⟩ ∈ lw_g := lw_g5 1 rfl rfl
theorem wd_1091 : Cond.methodLink "GiftDuel$Duels" 35 ⟨"GiftDuel$Duels", "wins", "(IIIII)Z"⟩ ∈ lw_g := lw_g5 2 rfl rfl
theorem wd_1093 : Cond.instanceMethod ⟨"GiftDuel$Duels", "wins", "(IIIII)Z"⟩ ∈ lw_g := lw_g5 4 rfl rfl
theorem wd_1094 : Cond.code ⟨"GiftDuel$Duels", "wins", "(IIIII)Z"⟩ prog_3_method_4_code 8 (some .boolean) ∈ lw_g := lw_g5 5 rfl rfl
theorem wd_1095 : Cond.methodLink "GiftDuel$Duels" 78 ⟨"GiftDuel$Duels", "winsBy", "(IIII)Z"⟩ ∈ lw_g := lw_g5 6 rfl rfl
theorem wd_1097 : Cond.instanceMethod ⟨"GiftDuel$Duels", "winsBy", "(IIII)Z"⟩ ∈ lw_g := lw_g5 8 rfl rfl
theorem wd_1098 : Cond.code ⟨"GiftDuel$Duels", "winsBy", "(IIII)Z"⟩ prog_3_method_5_code 6 (some .boolean) ∈ lw_g := lw_g5 9 rfl rfl
theorem wd_1099 : Cond.methodLink "GiftDuel$Duels" 39 ⟨"GiftDuel$Duels", "winning", "()I"⟩ ∈ lw_g := lw_g5 10 rfl rfl
theorem wd_1101 : Cond.instanceMethod ⟨"GiftDuel$Duels", "winning", "()I"⟩ ∈ lw_g := lw_g5 12 rfl rfl
theorem wd_1102 : Cond.code ⟨"GiftDuel$Duels", "winning", "()I"⟩ prog_3_method_6_code 3 (some .int) ∈ lw_g := lw_g5 13 rfl rfl
theorem wd_1103 : Cond.methodLink "GiftDuel$Duels" 43 ⟨"GiftDuel$Duels", "lowestWinning", "(IIII)I"⟩ ∈ lw_g := lw_g5 14 rfl rfl
theorem wd_1105 : Cond.instanceMethod ⟨"GiftDuel$Duels", "lowestWinning", "(IIII)I"⟩ ∈ lw_g := lw_g5 16 rfl rfl
theorem wd_1106 : Cond.code ⟨"GiftDuel$Duels", "lowestWinning", "(IIII)I"⟩ prog_3_method_7_code 7 (some .int) ∈ lw_g := lw_g5 17 rfl rfl
theorem wd_1107 : Cond.methodLink "GiftDuel$Duels" 47 ⟨"GiftDuel$Duels", "length", "()I"⟩ ∈ lw_g := lw_g5 18 rfl rfl
theorem wd_1109 : Cond.instanceMethod ⟨"GiftDuel$Duels", "length", "()I"⟩ ∈ lw_g := lw_g5 20 rfl rfl
theorem wd_1110 : Cond.code ⟨"GiftDuel$Duels", "length", "()I"⟩ prog_3_method_9_code 8 (some .int) ∈ lw_g := lw_g5 21 rfl rfl
theorem wd_1111 : Cond.methodLink "GiftDuel$Duels" 82 ⟨"GiftDuel$Duels", "lowestPossible", "(II)I"⟩ ∈ lw_g := lw_g5 22 rfl rfl
theorem wd_1113 : Cond.instanceMethod ⟨"GiftDuel$Duels", "lowestPossible", "(II)I"⟩ ∈ lw_g := lw_g5 24 rfl rfl
theorem wd_1114 : Cond.code ⟨"GiftDuel$Duels", "lowestPossible", "(II)I"⟩ prog_3_method_8_code 4 (some .int) ∈ lw_g := lw_g5 25 rfl rfl
theorem wd_1119 : Cond.methodLink "GiftDuel" 257 ⟨"GiftDuel$Sieges", "fallOf", "(LGiftDuel$World;II)I"⟩ ∈ lw_g := lw_g5 30 rfl rfl
theorem wd_1120 : Cond.instanceMethod ⟨"GiftDuel$Sieges", "fallOf", "(LGiftDuel$World;II)I"⟩ ∈ lw_g := lw_g5 31 rfl rfl
theorem wd_1121 : Cond.selects "GiftDuel$Sieges" ⟨"GiftDuel$Sieges", "fallOf", "(LGiftDuel$World;II)I"⟩ ⟨"GiftDuel$Sieges", "fallOf", "(LGiftDuel$World;II)I"⟩ ∈ lw_g := lw_g5 32 rfl rfl
theorem wd_1122 : Cond.code ⟨"GiftDuel$Sieges", "fallOf", "(LGiftDuel$World;II)I"⟩ prog_9_method_2_code 7 (some .int) ∈ lw_g := lw_g5 33 rfl rfl
theorem wd_1123 : Cond.methodLink "GiftDuel$Sieges" 38 ⟨"GiftDuel$World", "isRuined", "(I)Z"⟩ ∈ lw_g := lw_g5 34 rfl rfl
theorem wd_1124 : Cond.methodLink "GiftDuel$Sieges" 44 ⟨"GiftDuel$World", "lordAt", "(II)I"⟩ ∈ lw_g := lw_g5 35 rfl rfl
theorem wd_1125 : Cond.methodLink "GiftDuel$Sieges" 48 ⟨"GiftDuel$World", "term", "(I)I"⟩ ∈ lw_g := lw_g5 36 rfl rfl
theorem wd_1126 : Cond.methodLink "GiftDuel$Sieges" 52 ⟨"java/lang/Math", "min", "(II)I"⟩ ∈ lw_g := lw_g5 37 rfl rfl
theorem wd_1127 : Cond.methodLink "GiftDuel$Sieges" 57 ⟨"GiftDuel$Judge", "upkeep", "(LGiftDuel$World;II)I"⟩ ∈ lw_g := lw_g5 38 rfl rfl
theorem wd_1132 : Cond.methodLink "GiftDuel" 260 ⟨"GiftDuel$Sieges", "answer", "(LGiftDuel$World;IIII)I"⟩ ∈ lw_g := lw_g5 43 rfl rfl
theorem wd_1133 : Cond.instanceMethod ⟨"GiftDuel$Sieges", "answer", "(LGiftDuel$World;IIII)I"⟩ ∈ lw_g := lw_g5 44 rfl rfl
theorem wd_1134 : Cond.selects "GiftDuel$Sieges" ⟨"GiftDuel$Sieges", "answer", "(LGiftDuel$World;IIII)I"⟩ ⟨"GiftDuel$Sieges", "answer", "(LGiftDuel$World;IIII)I"⟩ ∈ lw_g := lw_g5 45 rfl rfl
theorem wd_1135 : Cond.code ⟨"GiftDuel$Sieges", "answer", "(LGiftDuel$World;IIII)I"⟩ prog_9_method_3_code 7 (some .int) ∈ lw_g := lw_g5 46 rfl rfl
theorem wd_1136 : Cond.methodLink "GiftDuel$Sieges" 63 ⟨"GiftDuel$Sieges", "gather", "(LGiftDuel$World;III)V"⟩ ∈ lw_g := lw_g5 47 rfl rfl
theorem wd_1138 : Cond.instanceMethod ⟨"GiftDuel$Sieges", "gather", "(LGiftDuel$World;III)V"⟩ ∈ lw_g := lw_g5 49 rfl rfl
theorem wd_1139 : Cond.code ⟨"GiftDuel$Sieges", "gather", "(LGiftDuel$World;III)V"⟩ prog_9_method_4_code 9 none ∈ lw_g := lw_g5 50 rfl rfl
theorem wd_1140 : Cond.methodLink "GiftDuel$Sieges" 81 ⟨"GiftDuel$World", "many", "(I)I"⟩ ∈ lw_g := lw_g5 51 rfl rfl
theorem wd_1141 : Cond.methodLink "GiftDuel$Sieges" 83 ⟨"GiftDuel$World", "isOwnedAndHeld", "(II)Z"⟩ ∈ lw_g := lw_g5 52 rfl rfl
theorem wd_1142 : Cond.methodLink "GiftDuel$Sieges" 87 ⟨"GiftDuel$Judge", "bars", "(LGiftDuel$World;III)Z"⟩ ∈ lw_g := lw_g5 53 rfl rfl
theorem wd_1143 : Cond.methodLink "GiftDuel$Sieges" 91 ⟨"GiftDuel$Judge", "worth", "(LGiftDuel$World;III)I"⟩ ∈ lw_g := lw_g5 54 rfl rfl
theorem wd_1144 : Cond.methodLink "GiftDuel$Sieges" 95 ⟨"GiftDuel$Judge", "costs", "(LGiftDuel$World;III)I"⟩ ∈ lw_g := lw_g5 55 rfl rfl
theorem wd_1145 : Cond.methodLink "GiftDuel$Sieges" 67 ⟨"GiftDuel$Sieges", "cheapest", "(I)I"⟩ ∈ lw_g := lw_g5 56 rfl rfl
theorem wd_1147 : Cond.instanceMethod ⟨"GiftDuel$Sieges", "cheapest", "(I)I"⟩ ∈ lw_g := lw_g5 58 rfl rfl
theorem wd_1148 : Cond.code ⟨"GiftDuel$Sieges", "cheapest", "(I)I"⟩ prog_9_method_5_code 9 (some .int) ∈ lw_g := lw_g5 59 rfl rfl
theorem wd_1149 : Cond.methodLink "GiftDuel$Sieges" 97 ⟨"GiftDuel$Sieges", "falls", "(II)Z"⟩ ∈ lw_g := lw_g5 60 rfl rfl
theorem wd_1151 : Cond.instanceMethod ⟨"GiftDuel$Sieges", "falls", "(II)Z"⟩ ∈ lw_g := lw_g5 62 rfl rfl
theorem wd_1152 : Cond.code ⟨"GiftDuel$Sieges", "falls", "(II)Z"⟩ prog_9_method_6_code 6 (some .boolean) ∈ lw_g := lw_g5 63 rfl rfl
theorem wd_1153 : Cond.methodLink "GiftDuel$Sieges" 75 ⟨"GiftDuel$Sieges", "worthOf", "(I)I"⟩ ∈ lw_g := lw_g5 64 rfl rfl
theorem wd_1155 : Cond.instanceMethod ⟨"GiftDuel$Sieges", "worthOf", "(I)I"⟩ ∈ lw_g := lw_g5 66 rfl rfl
theorem wd_1156 : Cond.code ⟨"GiftDuel$Sieges", "worthOf", "(I)I"⟩ prog_9_method_7_code 4 (some .int) ∈ lw_g := lw_g5 67 rfl rfl
theorem wd_1157 : Cond.methodLink "GiftDuel$Sieges" 70 ⟨"java/lang/Integer", "bitCount", "(I)I"⟩ ∈ lw_g := lw_g5 68 rfl rfl
theorem wd_1158 : Cond.static ⟨"java/lang/Integer", "bitCount", "(I)I"⟩ ∈ lw_g := lw_g5 69 rfl rfl
theorem wd_1159 : Cond.code ⟨"java/lang/Integer", "bitCount", "(I)I"⟩ prog_15_method_49_code 1 (some .int) ∈ lw_g := lw_g5 70 rfl rfl
theorem wd_1160 : Cond.constant "java/lang/Integer" 265 1431655765 ∈ lw_g := lw_g5 71 rfl rfl
theorem wd_1161 : Cond.constant "java/lang/Integer" 266 858993459 ∈ lw_g := lw_g5 72 rfl rfl
theorem wd_1162 : Cond.constant "java/lang/Integer" 267 252645135 ∈ lw_g := lw_g5 73 rfl rfl
theorem wd_1163 : Cond.methodLink "GiftDuel$Sieges" 78 ⟨"GiftDuel$Sieges", "bitsOf", "(I)I"⟩ ∈ lw_g := lw_g5 74 rfl rfl
theorem wd_1165 : Cond.instanceMethod ⟨"GiftDuel$Sieges", "bitsOf", "(I)I"⟩ ∈ lw_g := lw_g5 76 rfl rfl
theorem wd_1166 : Cond.code ⟨"GiftDuel$Sieges", "bitsOf", "(I)I"⟩ prog_9_method_8_code 4 (some .int) ∈ lw_g := lw_g5 77 rfl rfl
theorem wd_1171 : Cond.methodLink "GiftDuel" 263 ⟨"GiftDuel$World", "addHerald", "(I)I"⟩ ∈ lw_g := lw_g5 82 rfl rfl
theorem wd_1172 : Cond.instanceMethod ⟨"GiftDuel$World", "addHerald", "(I)I"⟩ ∈ lw_g := lw_g5 83 rfl rfl
theorem wd_1173 : Cond.selects "GiftDuel$World" ⟨"GiftDuel$World", "addHerald", "(I)I"⟩ ⟨"GiftDuel$World", "addHerald", "(I)I"⟩ ∈ lw_g := lw_g5 84 rfl rfl
theorem wd_1174 : Cond.code ⟨"GiftDuel$World", "addHerald", "(I)I"⟩ prog_12_method_28_code 3 (some .int) ∈ lw_g := lw_g5 85 rfl rfl
theorem wd_1179 : Cond.methodLink "GiftDuel" 266 ⟨"GiftDuel$Judge", "middle", "(LGiftDuel$World;I)I"⟩ ∈ lw_g := lw_g5 90 rfl rfl
theorem wd_1180 : Cond.instanceMethod ⟨"GiftDuel$Judge", "middle", "(LGiftDuel$World;I)I"⟩ ∈ lw_g := lw_g5 91 rfl rfl
theorem wd_1181 : Cond.selects "GiftDuel$Judge" ⟨"GiftDuel$Judge", "middle", "(LGiftDuel$World;I)I"⟩ ⟨"GiftDuel$Judge", "middle", "(LGiftDuel$World;I)I"⟩ ∈ lw_g := lw_g5 92 rfl rfl
theorem wd_1182 : Cond.code ⟨"GiftDuel$Judge", "middle", "(LGiftDuel$World;I)I"⟩ prog_4_method_10_code 7 (some .int) ∈ lw_g := lw_g5 93 rfl rfl
theorem wd_1183 : Cond.methodLink "GiftDuel$Judge" 78 ⟨"GiftDuel$Judge", "hear", "(LGiftDuel$World;I)I"⟩ ∈ lw_g := lw_g5 94 rfl rfl
theorem wd_1185 : Cond.instanceMethod ⟨"GiftDuel$Judge", "hear", "(LGiftDuel$World;I)I"⟩ ∈ lw_g := lw_g5 96 rfl rfl
theorem wd_1186 : Cond.code ⟨"GiftDuel$Judge", "hear", "(LGiftDuel$World;I)I"⟩ prog_4_method_9_code 5 (some .int) ∈ lw_g := lw_g5 97 rfl rfl
theorem wd_1187 : Cond.methodLink "GiftDuel$Judge" 74 ⟨"GiftDuel$Judge", "voice", "(LGiftDuel$World;II)I"⟩ ∈ lw_g := lw_g5 98 rfl rfl
theorem wd_1188 : Cond.instanceMethod ⟨"GiftDuel$Judge", "voice", "(LGiftDuel$World;II)I"⟩ ∈ lw_g := lw_g5 99 rfl rfl
theorem wd_1189 : Cond.selects "GiftDuel$Judge" ⟨"GiftDuel$Judge", "voice", "(LGiftDuel$World;II)I"⟩ ⟨"GiftDuel$Judge", "voice", "(LGiftDuel$World;II)I"⟩ ∈ lw_g := lw_g5 100 rfl rfl
theorem wd_1190 : Cond.code ⟨"GiftDuel$Judge", "voice", "(LGiftDuel$World;II)I"⟩ prog_4_method_6_code 4 (some .int) ∈ lw_g := lw_g5 101 rfl rfl
theorem wd_1191 : Cond.methodLink "GiftDuel" 269 ⟨"GiftDuel$Judge", "voice", "(LGiftDuel$World;II)I"⟩ ∈ lw_g := lw_g5 102 rfl rfl
theorem wd_1196 : Cond.methodLink "GiftDuel" 272 ⟨"GiftDuel$Judge", "cheapestBribe", "(LGiftDuel$World;III)I"⟩ ∈ lw_g := lw_g5 107 rfl rfl
theorem wd_1197 : Cond.instanceMethod ⟨"GiftDuel$Judge", "cheapestBribe", "(LGiftDuel$World;III)I"⟩ ∈ lw_g := lw_g5 108 rfl rfl
theorem wd_1198 : Cond.selects "GiftDuel$Judge" ⟨"GiftDuel$Judge", "cheapestBribe", "(LGiftDuel$World;III)I"⟩ ⟨"GiftDuel$Judge", "cheapestBribe", "(LGiftDuel$World;III)I"⟩ ∈ lw_g := lw_g5 109 rfl rfl
theorem wd_1199 : Cond.code ⟨"GiftDuel$Judge", "cheapestBribe", "(LGiftDuel$World;III)I"⟩ prog_4_method_11_code 15 (some .int) ∈ lw_g := lw_g5 110 rfl rfl
theorem wd_1200 : Cond.methodLink "GiftDuel$Judge" 82 ⟨"GiftDuel$Judge", "middle", "(LGiftDuel$World;I)I"⟩ ∈ lw_g := lw_g5 111 rfl rfl
theorem wd_1201 : Cond.methodLink "GiftDuel$Judge" 85 ⟨"GiftDuel$World", "price", "(I)I"⟩ ∈ lw_g := lw_g5 112 rfl rfl
theorem wd_1202 : Cond.instanceMethod ⟨"GiftDuel$World", "price", "(I)I"⟩ ∈ lw_g := lw_g5 113 rfl rfl
theorem wd_1203 : Cond.selects "GiftDuel$World" ⟨"GiftDuel$World", "price", "(I)I"⟩ ⟨"GiftDuel$World", "price", "(I)I"⟩ ∈ lw_g := lw_g5 114 rfl rfl
theorem wd_1204 : Cond.code ⟨"GiftDuel$World", "price", "(I)I"⟩ prog_12_method_20_code 2 (some .int) ∈ lw_g := lw_g5 115 rfl rfl
theorem wd_1209 : Cond.methodLink "GiftDuel" 275 ⟨"GiftDuel$World", "addRoad", "(IIII)I"⟩ ∈ lw_g := lw_g5 120 rfl rfl
theorem wd_1210 : Cond.instanceMethod ⟨"GiftDuel$World", "addRoad", "(IIII)I"⟩ ∈ lw_g := lw_g5 121 rfl rfl
theorem wd_1211 : Cond.selects "GiftDuel$World" ⟨"GiftDuel$World", "addRoad", "(IIII)I"⟩ ⟨"GiftDuel$World", "addRoad", "(IIII)I"⟩ ∈ lw_g := lw_g5 122 rfl rfl
theorem wd_1212 : Cond.code ⟨"GiftDuel$World", "addRoad", "(IIII)I"⟩ prog_12_method_29_code 7 (some .int) ∈ lw_g := lw_g5 123 rfl rfl
theorem wd_1217 : Cond.methodLink "GiftDuel" 279 ⟨"GiftDuel$Ways", "answer", "(LGiftDuel$World;III)I"⟩ ∈ lw_g := lw_g5 128 rfl rfl
theorem wd_1218 : Cond.instanceMethod ⟨"GiftDuel$Ways", "answer", "(LGiftDuel$World;III)I"⟩ ∈ lw_g := lw_g5 129 rfl rfl
theorem wd_1219 : Cond.selects "GiftDuel$Ways" ⟨"GiftDuel$Ways", "answer", "(LGiftDuel$World;III)I"⟩ ⟨"GiftDuel$Ways", "answer", "(LGiftDuel$World;III)I"⟩ ∈ lw_g := lw_g5 130 rfl rfl
theorem wd_1220 : Cond.code ⟨"GiftDuel$Ways", "answer", "(LGiftDuel$World;III)I"⟩ prog_11_method_2_code 5 (some .int) ∈ lw_g := lw_g5 131 rfl rfl
theorem wd_1221 : Cond.methodLink "GiftDuel$Ways" 40 ⟨"GiftDuel$Ways", "draw", "(LGiftDuel$World;)V"⟩ ∈ lw_g := lw_g5 132 rfl rfl
theorem wd_1223 : Cond.instanceMethod ⟨"GiftDuel$Ways", "draw", "(LGiftDuel$World;)V"⟩ ∈ lw_g := lw_g5 134 rfl rfl
theorem wd_1224 : Cond.code ⟨"GiftDuel$Ways", "draw", "(LGiftDuel$World;)V"⟩ prog_11_method_3_code 9 none ∈ lw_g := lw_g5 135 rfl rfl
theorem wd_1225 : Cond.methodLink "GiftDuel$Ways" 51 ⟨"GiftDuel$World", "many", "(I)I"⟩ ∈ lw_g := lw_g5 136 rfl rfl
theorem wd_1226 : Cond.methodLink "GiftDuel$Ways" 55 ⟨"java/lang/Math", "min", "(II)I"⟩ ∈ lw_g := lw_g5 137 rfl rfl
theorem wd_1227 : Cond.methodLink "GiftDuel$Ways" 61 ⟨"java/util/Arrays", "fill", "([II)V"⟩ ∈ lw_g := lw_g5 138 rfl rfl
theorem wd_1228 : Cond.static ⟨"java/util/Arrays", "fill", "([II)V"⟩ ∈ lw_g := lw_g5 139 rfl rfl
theorem wd_1229 : Cond.code ⟨"java/util/Arrays", "fill", "([II)V"⟩ prog_21_method_103_code 4 none ∈ lw_g := lw_g5 140 rfl rfl
theorem wd_1230 : Cond.methodLink "GiftDuel$Ways" 67 ⟨"GiftDuel$World", "roadAt", "(II)I"⟩ ∈ lw_g := lw_g5 141 rfl rfl
theorem wd_1231 : Cond.instanceMethod ⟨"GiftDuel$World", "roadAt", "(II)I"⟩ ∈ lw_g := lw_g5 142 rfl rfl
theorem wd_1232 : Cond.selects "GiftDuel$World" ⟨"GiftDuel$World", "roadAt", "(II)I"⟩ ⟨"GiftDuel$World", "roadAt", "(II)I"⟩ ∈ lw_g := lw_g5 143 rfl rfl
theorem wd_1233 : Cond.code ⟨"GiftDuel$World", "roadAt", "(II)I"⟩ prog_12_method_19_code 3 (some .int) ∈ lw_g := lw_g5 144 rfl rfl
theorem wd_1234 : Cond.constant "GiftDuel$Ways" 44 100000 ∈ lw_g := lw_g5 145 rfl rfl
theorem wd_1235 : Cond.methodLink "GiftDuel$Ways" 45 ⟨"GiftDuel$Ways", "walk", "(IIII)V"⟩ ∈ lw_g := lw_g5 146 rfl rfl
theorem wd_1237 : Cond.instanceMethod ⟨"GiftDuel$Ways", "walk", "(IIII)V"⟩ ∈ lw_g := lw_g5 148 rfl rfl
theorem wd_1238 : Cond.code ⟨"GiftDuel$Ways", "walk", "(IIII)V"⟩ prog_11_method_4_code 8 none ∈ lw_g := lw_g5 149 rfl rfl
theorem wd_1239 : Cond.methodLink "GiftDuel$Ways" 70 ⟨"java/lang/System", "arraycopy", "(Ljava/lang/Object;ILjava/lang/Object;II)V"⟩ ∈ lw_g := lw_g5 150 rfl rfl
theorem wd_1244 : Cond.methodLink "GiftDuel" 280 ⟨"GiftDuel$Ways", "ofRing", "(LGiftDuel$World;I)I"⟩ ∈ lw_g := lw_g5 155 rfl rfl
theorem wd_1245 : Cond.instanceMethod ⟨"GiftDuel$Ways", "ofRing", "(LGiftDuel$World;I)I"⟩ ∈ lw_g := lw_g5 156 rfl rfl
theorem wd_1246 : Cond.selects "GiftDuel$Ways" ⟨"GiftDuel$Ways", "ofRing", "(LGiftDuel$World;I)I"⟩ ⟨"GiftDuel$Ways", "ofRing", "(LGiftDuel$World;I)I"⟩ ∈ lw_g := lw_g5 157 rfl rfl
theorem wd_1247 : Cond.code ⟨"GiftDuel$Ways", "ofRing", "(LGiftDuel$World;I)I"⟩ prog_11_method_5_code 5 (some .int) ∈ lw_g := lw_g5 158 rfl rfl
theorem wd_1248 : Cond.methodLink "GiftDuel$Ways" 76 ⟨"java/lang/Integer", "bitCount", "(I)I"⟩ ∈ lw_g := lw_g5 159 rfl rfl
theorem wd_1249 : Cond.methodLink "GiftDuel$Ways" 81 ⟨"java/lang/Integer", "numberOfTrailingZeros", "(I)I"⟩ ∈ lw_g := lw_g5 160 rfl rfl
theorem wd_1250 : Cond.static ⟨"java/lang/Integer", "numberOfTrailingZeros", "(I)I"⟩ ∈ lw_g := lw_g5 161 rfl rfl
theorem wd_1251 : Cond.code ⟨"java/lang/Integer", "numberOfTrailingZeros", "(I)I"⟩ prog_15_method_48_code 2 (some .int) ∈ lw_g := lw_g5 162 rfl rfl
theorem wd_1252 : Cond.constant "java/lang/Integer" 264 65536 ∈ lw_g := lw_g5 163 rfl rfl
theorem wd_1253 : Cond.methodLink "GiftDuel$Ways" 84 ⟨"GiftDuel$Ways", "closes", "(LGiftDuel$World;III)Z"⟩ ∈ lw_g := lw_g5 164 rfl rfl
theorem wd_1255 : Cond.instanceMethod ⟨"GiftDuel$Ways", "closes", "(LGiftDuel$World;III)Z"⟩ ∈ lw_g := lw_g5 166 rfl rfl
theorem wd_1256 : Cond.code ⟨"GiftDuel$Ways", "closes", "(LGiftDuel$World;III)Z"⟩ prog_11_method_6_code 7 (some .boolean) ∈ lw_g := lw_g5 167 rfl rfl
theorem wd_1257 : Cond.methodLink "GiftDuel$Ways" 88 ⟨"GiftDuel$World", "worthOwed", "(II)I"⟩ ∈ lw_g := lw_g5 168 rfl rfl
theorem wd_1262 : Cond.methodLink "GiftDuel" 283 ⟨"GiftDuel$World", "toldHolder", "(I)I"⟩ ∈ lw_g := lw_g5 173 rfl rfl
theorem wd_1263 : Cond.instanceMethod ⟨"GiftDuel$World", "toldHolder", "(I)I"⟩ ∈ lw_g := lw_g5 174 rfl rfl
theorem wd_1264 : Cond.selects "GiftDuel$World" ⟨"GiftDuel$World", "toldHolder", "(I)I"⟩ ⟨"GiftDuel$World", "toldHolder", "(I)I"⟩ ∈ lw_g := lw_g5 175 rfl rfl
theorem wd_1265 : Cond.code ⟨"GiftDuel$World", "toldHolder", "(I)I"⟩ prog_12_method_21_code 2 (some .int) ∈ lw_g := lw_g5 176 rfl rfl
theorem wd_1266 : Cond.methodLink "GiftDuel" 286 ⟨"GiftDuel$World", "tellHolder", "(II)V"⟩ ∈ lw_g := lw_g5 177 rfl rfl
theorem wd_1267 : Cond.instanceMethod ⟨"GiftDuel$World", "tellHolder", "(II)V"⟩ ∈ lw_g := lw_g5 178 rfl rfl
theorem wd_1268 : Cond.selects "GiftDuel$World" ⟨"GiftDuel$World", "tellHolder", "(II)V"⟩ ⟨"GiftDuel$World", "tellHolder", "(II)V"⟩ ∈ lw_g := lw_g5 179 rfl rfl
theorem wd_1269 : Cond.code ⟨"GiftDuel$World", "tellHolder", "(II)V"⟩ prog_12_method_22_code 3 none ∈ lw_g := lw_g5 180 rfl rfl
theorem wd_1274 : Cond.methodLink "GiftDuel" 289 ⟨"GiftDuel$Shelves", "answer", "(LGiftDuel$World;II)I"⟩ ∈ lw_g := lw_g5 185 rfl rfl
theorem wd_1275 : Cond.instanceMethod ⟨"GiftDuel$Shelves", "answer", "(LGiftDuel$World;II)I"⟩ ∈ lw_g := lw_g5 186 rfl rfl
theorem wd_1276 : Cond.selects "GiftDuel$Shelves" ⟨"GiftDuel$Shelves", "answer", "(LGiftDuel$World;II)I"⟩ ⟨"GiftDuel$Shelves", "answer", "(LGiftDuel$World;II)I"⟩ ∈ lw_g := lw_g5 187 rfl rfl
theorem wd_1277 : Cond.code ⟨"GiftDuel$Shelves", "answer", "(LGiftDuel$World;II)I"⟩ prog_8_method_2_code 6 (some .int) ∈ lw_g := lw_g5 188 rfl rfl
theorem wd_1278 : Cond.methodLink "GiftDuel$Shelves" 44 ⟨"GiftDuel$World", "many", "(I)I"⟩ ∈ lw_g := lw_g5 189 rfl rfl
theorem wd_1279 : Cond.methodLink "GiftDuel$Shelves" 48 ⟨"java/lang/Math", "min", "(II)I"⟩ ∈ lw_g := lw_g5 190 rfl rfl
theorem wd_1280 : Cond.methodLink "GiftDuel$Shelves" 54 ⟨"GiftDuel$World", "goodAt", "(II)I"⟩ ∈ lw_g := lw_g5 191 rfl rfl
theorem wd_1281 : Cond.methodLink "GiftDuel$Shelves" 57 ⟨"GiftDuel$Shelves", "lookAt", "(LGiftDuel$World;II)V"⟩ ∈ lw_g := lw_g5 192 rfl rfl
theorem wd_1283 : Cond.instanceMethod ⟨"GiftDuel$Shelves", "lookAt", "(LGiftDuel$World;II)V"⟩ ∈ lw_g := lw_g5 194 rfl rfl
theorem wd_1284 : Cond.code ⟨"GiftDuel$Shelves", "lookAt", "(LGiftDuel$World;II)V"⟩ prog_8_method_3_code 10 none ∈ lw_g := lw_g5 195 rfl rfl
theorem wd_1285 : Cond.methodLink "GiftDuel$Shelves" 68 ⟨"GiftDuel$World", "toldHolder", "(I)I"⟩ ∈ lw_g := lw_g5 196 rfl rfl
theorem wd_1286 : Cond.methodLink "GiftDuel$Shelves" 71 ⟨"GiftDuel$World", "isRuined", "(I)Z"⟩ ∈ lw_g := lw_g5 197 rfl rfl
theorem wd_1287 : Cond.methodLink "GiftDuel$Shelves" 74 ⟨"GiftDuel$Judge", "bars", "(LGiftDuel$World;III)Z"⟩ ∈ lw_g := lw_g5 198 rfl rfl
theorem wd_1288 : Cond.methodLink "GiftDuel$Shelves" 61 ⟨"GiftDuel$Shelves", "rows", "(I)I"⟩ ∈ lw_g := lw_g5 199 rfl rfl
theorem wd_1290 : Cond.instanceMethod ⟨"GiftDuel$Shelves", "rows", "(I)I"⟩ ∈ lw_g := lw_g5 201 rfl rfl
theorem wd_1291 : Cond.code ⟨"GiftDuel$Shelves", "rows", "(I)I"⟩ prog_8_method_4_code 7 (some .int) ∈ lw_g := lw_g5 202 rfl rfl
theorem wd_1292 : Cond.methodLink "GiftDuel$Shelves" 80 ⟨"java/util/Arrays", "fill", "([II)V"⟩ ∈ lw_g := lw_g5 203 rfl rfl
theorem wd_1293 : Cond.methodLink "GiftDuel$Shelves" 86 ⟨"GiftDuel$Shelves", "chosen", "(II)I"⟩ ∈ lw_g := lw_g5 204 rfl rfl
theorem wd_1294 : Cond.static ⟨"GiftDuel$Shelves", "chosen", "(II)I"⟩ ∈ lw_g := lw_g5 205 rfl rfl
theorem wd_1295 : Cond.code ⟨"GiftDuel$Shelves", "chosen", "(II)I"⟩ prog_8_method_5_code 2 (some .int) ∈ lw_g := lw_g5 206 rfl rfl
theorem wd_1296 : Cond.methodLink "GiftDuel$Shelves" 64 ⟨"GiftDuel$Shelves", "takeFirst", "(I)Z"⟩ ∈ lw_g := lw_g5 207 rfl rfl
theorem wd_1298 : Cond.instanceMethod ⟨"GiftDuel$Shelves", "takeFirst", "(I)Z"⟩ ∈ lw_g := lw_g5 209 rfl rfl
theorem wd_1299 : Cond.code ⟨"GiftDuel$Shelves", "takeFirst", "(I)Z"⟩ prog_8_method_6_code 5 (some .boolean) ∈ lw_g := lw_g5 210 rfl rfl
theorem wd_1304 : Cond.methodLink "GiftDuel" 291 ⟨"GiftDuel$Shelves", "beating", "(LGiftDuel$World;III)I"⟩ ∈ lw_g := lw_g5 215 rfl rfl
theorem wd_1305 : Cond.instanceMethod ⟨"GiftDuel$Shelves", "beating", "(LGiftDuel$World;III)I"⟩ ∈ lw_g := lw_g5 216 rfl rfl
theorem wd_1306 : Cond.selects "GiftDuel$Shelves" ⟨"GiftDuel$Shelves", "beating", "(LGiftDuel$World;III)I"⟩ ⟨"GiftDuel$Shelves", "beating", "(LGiftDuel$World;III)I"⟩ ∈ lw_g := lw_g5 217 rfl rfl
theorem wd_1307 : Cond.code ⟨"GiftDuel$Shelves", "beating", "(LGiftDuel$World;III)I"⟩ prog_8_method_7_code 8 (some .int) ∈ lw_g := lw_g5 218 rfl rfl
theorem wd_1308 : Cond.methodLink "GiftDuel$Shelves" 89 ⟨"GiftDuel$Judge", "worth", "(LGiftDuel$World;III)I"⟩ ∈ lw_g := lw_g5 219 rfl rfl
theorem wd_1309 : Cond.methodLink "GiftDuel$Shelves" 93 ⟨"java/lang/Math", "max", "(II)I"⟩ ∈ lw_g := lw_g5 220 rfl rfl
theorem wd_1314 : Cond.constant "GiftDuel" 294 1000000 ∈ lw_g := lw_g5 225 rfl rfl
theorem wd_1315 : Cond.methodLink "GiftDuel" 295 ⟨"GiftDuel$Deeds", "playOut", "(LGiftDuel$World;II)I"⟩ ∈ lw_g := lw_g5 226 rfl rfl
theorem wd_1316 : Cond.instanceMethod ⟨"GiftDuel$Deeds", "playOut", "(LGiftDuel$World;II)I"⟩ ∈ lw_g := lw_g5 227 rfl rfl
theorem wd_1317 : Cond.selects "GiftDuel$Deeds" ⟨"GiftDuel$Deeds", "playOut", "(LGiftDuel$World;II)I"⟩ ⟨"GiftDuel$Deeds", "playOut", "(LGiftDuel$World;II)I"⟩ ∈ lw_g := lw_g5 228 rfl rfl
theorem wd_1318 : Cond.code ⟨"GiftDuel$Deeds", "playOut", "(LGiftDuel$World;II)I"⟩ prog_2_method_9_code 10 (some .int) ∈ lw_g := lw_g5 229 rfl rfl
theorem wd_1319 : Cond.methodLink "GiftDuel$Deeds" 104 ⟨"GiftDuel$World", "copyFrom", "(LGiftDuel$World;)V"⟩ ∈ lw_g := lw_g5 230 rfl rfl
theorem wd_1320 : Cond.methodLink "GiftDuel$Deeds" 108 ⟨"GiftDuel$Deeds", "draw", "(I)I"⟩ ∈ lw_g := lw_g5 231 rfl rfl
theorem wd_1322 : Cond.instanceMethod ⟨"GiftDuel$Deeds", "draw", "(I)I"⟩ ∈ lw_g := lw_g5 233 rfl rfl
theorem wd_1323 : Cond.code ⟨"GiftDuel$Deeds", "draw", "(I)I"⟩ prog_2_method_10_code 2 (some .int) ∈ lw_g := lw_g5 234 rfl rfl
theorem wd_1324 : Cond.constantLong "GiftDuel$Deeds" 122 1103 ∈ lw_g := lw_g5 235 rfl rfl
theorem wd_1325 : Cond.constantLong "GiftDuel$Deeds" 124 12345 ∈ lw_g := lw_g5 236 rfl rfl
theorem wd_1326 : Cond.constantLong "GiftDuel$Deeds" 126 1000003 ∈ lw_g := lw_g5 237 rfl rfl
theorem wd_1327 : Cond.methodLink "GiftDuel$Deeds" 111 ⟨"GiftDuel$Deeds", "mayGive", "(LGiftDuel$World;II)Z"⟩ ∈ lw_g := lw_g5 238 rfl rfl
theorem wd_1328 : Cond.methodLink "GiftDuel$Deeds" 115 ⟨"GiftDuel$Deeds", "hand", "(LGiftDuel$World;II)I"⟩ ∈ lw_g := lw_g5 239 rfl rfl
theorem wd_1329 : Cond.methodLink "GiftDuel$Deeds" 118 ⟨"GiftDuel$Deeds", "passYear", "(LGiftDuel$World;I)I"⟩ ∈ lw_g := lw_g6 0 rfl rfl
theorem wd_1334 : Cond.methodLink "GiftDuel" 298 ⟨"GiftDuel$Deeds", "latestDrawn", "()LGiftDuel$World;"⟩ ∈ lw_g := lw_g6 5 rfl rfl
theorem wd_1335 : Cond.instanceMethod ⟨"GiftDuel$Deeds", "latestDrawn", "()LGiftDuel$World;"⟩ ∈ lw_g := lw_g6 6 rfl rfl
theorem wd_1336 : Cond.selects "GiftDuel$Deeds" ⟨"GiftDuel$Deeds", "latestDrawn", "()LGiftDuel$World;"⟩ ⟨"GiftDuel$Deeds", "latestDrawn", "()LGiftDuel$World;"⟩ ∈ lw_g := lw_g6 7 rfl rfl
theorem wd_1337 : Cond.code ⟨"GiftDuel$Deeds", "latestDrawn", "()LGiftDuel$World;"⟩ prog_2_method_8_code 1 (some (.object "GiftDuel$World")) ∈ lw_g := lw_g6 8 rfl rfl
theorem wd_1342 : Cond.methodLink "GiftDuel" 302 ⟨"GiftDuel$World", "copyFrom", "(LGiftDuel$World;)V"⟩ ∈ lw_g := lw_g6 13 rfl rfl
theorem wd_1343 : Cond.methodLink "GiftDuel" 306 ⟨"GiftDuel$World", "markKept", "()V"⟩ ∈ lw_g := lw_g6 14 rfl rfl
theorem wd_1344 : Cond.instanceMethod ⟨"GiftDuel$World", "markKept", "()V"⟩ ∈ lw_g := lw_g6 15 rfl rfl
theorem wd_1345 : Cond.selects "GiftDuel$World" ⟨"GiftDuel$World", "markKept", "()V"⟩ ⟨"GiftDuel$World", "markKept", "()V"⟩ ∈ lw_g := lw_g6 16 rfl rfl
theorem wd_1346 : Cond.code ⟨"GiftDuel$World", "markKept", "()V"⟩ prog_12_method_3_code 1 none ∈ lw_g := lw_g6 17 rfl rfl
theorem wd_1351 : Cond.methodLink "GiftDuel" 309 ⟨"GiftDuel$World", "isKept", "()Z"⟩ ∈ lw_g := lw_g6 22 rfl rfl
theorem wd_1352 : Cond.instanceMethod ⟨"GiftDuel$World", "isKept", "()Z"⟩ ∈ lw_g := lw_g6 23 rfl rfl
theorem wd_1353 : Cond.selects "GiftDuel$World" ⟨"GiftDuel$World", "isKept", "()Z"⟩ ⟨"GiftDuel$World", "isKept", "()Z"⟩ ∈ lw_g := lw_g6 24 rfl rfl
theorem wd_1354 : Cond.code ⟨"GiftDuel$World", "isKept", "()Z"⟩ prog_12_method_4_code 1 (some .boolean) ∈ lw_g := lw_g6 25 rfl rfl
theorem wd_1359 : Cond.methodLink "GiftDuel" 313 ⟨"GiftDuel$World", "standing", "()I"⟩ ∈ lw_g := lw_g6 30 rfl rfl
theorem wd_1360 : Cond.instanceMethod ⟨"GiftDuel$World", "standing", "()I"⟩ ∈ lw_g := lw_g6 31 rfl rfl
theorem wd_1361 : Cond.selects "GiftDuel$World" ⟨"GiftDuel$World", "standing", "()I"⟩ ⟨"GiftDuel$World", "standing", "()I"⟩ ∈ lw_g := lw_g6 32 rfl rfl
theorem wd_1362 : Cond.code ⟨"GiftDuel$World", "standing", "()I"⟩ prog_12_method_38_code 3 (some .int) ∈ lw_g := lw_g6 33 rfl rfl
theorem wd_1363 : Cond.methodLink "GiftDuel$World" 54 ⟨"GiftDuel$World", "standingAgainst", "(I)I"⟩ ∈ lw_g := lw_g6 34 rfl rfl
theorem wd_1364 : Cond.methodLink "GiftDuel" 316 ⟨"GiftDuel$Past", "size", "()I"⟩ ∈ lw_g := lw_g6 35 rfl rfl
theorem wd_1365 : Cond.instanceMethod ⟨"GiftDuel$Past", "size", "()I"⟩ ∈ lw_g := lw_g6 36 rfl rfl
theorem wd_1366 : Cond.selects "GiftDuel$Past" ⟨"GiftDuel$Past", "size", "()I"⟩ ⟨"GiftDuel$Past", "size", "()I"⟩ ∈ lw_g := lw_g6 37 rfl rfl
theorem wd_1367 : Cond.code ⟨"GiftDuel$Past", "size", "()I"⟩ prog_6_method_2_code 1 (some .int) ∈ lw_g := lw_g6 38 rfl rfl
theorem wd_1383 : Cond.constantLong "GiftDuelModel" 67 655 ∈ lw_g := lw_g6 54 rfl rfl
theorem wd_1393 : Cond.fieldLink "GiftDuelModel" 166 "GiftDuelModel" "thrown" "I" ∈ lw_g := lw_g6 64 rfl rfl
theorem wd_1394 : Cond.fieldLink "GiftDuelModel" 169 "GiftDuelModel" "status" "I" ∈ lw_g := lw_g6 65 rfl rfl
theorem wd_1395 : Cond.fieldLink "GiftDuelModel" 7 "GiftDuelModel" "refusals" "[I" ∈ lw_g := lw_g6 66 rfl rfl
theorem wd_1396 : Cond.fieldLink "GiftDuelModel" 13 "GiftDuelModel" "row" "[I" ∈ lw_g := lw_g6 67 rfl rfl
theorem wd_1397 : Cond.fieldLink "GiftDuelModel" 16 "GiftDuelModel" "images" "[I" ∈ lw_g := lw_g6 68 rfl rfl
theorem wd_1398 : Cond.fieldLink "GiftDuelModel" 19 "GiftDuelModel" "isKept" "[Z" ∈ lw_g := lw_g6 69 rfl rfl
theorem wd_1399 : Cond.fieldLink "GiftDuelModel" 23 "GiftDuelModel" "undos" "[I" ∈ lw_g := lw_g6 70 rfl rfl
theorem wd_1400 : Cond.fieldLink "GiftDuelModel" 26 "GiftDuelModel" "sorts" "[I" ∈ lw_g := lw_g6 71 rfl rfl
theorem wd_1401 : Cond.fieldLink "GiftDuelModel" 172 "GiftDuelModel" "nUndo" "I" ∈ lw_g := lw_g6 72 rfl rfl
theorem wd_1402 : Cond.fieldLink "GiftDuelModel" 29 "GiftDuelModel" "undosBefore" "[I" ∈ lw_g := lw_g6 73 rfl rfl
theorem wd_1403 : Cond.fieldLink "GiftDuelModel" 32 "GiftDuelModel" "sortsBefore" "[I" ∈ lw_g := lw_g6 74 rfl rfl
theorem wd_1404 : Cond.fieldLink "GiftDuelModel" 239 "GiftDuelModel" "dross" "I" ∈ lw_g := lw_g6 75 rfl rfl
theorem wd_1405 : Cond.fieldLink "GiftDuelModel" 35 "GiftDuelModel" "tape" "[I" ∈ lw_g := lw_g6 76 rfl rfl
theorem wd_1406 : Cond.fieldLink "GiftDuelModel" 236 "GiftDuelModel" "taped" "I" ∈ lw_g := lw_g6 77 rfl rfl
theorem wd_1407 : Cond.fieldLink "GiftDuelModel" 256 "GiftDuelModel" "from" "I" ∈ lw_g := lw_g6 78 rfl rfl
theorem wd_1408 : Cond.fieldLink "GiftDuelModel" 246 "GiftDuelModel" "to" "I" ∈ lw_g := lw_g6 79 rfl rfl
theorem wd_1409 : Cond.fieldLink "GiftDuelModel" 269 "GiftDuelModel" "sort" "I" ∈ lw_g := lw_g6 80 rfl rfl
theorem wd_1410 : Cond.fieldLink "GiftDuelModel" 259 "GiftDuelModel" "worth" "J" ∈ lw_g := lw_g6 81 rfl rfl
theorem wd_1411 : Cond.fieldLink "GiftDuelModel" 38 "GiftDuelModel" "fault" "I" ∈ lw_g := lw_g6 82 rfl rfl
theorem wd_1412 : Cond.fieldLink "GiftDuelModel" 249 "GiftDuelModel" "bad" "Z" ∈ lw_g := lw_g6 83 rfl rfl
theorem wd_1413 : Cond.fieldLink "GiftDuelModel" 326 "GiftDuelModel" "ordered" "Z" ∈ lw_g := lw_g6 84 rfl rfl
theorem wd_1414 : Cond.fieldLink "GiftDuelModel" 379 "GiftDuelModel" "nClauses" "I" ∈ lw_g := lw_g6 85 rfl rfl
theorem wd_1415 : Cond.fieldLink "GiftDuelModel" 42 "GiftDuelModel" "nClause" "[I" ∈ lw_g := lw_g6 86 rfl rfl
theorem wd_1416 : Cond.fieldLink "GiftDuelModel" 288 "GiftDuelModel" "nCode" "I" ∈ lw_g := lw_g6 87 rfl rfl
theorem wd_1417 : Cond.fieldLink "GiftDuelModel" 45 "GiftDuelModel" "nOp" "[I" ∈ lw_g := lw_g6 88 rfl rfl
theorem wd_1418 : Cond.fieldLink "GiftDuelModel" 48 "GiftDuelModel" "nArg" "[I" ∈ lw_g := lw_g6 89 rfl rfl
theorem wd_1419 : Cond.fieldLink "GiftDuelModel" 317 "GiftDuelModel" "nLeaves" "I" ∈ lw_g := lw_g6 90 rfl rfl
theorem wd_1420 : Cond.fieldLink "GiftDuelModel" 51 "GiftDuelModel" "pile" "[I" ∈ lw_g := lw_g6 91 rfl rfl
theorem wd_1421 : Cond.fieldLink "GiftDuelModel" 54 "GiftDuelModel" "pileAt" "[I" ∈ lw_g := lw_g6 92 rfl rfl
theorem wd_1422 : Cond.fieldLink "GiftDuelModel" 291 "GiftDuelModel" "piled" "I" ∈ lw_g := lw_g6 93 rfl rfl
theorem wd_1423 : Cond.fieldLink "GiftDuelModel" 311 "GiftDuelModel" "opened" "I" ∈ lw_g := lw_g6 94 rfl rfl
theorem wd_1424 : Cond.fieldLink "GiftDuelModel" 75 "GiftDuelModel" "words" "[J" ∈ lw_g := lw_g6 95 rfl rfl
theorem wd_1425 : Cond.fieldLink "GiftDuelModel" 91 "GiftDuelModel" "orderWords" "[J" ∈ lw_g := lw_g6 96 rfl rfl
theorem wd_1426 : Cond.fieldLink "GiftDuelModel" 405 "GiftDuelModel" "law" "I" ∈ lw_g := lw_g6 97 rfl rfl
theorem wd_1427 : Cond.fieldLink "GiftDuelModel" 94 "GiftDuelModel" "set" "[J" ∈ lw_g := lw_g6 98 rfl rfl
theorem wd_1428 : Cond.fieldLink "GiftDuelModel" 97 "GiftDuelModel" "now" "[J" ∈ lw_g := lw_g6 99 rfl rfl
theorem wd_1429 : Cond.fieldLink "GiftDuelModel" 100 "GiftDuelModel" "rest" "[J" ∈ lw_g := lw_g6 100 rfl rfl
theorem wd_1430 : Cond.fieldLink "GiftDuelModel" 402 "GiftDuelModel" "broken" "Z" ∈ lw_g := lw_g6 101 rfl rfl
theorem wd_1431 : Cond.fieldLink "GiftDuelModel" 420 "GiftDuelModel" "value" "J" ∈ lw_g := lw_g6 102 rfl rfl
theorem wd_1432 : Cond.fieldLink "GiftDuelModel" 429 "GiftDuelModel" "sum" "J" ∈ lw_g := lw_g6 103 rfl rfl
theorem wd_1433 : Cond.fieldLink "GiftDuelModel" 455 "GiftDuelModel" "barren" "I" ∈ lw_g := lw_g6 104 rfl rfl
theorem wd_1434 : Cond.fieldLink "GiftDuelModel" 103 "GiftDuelModel" "goodOf" "[I" ∈ lw_g := lw_g6 105 rfl rfl
theorem wd_1435 : Cond.fieldLink "GiftDuelModel" 106 "GiftDuelModel" "worths" "[I" ∈ lw_g := lw_g6 106 rfl rfl
theorem wd_1436 : Cond.fieldLink "GiftDuelModel" 109 "GiftDuelModel" "costs1" "[I" ∈ lw_g := lw_g6 107 rfl rfl
theorem wd_1437 : Cond.fieldLink "GiftDuelModel" 112 "GiftDuelModel" "wins" "[Z" ∈ lw_g := lw_g6 108 rfl rfl
theorem wd_1438 : Cond.fieldLink "GiftDuelModel" 115 "GiftDuelModel" "grains" "[I" ∈ lw_g := lw_g6 109 rfl rfl
theorem wd_1439 : Cond.fieldLink "GiftDuelModel" 118 "GiftDuelModel" "yearly" "[I" ∈ lw_g := lw_g6 110 rfl rfl
theorem wd_1440 : Cond.fieldLink "GiftDuelModel" 121 "GiftDuelModel" "besieged" "[I" ∈ lw_g := lw_g6 111 rfl rfl
theorem wd_1441 : Cond.fieldLink "GiftDuelModel" 124 "GiftDuelModel" "dear" "[I" ∈ lw_g := lw_g6 112 rfl rfl
theorem wd_1442 : Cond.fieldLink "GiftDuelModel" 127 "GiftDuelModel" "told" "[I" ∈ lw_g := lw_g6 113 rfl rfl
theorem wd_1443 : Cond.fieldLink "GiftDuelModel" 130 "GiftDuelModel" "wayOf" "[I" ∈ lw_g := lw_g6 114 rfl rfl
theorem wd_1444 : Cond.fieldLink "GiftDuelModel" 133 "GiftDuelModel" "bestWay" "[I" ∈ lw_g := lw_g6 115 rfl rfl
theorem wd_1445 : Cond.fieldLink "GiftDuelModel" 136 "GiftDuelModel" "roadAt" "[I" ∈ lw_g := lw_g6 116 rfl rfl
theorem wd_1446 : Cond.fieldLink "GiftDuelModel" 530 "GiftDuelModel" "bestSafe" "I" ∈ lw_g := lw_g6 117 rfl rfl
theorem wd_1447 : Cond.fieldLink "GiftDuelModel" 533 "GiftDuelModel" "bestDays" "I" ∈ lw_g := lw_g6 118 rfl rfl
theorem wd_1448 : Cond.fieldLink "GiftDuelModel" 539 "GiftDuelModel" "bestRoads" "I" ∈ lw_g := lw_g6 119 rfl rfl
theorem wd_1449 : Cond.fieldLink "GiftDuelModel" 556 "GiftDuelModel" "ringSet" "I" ∈ lw_g := lw_g6 120 rfl rfl
theorem wd_1450 : Cond.fieldLink "GiftDuelModel" 553 "GiftDuelModel" "ringMany" "I" ∈ lw_g := lw_g6 121 rfl rfl
theorem wd_1451 : Cond.fieldLink "GiftDuelModel" 139 "GiftDuelModel" "bestRing" "[I" ∈ lw_g := lw_g6 122 rfl rfl
theorem wd_1452 : Cond.fieldLink "GiftDuelModel" 142 "GiftDuelModel" "bars" "[Z" ∈ lw_g := lw_g6 123 rfl rfl
theorem wd_1453 : Cond.fieldLink "GiftDuelModel" 145 "GiftDuelModel" "holders" "[I" ∈ lw_g := lw_g6 124 rfl rfl
theorem wd_1454 : Cond.fieldLink "GiftDuelModel" 148 "GiftDuelModel" "giftOf" "[I" ∈ lw_g := lw_g6 125 rfl rfl
theorem wd_1455 : Cond.fieldLink "GiftDuelModel" 151 "GiftDuelModel" "hadBy" "[I" ∈ lw_g := lw_g6 126 rfl rfl
theorem wd_1456 : Cond.fieldLink "GiftDuelModel" 154 "GiftDuelModel" "firstGifts" "[I" ∈ lw_g := lw_g6 127 rfl rfl
theorem wd_1457 : Cond.fieldLink "GiftDuelModel" 568 "GiftDuelModel" "giftWays" "I" ∈ lw_g := lw_g6 128 rfl rfl
theorem wd_1458 : Cond.fieldLink "GiftDuelModel" 157 "GiftDuelModel" "nOrder" "[I" ∈ lw_g := lw_g6 129 rfl rfl
theorem wd_1459 : Cond.fieldLink "GiftDuelModel" 595 "GiftDuelModel" "done" "I" ∈ lw_g := lw_g6 130 rfl rfl
theorem wd_1460 : Cond.fieldLink "GiftDuelModel" 598 "GiftDuelModel" "last" "I" ∈ lw_g := lw_g6 131 rfl rfl
theorem wd_1461 : Cond.fieldLink "GiftDuelModel" 160 "GiftDuelModel" "stopped" "I" ∈ lw_g := lw_g6 132 rfl rfl
theorem wd_1462 : Cond.fieldLink "GiftDuelModel" 592 "GiftDuelModel" "off" "Z" ∈ lw_g := lw_g6 133 rfl rfl
theorem wd_1463 : Cond.fieldLink "GiftDuelModel" 611 "GiftDuelModel" "state" "J" ∈ lw_g := lw_g6 134 rfl rfl
theorem wd_1464 : Cond.fieldLink "GiftDuelModel" 163 "GiftDuelModel" "drawn" "[I" ∈ lw_g := lw_g6 135 rfl rfl
theorem wd_1465 : Cond.fieldLink "GiftDuelModel" 625 "GiftDuelModel" "nDrawn" "I" ∈ lw_g := lw_g6 136 rfl rfl
theorem wd_1618 : Cond.methodLink "GiftDuelModel" 179 ⟨"GiftDuelModel", "in", "(JJJ)Z"⟩ ∈ lw_g := lw_g7 49 rfl rfl
theorem wd_1619 : Cond.static ⟨"GiftDuelModel", "in", "(JJJ)Z"⟩ ∈ lw_g := lw_g7 50 rfl rfl
theorem wd_1620 : Cond.code ⟨"GiftDuelModel", "in", "(JJJ)Z"⟩ prog_14_method_3_code 6 (some .boolean) ∈ lw_g := lw_g7 51 rfl rfl
theorem wd_1621 : Cond.methodLink "GiftDuelModel" 175 ⟨"GiftDuelModel", "tell", "(I)I"⟩ ∈ lw_g := lw_g7 52 rfl rfl
theorem wd_1623 : Cond.instanceMethod ⟨"GiftDuelModel", "tell", "(I)I"⟩ ∈ lw_g := lw_g7 54 rfl rfl
theorem wd_1624 : Cond.code ⟨"GiftDuelModel", "tell", "(I)I"⟩ prog_14_method_7_code 2 (some .int) ∈ lw_g := lw_g7 55 rfl rfl
theorem wd_1629 : Cond.methodLink "GiftDuelModel" 183 ⟨"GiftDuelModel", "settled", "(I)I"⟩ ∈ lw_g := lw_g7 60 rfl rfl
theorem wd_1631 : Cond.instanceMethod ⟨"GiftDuelModel", "settled", "(I)I"⟩ ∈ lw_g := lw_g7 62 rfl rfl
theorem wd_1632 : Cond.code ⟨"GiftDuelModel", "settled", "(I)I"⟩ prog_14_method_9_code 2 (some .int) ∈ lw_g := lw_g7 63 rfl rfl
theorem wd_1637 : Cond.constantLong "GiftDuelModel" 186 9999 ∈ lw_g := lw_g7 68 rfl rfl
theorem wd_1638 : Cond.constantLong "GiftDuelModel" 188 99 ∈ lw_g := lw_g7 69 rfl rfl
theorem wd_1643 : Cond.methodLink "GiftDuelModel" 198 ⟨"GiftDuelModel", "isLord", "(I)Z"⟩ ∈ lw_g := lw_g7 74 rfl rfl
theorem wd_1645 : Cond.instanceMethod ⟨"GiftDuelModel", "isLord", "(I)Z"⟩ ∈ lw_g := lw_g7 76 rfl rfl
theorem wd_1646 : Cond.code ⟨"GiftDuelModel", "isLord", "(I)Z"⟩ prog_14_method_16_code 2 (some .boolean) ∈ lw_g := lw_g7 77 rfl rfl
theorem wd_1647 : Cond.constantLong "GiftDuelModel" 202 7 ∈ lw_g := lw_g7 78 rfl rfl
theorem wd_1648 : Cond.methodLink "GiftDuelModel" 204 ⟨"GiftDuelModel", "ofLord", "(II)I"⟩ ∈ lw_g := lw_g7 79 rfl rfl
theorem wd_1650 : Cond.instanceMethod ⟨"GiftDuelModel", "ofLord", "(II)I"⟩ ∈ lw_g := lw_g7 81 rfl rfl
theorem wd_1651 : Cond.code ⟨"GiftDuelModel", "ofLord", "(II)I"⟩ prog_14_method_14_code 3 (some .int) ∈ lw_g := lw_g7 82 rfl rfl
theorem wd_1652 : Cond.methodLink "GiftDuelModel" 207 ⟨"GiftDuelModel", "held", "(I)I"⟩ ∈ lw_g := lw_g7 83 rfl rfl
theorem wd_1654 : Cond.instanceMethod ⟨"GiftDuelModel", "held", "(I)I"⟩ ∈ lw_g := lw_g7 85 rfl rfl
theorem wd_1655 : Cond.code ⟨"GiftDuelModel", "held", "(I)I"⟩ prog_14_method_20_code 4 (some .int) ∈ lw_g := lw_g7 86 rfl rfl
theorem wd_1656 : Cond.methodLink "GiftDuelModel" 190 ⟨"GiftDuelModel", "ofGood", "(II)I"⟩ ∈ lw_g := lw_g7 87 rfl rfl
theorem wd_1658 : Cond.instanceMethod ⟨"GiftDuelModel", "ofGood", "(II)I"⟩ ∈ lw_g := lw_g7 89 rfl rfl
theorem wd_1659 : Cond.code ⟨"GiftDuelModel", "ofGood", "(II)I"⟩ prog_14_method_15_code 3 (some .int) ∈ lw_g := lw_g7 90 rfl rfl
theorem wd_1660 : Cond.methodLink "GiftDuelModel" 210 ⟨"GiftDuelModel", "year", "()I"⟩ ∈ lw_g := lw_g7 91 rfl rfl
theorem wd_1662 : Cond.instanceMethod ⟨"GiftDuelModel", "year", "()I"⟩ ∈ lw_g := lw_g7 93 rfl rfl
theorem wd_1663 : Cond.code ⟨"GiftDuelModel", "year", "()I"⟩ prog_14_method_18_code 1 (some .int) ∈ lw_g := lw_g7 94 rfl rfl
theorem wd_1664 : Cond.methodLink "GiftDuelModel" 214 ⟨"GiftDuelModel", "costs", "(II)I"⟩ ∈ lw_g := lw_g7 95 rfl rfl
theorem wd_1666 : Cond.instanceMethod ⟨"GiftDuelModel", "costs", "(II)I"⟩ ∈ lw_g := lw_g7 97 rfl rfl
theorem wd_1667 : Cond.code ⟨"GiftDuelModel", "costs", "(II)I"⟩ prog_14_method_21_code 5 (some .int) ∈ lw_g := lw_g7 98 rfl rfl
theorem wd_1668 : Cond.methodLink "GiftDuelModel" 194 ⟨"GiftDuelModel", "costOf", "(III)I"⟩ ∈ lw_g := lw_g7 99 rfl rfl
theorem wd_1670 : Cond.instanceMethod ⟨"GiftDuelModel", "costOf", "(III)I"⟩ ∈ lw_g := lw_g7 101 rfl rfl
theorem wd_1671 : Cond.code ⟨"GiftDuelModel", "costOf", "(III)I"⟩ prog_14_method_68_code 4 (some .int) ∈ lw_g := lw_g7 102 rfl rfl
theorem wd_1672 : Cond.methodLink "GiftDuelModel" 435 ⟨"GiftDuelModel", "tells1", "(IIIIIIJ)J"⟩ ∈ lw_g := lw_g7 103 rfl rfl
theorem wd_1674 : Cond.instanceMethod ⟨"GiftDuelModel", "tells1", "(IIIIIIJ)J"⟩ ∈ lw_g := lw_g7 105 rfl rfl
theorem wd_1675 : Cond.code ⟨"GiftDuelModel", "tells1", "(IIIIIIJ)J"⟩ prog_14_method_66_code 13 (some .long) ∈ lw_g := lw_g7 106 rfl rfl
theorem wd_1676 : Cond.methodLink "GiftDuelModel" 432 ⟨"GiftDuelModel", "isSo", "(I)Z"⟩ ∈ lw_g := lw_g7 107 rfl rfl
theorem wd_1678 : Cond.instanceMethod ⟨"GiftDuelModel", "isSo", "(I)Z"⟩ ∈ lw_g := lw_g7 109 rfl rfl
theorem wd_1679 : Cond.code ⟨"GiftDuelModel", "isSo", "(I)Z"⟩ prog_14_method_65_code 2 (some .boolean) ∈ lw_g := lw_g7 110 rfl rfl
theorem wd_1680 : Cond.methodLink "GiftDuelModel" 426 ⟨"GiftDuelModel", "reckonAll", "(II)V"⟩ ∈ lw_g := lw_g7 111 rfl rfl
theorem wd_1682 : Cond.instanceMethod ⟨"GiftDuelModel", "reckonAll", "(II)V"⟩ ∈ lw_g := lw_g7 113 rfl rfl
theorem wd_1683 : Cond.code ⟨"GiftDuelModel", "reckonAll", "(II)V"⟩ prog_14_method_63_code 7 none ∈ lw_g := lw_g7 114 rfl rfl
theorem wd_1684 : Cond.methodLink "GiftDuelModel" 408 ⟨"GiftDuelModel", "askedOf", "(II)J"⟩ ∈ lw_g := lw_g7 115 rfl rfl
theorem wd_1686 : Cond.instanceMethod ⟨"GiftDuelModel", "askedOf", "(II)J"⟩ ∈ lw_g := lw_g7 117 rfl rfl
theorem wd_1687 : Cond.code ⟨"GiftDuelModel", "askedOf", "(II)J"⟩ prog_14_method_64_code 3 (some .long) ∈ lw_g := lw_g7 118 rfl rfl
theorem wd_1688 : Cond.methodLink "GiftDuelModel" 225 ⟨"GiftDuelModel", "isGood", "(I)Z"⟩ ∈ lw_g := lw_g7 119 rfl rfl
theorem wd_1690 : Cond.instanceMethod ⟨"GiftDuelModel", "isGood", "(I)Z"⟩ ∈ lw_g := lw_g7 121 rfl rfl
theorem wd_1691 : Cond.code ⟨"GiftDuelModel", "isGood", "(I)Z"⟩ prog_14_method_17_code 2 (some .boolean) ∈ lw_g := lw_g7 122 rfl rfl
theorem wd_1692 : Cond.constantLong "GiftDuelModel" 276 (-1) ∈ lw_g := lw_g7 123 rfl rfl
theorem wd_1693 : Cond.methodLink "GiftDuelModel" 423 ⟨"GiftDuelModel", "debtsOf", "(I)I"⟩ ∈ lw_g := lw_g7 124 rfl rfl
theorem wd_1695 : Cond.instanceMethod ⟨"GiftDuelModel", "debtsOf", "(I)I"⟩ ∈ lw_g := lw_g7 126 rfl rfl
theorem wd_1696 : Cond.code ⟨"GiftDuelModel", "debtsOf", "(I)I"⟩ prog_14_method_72_code 4 (some .int) ∈ lw_g := lw_g7 127 rfl rfl
theorem wd_1697 : Cond.methodLink "GiftDuelModel" 452 ⟨"GiftDuelModel", "debtAt", "(II)I"⟩ ∈ lw_g := lw_g7 128 rfl rfl
theorem wd_1698 : Cond.static ⟨"GiftDuelModel", "debtAt", "(II)I"⟩ ∈ lw_g := lw_g7 129 rfl rfl
theorem wd_1699 : Cond.code ⟨"GiftDuelModel", "debtAt", "(II)I"⟩ prog_14_method_71_code 2 (some .int) ∈ lw_g := lw_g7 130 rfl rfl
theorem wd_1700 : Cond.methodLink "GiftDuelModel" 412 ⟨"GiftDuelModel", "reckon", "(IJJ)J"⟩ ∈ lw_g := lw_g7 131 rfl rfl
theorem wd_1702 : Cond.instanceMethod ⟨"GiftDuelModel", "reckon", "(IJJ)J"⟩ ∈ lw_g := lw_g7 133 rfl rfl
theorem wd_1703 : Cond.code ⟨"GiftDuelModel", "reckon", "(IJJ)J"⟩ prog_14_method_62_code 6 (some .long) ∈ lw_g := lw_g7 134 rfl rfl
theorem wd_1704 : Cond.constantLong "GiftDuelModel" 416 (-1000000000) ∈ lw_g := lw_g7 135 rfl rfl
theorem wd_1705 : Cond.constantLong "GiftDuelModel" 418 1000000000 ∈ lw_g := lw_g7 136 rfl rfl
theorem wd_1706 : Cond.methodLink "GiftDuelModel" 439 ⟨"GiftDuelModel", "within", "(JII)I"⟩ ∈ lw_g := lw_g7 137 rfl rfl
theorem wd_1707 : Cond.static ⟨"GiftDuelModel", "within", "(JII)I"⟩ ∈ lw_g := lw_g7 138 rfl rfl
theorem wd_1708 : Cond.code ⟨"GiftDuelModel", "within", "(JII)I"⟩ prog_14_method_5_code 4 (some .int) ∈ lw_g := lw_g7 139 rfl rfl
theorem wd_1713 : Cond.methodLink "GiftDuelModel" 217 ⟨"GiftDuelModel", "was", "(I)I"⟩ ∈ lw_g := lw_g7 144 rfl rfl
theorem wd_1715 : Cond.instanceMethod ⟨"GiftDuelModel", "was", "(I)I"⟩ ∈ lw_g := lw_g7 146 rfl rfl
theorem wd_1716 : Cond.code ⟨"GiftDuelModel", "was", "(I)I"⟩ prog_14_method_8_code 2 (some .int) ∈ lw_g := lw_g7 147 rfl rfl
theorem wd_1721 : Cond.methodLink "GiftDuelModel" 222 ⟨"GiftDuelModel", "good1", "(III)I"⟩ ∈ lw_g := lw_g7 152 rfl rfl
theorem wd_1723 : Cond.instanceMethod ⟨"GiftDuelModel", "good1", "(III)I"⟩ ∈ lw_g := lw_g7 154 rfl rfl
theorem wd_1724 : Cond.code ⟨"GiftDuelModel", "good1", "(III)I"⟩ prog_14_method_24_code 6 (some .int) ∈ lw_g := lw_g7 155 rfl rfl
theorem wd_1725 : Cond.constantLong "GiftDuelModel" 220 20 ∈ lw_g := lw_g7 156 rfl rfl
theorem wd_1730 : Cond.constantLong "GiftDuelModel" 228 5 ∈ lw_g := lw_g7 161 rfl rfl
theorem wd_1735 : Cond.constantLong "GiftDuelModel" 230 999 ∈ lw_g := lw_g7 166 rfl rfl
theorem wd_1736 : Cond.constantLong "GiftDuelModel" 232 3 ∈ lw_g := lw_g7 167 rfl rfl
theorem wd_1737 : Cond.constantLong "GiftDuelModel" 234 9 ∈ lw_g := lw_g7 168 rfl rfl
theorem wd_1750 : Cond.methodLink "GiftDuelModel" 242 ⟨"GiftDuelModel", "four", "(I)V"⟩ ∈ lw_g := lw_g7 181 rfl rfl
theorem wd_1752 : Cond.instanceMethod ⟨"GiftDuelModel", "four", "(I)V"⟩ ∈ lw_g := lw_g7 183 rfl rfl
theorem wd_1753 : Cond.code ⟨"GiftDuelModel", "four", "(I)V"⟩ prog_14_method_30_code 3 none ∈ lw_g := lw_g7 184 rfl rfl
theorem wd_1766 : Cond.methodLink "GiftDuelModel" 393 ⟨"GiftDuelModel", "beginText", "(Z)V"⟩ ∈ lw_g := lw_g7 197 rfl rfl
theorem wd_1768 : Cond.instanceMethod ⟨"GiftDuelModel", "beginText", "(Z)V"⟩ ∈ lw_g := lw_g7 199 rfl rfl
theorem wd_1769 : Cond.code ⟨"GiftDuelModel", "beginText", "(Z)V"⟩ prog_14_method_57_code 2 none ∈ lw_g := lw_g7 200 rfl rfl
theorem wd_1770 : Cond.methodLink "GiftDuelModel" 376 ⟨"GiftDuelModel", "begin", "()V"⟩ ∈ lw_g := lw_g7 201 rfl rfl
theorem wd_1772 : Cond.instanceMethod ⟨"GiftDuelModel", "begin", "()V"⟩ ∈ lw_g := lw_g7 203 rfl rfl
theorem wd_1773 : Cond.code ⟨"GiftDuelModel", "begin", "()V"⟩ prog_14_method_35_code 1 none ∈ lw_g := lw_g7 204 rfl rfl
theorem wd_1774 : Cond.methodLink "GiftDuelModel" 253 ⟨"GiftDuelModel", "next", "()V"⟩ ∈ lw_g := lw_g7 205 rfl rfl
theorem wd_1776 : Cond.instanceMethod ⟨"GiftDuelModel", "next", "()V"⟩ ∈ lw_g := lw_g7 207 rfl rfl
theorem wd_1777 : Cond.code ⟨"GiftDuelModel", "next", "()V"⟩ prog_14_method_36_code 1 none ∈ lw_g := lw_g7 208 rfl rfl
theorem wd_1778 : Cond.methodLink "GiftDuelModel" 263 ⟨"GiftDuelModel", "isSmall", "(I)Z"⟩ ∈ lw_g := lw_g7 209 rfl rfl
theorem wd_1779 : Cond.static ⟨"GiftDuelModel", "isSmall", "(I)Z"⟩ ∈ lw_g := lw_g7 210 rfl rfl
theorem wd_1780 : Cond.code ⟨"GiftDuelModel", "isSmall", "(I)Z"⟩ prog_14_method_33_code 1 (some .boolean) ∈ lw_g := lw_g7 211 rfl rfl
theorem wd_1781 : Cond.methodLink "GiftDuelModel" 266 ⟨"GiftDuelModel", "isDigit", "(I)Z"⟩ ∈ lw_g := lw_g7 212 rfl rfl
theorem wd_1782 : Cond.static ⟨"GiftDuelModel", "isDigit", "(I)Z"⟩ ∈ lw_g := lw_g7 213 rfl rfl
theorem wd_1783 : Cond.code ⟨"GiftDuelModel", "isDigit", "(I)Z"⟩ prog_14_method_34_code 1 (some .boolean) ∈ lw_g := lw_g7 214 rfl rfl
theorem wd_1784 : Cond.constantLong "GiftDuelModel" 272 32 ∈ lw_g := lw_g7 215 rfl rfl
theorem wd_1785 : Cond.constantLong "GiftDuelModel" 274 96 ∈ lw_g := lw_g7 216 rfl rfl
theorem wd_1786 : Cond.constantLong "GiftDuelModel" 278 1000000 ∈ lw_g := lw_g7 217 rfl rfl
theorem wd_1787 : Cond.constantLong "GiftDuelModel" 280 10 ∈ lw_g := lw_g7 218 rfl rfl
theorem wd_1788 : Cond.constantLong "GiftDuelModel" 282 48 ∈ lw_g := lw_g7 219 rfl rfl
theorem wd_1789 : Cond.methodLink "GiftDuelModel" 396 ⟨"GiftDuelModel", "readLaw", "()V"⟩ ∈ lw_g := lw_g7 220 rfl rfl
theorem wd_1791 : Cond.instanceMethod ⟨"GiftDuelModel", "readLaw", "()V"⟩ ∈ lw_g := lw_g7 222 rfl rfl
theorem wd_1792 : Cond.code ⟨"GiftDuelModel", "readLaw", "()V"⟩ prog_14_method_59_code 4 none ∈ lw_g := lw_g7 223 rfl rfl
theorem wd_1793 : Cond.constantLong "GiftDuelModel" 382 24627848 ∈ lw_g := lw_g7 224 rfl rfl
theorem wd_1794 : Cond.methodLink "GiftDuelModel" 307 ⟨"GiftDuelModel", "isWord", "(J)Z"⟩ ∈ lw_g := lw_g7 225 rfl rfl
theorem wd_1796 : Cond.instanceMethod ⟨"GiftDuelModel", "isWord", "(J)Z"⟩ ∈ lw_g := lw_g7 227 rfl rfl
theorem wd_1797 : Cond.code ⟨"GiftDuelModel", "isWord", "(J)Z"⟩ prog_14_method_37_code 3 (some .boolean) ∈ lw_g := lw_g7 228 rfl rfl
theorem wd_1798 : Cond.constantLong "GiftDuelModel" 384 11703827 ∈ lw_g := lw_g7 229 rfl rfl
theorem wd_1799 : Cond.constantLong "GiftDuelModel" 386 67155 ∈ lw_g := lw_g7 230 rfl rfl
theorem wd_1800 : Cond.methodLink "GiftDuelModel" 284 ⟨"GiftDuelModel", "must", "(Z)V"⟩ ∈ lw_g := lw_g7 231 rfl rfl
theorem wd_1802 : Cond.instanceMethod ⟨"GiftDuelModel", "must", "(Z)V"⟩ ∈ lw_g := lw_g7 233 rfl rfl
theorem wd_1803 : Cond.code ⟨"GiftDuelModel", "must", "(Z)V"⟩ prog_14_method_39_code 2 none ∈ lw_g := lw_g7 234 rfl rfl
theorem wd_1804 : Cond.methodLink "GiftDuelModel" 388 ⟨"GiftDuelModel", "readExpression", "(Z)V"⟩ ∈ lw_g := lw_g7 235 rfl rfl
theorem wd_1806 : Cond.instanceMethod ⟨"GiftDuelModel", "readExpression", "(Z)V"⟩ ∈ lw_g := lw_g7 237 rfl rfl
theorem wd_1807 : Cond.code ⟨"GiftDuelModel", "readExpression", "(Z)V"⟩ prog_14_method_56_code 3 none ∈ lw_g := lw_g7 238 rfl rfl
theorem wd_1808 : Cond.methodLink "GiftDuelModel" 366 ⟨"GiftDuelModel", "readPlain", "()I"⟩ ∈ lw_g := lw_g7 239 rfl rfl
theorem wd_1810 : Cond.instanceMethod ⟨"GiftDuelModel", "readPlain", "()I"⟩ ∈ lw_g := lw_g8 1 rfl rfl
theorem wd_1811 : Cond.code ⟨"GiftDuelModel", "readPlain", "()I"⟩ prog_14_method_53_code 1 (some .int) ∈ lw_g := lw_g8 2 rfl rfl
theorem wd_1812 : Cond.constantLong "GiftDuelModel" 347 14836 ∈ lw_g := lw_g8 3 rfl rfl
theorem wd_1813 : Cond.methodLink "GiftDuelModel" 314 ⟨"GiftDuelModel", "push", "(II)V"⟩ ∈ lw_g := lw_g8 4 rfl rfl
theorem wd_1815 : Cond.instanceMethod ⟨"GiftDuelModel", "push", "(II)V"⟩ ∈ lw_g := lw_g8 6 rfl rfl
theorem wd_1816 : Cond.code ⟨"GiftDuelModel", "push", "(II)V"⟩ prog_14_method_43_code 3 none ∈ lw_g := lw_g8 7 rfl rfl
theorem wd_1817 : Cond.methodLink "GiftDuelModel" 320 ⟨"GiftDuelModel", "isSign", "(I)Z"⟩ ∈ lw_g := lw_g8 8 rfl rfl
theorem wd_1819 : Cond.instanceMethod ⟨"GiftDuelModel", "isSign", "(I)Z"⟩ ∈ lw_g := lw_g8 10 rfl rfl
theorem wd_1820 : Cond.code ⟨"GiftDuelModel", "isSign", "(I)Z"⟩ prog_14_method_38_code 2 (some .boolean) ∈ lw_g := lw_g8 11 rfl rfl
theorem wd_1821 : Cond.methodLink "GiftDuelModel" 323 ⟨"GiftDuelModel", "openBracket", "(I)V"⟩ ∈ lw_g := lw_g8 12 rfl rfl
theorem wd_1823 : Cond.instanceMethod ⟨"GiftDuelModel", "openBracket", "(I)V"⟩ ∈ lw_g := lw_g8 14 rfl rfl
theorem wd_1824 : Cond.code ⟨"GiftDuelModel", "openBracket", "(I)V"⟩ prog_14_method_50_code 2 none ∈ lw_g := lw_g8 15 rfl rfl
theorem wd_1825 : Cond.methodLink "GiftDuelModel" 349 ⟨"GiftDuelModel", "readPart", "()I"⟩ ∈ lw_g := lw_g8 16 rfl rfl
theorem wd_1827 : Cond.instanceMethod ⟨"GiftDuelModel", "readPart", "()I"⟩ ∈ lw_g := lw_g8 18 rfl rfl
theorem wd_1828 : Cond.code ⟨"GiftDuelModel", "readPart", "()I"⟩ prog_14_method_52_code 4 (some .int) ∈ lw_g := lw_g8 19 rfl rfl
theorem wd_1829 : Cond.methodLink "GiftDuelModel" 329 ⟨"GiftDuelModel", "orderPartAt", "()I"⟩ ∈ lw_g := lw_g8 20 rfl rfl
theorem wd_1831 : Cond.instanceMethod ⟨"GiftDuelModel", "orderPartAt", "()I"⟩ ∈ lw_g := lw_g8 22 rfl rfl
theorem wd_1832 : Cond.code ⟨"GiftDuelModel", "orderPartAt", "()I"⟩ prog_14_method_49_code 3 (some .int) ∈ lw_g := lw_g8 23 rfl rfl
theorem wd_1833 : Cond.methodLink "GiftDuelModel" 332 ⟨"GiftDuelModel", "partAt", "()I"⟩ ∈ lw_g := lw_g8 24 rfl rfl
theorem wd_1835 : Cond.instanceMethod ⟨"GiftDuelModel", "partAt", "()I"⟩ ∈ lw_g := lw_g8 26 rfl rfl
theorem wd_1836 : Cond.code ⟨"GiftDuelModel", "partAt", "()I"⟩ prog_14_method_48_code 3 (some .int) ∈ lw_g := lw_g8 27 rfl rfl
theorem wd_1837 : Cond.constantLong "GiftDuelModel" 335 1000 ∈ lw_g := lw_g8 28 rfl rfl
theorem wd_1838 : Cond.methodLink "GiftDuelModel" 337 ⟨"GiftDuelModel", "leaf", "(ZII)V"⟩ ∈ lw_g := lw_g8 29 rfl rfl
theorem wd_1840 : Cond.instanceMethod ⟨"GiftDuelModel", "leaf", "(ZII)V"⟩ ∈ lw_g := lw_g8 31 rfl rfl
theorem wd_1841 : Cond.code ⟨"GiftDuelModel", "leaf", "(ZII)V"⟩ prog_14_method_51_code 4 none ∈ lw_g := lw_g8 32 rfl rfl
theorem wd_1842 : Cond.methodLink "GiftDuelModel" 297 ⟨"GiftDuelModel", "emit", "(II)V"⟩ ∈ lw_g := lw_g8 33 rfl rfl
theorem wd_1844 : Cond.instanceMethod ⟨"GiftDuelModel", "emit", "(II)V"⟩ ∈ lw_g := lw_g8 35 rfl rfl
theorem wd_1845 : Cond.code ⟨"GiftDuelModel", "emit", "(II)V"⟩ prog_14_method_42_code 3 none ∈ lw_g := lw_g8 36 rfl rfl
theorem wd_1846 : Cond.constantLong "GiftDuelModel" 341 15 ∈ lw_g := lw_g8 37 rfl rfl
theorem wd_1847 : Cond.methodLink "GiftDuelModel" 343 ⟨"GiftDuelModel", "number", "(JJ)I"⟩ ∈ lw_g := lw_g8 38 rfl rfl
theorem wd_1849 : Cond.instanceMethod ⟨"GiftDuelModel", "number", "(JJ)I"⟩ ∈ lw_g := lw_g8 40 rfl rfl
theorem wd_1850 : Cond.code ⟨"GiftDuelModel", "number", "(JJ)I"⟩ prog_14_method_40_code 6 (some .int) ∈ lw_g := lw_g8 41 rfl rfl
theorem wd_1851 : Cond.methodLink "GiftDuelModel" 369 ⟨"GiftDuelModel", "behindSum", "(Z)I"⟩ ∈ lw_g := lw_g8 42 rfl rfl
theorem wd_1853 : Cond.instanceMethod ⟨"GiftDuelModel", "behindSum", "(Z)I"⟩ ∈ lw_g := lw_g8 44 rfl rfl
theorem wd_1854 : Cond.code ⟨"GiftDuelModel", "behindSum", "(Z)I"⟩ prog_14_method_54_code 4 (some .int) ∈ lw_g := lw_g8 45 rfl rfl
theorem wd_1855 : Cond.methodLink "GiftDuelModel" 294 ⟨"GiftDuelModel", "binds", "(I)I"⟩ ∈ lw_g := lw_g8 46 rfl rfl
theorem wd_1856 : Cond.static ⟨"GiftDuelModel", "binds", "(I)I"⟩ ∈ lw_g := lw_g8 47 rfl rfl
theorem wd_1857 : Cond.code ⟨"GiftDuelModel", "binds", "(I)I"⟩ prog_14_method_44_code 1 (some .int) ∈ lw_g := lw_g8 48 rfl rfl
theorem wd_1858 : Cond.methodLink "GiftDuelModel" 352 ⟨"GiftDuelModel", "settle", "(I)V"⟩ ∈ lw_g := lw_g8 49 rfl rfl
theorem wd_1860 : Cond.instanceMethod ⟨"GiftDuelModel", "settle", "(I)V"⟩ ∈ lw_g := lw_g8 51 rfl rfl
theorem wd_1861 : Cond.code ⟨"GiftDuelModel", "settle", "(I)V"⟩ prog_14_method_45_code 2 none ∈ lw_g := lw_g8 52 rfl rfl
theorem wd_1862 : Cond.methodLink "GiftDuelModel" 355 ⟨"GiftDuelModel", "inner", "()I"⟩ ∈ lw_g := lw_g8 53 rfl rfl
theorem wd_1864 : Cond.instanceMethod ⟨"GiftDuelModel", "inner", "()I"⟩ ∈ lw_g := lw_g8 55 rfl rfl
theorem wd_1865 : Cond.code ⟨"GiftDuelModel", "inner", "()I"⟩ prog_14_method_46_code 3 (some .int) ∈ lw_g := lw_g8 56 rfl rfl
theorem wd_1866 : Cond.methodLink "GiftDuelModel" 358 ⟨"GiftDuelModel", "isCompared", "()Z"⟩ ∈ lw_g := lw_g8 57 rfl rfl
theorem wd_1868 : Cond.instanceMethod ⟨"GiftDuelModel", "isCompared", "()Z"⟩ ∈ lw_g := lw_g8 59 rfl rfl
theorem wd_1869 : Cond.code ⟨"GiftDuelModel", "isCompared", "()Z"⟩ prog_14_method_47_code 2 (some .boolean) ∈ lw_g := lw_g8 60 rfl rfl
theorem wd_1870 : Cond.constantLong "GiftDuelModel" 301 24 ∈ lw_g := lw_g8 61 rfl rfl
theorem wd_1871 : Cond.constantLong "GiftDuelModel" 303 25 ∈ lw_g := lw_g8 62 rfl rfl
theorem wd_1872 : Cond.constantLong "GiftDuelModel" 305 27 ∈ lw_g := lw_g8 63 rfl rfl
theorem wd_1873 : Cond.methodLink "GiftDuelModel" 373 ⟨"GiftDuelModel", "behindTest", "()I"⟩ ∈ lw_g := lw_g8 64 rfl rfl
theorem wd_1875 : Cond.instanceMethod ⟨"GiftDuelModel", "behindTest", "()I"⟩ ∈ lw_g := lw_g8 66 rfl rfl
theorem wd_1876 : Cond.code ⟨"GiftDuelModel", "behindTest", "()I"⟩ prog_14_method_55_code 2 (some .int) ∈ lw_g := lw_g8 67 rfl rfl
theorem wd_1877 : Cond.constantLong "GiftDuelModel" 362 1476 ∈ lw_g := lw_g8 68 rfl rfl
theorem wd_1878 : Cond.constantLong "GiftDuelModel" 364 498 ∈ lw_g := lw_g8 69 rfl rfl
theorem wd_1879 : Cond.constantLong "GiftDuelModel" 391 294 ∈ lw_g := lw_g8 70 rfl rfl
theorem wd_1880 : Cond.methodLink "GiftDuelModel" 399 ⟨"GiftDuelModel", "endText", "()V"⟩ ∈ lw_g := lw_g8 71 rfl rfl
theorem wd_1882 : Cond.instanceMethod ⟨"GiftDuelModel", "endText", "()V"⟩ ∈ lw_g := lw_g8 73 rfl rfl
theorem wd_1883 : Cond.code ⟨"GiftDuelModel", "endText", "()V"⟩ prog_14_method_58_code 1 none ∈ lw_g := lw_g8 74 rfl rfl
theorem wd_1892 : Cond.constantLong "GiftDuelModel" 443 2 ∈ lw_g := lw_g8 83 rfl rfl
theorem wd_1893 : Cond.methodLink "GiftDuelModel" 445 ⟨"GiftDuelModel", "worthOf", "(III)I"⟩ ∈ lw_g := lw_g8 84 rfl rfl
theorem wd_1895 : Cond.instanceMethod ⟨"GiftDuelModel", "worthOf", "(III)I"⟩ ∈ lw_g := lw_g8 86 rfl rfl
theorem wd_1896 : Cond.code ⟨"GiftDuelModel", "worthOf", "(III)I"⟩ prog_14_method_67_code 4 (some .int) ∈ lw_g := lw_g8 87 rfl rfl
theorem wd_1897 : Cond.methodLink "GiftDuelModel" 448 ⟨"GiftDuelModel", "isBarred", "(III)Z"⟩ ∈ lw_g := lw_g8 88 rfl rfl
theorem wd_1899 : Cond.instanceMethod ⟨"GiftDuelModel", "isBarred", "(III)Z"⟩ ∈ lw_g := lw_g8 90 rfl rfl
theorem wd_1900 : Cond.code ⟨"GiftDuelModel", "isBarred", "(III)Z"⟩ prog_14_method_69_code 4 (some .boolean) ∈ lw_g := lw_g8 91 rfl rfl
theorem wd_1905 : Cond.methodLink "GiftDuelModel" 477 ⟨"GiftDuelModel", "giveNow", "(II)I"⟩ ∈ lw_g := lw_g8 96 rfl rfl
theorem wd_1907 : Cond.instanceMethod ⟨"GiftDuelModel", "giveNow", "(II)I"⟩ ∈ lw_g := lw_g8 98 rfl rfl
theorem wd_1908 : Cond.code ⟨"GiftDuelModel", "giveNow", "(II)I"⟩ prog_14_method_76_code 6 (some .int) ∈ lw_g := lw_g8 99 rfl rfl
theorem wd_1909 : Cond.methodLink "GiftDuelModel" 462 ⟨"GiftDuelModel", "keepRow", "(I)V"⟩ ∈ lw_g := lw_g8 100 rfl rfl
theorem wd_1911 : Cond.instanceMethod ⟨"GiftDuelModel", "keepRow", "(I)V"⟩ ∈ lw_g := lw_g8 102 rfl rfl
theorem wd_1912 : Cond.code ⟨"GiftDuelModel", "keepRow", "(I)V"⟩ prog_14_method_10_code 3 none ∈ lw_g := lw_g8 103 rfl rfl
theorem wd_1913 : Cond.methodLink "GiftDuelModel" 465 ⟨"GiftDuelModel", "gift", "(II)I"⟩ ∈ lw_g := lw_g8 104 rfl rfl
theorem wd_1915 : Cond.instanceMethod ⟨"GiftDuelModel", "gift", "(II)I"⟩ ∈ lw_g := lw_g8 106 rfl rfl
theorem wd_1916 : Cond.code ⟨"GiftDuelModel", "gift", "(II)I"⟩ prog_14_method_73_code 7 (some .int) ∈ lw_g := lw_g8 107 rfl rfl
theorem wd_1917 : Cond.methodLink "GiftDuelModel" 468 ⟨"GiftDuelModel", "remember", "(I)V"⟩ ∈ lw_g := lw_g8 108 rfl rfl
theorem wd_1919 : Cond.instanceMethod ⟨"GiftDuelModel", "remember", "(I)V"⟩ ∈ lw_g := lw_g8 110 rfl rfl
theorem wd_1920 : Cond.code ⟨"GiftDuelModel", "remember", "(I)V"⟩ prog_14_method_75_code 3 none ∈ lw_g := lw_g8 111 rfl rfl
theorem wd_1921 : Cond.methodLink "GiftDuelModel" 471 ⟨"GiftDuelModel", "putBack", "(I)V"⟩ ∈ lw_g := lw_g8 112 rfl rfl
theorem wd_1923 : Cond.instanceMethod ⟨"GiftDuelModel", "putBack", "(I)V"⟩ ∈ lw_g := lw_g8 114 rfl rfl
theorem wd_1924 : Cond.code ⟨"GiftDuelModel", "putBack", "(I)V"⟩ prog_14_method_11_code 3 none ∈ lw_g := lw_g8 115 rfl rfl
theorem wd_1929 : Cond.methodLink "GiftDuelModel" 480 ⟨"GiftDuelModel", "waitNow", "()I"⟩ ∈ lw_g := lw_g8 120 rfl rfl
theorem wd_1931 : Cond.instanceMethod ⟨"GiftDuelModel", "waitNow", "()I"⟩ ∈ lw_g := lw_g8 122 rfl rfl
theorem wd_1932 : Cond.code ⟨"GiftDuelModel", "waitNow", "()I"⟩ prog_14_method_77_code 1 (some .int) ∈ lw_g := lw_g8 123 rfl rfl
theorem wd_1933 : Cond.methodLink "GiftDuelModel" 474 ⟨"GiftDuelModel", "wait1", "()I"⟩ ∈ lw_g := lw_g8 124 rfl rfl
theorem wd_1935 : Cond.instanceMethod ⟨"GiftDuelModel", "wait1", "()I"⟩ ∈ lw_g := lw_g8 126 rfl rfl
theorem wd_1936 : Cond.code ⟨"GiftDuelModel", "wait1", "()I"⟩ prog_14_method_74_code 7 (some .int) ∈ lw_g := lw_g8 127 rfl rfl
theorem wd_1937 : Cond.methodLink "GiftDuelModel" 458 ⟨"GiftDuelModel", "is", "(II)Z"⟩ ∈ lw_g := lw_g8 128 rfl rfl
theorem wd_1938 : Cond.static ⟨"GiftDuelModel", "is", "(II)Z"⟩ ∈ lw_g := lw_g8 129 rfl rfl
theorem wd_1939 : Cond.code ⟨"GiftDuelModel", "is", "(II)Z"⟩ prog_14_method_4_code 2 (some .boolean) ∈ lw_g := lw_g8 130 rfl rfl
theorem wd_1944 : Cond.methodLink "GiftDuelModel" 483 ⟨"GiftDuelModel", "undoRow", "(I)V"⟩ ∈ lw_g := lw_g8 135 rfl rfl
theorem wd_1946 : Cond.instanceMethod ⟨"GiftDuelModel", "undoRow", "(I)V"⟩ ∈ lw_g := lw_g8 137 rfl rfl
theorem wd_1947 : Cond.code ⟨"GiftDuelModel", "undoRow", "(I)V"⟩ prog_14_method_81_code 4 none ∈ lw_g := lw_g8 138 rfl rfl
theorem wd_1960 : Cond.methodLink "GiftDuelModel" 499 ⟨"GiftDuelModel", "layGoods", "(III)V"⟩ ∈ lw_g := lw_g8 151 rfl rfl
theorem wd_1962 : Cond.instanceMethod ⟨"GiftDuelModel", "layGoods", "(III)V"⟩ ∈ lw_g := lw_g8 153 rfl rfl
theorem wd_1963 : Cond.code ⟨"GiftDuelModel", "layGoods", "(III)V"⟩ prog_14_method_84_code 7 none ∈ lw_g := lw_g8 154 rfl rfl
theorem wd_1964 : Cond.methodLink "GiftDuelModel" 503 ⟨"GiftDuelModel", "findWins", "()V"⟩ ∈ lw_g := lw_g8 155 rfl rfl
theorem wd_1966 : Cond.instanceMethod ⟨"GiftDuelModel", "findWins", "()V"⟩ ∈ lw_g := lw_g8 157 rfl rfl
theorem wd_1967 : Cond.code ⟨"GiftDuelModel", "findWins", "()V"⟩ prog_14_method_89_code 6 none ∈ lw_g := lw_g8 158 rfl rfl
theorem wd_1968 : Cond.methodLink "GiftDuelModel" 489 ⟨"GiftDuelModel", "lastOf", "(I)I"⟩ ∈ lw_g := lw_g8 159 rfl rfl
theorem wd_1970 : Cond.instanceMethod ⟨"GiftDuelModel", "lastOf", "(I)I"⟩ ∈ lw_g := lw_g8 161 rfl rfl
theorem wd_1971 : Cond.code ⟨"GiftDuelModel", "lastOf", "(I)I"⟩ prog_14_method_85_code 4 (some .int) ∈ lw_g := lw_g8 162 rfl rfl
theorem wd_1972 : Cond.methodLink "GiftDuelModel" 492 ⟨"GiftDuelModel", "canGive", "(IIII)Z"⟩ ∈ lw_g := lw_g8 163 rfl rfl
theorem wd_1974 : Cond.instanceMethod ⟨"GiftDuelModel", "canGive", "(IIII)Z"⟩ ∈ lw_g := lw_g8 165 rfl rfl
theorem wd_1975 : Cond.code ⟨"GiftDuelModel", "canGive", "(IIII)Z"⟩ prog_14_method_87_code 5 (some .boolean) ∈ lw_g := lw_g8 166 rfl rfl
theorem wd_1976 : Cond.methodLink "GiftDuelModel" 496 ⟨"GiftDuelModel", "isWon", "(III)Z"⟩ ∈ lw_g := lw_g8 167 rfl rfl
theorem wd_1978 : Cond.instanceMethod ⟨"GiftDuelModel", "isWon", "(III)Z"⟩ ∈ lw_g := lw_g8 169 rfl rfl
theorem wd_1979 : Cond.code ⟨"GiftDuelModel", "isWon", "(III)Z"⟩ prog_14_method_88_code 4 (some .boolean) ∈ lw_g := lw_g8 170 rfl rfl
theorem wd_1980 : Cond.methodLink "GiftDuelModel" 486 ⟨"GiftDuelModel", "grainLeft", "(II)I"⟩ ∈ lw_g := lw_g8 171 rfl rfl
theorem wd_1982 : Cond.instanceMethod ⟨"GiftDuelModel", "grainLeft", "(II)I"⟩ ∈ lw_g := lw_g8 173 rfl rfl
theorem wd_1983 : Cond.code ⟨"GiftDuelModel", "grainLeft", "(II)I"⟩ prog_14_method_86_code 5 (some .int) ∈ lw_g := lw_g8 174 rfl rfl
theorem wd_1984 : Cond.methodLink "GiftDuelModel" 506 ⟨"GiftDuelModel", "playOf", "()I"⟩ ∈ lw_g := lw_g8 175 rfl rfl
theorem wd_1986 : Cond.instanceMethod ⟨"GiftDuelModel", "playOf", "()I"⟩ ∈ lw_g := lw_g8 177 rfl rfl
theorem wd_1987 : Cond.code ⟨"GiftDuelModel", "playOf", "()I"⟩ prog_14_method_91_code 10 (some .int) ∈ lw_g := lw_g8 178 rfl rfl
theorem wd_1992 : Cond.methodLink "GiftDuelModel" 509 ⟨"GiftDuelModel", "layYears", "(II)V"⟩ ∈ lw_g := lw_g8 183 rfl rfl
theorem wd_1994 : Cond.instanceMethod ⟨"GiftDuelModel", "layYears", "(II)V"⟩ ∈ lw_g := lw_g8 185 rfl rfl
theorem wd_1995 : Cond.code ⟨"GiftDuelModel", "layYears", "(II)V"⟩ prog_14_method_93_code 4 none ∈ lw_g := lw_g8 186 rfl rfl
theorem wd_1996 : Cond.methodLink "GiftDuelModel" 512 ⟨"GiftDuelModel", "ruinedIn", "(III)I"⟩ ∈ lw_g := lw_g8 187 rfl rfl
theorem wd_1998 : Cond.instanceMethod ⟨"GiftDuelModel", "ruinedIn", "(III)I"⟩ ∈ lw_g := lw_g8 189 rfl rfl
theorem wd_1999 : Cond.code ⟨"GiftDuelModel", "ruinedIn", "(III)I"⟩ prog_14_method_92_code 8 (some .int) ∈ lw_g := lw_g8 190 rfl rfl
theorem wd_2004 : Cond.constant "GiftDuelModel" 515 100000000 ∈ lw_g := lw_g8 195 rfl rfl
theorem wd_2005 : Cond.methodLink "GiftDuelModel" 516 ⟨"GiftDuelModel", "ones", "(I)I"⟩ ∈ lw_g := lw_g8 196 rfl rfl
theorem wd_2006 : Cond.static ⟨"GiftDuelModel", "ones", "(I)I"⟩ ∈ lw_g := lw_g8 197 rfl rfl
theorem wd_2007 : Cond.code ⟨"GiftDuelModel", "ones", "(I)I"⟩ prog_14_method_6_code 3 (some .int) ∈ lw_g := lw_g8 198 rfl rfl
theorem wd_2016 : Cond.methodLink "GiftDuelModel" 522 ⟨"GiftDuelModel", "middle", "(III)I"⟩ ∈ lw_g := lw_g8 207 rfl rfl
theorem wd_2018 : Cond.instanceMethod ⟨"GiftDuelModel", "middle", "(III)I"⟩ ∈ lw_g := lw_g8 209 rfl rfl
theorem wd_2019 : Cond.code ⟨"GiftDuelModel", "middle", "(III)I"⟩ prog_14_method_98_code 8 (some .int) ∈ lw_g := lw_g8 210 rfl rfl
theorem wd_2020 : Cond.methodLink "GiftDuelModel" 519 ⟨"GiftDuelModel", "toldBy", "(II)I"⟩ ∈ lw_g := lw_g8 211 rfl rfl
theorem wd_2022 : Cond.instanceMethod ⟨"GiftDuelModel", "toldBy", "(II)I"⟩ ∈ lw_g := lw_g8 213 rfl rfl
theorem wd_2023 : Cond.code ⟨"GiftDuelModel", "toldBy", "(II)I"⟩ prog_14_method_97_code 3 (some .int) ∈ lw_g := lw_g8 214 rfl rfl
theorem wd_2032 : Cond.constantLong "GiftDuelModel" 525 30 ∈ lw_g := lw_g8 223 rfl rfl
theorem wd_2037 : Cond.constantLong "GiftDuelModel" 548 8 ∈ lw_g := lw_g8 228 rfl rfl
theorem wd_2038 : Cond.methodLink "GiftDuelModel" 550 ⟨"GiftDuelModel", "findWay", "(II)V"⟩ ∈ lw_g := lw_g8 229 rfl rfl
theorem wd_2040 : Cond.instanceMethod ⟨"GiftDuelModel", "findWay", "(II)V"⟩ ∈ lw_g := lw_g8 231 rfl rfl
theorem wd_2041 : Cond.code ⟨"GiftDuelModel", "findWay", "(II)V"⟩ prog_14_method_105_code 4 none ∈ lw_g := lw_g8 232 rfl rfl
theorem wd_2042 : Cond.methodLink "GiftDuelModel" 542 ⟨"GiftDuelModel", "weighWay", "(I)V"⟩ ∈ lw_g := lw_g8 233 rfl rfl
theorem wd_2044 : Cond.instanceMethod ⟨"GiftDuelModel", "weighWay", "(I)V"⟩ ∈ lw_g := lw_g8 235 rfl rfl
theorem wd_2045 : Cond.code ⟨"GiftDuelModel", "weighWay", "(I)V"⟩ prog_14_method_102_code 6 none ∈ lw_g := lw_g8 236 rfl rfl
theorem wd_2048 : Cond.methodLink "GiftDuelModel" 536 ⟨"GiftDuelModel", "isAhead", "(I)Z"⟩ ∈ lw_g := lw_g8 239 rfl rfl
theorem wd_2050 : Cond.instanceMethod ⟨"GiftDuelModel", "isAhead", "(I)Z"⟩ ∈ lw_g := lw_g9 1 rfl rfl
theorem wd_2051 : Cond.code ⟨"GiftDuelModel", "isAhead", "(I)Z"⟩ prog_14_method_103_code 3 (some .boolean) ∈ lw_g := lw_g9 2 rfl rfl
theorem wd_2052 : Cond.methodLink "GiftDuelModel" 545 ⟨"GiftDuelModel", "goesOn", "(II)Z"⟩ ∈ lw_g := lw_g9 3 rfl rfl
theorem wd_2054 : Cond.instanceMethod ⟨"GiftDuelModel", "goesOn", "(II)Z"⟩ ∈ lw_g := lw_g9 5 rfl rfl
theorem wd_2055 : Cond.code ⟨"GiftDuelModel", "goesOn", "(II)Z"⟩ prog_14_method_104_code 8 (some .boolean) ∈ lw_g := lw_g9 6 rfl rfl
theorem wd_2060 : Cond.methodLink "GiftDuelModel" 565 ⟨"GiftDuelModel", "findRing", "()V"⟩ ∈ lw_g := lw_g9 11 rfl rfl
theorem wd_2062 : Cond.instanceMethod ⟨"GiftDuelModel", "findRing", "()V"⟩ ∈ lw_g := lw_g9 13 rfl rfl
theorem wd_2063 : Cond.code ⟨"GiftDuelModel", "findRing", "()V"⟩ prog_14_method_109_code 3 none ∈ lw_g := lw_g9 14 rfl rfl
theorem wd_2064 : Cond.methodLink "GiftDuelModel" 559 ⟨"GiftDuelModel", "isFresh", "(I)Z"⟩ ∈ lw_g := lw_g9 15 rfl rfl
theorem wd_2066 : Cond.instanceMethod ⟨"GiftDuelModel", "isFresh", "(I)Z"⟩ ∈ lw_g := lw_g9 17 rfl rfl
theorem wd_2067 : Cond.code ⟨"GiftDuelModel", "isFresh", "(I)Z"⟩ prog_14_method_108_code 4 (some .boolean) ∈ lw_g := lw_g9 18 rfl rfl
theorem wd_2068 : Cond.methodLink "GiftDuelModel" 562 ⟨"GiftDuelModel", "weighRing", "(I)V"⟩ ∈ lw_g := lw_g9 19 rfl rfl
theorem wd_2070 : Cond.instanceMethod ⟨"GiftDuelModel", "weighRing", "(I)V"⟩ ∈ lw_g := lw_g9 21 rfl rfl
theorem wd_2071 : Cond.code ⟨"GiftDuelModel", "weighRing", "(I)V"⟩ prog_14_method_107_code 4 none ∈ lw_g := lw_g9 22 rfl rfl
theorem wd_2080 : Cond.methodLink "GiftDuelModel" 580 ⟨"GiftDuelModel", "findGifts", "(I)V"⟩ ∈ lw_g := lw_g9 31 rfl rfl
theorem wd_2082 : Cond.instanceMethod ⟨"GiftDuelModel", "findGifts", "(I)V"⟩ ∈ lw_g := lw_g9 33 rfl rfl
theorem wd_2083 : Cond.code ⟨"GiftDuelModel", "findGifts", "(I)V"⟩ prog_14_method_115_code 6 none ∈ lw_g := lw_g9 34 rfl rfl
theorem wd_2084 : Cond.methodLink "GiftDuelModel" 571 ⟨"GiftDuelModel", "isTold", "()Z"⟩ ∈ lw_g := lw_g9 35 rfl rfl
theorem wd_2086 : Cond.instanceMethod ⟨"GiftDuelModel", "isTold", "()Z"⟩ ∈ lw_g := lw_g9 37 rfl rfl
theorem wd_2087 : Cond.code ⟨"GiftDuelModel", "isTold", "()Z"⟩ prog_14_method_112_code 3 (some .boolean) ∈ lw_g := lw_g9 38 rfl rfl
theorem wd_2088 : Cond.methodLink "GiftDuelModel" 574 ⟨"GiftDuelModel", "keepGifts", "(I)V"⟩ ∈ lw_g := lw_g9 39 rfl rfl
theorem wd_2090 : Cond.instanceMethod ⟨"GiftDuelModel", "keepGifts", "(I)V"⟩ ∈ lw_g := lw_g9 41 rfl rfl
theorem wd_2091 : Cond.code ⟨"GiftDuelModel", "keepGifts", "(I)V"⟩ prog_14_method_114_code 3 none ∈ lw_g := lw_g9 42 rfl rfl
theorem wd_2092 : Cond.methodLink "GiftDuelModel" 577 ⟨"GiftDuelModel", "canBe", "(I)Z"⟩ ∈ lw_g := lw_g9 43 rfl rfl
theorem wd_2094 : Cond.instanceMethod ⟨"GiftDuelModel", "canBe", "(I)Z"⟩ ∈ lw_g := lw_g9 45 rfl rfl
theorem wd_2095 : Cond.code ⟨"GiftDuelModel", "canBe", "(I)Z"⟩ prog_14_method_113_code 5 (some .boolean) ∈ lw_g := lw_g9 46 rfl rfl
theorem wd_2104 : Cond.methodLink "GiftDuelModel" 605 ⟨"GiftDuelModel", "readOrder", "()V"⟩ ∈ lw_g := lw_g9 55 rfl rfl
theorem wd_2106 : Cond.instanceMethod ⟨"GiftDuelModel", "readOrder", "()V"⟩ ∈ lw_g := lw_g9 57 rfl rfl
theorem wd_2107 : Cond.code ⟨"GiftDuelModel", "readOrder", "()V"⟩ prog_14_method_119_code 3 none ∈ lw_g := lw_g9 58 rfl rfl
theorem wd_2108 : Cond.constantLong "GiftDuelModel" 583 239301 ∈ lw_g := lw_g9 59 rfl rfl
theorem wd_2109 : Cond.constantLong "GiftDuelModel" 585 754996 ∈ lw_g := lw_g9 60 rfl rfl
theorem wd_2110 : Cond.methodLink "GiftDuelModel" 587 ⟨"GiftDuelModel", "readSum", "(I)V"⟩ ∈ lw_g := lw_g9 61 rfl rfl
theorem wd_2112 : Cond.instanceMethod ⟨"GiftDuelModel", "readSum", "(I)V"⟩ ∈ lw_g := lw_g9 63 rfl rfl
theorem wd_2113 : Cond.code ⟨"GiftDuelModel", "readSum", "(I)V"⟩ prog_14_method_118_code 2 none ∈ lw_g := lw_g9 64 rfl rfl
theorem wd_2114 : Cond.constantLong "GiftDuelModel" 590 21279923 ∈ lw_g := lw_g9 65 rfl rfl
theorem wd_2115 : Cond.methodLink "GiftDuelModel" 608 ⟨"GiftDuelModel", "run", "(I)I"⟩ ∈ lw_g := lw_g9 66 rfl rfl
theorem wd_2117 : Cond.instanceMethod ⟨"GiftDuelModel", "run", "(I)I"⟩ ∈ lw_g := lw_g9 68 rfl rfl
theorem wd_2118 : Cond.code ⟨"GiftDuelModel", "run", "(I)I"⟩ prog_14_method_121_code 7 (some .int) ∈ lw_g := lw_g9 69 rfl rfl
theorem wd_2119 : Cond.methodLink "GiftDuelModel" 601 ⟨"GiftDuelModel", "sumOf", "(I)J"⟩ ∈ lw_g := lw_g9 70 rfl rfl
theorem wd_2121 : Cond.instanceMethod ⟨"GiftDuelModel", "sumOf", "(I)J"⟩ ∈ lw_g := lw_g9 72 rfl rfl
theorem wd_2122 : Cond.code ⟨"GiftDuelModel", "sumOf", "(I)J"⟩ prog_14_method_120_code 2 (some .long) ∈ lw_g := lw_g9 73 rfl rfl
theorem wd_2131 : Cond.constantLong "GiftDuelModel" 620 50 ∈ lw_g := lw_g9 82 rfl rfl
theorem wd_2132 : Cond.methodLink "GiftDuelModel" 622 ⟨"GiftDuelModel", "draw", "(I)I"⟩ ∈ lw_g := lw_g9 83 rfl rfl
theorem wd_2134 : Cond.instanceMethod ⟨"GiftDuelModel", "draw", "(I)I"⟩ ∈ lw_g := lw_g9 85 rfl rfl
theorem wd_2135 : Cond.code ⟨"GiftDuelModel", "draw", "(I)I"⟩ prog_14_method_124_code 2 (some .int) ∈ lw_g := lw_g9 86 rfl rfl
theorem wd_2136 : Cond.constantLong "GiftDuelModel" 614 1103 ∈ lw_g := lw_g9 87 rfl rfl
theorem wd_2137 : Cond.constantLong "GiftDuelModel" 616 12345 ∈ lw_g := lw_g9 88 rfl rfl
theorem wd_2138 : Cond.constantLong "GiftDuelModel" 618 1000003 ∈ lw_g := lw_g9 89 rfl rfl
theorem wd_2143 : Cond.constantLong "GiftDuelModel" 628 6 ∈ lw_g := lw_g9 94 rfl rfl
theorem wd_2148 : Cond.methodLink "GiftDuelModel" 630 ⟨"GiftDuelModel", "allDebts", "()I"⟩ ∈ lw_g := lw_g9 99 rfl rfl
theorem wd_2150 : Cond.instanceMethod ⟨"GiftDuelModel", "allDebts", "()I"⟩ ∈ lw_g := lw_g9 101 rfl rfl
theorem wd_2151 : Cond.code ⟨"GiftDuelModel", "allDebts", "()I"⟩ prog_14_method_128_code 3 (some .int) ∈ lw_g := lw_g9 102 rfl rfl
theorem wd_2152 : Cond.constantLong "GiftDuelModel" 633 14 ∈ lw_g := lw_g9 103 rfl rfl
theorem wd_2153 : Cond.constantLong "GiftDuelModel" 635 16 ∈ lw_g := lw_g9 104 rfl rfl
theorem bp_10 : (Int8.ofInt 10).toInt32 = Int32.ofInt 10 := by decide +kernel
theorem bp_11 : (Int8.ofInt 11).toInt32 = Int32.ofInt 11 := by decide +kernel
theorem bp_119 : (Int8.ofInt 119).toInt32 = Int32.ofInt 119 := by decide +kernel
theorem bp_12 : (Int8.ofInt 12).toInt32 = Int32.ofInt 12 := by decide +kernel
theorem bp_122 : (Int8.ofInt 122).toInt32 = Int32.ofInt 122 := by decide +kernel
theorem bp_14 : (Int8.ofInt 14).toInt32 = Int32.ofInt 14 := by decide +kernel
theorem bp_15 : (Int8.ofInt 15).toInt32 = Int32.ofInt 15 := by decide +kernel
theorem bp_16 : (Int8.ofInt 16).toInt32 = Int32.ofInt 16 := by decide +kernel
theorem bp_17 : (Int8.ofInt 17).toInt32 = Int32.ofInt 17 := by decide +kernel
theorem bp_20 : (Int8.ofInt 20).toInt32 = Int32.ofInt 20 := by decide +kernel
theorem bp_21 : (Int8.ofInt 21).toInt32 = Int32.ofInt 21 := by decide +kernel
theorem bp_22 : (Int8.ofInt 22).toInt32 = Int32.ofInt 22 := by decide +kernel
theorem bp_23 : (Int8.ofInt 23).toInt32 = Int32.ofInt 23 := by decide +kernel
theorem bp_24 : (Int8.ofInt 24).toInt32 = Int32.ofInt 24 := by decide +kernel
theorem bp_25 : (Int8.ofInt 25).toInt32 = Int32.ofInt 25 := by decide +kernel
theorem bp_26 : (Int8.ofInt 26).toInt32 = Int32.ofInt 26 := by decide +kernel
theorem bp_27 : (Int8.ofInt 27).toInt32 = Int32.ofInt 27 := by decide +kernel
theorem bp_28 : (Int8.ofInt 28).toInt32 = Int32.ofInt 28 := by decide +kernel
theorem bp_29 : (Int8.ofInt 29).toInt32 = Int32.ofInt 29 := by decide +kernel
theorem bp_30 : (Int8.ofInt 30).toInt32 = Int32.ofInt 30 := by decide +kernel
theorem bp_31 : (Int8.ofInt 31).toInt32 = Int32.ofInt 31 := by decide +kernel
theorem bp_32 : (Int8.ofInt 32).toInt32 = Int32.ofInt 32 := by decide +kernel
theorem bp_36 : (Int8.ofInt 36).toInt32 = Int32.ofInt 36 := by decide +kernel
theorem bp_37 : (Int8.ofInt 37).toInt32 = Int32.ofInt 37 := by decide +kernel
theorem bp_39 : (Int8.ofInt 39).toInt32 = Int32.ofInt 39 := by decide +kernel
theorem bp_40 : (Int8.ofInt 40).toInt32 = Int32.ofInt 40 := by decide +kernel
theorem bp_41 : (Int8.ofInt 41).toInt32 = Int32.ofInt 41 := by decide +kernel
theorem bp_42 : (Int8.ofInt 42).toInt32 = Int32.ofInt 42 := by decide +kernel
theorem bp_43 : (Int8.ofInt 43).toInt32 = Int32.ofInt 43 := by decide +kernel
theorem bp_45 : (Int8.ofInt 45).toInt32 = Int32.ofInt 45 := by decide +kernel
theorem bp_47 : (Int8.ofInt 47).toInt32 = Int32.ofInt 47 := by decide +kernel
theorem bp_48 : (Int8.ofInt 48).toInt32 = Int32.ofInt 48 := by decide +kernel
theorem bp_50 : (Int8.ofInt 50).toInt32 = Int32.ofInt 50 := by decide +kernel
theorem bp_57 : (Int8.ofInt 57).toInt32 = Int32.ofInt 57 := by decide +kernel
theorem bp_59 : (Int8.ofInt 59).toInt32 = Int32.ofInt 59 := by decide +kernel
theorem bp_6 : (Int8.ofInt 6).toInt32 = Int32.ofInt 6 := by decide +kernel
theorem bp_60 : (Int8.ofInt 60).toInt32 = Int32.ofInt 60 := by decide +kernel
theorem bp_61 : (Int8.ofInt 61).toInt32 = Int32.ofInt 61 := by decide +kernel
theorem bp_62 : (Int8.ofInt 62).toInt32 = Int32.ofInt 62 := by decide +kernel
theorem bp_63 : (Int8.ofInt 63).toInt32 = Int32.ofInt 63 := by decide +kernel
theorem bp_7 : (Int8.ofInt 7).toInt32 = Int32.ofInt 7 := by decide +kernel
theorem bp_8 : (Int8.ofInt 8).toInt32 = Int32.ofInt 8 := by decide +kernel
theorem bp_9 : (Int8.ofInt 9).toInt32 = Int32.ofInt 9 := by decide +kernel
theorem bp_91 : (Int8.ofInt 91).toInt32 = Int32.ofInt 91 := by decide +kernel
theorem bp_93 : (Int8.ofInt 93).toInt32 = Int32.ofInt 93 := by decide +kernel
theorem bp_97 : (Int8.ofInt 97).toInt32 = Int32.ofInt 97 := by decide +kernel
theorem bp_98 : (Int8.ofInt 98).toInt32 = Int32.ofInt 98 := by decide +kernel
theorem bp_99 : (Int8.ofInt 99).toInt32 = Int32.ofInt 99 := by decide +kernel
theorem bp_m2 : (Int8.ofInt (-2)).toInt32 = Int32.ofInt (-2) := by decide +kernel
theorem bp_m3 : (Int8.ofInt (-3)).toInt32 = Int32.ofInt (-3) := by decide +kernel
theorem bp_m5 : (Int8.ofInt (-5)).toInt32 = Int32.ofInt (-5) := by decide +kernel
theorem bp_m6 : (Int8.ofInt (-6)).toInt32 = Int32.ofInt (-6) := by decide +kernel
theorem cs_RJ7_13 : m_CS RJ7 13 yJ7_rangeCheck_23922 := ⟨wd_170, wd_171⟩
theorem cs_RX0_101 : m_CS RX0 101 yX0_loseOld := ⟨wd_955, wd_956⟩
theorem cs_RX0_52 : m_CS RX0 52 yX0_challenge := ⟨wd_989, wd_990⟩
theorem cs_RX0_97 : m_CS RX0 97 yX0_dropAllOf := ⟨wd_948, wd_949⟩
theorem cs_RX10_25 : m_CS RX10 25 yJ7_fill_fda19 := ⟨wd_167, wd_168⟩
theorem cs_RX11_100 : m_CS RX11 100 yX11_within := ⟨wd_512, wd_513⟩
theorem cs_RX12_179 : m_CS RX12 179 yX12_in := ⟨wd_1618, wd_1619⟩
theorem cs_RX12_263 : m_CS RX12 263 yX12_isSmall := ⟨wd_1778, wd_1779⟩
theorem cs_RX12_266 : m_CS RX12 266 yX12_isDigit := ⟨wd_1781, wd_1782⟩
theorem cs_RX12_294 : m_CS RX12 294 yX12_binds := ⟨wd_1855, wd_1856⟩
theorem cs_RX12_439 : m_CS RX12 439 yX12_within := ⟨wd_1706, wd_1707⟩
theorem cs_RX12_452 : m_CS RX12 452 yX12_debtAt := ⟨wd_1697, wd_1698⟩
theorem cs_RX12_458 : m_CS RX12 458 yX12_is := ⟨wd_1937, wd_1938⟩
theorem cs_RX12_516 : m_CS RX12 516 yX12_ones := ⟨wd_2005, wd_2006⟩
theorem cs_RX5_72 : m_CS RX5 72 yX5_isLetter := ⟨wd_705, wd_706⟩
theorem cs_RX5_80 : m_CS RX5 80 yX5_isDigit := ⟨wd_761, wd_762⟩
theorem cs_RX6_80 : m_CS RX6 80 yJ7_fill_53178 := ⟨wd_1292, wd_1228⟩
theorem cs_RX6_86 : m_CS RX6 86 yX6_chosen := ⟨wd_1293, wd_1294⟩
theorem cs_RX7_70 : m_CS RX7 70 yJ6_bitCount_0f7a4 := ⟨wd_1157, wd_1158⟩
theorem cs_RX8_32 : m_CS RX8 32 yJ7_fill_fda19 := ⟨wd_781, wd_168⟩
theorem cs_RX9_61 : m_CS RX9 61 yJ7_fill_53178 := ⟨wd_1227, wd_1228⟩
theorem cs_RX9_76 : m_CS RX9 76 yJ6_bitCount_0f7a4 := ⟨wd_1248, wd_1158⟩
theorem cs_RX9_81 : m_CS RX9 81 yJ6_numberOfTrailingZeros_0f7a4 := ⟨wd_1249, wd_1250⟩
theorem cv_RX0_104 : m_CV RX0 104 yX10_copyFrom := ⟨wd_1319, wd_889, wd_890⟩
theorem cv_RX0_108 : m_CV RX0 108 yX0_draw := ⟨wd_1320, wd_1322, wd_48⟩
theorem cv_RX0_111 : m_CV RX0 111 yX0_mayGive := ⟨wd_1327, wd_969, wd_970⟩
theorem cv_RX0_115 : m_CV RX0 115 yX0_hand := ⟨wd_1328, wd_978, wd_979⟩
theorem cv_RX0_118 : m_CV RX0 118 yX0_passYear := ⟨wd_1329, wd_933, wd_934⟩
theorem cv_RX0_26 : m_CV RX0 26 yX10_goodAt := ⟨wd_972, wd_553, wd_554⟩
theorem cv_RX0_30 : m_CV RX0 30 yX10_isRuined := ⟨wd_944, wd_945, wd_946⟩
theorem cv_RX0_34 : m_CV RX0 34 yX2_bars := ⟨wd_973, wd_974, wd_975⟩
theorem cv_RX0_40 : m_CV RX0 40 yX2_worth := ⟨wd_981, wd_982, wd_983⟩
theorem cv_RX0_44 : m_CV RX0 44 yX10_setGood := ⟨wd_985, wd_986, wd_987⟩
theorem cv_RX0_48 : m_CV RX0 48 yX10_oneMoreOf := ⟨wd_963, wd_964, wd_965⟩
theorem cv_RX0_56 : m_CV RX0 56 yX10_worthOwed := ⟨wd_958, wd_917, wd_918⟩
theorem cv_RX0_59 : m_CV RX0 59 yX10_settle := ⟨wd_951, wd_952, wd_953⟩
theorem cv_RX0_62 : m_CV RX0 62 yX10_term := ⟨wd_936, wd_544, wd_545⟩
theorem cv_RX0_66 : m_CV RX0 66 yX10_stand := ⟨wd_992, wd_993, wd_994⟩
theorem cv_RX0_75 : m_CV RX0 75 yX10_since := ⟨wd_959, wd_960, wd_961⟩
theorem cv_RX0_78 : m_CV RX0 78 yX10_setTerm := ⟨wd_937, wd_646, wd_647⟩
theorem cv_RX0_81 : m_CV RX0 81 yX10_many := ⟨wd_938, wd_520, wd_521⟩
theorem cv_RX0_84 : m_CV RX0 84 yX10_lordAt := ⟨wd_939, wd_602, wd_603⟩
theorem cv_RX0_90 : m_CV RX0 90 yX2_upkeep := ⟨wd_941, wd_548, wd_549⟩
theorem cv_RX0_94 : m_CV RX0 94 yX10_setLord := ⟨wd_943, wd_617, wd_618⟩
theorem cv_RX10_37 : m_CV RX10 37 yX10_lordAt := ⟨wd_601, wd_602, wd_603⟩
theorem cv_RX10_41 : m_CV RX10 41 yX10_held := ⟨wd_605, wd_607, wd_5⟩
theorem cv_RX10_45 : m_CV RX10 45 yX10_many := ⟨wd_609, wd_520, wd_521⟩
theorem cv_RX10_48 : m_CV RX10 48 yX10_goodAt := ⟨wd_610, wd_553, wd_554⟩
theorem cv_RX10_51 : m_CV RX10 51 yX10_worthOwed := ⟨wd_916, wd_917, wd_918⟩
theorem cv_RX10_54 : m_CV RX10 54 yX10_standingAgainst := ⟨wd_1363, wd_913, wd_914⟩
theorem cv_RX11_104 : m_CV RX11 104 yX11_refuse := ⟨wd_515, wd_517, wd_0⟩
theorem cv_RX11_108 : m_CV RX11 108 yX10_many := ⟨wd_519, wd_520, wd_521⟩
theorem cv_RX11_111 : m_CV RX11 111 yX4_clear := ⟨wd_523, wd_524, wd_525⟩
theorem cv_RX11_114 : m_CV RX11 114 yX10_addLord := ⟨wd_527, wd_528, wd_529⟩
theorem cv_RX11_118 : m_CV RX11 118 yX11_accept := ⟨wd_531, wd_533, wd_1⟩
theorem cv_RX11_121 : m_CV RX11 121 yX10_isLord := ⟨wd_539, wd_540, wd_541⟩
theorem cv_RX11_125 : m_CV RX11 125 yX10_term := ⟨wd_543, wd_544, wd_545⟩
theorem cv_RX11_128 : m_CV RX11 128 yX2_upkeep := ⟨wd_547, wd_548, wd_549⟩
theorem cv_RX11_132 : m_CV RX11 132 yX10_seenOf := ⟨wd_597, wd_598, wd_599⟩
theorem cv_RX11_135 : m_CV RX11 135 yX10_lordAt := ⟨wd_615, wd_602, wd_603⟩
theorem cv_RX11_138 : m_CV RX11 138 yX10_setLord := ⟨wd_616, wd_617, wd_618⟩
theorem cv_RX11_142 : m_CV RX11 142 yX10_addGood := ⟨wd_624, wd_625, wd_626⟩
theorem cv_RX11_146 : m_CV RX11 146 yX10_isGood := ⟨wd_632, wd_633, wd_634⟩
theorem cv_RX11_149 : m_CV RX11 149 yX10_goodAt := ⟨wd_636, wd_553, wd_554⟩
theorem cv_RX11_152 : m_CV RX11 152 yX2_costs := ⟨wd_637, wd_638, wd_639⟩
theorem cv_RX11_156 : m_CV RX11 156 yX10_setTerm := ⟨wd_645, wd_646, wd_647⟩
theorem cv_RX11_160 : m_CV RX11 160 yX5_hasRoom := ⟨wd_653, wd_654, wd_655⟩
theorem cv_RX11_163 : m_CV RX11 163 yX5_append := ⟨wd_657, wd_658, wd_659⟩
theorem cv_RX11_167 : m_CV RX11 167 yX5_length := ⟨wd_661, wd_662, wd_663⟩
theorem cv_RX11_171 : m_CV RX11 171 yX5_cut := ⟨wd_669, wd_670, wd_671⟩
theorem cv_RX11_174 : m_CV RX11 174 yX5_byteAt := ⟨wd_677, wd_678, wd_679⟩
theorem cv_RX11_177 : m_CV RX11 177 yX11_comes := ⟨wd_681, wd_683, wd_6⟩
theorem cv_RX11_180 : m_CV RX11 180 yX5_reads := ⟨wd_693, wd_694, wd_695⟩
theorem cv_RX11_184 : m_CV RX11 184 yX5_text := ⟨wd_858, wd_859, wd_860⟩
theorem cv_RX11_197 : m_CV RX11 197 yX3_forget := ⟨wd_880, wd_881, wd_882⟩
theorem cv_RX11_200 : m_CV RX11 200 yX3_run := ⟨wd_884, wd_885, wd_886⟩
theorem cv_RX11_204 : m_CV RX11 204 yX5_faultPlace := ⟨wd_1000, wd_1001, wd_1002⟩
theorem cv_RX11_207 : m_CV RX11 207 yX3_stoppedAt := ⟨wd_1008, wd_1009, wd_1010⟩
theorem cv_RX11_210 : m_CV RX11 210 yX10_inForce := ⟨wd_1016, wd_1017, wd_1018⟩
theorem cv_RX11_213 : m_CV RX11 213 yX10_setForce := ⟨wd_1020, wd_1021, wd_1022⟩
theorem cv_RX11_216 : m_CV RX11 216 yX2_worth := ⟨wd_1028, wd_982, wd_983⟩
theorem cv_RX11_219 : m_CV RX11 219 yX2_bars := ⟨wd_1029, wd_974, wd_975⟩
theorem cv_RX11_223 : m_CV RX11 223 yX0_mayGive := ⟨wd_1034, wd_969, wd_970⟩
theorem cv_RX11_227 : m_CV RX11 227 yX4_keep := ⟨wd_1035, wd_924, wd_925⟩
theorem cv_RX11_231 : m_CV RX11 231 yX0_hand := ⟨wd_1036, wd_978, wd_979⟩
theorem cv_RX11_234 : m_CV RX11 234 yX0_passYear := ⟨wd_1041, wd_933, wd_934⟩
theorem cv_RX11_238 : m_CV RX11 238 yX4_takeBack := ⟨wd_1046, wd_1047, wd_1048⟩
theorem cv_RX11_242 : m_CV RX11 242 yX10_worthOwed := ⟨wd_1058, wd_917, wd_918⟩
theorem cv_RX11_245 : m_CV RX11 245 yX10_since := ⟨wd_1059, wd_960, wd_961⟩
theorem cv_RX11_248 : m_CV RX11 248 yX10_standingAgainst := ⟨wd_1064, wd_913, wd_914⟩
theorem cv_RX11_251 : m_CV RX11 251 yX10_greatestCreditor := ⟨wd_1065, wd_1066, wd_1067⟩
theorem cv_RX11_254 : m_CV RX11 254 yX1_answer := ⟨wd_1073, wd_1074, wd_1075⟩
theorem cv_RX11_257 : m_CV RX11 257 yX7_fallOf := ⟨wd_1119, wd_1120, wd_1121⟩
theorem cv_RX11_260 : m_CV RX11 260 yX7_answer := ⟨wd_1132, wd_1133, wd_1134⟩
theorem cv_RX11_263 : m_CV RX11 263 yX10_addHerald := ⟨wd_1171, wd_1172, wd_1173⟩
theorem cv_RX11_266 : m_CV RX11 266 yX2_middle := ⟨wd_1179, wd_1180, wd_1181⟩
theorem cv_RX11_269 : m_CV RX11 269 yX2_voice := ⟨wd_1191, wd_1188, wd_1189⟩
theorem cv_RX11_272 : m_CV RX11 272 yX2_cheapestBribe := ⟨wd_1196, wd_1197, wd_1198⟩
theorem cv_RX11_275 : m_CV RX11 275 yX10_addRoad := ⟨wd_1209, wd_1210, wd_1211⟩
theorem cv_RX11_279 : m_CV RX11 279 yX9_answer := ⟨wd_1217, wd_1218, wd_1219⟩
theorem cv_RX11_280 : m_CV RX11 280 yX9_ofRing := ⟨wd_1244, wd_1245, wd_1246⟩
theorem cv_RX11_283 : m_CV RX11 283 yX10_toldHolder := ⟨wd_1262, wd_1263, wd_1264⟩
theorem cv_RX11_286 : m_CV RX11 286 yX10_tellHolder := ⟨wd_1266, wd_1267, wd_1268⟩
theorem cv_RX11_289 : m_CV RX11 289 yX6_answer := ⟨wd_1274, wd_1275, wd_1276⟩
theorem cv_RX11_291 : m_CV RX11 291 yX6_beating := ⟨wd_1304, wd_1305, wd_1306⟩
theorem cv_RX11_295 : m_CV RX11 295 yX0_playOut := ⟨wd_1315, wd_1316, wd_1317⟩
theorem cv_RX11_298 : m_CV RX11 298 yX0_latestDrawn := ⟨wd_1334, wd_1335, wd_1336⟩
theorem cv_RX11_302 : m_CV RX11 302 yX10_copyFrom := ⟨wd_1342, wd_889, wd_890⟩
theorem cv_RX11_306 : m_CV RX11 306 yX10_markKept := ⟨wd_1343, wd_1344, wd_1345⟩
theorem cv_RX11_309 : m_CV RX11 309 yX10_isKept := ⟨wd_1351, wd_1352, wd_1353⟩
theorem cv_RX11_313 : m_CV RX11 313 yX10_standing := ⟨wd_1359, wd_1360, wd_1361⟩
theorem cv_RX11_316 : m_CV RX11 316 yX4_size := ⟨wd_1364, wd_1365, wd_1366⟩
theorem cv_RX12_175 : m_CV RX12 175 yX12_tell := ⟨wd_1621, wd_1623, wd_49⟩
theorem cv_RX12_183 : m_CV RX12 183 yX12_settled := ⟨wd_1629, wd_1631, wd_50⟩
theorem cv_RX12_190 : m_CV RX12 190 yX12_ofGood := ⟨wd_1656, wd_1658, wd_54⟩
theorem cv_RX12_194 : m_CV RX12 194 yX12_costOf := ⟨wd_1668, wd_1670, wd_57⟩
theorem cv_RX12_198 : m_CV RX12 198 yX12_isLord := ⟨wd_1643, wd_1645, wd_51⟩
theorem cv_RX12_204 : m_CV RX12 204 yX12_ofLord := ⟨wd_1648, wd_1650, wd_52⟩
theorem cv_RX12_207 : m_CV RX12 207 yX12_held := ⟨wd_1652, wd_1654, wd_53⟩
theorem cv_RX12_210 : m_CV RX12 210 yX12_year := ⟨wd_1660, wd_1662, wd_55⟩
theorem cv_RX12_214 : m_CV RX12 214 yX12_costs := ⟨wd_1664, wd_1666, wd_56⟩
theorem cv_RX12_217 : m_CV RX12 217 yX12_was := ⟨wd_1713, wd_1715, wd_65⟩
theorem cv_RX12_222 : m_CV RX12 222 yX12_good1 := ⟨wd_1721, wd_1723, wd_66⟩
theorem cv_RX12_225 : m_CV RX12 225 yX12_isGood := ⟨wd_1688, wd_1690, wd_62⟩
theorem cv_RX12_242 : m_CV RX12 242 yX12_four := ⟨wd_1750, wd_1752, wd_67⟩
theorem cv_RX12_253 : m_CV RX12 253 yX12_next := ⟨wd_1774, wd_1776, wd_70⟩
theorem cv_RX12_284 : m_CV RX12 284 yX12_must := ⟨wd_1800, wd_1802, wd_73⟩
theorem cv_RX12_297 : m_CV RX12 297 yX12_emit := ⟨wd_1842, wd_1844, wd_83⟩
theorem cv_RX12_307 : m_CV RX12 307 yX12_isWord := ⟨wd_1794, wd_1796, wd_72⟩
theorem cv_RX12_314 : m_CV RX12 314 yX12_push := ⟨wd_1813, wd_1815, wd_76⟩
theorem cv_RX12_320 : m_CV RX12 320 yX12_isSign := ⟨wd_1817, wd_1819, wd_77⟩
theorem cv_RX12_323 : m_CV RX12 323 yX12_openBracket := ⟨wd_1821, wd_1823, wd_78⟩
theorem cv_RX12_329 : m_CV RX12 329 yX12_orderPartAt := ⟨wd_1829, wd_1831, wd_80⟩
theorem cv_RX12_332 : m_CV RX12 332 yX12_partAt := ⟨wd_1833, wd_1835, wd_81⟩
theorem cv_RX12_337 : m_CV RX12 337 yX12_leaf := ⟨wd_1838, wd_1840, wd_82⟩
theorem cv_RX12_343 : m_CV RX12 343 yX12_number := ⟨wd_1847, wd_1849, wd_84⟩
theorem cv_RX12_349 : m_CV RX12 349 yX12_readPart := ⟨wd_1825, wd_1827, wd_79⟩
theorem cv_RX12_352 : m_CV RX12 352 yX12_settle := ⟨wd_1858, wd_1860, wd_86⟩
theorem cv_RX12_355 : m_CV RX12 355 yX12_inner := ⟨wd_1862, wd_1864, wd_87⟩
theorem cv_RX12_358 : m_CV RX12 358 yX12_isCompared := ⟨wd_1866, wd_1868, wd_88⟩
theorem cv_RX12_366 : m_CV RX12 366 yX12_readPlain := ⟨wd_1808, wd_1810, wd_75⟩
theorem cv_RX12_369 : m_CV RX12 369 yX12_behindSum := ⟨wd_1851, wd_1853, wd_85⟩
theorem cv_RX12_373 : m_CV RX12 373 yX12_behindTest := ⟨wd_1873, wd_1875, wd_89⟩
theorem cv_RX12_376 : m_CV RX12 376 yX12_begin := ⟨wd_1770, wd_1772, wd_69⟩
theorem cv_RX12_388 : m_CV RX12 388 yX12_readExpression := ⟨wd_1804, wd_1806, wd_74⟩
theorem cv_RX12_393 : m_CV RX12 393 yX12_beginText := ⟨wd_1766, wd_1768, wd_68⟩
theorem cv_RX12_396 : m_CV RX12 396 yX12_readLaw := ⟨wd_1789, wd_1791, wd_71⟩
theorem cv_RX12_399 : m_CV RX12 399 yX12_endText := ⟨wd_1880, wd_1882, wd_90⟩
theorem cv_RX12_408 : m_CV RX12 408 yX12_askedOf := ⟨wd_1684, wd_1686, wd_61⟩
theorem cv_RX12_412 : m_CV RX12 412 yX12_reckon := ⟨wd_1700, wd_1702, wd_64⟩
theorem cv_RX12_423 : m_CV RX12 423 yX12_debtsOf := ⟨wd_1693, wd_1695, wd_63⟩
theorem cv_RX12_426 : m_CV RX12 426 yX12_reckonAll := ⟨wd_1680, wd_1682, wd_60⟩
theorem cv_RX12_432 : m_CV RX12 432 yX12_isSo := ⟨wd_1676, wd_1678, wd_59⟩
theorem cv_RX12_435 : m_CV RX12 435 yX12_tells1 := ⟨wd_1672, wd_1674, wd_58⟩
theorem cv_RX12_445 : m_CV RX12 445 yX12_worthOf := ⟨wd_1893, wd_1895, wd_91⟩
theorem cv_RX12_448 : m_CV RX12 448 yX12_isBarred := ⟨wd_1897, wd_1899, wd_92⟩
theorem cv_RX12_462 : m_CV RX12 462 yX12_keepRow := ⟨wd_1909, wd_1911, wd_94⟩
theorem cv_RX12_465 : m_CV RX12 465 yX12_gift := ⟨wd_1913, wd_1915, wd_95⟩
theorem cv_RX12_468 : m_CV RX12 468 yX12_remember := ⟨wd_1917, wd_1919, wd_96⟩
theorem cv_RX12_471 : m_CV RX12 471 yX12_putBack := ⟨wd_1921, wd_1923, wd_97⟩
theorem cv_RX12_474 : m_CV RX12 474 yX12_wait1 := ⟨wd_1933, wd_1935, wd_99⟩
theorem cv_RX12_477 : m_CV RX12 477 yX12_giveNow := ⟨wd_1905, wd_1907, wd_93⟩
theorem cv_RX12_480 : m_CV RX12 480 yX12_waitNow := ⟨wd_1929, wd_1931, wd_98⟩
theorem cv_RX12_483 : m_CV RX12 483 yX12_undoRow := ⟨wd_1944, wd_1946, wd_100⟩
theorem cv_RX12_486 : m_CV RX12 486 yX12_grainLeft := ⟨wd_1980, wd_1982, wd_106⟩
theorem cv_RX12_489 : m_CV RX12 489 yX12_lastOf := ⟨wd_1968, wd_1970, wd_103⟩
theorem cv_RX12_492 : m_CV RX12 492 yX12_canGive := ⟨wd_1972, wd_1974, wd_104⟩
theorem cv_RX12_496 : m_CV RX12 496 yX12_isWon := ⟨wd_1976, wd_1978, wd_105⟩
theorem cv_RX12_499 : m_CV RX12 499 yX12_layGoods := ⟨wd_1960, wd_1962, wd_101⟩
theorem cv_RX12_503 : m_CV RX12 503 yX12_findWins := ⟨wd_1964, wd_1966, wd_102⟩
theorem cv_RX12_506 : m_CV RX12 506 yX12_playOf := ⟨wd_1984, wd_1986, wd_107⟩
theorem cv_RX12_509 : m_CV RX12 509 yX12_layYears := ⟨wd_1992, wd_1994, wd_108⟩
theorem cv_RX12_512 : m_CV RX12 512 yX12_ruinedIn := ⟨wd_1996, wd_1998, wd_109⟩
theorem cv_RX12_519 : m_CV RX12 519 yX12_toldBy := ⟨wd_2020, wd_2022, wd_111⟩
theorem cv_RX12_522 : m_CV RX12 522 yX12_middle := ⟨wd_2016, wd_2018, wd_110⟩
theorem cv_RX12_536 : m_CV RX12 536 yX12_isAhead := ⟨wd_2048, wd_2050, wd_114⟩
theorem cv_RX12_542 : m_CV RX12 542 yX12_weighWay := ⟨wd_2042, wd_2044, wd_113⟩
theorem cv_RX12_545 : m_CV RX12 545 yX12_goesOn := ⟨wd_2052, wd_2054, wd_115⟩
theorem cv_RX12_550 : m_CV RX12 550 yX12_findWay := ⟨wd_2038, wd_2040, wd_112⟩
theorem cv_RX12_559 : m_CV RX12 559 yX12_isFresh := ⟨wd_2064, wd_2066, wd_117⟩
theorem cv_RX12_562 : m_CV RX12 562 yX12_weighRing := ⟨wd_2068, wd_2070, wd_118⟩
theorem cv_RX12_565 : m_CV RX12 565 yX12_findRing := ⟨wd_2060, wd_2062, wd_116⟩
theorem cv_RX12_571 : m_CV RX12 571 yX12_isTold := ⟨wd_2084, wd_2086, wd_120⟩
theorem cv_RX12_574 : m_CV RX12 574 yX12_keepGifts := ⟨wd_2088, wd_2090, wd_121⟩
theorem cv_RX12_577 : m_CV RX12 577 yX12_canBe := ⟨wd_2092, wd_2094, wd_122⟩
theorem cv_RX12_580 : m_CV RX12 580 yX12_findGifts := ⟨wd_2080, wd_2082, wd_119⟩
theorem cv_RX12_587 : m_CV RX12 587 yX12_readSum := ⟨wd_2110, wd_2112, wd_124⟩
theorem cv_RX12_601 : m_CV RX12 601 yX12_sumOf := ⟨wd_2119, wd_2121, wd_126⟩
theorem cv_RX12_605 : m_CV RX12 605 yX12_readOrder := ⟨wd_2104, wd_2106, wd_123⟩
theorem cv_RX12_608 : m_CV RX12 608 yX12_run := ⟨wd_2115, wd_2117, wd_125⟩
theorem cv_RX12_622 : m_CV RX12 622 yX12_draw := ⟨wd_2132, wd_2134, wd_127⟩
theorem cv_RX12_630 : m_CV RX12 630 yX12_allDebts := ⟨wd_2148, wd_2150, wd_128⟩
theorem cv_RX1_31 : m_CV RX1 31 yX1_gather := ⟨wd_1077, wd_1079, wd_29⟩
theorem cv_RX1_35 : m_CV RX1 35 yX1_wins := ⟨wd_1091, wd_1093, wd_30⟩
theorem cv_RX1_39 : m_CV RX1 39 yX1_winning := ⟨wd_1099, wd_1101, wd_32⟩
theorem cv_RX1_43 : m_CV RX1 43 yX1_lowestWinning := ⟨wd_1103, wd_1105, wd_33⟩
theorem cv_RX1_47 : m_CV RX1 47 yX1_length := ⟨wd_1107, wd_1109, wd_34⟩
theorem cv_RX1_52 : m_CV RX1 52 yX10_lordAt := ⟨wd_1081, wd_602, wd_603⟩
theorem cv_RX1_56 : m_CV RX1 56 yX10_term := ⟨wd_1082, wd_544, wd_545⟩
theorem cv_RX1_60 : m_CV RX1 60 yX10_many := ⟨wd_1083, wd_520, wd_521⟩
theorem cv_RX1_62 : m_CV RX1 62 yX10_isOwnedAndHeld := ⟨wd_1084, wd_1085, wd_1086⟩
theorem cv_RX1_66 : m_CV RX1 66 yX2_bars := ⟨wd_1088, wd_974, wd_975⟩
theorem cv_RX1_72 : m_CV RX1 72 yX2_worth := ⟨wd_1089, wd_982, wd_983⟩
theorem cv_RX1_76 : m_CV RX1 76 yX2_costs := ⟨wd_1090, wd_638, wd_639⟩
theorem cv_RX1_78 : m_CV RX1 78 yX1_winsBy := ⟨wd_1095, wd_1097, wd_31⟩
theorem cv_RX1_82 : m_CV RX1 82 yX1_lowestPossible := ⟨wd_1111, wd_1113, wd_35⟩
theorem cv_RX2_25 : m_CV RX2 25 yX10_term := ⟨wd_560, wd_544, wd_545⟩
theorem cv_RX2_29 : m_CV RX2 29 yX2_ask := ⟨wd_556, wd_558, wd_2⟩
theorem cv_RX2_33 : m_CV RX2 33 yX10_lawInForce := ⟨wd_561, wd_562, wd_563⟩
theorem cv_RX2_39 : m_CV RX2 39 yX10_goodAt := ⟨wd_552, wd_553, wd_554⟩
theorem cv_RX2_43 : m_CV RX2 43 yX2_told := ⟨wd_565, wd_567, wd_3⟩
theorem cv_RX2_47 : m_CV RX2 47 yX8_clauses := ⟨wd_569, wd_570, wd_571⟩
theorem cv_RX2_51 : m_CV RX2 51 yX8_part := ⟨wd_573, wd_574, wd_575⟩
theorem cv_RX2_54 : m_CV RX2 54 yX8_isSo := ⟨wd_577, wd_578, wd_579⟩
theorem cv_RX2_58 : m_CV RX2 58 yX10_many := ⟨wd_551, wd_520, wd_521⟩
theorem cv_RX2_61 : m_CV RX2 61 yX8_sum := ⟨wd_588, wd_589, wd_590⟩
theorem cv_RX2_74 : m_CV RX2 74 yX2_voice := ⟨wd_1187, wd_1188, wd_1189⟩
theorem cv_RX2_78 : m_CV RX2 78 yX2_hear := ⟨wd_1183, wd_1185, wd_41⟩
theorem cv_RX2_82 : m_CV RX2 82 yX2_middle := ⟨wd_1200, wd_1180, wd_1181⟩
theorem cv_RX2_85 : m_CV RX2 85 yX10_price := ⟨wd_1201, wd_1202, wd_1203⟩
theorem cv_RX3_101 : m_CV RX3 101 yX0_mayGive := ⟨wd_968, wd_969, wd_970⟩
theorem cv_RX3_105 : m_CV RX3 105 yX0_hand := ⟨wd_977, wd_978, wd_979⟩
theorem cv_RX3_109 : m_CV RX3 109 yX10_many := ⟨wd_909, wd_520, wd_521⟩
theorem cv_RX3_112 : m_CV RX3 112 yX10_lordAt := ⟨wd_911, wd_602, wd_603⟩
theorem cv_RX3_115 : m_CV RX3 115 yX10_standingAgainst := ⟨wd_912, wd_913, wd_914⟩
theorem cv_RX3_118 : m_CV RX3 118 yX10_goodAt := ⟨wd_921, wd_553, wd_554⟩
theorem cv_RX3_48 : m_CV RX3 48 yX10_copyFrom := ⟨wd_888, wd_889, wd_890⟩
theorem cv_RX3_52 : m_CV RX3 52 yX4_copyFrom := ⟨wd_893, wd_894, wd_895⟩
theorem cv_RX3_55 : m_CV RX3 55 yX8_clauses := ⟨wd_898, wd_570, wd_571⟩
theorem cv_RX3_59 : m_CV RX3 59 yX8_part := ⟨wd_899, wd_574, wd_575⟩
theorem cv_RX3_63 : m_CV RX3 63 yX3_step := ⟨wd_900, wd_902, wd_27⟩
theorem cv_RX3_67 : m_CV RX3 67 yX3_look := ⟨wd_904, wd_906, wd_28⟩
theorem cv_RX3_70 : m_CV RX3 70 yX8_isSo := ⟨wd_922, wd_578, wd_579⟩
theorem cv_RX3_76 : m_CV RX3 76 yX10_term := ⟨wd_908, wd_544, wd_545⟩
theorem cv_RX3_80 : m_CV RX3 80 yX4_keep := ⟨wd_923, wd_924, wd_925⟩
theorem cv_RX3_84 : m_CV RX3 84 yX0_passYear := ⟨wd_932, wd_933, wd_934⟩
theorem cv_RX3_90 : m_CV RX3 90 yX8_sum := ⟨wd_967, wd_589, wd_590⟩
theorem cv_RX3_94 : m_CV RX3 94 yX10_isGood := ⟨wd_920, wd_633, wd_634⟩
theorem cv_RX3_98 : m_CV RX3 98 yX10_isLord := ⟨wd_910, wd_540, wd_541⟩
theorem cv_RX4_33 : m_CV RX4 33 yX10_saveTo := ⟨wd_927, wd_928, wd_929⟩
theorem cv_RX4_43 : m_CV RX4 43 yX10_restoreFrom := ⟨wd_1050, wd_1051, wd_1052⟩
theorem cv_RX5_102 : m_CV RX5 102 yX8_open := ⟨wd_777, wd_778, wd_779⟩
theorem cv_RX5_106 : m_CV RX5 106 yX5_sumOf := ⟨wd_786, wd_788, wd_13⟩
theorem cv_RX5_110 : m_CV RX5 110 yX5_condition := ⟨wd_846, wd_848, wd_24⟩
theorem cv_RX5_113 : m_CV RX5 113 yX5_times := ⟨wd_854, wd_856, wd_26⟩
theorem cv_RX5_116 : m_CV RX5 116 yX8_setPart := ⟨wd_794, wd_795, wd_796⟩
theorem cv_RX5_120 : m_CV RX5 120 yX8_size := ⟨wd_790, wd_791, wd_792⟩
theorem cv_RX5_123 : m_CV RX5 123 yX5_test := ⟨wd_814, wd_816, wd_18⟩
theorem cv_RX5_126 : m_CV RX5 126 yX5_sum := ⟨wd_798, wd_800, wd_14⟩
theorem cv_RX5_129 : m_CV RX5 129 yX5_both := ⟨wd_818, wd_820, wd_19⟩
theorem cv_RX5_132 : m_CV RX5 132 yX8_add := ⟨wd_830, wd_831, wd_832⟩
theorem cv_RX5_135 : m_CV RX5 135 yX8_landHere := ⟨wd_834, wd_835, wd_836⟩
theorem cv_RX5_139 : m_CV RX5 139 yX5_plain := ⟨wd_822, wd_824, wd_20⟩
theorem cv_RX5_142 : m_CV RX5 142 yX5_bracketed := ⟨wd_810, wd_812, wd_17⟩
theorem cv_RX5_146 : m_CV RX5 146 yX5_comparison := ⟨wd_826, wd_828, wd_21⟩
theorem cv_RX5_149 : m_CV RX5 149 yX5_term := ⟨wd_802, wd_804, wd_15⟩
theorem cv_RX5_152 : m_CV RX5 152 yX5_part := ⟨wd_806, wd_808, wd_16⟩
theorem cv_RX5_155 : m_CV RX5 155 yX5_lawWord := ⟨wd_838, wd_840, wd_22⟩
theorem cv_RX5_158 : m_CV RX5 158 yX5_orderWord := ⟨wd_842, wd_844, wd_23⟩
theorem cv_RX5_53 : m_CV RX5 53 yX8_empty := ⟨wd_697, wd_698, wd_699⟩
theorem cv_RX5_56 : m_CV RX5 56 yX5_scan := ⟨wd_701, wd_703, wd_7⟩
theorem cv_RX5_59 : m_CV RX5 59 yX5_lawClause := ⟨wd_769, wd_771, wd_10⟩
theorem cv_RX5_63 : m_CV RX5 63 yX5_orderClause := ⟨wd_850, wd_852, wd_25⟩
theorem cv_RX5_66 : m_CV RX5 66 yX5_advance := ⟨wd_782, wd_784, wd_12⟩
theorem cv_RX5_69 : m_CV RX5 69 yX5_wrong := ⟨wd_773, wd_775, wd_11⟩
theorem cv_RX5_76 : m_CV RX5 76 yX5_wordOf := ⟨wd_708, wd_710, wd_8⟩
theorem cv_RX5_83 : m_CV RX5 83 yX5_numberOf := ⟨wd_764, wd_766, wd_9⟩
theorem cv_RX6_44 : m_CV RX6 44 yX10_many := ⟨wd_1278, wd_520, wd_521⟩
theorem cv_RX6_54 : m_CV RX6 54 yX10_goodAt := ⟨wd_1280, wd_553, wd_554⟩
theorem cv_RX6_57 : m_CV RX6 57 yX6_lookAt := ⟨wd_1281, wd_1283, wd_45⟩
theorem cv_RX6_61 : m_CV RX6 61 yX6_rows := ⟨wd_1288, wd_1290, wd_46⟩
theorem cv_RX6_64 : m_CV RX6 64 yX6_takeFirst := ⟨wd_1296, wd_1298, wd_47⟩
theorem cv_RX6_68 : m_CV RX6 68 yX10_toldHolder := ⟨wd_1285, wd_1263, wd_1264⟩
theorem cv_RX6_71 : m_CV RX6 71 yX10_isRuined := ⟨wd_1286, wd_945, wd_946⟩
theorem cv_RX6_74 : m_CV RX6 74 yX2_bars := ⟨wd_1287, wd_974, wd_975⟩
theorem cv_RX6_89 : m_CV RX6 89 yX2_worth := ⟨wd_1308, wd_982, wd_983⟩
theorem cv_RX7_38 : m_CV RX7 38 yX10_isRuined := ⟨wd_1123, wd_945, wd_946⟩
theorem cv_RX7_44 : m_CV RX7 44 yX10_lordAt := ⟨wd_1124, wd_602, wd_603⟩
theorem cv_RX7_48 : m_CV RX7 48 yX10_term := ⟨wd_1125, wd_544, wd_545⟩
theorem cv_RX7_57 : m_CV RX7 57 yX2_upkeep := ⟨wd_1127, wd_548, wd_549⟩
theorem cv_RX7_63 : m_CV RX7 63 yX7_gather := ⟨wd_1136, wd_1138, wd_36⟩
theorem cv_RX7_67 : m_CV RX7 67 yX7_cheapest := ⟨wd_1145, wd_1147, wd_37⟩
theorem cv_RX7_75 : m_CV RX7 75 yX7_worthOf := ⟨wd_1153, wd_1155, wd_39⟩
theorem cv_RX7_78 : m_CV RX7 78 yX7_bitsOf := ⟨wd_1163, wd_1165, wd_40⟩
theorem cv_RX7_81 : m_CV RX7 81 yX10_many := ⟨wd_1140, wd_520, wd_521⟩
theorem cv_RX7_83 : m_CV RX7 83 yX10_isOwnedAndHeld := ⟨wd_1141, wd_1085, wd_1086⟩
theorem cv_RX7_87 : m_CV RX7 87 yX2_bars := ⟨wd_1142, wd_974, wd_975⟩
theorem cv_RX7_91 : m_CV RX7 91 yX2_worth := ⟨wd_1143, wd_982, wd_983⟩
theorem cv_RX7_95 : m_CV RX7 95 yX2_costs := ⟨wd_1144, wd_638, wd_639⟩
theorem cv_RX7_97 : m_CV RX7 97 yX7_falls := ⟨wd_1149, wd_1151, wd_38⟩
theorem cv_RX8_47 : m_CV RX8 47 yX8_value := ⟨wd_581, wd_583, wd_4⟩
theorem cv_RX9_40 : m_CV RX9 40 yX9_draw := ⟨wd_1221, wd_1223, wd_42⟩
theorem cv_RX9_45 : m_CV RX9 45 yX9_walk := ⟨wd_1235, wd_1237, wd_43⟩
theorem cv_RX9_51 : m_CV RX9 51 yX10_many := ⟨wd_1225, wd_520, wd_521⟩
theorem cv_RX9_67 : m_CV RX9 67 yX10_roadAt := ⟨wd_1230, wd_1231, wd_1232⟩
theorem cv_RX9_84 : m_CV RX9 84 yX9_closes := ⟨wd_1253, wd_1255, wd_44⟩
theorem cv_RX9_88 : m_CV RX9 88 yX10_worthOwed := ⟨wd_1257, wd_917, wd_918⟩
theorem cw_J6_bitCount_0f7a4 : m_CW yJ6_bitCount_0f7a4 cJ6_bitCount_0f7a4 1 (some .int) 1 := ⟨wd_150, wd_1159, by decide +kernel, by decide⟩
theorem cw_J6_numberOfTrailingZeros_0f7a4 : m_CW yJ6_numberOfTrailingZeros_0f7a4 cJ6_numberOfTrailingZeros_0f7a4 2 (some .int) 1 := ⟨wd_150, wd_1251, by decide +kernel, by decide⟩
theorem cw_J7_fill_53178 : m_CW yJ7_fill_53178 cJ7_fill_53178 4 none 2 := ⟨wd_132, wd_1229, by decide +kernel, by decide⟩
theorem cw_J7_fill_fda19 : m_CW yJ7_fill_fda19 cJ7_fill_fda19 5 none 4 := ⟨wd_132, wd_169, by decide +kernel, by decide⟩
theorem cw_J7_rangeCheck_23922 : m_CW yJ7_rangeCheck_23922 cJ7_rangeCheck_23922 3 none 3 := ⟨wd_132, wd_172, by decide +kernel, by decide⟩
theorem cw_X0_challenge : m_CW yX0_challenge cX0_challenge 6 none 4 := ⟨wd_138, wd_991, by decide +kernel, by decide⟩
theorem cw_X0_draw : m_CW yX0_draw cX0_draw 2 (some .int) 1 := ⟨wd_138, wd_1323, by decide +kernel, by decide⟩
theorem cw_X0_dropAllOf : m_CW yX0_dropAllOf cX0_dropAllOf 3 none 2 := ⟨wd_138, wd_950, by decide +kernel, by decide⟩
theorem cw_X0_hand : m_CW yX0_hand cX0_hand 6 (some .int) 3 := ⟨wd_138, wd_980, by decide +kernel, by decide⟩
theorem cw_X0_latestDrawn : m_CW yX0_latestDrawn cX0_latestDrawn 1 (some (.object "GiftDuel$World")) 0 := ⟨wd_138, wd_1337, by decide +kernel, by decide⟩
theorem cw_X0_loseOld : m_CW yX0_loseOld cX0_loseOld 4 none 2 := ⟨wd_138, wd_957, by decide +kernel, by decide⟩
theorem cw_X0_mayGive : m_CW yX0_mayGive cX0_mayGive 5 (some .boolean) 3 := ⟨wd_138, wd_971, by decide +kernel, by decide⟩
theorem cw_X0_passYear : m_CW yX0_passYear cX0_passYear 9 (some .int) 2 := ⟨wd_138, wd_935, by decide +kernel, by decide⟩
theorem cw_X0_playOut : m_CW yX0_playOut cX0_playOut 10 (some .int) 3 := ⟨wd_138, wd_1318, by decide +kernel, by decide⟩
theorem cw_X10_addGood : m_CW yX10_addGood cX10_addGood 6 (some .int) 3 := ⟨wd_131, wd_627, by decide +kernel, by decide⟩
theorem cw_X10_addHerald : m_CW yX10_addHerald cX10_addHerald 3 (some .int) 1 := ⟨wd_131, wd_1174, by decide +kernel, by decide⟩
theorem cw_X10_addLord : m_CW yX10_addLord cX10_addLord 5 (some .int) 2 := ⟨wd_131, wd_530, by decide +kernel, by decide⟩
theorem cw_X10_addRoad : m_CW yX10_addRoad cX10_addRoad 7 (some .int) 4 := ⟨wd_131, wd_1212, by decide +kernel, by decide⟩
theorem cw_X10_copyFrom : m_CW yX10_copyFrom cX10_copyFrom 3 none 1 := ⟨wd_131, wd_891, by decide +kernel, by decide⟩
theorem cw_X10_goodAt : m_CW yX10_goodAt cX10_goodAt 3 (some .int) 2 := ⟨wd_131, wd_555, by decide +kernel, by decide⟩
theorem cw_X10_greatestCreditor : m_CW yX10_greatestCreditor cX10_greatestCreditor 5 (some .int) 1 := ⟨wd_131, wd_1068, by decide +kernel, by decide⟩
theorem cw_X10_held : m_CW yX10_held cX10_held 4 (some .int) 1 := ⟨wd_131, wd_608, by decide +kernel, by decide⟩
theorem cw_X10_inForce : m_CW yX10_inForce cX10_inForce 1 (some .int) 0 := ⟨wd_131, wd_1019, by decide +kernel, by decide⟩
theorem cw_X10_isGood : m_CW yX10_isGood cX10_isGood 2 (some .boolean) 1 := ⟨wd_131, wd_635, by decide +kernel, by decide⟩
theorem cw_X10_isKept : m_CW yX10_isKept cX10_isKept 1 (some .boolean) 0 := ⟨wd_131, wd_1354, by decide +kernel, by decide⟩
theorem cw_X10_isLord : m_CW yX10_isLord cX10_isLord 2 (some .boolean) 1 := ⟨wd_131, wd_542, by decide +kernel, by decide⟩
theorem cw_X10_isOwnedAndHeld : m_CW yX10_isOwnedAndHeld cX10_isOwnedAndHeld 4 (some .boolean) 2 := ⟨wd_131, wd_1087, by decide +kernel, by decide⟩
theorem cw_X10_isRuined : m_CW yX10_isRuined cX10_isRuined 2 (some .boolean) 1 := ⟨wd_131, wd_947, by decide +kernel, by decide⟩
theorem cw_X10_lawInForce : m_CW yX10_lawInForce cX10_lawInForce 2 (some (.object "GiftDuel$Text")) 0 := ⟨wd_131, wd_564, by decide +kernel, by decide⟩
theorem cw_X10_lordAt : m_CW yX10_lordAt cX10_lordAt 3 (some .int) 2 := ⟨wd_131, wd_604, by decide +kernel, by decide⟩
theorem cw_X10_many : m_CW yX10_many cX10_many 2 (some .int) 1 := ⟨wd_131, wd_522, by decide +kernel, by decide⟩
theorem cw_X10_markKept : m_CW yX10_markKept cX10_markKept 1 none 0 := ⟨wd_131, wd_1346, by decide +kernel, by decide⟩
theorem cw_X10_oneMoreOf : m_CW yX10_oneMoreOf cX10_oneMoreOf 3 none 2 := ⟨wd_131, wd_966, by decide +kernel, by decide⟩
theorem cw_X10_price : m_CW yX10_price cX10_price 2 (some .int) 1 := ⟨wd_131, wd_1204, by decide +kernel, by decide⟩
theorem cw_X10_restoreFrom : m_CW yX10_restoreFrom cX10_restoreFrom 3 none 2 := ⟨wd_131, wd_1053, by decide +kernel, by decide⟩
theorem cw_X10_roadAt : m_CW yX10_roadAt cX10_roadAt 3 (some .int) 2 := ⟨wd_131, wd_1233, by decide +kernel, by decide⟩
theorem cw_X10_saveTo : m_CW yX10_saveTo cX10_saveTo 3 none 2 := ⟨wd_131, wd_930, by decide +kernel, by decide⟩
theorem cw_X10_seenOf : m_CW yX10_seenOf cX10_seenOf 3 (some .int) 2 := ⟨wd_131, wd_600, by decide +kernel, by decide⟩
theorem cw_X10_setForce : m_CW yX10_setForce cX10_setForce 2 none 1 := ⟨wd_131, wd_1023, by decide +kernel, by decide⟩
theorem cw_X10_setGood : m_CW yX10_setGood cX10_setGood 4 none 3 := ⟨wd_131, wd_988, by decide +kernel, by decide⟩
theorem cw_X10_setLord : m_CW yX10_setLord cX10_setLord 4 none 3 := ⟨wd_131, wd_619, by decide +kernel, by decide⟩
theorem cw_X10_setTerm : m_CW yX10_setTerm cX10_setTerm 3 none 2 := ⟨wd_131, wd_648, by decide +kernel, by decide⟩
theorem cw_X10_settle : m_CW yX10_settle cX10_settle 3 none 2 := ⟨wd_131, wd_954, by decide +kernel, by decide⟩
theorem cw_X10_since : m_CW yX10_since cX10_since 3 (some .int) 2 := ⟨wd_131, wd_962, by decide +kernel, by decide⟩
theorem cw_X10_stand : m_CW yX10_stand cX10_stand 5 none 4 := ⟨wd_131, wd_995, by decide +kernel, by decide⟩
theorem cw_X10_standing : m_CW yX10_standing cX10_standing 3 (some .int) 0 := ⟨wd_131, wd_1362, by decide +kernel, by decide⟩
theorem cw_X10_standingAgainst : m_CW yX10_standingAgainst cX10_standingAgainst 4 (some .int) 1 := ⟨wd_131, wd_915, by decide +kernel, by decide⟩
theorem cw_X10_tellHolder : m_CW yX10_tellHolder cX10_tellHolder 3 none 2 := ⟨wd_131, wd_1269, by decide +kernel, by decide⟩
theorem cw_X10_term : m_CW yX10_term cX10_term 2 (some .int) 1 := ⟨wd_131, wd_546, by decide +kernel, by decide⟩
theorem cw_X10_toldHolder : m_CW yX10_toldHolder cX10_toldHolder 2 (some .int) 1 := ⟨wd_131, wd_1265, by decide +kernel, by decide⟩
theorem cw_X10_worthOwed : m_CW yX10_worthOwed cX10_worthOwed 3 (some .int) 2 := ⟨wd_131, wd_919, by decide +kernel, by decide⟩
theorem cw_X11_accept : m_CW yX11_accept cX11_accept 2 (some .int) 1 := ⟨wd_130, wd_534, by decide +kernel, by decide⟩
theorem cw_X11_comes : m_CW yX11_comes cX11_comes 5 (some .boolean) 3 := ⟨wd_130, wd_684, by decide +kernel, by decide⟩
theorem cw_X11_refuse : m_CW yX11_refuse cX11_refuse 2 (some .int) 1 := ⟨wd_130, wd_518, by decide +kernel, by decide⟩
theorem cw_X11_within : m_CW yX11_within cX11_within 3 (some .boolean) 3 := ⟨wd_130, wd_514, by decide +kernel, by decide⟩
theorem cw_X12_allDebts : m_CW yX12_allDebts cX12_allDebts 3 (some .int) 0 := ⟨wd_144, wd_2151, by decide +kernel, by decide⟩
theorem cw_X12_askedOf : m_CW yX12_askedOf cX12_askedOf 3 (some .long) 2 := ⟨wd_144, wd_1687, by decide +kernel, by decide⟩
theorem cw_X12_begin : m_CW yX12_begin cX12_begin 1 none 0 := ⟨wd_144, wd_1773, by decide +kernel, by decide⟩
theorem cw_X12_beginText : m_CW yX12_beginText cX12_beginText 2 none 1 := ⟨wd_144, wd_1769, by decide +kernel, by decide⟩
theorem cw_X12_behindSum : m_CW yX12_behindSum cX12_behindSum 4 (some .int) 1 := ⟨wd_144, wd_1854, by decide +kernel, by decide⟩
theorem cw_X12_behindTest : m_CW yX12_behindTest cX12_behindTest 2 (some .int) 0 := ⟨wd_144, wd_1876, by decide +kernel, by decide⟩
theorem cw_X12_binds : m_CW yX12_binds cX12_binds 1 (some .int) 1 := ⟨wd_144, wd_1857, by decide +kernel, by decide⟩
theorem cw_X12_canBe : m_CW yX12_canBe cX12_canBe 5 (some .boolean) 1 := ⟨wd_144, wd_2095, by decide +kernel, by decide⟩
theorem cw_X12_canGive : m_CW yX12_canGive cX12_canGive 5 (some .boolean) 4 := ⟨wd_144, wd_1975, by decide +kernel, by decide⟩
theorem cw_X12_costOf : m_CW yX12_costOf cX12_costOf 4 (some .int) 3 := ⟨wd_144, wd_1671, by decide +kernel, by decide⟩
theorem cw_X12_costs : m_CW yX12_costs cX12_costs 5 (some .int) 2 := ⟨wd_144, wd_1667, by decide +kernel, by decide⟩
theorem cw_X12_debtAt : m_CW yX12_debtAt cX12_debtAt 2 (some .int) 2 := ⟨wd_144, wd_1699, by decide +kernel, by decide⟩
theorem cw_X12_debtsOf : m_CW yX12_debtsOf cX12_debtsOf 4 (some .int) 1 := ⟨wd_144, wd_1696, by decide +kernel, by decide⟩
theorem cw_X12_draw : m_CW yX12_draw cX12_draw 2 (some .int) 1 := ⟨wd_144, wd_2135, by decide +kernel, by decide⟩
theorem cw_X12_emit : m_CW yX12_emit cX12_emit 3 none 2 := ⟨wd_144, wd_1845, by decide +kernel, by decide⟩
theorem cw_X12_endText : m_CW yX12_endText cX12_endText 1 none 0 := ⟨wd_144, wd_1883, by decide +kernel, by decide⟩
theorem cw_X12_findGifts : m_CW yX12_findGifts cX12_findGifts 6 none 1 := ⟨wd_144, wd_2083, by decide +kernel, by decide⟩
theorem cw_X12_findRing : m_CW yX12_findRing cX12_findRing 3 none 0 := ⟨wd_144, wd_2063, by decide +kernel, by decide⟩
theorem cw_X12_findWay : m_CW yX12_findWay cX12_findWay 4 none 2 := ⟨wd_144, wd_2041, by decide +kernel, by decide⟩
theorem cw_X12_findWins : m_CW yX12_findWins cX12_findWins 6 none 0 := ⟨wd_144, wd_1967, by decide +kernel, by decide⟩
theorem cw_X12_four : m_CW yX12_four cX12_four 3 none 1 := ⟨wd_144, wd_1753, by decide +kernel, by decide⟩
theorem cw_X12_gift : m_CW yX12_gift cX12_gift 7 (some .int) 2 := ⟨wd_144, wd_1916, by decide +kernel, by decide⟩
theorem cw_X12_giveNow : m_CW yX12_giveNow cX12_giveNow 6 (some .int) 2 := ⟨wd_144, wd_1908, by decide +kernel, by decide⟩
theorem cw_X12_goesOn : m_CW yX12_goesOn cX12_goesOn 8 (some .boolean) 2 := ⟨wd_144, wd_2055, by decide +kernel, by decide⟩
theorem cw_X12_good1 : m_CW yX12_good1 cX12_good1 6 (some .int) 3 := ⟨wd_144, wd_1724, by decide +kernel, by decide⟩
theorem cw_X12_grainLeft : m_CW yX12_grainLeft cX12_grainLeft 5 (some .int) 2 := ⟨wd_144, wd_1983, by decide +kernel, by decide⟩
theorem cw_X12_held : m_CW yX12_held cX12_held 4 (some .int) 1 := ⟨wd_144, wd_1655, by decide +kernel, by decide⟩
theorem cw_X12_in : m_CW yX12_in cX12_in 6 (some .boolean) 3 := ⟨wd_144, wd_1620, by decide +kernel, by decide⟩
theorem cw_X12_inner : m_CW yX12_inner cX12_inner 3 (some .int) 0 := ⟨wd_144, wd_1865, by decide +kernel, by decide⟩
theorem cw_X12_is : m_CW yX12_is cX12_is 2 (some .boolean) 2 := ⟨wd_144, wd_1939, by decide +kernel, by decide⟩
theorem cw_X12_isAhead : m_CW yX12_isAhead cX12_isAhead 3 (some .boolean) 1 := ⟨wd_144, wd_2051, by decide +kernel, by decide⟩
theorem cw_X12_isBarred : m_CW yX12_isBarred cX12_isBarred 4 (some .boolean) 3 := ⟨wd_144, wd_1900, by decide +kernel, by decide⟩
theorem cw_X12_isCompared : m_CW yX12_isCompared cX12_isCompared 2 (some .boolean) 0 := ⟨wd_144, wd_1869, by decide +kernel, by decide⟩
theorem cw_X12_isDigit : m_CW yX12_isDigit cX12_isDigit 1 (some .boolean) 1 := ⟨wd_144, wd_1783, by decide +kernel, by decide⟩
theorem cw_X12_isFresh : m_CW yX12_isFresh cX12_isFresh 4 (some .boolean) 1 := ⟨wd_144, wd_2067, by decide +kernel, by decide⟩
theorem cw_X12_isGood : m_CW yX12_isGood cX12_isGood 2 (some .boolean) 1 := ⟨wd_144, wd_1691, by decide +kernel, by decide⟩
theorem cw_X12_isLord : m_CW yX12_isLord cX12_isLord 2 (some .boolean) 1 := ⟨wd_144, wd_1646, by decide +kernel, by decide⟩
theorem cw_X12_isSign : m_CW yX12_isSign cX12_isSign 2 (some .boolean) 1 := ⟨wd_144, wd_1820, by decide +kernel, by decide⟩
theorem cw_X12_isSmall : m_CW yX12_isSmall cX12_isSmall 1 (some .boolean) 1 := ⟨wd_144, wd_1780, by decide +kernel, by decide⟩
theorem cw_X12_isSo : m_CW yX12_isSo cX12_isSo 2 (some .boolean) 1 := ⟨wd_144, wd_1679, by decide +kernel, by decide⟩
theorem cw_X12_isTold : m_CW yX12_isTold cX12_isTold 3 (some .boolean) 0 := ⟨wd_144, wd_2087, by decide +kernel, by decide⟩
theorem cw_X12_isWon : m_CW yX12_isWon cX12_isWon 4 (some .boolean) 3 := ⟨wd_144, wd_1979, by decide +kernel, by decide⟩
theorem cw_X12_isWord : m_CW yX12_isWord cX12_isWord 3 (some .boolean) 1 := ⟨wd_144, wd_1797, by decide +kernel, by decide⟩
theorem cw_X12_keepGifts : m_CW yX12_keepGifts cX12_keepGifts 3 none 1 := ⟨wd_144, wd_2091, by decide +kernel, by decide⟩
theorem cw_X12_keepRow : m_CW yX12_keepRow cX12_keepRow 3 none 1 := ⟨wd_144, wd_1912, by decide +kernel, by decide⟩
theorem cw_X12_lastOf : m_CW yX12_lastOf cX12_lastOf 4 (some .int) 1 := ⟨wd_144, wd_1971, by decide +kernel, by decide⟩
theorem cw_X12_layGoods : m_CW yX12_layGoods cX12_layGoods 7 none 3 := ⟨wd_144, wd_1963, by decide +kernel, by decide⟩
theorem cw_X12_layYears : m_CW yX12_layYears cX12_layYears 4 none 2 := ⟨wd_144, wd_1995, by decide +kernel, by decide⟩
theorem cw_X12_leaf : m_CW yX12_leaf cX12_leaf 4 none 3 := ⟨wd_144, wd_1841, by decide +kernel, by decide⟩
theorem cw_X12_middle : m_CW yX12_middle cX12_middle 8 (some .int) 3 := ⟨wd_144, wd_2019, by decide +kernel, by decide⟩
theorem cw_X12_must : m_CW yX12_must cX12_must 2 none 1 := ⟨wd_144, wd_1803, by decide +kernel, by decide⟩
theorem cw_X12_next : m_CW yX12_next cX12_next 1 none 0 := ⟨wd_144, wd_1777, by decide +kernel, by decide⟩
theorem cw_X12_number : m_CW yX12_number cX12_number 6 (some .int) 2 := ⟨wd_144, wd_1850, by decide +kernel, by decide⟩
theorem cw_X12_ofGood : m_CW yX12_ofGood cX12_ofGood 3 (some .int) 2 := ⟨wd_144, wd_1659, by decide +kernel, by decide⟩
theorem cw_X12_ofLord : m_CW yX12_ofLord cX12_ofLord 3 (some .int) 2 := ⟨wd_144, wd_1651, by decide +kernel, by decide⟩
theorem cw_X12_ones : m_CW yX12_ones cX12_ones 3 (some .int) 1 := ⟨wd_144, wd_2007, by decide +kernel, by decide⟩
theorem cw_X12_openBracket : m_CW yX12_openBracket cX12_openBracket 2 none 1 := ⟨wd_144, wd_1824, by decide +kernel, by decide⟩
theorem cw_X12_orderPartAt : m_CW yX12_orderPartAt cX12_orderPartAt 3 (some .int) 0 := ⟨wd_144, wd_1832, by decide +kernel, by decide⟩
theorem cw_X12_partAt : m_CW yX12_partAt cX12_partAt 3 (some .int) 0 := ⟨wd_144, wd_1836, by decide +kernel, by decide⟩
theorem cw_X12_playOf : m_CW yX12_playOf cX12_playOf 10 (some .int) 0 := ⟨wd_144, wd_1987, by decide +kernel, by decide⟩
theorem cw_X12_push : m_CW yX12_push cX12_push 3 none 2 := ⟨wd_144, wd_1816, by decide +kernel, by decide⟩
theorem cw_X12_putBack : m_CW yX12_putBack cX12_putBack 3 none 1 := ⟨wd_144, wd_1924, by decide +kernel, by decide⟩
theorem cw_X12_readExpression : m_CW yX12_readExpression cX12_readExpression 3 none 1 := ⟨wd_144, wd_1807, by decide +kernel, by decide⟩
theorem cw_X12_readLaw : m_CW yX12_readLaw cX12_readLaw 4 none 0 := ⟨wd_144, wd_1792, by decide +kernel, by decide⟩
theorem cw_X12_readOrder : m_CW yX12_readOrder cX12_readOrder 3 none 0 := ⟨wd_144, wd_2107, by decide +kernel, by decide⟩
theorem cw_X12_readPart : m_CW yX12_readPart cX12_readPart 4 (some .int) 0 := ⟨wd_144, wd_1828, by decide +kernel, by decide⟩
theorem cw_X12_readPlain : m_CW yX12_readPlain cX12_readPlain 1 (some .int) 0 := ⟨wd_144, wd_1811, by decide +kernel, by decide⟩
theorem cw_X12_readSum : m_CW yX12_readSum cX12_readSum 2 none 1 := ⟨wd_144, wd_2113, by decide +kernel, by decide⟩
theorem cw_X12_reckon : m_CW yX12_reckon cX12_reckon 6 (some .long) 3 := ⟨wd_144, wd_1703, by decide +kernel, by decide⟩
theorem cw_X12_reckonAll : m_CW yX12_reckonAll cX12_reckonAll 7 none 2 := ⟨wd_144, wd_1683, by decide +kernel, by decide⟩
theorem cw_X12_remember : m_CW yX12_remember cX12_remember 3 none 1 := ⟨wd_144, wd_1920, by decide +kernel, by decide⟩
theorem cw_X12_ruinedIn : m_CW yX12_ruinedIn cX12_ruinedIn 8 (some .int) 3 := ⟨wd_144, wd_1999, by decide +kernel, by decide⟩
theorem cw_X12_run : m_CW yX12_run cX12_run 7 (some .int) 1 := ⟨wd_144, wd_2118, by decide +kernel, by decide⟩
theorem cw_X12_settle : m_CW yX12_settle cX12_settle 2 none 1 := ⟨wd_144, wd_1861, by decide +kernel, by decide⟩
theorem cw_X12_settled : m_CW yX12_settled cX12_settled 2 (some .int) 1 := ⟨wd_144, wd_1632, by decide +kernel, by decide⟩
theorem cw_X12_sumOf : m_CW yX12_sumOf cX12_sumOf 2 (some .long) 1 := ⟨wd_144, wd_2122, by decide +kernel, by decide⟩
theorem cw_X12_tell : m_CW yX12_tell cX12_tell 2 (some .int) 1 := ⟨wd_144, wd_1624, by decide +kernel, by decide⟩
theorem cw_X12_tells1 : m_CW yX12_tells1 cX12_tells1 13 (some .long) 7 := ⟨wd_144, wd_1675, by decide +kernel, by decide⟩
theorem cw_X12_toldBy : m_CW yX12_toldBy cX12_toldBy 3 (some .int) 2 := ⟨wd_144, wd_2023, by decide +kernel, by decide⟩
theorem cw_X12_undoRow : m_CW yX12_undoRow cX12_undoRow 4 none 1 := ⟨wd_144, wd_1947, by decide +kernel, by decide⟩
theorem cw_X12_wait1 : m_CW yX12_wait1 cX12_wait1 7 (some .int) 0 := ⟨wd_144, wd_1936, by decide +kernel, by decide⟩
theorem cw_X12_waitNow : m_CW yX12_waitNow cX12_waitNow 1 (some .int) 0 := ⟨wd_144, wd_1932, by decide +kernel, by decide⟩
theorem cw_X12_was : m_CW yX12_was cX12_was 2 (some .int) 1 := ⟨wd_144, wd_1716, by decide +kernel, by decide⟩
theorem cw_X12_weighRing : m_CW yX12_weighRing cX12_weighRing 4 none 1 := ⟨wd_144, wd_2071, by decide +kernel, by decide⟩
theorem cw_X12_weighWay : m_CW yX12_weighWay cX12_weighWay 6 none 1 := ⟨wd_144, wd_2045, by decide +kernel, by decide⟩
theorem cw_X12_within : m_CW yX12_within cX12_within 4 (some .int) 3 := ⟨wd_144, wd_1708, by decide +kernel, by decide⟩
theorem cw_X12_worthOf : m_CW yX12_worthOf cX12_worthOf 4 (some .int) 3 := ⟨wd_144, wd_1896, by decide +kernel, by decide⟩
theorem cw_X12_year : m_CW yX12_year cX12_year 1 (some .int) 0 := ⟨wd_144, wd_1663, by decide +kernel, by decide⟩
theorem cw_X1_answer : m_CW yX1_answer cX1_answer 6 (some .int) 4 := ⟨wd_140, wd_1076, by decide +kernel, by decide⟩
theorem cw_X1_gather : m_CW yX1_gather cX1_gather 9 none 4 := ⟨wd_140, wd_1080, by decide +kernel, by decide⟩
theorem cw_X1_length : m_CW yX1_length cX1_length 8 (some .int) 0 := ⟨wd_140, wd_1110, by decide +kernel, by decide⟩
theorem cw_X1_lowestPossible : m_CW yX1_lowestPossible cX1_lowestPossible 4 (some .int) 2 := ⟨wd_140, wd_1114, by decide +kernel, by decide⟩
theorem cw_X1_lowestWinning : m_CW yX1_lowestWinning cX1_lowestWinning 7 (some .int) 4 := ⟨wd_140, wd_1106, by decide +kernel, by decide⟩
theorem cw_X1_winning : m_CW yX1_winning cX1_winning 3 (some .int) 0 := ⟨wd_140, wd_1102, by decide +kernel, by decide⟩
theorem cw_X1_wins : m_CW yX1_wins cX1_wins 8 (some .boolean) 5 := ⟨wd_140, wd_1094, by decide +kernel, by decide⟩
theorem cw_X1_winsBy : m_CW yX1_winsBy cX1_winsBy 6 (some .boolean) 4 := ⟨wd_140, wd_1098, by decide +kernel, by decide⟩
theorem cw_X2_ask : m_CW yX2_ask cX2_ask 4 none 3 := ⟨wd_137, wd_559, by decide +kernel, by decide⟩
theorem cw_X2_bars : m_CW yX2_bars cX2_bars 7 (some .boolean) 4 := ⟨wd_137, wd_976, by decide +kernel, by decide⟩
theorem cw_X2_cheapestBribe : m_CW yX2_cheapestBribe cX2_cheapestBribe 15 (some .int) 4 := ⟨wd_137, wd_1199, by decide +kernel, by decide⟩
theorem cw_X2_costs : m_CW yX2_costs cX2_costs 5 (some .int) 4 := ⟨wd_137, wd_640, by decide +kernel, by decide⟩
theorem cw_X2_hear : m_CW yX2_hear cX2_hear 5 (some .int) 2 := ⟨wd_137, wd_1186, by decide +kernel, by decide⟩
theorem cw_X2_middle : m_CW yX2_middle cX2_middle 7 (some .int) 2 := ⟨wd_137, wd_1182, by decide +kernel, by decide⟩
theorem cw_X2_told : m_CW yX2_told cX2_told 7 (some .int) 4 := ⟨wd_137, wd_568, by decide +kernel, by decide⟩
theorem cw_X2_upkeep : m_CW yX2_upkeep cX2_upkeep 6 (some .int) 3 := ⟨wd_137, wd_550, by decide +kernel, by decide⟩
theorem cw_X2_voice : m_CW yX2_voice cX2_voice 4 (some .int) 3 := ⟨wd_137, wd_1190, by decide +kernel, by decide⟩
theorem cw_X2_worth : m_CW yX2_worth cX2_worth 5 (some .int) 4 := ⟨wd_137, wd_984, by decide +kernel, by decide⟩
theorem cw_X3_forget : m_CW yX3_forget cX3_forget 1 none 0 := ⟨wd_139, wd_883, by decide +kernel, by decide⟩
theorem cw_X3_look : m_CW yX3_look cX3_look 4 none 1 := ⟨wd_139, wd_907, by decide +kernel, by decide⟩
theorem cw_X3_run : m_CW yX3_run cX3_run 7 (some .int) 3 := ⟨wd_139, wd_887, by decide +kernel, by decide⟩
theorem cw_X3_step : m_CW yX3_step cX3_step 7 (some .boolean) 4 := ⟨wd_139, wd_903, by decide +kernel, by decide⟩
theorem cw_X3_stoppedAt : m_CW yX3_stoppedAt cX3_stoppedAt 1 (some .int) 0 := ⟨wd_139, wd_1011, by decide +kernel, by decide⟩
theorem cw_X4_clear : m_CW yX4_clear cX4_clear 1 none 0 := ⟨wd_133, wd_526, by decide +kernel, by decide⟩
theorem cw_X4_copyFrom : m_CW yX4_copyFrom cX4_copyFrom 2 none 1 := ⟨wd_133, wd_896, by decide +kernel, by decide⟩
theorem cw_X4_keep : m_CW yX4_keep cX4_keep 3 none 2 := ⟨wd_133, wd_926, by decide +kernel, by decide⟩
theorem cw_X4_size : m_CW yX4_size cX4_size 1 (some .int) 0 := ⟨wd_133, wd_1367, by decide +kernel, by decide⟩
theorem cw_X4_takeBack : m_CW yX4_takeBack cX4_takeBack 2 (some .int) 1 := ⟨wd_133, wd_1049, by decide +kernel, by decide⟩
theorem cw_X5_advance : m_CW yX5_advance cX5_advance 1 none 0 := ⟨wd_134, wd_785, by decide +kernel, by decide⟩
theorem cw_X5_append : m_CW yX5_append cX5_append 3 none 1 := ⟨wd_134, wd_660, by decide +kernel, by decide⟩
theorem cw_X5_both : m_CW yX5_both cX5_both 5 (some .boolean) 1 := ⟨wd_134, wd_821, by decide +kernel, by decide⟩
theorem cw_X5_bracketed : m_CW yX5_bracketed cX5_bracketed 5 (some .boolean) 3 := ⟨wd_134, wd_813, by decide +kernel, by decide⟩
theorem cw_X5_byteAt : m_CW yX5_byteAt cX5_byteAt 2 (some .int) 1 := ⟨wd_134, wd_680, by decide +kernel, by decide⟩
theorem cw_X5_comparison : m_CW yX5_comparison cX5_comparison 4 (some .boolean) 1 := ⟨wd_134, wd_829, by decide +kernel, by decide⟩
theorem cw_X5_condition : m_CW yX5_condition cX5_condition 3 (some .boolean) 1 := ⟨wd_134, wd_849, by decide +kernel, by decide⟩
theorem cw_X5_cut : m_CW yX5_cut cX5_cut 2 none 1 := ⟨wd_134, wd_672, by decide +kernel, by decide⟩
theorem cw_X5_faultPlace : m_CW yX5_faultPlace cX5_faultPlace 1 (some .int) 0 := ⟨wd_134, wd_1003, by decide +kernel, by decide⟩
theorem cw_X5_hasRoom : m_CW yX5_hasRoom cX5_hasRoom 2 (some .boolean) 1 := ⟨wd_134, wd_656, by decide +kernel, by decide⟩
theorem cw_X5_isDigit : m_CW yX5_isDigit cX5_isDigit 1 (some .boolean) 1 := ⟨wd_134, wd_763, by decide +kernel, by decide⟩
theorem cw_X5_isLetter : m_CW yX5_isLetter cX5_isLetter 1 (some .boolean) 1 := ⟨wd_134, wd_707, by decide +kernel, by decide⟩
theorem cw_X5_lawClause : m_CW yX5_lawClause cX5_lawClause 3 (some .boolean) 0 := ⟨wd_134, wd_772, by decide +kernel, by decide⟩
theorem cw_X5_lawWord : m_CW yX5_lawWord cX5_lawWord 1 (some .int) 0 := ⟨wd_134, wd_841, by decide +kernel, by decide⟩
theorem cw_X5_length : m_CW yX5_length cX5_length 1 (some .int) 0 := ⟨wd_134, wd_664, by decide +kernel, by decide⟩
theorem cw_X5_numberOf : m_CW yX5_numberOf cX5_numberOf 5 (some .int) 2 := ⟨wd_134, wd_767, by decide +kernel, by decide⟩
theorem cw_X5_orderClause : m_CW yX5_orderClause cX5_orderClause 3 (some .boolean) 0 := ⟨wd_134, wd_853, by decide +kernel, by decide⟩
theorem cw_X5_orderWord : m_CW yX5_orderWord cX5_orderWord 1 (some .int) 0 := ⟨wd_134, wd_845, by decide +kernel, by decide⟩
theorem cw_X5_part : m_CW yX5_part cX5_part 7 (some .boolean) 1 := ⟨wd_134, wd_809, by decide +kernel, by decide⟩
theorem cw_X5_plain : m_CW yX5_plain cX5_plain 4 (some .boolean) 1 := ⟨wd_134, wd_825, by decide +kernel, by decide⟩
theorem cw_X5_reads : m_CW yX5_reads cX5_reads 4 (some .boolean) 1 := ⟨wd_134, wd_696, by decide +kernel, by decide⟩
theorem cw_X5_scan : m_CW yX5_scan cX5_scan 5 none 0 := ⟨wd_134, wd_704, by decide +kernel, by decide⟩
theorem cw_X5_sum : m_CW yX5_sum cX5_sum 5 (some .boolean) 1 := ⟨wd_134, wd_801, by decide +kernel, by decide⟩
theorem cw_X5_sumOf : m_CW yX5_sumOf cX5_sumOf 4 (some .boolean) 2 := ⟨wd_134, wd_789, by decide +kernel, by decide⟩
theorem cw_X5_term : m_CW yX5_term cX5_term 5 (some .boolean) 1 := ⟨wd_134, wd_805, by decide +kernel, by decide⟩
theorem cw_X5_test : m_CW yX5_test cX5_test 5 (some .boolean) 1 := ⟨wd_134, wd_817, by decide +kernel, by decide⟩
theorem cw_X5_text : m_CW yX5_text cX5_text 1 (some (.object "GiftDuel$Text")) 0 := ⟨wd_134, wd_861, by decide +kernel, by decide⟩
theorem cw_X5_times : m_CW yX5_times cX5_times 2 (some .boolean) 1 := ⟨wd_134, wd_857, by decide +kernel, by decide⟩
theorem cw_X5_wordOf : m_CW yX5_wordOf cX5_wordOf 8 (some .int) 2 := ⟨wd_134, wd_711, by decide +kernel, by decide⟩
theorem cw_X5_wrong : m_CW yX5_wrong cX5_wrong 1 (some .boolean) 0 := ⟨wd_134, wd_776, by decide +kernel, by decide⟩
theorem cw_X6_answer : m_CW yX6_answer cX6_answer 6 (some .int) 3 := ⟨wd_143, wd_1277, by decide +kernel, by decide⟩
theorem cw_X6_beating : m_CW yX6_beating cX6_beating 8 (some .int) 4 := ⟨wd_143, wd_1307, by decide +kernel, by decide⟩
theorem cw_X6_chosen : m_CW yX6_chosen cX6_chosen 2 (some .int) 2 := ⟨wd_143, wd_1295, by decide +kernel, by decide⟩
theorem cw_X6_lookAt : m_CW yX6_lookAt cX6_lookAt 10 none 3 := ⟨wd_143, wd_1284, by decide +kernel, by decide⟩
theorem cw_X6_rows : m_CW yX6_rows cX6_rows 7 (some .int) 1 := ⟨wd_143, wd_1291, by decide +kernel, by decide⟩
theorem cw_X6_takeFirst : m_CW yX6_takeFirst cX6_takeFirst 5 (some .boolean) 1 := ⟨wd_143, wd_1299, by decide +kernel, by decide⟩
theorem cw_X7_answer : m_CW yX7_answer cX7_answer 7 (some .int) 5 := ⟨wd_141, wd_1135, by decide +kernel, by decide⟩
theorem cw_X7_bitsOf : m_CW yX7_bitsOf cX7_bitsOf 4 (some .int) 1 := ⟨wd_141, wd_1166, by decide +kernel, by decide⟩
theorem cw_X7_cheapest : m_CW yX7_cheapest cX7_cheapest 9 (some .int) 1 := ⟨wd_141, wd_1148, by decide +kernel, by decide⟩
theorem cw_X7_fallOf : m_CW yX7_fallOf cX7_fallOf 7 (some .int) 3 := ⟨wd_141, wd_1122, by decide +kernel, by decide⟩
theorem cw_X7_falls : m_CW yX7_falls cX7_falls 6 (some .boolean) 2 := ⟨wd_141, wd_1152, by decide +kernel, by decide⟩
theorem cw_X7_gather : m_CW yX7_gather cX7_gather 9 none 4 := ⟨wd_141, wd_1139, by decide +kernel, by decide⟩
theorem cw_X7_worthOf : m_CW yX7_worthOf cX7_worthOf 4 (some .int) 1 := ⟨wd_141, wd_1156, by decide +kernel, by decide⟩
theorem cw_X8_add : m_CW yX8_add cX8_add 3 (some .int) 2 := ⟨wd_135, wd_833, by decide +kernel, by decide⟩
theorem cw_X8_clauses : m_CW yX8_clauses cX8_clauses 1 (some .int) 0 := ⟨wd_135, wd_572, by decide +kernel, by decide⟩
theorem cw_X8_empty : m_CW yX8_empty cX8_empty 1 none 0 := ⟨wd_135, wd_700, by decide +kernel, by decide⟩
theorem cw_X8_isSo : m_CW yX8_isSo cX8_isSo 5 (some .boolean) 3 := ⟨wd_135, wd_580, by decide +kernel, by decide⟩
theorem cw_X8_landHere : m_CW yX8_landHere cX8_landHere 2 none 1 := ⟨wd_135, wd_837, by decide +kernel, by decide⟩
theorem cw_X8_open : m_CW yX8_open cX8_open 2 (some .int) 1 := ⟨wd_135, wd_780, by decide +kernel, by decide⟩
theorem cw_X8_part : m_CW yX8_part cX8_part 3 (some .int) 2 := ⟨wd_135, wd_576, by decide +kernel, by decide⟩
theorem cw_X8_setPart : m_CW yX8_setPart cX8_setPart 4 none 3 := ⟨wd_135, wd_797, by decide +kernel, by decide⟩
theorem cw_X8_size : m_CW yX8_size cX8_size 1 (some .int) 0 := ⟨wd_135, wd_793, by decide +kernel, by decide⟩
theorem cw_X8_sum : m_CW yX8_sum cX8_sum 6 (some .int) 4 := ⟨wd_135, wd_591, by decide +kernel, by decide⟩
theorem cw_X8_value : m_CW yX8_value cX8_value 16 (some .int) 4 := ⟨wd_135, wd_584, by decide +kernel, by decide⟩
theorem cw_X9_answer : m_CW yX9_answer cX9_answer 5 (some .int) 4 := ⟨wd_142, wd_1220, by decide +kernel, by decide⟩
theorem cw_X9_closes : m_CW yX9_closes cX9_closes 7 (some .boolean) 4 := ⟨wd_142, wd_1256, by decide +kernel, by decide⟩
theorem cw_X9_draw : m_CW yX9_draw cX9_draw 9 none 1 := ⟨wd_142, wd_1224, by decide +kernel, by decide⟩
theorem cw_X9_ofRing : m_CW yX9_ofRing cX9_ofRing 5 (some .int) 2 := ⟨wd_142, wd_1247, by decide +kernel, by decide⟩
theorem cw_X9_walk : m_CW yX9_walk cX9_walk 8 none 4 := ⟨wd_142, wd_1238, by decide +kernel, by decide⟩
theorem fl_RX0_12 : m_FL RX0 12 0 1 true := ⟨RX0, TX0, 3, rfl, inX0, by decide, rfl, wd_293, tyX0_ok, nmX0, rfl, fun _ => rfl⟩
theorem fl_RX0_18 : m_FL RX0 18 0 2 false := ⟨RX0, TX0, 3, rfl, inX0, by decide, rfl, wd_294, tyX0_ok, nmX0, rfl, fun h => by cases h⟩
theorem fl_RX0_22 : m_FL RX0 22 0 0 true := ⟨RX0, TX0, 3, rfl, inX0, by decide, rfl, wd_292, tyX0_ok, nmX0, rfl, fun _ => rfl⟩
theorem fl_RX10_11 : m_FL RX10 11 10 0 true := ⟨RX10, TX10, 3, rfl, inX10, by decide, rfl, wd_173, tyX10_ok, nmX10, rfl, fun _ => rfl⟩
theorem fl_RX10_17 : m_FL RX10 17 10 1 true := ⟨RX10, TX10, 3, rfl, inX10, by decide, rfl, wd_174, tyX10_ok, nmX10, rfl, fun _ => rfl⟩
theorem fl_RX10_21 : m_FL RX10 21 10 2 false := ⟨RX10, TX10, 3, rfl, inX10, by decide, rfl, wd_175, tyX10_ok, nmX10, rfl, fun h => by cases h⟩
theorem fl_RX11_10 : m_FL RX11 10 11 0 true := ⟨RX11, TX11, 15, rfl, inX11, by decide, rfl, wd_462, tyX11_ok, nmX11, rfl, fun _ => rfl⟩
theorem fl_RX11_16 : m_FL RX11 16 11 1 true := ⟨RX11, TX11, 15, rfl, inX11, by decide, rfl, wd_463, tyX11_ok, nmX11, rfl, fun _ => rfl⟩
theorem fl_RX11_19 : m_FL RX11 19 11 2 true := ⟨RX11, TX11, 15, rfl, inX11, by decide, rfl, wd_464, tyX11_ok, nmX11, rfl, fun _ => rfl⟩
theorem fl_RX11_25 : m_FL RX11 25 11 3 true := ⟨RX11, TX11, 15, rfl, inX11, by decide, rfl, wd_465, tyX11_ok, nmX11, rfl, fun _ => rfl⟩
theorem fl_RX11_32 : m_FL RX11 32 11 4 true := ⟨RX11, TX11, 15, rfl, inX11, by decide, rfl, wd_466, tyX11_ok, nmX11, rfl, fun _ => rfl⟩
theorem fl_RX11_39 : m_FL RX11 39 11 5 true := ⟨RX11, TX11, 15, rfl, inX11, by decide, rfl, wd_467, tyX11_ok, nmX11, rfl, fun _ => rfl⟩
theorem fl_RX11_48 : m_FL RX11 48 11 6 true := ⟨RX11, TX11, 15, rfl, inX11, by decide, rfl, wd_468, tyX11_ok, nmX11, rfl, fun _ => rfl⟩
theorem fl_RX11_57 : m_FL RX11 57 11 7 true := ⟨RX11, TX11, 15, rfl, inX11, by decide, rfl, wd_469, tyX11_ok, nmX11, rfl, fun _ => rfl⟩
theorem fl_RX11_64 : m_FL RX11 64 11 8 true := ⟨RX11, TX11, 15, rfl, inX11, by decide, rfl, wd_470, tyX11_ok, nmX11, rfl, fun _ => rfl⟩
theorem fl_RX11_71 : m_FL RX11 71 11 9 true := ⟨RX11, TX11, 15, rfl, inX11, by decide, rfl, wd_471, tyX11_ok, nmX11, rfl, fun _ => rfl⟩
theorem fl_RX11_78 : m_FL RX11 78 11 10 true := ⟨RX11, TX11, 15, rfl, inX11, by decide, rfl, wd_472, tyX11_ok, nmX11, rfl, fun _ => rfl⟩
theorem fl_RX11_85 : m_FL RX11 85 11 11 true := ⟨RX11, TX11, 15, rfl, inX11, by decide, rfl, wd_473, tyX11_ok, nmX11, rfl, fun _ => rfl⟩
theorem fl_RX11_89 : m_FL RX11 89 11 12 true := ⟨RX11, TX11, 15, rfl, inX11, by decide, rfl, wd_474, tyX11_ok, nmX11, rfl, fun _ => rfl⟩
theorem fl_RX11_93 : m_FL RX11 93 11 13 false := ⟨RX11, TX11, 15, rfl, inX11, by decide, rfl, wd_475, tyX11_ok, nmX11, rfl, fun h => by cases h⟩
theorem fl_RX11_97 : m_FL RX11 97 11 14 false := ⟨RX11, TX11, 15, rfl, inX11, by decide, rfl, wd_476, tyX11_ok, nmX11, rfl, fun h => by cases h⟩
theorem fl_RX12_100 : m_FL RX12 100 12 36 true := ⟨RX12, TX12, 73, rfl, inX12, by decide, rfl, wd_1429, tyX12_ok, nmX12, rfl, fun _ => rfl⟩
theorem fl_RX12_103 : m_FL RX12 103 12 41 true := ⟨RX12, TX12, 73, rfl, inX12, by decide, rfl, wd_1434, tyX12_ok, nmX12, rfl, fun _ => rfl⟩
theorem fl_RX12_106 : m_FL RX12 106 12 42 true := ⟨RX12, TX12, 73, rfl, inX12, by decide, rfl, wd_1435, tyX12_ok, nmX12, rfl, fun _ => rfl⟩
theorem fl_RX12_109 : m_FL RX12 109 12 43 true := ⟨RX12, TX12, 73, rfl, inX12, by decide, rfl, wd_1436, tyX12_ok, nmX12, rfl, fun _ => rfl⟩
theorem fl_RX12_112 : m_FL RX12 112 12 44 true := ⟨RX12, TX12, 73, rfl, inX12, by decide, rfl, wd_1437, tyX12_ok, nmX12, rfl, fun _ => rfl⟩
theorem fl_RX12_115 : m_FL RX12 115 12 45 true := ⟨RX12, TX12, 73, rfl, inX12, by decide, rfl, wd_1438, tyX12_ok, nmX12, rfl, fun _ => rfl⟩
theorem fl_RX12_118 : m_FL RX12 118 12 46 true := ⟨RX12, TX12, 73, rfl, inX12, by decide, rfl, wd_1439, tyX12_ok, nmX12, rfl, fun _ => rfl⟩
theorem fl_RX12_121 : m_FL RX12 121 12 47 true := ⟨RX12, TX12, 73, rfl, inX12, by decide, rfl, wd_1440, tyX12_ok, nmX12, rfl, fun _ => rfl⟩
theorem fl_RX12_124 : m_FL RX12 124 12 48 true := ⟨RX12, TX12, 73, rfl, inX12, by decide, rfl, wd_1441, tyX12_ok, nmX12, rfl, fun _ => rfl⟩
theorem fl_RX12_127 : m_FL RX12 127 12 49 true := ⟨RX12, TX12, 73, rfl, inX12, by decide, rfl, wd_1442, tyX12_ok, nmX12, rfl, fun _ => rfl⟩
theorem fl_RX12_13 : m_FL RX12 13 12 3 true := ⟨RX12, TX12, 73, rfl, inX12, by decide, rfl, wd_1396, tyX12_ok, nmX12, rfl, fun _ => rfl⟩
theorem fl_RX12_130 : m_FL RX12 130 12 50 true := ⟨RX12, TX12, 73, rfl, inX12, by decide, rfl, wd_1443, tyX12_ok, nmX12, rfl, fun _ => rfl⟩
theorem fl_RX12_133 : m_FL RX12 133 12 51 true := ⟨RX12, TX12, 73, rfl, inX12, by decide, rfl, wd_1444, tyX12_ok, nmX12, rfl, fun _ => rfl⟩
theorem fl_RX12_136 : m_FL RX12 136 12 52 true := ⟨RX12, TX12, 73, rfl, inX12, by decide, rfl, wd_1445, tyX12_ok, nmX12, rfl, fun _ => rfl⟩
theorem fl_RX12_139 : m_FL RX12 139 12 58 true := ⟨RX12, TX12, 73, rfl, inX12, by decide, rfl, wd_1451, tyX12_ok, nmX12, rfl, fun _ => rfl⟩
theorem fl_RX12_142 : m_FL RX12 142 12 59 true := ⟨RX12, TX12, 73, rfl, inX12, by decide, rfl, wd_1452, tyX12_ok, nmX12, rfl, fun _ => rfl⟩
theorem fl_RX12_145 : m_FL RX12 145 12 60 true := ⟨RX12, TX12, 73, rfl, inX12, by decide, rfl, wd_1453, tyX12_ok, nmX12, rfl, fun _ => rfl⟩
theorem fl_RX12_148 : m_FL RX12 148 12 61 true := ⟨RX12, TX12, 73, rfl, inX12, by decide, rfl, wd_1454, tyX12_ok, nmX12, rfl, fun _ => rfl⟩
theorem fl_RX12_151 : m_FL RX12 151 12 62 true := ⟨RX12, TX12, 73, rfl, inX12, by decide, rfl, wd_1455, tyX12_ok, nmX12, rfl, fun _ => rfl⟩
theorem fl_RX12_154 : m_FL RX12 154 12 63 true := ⟨RX12, TX12, 73, rfl, inX12, by decide, rfl, wd_1456, tyX12_ok, nmX12, rfl, fun _ => rfl⟩
theorem fl_RX12_157 : m_FL RX12 157 12 65 true := ⟨RX12, TX12, 73, rfl, inX12, by decide, rfl, wd_1458, tyX12_ok, nmX12, rfl, fun _ => rfl⟩
theorem fl_RX12_16 : m_FL RX12 16 12 4 true := ⟨RX12, TX12, 73, rfl, inX12, by decide, rfl, wd_1397, tyX12_ok, nmX12, rfl, fun _ => rfl⟩
theorem fl_RX12_160 : m_FL RX12 160 12 68 false := ⟨RX12, TX12, 73, rfl, inX12, by decide, rfl, wd_1461, tyX12_ok, nmX12, rfl, fun h => by cases h⟩
theorem fl_RX12_163 : m_FL RX12 163 12 71 true := ⟨RX12, TX12, 73, rfl, inX12, by decide, rfl, wd_1464, tyX12_ok, nmX12, rfl, fun _ => rfl⟩
theorem fl_RX12_166 : m_FL RX12 166 12 0 false := ⟨RX12, TX12, 73, rfl, inX12, by decide, rfl, wd_1393, tyX12_ok, nmX12, rfl, fun h => by cases h⟩
theorem fl_RX12_169 : m_FL RX12 169 12 1 false := ⟨RX12, TX12, 73, rfl, inX12, by decide, rfl, wd_1394, tyX12_ok, nmX12, rfl, fun h => by cases h⟩
theorem fl_RX12_172 : m_FL RX12 172 12 8 false := ⟨RX12, TX12, 73, rfl, inX12, by decide, rfl, wd_1401, tyX12_ok, nmX12, rfl, fun h => by cases h⟩
theorem fl_RX12_19 : m_FL RX12 19 12 5 true := ⟨RX12, TX12, 73, rfl, inX12, by decide, rfl, wd_1398, tyX12_ok, nmX12, rfl, fun _ => rfl⟩
theorem fl_RX12_23 : m_FL RX12 23 12 6 true := ⟨RX12, TX12, 73, rfl, inX12, by decide, rfl, wd_1399, tyX12_ok, nmX12, rfl, fun _ => rfl⟩
theorem fl_RX12_236 : m_FL RX12 236 12 13 false := ⟨RX12, TX12, 73, rfl, inX12, by decide, rfl, wd_1406, tyX12_ok, nmX12, rfl, fun h => by cases h⟩
theorem fl_RX12_239 : m_FL RX12 239 12 11 false := ⟨RX12, TX12, 73, rfl, inX12, by decide, rfl, wd_1404, tyX12_ok, nmX12, rfl, fun h => by cases h⟩
theorem fl_RX12_246 : m_FL RX12 246 12 15 false := ⟨RX12, TX12, 73, rfl, inX12, by decide, rfl, wd_1408, tyX12_ok, nmX12, rfl, fun h => by cases h⟩
theorem fl_RX12_249 : m_FL RX12 249 12 19 false := ⟨RX12, TX12, 73, rfl, inX12, by decide, rfl, wd_1412, tyX12_ok, nmX12, rfl, fun h => by cases h⟩
theorem fl_RX12_256 : m_FL RX12 256 12 14 false := ⟨RX12, TX12, 73, rfl, inX12, by decide, rfl, wd_1407, tyX12_ok, nmX12, rfl, fun h => by cases h⟩
theorem fl_RX12_259 : m_FL RX12 259 12 17 false := ⟨RX12, TX12, 73, rfl, inX12, by decide, rfl, wd_1410, tyX12_ok, nmX12, rfl, fun h => by cases h⟩
theorem fl_RX12_26 : m_FL RX12 26 12 7 true := ⟨RX12, TX12, 73, rfl, inX12, by decide, rfl, wd_1400, tyX12_ok, nmX12, rfl, fun _ => rfl⟩
theorem fl_RX12_269 : m_FL RX12 269 12 16 false := ⟨RX12, TX12, 73, rfl, inX12, by decide, rfl, wd_1409, tyX12_ok, nmX12, rfl, fun h => by cases h⟩
theorem fl_RX12_288 : m_FL RX12 288 12 23 false := ⟨RX12, TX12, 73, rfl, inX12, by decide, rfl, wd_1416, tyX12_ok, nmX12, rfl, fun h => by cases h⟩
theorem fl_RX12_29 : m_FL RX12 29 12 9 true := ⟨RX12, TX12, 73, rfl, inX12, by decide, rfl, wd_1402, tyX12_ok, nmX12, rfl, fun _ => rfl⟩
theorem fl_RX12_291 : m_FL RX12 291 12 29 false := ⟨RX12, TX12, 73, rfl, inX12, by decide, rfl, wd_1422, tyX12_ok, nmX12, rfl, fun h => by cases h⟩
theorem fl_RX12_311 : m_FL RX12 311 12 30 false := ⟨RX12, TX12, 73, rfl, inX12, by decide, rfl, wd_1423, tyX12_ok, nmX12, rfl, fun h => by cases h⟩
theorem fl_RX12_317 : m_FL RX12 317 12 26 false := ⟨RX12, TX12, 73, rfl, inX12, by decide, rfl, wd_1419, tyX12_ok, nmX12, rfl, fun h => by cases h⟩
theorem fl_RX12_32 : m_FL RX12 32 12 10 true := ⟨RX12, TX12, 73, rfl, inX12, by decide, rfl, wd_1403, tyX12_ok, nmX12, rfl, fun _ => rfl⟩
theorem fl_RX12_326 : m_FL RX12 326 12 20 false := ⟨RX12, TX12, 73, rfl, inX12, by decide, rfl, wd_1413, tyX12_ok, nmX12, rfl, fun h => by cases h⟩
theorem fl_RX12_35 : m_FL RX12 35 12 12 true := ⟨RX12, TX12, 73, rfl, inX12, by decide, rfl, wd_1405, tyX12_ok, nmX12, rfl, fun _ => rfl⟩
theorem fl_RX12_379 : m_FL RX12 379 12 21 false := ⟨RX12, TX12, 73, rfl, inX12, by decide, rfl, wd_1414, tyX12_ok, nmX12, rfl, fun h => by cases h⟩
theorem fl_RX12_38 : m_FL RX12 38 12 18 false := ⟨RX12, TX12, 73, rfl, inX12, by decide, rfl, wd_1411, tyX12_ok, nmX12, rfl, fun h => by cases h⟩
theorem fl_RX12_402 : m_FL RX12 402 12 37 false := ⟨RX12, TX12, 73, rfl, inX12, by decide, rfl, wd_1430, tyX12_ok, nmX12, rfl, fun h => by cases h⟩
theorem fl_RX12_405 : m_FL RX12 405 12 33 false := ⟨RX12, TX12, 73, rfl, inX12, by decide, rfl, wd_1426, tyX12_ok, nmX12, rfl, fun h => by cases h⟩
theorem fl_RX12_42 : m_FL RX12 42 12 22 true := ⟨RX12, TX12, 73, rfl, inX12, by decide, rfl, wd_1415, tyX12_ok, nmX12, rfl, fun _ => rfl⟩
theorem fl_RX12_420 : m_FL RX12 420 12 38 false := ⟨RX12, TX12, 73, rfl, inX12, by decide, rfl, wd_1431, tyX12_ok, nmX12, rfl, fun h => by cases h⟩
theorem fl_RX12_429 : m_FL RX12 429 12 39 false := ⟨RX12, TX12, 73, rfl, inX12, by decide, rfl, wd_1432, tyX12_ok, nmX12, rfl, fun h => by cases h⟩
theorem fl_RX12_45 : m_FL RX12 45 12 24 true := ⟨RX12, TX12, 73, rfl, inX12, by decide, rfl, wd_1417, tyX12_ok, nmX12, rfl, fun _ => rfl⟩
theorem fl_RX12_455 : m_FL RX12 455 12 40 false := ⟨RX12, TX12, 73, rfl, inX12, by decide, rfl, wd_1433, tyX12_ok, nmX12, rfl, fun h => by cases h⟩
theorem fl_RX12_48 : m_FL RX12 48 12 25 true := ⟨RX12, TX12, 73, rfl, inX12, by decide, rfl, wd_1418, tyX12_ok, nmX12, rfl, fun _ => rfl⟩
theorem fl_RX12_51 : m_FL RX12 51 12 27 true := ⟨RX12, TX12, 73, rfl, inX12, by decide, rfl, wd_1420, tyX12_ok, nmX12, rfl, fun _ => rfl⟩
theorem fl_RX12_530 : m_FL RX12 530 12 53 false := ⟨RX12, TX12, 73, rfl, inX12, by decide, rfl, wd_1446, tyX12_ok, nmX12, rfl, fun h => by cases h⟩
theorem fl_RX12_533 : m_FL RX12 533 12 54 false := ⟨RX12, TX12, 73, rfl, inX12, by decide, rfl, wd_1447, tyX12_ok, nmX12, rfl, fun h => by cases h⟩
theorem fl_RX12_539 : m_FL RX12 539 12 55 false := ⟨RX12, TX12, 73, rfl, inX12, by decide, rfl, wd_1448, tyX12_ok, nmX12, rfl, fun h => by cases h⟩
theorem fl_RX12_54 : m_FL RX12 54 12 28 true := ⟨RX12, TX12, 73, rfl, inX12, by decide, rfl, wd_1421, tyX12_ok, nmX12, rfl, fun _ => rfl⟩
theorem fl_RX12_553 : m_FL RX12 553 12 57 false := ⟨RX12, TX12, 73, rfl, inX12, by decide, rfl, wd_1450, tyX12_ok, nmX12, rfl, fun h => by cases h⟩
theorem fl_RX12_556 : m_FL RX12 556 12 56 false := ⟨RX12, TX12, 73, rfl, inX12, by decide, rfl, wd_1449, tyX12_ok, nmX12, rfl, fun h => by cases h⟩
theorem fl_RX12_568 : m_FL RX12 568 12 64 false := ⟨RX12, TX12, 73, rfl, inX12, by decide, rfl, wd_1457, tyX12_ok, nmX12, rfl, fun h => by cases h⟩
theorem fl_RX12_592 : m_FL RX12 592 12 69 false := ⟨RX12, TX12, 73, rfl, inX12, by decide, rfl, wd_1462, tyX12_ok, nmX12, rfl, fun h => by cases h⟩
theorem fl_RX12_595 : m_FL RX12 595 12 66 false := ⟨RX12, TX12, 73, rfl, inX12, by decide, rfl, wd_1459, tyX12_ok, nmX12, rfl, fun h => by cases h⟩
theorem fl_RX12_598 : m_FL RX12 598 12 67 false := ⟨RX12, TX12, 73, rfl, inX12, by decide, rfl, wd_1460, tyX12_ok, nmX12, rfl, fun h => by cases h⟩
theorem fl_RX12_611 : m_FL RX12 611 12 70 false := ⟨RX12, TX12, 73, rfl, inX12, by decide, rfl, wd_1463, tyX12_ok, nmX12, rfl, fun h => by cases h⟩
theorem fl_RX12_625 : m_FL RX12 625 12 72 false := ⟨RX12, TX12, 73, rfl, inX12, by decide, rfl, wd_1465, tyX12_ok, nmX12, rfl, fun h => by cases h⟩
theorem fl_RX12_7 : m_FL RX12 7 12 2 true := ⟨RX12, TX12, 73, rfl, inX12, by decide, rfl, wd_1395, tyX12_ok, nmX12, rfl, fun _ => rfl⟩
theorem fl_RX12_75 : m_FL RX12 75 12 31 true := ⟨RX12, TX12, 73, rfl, inX12, by decide, rfl, wd_1424, tyX12_ok, nmX12, rfl, fun _ => rfl⟩
theorem fl_RX12_91 : m_FL RX12 91 12 32 true := ⟨RX12, TX12, 73, rfl, inX12, by decide, rfl, wd_1425, tyX12_ok, nmX12, rfl, fun _ => rfl⟩
theorem fl_RX12_94 : m_FL RX12 94 12 34 true := ⟨RX12, TX12, 73, rfl, inX12, by decide, rfl, wd_1427, tyX12_ok, nmX12, rfl, fun _ => rfl⟩
theorem fl_RX12_97 : m_FL RX12 97 12 35 true := ⟨RX12, TX12, 73, rfl, inX12, by decide, rfl, wd_1428, tyX12_ok, nmX12, rfl, fun _ => rfl⟩
theorem fl_RX1_11 : m_FL RX1 11 1 1 true := ⟨RX1, TX1, 6, rfl, inX1, by decide, rfl, wd_344, tyX1_ok, nmX1, rfl, fun _ => rfl⟩
theorem fl_RX1_15 : m_FL RX1 15 1 2 true := ⟨RX1, TX1, 6, rfl, inX1, by decide, rfl, wd_345, tyX1_ok, nmX1, rfl, fun _ => rfl⟩
theorem fl_RX1_18 : m_FL RX1 18 1 3 true := ⟨RX1, TX1, 6, rfl, inX1, by decide, rfl, wd_346, tyX1_ok, nmX1, rfl, fun _ => rfl⟩
theorem fl_RX1_21 : m_FL RX1 21 1 4 true := ⟨RX1, TX1, 6, rfl, inX1, by decide, rfl, wd_347, tyX1_ok, nmX1, rfl, fun _ => rfl⟩
theorem fl_RX1_24 : m_FL RX1 24 1 5 true := ⟨RX1, TX1, 6, rfl, inX1, by decide, rfl, wd_348, tyX1_ok, nmX1, rfl, fun _ => rfl⟩
theorem fl_RX1_27 : m_FL RX1 27 1 0 true := ⟨RX1, TX1, 6, rfl, inX1, by decide, rfl, wd_343, tyX1_ok, nmX1, rfl, fun _ => rfl⟩
theorem fl_RX2_11 : m_FL RX2 11 2 0 true := ⟨RX2, TX2, 3, rfl, inX2, by decide, rfl, wd_274, tyX2_ok, nmX2, rfl, fun _ => rfl⟩
theorem fl_RX2_17 : m_FL RX2 17 2 1 true := ⟨RX2, TX2, 3, rfl, inX2, by decide, rfl, wd_275, tyX2_ok, nmX2, rfl, fun _ => rfl⟩
theorem fl_RX2_20 : m_FL RX2 20 2 2 true := ⟨RX2, TX2, 3, rfl, inX2, by decide, rfl, wd_276, tyX2_ok, nmX2, rfl, fun _ => rfl⟩
theorem fl_RX3_14 : m_FL RX3 14 3 1 true := ⟨RX3, TX3, 8, rfl, inX3, by decide, rfl, wd_313, tyX3_ok, nmX3, rfl, fun _ => rfl⟩
theorem fl_RX3_21 : m_FL RX3 21 3 2 true := ⟨RX3, TX3, 8, rfl, inX3, by decide, rfl, wd_314, tyX3_ok, nmX3, rfl, fun _ => rfl⟩
theorem fl_RX3_25 : m_FL RX3 25 3 3 true := ⟨RX3, TX3, 8, rfl, inX3, by decide, rfl, wd_315, tyX3_ok, nmX3, rfl, fun _ => rfl⟩
theorem fl_RX3_31 : m_FL RX3 31 3 4 true := ⟨RX3, TX3, 8, rfl, inX3, by decide, rfl, wd_316, tyX3_ok, nmX3, rfl, fun _ => rfl⟩
theorem fl_RX3_34 : m_FL RX3 34 3 5 false := ⟨RX3, TX3, 8, rfl, inX3, by decide, rfl, wd_317, tyX3_ok, nmX3, rfl, fun h => by cases h⟩
theorem fl_RX3_38 : m_FL RX3 38 3 6 false := ⟨RX3, TX3, 8, rfl, inX3, by decide, rfl, wd_318, tyX3_ok, nmX3, rfl, fun h => by cases h⟩
theorem fl_RX3_41 : m_FL RX3 41 3 7 false := ⟨RX3, TX3, 8, rfl, inX3, by decide, rfl, wd_319, tyX3_ok, nmX3, rfl, fun h => by cases h⟩
theorem fl_RX3_44 : m_FL RX3 44 3 0 true := ⟨RX3, TX3, 8, rfl, inX3, by decide, rfl, wd_312, tyX3_ok, nmX3, rfl, fun _ => rfl⟩
theorem fl_RX4_13 : m_FL RX4 13 4 0 true := ⟨RX4, TX4, 4, rfl, inX4, by decide, rfl, wd_190, tyX4_ok, nmX4, rfl, fun _ => rfl⟩
theorem fl_RX4_17 : m_FL RX4 17 4 1 true := ⟨RX4, TX4, 4, rfl, inX4, by decide, rfl, wd_191, tyX4_ok, nmX4, rfl, fun _ => rfl⟩
theorem fl_RX4_20 : m_FL RX4 20 4 2 false := ⟨RX4, TX4, 4, rfl, inX4, by decide, rfl, wd_192, tyX4_ok, nmX4, rfl, fun h => by cases h⟩
theorem fl_RX4_24 : m_FL RX4 24 4 3 false := ⟨RX4, TX4, 4, rfl, inX4, by decide, rfl, wd_193, tyX4_ok, nmX4, rfl, fun h => by cases h⟩
theorem fl_RX5_11 : m_FL RX5 11 5 0 true := ⟨RX5, TX5, 11, rfl, inX5, by decide, rfl, wd_234, tyX5_ok, nmX5, rfl, fun _ => rfl⟩
theorem fl_RX5_15 : m_FL RX5 15 5 1 true := ⟨RX5, TX5, 11, rfl, inX5, by decide, rfl, wd_235, tyX5_ok, nmX5, rfl, fun _ => rfl⟩
theorem fl_RX5_18 : m_FL RX5 18 5 2 true := ⟨RX5, TX5, 11, rfl, inX5, by decide, rfl, wd_236, tyX5_ok, nmX5, rfl, fun _ => rfl⟩
theorem fl_RX5_21 : m_FL RX5 21 5 3 true := ⟨RX5, TX5, 11, rfl, inX5, by decide, rfl, wd_237, tyX5_ok, nmX5, rfl, fun _ => rfl⟩
theorem fl_RX5_29 : m_FL RX5 29 5 4 true := ⟨RX5, TX5, 11, rfl, inX5, by decide, rfl, wd_238, tyX5_ok, nmX5, rfl, fun _ => rfl⟩
theorem fl_RX5_33 : m_FL RX5 33 5 5 false := ⟨RX5, TX5, 11, rfl, inX5, by decide, rfl, wd_239, tyX5_ok, nmX5, rfl, fun h => by cases h⟩
theorem fl_RX5_37 : m_FL RX5 37 5 6 false := ⟨RX5, TX5, 11, rfl, inX5, by decide, rfl, wd_240, tyX5_ok, nmX5, rfl, fun h => by cases h⟩
theorem fl_RX5_40 : m_FL RX5 40 5 7 false := ⟨RX5, TX5, 11, rfl, inX5, by decide, rfl, wd_241, tyX5_ok, nmX5, rfl, fun h => by cases h⟩
theorem fl_RX5_44 : m_FL RX5 44 5 8 false := ⟨RX5, TX5, 11, rfl, inX5, by decide, rfl, wd_242, tyX5_ok, nmX5, rfl, fun h => by cases h⟩
theorem fl_RX5_47 : m_FL RX5 47 5 9 false := ⟨RX5, TX5, 11, rfl, inX5, by decide, rfl, wd_243, tyX5_ok, nmX5, rfl, fun h => by cases h⟩
theorem fl_RX5_50 : m_FL RX5 50 5 10 false := ⟨RX5, TX5, 11, rfl, inX5, by decide, rfl, wd_244, tyX5_ok, nmX5, rfl, fun h => by cases h⟩
theorem fl_RX6_11 : m_FL RX6 11 6 1 true := ⟨RX6, TX6, 9, rfl, inX6, by decide, rfl, wd_434, tyX6_ok, nmX6, rfl, fun _ => rfl⟩
theorem fl_RX6_15 : m_FL RX6 15 6 2 true := ⟨RX6, TX6, 9, rfl, inX6, by decide, rfl, wd_435, tyX6_ok, nmX6, rfl, fun _ => rfl⟩
theorem fl_RX6_19 : m_FL RX6 19 6 3 true := ⟨RX6, TX6, 9, rfl, inX6, by decide, rfl, wd_436, tyX6_ok, nmX6, rfl, fun _ => rfl⟩
theorem fl_RX6_22 : m_FL RX6 22 6 4 true := ⟨RX6, TX6, 9, rfl, inX6, by decide, rfl, wd_437, tyX6_ok, nmX6, rfl, fun _ => rfl⟩
theorem fl_RX6_25 : m_FL RX6 25 6 5 false := ⟨RX6, TX6, 9, rfl, inX6, by decide, rfl, wd_438, tyX6_ok, nmX6, rfl, fun h => by cases h⟩
theorem fl_RX6_29 : m_FL RX6 29 6 6 false := ⟨RX6, TX6, 9, rfl, inX6, by decide, rfl, wd_439, tyX6_ok, nmX6, rfl, fun h => by cases h⟩
theorem fl_RX6_32 : m_FL RX6 32 6 7 false := ⟨RX6, TX6, 9, rfl, inX6, by decide, rfl, wd_440, tyX6_ok, nmX6, rfl, fun h => by cases h⟩
theorem fl_RX6_35 : m_FL RX6 35 6 8 false := ⟨RX6, TX6, 9, rfl, inX6, by decide, rfl, wd_441, tyX6_ok, nmX6, rfl, fun h => by cases h⟩
theorem fl_RX6_38 : m_FL RX6 38 6 0 true := ⟨RX6, TX6, 9, rfl, inX6, by decide, rfl, wd_433, tyX6_ok, nmX6, rfl, fun _ => rfl⟩
theorem fl_RX7_11 : m_FL RX7 11 7 1 true := ⟨RX7, TX7, 8, rfl, inX7, by decide, rfl, wd_369, tyX7_ok, nmX7, rfl, fun _ => rfl⟩
theorem fl_RX7_15 : m_FL RX7 15 7 2 true := ⟨RX7, TX7, 8, rfl, inX7, by decide, rfl, wd_370, tyX7_ok, nmX7, rfl, fun _ => rfl⟩
theorem fl_RX7_18 : m_FL RX7 18 7 3 true := ⟨RX7, TX7, 8, rfl, inX7, by decide, rfl, wd_371, tyX7_ok, nmX7, rfl, fun _ => rfl⟩
theorem fl_RX7_21 : m_FL RX7 21 7 4 true := ⟨RX7, TX7, 8, rfl, inX7, by decide, rfl, wd_372, tyX7_ok, nmX7, rfl, fun _ => rfl⟩
theorem fl_RX7_24 : m_FL RX7 24 7 5 false := ⟨RX7, TX7, 8, rfl, inX7, by decide, rfl, wd_373, tyX7_ok, nmX7, rfl, fun h => by cases h⟩
theorem fl_RX7_28 : m_FL RX7 28 7 6 false := ⟨RX7, TX7, 8, rfl, inX7, by decide, rfl, wd_374, tyX7_ok, nmX7, rfl, fun h => by cases h⟩
theorem fl_RX7_31 : m_FL RX7 31 7 7 false := ⟨RX7, TX7, 8, rfl, inX7, by decide, rfl, wd_375, tyX7_ok, nmX7, rfl, fun h => by cases h⟩
theorem fl_RX7_34 : m_FL RX7 34 7 0 true := ⟨RX7, TX7, 8, rfl, inX7, by decide, rfl, wd_368, tyX7_ok, nmX7, rfl, fun _ => rfl⟩
theorem fl_RX8_13 : m_FL RX8 13 8 0 true := ⟨RX8, TX8, 5, rfl, inX8, by decide, rfl, wd_218, tyX8_ok, nmX8, rfl, fun _ => rfl⟩
theorem fl_RX8_19 : m_FL RX8 19 8 1 true := ⟨RX8, TX8, 5, rfl, inX8, by decide, rfl, wd_219, tyX8_ok, nmX8, rfl, fun _ => rfl⟩
theorem fl_RX8_22 : m_FL RX8 22 8 2 true := ⟨RX8, TX8, 5, rfl, inX8, by decide, rfl, wd_220, tyX8_ok, nmX8, rfl, fun _ => rfl⟩
theorem fl_RX8_25 : m_FL RX8 25 8 3 false := ⟨RX8, TX8, 5, rfl, inX8, by decide, rfl, wd_221, tyX8_ok, nmX8, rfl, fun h => by cases h⟩
theorem fl_RX8_29 : m_FL RX8 29 8 4 false := ⟨RX8, TX8, 5, rfl, inX8, by decide, rfl, wd_222, tyX8_ok, nmX8, rfl, fun h => by cases h⟩
theorem fl_RX9_15 : m_FL RX9 15 9 1 true := ⟨RX9, TX9, 9, rfl, inX9, by decide, rfl, wd_400, tyX9_ok, nmX9, rfl, fun _ => rfl⟩
theorem fl_RX9_18 : m_FL RX9 18 9 2 true := ⟨RX9, TX9, 9, rfl, inX9, by decide, rfl, wd_401, tyX9_ok, nmX9, rfl, fun _ => rfl⟩
theorem fl_RX9_21 : m_FL RX9 21 9 3 true := ⟨RX9, TX9, 9, rfl, inX9, by decide, rfl, wd_402, tyX9_ok, nmX9, rfl, fun _ => rfl⟩
theorem fl_RX9_24 : m_FL RX9 24 9 4 false := ⟨RX9, TX9, 9, rfl, inX9, by decide, rfl, wd_403, tyX9_ok, nmX9, rfl, fun h => by cases h⟩
theorem fl_RX9_28 : m_FL RX9 28 9 5 false := ⟨RX9, TX9, 9, rfl, inX9, by decide, rfl, wd_404, tyX9_ok, nmX9, rfl, fun h => by cases h⟩
theorem fl_RX9_31 : m_FL RX9 31 9 6 false := ⟨RX9, TX9, 9, rfl, inX9, by decide, rfl, wd_405, tyX9_ok, nmX9, rfl, fun h => by cases h⟩
theorem fl_RX9_34 : m_FL RX9 34 9 7 false := ⟨RX9, TX9, 9, rfl, inX9, by decide, rfl, wd_406, tyX9_ok, nmX9, rfl, fun h => by cases h⟩
theorem fl_RX9_37 : m_FL RX9 37 9 8 false := ⟨RX9, TX9, 9, rfl, inX9, by decide, rfl, wd_407, tyX9_ok, nmX9, rfl, fun h => by cases h⟩
theorem fl_RX9_9 : m_FL RX9 9 9 0 true := ⟨RX9, TX9, 9, rfl, inX9, by decide, rfl, wd_399, tyX9_ok, nmX9, rfl, fun _ => rfl⟩
theorem kc_RJ6_264 : Cond.constant RJ6 264 (Int32.ofInt 65536) ∈ lw_g := wd_1252
theorem kc_RJ6_265 : Cond.constant RJ6 265 (Int32.ofInt 1431655765) ∈ lw_g := wd_1160
theorem kc_RJ6_266 : Cond.constant RJ6 266 (Int32.ofInt 858993459) ∈ lw_g := wd_1161
theorem kc_RJ6_267 : Cond.constant RJ6 267 (Int32.ofInt 252645135) ∈ lw_g := wd_1162
theorem kc_RX0_122 : Cond.constantLong RX0 122 (Int64.ofInt 1103) ∈ lw_g := wd_1324
theorem kc_RX0_124 : Cond.constantLong RX0 124 (Int64.ofInt 12345) ∈ lw_g := wd_1325
theorem kc_RX0_126 : Cond.constantLong RX0 126 (Int64.ofInt 1000003) ∈ lw_g := wd_1326
theorem kc_RX11_294 : Cond.constant RX11 294 (Int32.ofInt 1000000) ∈ lw_g := wd_1314
theorem kc_RX12_186 : Cond.constantLong RX12 186 (Int64.ofInt 9999) ∈ lw_g := wd_1637
theorem kc_RX12_188 : Cond.constantLong RX12 188 (Int64.ofInt 99) ∈ lw_g := wd_1638
theorem kc_RX12_202 : Cond.constantLong RX12 202 (Int64.ofInt 7) ∈ lw_g := wd_1647
theorem kc_RX12_220 : Cond.constantLong RX12 220 (Int64.ofInt 20) ∈ lw_g := wd_1725
theorem kc_RX12_228 : Cond.constantLong RX12 228 (Int64.ofInt 5) ∈ lw_g := wd_1730
theorem kc_RX12_230 : Cond.constantLong RX12 230 (Int64.ofInt 999) ∈ lw_g := wd_1735
theorem kc_RX12_232 : Cond.constantLong RX12 232 (Int64.ofInt 3) ∈ lw_g := wd_1736
theorem kc_RX12_234 : Cond.constantLong RX12 234 (Int64.ofInt 9) ∈ lw_g := wd_1737
theorem kc_RX12_272 : Cond.constantLong RX12 272 (Int64.ofInt 32) ∈ lw_g := wd_1784
theorem kc_RX12_274 : Cond.constantLong RX12 274 (Int64.ofInt 96) ∈ lw_g := wd_1785
theorem kc_RX12_276 : Cond.constantLong RX12 276 (Int64.ofInt (-1)) ∈ lw_g := wd_1692
theorem kc_RX12_278 : Cond.constantLong RX12 278 (Int64.ofInt 1000000) ∈ lw_g := wd_1786
theorem kc_RX12_280 : Cond.constantLong RX12 280 (Int64.ofInt 10) ∈ lw_g := wd_1787
theorem kc_RX12_282 : Cond.constantLong RX12 282 (Int64.ofInt 48) ∈ lw_g := wd_1788
theorem kc_RX12_301 : Cond.constantLong RX12 301 (Int64.ofInt 24) ∈ lw_g := wd_1870
theorem kc_RX12_303 : Cond.constantLong RX12 303 (Int64.ofInt 25) ∈ lw_g := wd_1871
theorem kc_RX12_305 : Cond.constantLong RX12 305 (Int64.ofInt 27) ∈ lw_g := wd_1872
theorem kc_RX12_335 : Cond.constantLong RX12 335 (Int64.ofInt 1000) ∈ lw_g := wd_1837
theorem kc_RX12_341 : Cond.constantLong RX12 341 (Int64.ofInt 15) ∈ lw_g := wd_1846
theorem kc_RX12_347 : Cond.constantLong RX12 347 (Int64.ofInt 14836) ∈ lw_g := wd_1812
theorem kc_RX12_362 : Cond.constantLong RX12 362 (Int64.ofInt 1476) ∈ lw_g := wd_1877
theorem kc_RX12_364 : Cond.constantLong RX12 364 (Int64.ofInt 498) ∈ lw_g := wd_1878
theorem kc_RX12_382 : Cond.constantLong RX12 382 (Int64.ofInt 24627848) ∈ lw_g := wd_1793
theorem kc_RX12_384 : Cond.constantLong RX12 384 (Int64.ofInt 11703827) ∈ lw_g := wd_1798
theorem kc_RX12_386 : Cond.constantLong RX12 386 (Int64.ofInt 67155) ∈ lw_g := wd_1799
theorem kc_RX12_391 : Cond.constantLong RX12 391 (Int64.ofInt 294) ∈ lw_g := wd_1879
theorem kc_RX12_416 : Cond.constantLong RX12 416 (Int64.ofInt (-1000000000)) ∈ lw_g := wd_1704
theorem kc_RX12_418 : Cond.constantLong RX12 418 (Int64.ofInt 1000000000) ∈ lw_g := wd_1705
theorem kc_RX12_443 : Cond.constantLong RX12 443 (Int64.ofInt 2) ∈ lw_g := wd_1892
theorem kc_RX12_515 : Cond.constant RX12 515 (Int32.ofInt 100000000) ∈ lw_g := wd_2004
theorem kc_RX12_525 : Cond.constantLong RX12 525 (Int64.ofInt 30) ∈ lw_g := wd_2032
theorem kc_RX12_548 : Cond.constantLong RX12 548 (Int64.ofInt 8) ∈ lw_g := wd_2037
theorem kc_RX12_583 : Cond.constantLong RX12 583 (Int64.ofInt 239301) ∈ lw_g := wd_2108
theorem kc_RX12_585 : Cond.constantLong RX12 585 (Int64.ofInt 754996) ∈ lw_g := wd_2109
theorem kc_RX12_590 : Cond.constantLong RX12 590 (Int64.ofInt 21279923) ∈ lw_g := wd_2114
theorem kc_RX12_614 : Cond.constantLong RX12 614 (Int64.ofInt 1103) ∈ lw_g := wd_2136
theorem kc_RX12_616 : Cond.constantLong RX12 616 (Int64.ofInt 12345) ∈ lw_g := wd_2137
theorem kc_RX12_618 : Cond.constantLong RX12 618 (Int64.ofInt 1000003) ∈ lw_g := wd_2138
theorem kc_RX12_620 : Cond.constantLong RX12 620 (Int64.ofInt 50) ∈ lw_g := wd_2131
theorem kc_RX12_628 : Cond.constantLong RX12 628 (Int64.ofInt 6) ∈ lw_g := wd_2143
theorem kc_RX12_633 : Cond.constantLong RX12 633 (Int64.ofInt 14) ∈ lw_g := wd_2152
theorem kc_RX12_635 : Cond.constantLong RX12 635 (Int64.ofInt 16) ∈ lw_g := wd_2153
theorem kc_RX12_67 : Cond.constantLong RX12 67 (Int64.ofInt 655) ∈ lw_g := wd_1383
theorem kc_RX2_65 : Cond.constant RX2 65 (Int32.ofInt (-2000000000)) ∈ lw_g := wd_592
theorem kc_RX8_51 : Cond.constant RX8 51 (Int32.ofInt (-2000000000)) ∈ lw_g := wd_585
theorem kc_RX8_52 : Cond.constantLong RX8 52 (Int64.ofInt 1000000000) ∈ lw_g := wd_586
theorem kc_RX8_54 : Cond.constantLong RX8 54 (Int64.ofInt (-1000000000)) ∈ lw_g := wd_587
theorem kc_RX9_44 : Cond.constant RX9 44 (Int32.ofInt 100000) ∈ lw_g := wd_1234
theorem ml_RX0_70 : Cond.methodLink RX0 70 Lib.Math.max.name ∈ lw_g := wd_942
theorem ml_RX0_87 : Cond.methodLink RX0 87 Lib.Math.min.name ∈ lw_g := wd_940
theorem ml_RX10_31 : Cond.methodLink RX10 31 arraycopyName ∈ lw_g := wd_892
theorem ml_RX2_66 : Cond.methodLink RX2 66 Lib.Math.min.name ∈ lw_g := wd_593
theorem ml_RX2_71 : Cond.methodLink RX2 71 Lib.Math.max.name ∈ lw_g := wd_596
theorem ml_RX4_27 : Cond.methodLink RX4 27 arraycopyName ∈ lw_g := wd_897
theorem ml_RX4_37 : Cond.methodLink RX4 37 Lib.Math.min.name ∈ lw_g := wd_931
theorem ml_RX5_86 : Cond.methodLink RX5 86 Lib.Math.min.name ∈ lw_g := wd_768
theorem ml_RX5_93 : Cond.methodLink RX5 93 yJ0_length_8abf5 ∈ lw_g := wd_713
theorem ml_RX5_98 : Cond.methodLink RX5 98 yJ0_charAt_5068e ∈ lw_g := wd_723
theorem ml_RX6_48 : Cond.methodLink RX6 48 Lib.Math.min.name ∈ lw_g := wd_1279
theorem ml_RX6_93 : Cond.methodLink RX6 93 Lib.Math.max.name ∈ lw_g := wd_1309
theorem ml_RX7_52 : Cond.methodLink RX7 52 Lib.Math.min.name ∈ lw_g := wd_1126
theorem ml_RX9_55 : Cond.methodLink RX9 55 Lib.Math.min.name ∈ lw_g := wd_1226
theorem ml_RX9_70 : Cond.methodLink RX9 70 arraycopyName ∈ lw_g := wd_1239
theorem sp_1000 : (Int16.ofInt 1000).toInt32 = Int32.ofInt 1000 := by decide +kernel
theorem sp_1001 : (Int16.ofInt 1001).toInt32 = Int32.ofInt 1001 := by decide +kernel
theorem sp_141 : (Int16.ofInt 141).toInt32 = Int32.ofInt 141 := by decide +kernel
theorem sp_155 : (Int16.ofInt 155).toInt32 = Int32.ofInt 155 := by decide +kernel
theorem sp_191 : (Int16.ofInt 191).toInt32 = Int32.ofInt 191 := by decide +kernel
theorem sp_192 : (Int16.ofInt 192).toInt32 = Int32.ofInt 192 := by decide +kernel
theorem sp_193 : (Int16.ofInt 193).toInt32 = Int32.ofInt 193 := by decide +kernel
theorem sp_194 : (Int16.ofInt 194).toInt32 = Int32.ofInt 194 := by decide +kernel
theorem sp_195 : (Int16.ofInt 195).toInt32 = Int32.ofInt 195 := by decide +kernel
theorem sp_196 : (Int16.ofInt 196).toInt32 = Int32.ofInt 196 := by decide +kernel
theorem sp_197 : (Int16.ofInt 197).toInt32 = Int32.ofInt 197 := by decide +kernel
theorem sp_213 : (Int16.ofInt 213).toInt32 = Int32.ofInt 213 := by decide +kernel
theorem sp_218 : (Int16.ofInt 218).toInt32 = Int32.ofInt 218 := by decide +kernel
theorem sp_255 : (Int16.ofInt 255).toInt32 = Int32.ofInt 255 := by decide +kernel
theorem sp_256 : (Int16.ofInt 256).toInt32 = Int32.ofInt 256 := by decide +kernel
theorem sp_257 : (Int16.ofInt 257).toInt32 = Int32.ofInt 257 := by decide +kernel
theorem sp_258 : (Int16.ofInt 258).toInt32 = Int32.ofInt 258 := by decide +kernel
theorem sp_259 : (Int16.ofInt 259).toInt32 = Int32.ofInt 259 := by decide +kernel
theorem sp_260 : (Int16.ofInt 260).toInt32 = Int32.ofInt 260 := by decide +kernel
theorem sp_261 : (Int16.ofInt 261).toInt32 = Int32.ofInt 261 := by decide +kernel
theorem sp_262 : (Int16.ofInt 262).toInt32 = Int32.ofInt 262 := by decide +kernel
theorem sp_263 : (Int16.ofInt 263).toInt32 = Int32.ofInt 263 := by decide +kernel
theorem sp_264 : (Int16.ofInt 264).toInt32 = Int32.ofInt 264 := by decide +kernel
theorem sp_265 : (Int16.ofInt 265).toInt32 = Int32.ofInt 265 := by decide +kernel
theorem sp_266 : (Int16.ofInt 266).toInt32 = Int32.ofInt 266 := by decide +kernel
theorem sp_267 : (Int16.ofInt 267).toInt32 = Int32.ofInt 267 := by decide +kernel
theorem sp_270 : (Int16.ofInt 270).toInt32 = Int32.ofInt 270 := by decide +kernel
theorem sp_271 : (Int16.ofInt 271).toInt32 = Int32.ofInt 271 := by decide +kernel
theorem sp_272 : (Int16.ofInt 272).toInt32 = Int32.ofInt 272 := by decide +kernel
theorem sp_274 : (Int16.ofInt 274).toInt32 = Int32.ofInt 274 := by decide +kernel
theorem sp_275 : (Int16.ofInt 275).toInt32 = Int32.ofInt 275 := by decide +kernel
theorem sp_277 : (Int16.ofInt 277).toInt32 = Int32.ofInt 277 := by decide +kernel
theorem sp_278 : (Int16.ofInt 278).toInt32 = Int32.ofInt 278 := by decide +kernel
theorem sp_279 : (Int16.ofInt 279).toInt32 = Int32.ofInt 279 := by decide +kernel
theorem sp_400 : (Int16.ofInt 400).toInt32 = Int32.ofInt 400 := by decide +kernel
theorem sp_4050 : (Int16.ofInt 4050).toInt32 = Int32.ofInt 4050 := by decide +kernel
theorem sp_4095 : (Int16.ofInt 4095).toInt32 = Int32.ofInt 4095 := by decide +kernel
theorem sp_4320 : (Int16.ofInt 4320).toInt32 = Int32.ofInt 4320 := by decide +kernel
theorem sp_5670 : (Int16.ofInt 5670).toInt32 = Int32.ofInt 5670 := by decide +kernel
theorem sp_576 : (Int16.ofInt 576).toInt32 = Int32.ofInt 576 := by decide +kernel
theorem sp_900 : (Int16.ofInt 900).toInt32 = Int32.ofInt 900 := by decide +kernel
theorem sp_999 : (Int16.ofInt 999).toInt32 = Int32.ofInt 999 := by decide +kernel
theorem sp_9999 : (Int16.ofInt 9999).toInt32 = Int32.ofInt 9999 := by decide +kernel
