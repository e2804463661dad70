theorem dX12_count_90 : decode cX12_count 90 = .ok (.aload_n 0, 1) := by decide +kernel
theorem dX12_count_91 : decode cX12_count 91 = .ok (.getfield 13, 3) := by decide +kernel
theorem dX12_count_94 : decode cX12_count 94 = .ok (.iconst 2, 1) := by decide +kernel
theorem dX12_count_95 : decode cX12_count 95 = .ok (.iaload, 1) := by decide +kernel
theorem dX12_count_96 : decode cX12_count 96 = .ok (.ireturn, 1) := by decide +kernel
theorem dX12_count_97 : decode cX12_count 97 = .ok (.aload_n 0, 1) := by decide +kernel
theorem dX12_count_98 : decode cX12_count 98 = .ok (.getfield 13, 3) := by decide +kernel
theorem dX12_count_101 : decode cX12_count 101 = .ok (.iconst 3, 1) := by decide +kernel
theorem dX12_count_102 : decode cX12_count 102 = .ok (.iaload, 1) := by decide +kernel
theorem dX12_count_103 : decode cX12_count 103 = .ok (.ireturn, 1) := by decide +kernel
theorem dX12_count_104 : decode cX12_count 104 = .ok (.aload_n 0, 1) := by decide +kernel
theorem dX12_count_105 : decode cX12_count 105 = .ok (.getfield 13, 3) := by decide +kernel
theorem dX12_count_108 : decode cX12_count 108 = .ok (.iconst 4, 1) := by decide +kernel
theorem dX12_count_109 : decode cX12_count 109 = .ok (.iaload, 1) := by decide +kernel
theorem dX12_count_110 : decode cX12_count 110 = .ok (.ireturn, 1) := by decide +kernel
theorem dX12_count_111 : decode cX12_count 111 = .ok (.aload_n 0, 1) := by decide +kernel
theorem dX12_count_112 : decode cX12_count 112 = .ok (.invokevirtual 630, 3) := by decide +kernel
theorem dX12_count_115 : decode cX12_count 115 = .ok (.ireturn, 1) := by decide +kernel
theorem dX12_count_116 : decode cX12_count 116 = .ok (.aload_n 0, 1) := by decide +kernel
theorem dX12_count_117 : decode cX12_count 117 = .ok (.getfield 172, 3) := by decide +kernel
theorem dX12_count_120 : decode cX12_count 120 = .ok (.ireturn, 1) := by decide +kernel
theorem dX12_count_121 : decode cX12_count 121 = .ok (.aload_n 0, 1) := by decide +kernel
theorem dX12_count_122 : decode cX12_count 122 = .ok (.getfield 236, 3) := by decide +kernel
theorem dX12_count_125 : decode cX12_count 125 = .ok (.ireturn, 1) := by decide +kernel
theorem dX12_count_126 : decode cX12_count 126 = .ok (.aload_n 0, 1) := by decide +kernel
theorem dX12_count_127 : decode cX12_count 127 = .ok (.getfield 7, 3) := by decide +kernel
theorem dX12_count_130 : decode cX12_count 130 = .ok (.iconst 1, 1) := by decide +kernel
theorem dX12_count_131 : decode cX12_count 131 = .ok (.iaload, 1) := by decide +kernel
theorem dX12_count_132 : decode cX12_count 132 = .ok (.ireturn, 1) := by decide +kernel
theorem dX12_count_133 : decode cX12_count 133 = .ok (.aload_n 0, 1) := by decide +kernel
theorem dX12_count_134 : decode cX12_count 134 = .ok (.getfield 7, 3) := by decide +kernel
theorem dX12_count_137 : decode cX12_count 137 = .ok (.iconst 2, 1) := by decide +kernel
theorem dX12_count_138 : decode cX12_count 138 = .ok (.iaload, 1) := by decide +kernel
theorem dX12_count_139 : decode cX12_count 139 = .ok (.ireturn, 1) := by decide +kernel
theorem dX12_count_140 : decode cX12_count 140 = .ok (.aload_n 0, 1) := by decide +kernel
theorem dX12_count_141 : decode cX12_count 141 = .ok (.getfield 7, 3) := by decide +kernel
theorem dX12_count_144 : decode cX12_count 144 = .ok (.iconst 3, 1) := by decide +kernel
theorem dX12_count_145 : decode cX12_count 145 = .ok (.iaload, 1) := by decide +kernel
theorem dX12_count_146 : decode cX12_count 146 = .ok (.ireturn, 1) := by decide +kernel
theorem dX12_count_147 : decode cX12_count 147 = .ok (.aload_n 0, 1) := by decide +kernel
theorem dX12_count_148 : decode cX12_count 148 = .ok (.getfield 7, 3) := by decide +kernel
theorem dX12_count_151 : decode cX12_count 151 = .ok (.iconst 5, 1) := by decide +kernel
theorem dX12_count_152 : decode cX12_count 152 = .ok (.iaload, 1) := by decide +kernel
theorem dX12_count_153 : decode cX12_count 153 = .ok (.ireturn, 1) := by decide +kernel
theorem dX12_count_154 : decode cX12_count 154 = .ok (.aload_n 0, 1) := by decide +kernel
theorem dX12_count_155 : decode cX12_count 155 = .ok (.getfield 7, 3) := by decide +kernel
theorem dX12_count_158 : decode cX12_count 158 = .ok (.bipush 6, 2) := by decide +kernel
theorem dX12_count_160 : decode cX12_count 160 = .ok (.iaload, 1) := by decide +kernel
theorem dX12_count_161 : decode cX12_count 161 = .ok (.ireturn, 1) := by decide +kernel
theorem dX12_count_162 : decode cX12_count 162 = .ok (.aload_n 0, 1) := by decide +kernel
theorem dX12_count_163 : decode cX12_count 163 = .ok (.getfield 13, 3) := by decide +kernel
theorem dX12_count_166 : decode cX12_count 166 = .ok (.iconst 5, 1) := by decide +kernel
theorem dX12_count_167 : decode cX12_count 167 = .ok (.iaload, 1) := by decide +kernel
theorem dX12_count_168 : decode cX12_count 168 = .ok (.ireturn, 1) := by decide +kernel
theorem dX12_count_169 : decode cX12_count 169 = .ok (.iload_n 1, 1) := by decide +kernel
theorem dX12_count_170 : decode cX12_count 170 = .ok (.i2l, 1) := by decide +kernel
theorem dX12_count_171 : decode cX12_count 171 = .ok (.ldc2_w 633, 3) := by decide +kernel
theorem dX12_count_174 : decode cX12_count 174 = .ok (.ldc2_w 635, 3) := by decide +kernel
theorem dX12_count_177 : decode cX12_count 177 = .ok (.invokestatic 179, 3) := by decide +kernel
theorem dX12_count_180 : decode cX12_count 180 = .ok (.ifCond .eq 18, 3) := by decide +kernel
theorem dX12_count_183 : decode cX12_count 183 = .ok (.aload_n 0, 1) := by decide +kernel
theorem dX12_count_184 : decode cX12_count 184 = .ok (.getfield 13, 3) := by decide +kernel
theorem dX12_count_187 : decode cX12_count 187 = .ok (.bipush 6, 2) := by decide +kernel
theorem dX12_count_189 : decode cX12_count 189 = .ok (.iload_n 1, 1) := by decide +kernel
theorem dX12_count_190 : decode cX12_count 190 = .ok (.iadd, 1) := by decide +kernel
theorem dX12_count_191 : decode cX12_count 191 = .ok (.bipush 14, 2) := by decide +kernel
theorem dX12_count_193 : decode cX12_count 193 = .ok (.isub, 1) := by decide +kernel
theorem dX12_count_194 : decode cX12_count 194 = .ok (.iaload, 1) := by decide +kernel
theorem dX12_count_195 : decode cX12_count 195 = .ok (.goto 4, 3) := by decide +kernel
theorem dX12_count_198 : decode cX12_count 198 = .ok (.iconst (-1), 1) := by decide +kernel
theorem dX12_count_199 : decode cX12_count 199 = .ok (.ireturn, 1) := by decide +kernel
theorem dX12_debt_0 : decode cX12_debt 0 = .ok (.aload_n 0, 1) := by decide +kernel
theorem dX12_debt_1 : decode cX12_debt 1 = .ok (.iconst 0, 1) := by decide +kernel
theorem dX12_debt_2 : decode cX12_debt 2 = .ok (.putfield 166, 3) := by decide +kernel
theorem dX12_debt_5 : decode cX12_debt 5 = .ok (.aload_n 0, 1) := by decide +kernel
theorem dX12_debt_6 : decode cX12_debt 6 = .ok (.iload_n 1, 1) := by decide +kernel
theorem dX12_debt_7 : decode cX12_debt 7 = .ok (.invokevirtual 198, 3) := by decide +kernel
theorem dX12_debt_10 : decode cX12_debt 10 = .ok (.ifCond .eq 21, 3) := by decide +kernel
theorem dX12_debt_13 : decode cX12_debt 13 = .ok (.aload_n 0, 1) := by decide +kernel
theorem dX12_debt_14 : decode cX12_debt 14 = .ok (.iload_n 2, 1) := by decide +kernel
theorem dX12_debt_15 : decode cX12_debt 15 = .ok (.invokevirtual 198, 3) := by decide +kernel
theorem dX12_debt_18 : decode cX12_debt 18 = .ok (.ifCond .eq 13, 3) := by decide +kernel
theorem dX12_debt_21 : decode cX12_debt 21 = .ok (.iload_n 3, 1) := by decide +kernel
theorem dX12_debt_22 : decode cX12_debt 22 = .ok (.i2l, 1) := by decide +kernel
theorem dX12_debt_23 : decode cX12_debt 23 = .ok (.lconst 0, 1) := by decide +kernel
theorem dX12_debt_24 : decode cX12_debt 24 = .ok (.lconst 1, 1) := by decide +kernel
theorem dX12_debt_25 : decode cX12_debt 25 = .ok (.invokestatic 179, 3) := by decide +kernel
theorem dX12_debt_28 : decode cX12_debt 28 = .ok (.ifCond .ne 5, 3) := by decide +kernel
theorem dX12_debt_31 : decode cX12_debt 31 = .ok (.iconst (-1), 1) := by decide +kernel
theorem dX12_debt_32 : decode cX12_debt 32 = .ok (.ireturn, 1) := by decide +kernel
theorem dX12_debt_33 : decode cX12_debt 33 = .ok (.iload_n 1, 1) := by decide +kernel
theorem dX12_debt_34 : decode cX12_debt 34 = .ok (.iload_n 2, 1) := by decide +kernel
theorem dX12_debt_35 : decode cX12_debt 35 = .ok (.invokestatic 452, 3) := by decide +kernel
theorem dX12_debt_38 : decode cX12_debt 38 = .ok (.istore 4, 2) := by decide +kernel
theorem dX12_debt_40 : decode cX12_debt 40 = .ok (.aload_n 0, 1) := by decide +kernel
theorem dX12_debt_41 : decode cX12_debt 41 = .ok (.getfield 13, 3) := by decide +kernel
theorem dX12_debt_44 : decode cX12_debt 44 = .ok (.iload 4, 2) := by decide +kernel
theorem dX12_debt_46 : decode cX12_debt 46 = .ok (.iaload, 1) := by decide +kernel
theorem dX12_debt_47 : decode cX12_debt 47 = .ok (.iconst (-1), 1) := by decide +kernel
theorem dX12_debt_48 : decode cX12_debt 48 = .ok (.if_icmp .ne 7, 3) := by decide +kernel
theorem dX12_debt_51 : decode cX12_debt 51 = .ok (.iconst (-1), 1) := by decide +kernel
theorem dX12_debt_52 : decode cX12_debt 52 = .ok (.goto 12, 3) := by decide +kernel
theorem dX12_debt_55 : decode cX12_debt 55 = .ok (.aload_n 0, 1) := by decide +kernel
theorem dX12_debt_56 : decode cX12_debt 56 = .ok (.getfield 13, 3) := by decide +kernel
theorem dX12_debt_59 : decode cX12_debt 59 = .ok (.iload 4, 2) := by decide +kernel
theorem dX12_debt_61 : decode cX12_debt 61 = .ok (.iload_n 3, 1) := by decide +kernel
theorem dX12_debt_62 : decode cX12_debt 62 = .ok (.iadd, 1) := by decide +kernel
theorem dX12_debt_63 : decode cX12_debt 63 = .ok (.iaload, 1) := by decide +kernel
theorem dX12_debt_64 : decode cX12_debt 64 = .ok (.ireturn, 1) := by decide +kernel
theorem dX12_draw_0 : decode cX12_draw 0 = .ok (.aload_n 0, 1) := by decide +kernel
theorem dX12_draw_1 : decode cX12_draw 1 = .ok (.aload_n 0, 1) := by decide +kernel
theorem dX12_draw_2 : decode cX12_draw 2 = .ok (.getfield 611, 3) := by decide +kernel
theorem dX12_draw_5 : decode cX12_draw 5 = .ok (.ldc2_w 614, 3) := by decide +kernel
theorem dX12_draw_8 : decode cX12_draw 8 = .ok (.lmul, 1) := by decide +kernel
theorem dX12_draw_9 : decode cX12_draw 9 = .ok (.ldc2_w 616, 3) := by decide +kernel
theorem dX12_draw_12 : decode cX12_draw 12 = .ok (.ladd, 1) := by decide +kernel
theorem dX12_draw_13 : decode cX12_draw 13 = .ok (.ldc2_w 618, 3) := by decide +kernel
theorem dX12_draw_16 : decode cX12_draw 16 = .ok (.lrem, 1) := by decide +kernel
theorem dX12_draw_17 : decode cX12_draw 17 = .ok (.putfield 611, 3) := by decide +kernel
theorem dX12_draw_20 : decode cX12_draw 20 = .ok (.aload_n 0, 1) := by decide +kernel
theorem dX12_draw_21 : decode cX12_draw 21 = .ok (.getfield 611, 3) := by decide +kernel
theorem dX12_draw_24 : decode cX12_draw 24 = .ok (.iload_n 1, 1) := by decide +kernel
theorem dX12_draw_25 : decode cX12_draw 25 = .ok (.i2l, 1) := by decide +kernel
theorem dX12_draw_26 : decode cX12_draw 26 = .ok (.lrem, 1) := by decide +kernel
theorem dX12_draw_27 : decode cX12_draw 27 = .ok (.l2i, 1) := by decide +kernel
theorem dX12_draw_28 : decode cX12_draw 28 = .ok (.ireturn, 1) := by decide +kernel
theorem dX12_drawn_0 : decode cX12_drawn 0 = .ok (.aload_n 0, 1) := by decide +kernel
theorem dX12_drawn_1 : decode cX12_drawn 1 = .ok (.iconst 0, 1) := by decide +kernel
theorem dX12_drawn_2 : decode cX12_drawn 2 = .ok (.putfield 166, 3) := by decide +kernel
theorem dX12_drawn_5 : decode cX12_drawn 5 = .ok (.iload_n 1, 1) := by decide +kernel
theorem dX12_drawn_6 : decode cX12_drawn 6 = .ok (.i2l, 1) := by decide +kernel
theorem dX12_drawn_7 : decode cX12_drawn 7 = .ok (.lconst 0, 1) := by decide +kernel
theorem dX12_drawn_8 : decode cX12_drawn 8 = .ok (.aload_n 0, 1) := by decide +kernel
theorem dX12_drawn_9 : decode cX12_drawn 9 = .ok (.getfield 625, 3) := by decide +kernel
theorem dX12_drawn_12 : decode cX12_drawn 12 = .ok (.i2l, 1) := by decide +kernel
theorem dX12_drawn_13 : decode cX12_drawn 13 = .ok (.lconst 1, 1) := by decide +kernel
theorem dX12_drawn_14 : decode cX12_drawn 14 = .ok (.lsub, 1) := by decide +kernel
theorem dX12_drawn_15 : decode cX12_drawn 15 = .ok (.invokestatic 179, 3) := by decide +kernel
theorem dX12_drawn_18 : decode cX12_drawn 18 = .ok (.ifCond .eq 29, 3) := by decide +kernel
theorem dX12_drawn_21 : decode cX12_drawn 21 = .ok (.iload_n 2, 1) := by decide +kernel
theorem dX12_drawn_22 : decode cX12_drawn 22 = .ok (.i2l, 1) := by decide +kernel
theorem dX12_drawn_23 : decode cX12_drawn 23 = .ok (.lconst 0, 1) := by decide +kernel
theorem dX12_drawn_24 : decode cX12_drawn 24 = .ok (.ldc2_w 628, 3) := by decide +kernel
theorem dX12_drawn_27 : decode cX12_drawn 27 = .ok (.invokestatic 179, 3) := by decide +kernel
theorem dX12_drawn_30 : decode cX12_drawn 30 = .ok (.ifCond .eq 17, 3) := by decide +kernel
theorem dX12_drawn_33 : decode cX12_drawn 33 = .ok (.aload_n 0, 1) := by decide +kernel
theorem dX12_drawn_34 : decode cX12_drawn 34 = .ok (.getfield 163, 3) := by decide +kernel
theorem dX12_drawn_37 : decode cX12_drawn 37 = .ok (.bipush 7, 2) := by decide +kernel
theorem dX12_drawn_39 : decode cX12_drawn 39 = .ok (.iload_n 1, 1) := by decide +kernel
theorem dX12_drawn_40 : decode cX12_drawn 40 = .ok (.imul, 1) := by decide +kernel
theorem dX12_drawn_41 : decode cX12_drawn 41 = .ok (.iload_n 2, 1) := by decide +kernel
theorem dX12_drawn_42 : decode cX12_drawn 42 = .ok (.iadd, 1) := by decide +kernel
theorem dX12_drawn_43 : decode cX12_drawn 43 = .ok (.iaload, 1) := by decide +kernel
theorem dX12_drawn_44 : decode cX12_drawn 44 = .ok (.goto 4, 3) := by decide +kernel
theorem dX12_drawn_47 : decode cX12_drawn 47 = .ok (.iconst (-1), 1) := by decide +kernel
theorem dX12_drawn_48 : decode cX12_drawn 48 = .ok (.ireturn, 1) := by decide +kernel
theorem dX12_dross_0 : decode cX12_dross 0 = .ok (.aload_n 0, 1) := by decide +kernel
theorem dX12_dross_1 : decode cX12_dross 1 = .ok (.iconst 0, 1) := by decide +kernel
theorem dX12_dross_2 : decode cX12_dross 2 = .ok (.putfield 166, 3) := by decide +kernel
theorem dX12_dross_5 : decode cX12_dross 5 = .ok (.aload_n 0, 1) := by decide +kernel
theorem dX12_dross_6 : decode cX12_dross 6 = .ok (.getfield 239, 3) := by decide +kernel
theorem dX12_dross_9 : decode cX12_dross 9 = .ok (.ireturn, 1) := by decide +kernel
theorem dX12_grainLeft_0 : decode cX12_grainLeft 0 = .ok (.aload_n 0, 1) := by decide +kernel
theorem dX12_grainLeft_1 : decode cX12_grainLeft 1 = .ok (.getfield 115, 3) := by decide +kernel
theorem dX12_grainLeft_4 : decode cX12_grainLeft 4 = .ok (.iload_n 2, 1) := by decide +kernel
theorem dX12_grainLeft_5 : decode cX12_grainLeft 5 = .ok (.iaload, 1) := by decide +kernel
theorem dX12_grainLeft_6 : decode cX12_grainLeft 6 = .ok (.istore_n 3, 1) := by decide +kernel
theorem dX12_grainLeft_7 : decode cX12_grainLeft 7 = .ok (.iconst 0, 1) := by decide +kernel
theorem dX12_grainLeft_8 : decode cX12_grainLeft 8 = .ok (.istore 4, 2) := by decide +kernel
theorem dX12_grainLeft_10 : decode cX12_grainLeft 10 = .ok (.iload 4, 2) := by decide +kernel
theorem dX12_grainLeft_12 : decode cX12_grainLeft 12 = .ok (.bipush 12, 2) := by decide +kernel
theorem dX12_grainLeft_14 : decode cX12_grainLeft 14 = .ok (.if_icmp .ge 41, 3) := by decide +kernel
theorem dX12_grainLeft_17 : decode cX12_grainLeft 17 = .ok (.iload_n 3, 1) := by decide +kernel
theorem dX12_grainLeft_18 : decode cX12_grainLeft 18 = .ok (.iload_n 1, 1) := by decide +kernel
theorem dX12_grainLeft_19 : decode cX12_grainLeft 19 = .ok (.iload 4, 2) := by decide +kernel
theorem dX12_grainLeft_21 : decode cX12_grainLeft 21 = .ok (.invokestatic 458, 3) := by decide +kernel
theorem dX12_grainLeft_24 : decode cX12_grainLeft 24 = .ok (.ifCond .eq 22, 3) := by decide +kernel
theorem dX12_grainLeft_27 : decode cX12_grainLeft 27 = .ok (.iload 4, 2) := by decide +kernel
theorem dX12_grainLeft_29 : decode cX12_grainLeft 29 = .ok (.bipush 6, 2) := by decide +kernel
theorem dX12_grainLeft_31 : decode cX12_grainLeft 31 = .ok (.idiv, 1) := by decide +kernel
theorem dX12_grainLeft_32 : decode cX12_grainLeft 32 = .ok (.iload_n 2, 1) := by decide +kernel
theorem dX12_grainLeft_33 : decode cX12_grainLeft 33 = .ok (.if_icmp .eq 13, 3) := by decide +kernel
theorem dX12_grainLeft_36 : decode cX12_grainLeft 36 = .ok (.aload_n 0, 1) := by decide +kernel
theorem dX12_grainLeft_37 : decode cX12_grainLeft 37 = .ok (.getfield 109, 3) := by decide +kernel
theorem dX12_grainLeft_40 : decode cX12_grainLeft 40 = .ok (.iload 4, 2) := by decide +kernel
theorem dX12_grainLeft_42 : decode cX12_grainLeft 42 = .ok (.iaload, 1) := by decide +kernel
theorem dX12_grainLeft_43 : decode cX12_grainLeft 43 = .ok (.goto 4, 3) := by decide +kernel
theorem dX12_grainLeft_46 : decode cX12_grainLeft 46 = .ok (.iconst 0, 1) := by decide +kernel
theorem dX12_grainLeft_47 : decode cX12_grainLeft 47 = .ok (.isub, 1) := by decide +kernel
theorem dX12_grainLeft_48 : decode cX12_grainLeft 48 = .ok (.istore_n 3, 1) := by decide +kernel
theorem dX12_grainLeft_49 : decode cX12_grainLeft 49 = .ok (.iinc 4 1, 3) := by decide +kernel
theorem dX12_grainLeft_52 : decode cX12_grainLeft 52 = .ok (.goto (-42), 3) := by decide +kernel
theorem dX12_grainLeft_55 : decode cX12_grainLeft 55 = .ok (.iload_n 3, 1) := by decide +kernel
theorem dX12_grainLeft_56 : decode cX12_grainLeft 56 = .ok (.ireturn, 1) := by decide +kernel
theorem dX12_isWon_0 : decode cX12_isWon 0 = .ok (.aload_n 0, 1) := by decide +kernel
theorem dX12_isWon_1 : decode cX12_isWon 1 = .ok (.iload_n 1, 1) := by decide +kernel
theorem dX12_isWon_2 : decode cX12_isWon 2 = .ok (.iconst 1, 1) := by decide +kernel
theorem dX12_isWon_3 : decode cX12_isWon 3 = .ok (.iload_n 2, 1) := by decide +kernel
theorem dX12_isWon_4 : decode cX12_isWon 4 = .ok (.isub, 1) := by decide +kernel
theorem dX12_isWon_5 : decode cX12_isWon 5 = .ok (.invokevirtual 486, 3) := by decide +kernel
theorem dX12_isWon_8 : decode cX12_isWon 8 = .ok (.aload_n 0, 1) := by decide +kernel
theorem dX12_isWon_9 : decode cX12_isWon 9 = .ok (.getfield 109, 3) := by decide +kernel
theorem dX12_isWon_12 : decode cX12_isWon 12 = .ok (.iload_n 3, 1) := by decide +kernel
theorem dX12_isWon_13 : decode cX12_isWon 13 = .ok (.iaload, 1) := by decide +kernel
theorem dX12_isWon_14 : decode cX12_isWon 14 = .ok (.if_icmp .lt 16, 3) := by decide +kernel
theorem dX12_isWon_17 : decode cX12_isWon 17 = .ok (.aload_n 0, 1) := by decide +kernel
theorem dX12_isWon_18 : decode cX12_isWon 18 = .ok (.getfield 112, 3) := by decide +kernel
theorem dX12_isWon_21 : decode cX12_isWon 21 = .ok (.iload_n 1, 1) := by decide +kernel
theorem dX12_isWon_22 : decode cX12_isWon 22 = .ok (.iconst 1, 1) := by decide +kernel
theorem dX12_isWon_23 : decode cX12_isWon 23 = .ok (.iload_n 3, 1) := by decide +kernel
theorem dX12_isWon_24 : decode cX12_isWon 24 = .ok (.ishl, 1) := by decide +kernel
theorem dX12_isWon_25 : decode cX12_isWon 25 = .ok (.ior, 1) := by decide +kernel
theorem dX12_isWon_26 : decode cX12_isWon 26 = .ok (.baload, 1) := by decide +kernel
theorem dX12_isWon_27 : decode cX12_isWon 27 = .ok (.ifCond .ne 7, 3) := by decide +kernel
theorem dX12_isWon_30 : decode cX12_isWon 30 = .ok (.iconst 1, 1) := by decide +kernel
theorem dX12_isWon_31 : decode cX12_isWon 31 = .ok (.goto 4, 3) := by decide +kernel
theorem dX12_isWon_34 : decode cX12_isWon 34 = .ok (.iconst 0, 1) := by decide +kernel
theorem dX12_isWon_35 : decode cX12_isWon 35 = .ok (.ireturn, 1) := by decide +kernel
theorem dX12_lastOf_0 : decode cX12_lastOf 0 = .ok (.iconst (-1), 1) := by decide +kernel
theorem dX12_lastOf_1 : decode cX12_lastOf 1 = .ok (.istore_n 2, 1) := by decide +kernel
theorem dX12_lastOf_2 : decode cX12_lastOf 2 = .ok (.iconst 0, 1) := by decide +kernel
theorem dX12_lastOf_3 : decode cX12_lastOf 3 = .ok (.istore_n 3, 1) := by decide +kernel
theorem dX12_lastOf_4 : decode cX12_lastOf 4 = .ok (.iload_n 3, 1) := by decide +kernel
theorem dX12_lastOf_5 : decode cX12_lastOf 5 = .ok (.bipush 12, 2) := by decide +kernel
theorem dX12_lastOf_7 : decode cX12_lastOf 7 = .ok (.if_icmp .ge 43, 3) := by decide +kernel
theorem dX12_lastOf_10 : decode cX12_lastOf 10 = .ok (.iload_n 1, 1) := by decide +kernel
theorem dX12_lastOf_11 : decode cX12_lastOf 11 = .ok (.iload_n 3, 1) := by decide +kernel
theorem dX12_lastOf_12 : decode cX12_lastOf 12 = .ok (.invokestatic 458, 3) := by decide +kernel
theorem dX12_lastOf_15 : decode cX12_lastOf 15 = .ok (.ifCond .eq 27, 3) := by decide +kernel
theorem dX12_lastOf_18 : decode cX12_lastOf 18 = .ok (.iload_n 2, 1) := by decide +kernel
theorem dX12_lastOf_19 : decode cX12_lastOf 19 = .ok (.iconst (-1), 1) := by decide +kernel
theorem dX12_lastOf_20 : decode cX12_lastOf 20 = .ok (.if_icmp .eq 18, 3) := by decide +kernel
theorem dX12_lastOf_23 : decode cX12_lastOf 23 = .ok (.aload_n 0, 1) := by decide +kernel
theorem dX12_lastOf_24 : decode cX12_lastOf 24 = .ok (.getfield 106, 3) := by decide +kernel
theorem dX12_lastOf_27 : decode cX12_lastOf 27 = .ok (.iload_n 3, 1) := by decide +kernel
theorem dX12_lastOf_28 : decode cX12_lastOf 28 = .ok (.iaload, 1) := by decide +kernel
theorem dX12_lastOf_29 : decode cX12_lastOf 29 = .ok (.aload_n 0, 1) := by decide +kernel
theorem dX12_lastOf_30 : decode cX12_lastOf 30 = .ok (.getfield 106, 3) := by decide +kernel
theorem dX12_lastOf_33 : decode cX12_lastOf 33 = .ok (.iload_n 2, 1) := by decide +kernel
theorem dX12_lastOf_34 : decode cX12_lastOf 34 = .ok (.iaload, 1) := by decide +kernel
theorem dX12_lastOf_35 : decode cX12_lastOf 35 = .ok (.if_icmp .le 7, 3) := by decide +kernel
theorem dX12_lastOf_38 : decode cX12_lastOf 38 = .ok (.iload_n 3, 1) := by decide +kernel
theorem dX12_lastOf_39 : decode cX12_lastOf 39 = .ok (.goto 4, 3) := by decide +kernel
theorem dX12_lastOf_42 : decode cX12_lastOf 42 = .ok (.iload_n 2, 1) := by decide +kernel
theorem dX12_lastOf_43 : decode cX12_lastOf 43 = .ok (.istore_n 2, 1) := by decide +kernel
theorem dX12_lastOf_44 : decode cX12_lastOf 44 = .ok (.iinc 3 1, 3) := by decide +kernel
theorem dX12_lastOf_47 : decode cX12_lastOf 47 = .ok (.goto (-43), 3) := by decide +kernel
theorem dX12_lastOf_50 : decode cX12_lastOf 50 = .ok (.iload_n 2, 1) := by decide +kernel
theorem dX12_lastOf_51 : decode cX12_lastOf 51 = .ok (.ireturn, 1) := by decide +kernel
theorem dX12_findWins_0 : decode cX12_findWins 0 = .ok (.sipush 4095, 3) := by decide +kernel
theorem dX12_findWins_3 : decode cX12_findWins 3 = .ok (.istore_n 1, 1) := by decide +kernel
theorem dX12_findWins_4 : decode cX12_findWins 4 = .ok (.iload_n 1, 1) := by decide +kernel
theorem dX12_findWins_5 : decode cX12_findWins 5 = .ok (.ifCond .lt 101, 3) := by decide +kernel
theorem dX12_findWins_8 : decode cX12_findWins 8 = .ok (.aload_n 0, 1) := by decide +kernel
theorem dX12_findWins_9 : decode cX12_findWins 9 = .ok (.iload_n 1, 1) := by decide +kernel
theorem dX12_findWins_10 : decode cX12_findWins 10 = .ok (.invokevirtual 489, 3) := by decide +kernel
theorem dX12_findWins_13 : decode cX12_findWins 13 = .ok (.istore_n 2, 1) := by decide +kernel
theorem dX12_findWins_14 : decode cX12_findWins 14 = .ok (.iload_n 2, 1) := by decide +kernel
theorem dX12_findWins_15 : decode cX12_findWins 15 = .ok (.iconst (-1), 1) := by decide +kernel
theorem dX12_findWins_16 : decode cX12_findWins 16 = .ok (.if_icmp .ne 7, 3) := by decide +kernel
theorem dX12_findWins_19 : decode cX12_findWins 19 = .ok (.iconst 0, 1) := by decide +kernel
theorem dX12_findWins_20 : decode cX12_findWins 20 = .ok (.goto 9, 3) := by decide +kernel
theorem dX12_findWins_23 : decode cX12_findWins 23 = .ok (.iconst 1, 1) := by decide +kernel
theorem dX12_findWins_24 : decode cX12_findWins 24 = .ok (.iload_n 2, 1) := by decide +kernel
theorem dX12_findWins_25 : decode cX12_findWins 25 = .ok (.bipush 6, 2) := by decide +kernel
theorem dX12_findWins_27 : decode cX12_findWins 27 = .ok (.idiv, 1) := by decide +kernel
theorem dX12_findWins_28 : decode cX12_findWins 28 = .ok (.isub, 1) := by decide +kernel
theorem dX12_findWins_29 : decode cX12_findWins 29 = .ok (.istore_n 3, 1) := by decide +kernel
theorem dX12_findWins_30 : decode cX12_findWins 30 = .ok (.iconst 0, 1) := by decide +kernel
theorem dX12_findWins_31 : decode cX12_findWins 31 = .ok (.istore 4, 2) := by decide +kernel
theorem dX12_findWins_33 : decode cX12_findWins 33 = .ok (.bipush 6, 2) := by decide +kernel
theorem dX12_findWins_35 : decode cX12_findWins 35 = .ok (.iload_n 3, 1) := by decide +kernel
theorem dX12_findWins_36 : decode cX12_findWins 36 = .ok (.imul, 1) := by decide +kernel
theorem dX12_findWins_37 : decode cX12_findWins 37 = .ok (.istore 5, 2) := by decide +kernel
theorem dX12_findWins_39 : decode cX12_findWins 39 = .ok (.iload 5, 2) := by decide +kernel
theorem dX12_findWins_41 : decode cX12_findWins 41 = .ok (.bipush 6, 2) := by decide +kernel
theorem dX12_findWins_43 : decode cX12_findWins 43 = .ok (.iload_n 3, 1) := by decide +kernel
theorem dX12_findWins_44 : decode cX12_findWins 44 = .ok (.imul, 1) := by decide +kernel
theorem dX12_findWins_45 : decode cX12_findWins 45 = .ok (.bipush 6, 2) := by decide +kernel
theorem dX12_findWins_47 : decode cX12_findWins 47 = .ok (.iadd, 1) := by decide +kernel
theorem dX12_findWins_48 : decode cX12_findWins 48 = .ok (.if_icmp .ge 44, 3) := by decide +kernel
theorem dX12_findWins_51 : decode cX12_findWins 51 = .ok (.iload 4, 2) := by decide +kernel
theorem dX12_findWins_53 : decode cX12_findWins 53 = .ok (.ifCond .ne 39, 3) := by decide +kernel
theorem dX12_findWins_56 : decode cX12_findWins 56 = .ok (.aload_n 0, 1) := by decide +kernel
theorem dX12_findWins_57 : decode cX12_findWins 57 = .ok (.iload_n 1, 1) := by decide +kernel
theorem dX12_findWins_58 : decode cX12_findWins 58 = .ok (.iload_n 2, 1) := by decide +kernel
theorem dX12_findWins_59 : decode cX12_findWins 59 = .ok (.iload_n 3, 1) := by decide +kernel
theorem dX12_findWins_60 : decode cX12_findWins 60 = .ok (.iload 5, 2) := by decide +kernel
theorem dX12_findWins_62 : decode cX12_findWins 62 = .ok (.invokevirtual 492, 3) := by decide +kernel
theorem dX12_findWins_65 : decode cX12_findWins 65 = .ok (.ifCond .eq 18, 3) := by decide +kernel
theorem dX12_findWins_68 : decode cX12_findWins 68 = .ok (.aload_n 0, 1) := by decide +kernel
theorem dX12_findWins_69 : decode cX12_findWins 69 = .ok (.iload_n 1, 1) := by decide +kernel
theorem dX12_findWins_70 : decode cX12_findWins 70 = .ok (.iload_n 3, 1) := by decide +kernel
theorem dX12_findWins_71 : decode cX12_findWins 71 = .ok (.iload 5, 2) := by decide +kernel
theorem dX12_findWins_73 : decode cX12_findWins 73 = .ok (.invokevirtual 496, 3) := by decide +kernel
theorem dX12_findWins_76 : decode cX12_findWins 76 = .ok (.ifCond .eq 7, 3) := by decide +kernel
theorem dX12_findWins_79 : decode cX12_findWins 79 = .ok (.iconst 1, 1) := by decide +kernel
theorem dX12_findWins_80 : decode cX12_findWins 80 = .ok (.goto 4, 3) := by decide +kernel
theorem dX12_findWins_83 : decode cX12_findWins 83 = .ok (.iconst 0, 1) := by decide +kernel
theorem dX12_findWins_84 : decode cX12_findWins 84 = .ok (.istore 4, 2) := by decide +kernel
theorem dX12_findWins_86 : decode cX12_findWins 86 = .ok (.iinc 5 1, 3) := by decide +kernel
theorem dX12_findWins_89 : decode cX12_findWins 89 = .ok (.goto (-50), 3) := by decide +kernel
theorem dX12_findWins_92 : decode cX12_findWins 92 = .ok (.aload_n 0, 1) := by decide +kernel
theorem dX12_findWins_93 : decode cX12_findWins 93 = .ok (.getfield 112, 3) := by decide +kernel
theorem dX12_findWins_96 : decode cX12_findWins 96 = .ok (.iload_n 1, 1) := by decide +kernel
theorem dX12_findWins_97 : decode cX12_findWins 97 = .ok (.iload 4, 2) := by decide +kernel
theorem dX12_findWins_99 : decode cX12_findWins 99 = .ok (.bastore, 1) := by decide +kernel
theorem dX12_findWins_100 : decode cX12_findWins 100 = .ok (.iinc 1 (-1), 3) := by decide +kernel
theorem dX12_findWins_103 : decode cX12_findWins 103 = .ok (.goto (-99), 3) := by decide +kernel
theorem dX12_findWins_106 : decode cX12_findWins 106 = .ok (.return_, 1) := by decide +kernel
theorem dX12_layGoods_0 : decode cX12_layGoods 0 = .ok (.iconst 0, 1) := by decide +kernel
theorem dX12_layGoods_1 : decode cX12_layGoods 1 = .ok (.istore 4, 2) := by decide +kernel
theorem dX12_layGoods_3 : decode cX12_layGoods 3 = .ok (.iconst 0, 1) := by decide +kernel
theorem dX12_layGoods_4 : decode cX12_layGoods 4 = .ok (.istore 5, 2) := by decide +kernel
theorem dX12_layGoods_6 : decode cX12_layGoods 6 = .ok (.iload 5, 2) := by decide +kernel
theorem dX12_layGoods_8 : decode cX12_layGoods 8 = .ok (.bipush 6, 2) := by decide +kernel
theorem dX12_layGoods_10 : decode cX12_layGoods 10 = .ok (.if_icmp .ge 22, 3) := by decide +kernel
theorem dX12_layGoods_13 : decode cX12_layGoods 13 = .ok (.aload_n 0, 1) := by decide +kernel
theorem dX12_layGoods_14 : decode cX12_layGoods 14 = .ok (.getfield 103, 3) := by decide +kernel
theorem dX12_layGoods_17 : decode cX12_layGoods 17 = .ok (.bipush 6, 2) := by decide +kernel
theorem dX12_layGoods_19 : decode cX12_layGoods 19 = .ok (.iload_n 1, 1) := by decide +kernel
theorem dX12_layGoods_20 : decode cX12_layGoods 20 = .ok (.imul, 1) := by decide +kernel
theorem dX12_layGoods_21 : decode cX12_layGoods 21 = .ok (.iload 5, 2) := by decide +kernel
theorem dX12_layGoods_23 : decode cX12_layGoods 23 = .ok (.iadd, 1) := by decide +kernel
theorem dX12_layGoods_24 : decode cX12_layGoods 24 = .ok (.iconst (-1), 1) := by decide +kernel
theorem dX12_layGoods_25 : decode cX12_layGoods 25 = .ok (.iastore, 1) := by decide +kernel
theorem dX12_layGoods_26 : decode cX12_layGoods 26 = .ok (.iinc 5 1, 3) := by decide +kernel
theorem dX12_layGoods_29 : decode cX12_layGoods 29 = .ok (.goto (-23), 3) := by decide +kernel
theorem dX12_layGoods_32 : decode cX12_layGoods 32 = .ok (.iconst 0, 1) := by decide +kernel
theorem dX12_layGoods_33 : decode cX12_layGoods 33 = .ok (.istore 5, 2) := by decide +kernel
theorem dX12_layGoods_35 : decode cX12_layGoods 35 = .ok (.iload 5, 2) := by decide +kernel
theorem dX12_layGoods_37 : decode cX12_layGoods 37 = .ok (.aload_n 0, 1) := by decide +kernel
theorem dX12_layGoods_38 : decode cX12_layGoods 38 = .ok (.getfield 13, 3) := by decide +kernel
theorem dX12_layGoods_41 : decode cX12_layGoods 41 = .ok (.iconst 1, 1) := by decide +kernel
theorem dX12_layGoods_42 : decode cX12_layGoods 42 = .ok (.iaload, 1) := by decide +kernel
theorem dX12_layGoods_43 : decode cX12_layGoods 43 = .ok (.if_icmp .ge 107, 3) := by decide +kernel
theorem dX12_layGoods_46 : decode cX12_layGoods 46 = .ok (.iload 4, 2) := by decide +kernel
theorem dX12_layGoods_48 : decode cX12_layGoods 48 = .ok (.bipush 6, 2) := by decide +kernel
theorem dX12_layGoods_50 : decode cX12_layGoods 50 = .ok (.if_icmp .ge 100, 3) := by decide +kernel
theorem dX12_layGoods_53 : decode cX12_layGoods 53 = .ok (.aload_n 0, 1) := by decide +kernel
theorem dX12_layGoods_54 : decode cX12_layGoods 54 = .ok (.iload 5, 2) := by decide +kernel
theorem dX12_layGoods_56 : decode cX12_layGoods 56 = .ok (.iconst 0, 1) := by decide +kernel
theorem dX12_layGoods_57 : decode cX12_layGoods 57 = .ok (.invokevirtual 190, 3) := by decide +kernel
theorem dX12_layGoods_60 : decode cX12_layGoods 60 = .ok (.iload_n 2, 1) := by decide +kernel
theorem dX12_layGoods_61 : decode cX12_layGoods 61 = .ok (.if_icmp .ne 83, 3) := by decide +kernel
theorem dX12_layGoods_64 : decode cX12_layGoods 64 = .ok (.aload_n 0, 1) := by decide +kernel
theorem dX12_layGoods_65 : decode cX12_layGoods 65 = .ok (.iload 5, 2) := by decide +kernel
theorem dX12_layGoods_67 : decode cX12_layGoods 67 = .ok (.iconst 1, 1) := by decide +kernel
theorem dX12_layGoods_68 : decode cX12_layGoods 68 = .ok (.invokevirtual 190, 3) := by decide +kernel
theorem dX12_layGoods_71 : decode cX12_layGoods 71 = .ok (.iload_n 2, 1) := by decide +kernel
theorem dX12_layGoods_72 : decode cX12_layGoods 72 = .ok (.if_icmp .ne 72, 3) := by decide +kernel
theorem dX12_layGoods_75 : decode cX12_layGoods 75 = .ok (.bipush 6, 2) := by decide +kernel
theorem dX12_layGoods_77 : decode cX12_layGoods 77 = .ok (.iload_n 1, 1) := by decide +kernel
theorem dX12_layGoods_78 : decode cX12_layGoods 78 = .ok (.imul, 1) := by decide +kernel
theorem dX12_layGoods_79 : decode cX12_layGoods 79 = .ok (.iload 4, 2) := by decide +kernel
theorem dX12_layGoods_81 : decode cX12_layGoods 81 = .ok (.iadd, 1) := by decide +kernel
theorem dX12_layGoods_82 : decode cX12_layGoods 82 = .ok (.istore 6, 2) := by decide +kernel
theorem dX12_layGoods_84 : decode cX12_layGoods 84 = .ok (.aload_n 0, 1) := by decide +kernel
theorem dX12_layGoods_85 : decode cX12_layGoods 85 = .ok (.getfield 103, 3) := by decide +kernel
theorem dX12_layGoods_88 : decode cX12_layGoods 88 = .ok (.iload 6, 2) := by decide +kernel
theorem dX12_layGoods_90 : decode cX12_layGoods 90 = .ok (.aload_n 0, 1) := by decide +kernel
theorem dX12_layGoods_91 : decode cX12_layGoods 91 = .ok (.iload 5, 2) := by decide +kernel
theorem dX12_layGoods_93 : decode cX12_layGoods 93 = .ok (.iload_n 2, 1) := by decide +kernel
theorem dX12_layGoods_94 : decode cX12_layGoods 94 = .ok (.iload_n 3, 1) := by decide +kernel
theorem dX12_layGoods_95 : decode cX12_layGoods 95 = .ok (.invokevirtual 448, 3) := by decide +kernel
theorem dX12_layGoods_98 : decode cX12_layGoods 98 = .ok (.ifCond .eq 7, 3) := by decide +kernel
theorem dX12_layGoods_101 : decode cX12_layGoods 101 = .ok (.iconst (-1), 1) := by decide +kernel
theorem dX12_layGoods_102 : decode cX12_layGoods 102 = .ok (.goto 5, 3) := by decide +kernel
theorem dX12_layGoods_105 : decode cX12_layGoods 105 = .ok (.iload 5, 2) := by decide +kernel
theorem dX12_layGoods_107 : decode cX12_layGoods 107 = .ok (.iastore, 1) := by decide +kernel
theorem dX12_layGoods_108 : decode cX12_layGoods 108 = .ok (.aload_n 0, 1) := by decide +kernel
theorem dX12_layGoods_109 : decode cX12_layGoods 109 = .ok (.getfield 106, 3) := by decide +kernel
theorem dX12_layGoods_112 : decode cX12_layGoods 112 = .ok (.iload 6, 2) := by decide +kernel
theorem dX12_layGoods_114 : decode cX12_layGoods 114 = .ok (.aload_n 0, 1) := by decide +kernel
theorem dX12_layGoods_115 : decode cX12_layGoods 115 = .ok (.iload 5, 2) := by decide +kernel
theorem dX12_layGoods_117 : decode cX12_layGoods 117 = .ok (.iload_n 2, 1) := by decide +kernel
theorem dX12_layGoods_118 : decode cX12_layGoods 118 = .ok (.iload_n 3, 1) := by decide +kernel
theorem dX12_layGoods_119 : decode cX12_layGoods 119 = .ok (.invokevirtual 445, 3) := by decide +kernel
theorem dX12_layGoods_122 : decode cX12_layGoods 122 = .ok (.iastore, 1) := by decide +kernel
theorem dX12_layGoods_123 : decode cX12_layGoods 123 = .ok (.aload_n 0, 1) := by decide +kernel
theorem dX12_layGoods_124 : decode cX12_layGoods 124 = .ok (.getfield 109, 3) := by decide +kernel
theorem dX12_layGoods_127 : decode cX12_layGoods 127 = .ok (.iload 6, 2) := by decide +kernel
theorem dX12_layGoods_129 : decode cX12_layGoods 129 = .ok (.aload_n 0, 1) := by decide +kernel
theorem dX12_layGoods_130 : decode cX12_layGoods 130 = .ok (.iload 5, 2) := by decide +kernel
theorem dX12_layGoods_132 : decode cX12_layGoods 132 = .ok (.iload_n 3, 1) := by decide +kernel
theorem dX12_layGoods_133 : decode cX12_layGoods 133 = .ok (.aload_n 0, 1) := by decide +kernel
theorem dX12_layGoods_134 : decode cX12_layGoods 134 = .ok (.invokevirtual 210, 3) := by decide +kernel
theorem dX12_layGoods_137 : decode cX12_layGoods 137 = .ok (.invokevirtual 194, 3) := by decide +kernel
theorem dX12_layGoods_140 : decode cX12_layGoods 140 = .ok (.iastore, 1) := by decide +kernel
theorem dX12_layGoods_141 : decode cX12_layGoods 141 = .ok (.iinc 4 1, 3) := by decide +kernel
theorem dX12_layGoods_144 : decode cX12_layGoods 144 = .ok (.iinc 5 1, 3) := by decide +kernel
theorem dX12_layGoods_147 : decode cX12_layGoods 147 = .ok (.goto (-112), 3) := by decide +kernel
theorem dX12_layGoods_150 : decode cX12_layGoods 150 = .ok (.aload_n 0, 1) := by decide +kernel
theorem dX12_layGoods_151 : decode cX12_layGoods 151 = .ok (.getfield 115, 3) := by decide +kernel
theorem dX12_layGoods_154 : decode cX12_layGoods 154 = .ok (.iload_n 1, 1) := by decide +kernel
theorem dX12_layGoods_155 : decode cX12_layGoods 155 = .ok (.aload_n 0, 1) := by decide +kernel
theorem dX12_layGoods_156 : decode cX12_layGoods 156 = .ok (.iload_n 2, 1) := by decide +kernel
theorem dX12_layGoods_157 : decode cX12_layGoods 157 = .ok (.iconst 0, 1) := by decide +kernel
theorem dX12_layGoods_158 : decode cX12_layGoods 158 = .ok (.invokevirtual 204, 3) := by decide +kernel
theorem dX12_layGoods_161 : decode cX12_layGoods 161 = .ok (.iastore, 1) := by decide +kernel
theorem dX12_layGoods_162 : decode cX12_layGoods 162 = .ok (.return_, 1) := by decide +kernel
theorem dX12_playOf_0 : decode cX12_playOf 0 = .ok (.iconst 0, 1) := by decide +kernel
theorem dX12_playOf_1 : decode cX12_playOf 1 = .ok (.istore_n 1, 1) := by decide +kernel
theorem dX12_playOf_2 : decode cX12_playOf 2 = .ok (.iconst 0, 1) := by decide +kernel
theorem dX12_playOf_3 : decode cX12_playOf 3 = .ok (.istore_n 2, 1) := by decide +kernel
theorem dX12_playOf_4 : decode cX12_playOf 4 = .ok (.iconst 1, 1) := by decide +kernel
theorem dX12_playOf_5 : decode cX12_playOf 5 = .ok (.istore_n 3, 1) := by decide +kernel
theorem dX12_playOf_6 : decode cX12_playOf 6 = .ok (.iload_n 3, 1) := by decide +kernel
theorem dX12_playOf_7 : decode cX12_playOf 7 = .ok (.ifCond .eq 193, 3) := by decide +kernel
theorem dX12_playOf_10 : decode cX12_playOf 10 = .ok (.aload_n 0, 1) := by decide +kernel
theorem dX12_playOf_11 : decode cX12_playOf 11 = .ok (.iload_n 1, 1) := by decide +kernel
theorem dX12_playOf_12 : decode cX12_playOf 12 = .ok (.invokevirtual 489, 3) := by decide +kernel
theorem dX12_playOf_15 : decode cX12_playOf 15 = .ok (.istore 4, 2) := by decide +kernel
theorem dX12_playOf_17 : decode cX12_playOf 17 = .ok (.iload 4, 2) := by decide +kernel
theorem dX12_playOf_19 : decode cX12_playOf 19 = .ok (.iconst (-1), 1) := by decide +kernel
theorem dX12_playOf_20 : decode cX12_playOf 20 = .ok (.if_icmp .ne 7, 3) := by decide +kernel
theorem dX12_playOf_23 : decode cX12_playOf 23 = .ok (.iconst 0, 1) := by decide +kernel
theorem dX12_playOf_24 : decode cX12_playOf 24 = .ok (.goto 10, 3) := by decide +kernel
theorem dX12_playOf_27 : decode cX12_playOf 27 = .ok (.iconst 1, 1) := by decide +kernel
theorem dX12_playOf_28 : decode cX12_playOf 28 = .ok (.iload 4, 2) := by decide +kernel
theorem dX12_playOf_30 : decode cX12_playOf 30 = .ok (.bipush 6, 2) := by decide +kernel
theorem dX12_playOf_32 : decode cX12_playOf 32 = .ok (.idiv, 1) := by decide +kernel
theorem dX12_playOf_33 : decode cX12_playOf 33 = .ok (.isub, 1) := by decide +kernel
theorem dX12_playOf_34 : decode cX12_playOf 34 = .ok (.istore 5, 2) := by decide +kernel
theorem dX12_playOf_36 : decode cX12_playOf 36 = .ok (.iconst (-1), 1) := by decide +kernel
theorem dX12_playOf_37 : decode cX12_playOf 37 = .ok (.istore 6, 2) := by decide +kernel
theorem dX12_playOf_39 : decode cX12_playOf 39 = .ok (.iconst (-1), 1) := by decide +kernel
theorem dX12_playOf_40 : decode cX12_playOf 40 = .ok (.istore 7, 2) := by decide +kernel
theorem dX12_playOf_42 : decode cX12_playOf 42 = .ok (.bipush 6, 2) := by decide +kernel
theorem dX12_playOf_44 : decode cX12_playOf 44 = .ok (.iload 5, 2) := by decide +kernel
theorem dX12_playOf_46 : decode cX12_playOf 46 = .ok (.imul, 1) := by decide +kernel
theorem dX12_playOf_47 : decode cX12_playOf 47 = .ok (.iconst 5, 1) := by decide +kernel
theorem dX12_playOf_48 : decode cX12_playOf 48 = .ok (.iadd, 1) := by decide +kernel
theorem dX12_playOf_49 : decode cX12_playOf 49 = .ok (.istore 8, 2) := by decide +kernel
theorem dX12_playOf_51 : decode cX12_playOf 51 = .ok (.iload 8, 2) := by decide +kernel
theorem dX12_playOf_53 : decode cX12_playOf 53 = .ok (.bipush 6, 2) := by decide +kernel
theorem dX12_playOf_55 : decode cX12_playOf 55 = .ok (.iload 5, 2) := by decide +kernel
theorem dX12_playOf_57 : decode cX12_playOf 57 = .ok (.imul, 1) := by decide +kernel
theorem dX12_playOf_58 : decode cX12_playOf 58 = .ok (.if_icmp .lt 62, 3) := by decide +kernel
theorem dX12_playOf_61 : decode cX12_playOf 61 = .ok (.aload_n 0, 1) := by decide +kernel
theorem dX12_playOf_62 : decode cX12_playOf 62 = .ok (.iload_n 1, 1) := by decide +kernel
theorem dX12_playOf_63 : decode cX12_playOf 63 = .ok (.iload 4, 2) := by decide +kernel
theorem dX12_playOf_65 : decode cX12_playOf 65 = .ok (.iload 5, 2) := by decide +kernel
theorem dX12_playOf_67 : decode cX12_playOf 67 = .ok (.iload 8, 2) := by decide +kernel
theorem dX12_playOf_69 : decode cX12_playOf 69 = .ok (.invokevirtual 492, 3) := by decide +kernel
theorem dX12_playOf_72 : decode cX12_playOf 72 = .ok (.istore 9, 2) := by decide +kernel
theorem dX12_playOf_74 : decode cX12_playOf 74 = .ok (.iload 9, 2) := by decide +kernel
theorem dX12_playOf_76 : decode cX12_playOf 76 = .ok (.ifCond .eq 8, 3) := by decide +kernel
theorem dX12_playOf_79 : decode cX12_playOf 79 = .ok (.iload 8, 2) := by decide +kernel
theorem dX12_playOf_81 : decode cX12_playOf 81 = .ok (.goto 5, 3) := by decide +kernel
theorem dX12_playOf_84 : decode cX12_playOf 84 = .ok (.iload 7, 2) := by decide +kernel
theorem dX12_playOf_86 : decode cX12_playOf 86 = .ok (.istore 7, 2) := by decide +kernel
theorem dX12_playOf_88 : decode cX12_playOf 88 = .ok (.iload 9, 2) := by decide +kernel
theorem dX12_playOf_90 : decode cX12_playOf 90 = .ok (.ifCond .eq 20, 3) := by decide +kernel
theorem dX12_playOf_93 : decode cX12_playOf 93 = .ok (.aload_n 0, 1) := by decide +kernel
theorem dX12_playOf_94 : decode cX12_playOf 94 = .ok (.iload_n 1, 1) := by decide +kernel
theorem dX12_playOf_95 : decode cX12_playOf 95 = .ok (.iload 5, 2) := by decide +kernel
theorem dX12_playOf_97 : decode cX12_playOf 97 = .ok (.iload 8, 2) := by decide +kernel
theorem dX12_playOf_99 : decode cX12_playOf 99 = .ok (.invokevirtual 496, 3) := by decide +kernel
theorem dX12_playOf_102 : decode cX12_playOf 102 = .ok (.ifCond .eq 8, 3) := by decide +kernel
theorem dX12_playOf_105 : decode cX12_playOf 105 = .ok (.iload 8, 2) := by decide +kernel
theorem dX12_playOf_107 : decode cX12_playOf 107 = .ok (.goto 5, 3) := by decide +kernel
theorem dX12_playOf_110 : decode cX12_playOf 110 = .ok (.iload 6, 2) := by decide +kernel
theorem dX12_playOf_112 : decode cX12_playOf 112 = .ok (.istore 6, 2) := by decide +kernel
theorem dX12_playOf_114 : decode cX12_playOf 114 = .ok (.iinc 8 (-1), 3) := by decide +kernel
theorem dX12_playOf_117 : decode cX12_playOf 117 = .ok (.goto (-66), 3) := by decide +kernel
theorem dX12_playOf_120 : decode cX12_playOf 120 = .ok (.iload 6, 2) := by decide +kernel
theorem dX12_playOf_122 : decode cX12_playOf 122 = .ok (.iconst (-1), 1) := by decide +kernel
theorem dX12_playOf_123 : decode cX12_playOf 123 = .ok (.if_icmp .ne 8, 3) := by decide +kernel
theorem dX12_playOf_126 : decode cX12_playOf 126 = .ok (.iload 7, 2) := by decide +kernel
theorem dX12_playOf_128 : decode cX12_playOf 128 = .ok (.goto 5, 3) := by decide +kernel
theorem dX12_playOf_131 : decode cX12_playOf 131 = .ok (.iload 6, 2) := by decide +kernel
theorem dX12_playOf_133 : decode cX12_playOf 133 = .ok (.istore 6, 2) := by decide +kernel
theorem dX12_playOf_135 : decode cX12_playOf 135 = .ok (.iload 6, 2) := by decide +kernel
theorem dX12_playOf_137 : decode cX12_playOf 137 = .ok (.iconst (-1), 1) := by decide +kernel
theorem dX12_playOf_138 : decode cX12_playOf 138 = .ok (.if_icmp .eq 26, 3) := by decide +kernel
theorem dX12_playOf_141 : decode cX12_playOf 141 = .ok (.aload_n 0, 1) := by decide +kernel
theorem dX12_playOf_142 : decode cX12_playOf 142 = .ok (.iload_n 1, 1) := by decide +kernel
theorem dX12_playOf_143 : decode cX12_playOf 143 = .ok (.iconst 1, 1) := by decide +kernel
theorem dX12_playOf_144 : decode cX12_playOf 144 = .ok (.iload 5, 2) := by decide +kernel
theorem dX12_playOf_146 : decode cX12_playOf 146 = .ok (.isub, 1) := by decide +kernel
theorem dX12_playOf_147 : decode cX12_playOf 147 = .ok (.invokevirtual 486, 3) := by decide +kernel
theorem dX12_playOf_150 : decode cX12_playOf 150 = .ok (.aload_n 0, 1) := by decide +kernel
theorem dX12_playOf_151 : decode cX12_playOf 151 = .ok (.getfield 109, 3) := by decide +kernel
theorem dX12_playOf_154 : decode cX12_playOf 154 = .ok (.iload 6, 2) := by decide +kernel
theorem dX12_playOf_156 : decode cX12_playOf 156 = .ok (.iaload, 1) := by decide +kernel
theorem dX12_playOf_157 : decode cX12_playOf 157 = .ok (.if_icmp .lt 7, 3) := by decide +kernel
theorem dX12_playOf_160 : decode cX12_playOf 160 = .ok (.iconst 1, 1) := by decide +kernel
theorem dX12_playOf_161 : decode cX12_playOf 161 = .ok (.goto 4, 3) := by decide +kernel
theorem dX12_playOf_164 : decode cX12_playOf 164 = .ok (.iconst 0, 1) := by decide +kernel
theorem dX12_playOf_165 : decode cX12_playOf 165 = .ok (.istore_n 3, 1) := by decide +kernel
theorem dX12_playOf_166 : decode cX12_playOf 166 = .ok (.iload_n 2, 1) := by decide +kernel
theorem dX12_playOf_167 : decode cX12_playOf 167 = .ok (.iload 6, 2) := by decide +kernel
theorem dX12_playOf_169 : decode cX12_playOf 169 = .ok (.iconst (-1), 1) := by decide +kernel
theorem dX12_playOf_170 : decode cX12_playOf 170 = .ok (.if_icmp .ne 7, 3) := by decide +kernel
theorem dX12_playOf_173 : decode cX12_playOf 173 = .ok (.iconst 0, 1) := by decide +kernel
theorem dX12_playOf_174 : decode cX12_playOf 174 = .ok (.goto 4, 3) := by decide +kernel
theorem dX12_playOf_177 : decode cX12_playOf 177 = .ok (.iconst 1, 1) := by decide +kernel
theorem dX12_playOf_178 : decode cX12_playOf 178 = .ok (.iadd, 1) := by decide +kernel
theorem dX12_playOf_179 : decode cX12_playOf 179 = .ok (.istore_n 2, 1) := by decide +kernel
theorem dX12_playOf_180 : decode cX12_playOf 180 = .ok (.iload_n 1, 1) := by decide +kernel
theorem dX12_playOf_181 : decode cX12_playOf 181 = .ok (.iload 6, 2) := by decide +kernel
theorem dX12_playOf_183 : decode cX12_playOf 183 = .ok (.iconst (-1), 1) := by decide +kernel
theorem dX12_playOf_184 : decode cX12_playOf 184 = .ok (.if_icmp .ne 7, 3) := by decide +kernel
theorem dX12_playOf_187 : decode cX12_playOf 187 = .ok (.iconst 0, 1) := by decide +kernel
theorem dX12_playOf_188 : decode cX12_playOf 188 = .ok (.goto 7, 3) := by decide +kernel
theorem dX12_playOf_191 : decode cX12_playOf 191 = .ok (.iconst 1, 1) := by decide +kernel
theorem dX12_playOf_192 : decode cX12_playOf 192 = .ok (.iload 6, 2) := by decide +kernel
theorem dX12_playOf_194 : decode cX12_playOf 194 = .ok (.ishl, 1) := by decide +kernel
theorem dX12_playOf_195 : decode cX12_playOf 195 = .ok (.ior, 1) := by decide +kernel
theorem dX12_playOf_196 : decode cX12_playOf 196 = .ok (.istore_n 1, 1) := by decide +kernel
theorem dX12_playOf_197 : decode cX12_playOf 197 = .ok (.goto (-191), 3) := by decide +kernel
theorem dX12_playOf_200 : decode cX12_playOf 200 = .ok (.iload_n 2, 1) := by decide +kernel
theorem dX12_playOf_201 : decode cX12_playOf 201 = .ok (.ireturn, 1) := by decide +kernel
theorem dX12_duel_0 : decode cX12_duel 0 = .ok (.aload_n 0, 1) := by decide +kernel
theorem dX12_duel_1 : decode cX12_duel 1 = .ok (.iconst 0, 1) := by decide +kernel
theorem dX12_duel_2 : decode cX12_duel 2 = .ok (.putfield 166, 3) := by decide +kernel
theorem dX12_duel_5 : decode cX12_duel 5 = .ok (.aload_n 0, 1) := by decide +kernel
theorem dX12_duel_6 : decode cX12_duel 6 = .ok (.iload_n 1, 1) := by decide +kernel
theorem dX12_duel_7 : decode cX12_duel 7 = .ok (.invokevirtual 198, 3) := by decide +kernel
theorem dX12_duel_10 : decode cX12_duel 10 = .ok (.ifCond .eq 28, 3) := by decide +kernel
theorem dX12_duel_13 : decode cX12_duel 13 = .ok (.aload_n 0, 1) := by decide +kernel
theorem dX12_duel_14 : decode cX12_duel 14 = .ok (.iload_n 2, 1) := by decide +kernel
theorem dX12_duel_15 : decode cX12_duel 15 = .ok (.invokevirtual 198, 3) := by decide +kernel
theorem dX12_duel_18 : decode cX12_duel 18 = .ok (.ifCond .eq 20, 3) := by decide +kernel
theorem dX12_duel_21 : decode cX12_duel 21 = .ok (.iload_n 1, 1) := by decide +kernel
theorem dX12_duel_22 : decode cX12_duel 22 = .ok (.iload_n 2, 1) := by decide +kernel
theorem dX12_duel_23 : decode cX12_duel 23 = .ok (.if_icmp .eq 15, 3) := by decide +kernel
theorem dX12_duel_26 : decode cX12_duel 26 = .ok (.iload_n 3, 1) := by decide +kernel
theorem dX12_duel_27 : decode cX12_duel 27 = .ok (.i2l, 1) := by decide +kernel
theorem dX12_duel_28 : decode cX12_duel 28 = .ok (.lconst 0, 1) := by decide +kernel
theorem dX12_duel_29 : decode cX12_duel 29 = .ok (.ldc2_w 232, 3) := by decide +kernel
theorem dX12_duel_32 : decode cX12_duel 32 = .ok (.invokestatic 179, 3) := by decide +kernel
theorem dX12_duel_35 : decode cX12_duel 35 = .ok (.ifCond .ne 5, 3) := by decide +kernel
theorem dX12_duel_38 : decode cX12_duel 38 = .ok (.iconst (-1), 1) := by decide +kernel
theorem dX12_duel_39 : decode cX12_duel 39 = .ok (.ireturn, 1) := by decide +kernel
theorem dX12_duel_40 : decode cX12_duel 40 = .ok (.aload_n 0, 1) := by decide +kernel
theorem dX12_duel_41 : decode cX12_duel 41 = .ok (.iconst 0, 1) := by decide +kernel
theorem dX12_duel_42 : decode cX12_duel 42 = .ok (.iload_n 1, 1) := by decide +kernel
theorem dX12_duel_43 : decode cX12_duel 43 = .ok (.iload_n 2, 1) := by decide +kernel
theorem dX12_duel_44 : decode cX12_duel 44 = .ok (.invokevirtual 499, 3) := by decide +kernel
theorem dX12_duel_47 : decode cX12_duel 47 = .ok (.aload_n 0, 1) := by decide +kernel
theorem dX12_duel_48 : decode cX12_duel 48 = .ok (.iconst 1, 1) := by decide +kernel
theorem dX12_duel_49 : decode cX12_duel 49 = .ok (.iload_n 2, 1) := by decide +kernel
theorem dX12_duel_50 : decode cX12_duel 50 = .ok (.iload_n 1, 1) := by decide +kernel
theorem dX12_duel_51 : decode cX12_duel 51 = .ok (.invokevirtual 499, 3) := by decide +kernel
theorem dX12_duel_54 : decode cX12_duel 54 = .ok (.aload_n 0, 1) := by decide +kernel
theorem dX12_duel_55 : decode cX12_duel 55 = .ok (.invokevirtual 503, 3) := by decide +kernel
theorem dX12_duel_58 : decode cX12_duel 58 = .ok (.iload_n 3, 1) := by decide +kernel
theorem dX12_duel_59 : decode cX12_duel 59 = .ok (.ifCond .ne 18, 3) := by decide +kernel
theorem dX12_duel_62 : decode cX12_duel 62 = .ok (.aload_n 0, 1) := by decide +kernel
theorem dX12_duel_63 : decode cX12_duel 63 = .ok (.getfield 112, 3) := by decide +kernel
theorem dX12_duel_66 : decode cX12_duel 66 = .ok (.iconst 0, 1) := by decide +kernel
theorem dX12_duel_67 : decode cX12_duel 67 = .ok (.baload, 1) := by decide +kernel
theorem dX12_duel_68 : decode cX12_duel 68 = .ok (.ifCond .eq 7, 3) := by decide +kernel
theorem dX12_duel_71 : decode cX12_duel 71 = .ok (.iload_n 1, 1) := by decide +kernel
theorem dX12_duel_72 : decode cX12_duel 72 = .ok (.goto 4, 3) := by decide +kernel
theorem dX12_duel_75 : decode cX12_duel 75 = .ok (.iload_n 2, 1) := by decide +kernel
theorem dX12_duel_76 : decode cX12_duel 76 = .ok (.ireturn, 1) := by decide +kernel
theorem dX12_duel_77 : decode cX12_duel 77 = .ok (.iload_n 3, 1) := by decide +kernel
theorem dX12_duel_78 : decode cX12_duel 78 = .ok (.iconst 3, 1) := by decide +kernel
theorem dX12_duel_79 : decode cX12_duel 79 = .ok (.if_icmp .ne 8, 3) := by decide +kernel
theorem dX12_duel_82 : decode cX12_duel 82 = .ok (.aload_n 0, 1) := by decide +kernel
theorem dX12_duel_83 : decode cX12_duel 83 = .ok (.invokevirtual 506, 3) := by decide +kernel
theorem dX12_duel_86 : decode cX12_duel 86 = .ok (.ireturn, 1) := by decide +kernel
theorem dX12_duel_87 : decode cX12_duel 87 = .ok (.iconst 0, 1) := by decide +kernel
theorem dX12_duel_88 : decode cX12_duel 88 = .ok (.istore 4, 2) := by decide +kernel
theorem dX12_duel_90 : decode cX12_duel 90 = .ok (.iconst (-1), 1) := by decide +kernel
theorem dX12_duel_91 : decode cX12_duel 91 = .ok (.istore 5, 2) := by decide +kernel
theorem dX12_duel_93 : decode cX12_duel 93 = .ok (.iconst 5, 1) := by decide +kernel
theorem dX12_duel_94 : decode cX12_duel 94 = .ok (.istore 6, 2) := by decide +kernel
theorem dX12_duel_96 : decode cX12_duel 96 = .ok (.iload 6, 2) := by decide +kernel
theorem dX12_duel_98 : decode cX12_duel 98 = .ok (.ifCond .lt 44, 3) := by decide +kernel
theorem dX12_duel_101 : decode cX12_duel 101 = .ok (.aload_n 0, 1) := by decide +kernel
theorem dX12_duel_102 : decode cX12_duel 102 = .ok (.iconst 0, 1) := by decide +kernel
theorem dX12_duel_103 : decode cX12_duel 103 = .ok (.iconst (-1), 1) := by decide +kernel
theorem dX12_duel_104 : decode cX12_duel 104 = .ok (.iconst 0, 1) := by decide +kernel
theorem dX12_duel_105 : decode cX12_duel 105 = .ok (.iload 6, 2) := by decide +kernel
theorem dX12_duel_107 : decode cX12_duel 107 = .ok (.invokevirtual 492, 3) := by decide +kernel
theorem dX12_duel_110 : decode cX12_duel 110 = .ok (.ifCond .eq 26, 3) := by decide +kernel
theorem dX12_duel_113 : decode cX12_duel 113 = .ok (.aload_n 0, 1) := by decide +kernel
theorem dX12_duel_114 : decode cX12_duel 114 = .ok (.iconst 0, 1) := by decide +kernel
theorem dX12_duel_115 : decode cX12_duel 115 = .ok (.iconst 0, 1) := by decide +kernel
theorem dX12_duel_116 : decode cX12_duel 116 = .ok (.iload 6, 2) := by decide +kernel
theorem dX12_duel_118 : decode cX12_duel 118 = .ok (.invokevirtual 496, 3) := by decide +kernel
theorem dX12_duel_121 : decode cX12_duel 121 = .ok (.ifCond .eq 15, 3) := by decide +kernel
theorem dX12_duel_124 : decode cX12_duel 124 = .ok (.iinc 4 1, 3) := by decide +kernel
theorem dX12_duel_127 : decode cX12_duel 127 = .ok (.aload_n 0, 1) := by decide +kernel
theorem dX12_duel_128 : decode cX12_duel 128 = .ok (.getfield 103, 3) := by decide +kernel
theorem dX12_duel_131 : decode cX12_duel 131 = .ok (.iload 6, 2) := by decide +kernel
theorem dX12_duel_133 : decode cX12_duel 133 = .ok (.iaload, 1) := by decide +kernel
theorem dX12_duel_134 : decode cX12_duel 134 = .ok (.istore 5, 2) := by decide +kernel
theorem dX12_duel_136 : decode cX12_duel 136 = .ok (.iinc 6 (-1), 3) := by decide +kernel
theorem dX12_duel_139 : decode cX12_duel 139 = .ok (.goto (-43), 3) := by decide +kernel
theorem dX12_duel_142 : decode cX12_duel 142 = .ok (.iload_n 3, 1) := by decide +kernel
theorem dX12_duel_143 : decode cX12_duel 143 = .ok (.iconst 1, 1) := by decide +kernel
theorem dX12_duel_144 : decode cX12_duel 144 = .ok (.if_icmp .ne 8, 3) := by decide +kernel
theorem dX12_duel_147 : decode cX12_duel 147 = .ok (.iload 4, 2) := by decide +kernel
theorem dX12_duel_149 : decode cX12_duel 149 = .ok (.goto 5, 3) := by decide +kernel
theorem dX12_duel_152 : decode cX12_duel 152 = .ok (.iload 5, 2) := by decide +kernel
theorem dX12_duel_154 : decode cX12_duel 154 = .ok (.ireturn, 1) := by decide +kernel
theorem dX12_end_0 : decode cX12_end 0 = .ok (.aload_n 0, 1) := by decide +kernel
theorem dX12_end_1 : decode cX12_end 1 = .ok (.iconst 0, 1) := by decide +kernel
theorem dX12_end_2 : decode cX12_end 2 = .ok (.putfield 166, 3) := by decide +kernel
theorem dX12_end_5 : decode cX12_end 5 = .ok (.iload_n 1, 1) := by decide +kernel
theorem dX12_end_6 : decode cX12_end 6 = .ok (.ifCond .lt 11, 3) := by decide +kernel
theorem dX12_end_9 : decode cX12_end 9 = .ok (.iload_n 1, 1) := by decide +kernel
theorem dX12_end_10 : decode cX12_end 10 = .ok (.aload_n 0, 1) := by decide +kernel
theorem dX12_end_11 : decode cX12_end 11 = .ok (.getfield 236, 3) := by decide +kernel
theorem dX12_end_14 : decode cX12_end 14 = .ok (.if_icmp .le 5, 3) := by decide +kernel
theorem dX12_end_17 : decode cX12_end 17 = .ok (.iconst (-1), 1) := by decide +kernel
theorem dX12_end_18 : decode cX12_end 18 = .ok (.ireturn, 1) := by decide +kernel
theorem dX12_end_19 : decode cX12_end 19 = .ok (.aload_n 0, 1) := by decide +kernel
theorem dX12_end_20 : decode cX12_end 20 = .ok (.iload_n 1, 1) := by decide +kernel
theorem dX12_end_21 : decode cX12_end 21 = .ok (.putfield 236, 3) := by decide +kernel
theorem dX12_end_24 : decode cX12_end 24 = .ok (.iload_n 1, 1) := by decide +kernel
theorem dX12_end_25 : decode cX12_end 25 = .ok (.ireturn, 1) := by decide +kernel
theorem dX12_endText_0 : decode cX12_endText 0 = .ok (.aload_n 0, 1) := by decide +kernel
theorem dX12_endText_1 : decode cX12_endText 1 = .ok (.getfield 249, 3) := by decide +kernel
theorem dX12_endText_4 : decode cX12_endText 4 = .ok (.ifCond .ne 15, 3) := by decide +kernel
theorem dX12_endText_7 : decode cX12_endText 7 = .ok (.aload_n 0, 1) := by decide +kernel
theorem dX12_endText_8 : decode cX12_endText 8 = .ok (.getfield 269, 3) := by decide +kernel
theorem dX12_endText_11 : decode cX12_endText 11 = .ok (.ifCond .eq 8, 3) := by decide +kernel
theorem dX12_endText_14 : decode cX12_endText 14 = .ok (.aload_n 0, 1) := by decide +kernel
theorem dX12_endText_15 : decode cX12_endText 15 = .ok (.iconst 0, 1) := by decide +kernel
theorem dX12_endText_16 : decode cX12_endText 16 = .ok (.invokevirtual 284, 3) := by decide +kernel
theorem dX12_endText_19 : decode cX12_endText 19 = .ok (.aload_n 0, 1) := by decide +kernel
theorem dX12_endText_20 : decode cX12_endText 20 = .ok (.iconst 0, 1) := by decide +kernel
theorem dX12_endText_21 : decode cX12_endText 21 = .ok (.putfield 326, 3) := by decide +kernel
theorem dX12_endText_24 : decode cX12_endText 24 = .ok (.aload_n 0, 1) := by decide +kernel
theorem dX12_endText_25 : decode cX12_endText 25 = .ok (.iconst 0, 1) := by decide +kernel
theorem dX12_endText_26 : decode cX12_endText 26 = .ok (.putfield 236, 3) := by decide +kernel
theorem dX12_endText_29 : decode cX12_endText 29 = .ok (.return_, 1) := by decide +kernel
theorem dX12_fault_0 : decode cX12_fault 0 = .ok (.aload_n 0, 1) := by decide +kernel
theorem dX12_fault_1 : decode cX12_fault 1 = .ok (.iconst 0, 1) := by decide +kernel
theorem dX12_fault_2 : decode cX12_fault 2 = .ok (.putfield 166, 3) := by decide +kernel
theorem dX12_fault_5 : decode cX12_fault 5 = .ok (.aload_n 0, 1) := by decide +kernel
theorem dX12_fault_6 : decode cX12_fault 6 = .ok (.getfield 38, 3) := by decide +kernel
theorem dX12_fault_9 : decode cX12_fault 9 = .ok (.ireturn, 1) := by decide +kernel
theorem dX12_four_0 : decode cX12_four 0 = .ok (.bipush 24, 2) := by decide +kernel
theorem dX12_four_2 : decode cX12_four 2 = .ok (.istore_n 2, 1) := by decide +kernel
theorem dX12_four_3 : decode cX12_four 3 = .ok (.iload_n 2, 1) := by decide +kernel
theorem dX12_four_4 : decode cX12_four 4 = .ok (.ifCond .lt 35, 3) := by decide +kernel
theorem dX12_four_7 : decode cX12_four 7 = .ok (.aload_n 0, 1) := by decide +kernel
theorem dX12_four_8 : decode cX12_four 8 = .ok (.getfield 35, 3) := by decide +kernel
theorem dX12_four_11 : decode cX12_four 11 = .ok (.aload_n 0, 1) := by decide +kernel
theorem dX12_four_12 : decode cX12_four 12 = .ok (.getfield 236, 3) := by decide +kernel
theorem dX12_four_15 : decode cX12_four 15 = .ok (.iload_n 1, 1) := by decide +kernel
theorem dX12_four_16 : decode cX12_four 16 = .ok (.iload_n 2, 1) := by decide +kernel
theorem dX12_four_17 : decode cX12_four 17 = .ok (.ishr, 1) := by decide +kernel
theorem dX12_four_18 : decode cX12_four 18 = .ok (.sipush 255, 3) := by decide +kernel
theorem dX12_four_21 : decode cX12_four 21 = .ok (.iand, 1) := by decide +kernel
theorem dX12_four_22 : decode cX12_four 22 = .ok (.iastore, 1) := by decide +kernel
theorem dX12_four_23 : decode cX12_four 23 = .ok (.aload_n 0, 1) := by decide +kernel
theorem dX12_four_24 : decode cX12_four 24 = .ok (.dup, 1) := by decide +kernel
theorem dX12_four_25 : decode cX12_four 25 = .ok (.getfield 236, 3) := by decide +kernel
theorem dX12_four_28 : decode cX12_four 28 = .ok (.iconst 1, 1) := by decide +kernel
theorem dX12_four_29 : decode cX12_four 29 = .ok (.iadd, 1) := by decide +kernel
theorem dX12_four_30 : decode cX12_four 30 = .ok (.putfield 236, 3) := by decide +kernel
theorem dX12_four_33 : decode cX12_four 33 = .ok (.iinc 2 (-8), 3) := by decide +kernel
theorem dX12_four_36 : decode cX12_four 36 = .ok (.goto (-33), 3) := by decide +kernel
theorem dX12_four_39 : decode cX12_four 39 = .ok (.return_, 1) := by decide +kernel
theorem dX12_feed_0 : decode cX12_feed 0 = .ok (.aload_n 0, 1) := by decide +kernel
theorem dX12_feed_1 : decode cX12_feed 1 = .ok (.iconst 0, 1) := by decide +kernel
theorem dX12_feed_2 : decode cX12_feed 2 = .ok (.putfield 166, 3) := by decide +kernel
theorem dX12_feed_5 : decode cX12_feed 5 = .ok (.aload_n 0, 1) := by decide +kernel
theorem dX12_feed_6 : decode cX12_feed 6 = .ok (.getfield 236, 3) := by decide +kernel
theorem dX12_feed_9 : decode cX12_feed 9 = .ok (.bipush 20, 2) := by decide +kernel
theorem dX12_feed_11 : decode cX12_feed 11 = .ok (.iadd, 1) := by decide +kernel
theorem dX12_feed_12 : decode cX12_feed 12 = .ok (.sipush 400, 3) := by decide +kernel
theorem dX12_feed_15 : decode cX12_feed 15 = .ok (.if_icmp .le 5, 3) := by decide +kernel
theorem dX12_feed_18 : decode cX12_feed 18 = .ok (.iconst (-1), 1) := by decide +kernel
theorem dX12_feed_19 : decode cX12_feed 19 = .ok (.ireturn, 1) := by decide +kernel
theorem dX12_feed_20 : decode cX12_feed 20 = .ok (.aload_n 0, 1) := by decide +kernel
theorem dX12_feed_21 : decode cX12_feed 21 = .ok (.iload_n 1, 1) := by decide +kernel
theorem dX12_feed_22 : decode cX12_feed 22 = .ok (.invokevirtual 242, 3) := by decide +kernel
theorem dX12_feed_25 : decode cX12_feed 25 = .ok (.aload_n 0, 1) := by decide +kernel
theorem dX12_feed_26 : decode cX12_feed 26 = .ok (.iload_n 2, 1) := by decide +kernel
theorem dX12_feed_27 : decode cX12_feed 27 = .ok (.invokevirtual 242, 3) := by decide +kernel
theorem dX12_feed_30 : decode cX12_feed 30 = .ok (.aload_n 0, 1) := by decide +kernel
theorem dX12_feed_31 : decode cX12_feed 31 = .ok (.iload_n 3, 1) := by decide +kernel
theorem dX12_feed_32 : decode cX12_feed 32 = .ok (.invokevirtual 242, 3) := by decide +kernel
theorem dX12_feed_35 : decode cX12_feed 35 = .ok (.aload_n 0, 1) := by decide +kernel
theorem dX12_feed_36 : decode cX12_feed 36 = .ok (.iload 4, 2) := by decide +kernel
theorem dX12_feed_38 : decode cX12_feed 38 = .ok (.invokevirtual 242, 3) := by decide +kernel
theorem dX12_feed_41 : decode cX12_feed 41 = .ok (.aload_n 0, 1) := by decide +kernel
theorem dX12_feed_42 : decode cX12_feed 42 = .ok (.iload 5, 2) := by decide +kernel
theorem dX12_feed_44 : decode cX12_feed 44 = .ok (.invokevirtual 242, 3) := by decide +kernel
theorem dX12_feed_47 : decode cX12_feed 47 = .ok (.aload_n 0, 1) := by decide +kernel
theorem dX12_feed_48 : decode cX12_feed 48 = .ok (.getfield 236, 3) := by decide +kernel
theorem dX12_feed_51 : decode cX12_feed 51 = .ok (.ireturn, 1) := by decide +kernel
theorem dX12_isTold_0 : decode cX12_isTold 0 = .ok (.iconst 1, 1) := by decide +kernel
theorem dX12_isTold_1 : decode cX12_isTold 1 = .ok (.istore_n 1, 1) := by decide +kernel
theorem dX12_isTold_2 : decode cX12_isTold 2 = .ok (.iconst 0, 1) := by decide +kernel
theorem dX12_isTold_3 : decode cX12_isTold 3 = .ok (.istore_n 2, 1) := by decide +kernel
theorem dX12_isTold_4 : decode cX12_isTold 4 = .ok (.iload_n 2, 1) := by decide +kernel
theorem dX12_isTold_5 : decode cX12_isTold 5 = .ok (.aload_n 0, 1) := by decide +kernel
theorem dX12_isTold_6 : decode cX12_isTold 6 = .ok (.getfield 13, 3) := by decide +kernel
theorem dX12_isTold_9 : decode cX12_isTold 9 = .ok (.iconst 1, 1) := by decide +kernel
theorem dX12_isTold_10 : decode cX12_isTold 10 = .ok (.iaload, 1) := by decide +kernel
theorem dX12_isTold_11 : decode cX12_isTold 11 = .ok (.if_icmp .ge 44, 3) := by decide +kernel
theorem dX12_isTold_14 : decode cX12_isTold 14 = .ok (.iload_n 1, 1) := by decide +kernel
theorem dX12_isTold_15 : decode cX12_isTold 15 = .ok (.ifCond .eq 32, 3) := by decide +kernel
theorem dX12_isTold_18 : decode cX12_isTold 18 = .ok (.aload_n 0, 1) := by decide +kernel
theorem dX12_isTold_19 : decode cX12_isTold 19 = .ok (.iload_n 2, 1) := by decide +kernel
theorem dX12_isTold_20 : decode cX12_isTold 20 = .ok (.iconst 5, 1) := by decide +kernel
theorem dX12_isTold_21 : decode cX12_isTold 21 = .ok (.invokevirtual 190, 3) := by decide +kernel
theorem dX12_isTold_24 : decode cX12_isTold 24 = .ok (.iconst (-1), 1) := by decide +kernel
theorem dX12_isTold_25 : decode cX12_isTold 25 = .ok (.if_icmp .eq 18, 3) := by decide +kernel
theorem dX12_isTold_28 : decode cX12_isTold 28 = .ok (.aload_n 0, 1) := by decide +kernel
theorem dX12_isTold_29 : decode cX12_isTold 29 = .ok (.iload_n 2, 1) := by decide +kernel
theorem dX12_isTold_30 : decode cX12_isTold 30 = .ok (.iconst 5, 1) := by decide +kernel
theorem dX12_isTold_31 : decode cX12_isTold 31 = .ok (.invokevirtual 190, 3) := by decide +kernel
theorem dX12_isTold_34 : decode cX12_isTold 34 = .ok (.aload_n 0, 1) := by decide +kernel
theorem dX12_isTold_35 : decode cX12_isTold 35 = .ok (.getfield 145, 3) := by decide +kernel
theorem dX12_isTold_38 : decode cX12_isTold 38 = .ok (.iload_n 2, 1) := by decide +kernel
theorem dX12_isTold_39 : decode cX12_isTold 39 = .ok (.iaload, 1) := by decide +kernel
theorem dX12_isTold_40 : decode cX12_isTold 40 = .ok (.if_icmp .ne 7, 3) := by decide +kernel
theorem dX12_isTold_43 : decode cX12_isTold 43 = .ok (.iconst 1, 1) := by decide +kernel
theorem dX12_isTold_44 : decode cX12_isTold 44 = .ok (.goto 4, 3) := by decide +kernel
theorem dX12_isTold_47 : decode cX12_isTold 47 = .ok (.iconst 0, 1) := by decide +kernel
theorem dX12_isTold_48 : decode cX12_isTold 48 = .ok (.istore_n 1, 1) := by decide +kernel
theorem dX12_isTold_49 : decode cX12_isTold 49 = .ok (.iinc 2 1, 3) := by decide +kernel
theorem dX12_isTold_52 : decode cX12_isTold 52 = .ok (.goto (-48), 3) := by decide +kernel
theorem dX12_isTold_55 : decode cX12_isTold 55 = .ok (.iload_n 1, 1) := by decide +kernel
theorem dX12_isTold_56 : decode cX12_isTold 56 = .ok (.ireturn, 1) := by decide +kernel
theorem dX12_keepGifts_0 : decode cX12_keepGifts 0 = .ok (.iconst 0, 1) := by decide +kernel
theorem dX12_keepGifts_1 : decode cX12_keepGifts 1 = .ok (.istore_n 2, 1) := by decide +kernel
theorem dX12_keepGifts_2 : decode cX12_keepGifts 2 = .ok (.iload_n 2, 1) := by decide +kernel
theorem dX12_keepGifts_3 : decode cX12_keepGifts 3 = .ok (.iload_n 1, 1) := by decide +kernel
theorem dX12_keepGifts_4 : decode cX12_keepGifts 4 = .ok (.if_icmp .ge 28, 3) := by decide +kernel
theorem dX12_keepGifts_7 : decode cX12_keepGifts 7 = .ok (.aload_n 0, 1) := by decide +kernel
theorem dX12_keepGifts_8 : decode cX12_keepGifts 8 = .ok (.getfield 568, 3) := by decide +kernel
theorem dX12_keepGifts_11 : decode cX12_keepGifts 11 = .ok (.ifCond .ne 21, 3) := by decide +kernel
theorem dX12_keepGifts_14 : decode cX12_keepGifts 14 = .ok (.aload_n 0, 1) := by decide +kernel
theorem dX12_keepGifts_15 : decode cX12_keepGifts 15 = .ok (.getfield 154, 3) := by decide +kernel
theorem dX12_keepGifts_18 : decode cX12_keepGifts 18 = .ok (.iload_n 2, 1) := by decide +kernel
theorem dX12_keepGifts_19 : decode cX12_keepGifts 19 = .ok (.aload_n 0, 1) := by decide +kernel
theorem dX12_keepGifts_20 : decode cX12_keepGifts 20 = .ok (.getfield 148, 3) := by decide +kernel
theorem dX12_keepGifts_23 : decode cX12_keepGifts 23 = .ok (.iload_n 2, 1) := by decide +kernel
theorem dX12_keepGifts_24 : decode cX12_keepGifts 24 = .ok (.iaload, 1) := by decide +kernel
theorem dX12_keepGifts_25 : decode cX12_keepGifts 25 = .ok (.iastore, 1) := by decide +kernel
theorem dX12_keepGifts_26 : decode cX12_keepGifts 26 = .ok (.iinc 2 1, 3) := by decide +kernel
theorem dX12_keepGifts_29 : decode cX12_keepGifts 29 = .ok (.goto (-27), 3) := by decide +kernel
theorem dX12_keepGifts_32 : decode cX12_keepGifts 32 = .ok (.aload_n 0, 1) := by decide +kernel
theorem dX12_keepGifts_33 : decode cX12_keepGifts 33 = .ok (.dup, 1) := by decide +kernel
theorem dX12_keepGifts_34 : decode cX12_keepGifts 34 = .ok (.getfield 568, 3) := by decide +kernel
theorem dX12_keepGifts_37 : decode cX12_keepGifts 37 = .ok (.iconst 1, 1) := by decide +kernel
theorem dX12_keepGifts_38 : decode cX12_keepGifts 38 = .ok (.iadd, 1) := by decide +kernel
theorem dX12_keepGifts_39 : decode cX12_keepGifts 39 = .ok (.putfield 568, 3) := by decide +kernel
theorem dX12_keepGifts_42 : decode cX12_keepGifts 42 = .ok (.return_, 1) := by decide +kernel
theorem dX12_findGifts_0 : decode cX12_findGifts 0 = .ok (.iconst 0, 1) := by decide +kernel
theorem dX12_findGifts_1 : decode cX12_findGifts 1 = .ok (.istore_n 2, 1) := by decide +kernel
theorem dX12_findGifts_2 : decode cX12_findGifts 2 = .ok (.iload_n 2, 1) := by decide +kernel
theorem dX12_findGifts_3 : decode cX12_findGifts 3 = .ok (.sipush 576, 3) := by decide +kernel
theorem dX12_findGifts_6 : decode cX12_findGifts 6 = .ok (.if_icmp .ge 85, 3) := by decide +kernel
theorem dX12_findGifts_9 : decode cX12_findGifts 9 = .ok (.iload_n 2, 1) := by decide +kernel
theorem dX12_findGifts_10 : decode cX12_findGifts 10 = .ok (.bipush 36, 2) := by decide +kernel
theorem dX12_findGifts_12 : decode cX12_findGifts 12 = .ok (.idiv, 1) := by decide +kernel
theorem dX12_findGifts_13 : decode cX12_findGifts 13 = .ok (.istore_n 3, 1) := by decide +kernel
theorem dX12_findGifts_14 : decode cX12_findGifts 14 = .ok (.iload_n 2, 1) := by decide +kernel
theorem dX12_findGifts_15 : decode cX12_findGifts 15 = .ok (.bipush 6, 2) := by decide +kernel
theorem dX12_findGifts_17 : decode cX12_findGifts 17 = .ok (.idiv, 1) := by decide +kernel
theorem dX12_findGifts_18 : decode cX12_findGifts 18 = .ok (.bipush 6, 2) := by decide +kernel
theorem dX12_findGifts_20 : decode cX12_findGifts 20 = .ok (.irem, 1) := by decide +kernel
theorem dX12_findGifts_21 : decode cX12_findGifts 21 = .ok (.istore 4, 2) := by decide +kernel
theorem dX12_findGifts_23 : decode cX12_findGifts 23 = .ok (.iload_n 2, 1) := by decide +kernel
theorem dX12_findGifts_24 : decode cX12_findGifts 24 = .ok (.bipush 6, 2) := by decide +kernel
theorem dX12_findGifts_26 : decode cX12_findGifts 26 = .ok (.irem, 1) := by decide +kernel
theorem dX12_findGifts_27 : decode cX12_findGifts 27 = .ok (.istore 5, 2) := by decide +kernel
theorem dX12_findGifts_29 : decode cX12_findGifts 29 = .ok (.aload_n 0, 1) := by decide +kernel
theorem dX12_findGifts_30 : decode cX12_findGifts 30 = .ok (.getfield 142, 3) := by decide +kernel
theorem dX12_findGifts_33 : decode cX12_findGifts 33 = .ok (.iload_n 2, 1) := by decide +kernel
theorem dX12_findGifts_34 : decode cX12_findGifts 34 = .ok (.aload_n 0, 1) := by decide +kernel
theorem dX12_findGifts_35 : decode cX12_findGifts 35 = .ok (.iload_n 3, 1) := by decide +kernel
theorem dX12_findGifts_36 : decode cX12_findGifts 36 = .ok (.invokevirtual 225, 3) := by decide +kernel
theorem dX12_findGifts_39 : decode cX12_findGifts 39 = .ok (.ifCond .eq 44, 3) := by decide +kernel
theorem dX12_findGifts_42 : decode cX12_findGifts 42 = .ok (.aload_n 0, 1) := by decide +kernel
theorem dX12_findGifts_43 : decode cX12_findGifts 43 = .ok (.iload 4, 2) := by decide +kernel
theorem dX12_findGifts_45 : decode cX12_findGifts 45 = .ok (.invokevirtual 198, 3) := by decide +kernel
theorem dX12_findGifts_48 : decode cX12_findGifts 48 = .ok (.ifCond .eq 35, 3) := by decide +kernel
theorem dX12_findGifts_51 : decode cX12_findGifts 51 = .ok (.aload_n 0, 1) := by decide +kernel
theorem dX12_findGifts_52 : decode cX12_findGifts 52 = .ok (.iload 5, 2) := by decide +kernel
theorem dX12_findGifts_54 : decode cX12_findGifts 54 = .ok (.invokevirtual 198, 3) := by decide +kernel
theorem dX12_findGifts_57 : decode cX12_findGifts 57 = .ok (.ifCond .eq 26, 3) := by decide +kernel
theorem dX12_findGifts_60 : decode cX12_findGifts 60 = .ok (.iload 4, 2) := by decide +kernel
theorem dX12_findGifts_62 : decode cX12_findGifts 62 = .ok (.iload 5, 2) := by decide +kernel
theorem dX12_findGifts_64 : decode cX12_findGifts 64 = .ok (.if_icmp .eq 19, 3) := by decide +kernel
theorem dX12_findGifts_67 : decode cX12_findGifts 67 = .ok (.aload_n 0, 1) := by decide +kernel
theorem dX12_findGifts_68 : decode cX12_findGifts 68 = .ok (.iload_n 3, 1) := by decide +kernel
theorem dX12_findGifts_69 : decode cX12_findGifts 69 = .ok (.iload 4, 2) := by decide +kernel
theorem dX12_findGifts_71 : decode cX12_findGifts 71 = .ok (.iload 5, 2) := by decide +kernel
theorem dX12_findGifts_73 : decode cX12_findGifts 73 = .ok (.invokevirtual 448, 3) := by decide +kernel
theorem dX12_findGifts_76 : decode cX12_findGifts 76 = .ok (.ifCond .eq 7, 3) := by decide +kernel
theorem dX12_findGifts_79 : decode cX12_findGifts 79 = .ok (.iconst 1, 1) := by decide +kernel
theorem dX12_findGifts_80 : decode cX12_findGifts 80 = .ok (.goto 4, 3) := by decide +kernel
theorem dX12_findGifts_83 : decode cX12_findGifts 83 = .ok (.iconst 0, 1) := by decide +kernel
theorem dX12_findGifts_84 : decode cX12_findGifts 84 = .ok (.bastore, 1) := by decide +kernel
theorem dX12_findGifts_85 : decode cX12_findGifts 85 = .ok (.iinc 2 1, 3) := by decide +kernel
theorem dX12_findGifts_88 : decode cX12_findGifts 88 = .ok (.goto (-86), 3) := by decide +kernel
theorem dX12_findGifts_91 : decode cX12_findGifts 91 = .ok (.iconst 0, 1) := by decide +kernel
theorem dX12_findGifts_92 : decode cX12_findGifts 92 = .ok (.istore_n 2, 1) := by decide +kernel
theorem dX12_findGifts_93 : decode cX12_findGifts 93 = .ok (.iload_n 2, 1) := by decide +kernel
theorem dX12_findGifts_94 : decode cX12_findGifts 94 = .ok (.aload_n 0, 1) := by decide +kernel
theorem dX12_findGifts_95 : decode cX12_findGifts 95 = .ok (.getfield 13, 3) := by decide +kernel
theorem dX12_findGifts_98 : decode cX12_findGifts 98 = .ok (.iconst 1, 1) := by decide +kernel
theorem dX12_findGifts_99 : decode cX12_findGifts 99 = .ok (.iaload, 1) := by decide +kernel
theorem dX12_findGifts_100 : decode cX12_findGifts 100 = .ok (.if_icmp .ge 21, 3) := by decide +kernel
theorem dX12_findGifts_103 : decode cX12_findGifts 103 = .ok (.aload_n 0, 1) := by decide +kernel
theorem dX12_findGifts_104 : decode cX12_findGifts 104 = .ok (.getfield 145, 3) := by decide +kernel
theorem dX12_findGifts_107 : decode cX12_findGifts 107 = .ok (.iload_n 2, 1) := by decide +kernel
theorem dX12_findGifts_108 : decode cX12_findGifts 108 = .ok (.aload_n 0, 1) := by decide +kernel
theorem dX12_findGifts_109 : decode cX12_findGifts 109 = .ok (.iload_n 2, 1) := by decide +kernel
theorem dX12_findGifts_110 : decode cX12_findGifts 110 = .ok (.iconst 0, 1) := by decide +kernel
theorem dX12_findGifts_111 : decode cX12_findGifts 111 = .ok (.invokevirtual 190, 3) := by decide +kernel
theorem dX12_findGifts_114 : decode cX12_findGifts 114 = .ok (.iastore, 1) := by decide +kernel
theorem dX12_findGifts_115 : decode cX12_findGifts 115 = .ok (.iinc 2 1, 3) := by decide +kernel
theorem dX12_findGifts_118 : decode cX12_findGifts 118 = .ok (.goto (-25), 3) := by decide +kernel
theorem dX12_findGifts_121 : decode cX12_findGifts 121 = .ok (.aload_n 0, 1) := by decide +kernel
theorem dX12_findGifts_122 : decode cX12_findGifts 122 = .ok (.iconst 0, 1) := by decide +kernel
theorem dX12_findGifts_123 : decode cX12_findGifts 123 = .ok (.putfield 568, 3) := by decide +kernel
theorem dX12_findGifts_126 : decode cX12_findGifts 126 = .ok (.iload_n 1, 1) := by decide +kernel
theorem dX12_findGifts_127 : decode cX12_findGifts 127 = .ok (.ifCond .ne 16, 3) := by decide +kernel
theorem dX12_findGifts_130 : decode cX12_findGifts 130 = .ok (.aload_n 0, 1) := by decide +kernel
theorem dX12_findGifts_131 : decode cX12_findGifts 131 = .ok (.invokevirtual 571, 3) := by decide +kernel
theorem dX12_findGifts_134 : decode cX12_findGifts 134 = .ok (.ifCond .eq 8, 3) := by decide +kernel
theorem dX12_findGifts_137 : decode cX12_findGifts 137 = .ok (.aload_n 0, 1) := by decide +kernel
theorem dX12_findGifts_138 : decode cX12_findGifts 138 = .ok (.iconst 0, 1) := by decide +kernel
theorem dX12_findGifts_139 : decode cX12_findGifts 139 = .ok (.invokevirtual 574, 3) := by decide +kernel
theorem dX12_findGifts_142 : decode cX12_findGifts 142 = .ok (.return_, 1) := by decide +kernel
theorem dX12_findGifts_143 : decode cX12_findGifts 143 = .ok (.iconst 0, 1) := by decide +kernel
theorem dX12_findGifts_144 : decode cX12_findGifts 144 = .ok (.istore_n 2, 1) := by decide +kernel
theorem dX12_findGifts_145 : decode cX12_findGifts 145 = .ok (.aload_n 0, 1) := by decide +kernel
theorem dX12_findGifts_146 : decode cX12_findGifts 146 = .ok (.getfield 148, 3) := by decide +kernel
theorem dX12_findGifts_149 : decode cX12_findGifts 149 = .ok (.iconst 0, 1) := by decide +kernel
theorem dX12_findGifts_150 : decode cX12_findGifts 150 = .ok (.iconst (-1), 1) := by decide +kernel
theorem dX12_findGifts_151 : decode cX12_findGifts 151 = .ok (.iastore, 1) := by decide +kernel
theorem dX12_findGifts_152 : decode cX12_findGifts 152 = .ok (.iload_n 2, 1) := by decide +kernel
theorem dX12_findGifts_153 : decode cX12_findGifts 153 = .ok (.ifCond .lt 158, 3) := by decide +kernel
theorem dX12_findGifts_156 : decode cX12_findGifts 156 = .ok (.aload_n 0, 1) := by decide +kernel
theorem dX12_findGifts_157 : decode cX12_findGifts 157 = .ok (.getfield 148, 3) := by decide +kernel
theorem dX12_findGifts_160 : decode cX12_findGifts 160 = .ok (.iload_n 2, 1) := by decide +kernel
theorem dX12_findGifts_161 : decode cX12_findGifts 161 = .ok (.dup2, 1) := by decide +kernel
theorem dX12_findGifts_162 : decode cX12_findGifts 162 = .ok (.iaload, 1) := by decide +kernel
theorem dX12_findGifts_163 : decode cX12_findGifts 163 = .ok (.iconst 1, 1) := by decide +kernel
theorem dX12_findGifts_164 : decode cX12_findGifts 164 = .ok (.iadd, 1) := by decide +kernel
theorem dX12_findGifts_165 : decode cX12_findGifts 165 = .ok (.iastore, 1) := by decide +kernel
theorem dX12_findGifts_166 : decode cX12_findGifts 166 = .ok (.aload_n 0, 1) := by decide +kernel
theorem dX12_findGifts_167 : decode cX12_findGifts 167 = .ok (.getfield 148, 3) := by decide +kernel
theorem dX12_findGifts_170 : decode cX12_findGifts 170 = .ok (.iload_n 2, 1) := by decide +kernel
theorem dX12_findGifts_171 : decode cX12_findGifts 171 = .ok (.iaload, 1) := by decide +kernel
theorem dX12_findGifts_172 : decode cX12_findGifts 172 = .ok (.bipush 6, 2) := by decide +kernel
theorem dX12_findGifts_174 : decode cX12_findGifts 174 = .ok (.aload_n 0, 1) := by decide +kernel
theorem dX12_findGifts_175 : decode cX12_findGifts 175 = .ok (.getfield 13, 3) := by decide +kernel
theorem dX12_findGifts_178 : decode cX12_findGifts 178 = .ok (.iconst 1, 1) := by decide +kernel
theorem dX12_findGifts_179 : decode cX12_findGifts 179 = .ok (.iaload, 1) := by decide +kernel
theorem dX12_findGifts_180 : decode cX12_findGifts 180 = .ok (.imul, 1) := by decide +kernel
theorem dX12_findGifts_181 : decode cX12_findGifts 181 = .ok (.if_icmp .ne 33, 3) := by decide +kernel
theorem dX12_findGifts_184 : decode cX12_findGifts 184 = .ok (.iinc 2 (-1), 3) := by decide +kernel
theorem dX12_findGifts_187 : decode cX12_findGifts 187 = .ok (.iload_n 2, 1) := by decide +kernel
theorem dX12_findGifts_188 : decode cX12_findGifts 188 = .ok (.ifCond .lt (-36), 3) := by decide +kernel
theorem dX12_findGifts_191 : decode cX12_findGifts 191 = .ok (.aload_n 0, 1) := by decide +kernel
theorem dX12_findGifts_192 : decode cX12_findGifts 192 = .ok (.getfield 145, 3) := by decide +kernel
theorem dX12_findGifts_195 : decode cX12_findGifts 195 = .ok (.aload_n 0, 1) := by decide +kernel
theorem dX12_findGifts_196 : decode cX12_findGifts 196 = .ok (.getfield 148, 3) := by decide +kernel
theorem dX12_findGifts_199 : decode cX12_findGifts 199 = .ok (.iload_n 2, 1) := by decide +kernel
theorem dX12_findGifts_200 : decode cX12_findGifts 200 = .ok (.iaload, 1) := by decide +kernel
theorem dX12_findGifts_201 : decode cX12_findGifts 201 = .ok (.bipush 6, 2) := by decide +kernel
theorem dX12_findGifts_203 : decode cX12_findGifts 203 = .ok (.idiv, 1) := by decide +kernel
theorem dX12_findGifts_204 : decode cX12_findGifts 204 = .ok (.aload_n 0, 1) := by decide +kernel
theorem dX12_findGifts_205 : decode cX12_findGifts 205 = .ok (.getfield 151, 3) := by decide +kernel
theorem dX12_findGifts_208 : decode cX12_findGifts 208 = .ok (.iload_n 2, 1) := by decide +kernel
theorem dX12_findGifts_209 : decode cX12_findGifts 209 = .ok (.iaload, 1) := by decide +kernel
theorem dX12_findGifts_210 : decode cX12_findGifts 210 = .ok (.iastore, 1) := by decide +kernel
theorem dX12_findGifts_211 : decode cX12_findGifts 211 = .ok (.goto (-59), 3) := by decide +kernel
theorem dX12_findGifts_214 : decode cX12_findGifts 214 = .ok (.aload_n 0, 1) := by decide +kernel
theorem dX12_findGifts_215 : decode cX12_findGifts 215 = .ok (.aload_n 0, 1) := by decide +kernel
theorem dX12_findGifts_216 : decode cX12_findGifts 216 = .ok (.getfield 148, 3) := by decide +kernel
theorem dX12_findGifts_219 : decode cX12_findGifts 219 = .ok (.iload_n 2, 1) := by decide +kernel
theorem dX12_findGifts_220 : decode cX12_findGifts 220 = .ok (.iaload, 1) := by decide +kernel
theorem dX12_findGifts_221 : decode cX12_findGifts 221 = .ok (.invokevirtual 577, 3) := by decide +kernel
theorem dX12_findGifts_224 : decode cX12_findGifts 224 = .ok (.ifCond .eq (-72), 3) := by decide +kernel
theorem dX12_findGifts_227 : decode cX12_findGifts 227 = .ok (.aload_n 0, 1) := by decide +kernel
theorem dX12_findGifts_228 : decode cX12_findGifts 228 = .ok (.getfield 148, 3) := by decide +kernel
theorem dX12_findGifts_231 : decode cX12_findGifts 231 = .ok (.iload_n 2, 1) := by decide +kernel
theorem dX12_findGifts_232 : decode cX12_findGifts 232 = .ok (.iaload, 1) := by decide +kernel
theorem dX12_findGifts_233 : decode cX12_findGifts 233 = .ok (.bipush 6, 2) := by decide +kernel
theorem dX12_findGifts_235 : decode cX12_findGifts 235 = .ok (.idiv, 1) := by decide +kernel
theorem dX12_findGifts_236 : decode cX12_findGifts 236 = .ok (.istore_n 3, 1) := by decide +kernel
theorem dX12_findGifts_237 : decode cX12_findGifts 237 = .ok (.aload_n 0, 1) := by decide +kernel
theorem dX12_findGifts_238 : decode cX12_findGifts 238 = .ok (.getfield 151, 3) := by decide +kernel
theorem dX12_findGifts_241 : decode cX12_findGifts 241 = .ok (.iload_n 2, 1) := by decide +kernel
theorem dX12_findGifts_242 : decode cX12_findGifts 242 = .ok (.aload_n 0, 1) := by decide +kernel
theorem dX12_findGifts_243 : decode cX12_findGifts 243 = .ok (.getfield 145, 3) := by decide +kernel
theorem dX12_findGifts_246 : decode cX12_findGifts 246 = .ok (.iload_n 3, 1) := by decide +kernel
theorem dX12_findGifts_247 : decode cX12_findGifts 247 = .ok (.iaload, 1) := by decide +kernel
theorem dX12_findGifts_248 : decode cX12_findGifts 248 = .ok (.iastore, 1) := by decide +kernel
theorem dX12_findGifts_249 : decode cX12_findGifts 249 = .ok (.aload_n 0, 1) := by decide +kernel
theorem dX12_findGifts_250 : decode cX12_findGifts 250 = .ok (.getfield 145, 3) := by decide +kernel
theorem dX12_findGifts_253 : decode cX12_findGifts 253 = .ok (.iload_n 3, 1) := by decide +kernel
theorem dX12_findGifts_254 : decode cX12_findGifts 254 = .ok (.aload_n 0, 1) := by decide +kernel
theorem dX12_findGifts_255 : decode cX12_findGifts 255 = .ok (.getfield 148, 3) := by decide +kernel
theorem dX12_findGifts_258 : decode cX12_findGifts 258 = .ok (.iload_n 2, 1) := by decide +kernel
theorem dX12_findGifts_259 : decode cX12_findGifts 259 = .ok (.iaload, 1) := by decide +kernel
theorem dX12_findGifts_260 : decode cX12_findGifts 260 = .ok (.bipush 6, 2) := by decide +kernel
theorem dX12_findGifts_262 : decode cX12_findGifts 262 = .ok (.irem, 1) := by decide +kernel
theorem dX12_findGifts_263 : decode cX12_findGifts 263 = .ok (.iastore, 1) := by decide +kernel
theorem dX12_findGifts_264 : decode cX12_findGifts 264 = .ok (.iload_n 2, 1) := by decide +kernel
theorem dX12_findGifts_265 : decode cX12_findGifts 265 = .ok (.iload_n 1, 1) := by decide +kernel
theorem dX12_findGifts_266 : decode cX12_findGifts 266 = .ok (.iconst 1, 1) := by decide +kernel
theorem dX12_findGifts_267 : decode cX12_findGifts 267 = .ok (.isub, 1) := by decide +kernel
theorem dX12_findGifts_268 : decode cX12_findGifts 268 = .ok (.if_icmp .ge 16, 3) := by decide +kernel
theorem dX12_findGifts_271 : decode cX12_findGifts 271 = .ok (.iinc 2 1, 3) := by decide +kernel
theorem dX12_findGifts_274 : decode cX12_findGifts 274 = .ok (.aload_n 0, 1) := by decide +kernel
theorem dX12_findGifts_275 : decode cX12_findGifts 275 = .ok (.getfield 148, 3) := by decide +kernel
theorem dX12_findGifts_278 : decode cX12_findGifts 278 = .ok (.iload_n 2, 1) := by decide +kernel
theorem dX12_findGifts_279 : decode cX12_findGifts 279 = .ok (.iconst (-1), 1) := by decide +kernel
theorem dX12_findGifts_280 : decode cX12_findGifts 280 = .ok (.iastore, 1) := by decide +kernel
theorem dX12_findGifts_281 : decode cX12_findGifts 281 = .ok (.goto 27, 3) := by decide +kernel
theorem dX12_findGifts_284 : decode cX12_findGifts 284 = .ok (.aload_n 0, 1) := by decide +kernel
theorem dX12_findGifts_285 : decode cX12_findGifts 285 = .ok (.invokevirtual 571, 3) := by decide +kernel
theorem dX12_findGifts_288 : decode cX12_findGifts 288 = .ok (.ifCond .eq 8, 3) := by decide +kernel
theorem dX12_findGifts_291 : decode cX12_findGifts 291 = .ok (.aload_n 0, 1) := by decide +kernel
theorem dX12_findGifts_292 : decode cX12_findGifts 292 = .ok (.iload_n 1, 1) := by decide +kernel
theorem dX12_findGifts_293 : decode cX12_findGifts 293 = .ok (.invokevirtual 574, 3) := by decide +kernel
theorem dX12_findGifts_296 : decode cX12_findGifts 296 = .ok (.aload_n 0, 1) := by decide +kernel
theorem dX12_findGifts_297 : decode cX12_findGifts 297 = .ok (.getfield 145, 3) := by decide +kernel
theorem dX12_findGifts_300 : decode cX12_findGifts 300 = .ok (.iload_n 3, 1) := by decide +kernel
theorem dX12_findGifts_301 : decode cX12_findGifts 301 = .ok (.aload_n 0, 1) := by decide +kernel
theorem dX12_findGifts_302 : decode cX12_findGifts 302 = .ok (.getfield 151, 3) := by decide +kernel
theorem dX12_findGifts_305 : decode cX12_findGifts 305 = .ok (.iload_n 2, 1) := by decide +kernel
theorem dX12_findGifts_306 : decode cX12_findGifts 306 = .ok (.iaload, 1) := by decide +kernel
theorem dX12_findGifts_307 : decode cX12_findGifts 307 = .ok (.iastore, 1) := by decide +kernel
theorem dX12_findGifts_308 : decode cX12_findGifts 308 = .ok (.goto (-156), 3) := by decide +kernel
theorem dX12_findGifts_311 : decode cX12_findGifts 311 = .ok (.return_, 1) := by decide +kernel
theorem dX12_isFresh_0 : decode cX12_isFresh 0 = .ok (.aload_n 0, 1) := by decide +kernel
theorem dX12_isFresh_1 : decode cX12_isFresh 1 = .ok (.getfield 130, 3) := by decide +kernel
theorem dX12_isFresh_4 : decode cX12_isFresh 4 = .ok (.iload_n 1, 1) := by decide +kernel
theorem dX12_isFresh_5 : decode cX12_isFresh 5 = .ok (.iaload, 1) := by decide +kernel
theorem dX12_isFresh_6 : decode cX12_isFresh 6 = .ok (.aload_n 0, 1) := by decide +kernel
theorem dX12_isFresh_7 : decode cX12_isFresh 7 = .ok (.getfield 130, 3) := by decide +kernel
theorem dX12_isFresh_10 : decode cX12_isFresh 10 = .ok (.iconst 0, 1) := by decide +kernel
theorem dX12_isFresh_11 : decode cX12_isFresh 11 = .ok (.iaload, 1) := by decide +kernel
theorem dX12_isFresh_12 : decode cX12_isFresh 12 = .ok (.if_icmp .le 7, 3) := by decide +kernel
theorem dX12_isFresh_15 : decode cX12_isFresh 15 = .ok (.iconst 1, 1) := by decide +kernel
theorem dX12_isFresh_16 : decode cX12_isFresh 16 = .ok (.goto 4, 3) := by decide +kernel
theorem dX12_isFresh_19 : decode cX12_isFresh 19 = .ok (.iconst 0, 1) := by decide +kernel
theorem dX12_isFresh_20 : decode cX12_isFresh 20 = .ok (.istore_n 2, 1) := by decide +kernel
theorem dX12_isFresh_21 : decode cX12_isFresh 21 = .ok (.iconst 0, 1) := by decide +kernel
theorem dX12_isFresh_22 : decode cX12_isFresh 22 = .ok (.istore_n 3, 1) := by decide +kernel
theorem dX12_isFresh_23 : decode cX12_isFresh 23 = .ok (.iload_n 3, 1) := by decide +kernel
theorem dX12_isFresh_24 : decode cX12_isFresh 24 = .ok (.iload_n 1, 1) := by decide +kernel
theorem dX12_isFresh_25 : decode cX12_isFresh 25 = .ok (.if_icmp .ge 34, 3) := by decide +kernel
theorem dX12_isFresh_28 : decode cX12_isFresh 28 = .ok (.iload_n 2, 1) := by decide +kernel
theorem dX12_isFresh_29 : decode cX12_isFresh 29 = .ok (.ifCond .eq 22, 3) := by decide +kernel
theorem dX12_isFresh_32 : decode cX12_isFresh 32 = .ok (.aload_n 0, 1) := by decide +kernel
theorem dX12_isFresh_33 : decode cX12_isFresh 33 = .ok (.getfield 130, 3) := by decide +kernel
theorem dX12_isFresh_36 : decode cX12_isFresh 36 = .ok (.iload_n 3, 1) := by decide +kernel
theorem dX12_isFresh_37 : decode cX12_isFresh 37 = .ok (.iaload, 1) := by decide +kernel
theorem dX12_isFresh_38 : decode cX12_isFresh 38 = .ok (.aload_n 0, 1) := by decide +kernel
theorem dX12_isFresh_39 : decode cX12_isFresh 39 = .ok (.getfield 130, 3) := by decide +kernel
theorem dX12_isFresh_42 : decode cX12_isFresh 42 = .ok (.iload_n 1, 1) := by decide +kernel
theorem dX12_isFresh_43 : decode cX12_isFresh 43 = .ok (.iaload, 1) := by decide +kernel
theorem dX12_isFresh_44 : decode cX12_isFresh 44 = .ok (.if_icmp .eq 7, 3) := by decide +kernel
theorem dX12_isFresh_47 : decode cX12_isFresh 47 = .ok (.iconst 1, 1) := by decide +kernel
theorem dX12_isFresh_48 : decode cX12_isFresh 48 = .ok (.goto 4, 3) := by decide +kernel
theorem dX12_isFresh_51 : decode cX12_isFresh 51 = .ok (.iconst 0, 1) := by decide +kernel
theorem dX12_isFresh_52 : decode cX12_isFresh 52 = .ok (.istore_n 2, 1) := by decide +kernel
theorem dX12_isFresh_53 : decode cX12_isFresh 53 = .ok (.iinc 3 1, 3) := by decide +kernel
theorem dX12_isFresh_56 : decode cX12_isFresh 56 = .ok (.goto (-33), 3) := by decide +kernel
theorem dX12_isFresh_59 : decode cX12_isFresh 59 = .ok (.iload_n 2, 1) := by decide +kernel
theorem dX12_isFresh_60 : decode cX12_isFresh 60 = .ok (.ireturn, 1) := by decide +kernel
theorem dX12_weighRing_0 : decode cX12_weighRing 0 = .ok (.iconst 0, 1) := by decide +kernel
theorem dX12_weighRing_1 : decode cX12_weighRing 1 = .ok (.istore_n 2, 1) := by decide +kernel
theorem dX12_weighRing_2 : decode cX12_weighRing 2 = .ok (.iconst 0, 1) := by decide +kernel
theorem dX12_weighRing_3 : decode cX12_weighRing 3 = .ok (.istore_n 3, 1) := by decide +kernel
theorem dX12_weighRing_4 : decode cX12_weighRing 4 = .ok (.iload_n 3, 1) := by decide +kernel
theorem dX12_weighRing_5 : decode cX12_weighRing 5 = .ok (.iload_n 1, 1) := by decide +kernel
theorem dX12_weighRing_6 : decode cX12_weighRing 6 = .ok (.if_icmp .ge 20, 3) := by decide +kernel
theorem dX12_weighRing_9 : decode cX12_weighRing 9 = .ok (.iload_n 2, 1) := by decide +kernel
theorem dX12_weighRing_10 : decode cX12_weighRing 10 = .ok (.iconst 1, 1) := by decide +kernel
theorem dX12_weighRing_11 : decode cX12_weighRing 11 = .ok (.aload_n 0, 1) := by decide +kernel
theorem dX12_weighRing_12 : decode cX12_weighRing 12 = .ok (.getfield 130, 3) := by decide +kernel
theorem dX12_weighRing_15 : decode cX12_weighRing 15 = .ok (.iload_n 3, 1) := by decide +kernel
theorem dX12_weighRing_16 : decode cX12_weighRing 16 = .ok (.iaload, 1) := by decide +kernel
theorem dX12_weighRing_17 : decode cX12_weighRing 17 = .ok (.ishl, 1) := by decide +kernel
theorem dX12_weighRing_18 : decode cX12_weighRing 18 = .ok (.ior, 1) := by decide +kernel
theorem dX12_weighRing_19 : decode cX12_weighRing 19 = .ok (.istore_n 2, 1) := by decide +kernel
theorem dX12_weighRing_20 : decode cX12_weighRing 20 = .ok (.iinc 3 1, 3) := by decide +kernel
theorem dX12_weighRing_23 : decode cX12_weighRing 23 = .ok (.goto (-19), 3) := by decide +kernel
theorem dX12_weighRing_26 : decode cX12_weighRing 26 = .ok (.iload_n 1, 1) := by decide +kernel
theorem dX12_weighRing_27 : decode cX12_weighRing 27 = .ok (.aload_n 0, 1) := by decide +kernel
theorem dX12_weighRing_28 : decode cX12_weighRing 28 = .ok (.getfield 553, 3) := by decide +kernel
theorem dX12_weighRing_31 : decode cX12_weighRing 31 = .ok (.if_icmp .lt 19, 3) := by decide +kernel
theorem dX12_weighRing_34 : decode cX12_weighRing 34 = .ok (.iload_n 1, 1) := by decide +kernel
theorem dX12_weighRing_35 : decode cX12_weighRing 35 = .ok (.aload_n 0, 1) := by decide +kernel
theorem dX12_weighRing_36 : decode cX12_weighRing 36 = .ok (.getfield 553, 3) := by decide +kernel
theorem dX12_weighRing_39 : decode cX12_weighRing 39 = .ok (.if_icmp .ne 46, 3) := by decide +kernel
theorem dX12_weighRing_42 : decode cX12_weighRing 42 = .ok (.iload_n 2, 1) := by decide +kernel
theorem dX12_weighRing_43 : decode cX12_weighRing 43 = .ok (.aload_n 0, 1) := by decide +kernel
theorem dX12_weighRing_44 : decode cX12_weighRing 44 = .ok (.getfield 556, 3) := by decide +kernel
theorem dX12_weighRing_47 : decode cX12_weighRing 47 = .ok (.if_icmp .ge 38, 3) := by decide +kernel
theorem dX12_weighRing_50 : decode cX12_weighRing 50 = .ok (.aload_n 0, 1) := by decide +kernel
theorem dX12_weighRing_51 : decode cX12_weighRing 51 = .ok (.iload_n 1, 1) := by decide +kernel
theorem dX12_weighRing_52 : decode cX12_weighRing 52 = .ok (.putfield 553, 3) := by decide +kernel
theorem dX12_weighRing_55 : decode cX12_weighRing 55 = .ok (.aload_n 0, 1) := by decide +kernel
theorem dX12_weighRing_56 : decode cX12_weighRing 56 = .ok (.iload_n 2, 1) := by decide +kernel
theorem dX12_weighRing_57 : decode cX12_weighRing 57 = .ok (.putfield 556, 3) := by decide +kernel
theorem dX12_weighRing_60 : decode cX12_weighRing 60 = .ok (.iconst 0, 1) := by decide +kernel
theorem dX12_weighRing_61 : decode cX12_weighRing 61 = .ok (.istore_n 3, 1) := by decide +kernel
theorem dX12_weighRing_62 : decode cX12_weighRing 62 = .ok (.iload_n 3, 1) := by decide +kernel
theorem dX12_weighRing_63 : decode cX12_weighRing 63 = .ok (.iload_n 1, 1) := by decide +kernel
theorem dX12_weighRing_64 : decode cX12_weighRing 64 = .ok (.if_icmp .ge 21, 3) := by decide +kernel
theorem dX12_weighRing_67 : decode cX12_weighRing 67 = .ok (.aload_n 0, 1) := by decide +kernel
theorem dX12_weighRing_68 : decode cX12_weighRing 68 = .ok (.getfield 139, 3) := by decide +kernel
theorem dX12_weighRing_71 : decode cX12_weighRing 71 = .ok (.iload_n 3, 1) := by decide +kernel
theorem dX12_weighRing_72 : decode cX12_weighRing 72 = .ok (.aload_n 0, 1) := by decide +kernel
theorem dX12_weighRing_73 : decode cX12_weighRing 73 = .ok (.getfield 130, 3) := by decide +kernel
theorem dX12_weighRing_76 : decode cX12_weighRing 76 = .ok (.iload_n 3, 1) := by decide +kernel
theorem dX12_weighRing_77 : decode cX12_weighRing 77 = .ok (.iaload, 1) := by decide +kernel
theorem dX12_weighRing_78 : decode cX12_weighRing 78 = .ok (.iastore, 1) := by decide +kernel
theorem dX12_weighRing_79 : decode cX12_weighRing 79 = .ok (.iinc 3 1, 3) := by decide +kernel
theorem dX12_weighRing_82 : decode cX12_weighRing 82 = .ok (.goto (-20), 3) := by decide +kernel
theorem dX12_weighRing_85 : decode cX12_weighRing 85 = .ok (.return_, 1) := by decide +kernel
theorem dX12_findRing_0 : decode cX12_findRing 0 = .ok (.aload_n 0, 1) := by decide +kernel
theorem dX12_findRing_1 : decode cX12_findRing 1 = .ok (.ldc_w 515, 3) := by decide +kernel
theorem dX12_findRing_4 : decode cX12_findRing 4 = .ok (.putfield 553, 3) := by decide +kernel
theorem dX12_findRing_7 : decode cX12_findRing 7 = .ok (.aload_n 0, 1) := by decide +kernel
theorem dX12_findRing_8 : decode cX12_findRing 8 = .ok (.iconst 0, 1) := by decide +kernel
theorem dX12_findRing_9 : decode cX12_findRing 9 = .ok (.putfield 556, 3) := by decide +kernel
theorem dX12_findRing_12 : decode cX12_findRing 12 = .ok (.iconst 0, 1) := by decide +kernel
theorem dX12_findRing_13 : decode cX12_findRing 13 = .ok (.istore_n 1, 1) := by decide +kernel
theorem dX12_findRing_14 : decode cX12_findRing 14 = .ok (.iload_n 1, 1) := by decide +kernel
theorem dX12_findRing_15 : decode cX12_findRing 15 = .ok (.aload_n 0, 1) := by decide +kernel
theorem dX12_findRing_16 : decode cX12_findRing 16 = .ok (.getfield 13, 3) := by decide +kernel
theorem dX12_findRing_19 : decode cX12_findRing 19 = .ok (.iconst 0, 1) := by decide +kernel
theorem dX12_findRing_20 : decode cX12_findRing 20 = .ok (.iaload, 1) := by decide +kernel
theorem dX12_findRing_21 : decode cX12_findRing 21 = .ok (.if_icmp .ge 138, 3) := by decide +kernel
theorem dX12_findRing_24 : decode cX12_findRing 24 = .ok (.aload_n 0, 1) := by decide +kernel
theorem dX12_findRing_25 : decode cX12_findRing 25 = .ok (.getfield 130, 3) := by decide +kernel
theorem dX12_findRing_28 : decode cX12_findRing 28 = .ok (.iconst 0, 1) := by decide +kernel
theorem dX12_findRing_29 : decode cX12_findRing 29 = .ok (.iload_n 1, 1) := by decide +kernel
theorem dX12_findRing_30 : decode cX12_findRing 30 = .ok (.iastore, 1) := by decide +kernel
theorem dX12_findRing_31 : decode cX12_findRing 31 = .ok (.iconst 1, 1) := by decide +kernel
theorem dX12_findRing_32 : decode cX12_findRing 32 = .ok (.istore_n 2, 1) := by decide +kernel
theorem dX12_findRing_33 : decode cX12_findRing 33 = .ok (.aload_n 0, 1) := by decide +kernel
theorem dX12_findRing_34 : decode cX12_findRing 34 = .ok (.getfield 130, 3) := by decide +kernel
theorem dX12_findRing_37 : decode cX12_findRing 37 = .ok (.iconst 1, 1) := by decide +kernel
theorem dX12_findRing_38 : decode cX12_findRing 38 = .ok (.iconst (-1), 1) := by decide +kernel
theorem dX12_findRing_39 : decode cX12_findRing 39 = .ok (.iastore, 1) := by decide +kernel
theorem dX12_findRing_40 : decode cX12_findRing 40 = .ok (.iload_n 2, 1) := by decide +kernel
theorem dX12_findRing_41 : decode cX12_findRing 41 = .ok (.ifCond .le 112, 3) := by decide +kernel
theorem dX12_findRing_44 : decode cX12_findRing 44 = .ok (.aload_n 0, 1) := by decide +kernel
theorem dX12_findRing_45 : decode cX12_findRing 45 = .ok (.getfield 130, 3) := by decide +kernel
theorem dX12_findRing_48 : decode cX12_findRing 48 = .ok (.iload_n 2, 1) := by decide +kernel
theorem dX12_findRing_49 : decode cX12_findRing 49 = .ok (.dup2, 1) := by decide +kernel
theorem dX12_findRing_50 : decode cX12_findRing 50 = .ok (.iaload, 1) := by decide +kernel
theorem dX12_findRing_51 : decode cX12_findRing 51 = .ok (.iconst 1, 1) := by decide +kernel
theorem dX12_findRing_52 : decode cX12_findRing 52 = .ok (.iadd, 1) := by decide +kernel
theorem dX12_findRing_53 : decode cX12_findRing 53 = .ok (.iastore, 1) := by decide +kernel
theorem dX12_findRing_54 : decode cX12_findRing 54 = .ok (.aload_n 0, 1) := by decide +kernel
theorem dX12_findRing_55 : decode cX12_findRing 55 = .ok (.getfield 130, 3) := by decide +kernel
theorem dX12_findRing_58 : decode cX12_findRing 58 = .ok (.iload_n 2, 1) := by decide +kernel
theorem dX12_findRing_59 : decode cX12_findRing 59 = .ok (.iaload, 1) := by decide +kernel
theorem dX12_findRing_60 : decode cX12_findRing 60 = .ok (.aload_n 0, 1) := by decide +kernel
theorem dX12_findRing_61 : decode cX12_findRing 61 = .ok (.getfield 13, 3) := by decide +kernel
theorem dX12_findRing_64 : decode cX12_findRing 64 = .ok (.iconst 0, 1) := by decide +kernel
theorem dX12_findRing_65 : decode cX12_findRing 65 = .ok (.iaload, 1) := by decide +kernel
theorem dX12_findRing_66 : decode cX12_findRing 66 = .ok (.if_icmp .ne 9, 3) := by decide +kernel
theorem dX12_findRing_69 : decode cX12_findRing 69 = .ok (.iinc 2 (-1), 3) := by decide +kernel
theorem dX12_findRing_72 : decode cX12_findRing 72 = .ok (.goto (-32), 3) := by decide +kernel
theorem dX12_findRing_75 : decode cX12_findRing 75 = .ok (.aload_n 0, 1) := by decide +kernel
theorem dX12_findRing_76 : decode cX12_findRing 76 = .ok (.iload_n 2, 1) := by decide +kernel
theorem dX12_findRing_77 : decode cX12_findRing 77 = .ok (.invokevirtual 559, 3) := by decide +kernel
theorem dX12_findRing_80 : decode cX12_findRing 80 = .ok (.ifCond .eq (-40), 3) := by decide +kernel
theorem dX12_findRing_83 : decode cX12_findRing 83 = .ok (.aload_n 0, 1) := by decide +kernel
theorem dX12_findRing_84 : decode cX12_findRing 84 = .ok (.getfield 13, 3) := by decide +kernel
theorem dX12_findRing_87 : decode cX12_findRing 87 = .ok (.aload_n 0, 1) := by decide +kernel
theorem dX12_findRing_88 : decode cX12_findRing 88 = .ok (.getfield 130, 3) := by decide +kernel
theorem dX12_findRing_91 : decode cX12_findRing 91 = .ok (.iload_n 2, 1) := by decide +kernel
theorem dX12_findRing_92 : decode cX12_findRing 92 = .ok (.iconst 1, 1) := by decide +kernel
theorem dX12_findRing_93 : decode cX12_findRing 93 = .ok (.isub, 1) := by decide +kernel
theorem dX12_findRing_94 : decode cX12_findRing 94 = .ok (.iaload, 1) := by decide +kernel
theorem dX12_findRing_95 : decode cX12_findRing 95 = .ok (.aload_n 0, 1) := by decide +kernel
theorem dX12_findRing_96 : decode cX12_findRing 96 = .ok (.getfield 130, 3) := by decide +kernel
theorem dX12_findRing_99 : decode cX12_findRing 99 = .ok (.iload_n 2, 1) := by decide +kernel
theorem dX12_findRing_100 : decode cX12_findRing 100 = .ok (.iaload, 1) := by decide +kernel
theorem dX12_findRing_101 : decode cX12_findRing 101 = .ok (.invokestatic 452, 3) := by decide +kernel
theorem dX12_findRing_104 : decode cX12_findRing 104 = .ok (.iaload, 1) := by decide +kernel
theorem dX12_findRing_105 : decode cX12_findRing 105 = .ok (.iconst (-1), 1) := by decide +kernel
theorem dX12_findRing_106 : decode cX12_findRing 106 = .ok (.if_icmp .eq (-66), 3) := by decide +kernel
theorem dX12_findRing_109 : decode cX12_findRing 109 = .ok (.aload_n 0, 1) := by decide +kernel
theorem dX12_findRing_110 : decode cX12_findRing 110 = .ok (.getfield 13, 3) := by decide +kernel
theorem dX12_findRing_113 : decode cX12_findRing 113 = .ok (.aload_n 0, 1) := by decide +kernel
theorem dX12_findRing_114 : decode cX12_findRing 114 = .ok (.getfield 130, 3) := by decide +kernel
theorem dX12_findRing_117 : decode cX12_findRing 117 = .ok (.iload_n 2, 1) := by decide +kernel
theorem dX12_findRing_118 : decode cX12_findRing 118 = .ok (.iaload, 1) := by decide +kernel
theorem dX12_findRing_119 : decode cX12_findRing 119 = .ok (.iload_n 1, 1) := by decide +kernel
theorem dX12_findRing_120 : decode cX12_findRing 120 = .ok (.invokestatic 452, 3) := by decide +kernel
theorem dX12_findRing_123 : decode cX12_findRing 123 = .ok (.iaload, 1) := by decide +kernel
theorem dX12_findRing_124 : decode cX12_findRing 124 = .ok (.iconst (-1), 1) := by decide +kernel
theorem dX12_findRing_125 : decode cX12_findRing 125 = .ok (.if_icmp .eq 10, 3) := by decide +kernel
theorem dX12_findRing_128 : decode cX12_findRing 128 = .ok (.aload_n 0, 1) := by decide +kernel
theorem dX12_findRing_129 : decode cX12_findRing 129 = .ok (.iload_n 2, 1) := by decide +kernel
theorem dX12_findRing_130 : decode cX12_findRing 130 = .ok (.iconst 1, 1) := by decide +kernel
theorem dX12_findRing_131 : decode cX12_findRing 131 = .ok (.iadd, 1) := by decide +kernel
theorem dX12_findRing_132 : decode cX12_findRing 132 = .ok (.invokevirtual 562, 3) := by decide +kernel
theorem dX12_findRing_135 : decode cX12_findRing 135 = .ok (.iload_n 2, 1) := by decide +kernel
theorem dX12_findRing_136 : decode cX12_findRing 136 = .ok (.iconst 5, 1) := by decide +kernel
theorem dX12_findRing_137 : decode cX12_findRing 137 = .ok (.if_icmp .ge (-97), 3) := by decide +kernel
theorem dX12_findRing_140 : decode cX12_findRing 140 = .ok (.iinc 2 1, 3) := by decide +kernel
theorem dX12_findRing_143 : decode cX12_findRing 143 = .ok (.aload_n 0, 1) := by decide +kernel
theorem dX12_findRing_144 : decode cX12_findRing 144 = .ok (.getfield 130, 3) := by decide +kernel
theorem dX12_findRing_147 : decode cX12_findRing 147 = .ok (.iload_n 2, 1) := by decide +kernel
theorem dX12_findRing_148 : decode cX12_findRing 148 = .ok (.iconst (-1), 1) := by decide +kernel
theorem dX12_findRing_149 : decode cX12_findRing 149 = .ok (.iastore, 1) := by decide +kernel
theorem dX12_findRing_150 : decode cX12_findRing 150 = .ok (.goto (-110), 3) := by decide +kernel
theorem dX12_findRing_153 : decode cX12_findRing 153 = .ok (.iinc 1 1, 3) := by decide +kernel
theorem dX12_findRing_156 : decode cX12_findRing 156 = .ok (.goto (-142), 3) := by decide +kernel
theorem dX12_findRing_159 : decode cX12_findRing 159 = .ok (.return_, 1) := by decide +kernel
theorem dX12_goesOn_0 : decode cX12_goesOn 0 = .ok (.sipush 218, 3) := by decide +kernel
theorem dX12_goesOn_3 : decode cX12_goesOn 3 = .ok (.iconst 4, 1) := by decide +kernel
theorem dX12_goesOn_4 : decode cX12_goesOn 4 = .ok (.iload_n 2, 1) := by decide +kernel
theorem dX12_goesOn_5 : decode cX12_goesOn 5 = .ok (.imul, 1) := by decide +kernel
theorem dX12_goesOn_6 : decode cX12_goesOn 6 = .ok (.iadd, 1) := by decide +kernel
theorem dX12_goesOn_7 : decode cX12_goesOn 7 = .ok (.istore_n 3, 1) := by decide +kernel
theorem dX12_goesOn_8 : decode cX12_goesOn 8 = .ok (.aload_n 0, 1) := by decide +kernel
theorem dX12_goesOn_9 : decode cX12_goesOn 9 = .ok (.getfield 130, 3) := by decide +kernel
theorem dX12_goesOn_12 : decode cX12_goesOn 12 = .ok (.iload_n 1, 1) := by decide +kernel
theorem dX12_goesOn_13 : decode cX12_goesOn 13 = .ok (.iaload, 1) := by decide +kernel
theorem dX12_goesOn_14 : decode cX12_goesOn 14 = .ok (.istore 4, 2) := by decide +kernel
theorem dX12_goesOn_16 : decode cX12_goesOn 16 = .ok (.aload_n 0, 1) := by decide +kernel
theorem dX12_goesOn_17 : decode cX12_goesOn 17 = .ok (.getfield 13, 3) := by decide +kernel
theorem dX12_goesOn_20 : decode cX12_goesOn 20 = .ok (.iload_n 3, 1) := by decide +kernel
theorem dX12_goesOn_21 : decode cX12_goesOn 21 = .ok (.iaload, 1) := by decide +kernel
theorem dX12_goesOn_22 : decode cX12_goesOn 22 = .ok (.iload 4, 2) := by decide +kernel
theorem dX12_goesOn_24 : decode cX12_goesOn 24 = .ok (.if_icmp .eq 18, 3) := by decide +kernel
theorem dX12_goesOn_27 : decode cX12_goesOn 27 = .ok (.aload_n 0, 1) := by decide +kernel
theorem dX12_goesOn_28 : decode cX12_goesOn 28 = .ok (.getfield 13, 3) := by decide +kernel
theorem dX12_goesOn_31 : decode cX12_goesOn 31 = .ok (.iload_n 3, 1) := by decide +kernel
theorem dX12_goesOn_32 : decode cX12_goesOn 32 = .ok (.iconst 1, 1) := by decide +kernel
theorem dX12_goesOn_33 : decode cX12_goesOn 33 = .ok (.iadd, 1) := by decide +kernel
theorem dX12_goesOn_34 : decode cX12_goesOn 34 = .ok (.iaload, 1) := by decide +kernel
theorem dX12_goesOn_35 : decode cX12_goesOn 35 = .ok (.iload 4, 2) := by decide +kernel
theorem dX12_goesOn_37 : decode cX12_goesOn 37 = .ok (.if_icmp .eq 5, 3) := by decide +kernel
theorem dX12_goesOn_40 : decode cX12_goesOn 40 = .ok (.iconst 0, 1) := by decide +kernel
theorem dX12_goesOn_41 : decode cX12_goesOn 41 = .ok (.ireturn, 1) := by decide +kernel
theorem dX12_goesOn_42 : decode cX12_goesOn 42 = .ok (.aload_n 0, 1) := by decide +kernel
theorem dX12_goesOn_43 : decode cX12_goesOn 43 = .ok (.getfield 13, 3) := by decide +kernel
theorem dX12_goesOn_46 : decode cX12_goesOn 46 = .ok (.iload_n 3, 1) := by decide +kernel
theorem dX12_goesOn_47 : decode cX12_goesOn 47 = .ok (.iaload, 1) := by decide +kernel
theorem dX12_goesOn_48 : decode cX12_goesOn 48 = .ok (.aload_n 0, 1) := by decide +kernel
theorem dX12_goesOn_49 : decode cX12_goesOn 49 = .ok (.getfield 13, 3) := by decide +kernel
theorem dX12_goesOn_52 : decode cX12_goesOn 52 = .ok (.iload_n 3, 1) := by decide +kernel
theorem dX12_goesOn_53 : decode cX12_goesOn 53 = .ok (.iconst 1, 1) := by decide +kernel
theorem dX12_goesOn_54 : decode cX12_goesOn 54 = .ok (.iadd, 1) := by decide +kernel
theorem dX12_goesOn_55 : decode cX12_goesOn 55 = .ok (.iaload, 1) := by decide +kernel
theorem dX12_goesOn_56 : decode cX12_goesOn 56 = .ok (.iadd, 1) := by decide +kernel
theorem dX12_goesOn_57 : decode cX12_goesOn 57 = .ok (.iload 4, 2) := by decide +kernel
theorem dX12_goesOn_59 : decode cX12_goesOn 59 = .ok (.isub, 1) := by decide +kernel
theorem dX12_goesOn_60 : decode cX12_goesOn 60 = .ok (.istore 5, 2) := by decide +kernel
theorem dX12_goesOn_62 : decode cX12_goesOn 62 = .ok (.iconst 1, 1) := by decide +kernel
theorem dX12_goesOn_63 : decode cX12_goesOn 63 = .ok (.istore 6, 2) := by decide +kernel
theorem dX12_goesOn_65 : decode cX12_goesOn 65 = .ok (.iconst 0, 1) := by decide +kernel
theorem dX12_goesOn_66 : decode cX12_goesOn 66 = .ok (.istore 7, 2) := by decide +kernel
theorem dX12_goesOn_68 : decode cX12_goesOn 68 = .ok (.iload 7, 2) := by decide +kernel
theorem dX12_goesOn_70 : decode cX12_goesOn 70 = .ok (.iload_n 1, 1) := by decide +kernel
theorem dX12_goesOn_71 : decode cX12_goesOn 71 = .ok (.if_icmp .gt 33, 3) := by decide +kernel
theorem dX12_goesOn_74 : decode cX12_goesOn 74 = .ok (.iload 6, 2) := by decide +kernel
theorem dX12_goesOn_76 : decode cX12_goesOn 76 = .ok (.ifCond .eq 19, 3) := by decide +kernel
theorem dX12_goesOn_79 : decode cX12_goesOn 79 = .ok (.aload_n 0, 1) := by decide +kernel
theorem dX12_goesOn_80 : decode cX12_goesOn 80 = .ok (.getfield 130, 3) := by decide +kernel
theorem dX12_goesOn_83 : decode cX12_goesOn 83 = .ok (.iload 7, 2) := by decide +kernel
theorem dX12_goesOn_85 : decode cX12_goesOn 85 = .ok (.iaload, 1) := by decide +kernel
theorem dX12_goesOn_86 : decode cX12_goesOn 86 = .ok (.iload 5, 2) := by decide +kernel
theorem dX12_goesOn_88 : decode cX12_goesOn 88 = .ok (.if_icmp .eq 7, 3) := by decide +kernel
theorem dX12_goesOn_91 : decode cX12_goesOn 91 = .ok (.iconst 1, 1) := by decide +kernel
theorem dX12_goesOn_92 : decode cX12_goesOn 92 = .ok (.goto 4, 3) := by decide +kernel
theorem dX12_goesOn_95 : decode cX12_goesOn 95 = .ok (.iconst 0, 1) := by decide +kernel
theorem dX12_goesOn_96 : decode cX12_goesOn 96 = .ok (.istore 6, 2) := by decide +kernel
theorem dX12_goesOn_98 : decode cX12_goesOn 98 = .ok (.iinc 7 1, 3) := by decide +kernel
theorem dX12_goesOn_101 : decode cX12_goesOn 101 = .ok (.goto (-33), 3) := by decide +kernel
theorem dX12_goesOn_104 : decode cX12_goesOn 104 = .ok (.aload_n 0, 1) := by decide +kernel
theorem dX12_goesOn_105 : decode cX12_goesOn 105 = .ok (.getfield 130, 3) := by decide +kernel
theorem dX12_goesOn_108 : decode cX12_goesOn 108 = .ok (.iload_n 1, 1) := by decide +kernel
theorem dX12_goesOn_109 : decode cX12_goesOn 109 = .ok (.iconst 1, 1) := by decide +kernel
theorem dX12_goesOn_110 : decode cX12_goesOn 110 = .ok (.iadd, 1) := by decide +kernel
theorem dX12_goesOn_111 : decode cX12_goesOn 111 = .ok (.iload 6, 2) := by decide +kernel
theorem dX12_goesOn_113 : decode cX12_goesOn 113 = .ok (.ifCond .eq 8, 3) := by decide +kernel
theorem dX12_goesOn_116 : decode cX12_goesOn 116 = .ok (.iload 5, 2) := by decide +kernel
theorem dX12_goesOn_118 : decode cX12_goesOn 118 = .ok (.goto 11, 3) := by decide +kernel
theorem dX12_goesOn_121 : decode cX12_goesOn 121 = .ok (.aload_n 0, 1) := by decide +kernel
theorem dX12_goesOn_122 : decode cX12_goesOn 122 = .ok (.getfield 130, 3) := by decide +kernel
theorem dX12_goesOn_125 : decode cX12_goesOn 125 = .ok (.iload_n 1, 1) := by decide +kernel
theorem dX12_goesOn_126 : decode cX12_goesOn 126 = .ok (.iconst 1, 1) := by decide +kernel
theorem dX12_goesOn_127 : decode cX12_goesOn 127 = .ok (.iadd, 1) := by decide +kernel
theorem dX12_goesOn_128 : decode cX12_goesOn 128 = .ok (.iaload, 1) := by decide +kernel
theorem dX12_goesOn_129 : decode cX12_goesOn 129 = .ok (.iastore, 1) := by decide +kernel
theorem dX12_goesOn_130 : decode cX12_goesOn 130 = .ok (.iload 6, 2) := by decide +kernel
theorem dX12_goesOn_132 : decode cX12_goesOn 132 = .ok (.ireturn, 1) := by decide +kernel
theorem dX12_isAhead_0 : decode cX12_isAhead 0 = .ok (.iconst 0, 1) := by decide +kernel
theorem dX12_isAhead_1 : decode cX12_isAhead 1 = .ok (.istore_n 2, 1) := by decide +kernel
theorem dX12_isAhead_2 : decode cX12_isAhead 2 = .ok (.iload_n 2, 1) := by decide +kernel
theorem dX12_isAhead_3 : decode cX12_isAhead 3 = .ok (.iload_n 1, 1) := by decide +kernel
theorem dX12_isAhead_4 : decode cX12_isAhead 4 = .ok (.if_icmp .gt 53, 3) := by decide +kernel
theorem dX12_isAhead_7 : decode cX12_isAhead 7 = .ok (.iload_n 2, 1) := by decide +kernel
theorem dX12_isAhead_8 : decode cX12_isAhead 8 = .ok (.aload_n 0, 1) := by decide +kernel
theorem dX12_isAhead_9 : decode cX12_isAhead 9 = .ok (.getfield 539, 3) := by decide +kernel
theorem dX12_isAhead_12 : decode cX12_isAhead 12 = .ok (.if_icmp .gt 45, 3) := by decide +kernel
theorem dX12_isAhead_15 : decode cX12_isAhead 15 = .ok (.aload_n 0, 1) := by decide +kernel
theorem dX12_isAhead_16 : decode cX12_isAhead 16 = .ok (.getfield 130, 3) := by decide +kernel
theorem dX12_isAhead_19 : decode cX12_isAhead 19 = .ok (.iload_n 2, 1) := by decide +kernel
theorem dX12_isAhead_20 : decode cX12_isAhead 20 = .ok (.iaload, 1) := by decide +kernel
theorem dX12_isAhead_21 : decode cX12_isAhead 21 = .ok (.aload_n 0, 1) := by decide +kernel
theorem dX12_isAhead_22 : decode cX12_isAhead 22 = .ok (.getfield 133, 3) := by decide +kernel
theorem dX12_isAhead_25 : decode cX12_isAhead 25 = .ok (.iload_n 2, 1) := by decide +kernel
theorem dX12_isAhead_26 : decode cX12_isAhead 26 = .ok (.iaload, 1) := by decide +kernel
theorem dX12_isAhead_27 : decode cX12_isAhead 27 = .ok (.if_icmp .eq 24, 3) := by decide +kernel
theorem dX12_isAhead_30 : decode cX12_isAhead 30 = .ok (.aload_n 0, 1) := by decide +kernel
theorem dX12_isAhead_31 : decode cX12_isAhead 31 = .ok (.getfield 130, 3) := by decide +kernel
theorem dX12_isAhead_34 : decode cX12_isAhead 34 = .ok (.iload_n 2, 1) := by decide +kernel
theorem dX12_isAhead_35 : decode cX12_isAhead 35 = .ok (.iaload, 1) := by decide +kernel
theorem dX12_isAhead_36 : decode cX12_isAhead 36 = .ok (.aload_n 0, 1) := by decide +kernel
theorem dX12_isAhead_37 : decode cX12_isAhead 37 = .ok (.getfield 133, 3) := by decide +kernel
theorem dX12_isAhead_40 : decode cX12_isAhead 40 = .ok (.iload_n 2, 1) := by decide +kernel
theorem dX12_isAhead_41 : decode cX12_isAhead 41 = .ok (.iaload, 1) := by decide +kernel
theorem dX12_isAhead_42 : decode cX12_isAhead 42 = .ok (.if_icmp .ge 7, 3) := by decide +kernel
theorem dX12_isAhead_45 : decode cX12_isAhead 45 = .ok (.iconst 1, 1) := by decide +kernel
theorem dX12_isAhead_46 : decode cX12_isAhead 46 = .ok (.goto 4, 3) := by decide +kernel
theorem dX12_isAhead_49 : decode cX12_isAhead 49 = .ok (.iconst 0, 1) := by decide +kernel
theorem dX12_isAhead_50 : decode cX12_isAhead 50 = .ok (.ireturn, 1) := by decide +kernel
theorem dX12_isAhead_51 : decode cX12_isAhead 51 = .ok (.iinc 2 1, 3) := by decide +kernel
theorem dX12_isAhead_54 : decode cX12_isAhead 54 = .ok (.goto (-52), 3) := by decide +kernel
theorem dX12_isAhead_57 : decode cX12_isAhead 57 = .ok (.iload_n 1, 1) := by decide +kernel
theorem dX12_isAhead_58 : decode cX12_isAhead 58 = .ok (.aload_n 0, 1) := by decide +kernel
theorem dX12_isAhead_59 : decode cX12_isAhead 59 = .ok (.getfield 539, 3) := by decide +kernel
theorem dX12_isAhead_62 : decode cX12_isAhead 62 = .ok (.if_icmp .ge 7, 3) := by decide +kernel
theorem dX12_isAhead_65 : decode cX12_isAhead 65 = .ok (.iconst 1, 1) := by decide +kernel
theorem dX12_isAhead_66 : decode cX12_isAhead 66 = .ok (.goto 4, 3) := by decide +kernel
theorem dX12_isAhead_69 : decode cX12_isAhead 69 = .ok (.iconst 0, 1) := by decide +kernel
theorem dX12_isAhead_70 : decode cX12_isAhead 70 = .ok (.ireturn, 1) := by decide +kernel
theorem dX12_weighWay_0 : decode cX12_weighWay 0 = .ok (.getstatic 527, 3) := by decide +kernel
theorem dX12_weighWay_3 : decode cX12_weighWay 3 = .ok (.iconst 5, 1) := by decide +kernel
theorem dX12_weighWay_4 : decode cX12_weighWay 4 = .ok (.iload_n 1, 1) := by decide +kernel
theorem dX12_weighWay_5 : decode cX12_weighWay 5 = .ok (.isub, 1) := by decide +kernel
theorem dX12_weighWay_6 : decode cX12_weighWay 6 = .ok (.iaload, 1) := by decide +kernel
theorem dX12_weighWay_7 : decode cX12_weighWay 7 = .ok (.istore_n 2, 1) := by decide +kernel
theorem dX12_weighWay_8 : decode cX12_weighWay 8 = .ok (.iconst 0, 1) := by decide +kernel
theorem dX12_weighWay_9 : decode cX12_weighWay 9 = .ok (.istore_n 3, 1) := by decide +kernel
theorem dX12_weighWay_10 : decode cX12_weighWay 10 = .ok (.iconst 0, 1) := by decide +kernel
theorem dX12_weighWay_11 : decode cX12_weighWay 11 = .ok (.istore 4, 2) := by decide +kernel
theorem dX12_weighWay_13 : decode cX12_weighWay 13 = .ok (.iload 4, 2) := by decide +kernel
theorem dX12_weighWay_15 : decode cX12_weighWay 15 = .ok (.iload_n 1, 1) := by decide +kernel
theorem dX12_weighWay_16 : decode cX12_weighWay 16 = .ok (.if_icmp .ge 58, 3) := by decide +kernel
theorem dX12_weighWay_19 : decode cX12_weighWay 19 = .ok (.iload_n 2, 1) := by decide +kernel
theorem dX12_weighWay_20 : decode cX12_weighWay 20 = .ok (.bipush 10, 2) := by decide +kernel
theorem dX12_weighWay_22 : decode cX12_weighWay 22 = .ok (.aload_n 0, 1) := by decide +kernel
theorem dX12_weighWay_23 : decode cX12_weighWay 23 = .ok (.getfield 13, 3) := by decide +kernel
theorem dX12_weighWay_26 : decode cX12_weighWay 26 = .ok (.sipush 218, 3) := by decide +kernel
theorem dX12_weighWay_29 : decode cX12_weighWay 29 = .ok (.iconst 4, 1) := by decide +kernel
theorem dX12_weighWay_30 : decode cX12_weighWay 30 = .ok (.aload_n 0, 1) := by decide +kernel
theorem dX12_weighWay_31 : decode cX12_weighWay 31 = .ok (.getfield 136, 3) := by decide +kernel
theorem dX12_weighWay_34 : decode cX12_weighWay 34 = .ok (.iload 4, 2) := by decide +kernel
theorem dX12_weighWay_36 : decode cX12_weighWay 36 = .ok (.iaload, 1) := by decide +kernel
theorem dX12_weighWay_37 : decode cX12_weighWay 37 = .ok (.imul, 1) := by decide +kernel
theorem dX12_weighWay_38 : decode cX12_weighWay 38 = .ok (.iadd, 1) := by decide +kernel
theorem dX12_weighWay_39 : decode cX12_weighWay 39 = .ok (.iconst 3, 1) := by decide +kernel
theorem dX12_weighWay_40 : decode cX12_weighWay 40 = .ok (.iadd, 1) := by decide +kernel
theorem dX12_weighWay_41 : decode cX12_weighWay 41 = .ok (.iaload, 1) := by decide +kernel
theorem dX12_weighWay_42 : decode cX12_weighWay 42 = .ok (.isub, 1) := by decide +kernel
theorem dX12_weighWay_43 : decode cX12_weighWay 43 = .ok (.imul, 1) := by decide +kernel
theorem dX12_weighWay_44 : decode cX12_weighWay 44 = .ok (.istore_n 2, 1) := by decide +kernel
theorem dX12_weighWay_45 : decode cX12_weighWay 45 = .ok (.iload_n 3, 1) := by decide +kernel
theorem dX12_weighWay_46 : decode cX12_weighWay 46 = .ok (.aload_n 0, 1) := by decide +kernel
theorem dX12_weighWay_47 : decode cX12_weighWay 47 = .ok (.getfield 13, 3) := by decide +kernel
theorem dX12_weighWay_50 : decode cX12_weighWay 50 = .ok (.sipush 218, 3) := by decide +kernel
theorem dX12_weighWay_53 : decode cX12_weighWay 53 = .ok (.iconst 4, 1) := by decide +kernel
theorem dX12_weighWay_54 : decode cX12_weighWay 54 = .ok (.aload_n 0, 1) := by decide +kernel
theorem dX12_weighWay_55 : decode cX12_weighWay 55 = .ok (.getfield 136, 3) := by decide +kernel
theorem dX12_weighWay_58 : decode cX12_weighWay 58 = .ok (.iload 4, 2) := by decide +kernel
theorem dX12_weighWay_60 : decode cX12_weighWay 60 = .ok (.iaload, 1) := by decide +kernel
theorem dX12_weighWay_61 : decode cX12_weighWay 61 = .ok (.imul, 1) := by decide +kernel
theorem dX12_weighWay_62 : decode cX12_weighWay 62 = .ok (.iadd, 1) := by decide +kernel
theorem dX12_weighWay_63 : decode cX12_weighWay 63 = .ok (.iconst 2, 1) := by decide +kernel
theorem dX12_weighWay_64 : decode cX12_weighWay 64 = .ok (.iadd, 1) := by decide +kernel
theorem dX12_weighWay_65 : decode cX12_weighWay 65 = .ok (.iaload, 1) := by decide +kernel
theorem dX12_weighWay_66 : decode cX12_weighWay 66 = .ok (.iadd, 1) := by decide +kernel
theorem dX12_weighWay_67 : decode cX12_weighWay 67 = .ok (.istore_n 3, 1) := by decide +kernel
theorem dX12_weighWay_68 : decode cX12_weighWay 68 = .ok (.iinc 4 1, 3) := by decide +kernel
theorem dX12_weighWay_71 : decode cX12_weighWay 71 = .ok (.goto (-58), 3) := by decide +kernel
theorem dX12_weighWay_74 : decode cX12_weighWay 74 = .ok (.iload_n 2, 1) := by decide +kernel
theorem dX12_weighWay_75 : decode cX12_weighWay 75 = .ok (.aload_n 0, 1) := by decide +kernel
theorem dX12_weighWay_76 : decode cX12_weighWay 76 = .ok (.getfield 530, 3) := by decide +kernel
theorem dX12_weighWay_79 : decode cX12_weighWay 79 = .ok (.if_icmp .gt 39, 3) := by decide +kernel
theorem dX12_weighWay_82 : decode cX12_weighWay 82 = .ok (.iload_n 2, 1) := by decide +kernel
theorem dX12_weighWay_83 : decode cX12_weighWay 83 = .ok (.aload_n 0, 1) := by decide +kernel
theorem dX12_weighWay_84 : decode cX12_weighWay 84 = .ok (.getfield 530, 3) := by decide +kernel
theorem dX12_weighWay_87 : decode cX12_weighWay 87 = .ok (.if_icmp .ne 35, 3) := by decide +kernel
theorem dX12_weighWay_90 : decode cX12_weighWay 90 = .ok (.iload_n 2, 1) := by decide +kernel
theorem dX12_weighWay_91 : decode cX12_weighWay 91 = .ok (.ifCond .le 31, 3) := by decide +kernel
theorem dX12_weighWay_94 : decode cX12_weighWay 94 = .ok (.iload_n 3, 1) := by decide +kernel
theorem dX12_weighWay_95 : decode cX12_weighWay 95 = .ok (.aload_n 0, 1) := by decide +kernel
theorem dX12_weighWay_96 : decode cX12_weighWay 96 = .ok (.getfield 533, 3) := by decide +kernel
theorem dX12_weighWay_99 : decode cX12_weighWay 99 = .ok (.if_icmp .lt 19, 3) := by decide +kernel
theorem dX12_weighWay_102 : decode cX12_weighWay 102 = .ok (.iload_n 3, 1) := by decide +kernel
theorem dX12_weighWay_103 : decode cX12_weighWay 103 = .ok (.aload_n 0, 1) := by decide +kernel
theorem dX12_weighWay_104 : decode cX12_weighWay 104 = .ok (.getfield 533, 3) := by decide +kernel
theorem dX12_weighWay_107 : decode cX12_weighWay 107 = .ok (.if_icmp .ne 15, 3) := by decide +kernel
theorem dX12_weighWay_110 : decode cX12_weighWay 110 = .ok (.aload_n 0, 1) := by decide +kernel
theorem dX12_weighWay_111 : decode cX12_weighWay 111 = .ok (.iload_n 1, 1) := by decide +kernel
theorem dX12_weighWay_112 : decode cX12_weighWay 112 = .ok (.invokevirtual 536, 3) := by decide +kernel
theorem dX12_weighWay_115 : decode cX12_weighWay 115 = .ok (.ifCond .eq 7, 3) := by decide +kernel
theorem dX12_weighWay_118 : decode cX12_weighWay 118 = .ok (.iconst 1, 1) := by decide +kernel
theorem dX12_weighWay_119 : decode cX12_weighWay 119 = .ok (.goto 4, 3) := by decide +kernel
theorem dX12_weighWay_122 : decode cX12_weighWay 122 = .ok (.iconst 0, 1) := by decide +kernel
theorem dX12_weighWay_123 : decode cX12_weighWay 123 = .ok (.istore 4, 2) := by decide +kernel
theorem dX12_weighWay_125 : decode cX12_weighWay 125 = .ok (.iload 4, 2) := by decide +kernel
theorem dX12_weighWay_127 : decode cX12_weighWay 127 = .ok (.ifCond .ne 4, 3) := by decide +kernel
theorem dX12_weighWay_130 : decode cX12_weighWay 130 = .ok (.return_, 1) := by decide +kernel
theorem dX12_weighWay_131 : decode cX12_weighWay 131 = .ok (.aload_n 0, 1) := by decide +kernel
theorem dX12_weighWay_132 : decode cX12_weighWay 132 = .ok (.iload_n 2, 1) := by decide +kernel
theorem dX12_weighWay_133 : decode cX12_weighWay 133 = .ok (.putfield 530, 3) := by decide +kernel
theorem dX12_weighWay_136 : decode cX12_weighWay 136 = .ok (.aload_n 0, 1) := by decide +kernel
theorem dX12_weighWay_137 : decode cX12_weighWay 137 = .ok (.iload_n 3, 1) := by decide +kernel
theorem dX12_weighWay_138 : decode cX12_weighWay 138 = .ok (.putfield 533, 3) := by decide +kernel
theorem dX12_weighWay_141 : decode cX12_weighWay 141 = .ok (.aload_n 0, 1) := by decide +kernel
theorem dX12_weighWay_142 : decode cX12_weighWay 142 = .ok (.iload_n 1, 1) := by decide +kernel
theorem dX12_weighWay_143 : decode cX12_weighWay 143 = .ok (.putfield 539, 3) := by decide +kernel
theorem dX12_weighWay_146 : decode cX12_weighWay 146 = .ok (.iconst 0, 1) := by decide +kernel
theorem dX12_weighWay_147 : decode cX12_weighWay 147 = .ok (.istore 5, 2) := by decide +kernel
theorem dX12_weighWay_149 : decode cX12_weighWay 149 = .ok (.iload 5, 2) := by decide +kernel
theorem dX12_weighWay_151 : decode cX12_weighWay 151 = .ok (.iload_n 1, 1) := by decide +kernel
theorem dX12_weighWay_152 : decode cX12_weighWay 152 = .ok (.if_icmp .gt 23, 3) := by decide +kernel
theorem dX12_weighWay_155 : decode cX12_weighWay 155 = .ok (.aload_n 0, 1) := by decide +kernel
theorem dX12_weighWay_156 : decode cX12_weighWay 156 = .ok (.getfield 133, 3) := by decide +kernel
theorem dX12_weighWay_159 : decode cX12_weighWay 159 = .ok (.iload 5, 2) := by decide +kernel
theorem dX12_weighWay_161 : decode cX12_weighWay 161 = .ok (.aload_n 0, 1) := by decide +kernel
theorem dX12_weighWay_162 : decode cX12_weighWay 162 = .ok (.getfield 130, 3) := by decide +kernel
theorem dX12_weighWay_165 : decode cX12_weighWay 165 = .ok (.iload 5, 2) := by decide +kernel
theorem dX12_weighWay_167 : decode cX12_weighWay 167 = .ok (.iaload, 1) := by decide +kernel
theorem dX12_weighWay_168 : decode cX12_weighWay 168 = .ok (.iastore, 1) := by decide +kernel
theorem dX12_weighWay_169 : decode cX12_weighWay 169 = .ok (.iinc 5 1, 3) := by decide +kernel
theorem dX12_weighWay_172 : decode cX12_weighWay 172 = .ok (.goto (-23), 3) := by decide +kernel
theorem dX12_weighWay_175 : decode cX12_weighWay 175 = .ok (.return_, 1) := by decide +kernel
theorem dX12_findWay_0 : decode cX12_findWay 0 = .ok (.aload_n 0, 1) := by decide +kernel
theorem dX12_findWay_1 : decode cX12_findWay 1 = .ok (.iconst 0, 1) := by decide +kernel
theorem dX12_findWay_2 : decode cX12_findWay 2 = .ok (.putfield 530, 3) := by decide +kernel
theorem dX12_findWay_5 : decode cX12_findWay 5 = .ok (.aload_n 0, 1) := by decide +kernel
theorem dX12_findWay_6 : decode cX12_findWay 6 = .ok (.iconst 0, 1) := by decide +kernel
theorem dX12_findWay_7 : decode cX12_findWay 7 = .ok (.putfield 533, 3) := by decide +kernel
theorem dX12_findWay_10 : decode cX12_findWay 10 = .ok (.aload_n 0, 1) := by decide +kernel
theorem dX12_findWay_11 : decode cX12_findWay 11 = .ok (.iconst 0, 1) := by decide +kernel
theorem dX12_findWay_12 : decode cX12_findWay 12 = .ok (.putfield 539, 3) := by decide +kernel
theorem dX12_findWay_15 : decode cX12_findWay 15 = .ok (.aload_n 0, 1) := by decide +kernel
theorem dX12_findWay_16 : decode cX12_findWay 16 = .ok (.getfield 130, 3) := by decide +kernel
theorem dX12_findWay_19 : decode cX12_findWay 19 = .ok (.iconst 0, 1) := by decide +kernel
theorem dX12_findWay_20 : decode cX12_findWay 20 = .ok (.iload_n 1, 1) := by decide +kernel
theorem dX12_findWay_21 : decode cX12_findWay 21 = .ok (.iastore, 1) := by decide +kernel
theorem dX12_findWay_22 : decode cX12_findWay 22 = .ok (.iload_n 1, 1) := by decide +kernel
theorem dX12_findWay_23 : decode cX12_findWay 23 = .ok (.iload_n 2, 1) := by decide +kernel
theorem dX12_findWay_24 : decode cX12_findWay 24 = .ok (.if_icmp .ne 9, 3) := by decide +kernel
theorem dX12_findWay_27 : decode cX12_findWay 27 = .ok (.aload_n 0, 1) := by decide +kernel
theorem dX12_findWay_28 : decode cX12_findWay 28 = .ok (.iconst 0, 1) := by decide +kernel
theorem dX12_findWay_29 : decode cX12_findWay 29 = .ok (.invokevirtual 542, 3) := by decide +kernel
theorem dX12_findWay_32 : decode cX12_findWay 32 = .ok (.return_, 1) := by decide +kernel
theorem dX12_findWay_33 : decode cX12_findWay 33 = .ok (.iconst 0, 1) := by decide +kernel
theorem dX12_findWay_34 : decode cX12_findWay 34 = .ok (.istore_n 3, 1) := by decide +kernel
theorem dX12_findWay_35 : decode cX12_findWay 35 = .ok (.aload_n 0, 1) := by decide +kernel
theorem dX12_findWay_36 : decode cX12_findWay 36 = .ok (.getfield 136, 3) := by decide +kernel
theorem dX12_findWay_39 : decode cX12_findWay 39 = .ok (.iconst 0, 1) := by decide +kernel
theorem dX12_findWay_40 : decode cX12_findWay 40 = .ok (.iconst (-1), 1) := by decide +kernel
theorem dX12_findWay_41 : decode cX12_findWay 41 = .ok (.iastore, 1) := by decide +kernel
theorem dX12_findWay_42 : decode cX12_findWay 42 = .ok (.iload_n 3, 1) := by decide +kernel
theorem dX12_findWay_43 : decode cX12_findWay 43 = .ok (.ifCond .lt 88, 3) := by decide +kernel
theorem dX12_findWay_46 : decode cX12_findWay 46 = .ok (.aload_n 0, 1) := by decide +kernel
theorem dX12_findWay_47 : decode cX12_findWay 47 = .ok (.getfield 136, 3) := by decide +kernel
theorem dX12_findWay_50 : decode cX12_findWay 50 = .ok (.iload_n 3, 1) := by decide +kernel
theorem dX12_findWay_51 : decode cX12_findWay 51 = .ok (.dup2, 1) := by decide +kernel
theorem dX12_findWay_52 : decode cX12_findWay 52 = .ok (.iaload, 1) := by decide +kernel
theorem dX12_findWay_53 : decode cX12_findWay 53 = .ok (.iconst 1, 1) := by decide +kernel
theorem dX12_findWay_54 : decode cX12_findWay 54 = .ok (.iadd, 1) := by decide +kernel
theorem dX12_findWay_55 : decode cX12_findWay 55 = .ok (.iastore, 1) := by decide +kernel
theorem dX12_findWay_56 : decode cX12_findWay 56 = .ok (.aload_n 0, 1) := by decide +kernel
theorem dX12_findWay_57 : decode cX12_findWay 57 = .ok (.getfield 136, 3) := by decide +kernel
theorem dX12_findWay_60 : decode cX12_findWay 60 = .ok (.iload_n 3, 1) := by decide +kernel
theorem dX12_findWay_61 : decode cX12_findWay 61 = .ok (.iaload, 1) := by decide +kernel
theorem dX12_findWay_62 : decode cX12_findWay 62 = .ok (.aload_n 0, 1) := by decide +kernel
theorem dX12_findWay_63 : decode cX12_findWay 63 = .ok (.getfield 13, 3) := by decide +kernel
theorem dX12_findWay_66 : decode cX12_findWay 66 = .ok (.iconst 3, 1) := by decide +kernel
theorem dX12_findWay_67 : decode cX12_findWay 67 = .ok (.iaload, 1) := by decide +kernel
theorem dX12_findWay_68 : decode cX12_findWay 68 = .ok (.if_icmp .ne 9, 3) := by decide +kernel
theorem dX12_findWay_71 : decode cX12_findWay 71 = .ok (.iinc 3 (-1), 3) := by decide +kernel
theorem dX12_findWay_74 : decode cX12_findWay 74 = .ok (.goto (-32), 3) := by decide +kernel
theorem dX12_findWay_77 : decode cX12_findWay 77 = .ok (.aload_n 0, 1) := by decide +kernel
theorem dX12_findWay_78 : decode cX12_findWay 78 = .ok (.iload_n 3, 1) := by decide +kernel
theorem dX12_findWay_79 : decode cX12_findWay 79 = .ok (.aload_n 0, 1) := by decide +kernel
theorem dX12_findWay_80 : decode cX12_findWay 80 = .ok (.getfield 136, 3) := by decide +kernel
theorem dX12_findWay_83 : decode cX12_findWay 83 = .ok (.iload_n 3, 1) := by decide +kernel
theorem dX12_findWay_84 : decode cX12_findWay 84 = .ok (.iaload, 1) := by decide +kernel
theorem dX12_findWay_85 : decode cX12_findWay 85 = .ok (.invokevirtual 545, 3) := by decide +kernel
theorem dX12_findWay_88 : decode cX12_findWay 88 = .ok (.ifCond .eq (-46), 3) := by decide +kernel
theorem dX12_findWay_91 : decode cX12_findWay 91 = .ok (.aload_n 0, 1) := by decide +kernel
theorem dX12_findWay_92 : decode cX12_findWay 92 = .ok (.getfield 130, 3) := by decide +kernel
theorem dX12_findWay_95 : decode cX12_findWay 95 = .ok (.iload_n 3, 1) := by decide +kernel
theorem dX12_findWay_96 : decode cX12_findWay 96 = .ok (.iconst 1, 1) := by decide +kernel
theorem dX12_findWay_97 : decode cX12_findWay 97 = .ok (.iadd, 1) := by decide +kernel
theorem dX12_findWay_98 : decode cX12_findWay 98 = .ok (.iaload, 1) := by decide +kernel
theorem dX12_findWay_99 : decode cX12_findWay 99 = .ok (.iload_n 2, 1) := by decide +kernel
theorem dX12_findWay_100 : decode cX12_findWay 100 = .ok (.if_icmp .ne 13, 3) := by decide +kernel
theorem dX12_findWay_103 : decode cX12_findWay 103 = .ok (.aload_n 0, 1) := by decide +kernel
theorem dX12_findWay_104 : decode cX12_findWay 104 = .ok (.iload_n 3, 1) := by decide +kernel
theorem dX12_findWay_105 : decode cX12_findWay 105 = .ok (.iconst 1, 1) := by decide +kernel
theorem dX12_findWay_106 : decode cX12_findWay 106 = .ok (.iadd, 1) := by decide +kernel
theorem dX12_findWay_107 : decode cX12_findWay 107 = .ok (.invokevirtual 542, 3) := by decide +kernel
theorem dX12_findWay_110 : decode cX12_findWay 110 = .ok (.goto (-68), 3) := by decide +kernel
theorem dX12_findWay_113 : decode cX12_findWay 113 = .ok (.iload_n 3, 1) := by decide +kernel
theorem dX12_findWay_114 : decode cX12_findWay 114 = .ok (.iconst 4, 1) := by decide +kernel
theorem dX12_findWay_115 : decode cX12_findWay 115 = .ok (.if_icmp .ge (-73), 3) := by decide +kernel
theorem dX12_findWay_118 : decode cX12_findWay 118 = .ok (.iinc 3 1, 3) := by decide +kernel
theorem dX12_findWay_121 : decode cX12_findWay 121 = .ok (.aload_n 0, 1) := by decide +kernel
theorem dX12_findWay_122 : decode cX12_findWay 122 = .ok (.getfield 136, 3) := by decide +kernel
theorem dX12_findWay_125 : decode cX12_findWay 125 = .ok (.iload_n 3, 1) := by decide +kernel
theorem dX12_findWay_126 : decode cX12_findWay 126 = .ok (.iconst (-1), 1) := by decide +kernel
theorem dX12_findWay_127 : decode cX12_findWay 127 = .ok (.iastore, 1) := by decide +kernel
theorem dX12_findWay_128 : decode cX12_findWay 128 = .ok (.goto (-86), 3) := by decide +kernel
theorem dX12_findWay_131 : decode cX12_findWay 131 = .ok (.return_, 1) := by decide +kernel
theorem dX12_was_0 : decode cX12_was 0 = .ok (.aload_n 0, 1) := by decide +kernel
theorem dX12_was_1 : decode cX12_was 1 = .ok (.iconst 0, 1) := by decide +kernel
theorem dX12_was_2 : decode cX12_was 2 = .ok (.putfield 169, 3) := by decide +kernel
theorem dX12_was_5 : decode cX12_was 5 = .ok (.iload_n 1, 1) := by decide +kernel
theorem dX12_was_6 : decode cX12_was 6 = .ok (.ireturn, 1) := by decide +kernel
theorem dX12_force_0 : decode cX12_force 0 = .ok (.aload_n 0, 1) := by decide +kernel
theorem dX12_force_1 : decode cX12_force 1 = .ok (.iconst 0, 1) := by decide +kernel
theorem dX12_force_2 : decode cX12_force 2 = .ok (.putfield 166, 3) := by decide +kernel
theorem dX12_force_5 : decode cX12_force 5 = .ok (.iload_n 1, 1) := by decide +kernel
theorem dX12_force_6 : decode cX12_force 6 = .ok (.iconst (-1), 1) := by decide +kernel
theorem dX12_force_7 : decode cX12_force 7 = .ok (.if_icmp .eq 28, 3) := by decide +kernel
theorem dX12_force_10 : decode cX12_force 10 = .ok (.iload_n 1, 1) := by decide +kernel
theorem dX12_force_11 : decode cX12_force 11 = .ok (.i2l, 1) := by decide +kernel
theorem dX12_force_12 : decode cX12_force 12 = .ok (.lconst 0, 1) := by decide +kernel
theorem dX12_force_13 : decode cX12_force 13 = .ok (.aload_n 0, 1) := by decide +kernel
theorem dX12_force_14 : decode cX12_force 14 = .ok (.getfield 13, 3) := by decide +kernel
theorem dX12_force_17 : decode cX12_force 17 = .ok (.iconst 4, 1) := by decide +kernel
theorem dX12_force_18 : decode cX12_force 18 = .ok (.iaload, 1) := by decide +kernel
theorem dX12_force_19 : decode cX12_force 19 = .ok (.i2l, 1) := by decide +kernel
theorem dX12_force_20 : decode cX12_force 20 = .ok (.lconst 1, 1) := by decide +kernel
theorem dX12_force_21 : decode cX12_force 21 = .ok (.lsub, 1) := by decide +kernel
theorem dX12_force_22 : decode cX12_force 22 = .ok (.invokestatic 179, 3) := by decide +kernel
theorem dX12_force_25 : decode cX12_force 25 = .ok (.ifCond .ne 10, 3) := by decide +kernel
theorem dX12_force_28 : decode cX12_force 28 = .ok (.aload_n 0, 1) := by decide +kernel
theorem dX12_force_29 : decode cX12_force 29 = .ok (.bipush (-2), 2) := by decide +kernel
theorem dX12_force_31 : decode cX12_force 31 = .ok (.invokevirtual 175, 3) := by decide +kernel
theorem dX12_force_34 : decode cX12_force 34 = .ok (.ireturn, 1) := by decide +kernel
theorem dX12_force_35 : decode cX12_force 35 = .ok (.aload_n 0, 1) := by decide +kernel
theorem dX12_force_36 : decode cX12_force 36 = .ok (.getfield 13, 3) := by decide +kernel
theorem dX12_force_39 : decode cX12_force 39 = .ok (.iconst 5, 1) := by decide +kernel
theorem dX12_force_40 : decode cX12_force 40 = .ok (.iaload, 1) := by decide +kernel
theorem dX12_force_41 : decode cX12_force 41 = .ok (.istore_n 2, 1) := by decide +kernel
theorem dX12_force_42 : decode cX12_force 42 = .ok (.aload_n 0, 1) := by decide +kernel
theorem dX12_force_43 : decode cX12_force 43 = .ok (.getfield 13, 3) := by decide +kernel
theorem dX12_force_46 : decode cX12_force 46 = .ok (.iconst 5, 1) := by decide +kernel
theorem dX12_force_47 : decode cX12_force 47 = .ok (.iload_n 1, 1) := by decide +kernel
theorem dX12_force_48 : decode cX12_force 48 = .ok (.iastore, 1) := by decide +kernel
theorem dX12_force_49 : decode cX12_force 49 = .ok (.aload_n 0, 1) := by decide +kernel
theorem dX12_force_50 : decode cX12_force 50 = .ok (.iload_n 2, 1) := by decide +kernel
theorem dX12_force_51 : decode cX12_force 51 = .ok (.invokevirtual 217, 3) := by decide +kernel
theorem dX12_force_54 : decode cX12_force 54 = .ok (.ireturn, 1) := by decide +kernel
theorem dX12_found_0 : decode cX12_found 0 = .ok (.aload_n 0, 1) := by decide +kernel
theorem dX12_found_1 : decode cX12_found 1 = .ok (.iconst 0, 1) := by decide +kernel
theorem dX12_found_2 : decode cX12_found 2 = .ok (.putfield 166, 3) := by decide +kernel
theorem dX12_found_5 : decode cX12_found 5 = .ok (.iload_n 1, 1) := by decide +kernel
theorem dX12_found_6 : decode cX12_found 6 = .ok (.i2l, 1) := by decide +kernel
theorem dX12_found_7 : decode cX12_found 7 = .ok (.lconst 0, 1) := by decide +kernel
theorem dX12_found_8 : decode cX12_found 8 = .ok (.ldc2_w 232, 3) := by decide +kernel
theorem dX12_found_11 : decode cX12_found 11 = .ok (.invokestatic 179, 3) := by decide +kernel
theorem dX12_found_14 : decode cX12_found 14 = .ok (.ifCond .eq 18, 3) := by decide +kernel
theorem dX12_found_17 : decode cX12_found 17 = .ok (.iload_n 2, 1) := by decide +kernel
theorem dX12_found_18 : decode cX12_found 18 = .ok (.i2l, 1) := by decide +kernel
theorem dX12_found_19 : decode cX12_found 19 = .ok (.lconst 0, 1) := by decide +kernel
theorem dX12_found_20 : decode cX12_found 20 = .ok (.ldc2_w 443, 3) := by decide +kernel
theorem dX12_found_23 : decode cX12_found 23 = .ok (.iload_n 1, 1) := by decide +kernel
theorem dX12_found_24 : decode cX12_found 24 = .ok (.i2l, 1) := by decide +kernel
theorem dX12_found_25 : decode cX12_found 25 = .ok (.lmul, 1) := by decide +kernel
theorem dX12_found_26 : decode cX12_found 26 = .ok (.invokestatic 179, 3) := by decide +kernel
theorem dX12_found_29 : decode cX12_found 29 = .ok (.ifCond .ne 5, 3) := by decide +kernel
theorem dX12_found_32 : decode cX12_found 32 = .ok (.iconst (-1), 1) := by decide +kernel
theorem dX12_found_33 : decode cX12_found 33 = .ok (.ireturn, 1) := by decide +kernel
theorem dX12_found_34 : decode cX12_found 34 = .ok (.aload_n 0, 1) := by decide +kernel
theorem dX12_found_35 : decode cX12_found 35 = .ok (.iload_n 1, 1) := by decide +kernel
theorem dX12_found_36 : decode cX12_found 36 = .ok (.invokevirtual 580, 3) := by decide +kernel
theorem dX12_found_39 : decode cX12_found 39 = .ok (.iload_n 2, 1) := by decide +kernel
theorem dX12_found_40 : decode cX12_found 40 = .ok (.ifCond .eq 10, 3) := by decide +kernel
theorem dX12_found_43 : decode cX12_found 43 = .ok (.aload_n 0, 1) := by decide +kernel
theorem dX12_found_44 : decode cX12_found 44 = .ok (.getfield 568, 3) := by decide +kernel
theorem dX12_found_47 : decode cX12_found 47 = .ok (.ifCond .ne 16, 3) := by decide +kernel
theorem dX12_found_50 : decode cX12_found 50 = .ok (.iload_n 2, 1) := by decide +kernel
theorem dX12_found_51 : decode cX12_found 51 = .ok (.ifCond .ne 10, 3) := by decide +kernel
theorem dX12_found_54 : decode cX12_found 54 = .ok (.aload_n 0, 1) := by decide +kernel
theorem dX12_found_55 : decode cX12_found 55 = .ok (.getfield 568, 3) := by decide +kernel
theorem dX12_found_58 : decode cX12_found 58 = .ok (.goto 4, 3) := by decide +kernel
theorem dX12_found_61 : decode cX12_found 61 = .ok (.iconst (-1), 1) := by decide +kernel
theorem dX12_found_62 : decode cX12_found 62 = .ok (.ireturn, 1) := by decide +kernel
theorem dX12_found_63 : decode cX12_found 63 = .ok (.aload_n 0, 1) := by decide +kernel
theorem dX12_found_64 : decode cX12_found 64 = .ok (.getfield 154, 3) := by decide +kernel
theorem dX12_found_67 : decode cX12_found 67 = .ok (.iload_n 2, 1) := by decide +kernel
theorem dX12_found_68 : decode cX12_found 68 = .ok (.iconst 1, 1) := by decide +kernel
theorem dX12_found_69 : decode cX12_found 69 = .ok (.isub, 1) := by decide +kernel
theorem dX12_found_70 : decode cX12_found 70 = .ok (.iconst 2, 1) := by decide +kernel
theorem dX12_found_71 : decode cX12_found 71 = .ok (.idiv, 1) := by decide +kernel
theorem dX12_found_72 : decode cX12_found 72 = .ok (.iaload, 1) := by decide +kernel
theorem dX12_found_73 : decode cX12_found 73 = .ok (.istore_n 3, 1) := by decide +kernel
theorem dX12_found_74 : decode cX12_found 74 = .ok (.iload_n 2, 1) := by decide +kernel
theorem dX12_found_75 : decode cX12_found 75 = .ok (.iconst 2, 1) := by decide +kernel
theorem dX12_found_76 : decode cX12_found 76 = .ok (.irem, 1) := by decide +kernel
theorem dX12_found_77 : decode cX12_found 77 = .ok (.iconst 1, 1) := by decide +kernel
theorem dX12_found_78 : decode cX12_found 78 = .ok (.if_icmp .ne 10, 3) := by decide +kernel
theorem dX12_found_81 : decode cX12_found 81 = .ok (.iload_n 3, 1) := by decide +kernel
theorem dX12_found_82 : decode cX12_found 82 = .ok (.bipush 6, 2) := by decide +kernel
theorem dX12_found_84 : decode cX12_found 84 = .ok (.idiv, 1) := by decide +kernel
theorem dX12_found_85 : decode cX12_found 85 = .ok (.goto 7, 3) := by decide +kernel
theorem dX12_found_88 : decode cX12_found 88 = .ok (.iload_n 3, 1) := by decide +kernel
theorem dX12_found_89 : decode cX12_found 89 = .ok (.bipush 6, 2) := by decide +kernel
theorem dX12_found_91 : decode cX12_found 91 = .ok (.irem, 1) := by decide +kernel
theorem dX12_found_92 : decode cX12_found 92 = .ok (.ireturn, 1) := by decide +kernel
theorem dX12_gift_0 : decode cX12_gift 0 = .ok (.aload_n 0, 1) := by decide +kernel
theorem dX12_gift_1 : decode cX12_gift 1 = .ok (.iload_n 1, 1) := by decide +kernel
theorem dX12_gift_2 : decode cX12_gift 2 = .ok (.iconst 0, 1) := by decide +kernel
theorem dX12_gift_3 : decode cX12_gift 3 = .ok (.invokevirtual 190, 3) := by decide +kernel
theorem dX12_gift_6 : decode cX12_gift 6 = .ok (.istore_n 3, 1) := by decide +kernel
theorem dX12_gift_7 : decode cX12_gift 7 = .ok (.iload_n 3, 1) := by decide +kernel
theorem dX12_gift_8 : decode cX12_gift 8 = .ok (.iload_n 2, 1) := by decide +kernel
theorem dX12_gift_9 : decode cX12_gift 9 = .ok (.if_icmp .eq 33, 3) := by decide +kernel
theorem dX12_gift_12 : decode cX12_gift 12 = .ok (.aload_n 0, 1) := by decide +kernel
theorem dX12_gift_13 : decode cX12_gift 13 = .ok (.iload_n 3, 1) := by decide +kernel
theorem dX12_gift_14 : decode cX12_gift 14 = .ok (.iconst 2, 1) := by decide +kernel
theorem dX12_gift_15 : decode cX12_gift 15 = .ok (.invokevirtual 204, 3) := by decide +kernel
theorem dX12_gift_18 : decode cX12_gift 18 = .ok (.iconst 1, 1) := by decide +kernel
theorem dX12_gift_19 : decode cX12_gift 19 = .ok (.if_icmp .eq 23, 3) := by decide +kernel
theorem dX12_gift_22 : decode cX12_gift 22 = .ok (.aload_n 0, 1) := by decide +kernel
theorem dX12_gift_23 : decode cX12_gift 23 = .ok (.iload_n 2, 1) := by decide +kernel
theorem dX12_gift_24 : decode cX12_gift 24 = .ok (.iconst 2, 1) := by decide +kernel
theorem dX12_gift_25 : decode cX12_gift 25 = .ok (.invokevirtual 204, 3) := by decide +kernel
theorem dX12_gift_28 : decode cX12_gift 28 = .ok (.iconst 1, 1) := by decide +kernel
theorem dX12_gift_29 : decode cX12_gift 29 = .ok (.if_icmp .eq 13, 3) := by decide +kernel
theorem dX12_gift_32 : decode cX12_gift 32 = .ok (.aload_n 0, 1) := by decide +kernel
theorem dX12_gift_33 : decode cX12_gift 33 = .ok (.iload_n 1, 1) := by decide +kernel
theorem dX12_gift_34 : decode cX12_gift 34 = .ok (.iload_n 3, 1) := by decide +kernel
theorem dX12_gift_35 : decode cX12_gift 35 = .ok (.iload_n 2, 1) := by decide +kernel
theorem dX12_gift_36 : decode cX12_gift 36 = .ok (.invokevirtual 448, 3) := by decide +kernel
theorem dX12_gift_39 : decode cX12_gift 39 = .ok (.ifCond .eq 6, 3) := by decide +kernel
theorem dX12_gift_42 : decode cX12_gift 42 = .ok (.bipush (-3), 2) := by decide +kernel
theorem dX12_gift_44 : decode cX12_gift 44 = .ok (.ireturn, 1) := by decide +kernel
theorem dX12_gift_45 : decode cX12_gift 45 = .ok (.aload_n 0, 1) := by decide +kernel
theorem dX12_gift_46 : decode cX12_gift 46 = .ok (.iload_n 1, 1) := by decide +kernel
theorem dX12_gift_47 : decode cX12_gift 47 = .ok (.iload_n 3, 1) := by decide +kernel
theorem dX12_gift_48 : decode cX12_gift 48 = .ok (.iload_n 2, 1) := by decide +kernel
theorem dX12_gift_49 : decode cX12_gift 49 = .ok (.invokevirtual 445, 3) := by decide +kernel
theorem dX12_gift_52 : decode cX12_gift 52 = .ok (.istore 4, 2) := by decide +kernel
theorem dX12_gift_54 : decode cX12_gift 54 = .ok (.aload_n 0, 1) := by decide +kernel
theorem dX12_gift_55 : decode cX12_gift 55 = .ok (.getfield 13, 3) := by decide +kernel
theorem dX12_gift_58 : decode cX12_gift 58 = .ok (.bipush 45, 2) := by decide +kernel
theorem dX12_gift_60 : decode cX12_gift 60 = .ok (.bipush 6, 2) := by decide +kernel
theorem dX12_gift_62 : decode cX12_gift 62 = .ok (.iload_n 1, 1) := by decide +kernel
theorem dX12_gift_63 : decode cX12_gift 63 = .ok (.imul, 1) := by decide +kernel
theorem dX12_gift_64 : decode cX12_gift 64 = .ok (.iadd, 1) := by decide +kernel
theorem dX12_gift_65 : decode cX12_gift 65 = .ok (.iconst 0, 1) := by decide +kernel
theorem dX12_gift_66 : decode cX12_gift 66 = .ok (.iadd, 1) := by decide +kernel
theorem dX12_gift_67 : decode cX12_gift 67 = .ok (.iload_n 2, 1) := by decide +kernel
theorem dX12_gift_68 : decode cX12_gift 68 = .ok (.iastore, 1) := by decide +kernel
theorem dX12_gift_69 : decode cX12_gift 69 = .ok (.aload_n 0, 1) := by decide +kernel
theorem dX12_gift_70 : decode cX12_gift 70 = .ok (.getfield 13, 3) := by decide +kernel
theorem dX12_gift_73 : decode cX12_gift 73 = .ok (.bipush 45, 2) := by decide +kernel
theorem dX12_gift_75 : decode cX12_gift 75 = .ok (.bipush 6, 2) := by decide +kernel
theorem dX12_gift_77 : decode cX12_gift 77 = .ok (.iload_n 1, 1) := by decide +kernel
theorem dX12_gift_78 : decode cX12_gift 78 = .ok (.imul, 1) := by decide +kernel
theorem dX12_gift_79 : decode cX12_gift 79 = .ok (.iadd, 1) := by decide +kernel
theorem dX12_gift_80 : decode cX12_gift 80 = .ok (.iconst 4, 1) := by decide +kernel
theorem dX12_gift_81 : decode cX12_gift 81 = .ok (.iadd, 1) := by decide +kernel
theorem dX12_gift_82 : decode cX12_gift 82 = .ok (.dup2, 1) := by decide +kernel
theorem dX12_gift_83 : decode cX12_gift 83 = .ok (.iaload, 1) := by decide +kernel
theorem dX12_gift_84 : decode cX12_gift 84 = .ok (.iconst 1, 1) := by decide +kernel
theorem dX12_gift_85 : decode cX12_gift 85 = .ok (.iadd, 1) := by decide +kernel
theorem dX12_gift_86 : decode cX12_gift 86 = .ok (.iastore, 1) := by decide +kernel
theorem dX12_gift_87 : decode cX12_gift 87 = .ok (.aload_n 0, 1) := by decide +kernel
theorem dX12_gift_88 : decode cX12_gift 88 = .ok (.iload_n 1, 1) := by decide +kernel
theorem dX12_gift_89 : decode cX12_gift 89 = .ok (.iconst 1, 1) := by decide +kernel
theorem dX12_gift_90 : decode cX12_gift 90 = .ok (.invokevirtual 190, 3) := by decide +kernel
theorem dX12_gift_93 : decode cX12_gift 93 = .ok (.iload_n 3, 1) := by decide +kernel
theorem dX12_gift_94 : decode cX12_gift 94 = .ok (.if_icmp .eq 24, 3) := by decide +kernel
theorem dX12_gift_97 : decode cX12_gift 97 = .ok (.aload_n 0, 1) := by decide +kernel
theorem dX12_gift_98 : decode cX12_gift 98 = .ok (.getfield 13, 3) := by decide +kernel
theorem dX12_gift_101 : decode cX12_gift 101 = .ok (.bipush 9, 2) := by decide +kernel
theorem dX12_gift_103 : decode cX12_gift 103 = .ok (.bipush 6, 2) := by decide +kernel
theorem dX12_gift_105 : decode cX12_gift 105 = .ok (.iload_n 3, 1) := by decide +kernel
theorem dX12_gift_106 : decode cX12_gift 106 = .ok (.imul, 1) := by decide +kernel
theorem dX12_gift_107 : decode cX12_gift 107 = .ok (.iadd, 1) := by decide +kernel
theorem dX12_gift_108 : decode cX12_gift 108 = .ok (.iconst 3, 1) := by decide +kernel
theorem dX12_gift_109 : decode cX12_gift 109 = .ok (.iadd, 1) := by decide +kernel
theorem dX12_gift_110 : decode cX12_gift 110 = .ok (.dup2, 1) := by decide +kernel
theorem dX12_gift_111 : decode cX12_gift 111 = .ok (.iaload, 1) := by decide +kernel
theorem dX12_gift_112 : decode cX12_gift 112 = .ok (.iconst 1, 1) := by decide +kernel
theorem dX12_gift_113 : decode cX12_gift 113 = .ok (.iadd, 1) := by decide +kernel
theorem dX12_gift_114 : decode cX12_gift 114 = .ok (.iastore, 1) := by decide +kernel
theorem dX12_gift_115 : decode cX12_gift 115 = .ok (.iload 4, 2) := by decide +kernel
theorem dX12_gift_117 : decode cX12_gift 117 = .ok (.ireturn, 1) := by decide +kernel
theorem dX12_gift_118 : decode cX12_gift 118 = .ok (.iload_n 3, 1) := by decide +kernel
theorem dX12_gift_119 : decode cX12_gift 119 = .ok (.iload_n 2, 1) := by decide +kernel
theorem dX12_gift_120 : decode cX12_gift 120 = .ok (.invokestatic 452, 3) := by decide +kernel
theorem dX12_gift_123 : decode cX12_gift 123 = .ok (.istore 5, 2) := by decide +kernel
theorem dX12_gift_125 : decode cX12_gift 125 = .ok (.iload_n 2, 1) := by decide +kernel
theorem dX12_gift_126 : decode cX12_gift 126 = .ok (.iload_n 3, 1) := by decide +kernel
theorem dX12_gift_127 : decode cX12_gift 127 = .ok (.invokestatic 452, 3) := by decide +kernel
theorem dX12_gift_130 : decode cX12_gift 130 = .ok (.istore 6, 2) := by decide +kernel
theorem dX12_gift_132 : decode cX12_gift 132 = .ok (.aload_n 0, 1) := by decide +kernel
theorem dX12_gift_133 : decode cX12_gift 133 = .ok (.getfield 13, 3) := by decide +kernel
theorem dX12_gift_136 : decode cX12_gift 136 = .ok (.iload 5, 2) := by decide +kernel
theorem dX12_gift_138 : decode cX12_gift 138 = .ok (.iaload, 1) := by decide +kernel
theorem dX12_gift_139 : decode cX12_gift 139 = .ok (.iconst (-1), 1) := by decide +kernel
theorem dX12_gift_140 : decode cX12_gift 140 = .ok (.if_icmp .eq 18, 3) := by decide +kernel
theorem dX12_gift_143 : decode cX12_gift 143 = .ok (.iload 4, 2) := by decide +kernel
theorem dX12_gift_145 : decode cX12_gift 145 = .ok (.aload_n 0, 1) := by decide +kernel
theorem dX12_gift_146 : decode cX12_gift 146 = .ok (.getfield 13, 3) := by decide +kernel
theorem dX12_gift_149 : decode cX12_gift 149 = .ok (.iload 5, 2) := by decide +kernel
theorem dX12_gift_151 : decode cX12_gift 151 = .ok (.iaload, 1) := by decide +kernel
theorem dX12_gift_152 : decode cX12_gift 152 = .ok (.if_icmp .gt 6, 3) := by decide +kernel
theorem dX12_gift_155 : decode cX12_gift 155 = .ok (.iload 4, 2) := by decide +kernel
theorem dX12_gift_157 : decode cX12_gift 157 = .ok (.ireturn, 1) := by decide +kernel
theorem dX12_gift_158 : decode cX12_gift 158 = .ok (.aload_n 0, 1) := by decide +kernel
theorem dX12_gift_159 : decode cX12_gift 159 = .ok (.getfield 13, 3) := by decide +kernel
theorem dX12_gift_162 : decode cX12_gift 162 = .ok (.iload 5, 2) := by decide +kernel
theorem dX12_gift_164 : decode cX12_gift 164 = .ok (.iconst (-1), 1) := by decide +kernel
theorem dX12_gift_165 : decode cX12_gift 165 = .ok (.iastore, 1) := by decide +kernel
theorem dX12_gift_166 : decode cX12_gift 166 = .ok (.aload_n 0, 1) := by decide +kernel
theorem dX12_gift_167 : decode cX12_gift 167 = .ok (.getfield 13, 3) := by decide +kernel
theorem dX12_gift_170 : decode cX12_gift 170 = .ok (.iload 6, 2) := by decide +kernel
theorem dX12_gift_172 : decode cX12_gift 172 = .ok (.iaload, 1) := by decide +kernel
theorem dX12_gift_173 : decode cX12_gift 173 = .ok (.iconst (-1), 1) := by decide +kernel
theorem dX12_gift_174 : decode cX12_gift 174 = .ok (.if_icmp .ne 16, 3) := by decide +kernel
theorem dX12_gift_177 : decode cX12_gift 177 = .ok (.aload_n 0, 1) := by decide +kernel
theorem dX12_gift_178 : decode cX12_gift 178 = .ok (.getfield 13, 3) := by decide +kernel
theorem dX12_gift_181 : decode cX12_gift 181 = .ok (.iload 6, 2) := by decide +kernel
theorem dX12_gift_183 : decode cX12_gift 183 = .ok (.iconst 1, 1) := by decide +kernel
theorem dX12_gift_184 : decode cX12_gift 184 = .ok (.iadd, 1) := by decide +kernel
theorem dX12_gift_185 : decode cX12_gift 185 = .ok (.aload_n 0, 1) := by decide +kernel
theorem dX12_gift_186 : decode cX12_gift 186 = .ok (.invokevirtual 210, 3) := by decide +kernel
theorem dX12_gift_189 : decode cX12_gift 189 = .ok (.iastore, 1) := by decide +kernel
theorem dX12_gift_190 : decode cX12_gift 190 = .ok (.aload_n 0, 1) := by decide +kernel
theorem dX12_gift_191 : decode cX12_gift 191 = .ok (.getfield 13, 3) := by decide +kernel
theorem dX12_gift_194 : decode cX12_gift 194 = .ok (.iload 6, 2) := by decide +kernel
theorem dX12_gift_196 : decode cX12_gift 196 = .ok (.iload 4, 2) := by decide +kernel
theorem dX12_gift_198 : decode cX12_gift 198 = .ok (.aload_n 0, 1) := by decide +kernel
theorem dX12_gift_199 : decode cX12_gift 199 = .ok (.getfield 13, 3) := by decide +kernel
theorem dX12_gift_202 : decode cX12_gift 202 = .ok (.iload 6, 2) := by decide +kernel
theorem dX12_gift_204 : decode cX12_gift 204 = .ok (.iaload, 1) := by decide +kernel
theorem dX12_gift_205 : decode cX12_gift 205 = .ok (.if_icmp .le 8, 3) := by decide +kernel
theorem dX12_gift_208 : decode cX12_gift 208 = .ok (.iload 4, 2) := by decide +kernel
theorem dX12_gift_210 : decode cX12_gift 210 = .ok (.goto 10, 3) := by decide +kernel
theorem dX12_gift_213 : decode cX12_gift 213 = .ok (.aload_n 0, 1) := by decide +kernel
theorem dX12_gift_214 : decode cX12_gift 214 = .ok (.getfield 13, 3) := by decide +kernel
theorem dX12_gift_217 : decode cX12_gift 217 = .ok (.iload 6, 2) := by decide +kernel
theorem dX12_gift_219 : decode cX12_gift 219 = .ok (.iaload, 1) := by decide +kernel
theorem dX12_gift_220 : decode cX12_gift 220 = .ok (.iastore, 1) := by decide +kernel
theorem dX12_gift_221 : decode cX12_gift 221 = .ok (.iload 4, 2) := by decide +kernel
theorem dX12_gift_223 : decode cX12_gift 223 = .ok (.ireturn, 1) := by decide +kernel
theorem dX12_held_0 : decode cX12_held 0 = .ok (.iconst 0, 1) := by decide +kernel
theorem dX12_held_1 : decode cX12_held 1 = .ok (.istore_n 2, 1) := by decide +kernel
theorem dX12_held_2 : decode cX12_held 2 = .ok (.iconst 0, 1) := by decide +kernel
theorem dX12_held_3 : decode cX12_held 3 = .ok (.istore_n 3, 1) := by decide +kernel
theorem dX12_held_4 : decode cX12_held 4 = .ok (.iload_n 3, 1) := by decide +kernel
theorem dX12_held_5 : decode cX12_held 5 = .ok (.aload_n 0, 1) := by decide +kernel
theorem dX12_held_6 : decode cX12_held 6 = .ok (.getfield 13, 3) := by decide +kernel
theorem dX12_held_9 : decode cX12_held 9 = .ok (.iconst 1, 1) := by decide +kernel
theorem dX12_held_10 : decode cX12_held 10 = .ok (.iaload, 1) := by decide +kernel
theorem dX12_held_11 : decode cX12_held 11 = .ok (.if_icmp .ge 27, 3) := by decide +kernel
theorem dX12_held_14 : decode cX12_held 14 = .ok (.iload_n 2, 1) := by decide +kernel
theorem dX12_held_15 : decode cX12_held 15 = .ok (.aload_n 0, 1) := by decide +kernel
theorem dX12_held_16 : decode cX12_held 16 = .ok (.iload_n 3, 1) := by decide +kernel
theorem dX12_held_17 : decode cX12_held 17 = .ok (.iconst 0, 1) := by decide +kernel
theorem dX12_held_18 : decode cX12_held 18 = .ok (.invokevirtual 190, 3) := by decide +kernel
theorem dX12_held_21 : decode cX12_held 21 = .ok (.iload_n 1, 1) := by decide +kernel
theorem dX12_held_22 : decode cX12_held 22 = .ok (.if_icmp .ne 7, 3) := by decide +kernel
theorem dX12_held_25 : decode cX12_held 25 = .ok (.iconst 1, 1) := by decide +kernel
theorem dX12_held_26 : decode cX12_held 26 = .ok (.goto 4, 3) := by decide +kernel
theorem dX12_held_29 : decode cX12_held 29 = .ok (.iconst 0, 1) := by decide +kernel
theorem dX12_held_30 : decode cX12_held 30 = .ok (.iadd, 1) := by decide +kernel
theorem dX12_held_31 : decode cX12_held 31 = .ok (.istore_n 2, 1) := by decide +kernel
theorem dX12_held_32 : decode cX12_held 32 = .ok (.iinc 3 1, 3) := by decide +kernel
theorem dX12_held_35 : decode cX12_held 35 = .ok (.goto (-31), 3) := by decide +kernel
theorem dX12_held_38 : decode cX12_held 38 = .ok (.iload_n 2, 1) := by decide +kernel
theorem dX12_held_39 : decode cX12_held 39 = .ok (.ireturn, 1) := by decide +kernel
theorem dX12_putBack_0 : decode cX12_putBack 0 = .ok (.iconst 0, 1) := by decide +kernel
theorem dX12_putBack_1 : decode cX12_putBack 1 = .ok (.istore_n 2, 1) := by decide +kernel
theorem dX12_putBack_2 : decode cX12_putBack 2 = .ok (.iload_n 2, 1) := by decide +kernel
theorem dX12_putBack_3 : decode cX12_putBack 3 = .ok (.sipush 270, 3) := by decide +kernel
theorem dX12_putBack_6 : decode cX12_putBack 6 = .ok (.if_icmp .ge 27, 3) := by decide +kernel
theorem dX12_putBack_9 : decode cX12_putBack 9 = .ok (.aload_n 0, 1) := by decide +kernel
theorem dX12_putBack_10 : decode cX12_putBack 10 = .ok (.getfield 13, 3) := by decide +kernel
theorem dX12_putBack_13 : decode cX12_putBack 13 = .ok (.iload_n 2, 1) := by decide +kernel
theorem dX12_putBack_14 : decode cX12_putBack 14 = .ok (.aload_n 0, 1) := by decide +kernel
theorem dX12_putBack_15 : decode cX12_putBack 15 = .ok (.getfield 23, 3) := by decide +kernel
theorem dX12_putBack_18 : decode cX12_putBack 18 = .ok (.sipush 270, 3) := by decide +kernel
theorem dX12_putBack_21 : decode cX12_putBack 21 = .ok (.iload_n 1, 1) := by decide +kernel
theorem dX12_putBack_22 : decode cX12_putBack 22 = .ok (.imul, 1) := by decide +kernel
theorem dX12_putBack_23 : decode cX12_putBack 23 = .ok (.iload_n 2, 1) := by decide +kernel
theorem dX12_putBack_24 : decode cX12_putBack 24 = .ok (.iadd, 1) := by decide +kernel
theorem dX12_putBack_25 : decode cX12_putBack 25 = .ok (.iaload, 1) := by decide +kernel
theorem dX12_putBack_26 : decode cX12_putBack 26 = .ok (.iastore, 1) := by decide +kernel
theorem dX12_putBack_27 : decode cX12_putBack 27 = .ok (.iinc 2 1, 3) := by decide +kernel
theorem dX12_putBack_30 : decode cX12_putBack 30 = .ok (.goto (-28), 3) := by decide +kernel
theorem dX12_putBack_33 : decode cX12_putBack 33 = .ok (.return_, 1) := by decide +kernel
theorem dX12_generation_0 : decode cX12_generation 0 = .ok (.aload_n 0, 1) := by decide +kernel
theorem dX12_generation_1 : decode cX12_generation 1 = .ok (.iconst 0, 1) := by decide +kernel
theorem dX12_generation_2 : decode cX12_generation 2 = .ok (.putfield 166, 3) := by decide +kernel
theorem dX12_generation_5 : decode cX12_generation 5 = .ok (.iload_n 1, 1) := by decide +kernel
theorem dX12_generation_6 : decode cX12_generation 6 = .ok (.i2l, 1) := by decide +kernel
theorem dX12_generation_7 : decode cX12_generation 7 = .ok (.lconst 0, 1) := by decide +kernel
theorem dX12_generation_8 : decode cX12_generation 8 = .ok (.ldc2_w 278, 3) := by decide +kernel
theorem dX12_generation_11 : decode cX12_generation 11 = .ok (.invokestatic 179, 3) := by decide +kernel
theorem dX12_generation_14 : decode cX12_generation 14 = .ok (.ifCond .eq 15, 3) := by decide +kernel
theorem dX12_generation_17 : decode cX12_generation 17 = .ok (.iload_n 2, 1) := by decide +kernel
theorem dX12_generation_18 : decode cX12_generation 18 = .ok (.i2l, 1) := by decide +kernel
theorem dX12_generation_19 : decode cX12_generation 19 = .ok (.lconst 1, 1) := by decide +kernel
theorem dX12_generation_20 : decode cX12_generation 20 = .ok (.ldc2_w 620, 3) := by decide +kernel
theorem dX12_generation_23 : decode cX12_generation 23 = .ok (.invokestatic 179, 3) := by decide +kernel
theorem dX12_generation_26 : decode cX12_generation 26 = .ok (.ifCond .ne 9, 3) := by decide +kernel
theorem dX12_generation_29 : decode cX12_generation 29 = .ok (.aload_n 0, 1) := by decide +kernel
theorem dX12_generation_30 : decode cX12_generation 30 = .ok (.iconst (-1), 1) := by decide +kernel
theorem dX12_generation_31 : decode cX12_generation 31 = .ok (.invokevirtual 175, 3) := by decide +kernel
theorem dX12_generation_34 : decode cX12_generation 34 = .ok (.ireturn, 1) := by decide +kernel
theorem dX12_generation_35 : decode cX12_generation 35 = .ok (.aload_n 0, 1) := by decide +kernel
theorem dX12_generation_36 : decode cX12_generation 36 = .ok (.getfield 13, 3) := by decide +kernel
theorem dX12_generation_39 : decode cX12_generation 39 = .ok (.iconst 0, 1) := by decide +kernel
theorem dX12_generation_40 : decode cX12_generation 40 = .ok (.iaload, 1) := by decide +kernel
theorem dX12_generation_41 : decode cX12_generation 41 = .ok (.ifCond .ne 10, 3) := by decide +kernel
theorem dX12_generation_44 : decode cX12_generation 44 = .ok (.aload_n 0, 1) := by decide +kernel
theorem dX12_generation_45 : decode cX12_generation 45 = .ok (.bipush (-3), 2) := by decide +kernel
theorem dX12_generation_47 : decode cX12_generation 47 = .ok (.invokevirtual 175, 3) := by decide +kernel
theorem dX12_generation_50 : decode cX12_generation 50 = .ok (.ireturn, 1) := by decide +kernel
theorem dX12_generation_51 : decode cX12_generation 51 = .ok (.aload_n 0, 1) := by decide +kernel
theorem dX12_generation_52 : decode cX12_generation 52 = .ok (.bipush 16, 2) := by decide +kernel
theorem dX12_generation_54 : decode cX12_generation 54 = .ok (.invokevirtual 462, 3) := by decide +kernel
theorem dX12_generation_57 : decode cX12_generation 57 = .ok (.aload_n 0, 1) := by decide +kernel
theorem dX12_generation_58 : decode cX12_generation 58 = .ok (.iload_n 1, 1) := by decide +kernel
theorem dX12_generation_59 : decode cX12_generation 59 = .ok (.i2l, 1) := by decide +kernel
theorem dX12_generation_60 : decode cX12_generation 60 = .ok (.putfield 611, 3) := by decide +kernel
theorem dX12_generation_63 : decode cX12_generation 63 = .ok (.iconst 0, 1) := by decide +kernel
theorem dX12_generation_64 : decode cX12_generation 64 = .ok (.istore_n 3, 1) := by decide +kernel
theorem dX12_generation_65 : decode cX12_generation 65 = .ok (.iconst 1, 1) := by decide +kernel
theorem dX12_generation_66 : decode cX12_generation 66 = .ok (.istore 4, 2) := by decide +kernel
theorem dX12_generation_68 : decode cX12_generation 68 = .ok (.iconst 0, 1) := by decide +kernel
theorem dX12_generation_69 : decode cX12_generation 69 = .ok (.istore 5, 2) := by decide +kernel
theorem dX12_generation_71 : decode cX12_generation 71 = .ok (.iload 5, 2) := by decide +kernel
theorem dX12_generation_73 : decode cX12_generation 73 = .ok (.iload_n 2, 1) := by decide +kernel
theorem dX12_generation_74 : decode cX12_generation 74 = .ok (.if_icmp .ge 139, 3) := by decide +kernel
theorem dX12_generation_77 : decode cX12_generation 77 = .ok (.iload 4, 2) := by decide +kernel
theorem dX12_generation_79 : decode cX12_generation 79 = .ok (.ifCond .eq 134, 3) := by decide +kernel
theorem dX12_generation_82 : decode cX12_generation 82 = .ok (.aload_n 0, 1) := by decide +kernel
theorem dX12_generation_83 : decode cX12_generation 83 = .ok (.getfield 13, 3) := by decide +kernel
theorem dX12_generation_86 : decode cX12_generation 86 = .ok (.iconst 1, 1) := by decide +kernel
theorem dX12_generation_87 : decode cX12_generation 87 = .ok (.iaload, 1) := by decide +kernel
theorem dX12_generation_88 : decode cX12_generation 88 = .ok (.ifCond .le 42, 3) := by decide +kernel
theorem dX12_generation_91 : decode cX12_generation 91 = .ok (.aload_n 0, 1) := by decide +kernel
theorem dX12_generation_92 : decode cX12_generation 92 = .ok (.aload_n 0, 1) := by decide +kernel
theorem dX12_generation_93 : decode cX12_generation 93 = .ok (.getfield 13, 3) := by decide +kernel
theorem dX12_generation_96 : decode cX12_generation 96 = .ok (.iconst 1, 1) := by decide +kernel
theorem dX12_generation_97 : decode cX12_generation 97 = .ok (.iaload, 1) := by decide +kernel
theorem dX12_generation_98 : decode cX12_generation 98 = .ok (.invokevirtual 622, 3) := by decide +kernel
theorem dX12_generation_101 : decode cX12_generation 101 = .ok (.istore 6, 2) := by decide +kernel
theorem dX12_generation_103 : decode cX12_generation 103 = .ok (.iload_n 3, 1) := by decide +kernel
theorem dX12_generation_104 : decode cX12_generation 104 = .ok (.aload_n 0, 1) := by decide +kernel
theorem dX12_generation_105 : decode cX12_generation 105 = .ok (.iload 6, 2) := by decide +kernel
theorem dX12_generation_107 : decode cX12_generation 107 = .ok (.aload_n 0, 1) := by decide +kernel
theorem dX12_generation_108 : decode cX12_generation 108 = .ok (.aload_n 0, 1) := by decide +kernel
theorem dX12_generation_109 : decode cX12_generation 109 = .ok (.getfield 13, 3) := by decide +kernel
theorem dX12_generation_112 : decode cX12_generation 112 = .ok (.iconst 0, 1) := by decide +kernel
theorem dX12_generation_113 : decode cX12_generation 113 = .ok (.iaload, 1) := by decide +kernel
theorem dX12_generation_114 : decode cX12_generation 114 = .ok (.invokevirtual 622, 3) := by decide +kernel
theorem dX12_generation_117 : decode cX12_generation 117 = .ok (.invokevirtual 465, 3) := by decide +kernel
theorem dX12_generation_120 : decode cX12_generation 120 = .ok (.ifCond .ge 7, 3) := by decide +kernel
theorem dX12_generation_123 : decode cX12_generation 123 = .ok (.iconst 0, 1) := by decide +kernel
theorem dX12_generation_124 : decode cX12_generation 124 = .ok (.goto 4, 3) := by decide +kernel
theorem dX12_generation_127 : decode cX12_generation 127 = .ok (.iconst 1, 1) := by decide +kernel
theorem dX12_generation_128 : decode cX12_generation 128 = .ok (.iadd, 1) := by decide +kernel
theorem dX12_generation_129 : decode cX12_generation 129 = .ok (.istore_n 3, 1) := by decide +kernel
theorem dX12_generation_130 : decode cX12_generation 130 = .ok (.aload_n 0, 1) := by decide +kernel
theorem dX12_generation_131 : decode cX12_generation 131 = .ok (.iconst 0, 1) := by decide +kernel
theorem dX12_generation_132 : decode cX12_generation 132 = .ok (.putfield 455, 3) := by decide +kernel
theorem dX12_generation_135 : decode cX12_generation 135 = .ok (.iconst 0, 1) := by decide +kernel
theorem dX12_generation_136 : decode cX12_generation 136 = .ok (.istore 6, 2) := by decide +kernel
theorem dX12_generation_138 : decode cX12_generation 138 = .ok (.iload 6, 2) := by decide +kernel
theorem dX12_generation_140 : decode cX12_generation 140 = .ok (.aload_n 0, 1) := by decide +kernel
theorem dX12_generation_141 : decode cX12_generation 141 = .ok (.getfield 13, 3) := by decide +kernel
theorem dX12_generation_144 : decode cX12_generation 144 = .ok (.iconst 0, 1) := by decide +kernel
theorem dX12_generation_145 : decode cX12_generation 145 = .ok (.iaload, 1) := by decide +kernel
theorem dX12_generation_146 : decode cX12_generation 146 = .ok (.if_icmp .ge 34, 3) := by decide +kernel
theorem dX12_generation_149 : decode cX12_generation 149 = .ok (.aload_n 0, 1) := by decide +kernel
theorem dX12_generation_150 : decode cX12_generation 150 = .ok (.dup, 1) := by decide +kernel
theorem dX12_generation_151 : decode cX12_generation 151 = .ok (.getfield 455, 3) := by decide +kernel
theorem dX12_generation_154 : decode cX12_generation 154 = .ok (.aload_n 0, 1) := by decide +kernel
theorem dX12_generation_155 : decode cX12_generation 155 = .ok (.iconst 3, 1) := by decide +kernel
theorem dX12_generation_156 : decode cX12_generation 156 = .ok (.invokevirtual 622, 3) := by decide +kernel
theorem dX12_generation_159 : decode cX12_generation 159 = .ok (.ifCond .ne 10, 3) := by decide +kernel
theorem dX12_generation_162 : decode cX12_generation 162 = .ok (.iconst 1, 1) := by decide +kernel
theorem dX12_generation_163 : decode cX12_generation 163 = .ok (.iload 6, 2) := by decide +kernel
theorem dX12_generation_165 : decode cX12_generation 165 = .ok (.ishl, 1) := by decide +kernel
theorem dX12_generation_166 : decode cX12_generation 166 = .ok (.goto 4, 3) := by decide +kernel
theorem dX12_generation_169 : decode cX12_generation 169 = .ok (.iconst 0, 1) := by decide +kernel
theorem dX12_generation_170 : decode cX12_generation 170 = .ok (.ior, 1) := by decide +kernel
theorem dX12_generation_171 : decode cX12_generation 171 = .ok (.putfield 455, 3) := by decide +kernel
theorem dX12_generation_174 : decode cX12_generation 174 = .ok (.iinc 6 1, 3) := by decide +kernel
theorem dX12_generation_177 : decode cX12_generation 177 = .ok (.goto (-39), 3) := by decide +kernel
theorem dX12_generation_180 : decode cX12_generation 180 = .ok (.aload_n 0, 1) := by decide +kernel
theorem dX12_generation_181 : decode cX12_generation 181 = .ok (.invokevirtual 210, 3) := by decide +kernel
theorem dX12_generation_184 : decode cX12_generation 184 = .ok (.sipush 999, 3) := by decide +kernel
theorem dX12_generation_187 : decode cX12_generation 187 = .ok (.if_icmp .ge 7, 3) := by decide +kernel
theorem dX12_generation_190 : decode cX12_generation 190 = .ok (.iconst 1, 1) := by decide +kernel
theorem dX12_generation_191 : decode cX12_generation 191 = .ok (.goto 4, 3) := by decide +kernel
theorem dX12_generation_194 : decode cX12_generation 194 = .ok (.iconst 0, 1) := by decide +kernel
theorem dX12_generation_195 : decode cX12_generation 195 = .ok (.istore 4, 2) := by decide +kernel
theorem dX12_generation_197 : decode cX12_generation 197 = .ok (.iload 4, 2) := by decide +kernel
theorem dX12_generation_199 : decode cX12_generation 199 = .ok (.ifCond .eq 8, 3) := by decide +kernel
theorem dX12_generation_202 : decode cX12_generation 202 = .ok (.aload_n 0, 1) := by decide +kernel
theorem dX12_generation_203 : decode cX12_generation 203 = .ok (.invokevirtual 474, 3) := by decide +kernel
theorem dX12_generation_206 : decode cX12_generation 206 = .ok (.pop, 1) := by decide +kernel
theorem dX12_generation_207 : decode cX12_generation 207 = .ok (.iinc 5 1, 3) := by decide +kernel
theorem dX12_generation_210 : decode cX12_generation 210 = .ok (.goto (-139), 3) := by decide +kernel
theorem dX12_generation_213 : decode cX12_generation 213 = .ok (.aload_n 0, 1) := by decide +kernel
theorem dX12_generation_214 : decode cX12_generation 214 = .ok (.aload_n 0, 1) := by decide +kernel
theorem dX12_generation_215 : decode cX12_generation 215 = .ok (.getfield 13, 3) := by decide +kernel
theorem dX12_generation_218 : decode cX12_generation 218 = .ok (.iconst 0, 1) := by decide +kernel
theorem dX12_generation_219 : decode cX12_generation 219 = .ok (.iaload, 1) := by decide +kernel
theorem dX12_generation_220 : decode cX12_generation 220 = .ok (.putfield 625, 3) := by decide +kernel
theorem dX12_generation_223 : decode cX12_generation 223 = .ok (.iconst 0, 1) := by decide +kernel
theorem dX12_generation_224 : decode cX12_generation 224 = .ok (.istore 5, 2) := by decide +kernel
theorem dX12_generation_226 : decode cX12_generation 226 = .ok (.iload 5, 2) := by decide +kernel
theorem dX12_generation_228 : decode cX12_generation 228 = .ok (.aload_n 0, 1) := by decide +kernel
theorem dX12_generation_229 : decode cX12_generation 229 = .ok (.getfield 625, 3) := by decide +kernel
theorem dX12_generation_232 : decode cX12_generation 232 = .ok (.if_icmp .ge 65, 3) := by decide +kernel
theorem dX12_generation_235 : decode cX12_generation 235 = .ok (.iconst 0, 1) := by decide +kernel
theorem dX12_generation_236 : decode cX12_generation 236 = .ok (.istore 6, 2) := by decide +kernel
theorem dX12_generation_238 : decode cX12_generation 238 = .ok (.iload 6, 2) := by decide +kernel
theorem dX12_generation_240 : decode cX12_generation 240 = .ok (.bipush 6, 2) := by decide +kernel
theorem dX12_generation_242 : decode cX12_generation 242 = .ok (.if_icmp .ge 30, 3) := by decide +kernel
theorem dX12_generation_245 : decode cX12_generation 245 = .ok (.aload_n 0, 1) := by decide +kernel
theorem dX12_generation_246 : decode cX12_generation 246 = .ok (.getfield 163, 3) := by decide +kernel
theorem dX12_generation_249 : decode cX12_generation 249 = .ok (.bipush 7, 2) := by decide +kernel
theorem dX12_generation_251 : decode cX12_generation 251 = .ok (.iload 5, 2) := by decide +kernel
theorem dX12_generation_253 : decode cX12_generation 253 = .ok (.imul, 1) := by decide +kernel
theorem dX12_generation_254 : decode cX12_generation 254 = .ok (.iload 6, 2) := by decide +kernel
theorem dX12_generation_256 : decode cX12_generation 256 = .ok (.iadd, 1) := by decide +kernel
theorem dX12_generation_257 : decode cX12_generation 257 = .ok (.aload_n 0, 1) := by decide +kernel
theorem dX12_generation_258 : decode cX12_generation 258 = .ok (.iload 5, 2) := by decide +kernel
theorem dX12_generation_260 : decode cX12_generation 260 = .ok (.iload 6, 2) := by decide +kernel
theorem dX12_generation_262 : decode cX12_generation 262 = .ok (.invokevirtual 204, 3) := by decide +kernel
theorem dX12_generation_265 : decode cX12_generation 265 = .ok (.iastore, 1) := by decide +kernel
theorem dX12_generation_266 : decode cX12_generation 266 = .ok (.iinc 6 1, 3) := by decide +kernel
theorem dX12_generation_269 : decode cX12_generation 269 = .ok (.goto (-31), 3) := by decide +kernel
theorem dX12_generation_272 : decode cX12_generation 272 = .ok (.aload_n 0, 1) := by decide +kernel
theorem dX12_generation_273 : decode cX12_generation 273 = .ok (.getfield 163, 3) := by decide +kernel
theorem dX12_generation_276 : decode cX12_generation 276 = .ok (.bipush 7, 2) := by decide +kernel
theorem dX12_generation_278 : decode cX12_generation 278 = .ok (.iload 5, 2) := by decide +kernel
theorem dX12_generation_280 : decode cX12_generation 280 = .ok (.imul, 1) := by decide +kernel
theorem dX12_generation_281 : decode cX12_generation 281 = .ok (.bipush 6, 2) := by decide +kernel
theorem dX12_generation_283 : decode cX12_generation 283 = .ok (.iadd, 1) := by decide +kernel
theorem dX12_generation_284 : decode cX12_generation 284 = .ok (.aload_n 0, 1) := by decide +kernel
theorem dX12_generation_285 : decode cX12_generation 285 = .ok (.iload 5, 2) := by decide +kernel
theorem dX12_generation_287 : decode cX12_generation 287 = .ok (.invokevirtual 207, 3) := by decide +kernel
theorem dX12_generation_290 : decode cX12_generation 290 = .ok (.iastore, 1) := by decide +kernel
theorem dX12_generation_291 : decode cX12_generation 291 = .ok (.iinc 5 1, 3) := by decide +kernel
theorem dX12_generation_294 : decode cX12_generation 294 = .ok (.goto (-68), 3) := by decide +kernel
theorem dX12_generation_297 : decode cX12_generation 297 = .ok (.aload_n 0, 1) := by decide +kernel
theorem dX12_generation_298 : decode cX12_generation 298 = .ok (.bipush 16, 2) := by decide +kernel
theorem dX12_generation_300 : decode cX12_generation 300 = .ok (.invokevirtual 471, 3) := by decide +kernel
theorem dX12_generation_303 : decode cX12_generation 303 = .ok (.aload_n 0, 1) := by decide +kernel
theorem dX12_generation_304 : decode cX12_generation 304 = .ok (.iload_n 3, 1) := by decide +kernel
theorem dX12_generation_305 : decode cX12_generation 305 = .ok (.invokevirtual 175, 3) := by decide +kernel
theorem dX12_generation_308 : decode cX12_generation 308 = .ok (.ireturn, 1) := by decide +kernel
theorem dX12_giveNow_0 : decode cX12_giveNow 0 = .ok (.aload_n 0, 1) := by decide +kernel
theorem dX12_giveNow_1 : decode cX12_giveNow 1 = .ok (.bipush 16, 2) := by decide +kernel
theorem dX12_giveNow_3 : decode cX12_giveNow 3 = .ok (.invokevirtual 462, 3) := by decide +kernel
theorem dX12_giveNow_6 : decode cX12_giveNow 6 = .ok (.aload_n 0, 1) := by decide +kernel
theorem dX12_giveNow_7 : decode cX12_giveNow 7 = .ok (.iload_n 1, 1) := by decide +kernel
theorem dX12_giveNow_8 : decode cX12_giveNow 8 = .ok (.iload_n 2, 1) := by decide +kernel
theorem dX12_giveNow_9 : decode cX12_giveNow 9 = .ok (.invokevirtual 465, 3) := by decide +kernel
theorem dX12_giveNow_12 : decode cX12_giveNow 12 = .ok (.istore_n 3, 1) := by decide +kernel
theorem dX12_giveNow_13 : decode cX12_giveNow 13 = .ok (.iload_n 3, 1) := by decide +kernel
theorem dX12_giveNow_14 : decode cX12_giveNow 14 = .ok (.ifCond .lt 71, 3) := by decide +kernel
theorem dX12_giveNow_17 : decode cX12_giveNow 17 = .ok (.iconst 0, 1) := by decide +kernel
theorem dX12_giveNow_18 : decode cX12_giveNow 18 = .ok (.istore 4, 2) := by decide +kernel
theorem dX12_giveNow_20 : decode cX12_giveNow 20 = .ok (.iload 4, 2) := by decide +kernel
theorem dX12_giveNow_22 : decode cX12_giveNow 22 = .ok (.sipush 270, 3) := by decide +kernel
theorem dX12_giveNow_25 : decode cX12_giveNow 25 = .ok (.if_icmp .ge 49, 3) := by decide +kernel
theorem dX12_giveNow_28 : decode cX12_giveNow 28 = .ok (.aload_n 0, 1) := by decide +kernel
theorem dX12_giveNow_29 : decode cX12_giveNow 29 = .ok (.getfield 13, 3) := by decide +kernel
theorem dX12_giveNow_32 : decode cX12_giveNow 32 = .ok (.iload 4, 2) := by decide +kernel
theorem dX12_giveNow_34 : decode cX12_giveNow 34 = .ok (.iaload, 1) := by decide +kernel
theorem dX12_giveNow_35 : decode cX12_giveNow 35 = .ok (.istore 5, 2) := by decide +kernel
theorem dX12_giveNow_37 : decode cX12_giveNow 37 = .ok (.aload_n 0, 1) := by decide +kernel
theorem dX12_giveNow_38 : decode cX12_giveNow 38 = .ok (.getfield 13, 3) := by decide +kernel
theorem dX12_giveNow_41 : decode cX12_giveNow 41 = .ok (.iload 4, 2) := by decide +kernel
theorem dX12_giveNow_43 : decode cX12_giveNow 43 = .ok (.aload_n 0, 1) := by decide +kernel
theorem dX12_giveNow_44 : decode cX12_giveNow 44 = .ok (.getfield 23, 3) := by decide +kernel
theorem dX12_giveNow_47 : decode cX12_giveNow 47 = .ok (.sipush 4320, 3) := by decide +kernel
theorem dX12_giveNow_50 : decode cX12_giveNow 50 = .ok (.iload 4, 2) := by decide +kernel
theorem dX12_giveNow_52 : decode cX12_giveNow 52 = .ok (.iadd, 1) := by decide +kernel
theorem dX12_giveNow_53 : decode cX12_giveNow 53 = .ok (.iaload, 1) := by decide +kernel
theorem dX12_giveNow_54 : decode cX12_giveNow 54 = .ok (.iastore, 1) := by decide +kernel
theorem dX12_giveNow_55 : decode cX12_giveNow 55 = .ok (.aload_n 0, 1) := by decide +kernel
theorem dX12_giveNow_56 : decode cX12_giveNow 56 = .ok (.getfield 23, 3) := by decide +kernel
theorem dX12_giveNow_59 : decode cX12_giveNow 59 = .ok (.sipush 4320, 3) := by decide +kernel
theorem dX12_giveNow_62 : decode cX12_giveNow 62 = .ok (.iload 4, 2) := by decide +kernel
theorem dX12_giveNow_64 : decode cX12_giveNow 64 = .ok (.iadd, 1) := by decide +kernel
theorem dX12_giveNow_65 : decode cX12_giveNow 65 = .ok (.iload 5, 2) := by decide +kernel
theorem dX12_giveNow_67 : decode cX12_giveNow 67 = .ok (.iastore, 1) := by decide +kernel
theorem dX12_giveNow_68 : decode cX12_giveNow 68 = .ok (.iinc 4 1, 3) := by decide +kernel
theorem dX12_giveNow_71 : decode cX12_giveNow 71 = .ok (.goto (-51), 3) := by decide +kernel
theorem dX12_giveNow_74 : decode cX12_giveNow 74 = .ok (.aload_n 0, 1) := by decide +kernel
theorem dX12_giveNow_75 : decode cX12_giveNow 75 = .ok (.iconst 0, 1) := by decide +kernel
theorem dX12_giveNow_76 : decode cX12_giveNow 76 = .ok (.invokevirtual 468, 3) := by decide +kernel
theorem dX12_giveNow_79 : decode cX12_giveNow 79 = .ok (.aload_n 0, 1) := by decide +kernel
theorem dX12_giveNow_80 : decode cX12_giveNow 80 = .ok (.bipush 16, 2) := by decide +kernel
theorem dX12_giveNow_82 : decode cX12_giveNow 82 = .ok (.invokevirtual 471, 3) := by decide +kernel
theorem dX12_giveNow_85 : decode cX12_giveNow 85 = .ok (.iload_n 3, 1) := by decide +kernel
theorem dX12_giveNow_86 : decode cX12_giveNow 86 = .ok (.ireturn, 1) := by decide +kernel
theorem dX12_give_0 : decode cX12_give 0 = .ok (.aload_n 0, 1) := by decide +kernel
theorem dX12_give_1 : decode cX12_give 1 = .ok (.iconst 0, 1) := by decide +kernel
theorem dX12_give_2 : decode cX12_give 2 = .ok (.putfield 166, 3) := by decide +kernel
theorem dX12_give_5 : decode cX12_give 5 = .ok (.aload_n 0, 1) := by decide +kernel
theorem dX12_give_6 : decode cX12_give 6 = .ok (.aload_n 0, 1) := by decide +kernel
theorem dX12_give_7 : decode cX12_give 7 = .ok (.iload_n 1, 1) := by decide +kernel
theorem dX12_give_8 : decode cX12_give 8 = .ok (.invokevirtual 225, 3) := by decide +kernel
theorem dX12_give_11 : decode cX12_give 11 = .ok (.ifCond .eq 20, 3) := by decide +kernel
theorem dX12_give_14 : decode cX12_give 14 = .ok (.aload_n 0, 1) := by decide +kernel
theorem dX12_give_15 : decode cX12_give 15 = .ok (.iload_n 2, 1) := by decide +kernel
theorem dX12_give_16 : decode cX12_give 16 = .ok (.invokevirtual 198, 3) := by decide +kernel
theorem dX12_give_19 : decode cX12_give 19 = .ok (.ifCond .eq 12, 3) := by decide +kernel
theorem dX12_give_22 : decode cX12_give 22 = .ok (.aload_n 0, 1) := by decide +kernel
theorem dX12_give_23 : decode cX12_give 23 = .ok (.iload_n 1, 1) := by decide +kernel
theorem dX12_give_24 : decode cX12_give 24 = .ok (.iload_n 2, 1) := by decide +kernel
theorem dX12_give_25 : decode cX12_give 25 = .ok (.invokevirtual 477, 3) := by decide +kernel
theorem dX12_give_28 : decode cX12_give 28 = .ok (.goto 5, 3) := by decide +kernel
theorem dX12_give_31 : decode cX12_give 31 = .ok (.bipush (-2), 2) := by decide +kernel
theorem dX12_give_33 : decode cX12_give 33 = .ok (.invokevirtual 175, 3) := by decide +kernel
theorem dX12_give_36 : decode cX12_give 36 = .ok (.ireturn, 1) := by decide +kernel
theorem dX12_good1_0 : decode cX12_good1 0 = .ok (.iload_n 2, 1) := by decide +kernel
theorem dX12_good1_1 : decode cX12_good1 1 = .ok (.i2l, 1) := by decide +kernel
theorem dX12_good1_2 : decode cX12_good1 2 = .ok (.lconst 0, 1) := by decide +kernel
theorem dX12_good1_3 : decode cX12_good1 3 = .ok (.ldc2_w 188, 3) := by decide +kernel
theorem dX12_good1_6 : decode cX12_good1 6 = .ok (.invokestatic 179, 3) := by decide +kernel
theorem dX12_good1_9 : decode cX12_good1 9 = .ok (.ifCond .eq 15, 3) := by decide +kernel
theorem dX12_good1_12 : decode cX12_good1 12 = .ok (.iload_n 3, 1) := by decide +kernel
theorem dX12_good1_13 : decode cX12_good1 13 = .ok (.i2l, 1) := by decide +kernel
theorem dX12_good1_14 : decode cX12_good1 14 = .ok (.lconst 0, 1) := by decide +kernel
theorem dX12_good1_15 : decode cX12_good1 15 = .ok (.ldc2_w 220, 3) := by decide +kernel
theorem dX12_good1_18 : decode cX12_good1 18 = .ok (.invokestatic 179, 3) := by decide +kernel
theorem dX12_good1_21 : decode cX12_good1 21 = .ok (.ifCond .ne 5, 3) := by decide +kernel
theorem dX12_good1_24 : decode cX12_good1 24 = .ok (.iconst (-1), 1) := by decide +kernel
theorem dX12_good1_25 : decode cX12_good1 25 = .ok (.ireturn, 1) := by decide +kernel
theorem dX12_good1_26 : decode cX12_good1 26 = .ok (.aload_n 0, 1) := by decide +kernel
theorem dX12_good1_27 : decode cX12_good1 27 = .ok (.iload_n 1, 1) := by decide +kernel
theorem dX12_good1_28 : decode cX12_good1 28 = .ok (.invokevirtual 198, 3) := by decide +kernel
theorem dX12_good1_31 : decode cX12_good1 31 = .ok (.ifCond .ne 6, 3) := by decide +kernel
theorem dX12_good1_34 : decode cX12_good1 34 = .ok (.bipush (-2), 2) := by decide +kernel
theorem dX12_good1_36 : decode cX12_good1 36 = .ok (.ireturn, 1) := by decide +kernel
theorem dX12_good1_37 : decode cX12_good1 37 = .ok (.aload_n 0, 1) := by decide +kernel
theorem dX12_good1_38 : decode cX12_good1 38 = .ok (.getfield 13, 3) := by decide +kernel
theorem dX12_good1_41 : decode cX12_good1 41 = .ok (.iconst 1, 1) := by decide +kernel
theorem dX12_good1_42 : decode cX12_good1 42 = .ok (.iaload, 1) := by decide +kernel
theorem dX12_good1_43 : decode cX12_good1 43 = .ok (.istore 4, 2) := by decide +kernel
theorem dX12_good1_45 : decode cX12_good1 45 = .ok (.iload 4, 2) := by decide +kernel
theorem dX12_good1_47 : decode cX12_good1 47 = .ok (.bipush 16, 2) := by decide +kernel
theorem dX12_good1_49 : decode cX12_good1 49 = .ok (.if_icmp .ne 6, 3) := by decide +kernel
theorem dX12_good1_52 : decode cX12_good1 52 = .ok (.bipush (-5), 2) := by decide +kernel
theorem dX12_good1_54 : decode cX12_good1 54 = .ok (.ireturn, 1) := by decide +kernel
theorem dX12_good1_55 : decode cX12_good1 55 = .ok (.bipush 45, 2) := by decide +kernel
theorem dX12_good1_57 : decode cX12_good1 57 = .ok (.bipush 6, 2) := by decide +kernel
theorem dX12_good1_59 : decode cX12_good1 59 = .ok (.iload 4, 2) := by decide +kernel
theorem dX12_good1_61 : decode cX12_good1 61 = .ok (.imul, 1) := by decide +kernel
theorem dX12_good1_62 : decode cX12_good1 62 = .ok (.iadd, 1) := by decide +kernel
theorem dX12_good1_63 : decode cX12_good1 63 = .ok (.istore 5, 2) := by decide +kernel
theorem dX12_good1_65 : decode cX12_good1 65 = .ok (.aload_n 0, 1) := by decide +kernel
theorem dX12_good1_66 : decode cX12_good1 66 = .ok (.getfield 13, 3) := by decide +kernel
theorem dX12_good1_69 : decode cX12_good1 69 = .ok (.iload 5, 2) := by decide +kernel
theorem dX12_good1_71 : decode cX12_good1 71 = .ok (.iload_n 1, 1) := by decide +kernel
theorem dX12_good1_72 : decode cX12_good1 72 = .ok (.iastore, 1) := by decide +kernel
theorem dX12_good1_73 : decode cX12_good1 73 = .ok (.aload_n 0, 1) := by decide +kernel
theorem dX12_good1_74 : decode cX12_good1 74 = .ok (.getfield 13, 3) := by decide +kernel
theorem dX12_good1_77 : decode cX12_good1 77 = .ok (.iload 5, 2) := by decide +kernel
theorem dX12_good1_79 : decode cX12_good1 79 = .ok (.iconst 1, 1) := by decide +kernel
theorem dX12_good1_80 : decode cX12_good1 80 = .ok (.iadd, 1) := by decide +kernel
theorem dX12_good1_81 : decode cX12_good1 81 = .ok (.iload_n 1, 1) := by decide +kernel
theorem dX12_good1_82 : decode cX12_good1 82 = .ok (.iastore, 1) := by decide +kernel
theorem dX12_good1_83 : decode cX12_good1 83 = .ok (.aload_n 0, 1) := by decide +kernel
theorem dX12_good1_84 : decode cX12_good1 84 = .ok (.getfield 13, 3) := by decide +kernel
theorem dX12_good1_87 : decode cX12_good1 87 = .ok (.iload 5, 2) := by decide +kernel
theorem dX12_good1_89 : decode cX12_good1 89 = .ok (.iconst 2, 1) := by decide +kernel
theorem dX12_good1_90 : decode cX12_good1 90 = .ok (.iadd, 1) := by decide +kernel
theorem dX12_good1_91 : decode cX12_good1 91 = .ok (.iload_n 2, 1) := by decide +kernel
theorem dX12_good1_92 : decode cX12_good1 92 = .ok (.iastore, 1) := by decide +kernel
theorem dX12_good1_93 : decode cX12_good1 93 = .ok (.aload_n 0, 1) := by decide +kernel
theorem dX12_good1_94 : decode cX12_good1 94 = .ok (.getfield 13, 3) := by decide +kernel
theorem dX12_good1_97 : decode cX12_good1 97 = .ok (.iload 5, 2) := by decide +kernel
theorem dX12_good1_99 : decode cX12_good1 99 = .ok (.iconst 3, 1) := by decide +kernel
theorem dX12_good1_100 : decode cX12_good1 100 = .ok (.iadd, 1) := by decide +kernel
theorem dX12_good1_101 : decode cX12_good1 101 = .ok (.iload_n 3, 1) := by decide +kernel
theorem dX12_good1_102 : decode cX12_good1 102 = .ok (.iastore, 1) := by decide +kernel
theorem dX12_good1_103 : decode cX12_good1 103 = .ok (.aload_n 0, 1) := by decide +kernel
theorem dX12_good1_104 : decode cX12_good1 104 = .ok (.getfield 13, 3) := by decide +kernel
theorem dX12_good1_107 : decode cX12_good1 107 = .ok (.iload 5, 2) := by decide +kernel
theorem dX12_good1_109 : decode cX12_good1 109 = .ok (.iconst 4, 1) := by decide +kernel
theorem dX12_good1_110 : decode cX12_good1 110 = .ok (.iadd, 1) := by decide +kernel
theorem dX12_good1_111 : decode cX12_good1 111 = .ok (.iconst 0, 1) := by decide +kernel
theorem dX12_good1_112 : decode cX12_good1 112 = .ok (.iastore, 1) := by decide +kernel
theorem dX12_good1_113 : decode cX12_good1 113 = .ok (.aload_n 0, 1) := by decide +kernel
theorem dX12_good1_114 : decode cX12_good1 114 = .ok (.getfield 13, 3) := by decide +kernel
theorem dX12_good1_117 : decode cX12_good1 117 = .ok (.iload 5, 2) := by decide +kernel
theorem dX12_good1_119 : decode cX12_good1 119 = .ok (.iconst 5, 1) := by decide +kernel
theorem dX12_good1_120 : decode cX12_good1 120 = .ok (.iadd, 1) := by decide +kernel
theorem dX12_good1_121 : decode cX12_good1 121 = .ok (.iconst (-1), 1) := by decide +kernel
theorem dX12_good1_122 : decode cX12_good1 122 = .ok (.iastore, 1) := by decide +kernel
theorem dX12_good1_123 : decode cX12_good1 123 = .ok (.aload_n 0, 1) := by decide +kernel
theorem dX12_good1_124 : decode cX12_good1 124 = .ok (.getfield 13, 3) := by decide +kernel
theorem dX12_good1_127 : decode cX12_good1 127 = .ok (.iconst 1, 1) := by decide +kernel
theorem dX12_good1_128 : decode cX12_good1 128 = .ok (.dup2, 1) := by decide +kernel
theorem dX12_good1_129 : decode cX12_good1 129 = .ok (.iaload, 1) := by decide +kernel
theorem dX12_good1_130 : decode cX12_good1 130 = .ok (.iconst 1, 1) := by decide +kernel
theorem dX12_good1_131 : decode cX12_good1 131 = .ok (.iadd, 1) := by decide +kernel
theorem dX12_good1_132 : decode cX12_good1 132 = .ok (.iastore, 1) := by decide +kernel
theorem dX12_good1_133 : decode cX12_good1 133 = .ok (.iload 4, 2) := by decide +kernel
theorem dX12_good1_135 : decode cX12_good1 135 = .ok (.ireturn, 1) := by decide +kernel
theorem dX12_good_0 : decode cX12_good 0 = .ok (.aload_n 0, 1) := by decide +kernel
theorem dX12_good_1 : decode cX12_good 1 = .ok (.iconst 0, 1) := by decide +kernel
theorem dX12_good_2 : decode cX12_good 2 = .ok (.putfield 166, 3) := by decide +kernel
theorem dX12_good_5 : decode cX12_good 5 = .ok (.aload_n 0, 1) := by decide +kernel
theorem dX12_good_6 : decode cX12_good 6 = .ok (.aload_n 0, 1) := by decide +kernel
theorem dX12_good_7 : decode cX12_good 7 = .ok (.iload_n 1, 1) := by decide +kernel
theorem dX12_good_8 : decode cX12_good 8 = .ok (.iload_n 2, 1) := by decide +kernel
theorem dX12_good_9 : decode cX12_good 9 = .ok (.iload_n 3, 1) := by decide +kernel
theorem dX12_good_10 : decode cX12_good 10 = .ok (.invokevirtual 222, 3) := by decide +kernel
theorem dX12_good_13 : decode cX12_good 13 = .ok (.invokevirtual 183, 3) := by decide +kernel
theorem dX12_good_16 : decode cX12_good 16 = .ok (.ireturn, 1) := by decide +kernel
theorem dX12_herald_0 : decode cX12_herald 0 = .ok (.aload_n 0, 1) := by decide +kernel
theorem dX12_herald_1 : decode cX12_herald 1 = .ok (.iconst 0, 1) := by decide +kernel
theorem dX12_herald_2 : decode cX12_herald 2 = .ok (.putfield 166, 3) := by decide +kernel
theorem dX12_herald_5 : decode cX12_herald 5 = .ok (.iload_n 1, 1) := by decide +kernel
theorem dX12_herald_6 : decode cX12_herald 6 = .ok (.i2l, 1) := by decide +kernel
theorem dX12_herald_7 : decode cX12_herald 7 = .ok (.lconst 1, 1) := by decide +kernel
theorem dX12_herald_8 : decode cX12_herald 8 = .ok (.ldc2_w 234, 3) := by decide +kernel
theorem dX12_herald_11 : decode cX12_herald 11 = .ok (.invokestatic 179, 3) := by decide +kernel
theorem dX12_herald_14 : decode cX12_herald 14 = .ok (.ifCond .ne 9, 3) := by decide +kernel
theorem dX12_herald_17 : decode cX12_herald 17 = .ok (.aload_n 0, 1) := by decide +kernel
theorem dX12_herald_18 : decode cX12_herald 18 = .ok (.iconst (-1), 1) := by decide +kernel
theorem dX12_herald_19 : decode cX12_herald 19 = .ok (.invokevirtual 175, 3) := by decide +kernel
theorem dX12_herald_22 : decode cX12_herald 22 = .ok (.ireturn, 1) := by decide +kernel
theorem dX12_herald_23 : decode cX12_herald 23 = .ok (.aload_n 0, 1) := by decide +kernel
theorem dX12_herald_24 : decode cX12_herald 24 = .ok (.getfield 13, 3) := by decide +kernel
theorem dX12_herald_27 : decode cX12_herald 27 = .ok (.iconst 2, 1) := by decide +kernel
theorem dX12_herald_28 : decode cX12_herald 28 = .ok (.iaload, 1) := by decide +kernel
theorem dX12_herald_29 : decode cX12_herald 29 = .ok (.istore_n 2, 1) := by decide +kernel
theorem dX12_herald_30 : decode cX12_herald 30 = .ok (.iload_n 2, 1) := by decide +kernel
theorem dX12_herald_31 : decode cX12_herald 31 = .ok (.iconst 5, 1) := by decide +kernel
theorem dX12_herald_32 : decode cX12_herald 32 = .ok (.if_icmp .ne 10, 3) := by decide +kernel
theorem dX12_herald_35 : decode cX12_herald 35 = .ok (.aload_n 0, 1) := by decide +kernel
theorem dX12_herald_36 : decode cX12_herald 36 = .ok (.bipush (-5), 2) := by decide +kernel
theorem dX12_herald_38 : decode cX12_herald 38 = .ok (.invokevirtual 175, 3) := by decide +kernel
theorem dX12_herald_41 : decode cX12_herald 41 = .ok (.ireturn, 1) := by decide +kernel
theorem dX12_herald_42 : decode cX12_herald 42 = .ok (.aload_n 0, 1) := by decide +kernel
theorem dX12_herald_43 : decode cX12_herald 43 = .ok (.getfield 13, 3) := by decide +kernel
theorem dX12_herald_46 : decode cX12_herald 46 = .ok (.sipush 213, 3) := by decide +kernel
theorem dX12_herald_49 : decode cX12_herald 49 = .ok (.iload_n 2, 1) := by decide +kernel
theorem dX12_herald_50 : decode cX12_herald 50 = .ok (.iadd, 1) := by decide +kernel
theorem dX12_herald_51 : decode cX12_herald 51 = .ok (.iload_n 1, 1) := by decide +kernel
theorem dX12_herald_52 : decode cX12_herald 52 = .ok (.iastore, 1) := by decide +kernel
theorem dX12_herald_53 : decode cX12_herald 53 = .ok (.aload_n 0, 1) := by decide +kernel
theorem dX12_herald_54 : decode cX12_herald 54 = .ok (.getfield 13, 3) := by decide +kernel
theorem dX12_herald_57 : decode cX12_herald 57 = .ok (.iconst 2, 1) := by decide +kernel
theorem dX12_herald_58 : decode cX12_herald 58 = .ok (.dup2, 1) := by decide +kernel
theorem dX12_herald_59 : decode cX12_herald 59 = .ok (.iaload, 1) := by decide +kernel
theorem dX12_herald_60 : decode cX12_herald 60 = .ok (.iconst 1, 1) := by decide +kernel
theorem dX12_herald_61 : decode cX12_herald 61 = .ok (.iadd, 1) := by decide +kernel
theorem dX12_herald_62 : decode cX12_herald 62 = .ok (.iastore, 1) := by decide +kernel
theorem dX12_herald_63 : decode cX12_herald 63 = .ok (.aload_n 0, 1) := by decide +kernel
theorem dX12_herald_64 : decode cX12_herald 64 = .ok (.iload_n 2, 1) := by decide +kernel
theorem dX12_herald_65 : decode cX12_herald 65 = .ok (.invokevirtual 175, 3) := by decide +kernel
theorem dX12_herald_68 : decode cX12_herald 68 = .ok (.ireturn, 1) := by decide +kernel
theorem dX12_image_0 : decode cX12_image 0 = .ok (.aload_n 0, 1) := by decide +kernel
theorem dX12_image_1 : decode cX12_image 1 = .ok (.iconst 0, 1) := by decide +kernel
theorem dX12_image_2 : decode cX12_image 2 = .ok (.putfield 166, 3) := by decide +kernel
theorem dX12_image_5 : decode cX12_image 5 = .ok (.iload_n 1, 1) := by decide +kernel
theorem dX12_image_6 : decode cX12_image 6 = .ok (.i2l, 1) := by decide +kernel
theorem dX12_image_7 : decode cX12_image 7 = .ok (.lconst 0, 1) := by decide +kernel
theorem dX12_image_8 : decode cX12_image 8 = .ok (.lconst 1, 1) := by decide +kernel
theorem dX12_image_9 : decode cX12_image 9 = .ok (.invokestatic 179, 3) := by decide +kernel
theorem dX12_image_12 : decode cX12_image 12 = .ok (.ifCond .ne 9, 3) := by decide +kernel
theorem dX12_image_15 : decode cX12_image 15 = .ok (.aload_n 0, 1) := by decide +kernel
theorem dX12_image_16 : decode cX12_image 16 = .ok (.iconst (-1), 1) := by decide +kernel
theorem dX12_image_17 : decode cX12_image 17 = .ok (.invokevirtual 175, 3) := by decide +kernel
theorem dX12_image_20 : decode cX12_image 20 = .ok (.ireturn, 1) := by decide +kernel
theorem dX12_image_21 : decode cX12_image 21 = .ok (.iconst 0, 1) := by decide +kernel
theorem dX12_image_22 : decode cX12_image 22 = .ok (.istore_n 2, 1) := by decide +kernel
theorem dX12_image_23 : decode cX12_image 23 = .ok (.iload_n 2, 1) := by decide +kernel
theorem dX12_image_24 : decode cX12_image 24 = .ok (.sipush 5670, 3) := by decide +kernel
theorem dX12_image_27 : decode cX12_image 27 = .ok (.if_icmp .ge 27, 3) := by decide +kernel
theorem dX12_image_30 : decode cX12_image 30 = .ok (.aload_n 0, 1) := by decide +kernel
theorem dX12_image_31 : decode cX12_image 31 = .ok (.getfield 16, 3) := by decide +kernel
theorem dX12_image_34 : decode cX12_image 34 = .ok (.sipush 5670, 3) := by decide +kernel
theorem dX12_image_37 : decode cX12_image 37 = .ok (.iload_n 1, 1) := by decide +kernel
theorem dX12_image_38 : decode cX12_image 38 = .ok (.imul, 1) := by decide +kernel
theorem dX12_image_39 : decode cX12_image 39 = .ok (.iload_n 2, 1) := by decide +kernel
theorem dX12_image_40 : decode cX12_image 40 = .ok (.iadd, 1) := by decide +kernel
theorem dX12_image_41 : decode cX12_image 41 = .ok (.aload_n 0, 1) := by decide +kernel
theorem dX12_image_42 : decode cX12_image 42 = .ok (.getfield 13, 3) := by decide +kernel
theorem dX12_image_45 : decode cX12_image 45 = .ok (.iload_n 2, 1) := by decide +kernel
theorem dX12_image_46 : decode cX12_image 46 = .ok (.iaload, 1) := by decide +kernel
theorem dX12_image_47 : decode cX12_image 47 = .ok (.iastore, 1) := by decide +kernel
theorem dX12_image_48 : decode cX12_image 48 = .ok (.iinc 2 1, 3) := by decide +kernel
theorem dX12_image_51 : decode cX12_image 51 = .ok (.goto (-28), 3) := by decide +kernel
theorem dX12_image_54 : decode cX12_image 54 = .ok (.aload_n 0, 1) := by decide +kernel
theorem dX12_image_55 : decode cX12_image 55 = .ok (.getfield 19, 3) := by decide +kernel
theorem dX12_image_58 : decode cX12_image 58 = .ok (.iload_n 1, 1) := by decide +kernel
theorem dX12_image_59 : decode cX12_image 59 = .ok (.iconst 1, 1) := by decide +kernel
theorem dX12_image_60 : decode cX12_image 60 = .ok (.bastore, 1) := by decide +kernel
theorem dX12_image_61 : decode cX12_image 61 = .ok (.aload_n 0, 1) := by decide +kernel
theorem dX12_image_62 : decode cX12_image 62 = .ok (.iconst 0, 1) := by decide +kernel
theorem dX12_image_63 : decode cX12_image 63 = .ok (.invokevirtual 175, 3) := by decide +kernel
theorem dX12_image_66 : decode cX12_image 66 = .ok (.ireturn, 1) := by decide +kernel
theorem dX12_leaf_0 : decode cX12_leaf 0 = .ok (.aload_n 0, 1) := by decide +kernel
theorem dX12_leaf_1 : decode cX12_leaf 1 = .ok (.iload_n 1, 1) := by decide +kernel
theorem dX12_leaf_2 : decode cX12_leaf 2 = .ok (.ifCond .eq 16, 3) := by decide +kernel
theorem dX12_leaf_5 : decode cX12_leaf 5 = .ok (.aload_n 0, 1) := by decide +kernel
theorem dX12_leaf_6 : decode cX12_leaf 6 = .ok (.getfield 317, 3) := by decide +kernel
theorem dX12_leaf_9 : decode cX12_leaf 9 = .ok (.bipush 50, 2) := by decide +kernel
theorem dX12_leaf_11 : decode cX12_leaf 11 = .ok (.if_icmp .ge 7, 3) := by decide +kernel
theorem dX12_leaf_14 : decode cX12_leaf 14 = .ok (.iconst 1, 1) := by decide +kernel
theorem dX12_leaf_15 : decode cX12_leaf 15 = .ok (.goto 4, 3) := by decide +kernel
theorem dX12_leaf_18 : decode cX12_leaf 18 = .ok (.iconst 0, 1) := by decide +kernel
theorem dX12_leaf_19 : decode cX12_leaf 19 = .ok (.invokevirtual 284, 3) := by decide +kernel
theorem dX12_leaf_22 : decode cX12_leaf 22 = .ok (.aload_n 0, 1) := by decide +kernel
theorem dX12_leaf_23 : decode cX12_leaf 23 = .ok (.getfield 249, 3) := by decide +kernel
theorem dX12_leaf_26 : decode cX12_leaf 26 = .ok (.ifCond .ne 19, 3) := by decide +kernel
theorem dX12_leaf_29 : decode cX12_leaf 29 = .ok (.aload_n 0, 1) := by decide +kernel
theorem dX12_leaf_30 : decode cX12_leaf 30 = .ok (.iload_n 2, 1) := by decide +kernel
theorem dX12_leaf_31 : decode cX12_leaf 31 = .ok (.iload_n 3, 1) := by decide +kernel
theorem dX12_leaf_32 : decode cX12_leaf 32 = .ok (.invokevirtual 297, 3) := by decide +kernel
theorem dX12_leaf_35 : decode cX12_leaf 35 = .ok (.aload_n 0, 1) := by decide +kernel
theorem dX12_leaf_36 : decode cX12_leaf 36 = .ok (.dup, 1) := by decide +kernel
theorem dX12_leaf_37 : decode cX12_leaf 37 = .ok (.getfield 317, 3) := by decide +kernel
theorem dX12_leaf_40 : decode cX12_leaf 40 = .ok (.iconst 1, 1) := by decide +kernel
theorem dX12_leaf_41 : decode cX12_leaf 41 = .ok (.iadd, 1) := by decide +kernel
theorem dX12_leaf_42 : decode cX12_leaf 42 = .ok (.putfield 317, 3) := by decide +kernel
theorem dX12_leaf_45 : decode cX12_leaf 45 = .ok (.return_, 1) := by decide +kernel
theorem dX12_number_0 : decode cX12_number 0 = .ok (.aload_n 0, 1) := by decide +kernel
theorem dX12_number_1 : decode cX12_number 1 = .ok (.getfield 259, 3) := by decide +kernel
theorem dX12_number_4 : decode cX12_number 4 = .ok (.l2i, 1) := by decide +kernel
theorem dX12_number_5 : decode cX12_number 5 = .ok (.istore 5, 2) := by decide +kernel
theorem dX12_number_7 : decode cX12_number 7 = .ok (.aload_n 0, 1) := by decide +kernel
theorem dX12_number_8 : decode cX12_number 8 = .ok (.aload_n 0, 1) := by decide +kernel
theorem dX12_number_9 : decode cX12_number 9 = .ok (.getfield 269, 3) := by decide +kernel
theorem dX12_number_12 : decode cX12_number 12 = .ok (.iconst 2, 1) := by decide +kernel
theorem dX12_number_13 : decode cX12_number 13 = .ok (.if_icmp .ne 19, 3) := by decide +kernel
theorem dX12_number_16 : decode cX12_number 16 = .ok (.aload_n 0, 1) := by decide +kernel
theorem dX12_number_17 : decode cX12_number 17 = .ok (.getfield 259, 3) := by decide +kernel
theorem dX12_number_20 : decode cX12_number 20 = .ok (.lload_n 1, 1) := by decide +kernel
theorem dX12_number_21 : decode cX12_number 21 = .ok (.lload_n 3, 1) := by decide +kernel
theorem dX12_number_22 : decode cX12_number 22 = .ok (.invokestatic 179, 3) := by decide +kernel
theorem dX12_number_25 : decode cX12_number 25 = .ok (.ifCond .eq 7, 3) := by decide +kernel
theorem dX12_number_28 : decode cX12_number 28 = .ok (.iconst 1, 1) := by decide +kernel
theorem dX12_number_29 : decode cX12_number 29 = .ok (.goto 4, 3) := by decide +kernel
theorem dX12_number_32 : decode cX12_number 32 = .ok (.iconst 0, 1) := by decide +kernel
theorem dX12_number_33 : decode cX12_number 33 = .ok (.invokevirtual 284, 3) := by decide +kernel
theorem dX12_number_36 : decode cX12_number 36 = .ok (.iload 5, 2) := by decide +kernel
theorem dX12_number_38 : decode cX12_number 38 = .ok (.ireturn, 1) := by decide +kernel
theorem dX12_openBracket_0 : decode cX12_openBracket 0 = .ok (.aload_n 0, 1) := by decide +kernel
theorem dX12_openBracket_1 : decode cX12_openBracket 1 = .ok (.aload_n 0, 1) := by decide +kernel
theorem dX12_openBracket_2 : decode cX12_openBracket 2 = .ok (.getfield 311, 3) := by decide +kernel
theorem dX12_openBracket_5 : decode cX12_openBracket 5 = .ok (.bipush 8, 2) := by decide +kernel
theorem dX12_openBracket_7 : decode cX12_openBracket 7 = .ok (.if_icmp .ge 7, 3) := by decide +kernel
theorem dX12_openBracket_10 : decode cX12_openBracket 10 = .ok (.iconst 1, 1) := by decide +kernel
theorem dX12_openBracket_11 : decode cX12_openBracket 11 = .ok (.goto 4, 3) := by decide +kernel
theorem dX12_openBracket_14 : decode cX12_openBracket 14 = .ok (.iconst 0, 1) := by decide +kernel
theorem dX12_openBracket_15 : decode cX12_openBracket 15 = .ok (.invokevirtual 284, 3) := by decide +kernel
theorem dX12_openBracket_18 : decode cX12_openBracket 18 = .ok (.aload_n 0, 1) := by decide +kernel
theorem dX12_openBracket_19 : decode cX12_openBracket 19 = .ok (.getfield 249, 3) := by decide +kernel
theorem dX12_openBracket_22 : decode cX12_openBracket 22 = .ok (.ifCond .ne 19, 3) := by decide +kernel
theorem dX12_openBracket_25 : decode cX12_openBracket 25 = .ok (.aload_n 0, 1) := by decide +kernel
theorem dX12_openBracket_26 : decode cX12_openBracket 26 = .ok (.dup, 1) := by decide +kernel
theorem dX12_openBracket_27 : decode cX12_openBracket 27 = .ok (.getfield 311, 3) := by decide +kernel
theorem dX12_openBracket_30 : decode cX12_openBracket 30 = .ok (.iconst 1, 1) := by decide +kernel
theorem dX12_openBracket_31 : decode cX12_openBracket 31 = .ok (.iadd, 1) := by decide +kernel
theorem dX12_openBracket_32 : decode cX12_openBracket 32 = .ok (.putfield 311, 3) := by decide +kernel
theorem dX12_openBracket_35 : decode cX12_openBracket 35 = .ok (.aload_n 0, 1) := by decide +kernel
theorem dX12_openBracket_36 : decode cX12_openBracket 36 = .ok (.iload_n 1, 1) := by decide +kernel
theorem dX12_openBracket_37 : decode cX12_openBracket 37 = .ok (.iconst 0, 1) := by decide +kernel
theorem dX12_openBracket_38 : decode cX12_openBracket 38 = .ok (.invokevirtual 314, 3) := by decide +kernel
theorem dX12_openBracket_41 : decode cX12_openBracket 41 = .ok (.return_, 1) := by decide +kernel
theorem dX12_orderPartAt_0 : decode cX12_orderPartAt 0 = .ok (.iconst (-1), 1) := by decide +kernel
theorem dX12_orderPartAt_1 : decode cX12_orderPartAt 1 = .ok (.istore_n 1, 1) := by decide +kernel
theorem dX12_orderPartAt_2 : decode cX12_orderPartAt 2 = .ok (.iconst 0, 1) := by decide +kernel
theorem dX12_orderPartAt_3 : decode cX12_orderPartAt 3 = .ok (.istore_n 2, 1) := by decide +kernel
theorem dX12_orderPartAt_4 : decode cX12_orderPartAt 4 = .ok (.iload_n 2, 1) := by decide +kernel
theorem dX12_orderPartAt_5 : decode cX12_orderPartAt 5 = .ok (.bipush 7, 2) := by decide +kernel
theorem dX12_orderPartAt_7 : decode cX12_orderPartAt 7 = .ok (.if_icmp .ge 30, 3) := by decide +kernel
theorem dX12_orderPartAt_10 : decode cX12_orderPartAt 10 = .ok (.aload_n 0, 1) := by decide +kernel
theorem dX12_orderPartAt_11 : decode cX12_orderPartAt 11 = .ok (.aload_n 0, 1) := by decide +kernel
theorem dX12_orderPartAt_12 : decode cX12_orderPartAt 12 = .ok (.getfield 91, 3) := by decide +kernel
theorem dX12_orderPartAt_15 : decode cX12_orderPartAt 15 = .ok (.iload_n 2, 1) := by decide +kernel
theorem dX12_orderPartAt_16 : decode cX12_orderPartAt 16 = .ok (.laload, 1) := by decide +kernel
theorem dX12_orderPartAt_17 : decode cX12_orderPartAt 17 = .ok (.invokevirtual 307, 3) := by decide +kernel
theorem dX12_orderPartAt_20 : decode cX12_orderPartAt 20 = .ok (.ifCond .eq 9, 3) := by decide +kernel
theorem dX12_orderPartAt_23 : decode cX12_orderPartAt 23 = .ok (.iload_n 2, 1) := by decide +kernel
theorem dX12_orderPartAt_24 : decode cX12_orderPartAt 24 = .ok (.iconst 1, 1) := by decide +kernel
theorem dX12_orderPartAt_25 : decode cX12_orderPartAt 25 = .ok (.iadd, 1) := by decide +kernel
theorem dX12_orderPartAt_26 : decode cX12_orderPartAt 26 = .ok (.goto 4, 3) := by decide +kernel
theorem dX12_orderPartAt_29 : decode cX12_orderPartAt 29 = .ok (.iload_n 1, 1) := by decide +kernel
theorem dX12_orderPartAt_30 : decode cX12_orderPartAt 30 = .ok (.istore_n 1, 1) := by decide +kernel
theorem dX12_orderPartAt_31 : decode cX12_orderPartAt 31 = .ok (.iinc 2 1, 3) := by decide +kernel
theorem dX12_orderPartAt_34 : decode cX12_orderPartAt 34 = .ok (.goto (-30), 3) := by decide +kernel
theorem dX12_orderPartAt_37 : decode cX12_orderPartAt 37 = .ok (.iload_n 1, 1) := by decide +kernel
theorem dX12_orderPartAt_38 : decode cX12_orderPartAt 38 = .ok (.ireturn, 1) := by decide +kernel
theorem dX12_partAt_0 : decode cX12_partAt 0 = .ok (.iconst (-1), 1) := by decide +kernel
theorem dX12_partAt_1 : decode cX12_partAt 1 = .ok (.istore_n 1, 1) := by decide +kernel
theorem dX12_partAt_2 : decode cX12_partAt 2 = .ok (.iconst 0, 1) := by decide +kernel
theorem dX12_partAt_3 : decode cX12_partAt 3 = .ok (.istore_n 2, 1) := by decide +kernel
theorem dX12_partAt_4 : decode cX12_partAt 4 = .ok (.iload_n 2, 1) := by decide +kernel
theorem dX12_partAt_5 : decode cX12_partAt 5 = .ok (.bipush 9, 2) := by decide +kernel
theorem dX12_partAt_7 : decode cX12_partAt 7 = .ok (.if_icmp .ge 30, 3) := by decide +kernel
theorem dX12_partAt_10 : decode cX12_partAt 10 = .ok (.aload_n 0, 1) := by decide +kernel
theorem dX12_partAt_11 : decode cX12_partAt 11 = .ok (.aload_n 0, 1) := by decide +kernel
theorem dX12_partAt_12 : decode cX12_partAt 12 = .ok (.getfield 75, 3) := by decide +kernel
theorem dX12_partAt_15 : decode cX12_partAt 15 = .ok (.iload_n 2, 1) := by decide +kernel
theorem dX12_partAt_16 : decode cX12_partAt 16 = .ok (.laload, 1) := by decide +kernel
theorem dX12_partAt_17 : decode cX12_partAt 17 = .ok (.invokevirtual 307, 3) := by decide +kernel
theorem dX12_partAt_20 : decode cX12_partAt 20 = .ok (.ifCond .eq 9, 3) := by decide +kernel
theorem dX12_partAt_23 : decode cX12_partAt 23 = .ok (.iload_n 2, 1) := by decide +kernel
theorem dX12_partAt_24 : decode cX12_partAt 24 = .ok (.iconst 1, 1) := by decide +kernel
theorem dX12_partAt_25 : decode cX12_partAt 25 = .ok (.iadd, 1) := by decide +kernel
theorem dX12_partAt_26 : decode cX12_partAt 26 = .ok (.goto 4, 3) := by decide +kernel
theorem dX12_partAt_29 : decode cX12_partAt 29 = .ok (.iload_n 1, 1) := by decide +kernel
theorem dX12_partAt_30 : decode cX12_partAt 30 = .ok (.istore_n 1, 1) := by decide +kernel
theorem dX12_partAt_31 : decode cX12_partAt 31 = .ok (.iinc 2 1, 3) := by decide +kernel
theorem dX12_partAt_34 : decode cX12_partAt 34 = .ok (.goto (-30), 3) := by decide +kernel
theorem dX12_partAt_37 : decode cX12_partAt 37 = .ok (.iload_n 1, 1) := by decide +kernel
theorem dX12_partAt_38 : decode cX12_partAt 38 = .ok (.ireturn, 1) := by decide +kernel
theorem dX12_readPart_0 : decode cX12_readPart 0 = .ok (.aload_n 0, 1) := by decide +kernel
theorem dX12_readPart_1 : decode cX12_readPart 1 = .ok (.bipush 91, 2) := by decide +kernel
theorem dX12_readPart_3 : decode cX12_readPart 3 = .ok (.invokevirtual 320, 3) := by decide +kernel
theorem dX12_readPart_6 : decode cX12_readPart 6 = .ok (.ifCond .eq 11, 3) := by decide +kernel
theorem dX12_readPart_9 : decode cX12_readPart 9 = .ok (.aload_n 0, 1) := by decide +kernel
theorem dX12_readPart_10 : decode cX12_readPart 10 = .ok (.bipush 32, 2) := by decide +kernel
theorem dX12_readPart_12 : decode cX12_readPart 12 = .ok (.invokevirtual 323, 3) := by decide +kernel
theorem dX12_readPart_15 : decode cX12_readPart 15 = .ok (.iconst 1, 1) := by decide +kernel
theorem dX12_readPart_16 : decode cX12_readPart 16 = .ok (.ireturn, 1) := by decide +kernel
theorem dX12_readPart_17 : decode cX12_readPart 17 = .ok (.aload_n 0, 1) := by decide +kernel
theorem dX12_readPart_18 : decode cX12_readPart 18 = .ok (.getfield 326, 3) := by decide +kernel
theorem dX12_readPart_21 : decode cX12_readPart 21 = .ok (.ifCond .eq 10, 3) := by decide +kernel
theorem dX12_readPart_24 : decode cX12_readPart 24 = .ok (.aload_n 0, 1) := by decide +kernel
theorem dX12_readPart_25 : decode cX12_readPart 25 = .ok (.invokevirtual 329, 3) := by decide +kernel
theorem dX12_readPart_28 : decode cX12_readPart 28 = .ok (.goto 7, 3) := by decide +kernel
theorem dX12_readPart_31 : decode cX12_readPart 31 = .ok (.aload_n 0, 1) := by decide +kernel
theorem dX12_readPart_32 : decode cX12_readPart 32 = .ok (.invokevirtual 332, 3) := by decide +kernel
theorem dX12_readPart_35 : decode cX12_readPart 35 = .ok (.istore_n 1, 1) := by decide +kernel
theorem dX12_readPart_36 : decode cX12_readPart 36 = .ok (.aload_n 0, 1) := by decide +kernel
theorem dX12_readPart_37 : decode cX12_readPart 37 = .ok (.getfield 269, 3) := by decide +kernel
theorem dX12_readPart_40 : decode cX12_readPart 40 = .ok (.iconst 2, 1) := by decide +kernel
theorem dX12_readPart_41 : decode cX12_readPart 41 = .ok (.if_icmp .ne 18, 3) := by decide +kernel
theorem dX12_readPart_44 : decode cX12_readPart 44 = .ok (.aload_n 0, 1) := by decide +kernel
theorem dX12_readPart_45 : decode cX12_readPart 45 = .ok (.getfield 259, 3) := by decide +kernel
theorem dX12_readPart_48 : decode cX12_readPart 48 = .ok (.ldc2_w 335, 3) := by decide +kernel
theorem dX12_readPart_51 : decode cX12_readPart 51 = .ok (.lcmp, 1) := by decide +kernel
theorem dX12_readPart_52 : decode cX12_readPart 52 = .ok (.ifCond .gt 7, 3) := by decide +kernel
theorem dX12_readPart_55 : decode cX12_readPart 55 = .ok (.iconst 1, 1) := by decide +kernel
theorem dX12_readPart_56 : decode cX12_readPart 56 = .ok (.goto 4, 3) := by decide +kernel
theorem dX12_readPart_59 : decode cX12_readPart 59 = .ok (.iconst 0, 1) := by decide +kernel
theorem dX12_readPart_60 : decode cX12_readPart 60 = .ok (.istore_n 2, 1) := by decide +kernel
theorem dX12_readPart_61 : decode cX12_readPart 61 = .ok (.aload_n 0, 1) := by decide +kernel
theorem dX12_readPart_62 : decode cX12_readPart 62 = .ok (.iload_n 1, 1) := by decide +kernel
theorem dX12_readPart_63 : decode cX12_readPart 63 = .ok (.iconst (-1), 1) := by decide +kernel
theorem dX12_readPart_64 : decode cX12_readPart 64 = .ok (.if_icmp .ne 7, 3) := by decide +kernel
theorem dX12_readPart_67 : decode cX12_readPart 67 = .ok (.iload_n 2, 1) := by decide +kernel
theorem dX12_readPart_68 : decode cX12_readPart 68 = .ok (.ifCond .eq 7, 3) := by decide +kernel
theorem dX12_readPart_71 : decode cX12_readPart 71 = .ok (.iconst 1, 1) := by decide +kernel
theorem dX12_readPart_72 : decode cX12_readPart 72 = .ok (.goto 4, 3) := by decide +kernel
theorem dX12_readPart_75 : decode cX12_readPart 75 = .ok (.iconst 0, 1) := by decide +kernel
theorem dX12_readPart_76 : decode cX12_readPart 76 = .ok (.iload_n 1, 1) := by decide +kernel
theorem dX12_readPart_77 : decode cX12_readPart 77 = .ok (.iconst (-1), 1) := by decide +kernel
theorem dX12_readPart_78 : decode cX12_readPart 78 = .ok (.if_icmp .ne 7, 3) := by decide +kernel
theorem dX12_readPart_81 : decode cX12_readPart 81 = .ok (.iconst 0, 1) := by decide +kernel
theorem dX12_readPart_82 : decode cX12_readPart 82 = .ok (.goto 4, 3) := by decide +kernel
theorem dX12_readPart_85 : decode cX12_readPart 85 = .ok (.iload_n 1, 1) := by decide +kernel
theorem dX12_readPart_86 : decode cX12_readPart 86 = .ok (.iload_n 2, 1) := by decide +kernel
theorem dX12_readPart_87 : decode cX12_readPart 87 = .ok (.ifCond .eq 11, 3) := by decide +kernel
theorem dX12_readPart_90 : decode cX12_readPart 90 = .ok (.aload_n 0, 1) := by decide +kernel
theorem dX12_readPart_91 : decode cX12_readPart 91 = .ok (.getfield 259, 3) := by decide +kernel
theorem dX12_readPart_94 : decode cX12_readPart 94 = .ok (.l2i, 1) := by decide +kernel
theorem dX12_readPart_95 : decode cX12_readPart 95 = .ok (.goto 4, 3) := by decide +kernel
theorem dX12_readPart_98 : decode cX12_readPart 98 = .ok (.iconst 0, 1) := by decide +kernel
theorem dX12_readPart_99 : decode cX12_readPart 99 = .ok (.invokevirtual 337, 3) := by decide +kernel
theorem dX12_readPart_102 : decode cX12_readPart 102 = .ok (.aload_n 0, 1) := by decide +kernel
theorem dX12_readPart_103 : decode cX12_readPart 103 = .ok (.getfield 326, 3) := by decide +kernel
theorem dX12_readPart_106 : decode cX12_readPart 106 = .ok (.ifCond .eq 48, 3) := by decide +kernel
theorem dX12_readPart_109 : decode cX12_readPart 109 = .ok (.iload_n 1, 1) := by decide +kernel
theorem dX12_readPart_110 : decode cX12_readPart 110 = .ok (.iconst 5, 1) := by decide +kernel
theorem dX12_readPart_111 : decode cX12_readPart 111 = .ok (.if_icmp .lt 43, 3) := by decide +kernel
theorem dX12_readPart_114 : decode cX12_readPart 114 = .ok (.aload_n 0, 1) := by decide +kernel
theorem dX12_readPart_115 : decode cX12_readPart 115 = .ok (.getfield 249, 3) := by decide +kernel
theorem dX12_readPart_118 : decode cX12_readPart 118 = .ok (.ifCond .ne 36, 3) := by decide +kernel
theorem dX12_readPart_121 : decode cX12_readPart 121 = .ok (.aload_n 0, 1) := by decide +kernel
theorem dX12_readPart_122 : decode cX12_readPart 122 = .ok (.getfield 288, 3) := by decide +kernel
theorem dX12_readPart_125 : decode cX12_readPart 125 = .ok (.iconst 1, 1) := by decide +kernel
theorem dX12_readPart_126 : decode cX12_readPart 126 = .ok (.isub, 1) := by decide +kernel
theorem dX12_readPart_127 : decode cX12_readPart 127 = .ok (.istore_n 3, 1) := by decide +kernel
theorem dX12_readPart_128 : decode cX12_readPart 128 = .ok (.aload_n 0, 1) := by decide +kernel
theorem dX12_readPart_129 : decode cX12_readPart 129 = .ok (.getfield 48, 3) := by decide +kernel
theorem dX12_readPart_132 : decode cX12_readPart 132 = .ok (.iload_n 3, 1) := by decide +kernel
theorem dX12_readPart_133 : decode cX12_readPart 133 = .ok (.aload_n 0, 1) := by decide +kernel
theorem dX12_readPart_134 : decode cX12_readPart 134 = .ok (.lconst 0, 1) := by decide +kernel
theorem dX12_readPart_135 : decode cX12_readPart 135 = .ok (.iload_n 1, 1) := by decide +kernel
theorem dX12_readPart_136 : decode cX12_readPart 136 = .ok (.bipush 6, 2) := by decide +kernel
theorem dX12_readPart_138 : decode cX12_readPart 138 = .ok (.if_icmp .ne 9, 3) := by decide +kernel
theorem dX12_readPart_141 : decode cX12_readPart 141 = .ok (.ldc2_w 341, 3) := by decide +kernel
theorem dX12_readPart_144 : decode cX12_readPart 144 = .ok (.goto 6, 3) := by decide +kernel
theorem dX12_readPart_147 : decode cX12_readPart 147 = .ok (.ldc2_w 228, 3) := by decide +kernel
theorem dX12_readPart_150 : decode cX12_readPart 150 = .ok (.invokevirtual 343, 3) := by decide +kernel
theorem dX12_readPart_153 : decode cX12_readPart 153 = .ok (.iastore, 1) := by decide +kernel
theorem dX12_readPart_154 : decode cX12_readPart 154 = .ok (.iconst 3, 1) := by decide +kernel
theorem dX12_readPart_155 : decode cX12_readPart 155 = .ok (.ireturn, 1) := by decide +kernel
theorem dX12_readPlain_0 : decode cX12_readPlain 0 = .ok (.aload_n 0, 1) := by decide +kernel
theorem dX12_readPlain_1 : decode cX12_readPlain 1 = .ok (.ldc2_w 347, 3) := by decide +kernel
theorem dX12_readPlain_4 : decode cX12_readPlain 4 = .ok (.invokevirtual 307, 3) := by decide +kernel
theorem dX12_readPlain_7 : decode cX12_readPlain 7 = .ok (.ifCond .eq 16, 3) := by decide +kernel
theorem dX12_readPlain_10 : decode cX12_readPlain 10 = .ok (.aload_n 0, 1) := by decide +kernel
theorem dX12_readPlain_11 : decode cX12_readPlain 11 = .ok (.bipush 28, 2) := by decide +kernel
theorem dX12_readPlain_13 : decode cX12_readPlain 13 = .ok (.iconst 0, 1) := by decide +kernel
theorem dX12_readPlain_14 : decode cX12_readPlain 14 = .ok (.invokevirtual 314, 3) := by decide +kernel
theorem dX12_readPlain_17 : decode cX12_readPlain 17 = .ok (.aload_n 0, 1) := by decide +kernel
theorem dX12_readPlain_18 : decode cX12_readPlain 18 = .ok (.invokevirtual 253, 3) := by decide +kernel
theorem dX12_readPlain_21 : decode cX12_readPlain 21 = .ok (.iconst 0, 1) := by decide +kernel
theorem dX12_readPlain_22 : decode cX12_readPlain 22 = .ok (.ireturn, 1) := by decide +kernel
theorem dX12_readPlain_23 : decode cX12_readPlain 23 = .ok (.aload_n 0, 1) := by decide +kernel
theorem dX12_readPlain_24 : decode cX12_readPlain 24 = .ok (.bipush 40, 2) := by decide +kernel
theorem dX12_readPlain_26 : decode cX12_readPlain 26 = .ok (.invokevirtual 320, 3) := by decide +kernel
theorem dX12_readPlain_29 : decode cX12_readPlain 29 = .ok (.ifCond .eq 11, 3) := by decide +kernel
theorem dX12_readPlain_32 : decode cX12_readPlain 32 = .ok (.aload_n 0, 1) := by decide +kernel
theorem dX12_readPlain_33 : decode cX12_readPlain 33 = .ok (.bipush 31, 2) := by decide +kernel
theorem dX12_readPlain_35 : decode cX12_readPlain 35 = .ok (.invokevirtual 323, 3) := by decide +kernel
theorem dX12_readPlain_38 : decode cX12_readPlain 38 = .ok (.iconst 0, 1) := by decide +kernel
theorem dX12_readPlain_39 : decode cX12_readPlain 39 = .ok (.ireturn, 1) := by decide +kernel
theorem dX12_readPlain_40 : decode cX12_readPlain 40 = .ok (.aload_n 0, 1) := by decide +kernel
theorem dX12_readPlain_41 : decode cX12_readPlain 41 = .ok (.invokevirtual 349, 3) := by decide +kernel
theorem dX12_readPlain_44 : decode cX12_readPlain 44 = .ok (.ireturn, 1) := by decide +kernel
theorem dX12_readExpression_0 : decode cX12_readExpression 0 = .ok (.aload_n 0, 1) := by decide +kernel
theorem dX12_readExpression_1 : decode cX12_readExpression 1 = .ok (.iconst 0, 1) := by decide +kernel
theorem dX12_readExpression_2 : decode cX12_readExpression 2 = .ok (.putfield 291, 3) := by decide +kernel
theorem dX12_readExpression_5 : decode cX12_readExpression 5 = .ok (.aload_n 0, 1) := by decide +kernel
theorem dX12_readExpression_6 : decode cX12_readExpression 6 = .ok (.iconst 0, 1) := by decide +kernel
theorem dX12_readExpression_7 : decode cX12_readExpression 7 = .ok (.putfield 311, 3) := by decide +kernel
theorem dX12_readExpression_10 : decode cX12_readExpression 10 = .ok (.iload_n 1, 1) := by decide +kernel
theorem dX12_readExpression_11 : decode cX12_readExpression 11 = .ok (.ifCond .eq 7, 3) := by decide +kernel
theorem dX12_readExpression_14 : decode cX12_readExpression 14 = .ok (.iconst 0, 1) := by decide +kernel
theorem dX12_readExpression_15 : decode cX12_readExpression 15 = .ok (.goto 4, 3) := by decide +kernel
theorem dX12_readExpression_18 : decode cX12_readExpression 18 = .ok (.iconst 1, 1) := by decide +kernel
theorem dX12_readExpression_19 : decode cX12_readExpression 19 = .ok (.istore_n 2, 1) := by decide +kernel
theorem dX12_readExpression_20 : decode cX12_readExpression 20 = .ok (.aload_n 0, 1) := by decide +kernel
theorem dX12_readExpression_21 : decode cX12_readExpression 21 = .ok (.getfield 249, 3) := by decide +kernel
theorem dX12_readExpression_24 : decode cX12_readExpression 24 = .ok (.ifCond .ne 52, 3) := by decide +kernel
theorem dX12_readExpression_27 : decode cX12_readExpression 27 = .ok (.iload_n 2, 1) := by decide +kernel
theorem dX12_readExpression_28 : decode cX12_readExpression 28 = .ok (.iconst 4, 1) := by decide +kernel
theorem dX12_readExpression_29 : decode cX12_readExpression 29 = .ok (.if_icmp .eq 47, 3) := by decide +kernel
theorem dX12_readExpression_32 : decode cX12_readExpression 32 = .ok (.iload_n 2, 1) := by decide +kernel
theorem dX12_readExpression_33 : decode cX12_readExpression 33 = .ok (.ifCond .ne 10, 3) := by decide +kernel
theorem dX12_readExpression_36 : decode cX12_readExpression 36 = .ok (.aload_n 0, 1) := by decide +kernel
theorem dX12_readExpression_37 : decode cX12_readExpression 37 = .ok (.invokevirtual 366, 3) := by decide +kernel
theorem dX12_readExpression_40 : decode cX12_readExpression 40 = .ok (.goto 32, 3) := by decide +kernel
theorem dX12_readExpression_43 : decode cX12_readExpression 43 = .ok (.iload_n 2, 1) := by decide +kernel
theorem dX12_readExpression_44 : decode cX12_readExpression 44 = .ok (.iconst 1, 1) := by decide +kernel
theorem dX12_readExpression_45 : decode cX12_readExpression 45 = .ok (.if_icmp .ne 10, 3) := by decide +kernel
theorem dX12_readExpression_48 : decode cX12_readExpression 48 = .ok (.aload_n 0, 1) := by decide +kernel
theorem dX12_readExpression_49 : decode cX12_readExpression 49 = .ok (.invokevirtual 349, 3) := by decide +kernel
theorem dX12_readExpression_52 : decode cX12_readExpression 52 = .ok (.goto 20, 3) := by decide +kernel
theorem dX12_readExpression_55 : decode cX12_readExpression 55 = .ok (.iload_n 2, 1) := by decide +kernel
theorem dX12_readExpression_56 : decode cX12_readExpression 56 = .ok (.iconst 3, 1) := by decide +kernel
theorem dX12_readExpression_57 : decode cX12_readExpression 57 = .ok (.if_icmp .ne 11, 3) := by decide +kernel
theorem dX12_readExpression_60 : decode cX12_readExpression 60 = .ok (.aload_n 0, 1) := by decide +kernel
theorem dX12_readExpression_61 : decode cX12_readExpression 61 = .ok (.iload_n 1, 1) := by decide +kernel
theorem dX12_readExpression_62 : decode cX12_readExpression 62 = .ok (.invokevirtual 369, 3) := by decide +kernel
theorem dX12_readExpression_65 : decode cX12_readExpression 65 = .ok (.goto 7, 3) := by decide +kernel
theorem dX12_readExpression_68 : decode cX12_readExpression 68 = .ok (.aload_n 0, 1) := by decide +kernel
theorem dX12_readExpression_69 : decode cX12_readExpression 69 = .ok (.invokevirtual 373, 3) := by decide +kernel
theorem dX12_readExpression_72 : decode cX12_readExpression 72 = .ok (.istore_n 2, 1) := by decide +kernel
theorem dX12_readExpression_73 : decode cX12_readExpression 73 = .ok (.goto (-53), 3) := by decide +kernel
theorem dX12_readExpression_76 : decode cX12_readExpression 76 = .ok (.aload_n 0, 1) := by decide +kernel
theorem dX12_readExpression_77 : decode cX12_readExpression 77 = .ok (.iconst 1, 1) := by decide +kernel
theorem dX12_readExpression_78 : decode cX12_readExpression 78 = .ok (.invokevirtual 352, 3) := by decide +kernel
theorem dX12_readExpression_81 : decode cX12_readExpression 81 = .ok (.return_, 1) := by decide +kernel
theorem dX12_readLaw_0 : decode cX12_readLaw 0 = .ok (.aload_n 0, 1) := by decide +kernel
theorem dX12_readLaw_1 : decode cX12_readLaw 1 = .ok (.ldc2_w 382, 3) := by decide +kernel
theorem dX12_readLaw_4 : decode cX12_readLaw 4 = .ok (.invokevirtual 307, 3) := by decide +kernel
theorem dX12_readLaw_7 : decode cX12_readLaw 7 = .ok (.ifCond .eq 7, 3) := by decide +kernel
theorem dX12_readLaw_10 : decode cX12_readLaw 10 = .ok (.iconst 0, 1) := by decide +kernel
theorem dX12_readLaw_11 : decode cX12_readLaw 11 = .ok (.goto 32, 3) := by decide +kernel
theorem dX12_readLaw_14 : decode cX12_readLaw 14 = .ok (.aload_n 0, 1) := by decide +kernel
theorem dX12_readLaw_15 : decode cX12_readLaw 15 = .ok (.ldc2_w 384, 3) := by decide +kernel
theorem dX12_readLaw_18 : decode cX12_readLaw 18 = .ok (.invokevirtual 307, 3) := by decide +kernel
theorem dX12_readLaw_21 : decode cX12_readLaw 21 = .ok (.ifCond .eq 7, 3) := by decide +kernel
theorem dX12_readLaw_24 : decode cX12_readLaw 24 = .ok (.iconst 1, 1) := by decide +kernel
theorem dX12_readLaw_25 : decode cX12_readLaw 25 = .ok (.goto 18, 3) := by decide +kernel
theorem dX12_readLaw_28 : decode cX12_readLaw 28 = .ok (.aload_n 0, 1) := by decide +kernel
theorem dX12_readLaw_29 : decode cX12_readLaw 29 = .ok (.ldc2_w 386, 3) := by decide +kernel
theorem dX12_readLaw_32 : decode cX12_readLaw 32 = .ok (.invokevirtual 307, 3) := by decide +kernel
theorem dX12_readLaw_35 : decode cX12_readLaw 35 = .ok (.ifCond .eq 7, 3) := by decide +kernel
theorem dX12_readLaw_38 : decode cX12_readLaw 38 = .ok (.iconst 2, 1) := by decide +kernel
theorem dX12_readLaw_39 : decode cX12_readLaw 39 = .ok (.goto 4, 3) := by decide +kernel
theorem dX12_readLaw_42 : decode cX12_readLaw 42 = .ok (.iconst (-1), 1) := by decide +kernel
theorem dX12_readLaw_43 : decode cX12_readLaw 43 = .ok (.istore_n 1, 1) := by decide +kernel
theorem dX12_readLaw_44 : decode cX12_readLaw 44 = .ok (.aload_n 0, 1) := by decide +kernel
theorem dX12_readLaw_45 : decode cX12_readLaw 45 = .ok (.iload_n 1, 1) := by decide +kernel
theorem dX12_readLaw_46 : decode cX12_readLaw 46 = .ok (.iconst (-1), 1) := by decide +kernel
theorem dX12_readLaw_47 : decode cX12_readLaw 47 = .ok (.if_icmp .eq 16, 3) := by decide +kernel
theorem dX12_readLaw_50 : decode cX12_readLaw 50 = .ok (.aload_n 0, 1) := by decide +kernel
theorem dX12_readLaw_51 : decode cX12_readLaw 51 = .ok (.getfield 379, 3) := by decide +kernel
theorem dX12_readLaw_54 : decode cX12_readLaw 54 = .ok (.bipush 12, 2) := by decide +kernel
theorem dX12_readLaw_56 : decode cX12_readLaw 56 = .ok (.if_icmp .ge 7, 3) := by decide +kernel
theorem dX12_readLaw_59 : decode cX12_readLaw 59 = .ok (.iconst 1, 1) := by decide +kernel
theorem dX12_readLaw_60 : decode cX12_readLaw 60 = .ok (.goto 4, 3) := by decide +kernel
theorem dX12_readLaw_63 : decode cX12_readLaw 63 = .ok (.iconst 0, 1) := by decide +kernel
theorem dX12_readLaw_64 : decode cX12_readLaw 64 = .ok (.invokevirtual 284, 3) := by decide +kernel
theorem dX12_readLaw_67 : decode cX12_readLaw 67 = .ok (.aload_n 0, 1) := by decide +kernel
theorem dX12_readLaw_68 : decode cX12_readLaw 68 = .ok (.getfield 249, 3) := by decide +kernel
theorem dX12_readLaw_71 : decode cX12_readLaw 71 = .ok (.ifCond .eq 4, 3) := by decide +kernel
theorem dX12_readLaw_74 : decode cX12_readLaw 74 = .ok (.return_, 1) := by decide +kernel
theorem dX12_readLaw_75 : decode cX12_readLaw 75 = .ok (.bipush 8, 2) := by decide +kernel
theorem dX12_readLaw_77 : decode cX12_readLaw 77 = .ok (.aload_n 0, 1) := by decide +kernel
theorem dX12_readLaw_78 : decode cX12_readLaw 78 = .ok (.getfield 379, 3) := by decide +kernel
theorem dX12_readLaw_81 : decode cX12_readLaw 81 = .ok (.imul, 1) := by decide +kernel
theorem dX12_readLaw_82 : decode cX12_readLaw 82 = .ok (.istore_n 2, 1) := by decide +kernel
theorem dX12_readLaw_83 : decode cX12_readLaw 83 = .ok (.iconst 0, 1) := by decide +kernel
theorem dX12_readLaw_84 : decode cX12_readLaw 84 = .ok (.istore_n 3, 1) := by decide +kernel
theorem dX12_readLaw_85 : decode cX12_readLaw 85 = .ok (.iload_n 3, 1) := by decide +kernel
theorem dX12_readLaw_86 : decode cX12_readLaw 86 = .ok (.bipush 8, 2) := by decide +kernel
theorem dX12_readLaw_88 : decode cX12_readLaw 88 = .ok (.if_icmp .ge 18, 3) := by decide +kernel
theorem dX12_readLaw_91 : decode cX12_readLaw 91 = .ok (.aload_n 0, 1) := by decide +kernel
theorem dX12_readLaw_92 : decode cX12_readLaw 92 = .ok (.getfield 42, 3) := by decide +kernel
theorem dX12_readLaw_95 : decode cX12_readLaw 95 = .ok (.iload_n 2, 1) := by decide +kernel
theorem dX12_readLaw_96 : decode cX12_readLaw 96 = .ok (.iload_n 3, 1) := by decide +kernel
theorem dX12_readLaw_97 : decode cX12_readLaw 97 = .ok (.iadd, 1) := by decide +kernel
theorem dX12_readLaw_98 : decode cX12_readLaw 98 = .ok (.iconst 0, 1) := by decide +kernel
theorem dX12_readLaw_99 : decode cX12_readLaw 99 = .ok (.iastore, 1) := by decide +kernel
theorem dX12_readLaw_100 : decode cX12_readLaw 100 = .ok (.iinc 3 1, 3) := by decide +kernel
theorem dX12_readLaw_103 : decode cX12_readLaw 103 = .ok (.goto (-18), 3) := by decide +kernel
theorem dX12_readLaw_106 : decode cX12_readLaw 106 = .ok (.aload_n 0, 1) := by decide +kernel
theorem dX12_readLaw_107 : decode cX12_readLaw 107 = .ok (.getfield 42, 3) := by decide +kernel
theorem dX12_readLaw_110 : decode cX12_readLaw 110 = .ok (.iload_n 2, 1) := by decide +kernel
theorem dX12_readLaw_111 : decode cX12_readLaw 111 = .ok (.iload_n 1, 1) := by decide +kernel
theorem dX12_readLaw_112 : decode cX12_readLaw 112 = .ok (.iastore, 1) := by decide +kernel
theorem dX12_readLaw_113 : decode cX12_readLaw 113 = .ok (.aload_n 0, 1) := by decide +kernel
theorem dX12_readLaw_114 : decode cX12_readLaw 114 = .ok (.dup, 1) := by decide +kernel
theorem dX12_readLaw_115 : decode cX12_readLaw 115 = .ok (.getfield 379, 3) := by decide +kernel
theorem dX12_readLaw_118 : decode cX12_readLaw 118 = .ok (.iconst 1, 1) := by decide +kernel
theorem dX12_readLaw_119 : decode cX12_readLaw 119 = .ok (.iadd, 1) := by decide +kernel
theorem dX12_readLaw_120 : decode cX12_readLaw 120 = .ok (.putfield 379, 3) := by decide +kernel
theorem dX12_readLaw_123 : decode cX12_readLaw 123 = .ok (.aload_n 0, 1) := by decide +kernel
theorem dX12_readLaw_124 : decode cX12_readLaw 124 = .ok (.getfield 42, 3) := by decide +kernel
theorem dX12_readLaw_127 : decode cX12_readLaw 127 = .ok (.iload_n 2, 1) := by decide +kernel
theorem dX12_readLaw_128 : decode cX12_readLaw 128 = .ok (.iconst 3, 1) := by decide +kernel
theorem dX12_readLaw_129 : decode cX12_readLaw 129 = .ok (.iadd, 1) := by decide +kernel
theorem dX12_readLaw_130 : decode cX12_readLaw 130 = .ok (.aload_n 0, 1) := by decide +kernel
theorem dX12_readLaw_131 : decode cX12_readLaw 131 = .ok (.getfield 288, 3) := by decide +kernel
theorem dX12_readLaw_134 : decode cX12_readLaw 134 = .ok (.iastore, 1) := by decide +kernel
theorem dX12_readLaw_135 : decode cX12_readLaw 135 = .ok (.iload_n 1, 1) := by decide +kernel
theorem dX12_readLaw_136 : decode cX12_readLaw 136 = .ok (.iconst 2, 1) := by decide +kernel
theorem dX12_readLaw_137 : decode cX12_readLaw 137 = .ok (.if_icmp .eq 8, 3) := by decide +kernel
theorem dX12_readLaw_140 : decode cX12_readLaw 140 = .ok (.aload_n 0, 1) := by decide +kernel
theorem dX12_readLaw_141 : decode cX12_readLaw 141 = .ok (.iconst 0, 1) := by decide +kernel
theorem dX12_readLaw_142 : decode cX12_readLaw 142 = .ok (.invokevirtual 388, 3) := by decide +kernel
theorem dX12_readLaw_145 : decode cX12_readLaw 145 = .ok (.aload_n 0, 1) := by decide +kernel
theorem dX12_readLaw_146 : decode cX12_readLaw 146 = .ok (.getfield 42, 3) := by decide +kernel
theorem dX12_readLaw_149 : decode cX12_readLaw 149 = .ok (.iload_n 2, 1) := by decide +kernel
theorem dX12_readLaw_150 : decode cX12_readLaw 150 = .ok (.iconst 4, 1) := by decide +kernel
theorem dX12_readLaw_151 : decode cX12_readLaw 151 = .ok (.iadd, 1) := by decide +kernel
theorem dX12_readLaw_152 : decode cX12_readLaw 152 = .ok (.aload_n 0, 1) := by decide +kernel
theorem dX12_readLaw_153 : decode cX12_readLaw 153 = .ok (.getfield 288, 3) := by decide +kernel
theorem dX12_readLaw_156 : decode cX12_readLaw 156 = .ok (.iastore, 1) := by decide +kernel
theorem dX12_readLaw_157 : decode cX12_readLaw 157 = .ok (.aload_n 0, 1) := by decide +kernel
theorem dX12_readLaw_158 : decode cX12_readLaw 158 = .ok (.getfield 42, 3) := by decide +kernel
theorem dX12_readLaw_161 : decode cX12_readLaw 161 = .ok (.iload_n 2, 1) := by decide +kernel
theorem dX12_readLaw_162 : decode cX12_readLaw 162 = .ok (.iconst 5, 1) := by decide +kernel
theorem dX12_readLaw_163 : decode cX12_readLaw 163 = .ok (.iadd, 1) := by decide +kernel
theorem dX12_readLaw_164 : decode cX12_readLaw 164 = .ok (.aload_n 0, 1) := by decide +kernel
theorem dX12_readLaw_165 : decode cX12_readLaw 165 = .ok (.getfield 288, 3) := by decide +kernel
theorem dX12_readLaw_168 : decode cX12_readLaw 168 = .ok (.iastore, 1) := by decide +kernel
theorem dX12_readLaw_169 : decode cX12_readLaw 169 = .ok (.aload_n 0, 1) := by decide +kernel
theorem dX12_readLaw_170 : decode cX12_readLaw 170 = .ok (.getfield 249, 3) := by decide +kernel
theorem dX12_readLaw_173 : decode cX12_readLaw 173 = .ok (.ifCond .ne 22, 3) := by decide +kernel
theorem dX12_readLaw_176 : decode cX12_readLaw 176 = .ok (.aload_n 0, 1) := by decide +kernel
theorem dX12_readLaw_177 : decode cX12_readLaw 177 = .ok (.ldc2_w 391, 3) := by decide +kernel
theorem dX12_readLaw_180 : decode cX12_readLaw 180 = .ok (.invokevirtual 307, 3) := by decide +kernel
theorem dX12_readLaw_183 : decode cX12_readLaw 183 = .ok (.ifCond .eq 12, 3) := by decide +kernel
theorem dX12_readLaw_186 : decode cX12_readLaw 186 = .ok (.aload_n 0, 1) := by decide +kernel
theorem dX12_readLaw_187 : decode cX12_readLaw 187 = .ok (.invokevirtual 253, 3) := by decide +kernel
theorem dX12_readLaw_190 : decode cX12_readLaw 190 = .ok (.aload_n 0, 1) := by decide +kernel
theorem dX12_readLaw_191 : decode cX12_readLaw 191 = .ok (.iconst 1, 1) := by decide +kernel
theorem dX12_readLaw_192 : decode cX12_readLaw 192 = .ok (.invokevirtual 388, 3) := by decide +kernel
theorem dX12_readLaw_195 : decode cX12_readLaw 195 = .ok (.aload_n 0, 1) := by decide +kernel
theorem dX12_readLaw_196 : decode cX12_readLaw 196 = .ok (.getfield 42, 3) := by decide +kernel
theorem dX12_readLaw_199 : decode cX12_readLaw 199 = .ok (.iload_n 2, 1) := by decide +kernel
theorem dX12_readLaw_200 : decode cX12_readLaw 200 = .ok (.bipush 6, 2) := by decide +kernel
theorem dX12_readLaw_202 : decode cX12_readLaw 202 = .ok (.iadd, 1) := by decide +kernel
theorem dX12_readLaw_203 : decode cX12_readLaw 203 = .ok (.aload_n 0, 1) := by decide +kernel
theorem dX12_readLaw_204 : decode cX12_readLaw 204 = .ok (.getfield 288, 3) := by decide +kernel
theorem dX12_readLaw_207 : decode cX12_readLaw 207 = .ok (.iastore, 1) := by decide +kernel
theorem dX12_readLaw_208 : decode cX12_readLaw 208 = .ok (.return_, 1) := by decide +kernel
theorem dX12_law_0 : decode cX12_law 0 = .ok (.aload_n 0, 1) := by decide +kernel
theorem dX12_law_1 : decode cX12_law 1 = .ok (.iconst 0, 1) := by decide +kernel
theorem dX12_law_2 : decode cX12_law 2 = .ok (.putfield 166, 3) := by decide +kernel
theorem dX12_law_5 : decode cX12_law 5 = .ok (.aload_n 0, 1) := by decide +kernel
theorem dX12_law_6 : decode cX12_law 6 = .ok (.getfield 13, 3) := by decide +kernel
theorem dX12_law_9 : decode cX12_law 9 = .ok (.iconst 4, 1) := by decide +kernel
theorem dX12_law_10 : decode cX12_law 10 = .ok (.iaload, 1) := by decide +kernel
theorem dX12_law_11 : decode cX12_law 11 = .ok (.bipush 6, 2) := by decide +kernel
theorem dX12_law_13 : decode cX12_law 13 = .ok (.if_icmp .ne 15, 3) := by decide +kernel
theorem dX12_law_16 : decode cX12_law 16 = .ok (.aload_n 0, 1) := by decide +kernel
theorem dX12_law_17 : decode cX12_law 17 = .ok (.iconst 0, 1) := by decide +kernel
theorem dX12_law_18 : decode cX12_law 18 = .ok (.putfield 236, 3) := by decide +kernel
theorem dX12_law_21 : decode cX12_law 21 = .ok (.aload_n 0, 1) := by decide +kernel
theorem dX12_law_22 : decode cX12_law 22 = .ok (.bipush (-5), 2) := by decide +kernel
theorem dX12_law_24 : decode cX12_law 24 = .ok (.invokevirtual 175, 3) := by decide +kernel
theorem dX12_law_27 : decode cX12_law 27 = .ok (.ireturn, 1) := by decide +kernel
theorem dX12_law_28 : decode cX12_law 28 = .ok (.aload_n 0, 1) := by decide +kernel
theorem dX12_law_29 : decode cX12_law 29 = .ok (.iconst 0, 1) := by decide +kernel
theorem dX12_law_30 : decode cX12_law 30 = .ok (.invokevirtual 393, 3) := by decide +kernel
theorem dX12_law_33 : decode cX12_law 33 = .ok (.aload_n 0, 1) := by decide +kernel
theorem dX12_law_34 : decode cX12_law 34 = .ok (.invokevirtual 396, 3) := by decide +kernel
theorem dX12_law_37 : decode cX12_law 37 = .ok (.aload_n 0, 1) := by decide +kernel
theorem dX12_law_38 : decode cX12_law 38 = .ok (.getfield 249, 3) := by decide +kernel
theorem dX12_law_41 : decode cX12_law 41 = .ok (.ifCond .ne 23, 3) := by decide +kernel
theorem dX12_law_44 : decode cX12_law 44 = .ok (.aload_n 0, 1) := by decide +kernel
theorem dX12_law_45 : decode cX12_law 45 = .ok (.bipush 59, 2) := by decide +kernel
theorem dX12_law_47 : decode cX12_law 47 = .ok (.invokevirtual 320, 3) := by decide +kernel
theorem dX12_law_50 : decode cX12_law 50 = .ok (.ifCond .eq 14, 3) := by decide +kernel
theorem dX12_law_53 : decode cX12_law 53 = .ok (.aload_n 0, 1) := by decide +kernel
theorem dX12_law_54 : decode cX12_law 54 = .ok (.invokevirtual 253, 3) := by decide +kernel
theorem dX12_law_57 : decode cX12_law 57 = .ok (.aload_n 0, 1) := by decide +kernel
theorem dX12_law_58 : decode cX12_law 58 = .ok (.invokevirtual 396, 3) := by decide +kernel
theorem dX12_law_61 : decode cX12_law 61 = .ok (.goto (-24), 3) := by decide +kernel
theorem dX12_law_64 : decode cX12_law 64 = .ok (.aload_n 0, 1) := by decide +kernel
theorem dX12_law_65 : decode cX12_law 65 = .ok (.invokevirtual 399, 3) := by decide +kernel
theorem dX12_law_68 : decode cX12_law 68 = .ok (.aload_n 0, 1) := by decide +kernel
theorem dX12_law_69 : decode cX12_law 69 = .ok (.getfield 249, 3) := by decide +kernel
theorem dX12_law_72 : decode cX12_law 72 = .ok (.ifCond .eq 10, 3) := by decide +kernel
theorem dX12_law_75 : decode cX12_law 75 = .ok (.aload_n 0, 1) := by decide +kernel
theorem dX12_law_76 : decode cX12_law 76 = .ok (.bipush (-6), 2) := by decide +kernel
theorem dX12_law_78 : decode cX12_law 78 = .ok (.invokevirtual 175, 3) := by decide +kernel
theorem dX12_law_81 : decode cX12_law 81 = .ok (.ireturn, 1) := by decide +kernel
theorem dX12_law_82 : decode cX12_law 82 = .ok (.sipush 270, 3) := by decide +kernel
theorem dX12_law_85 : decode cX12_law 85 = .ok (.sipush 900, 3) := by decide +kernel
theorem dX12_law_88 : decode cX12_law 88 = .ok (.aload_n 0, 1) := by decide +kernel
theorem dX12_law_89 : decode cX12_law 89 = .ok (.getfield 13, 3) := by decide +kernel
theorem dX12_law_92 : decode cX12_law 92 = .ok (.iconst 4, 1) := by decide +kernel
theorem dX12_law_93 : decode cX12_law 93 = .ok (.iaload, 1) := by decide +kernel
theorem dX12_law_94 : decode cX12_law 94 = .ok (.imul, 1) := by decide +kernel
theorem dX12_law_95 : decode cX12_law 95 = .ok (.iadd, 1) := by decide +kernel
theorem dX12_law_96 : decode cX12_law 96 = .ok (.istore_n 1, 1) := by decide +kernel
theorem dX12_law_97 : decode cX12_law 97 = .ok (.aload_n 0, 1) := by decide +kernel
theorem dX12_law_98 : decode cX12_law 98 = .ok (.getfield 13, 3) := by decide +kernel
theorem dX12_law_101 : decode cX12_law 101 = .ok (.iload_n 1, 1) := by decide +kernel
theorem dX12_law_102 : decode cX12_law 102 = .ok (.iconst 1, 1) := by decide +kernel
theorem dX12_law_103 : decode cX12_law 103 = .ok (.iadd, 1) := by decide +kernel
theorem dX12_law_104 : decode cX12_law 104 = .ok (.aload_n 0, 1) := by decide +kernel
theorem dX12_law_105 : decode cX12_law 105 = .ok (.getfield 379, 3) := by decide +kernel
theorem dX12_law_108 : decode cX12_law 108 = .ok (.iastore, 1) := by decide +kernel
theorem dX12_law_109 : decode cX12_law 109 = .ok (.iconst 0, 1) := by decide +kernel
theorem dX12_law_110 : decode cX12_law 110 = .ok (.istore_n 2, 1) := by decide +kernel
theorem dX12_law_111 : decode cX12_law 111 = .ok (.iload_n 2, 1) := by decide +kernel
theorem dX12_law_112 : decode cX12_law 112 = .ok (.bipush 8, 2) := by decide +kernel
theorem dX12_law_114 : decode cX12_law 114 = .ok (.aload_n 0, 1) := by decide +kernel
theorem dX12_law_115 : decode cX12_law 115 = .ok (.getfield 379, 3) := by decide +kernel
theorem dX12_law_118 : decode cX12_law 118 = .ok (.imul, 1) := by decide +kernel
theorem dX12_law_119 : decode cX12_law 119 = .ok (.if_icmp .ge 25, 3) := by decide +kernel
theorem dX12_law_122 : decode cX12_law 122 = .ok (.aload_n 0, 1) := by decide +kernel
theorem dX12_law_123 : decode cX12_law 123 = .ok (.getfield 13, 3) := by decide +kernel
theorem dX12_law_126 : decode cX12_law 126 = .ok (.iload_n 1, 1) := by decide +kernel
theorem dX12_law_127 : decode cX12_law 127 = .ok (.iconst 2, 1) := by decide +kernel
theorem dX12_law_128 : decode cX12_law 128 = .ok (.iadd, 1) := by decide +kernel
theorem dX12_law_129 : decode cX12_law 129 = .ok (.iload_n 2, 1) := by decide +kernel
theorem dX12_law_130 : decode cX12_law 130 = .ok (.iadd, 1) := by decide +kernel
theorem dX12_law_131 : decode cX12_law 131 = .ok (.aload_n 0, 1) := by decide +kernel
theorem dX12_law_132 : decode cX12_law 132 = .ok (.getfield 42, 3) := by decide +kernel
theorem dX12_law_135 : decode cX12_law 135 = .ok (.iload_n 2, 1) := by decide +kernel
theorem dX12_law_136 : decode cX12_law 136 = .ok (.iaload, 1) := by decide +kernel
theorem dX12_law_137 : decode cX12_law 137 = .ok (.iastore, 1) := by decide +kernel
theorem dX12_law_138 : decode cX12_law 138 = .ok (.iinc 2 1, 3) := by decide +kernel
theorem dX12_law_141 : decode cX12_law 141 = .ok (.goto (-30), 3) := by decide +kernel
theorem dX12_law_144 : decode cX12_law 144 = .ok (.iconst 0, 1) := by decide +kernel
theorem dX12_law_145 : decode cX12_law 145 = .ok (.istore_n 2, 1) := by decide +kernel
theorem dX12_law_146 : decode cX12_law 146 = .ok (.iload_n 2, 1) := by decide +kernel
theorem dX12_law_147 : decode cX12_law 147 = .ok (.aload_n 0, 1) := by decide +kernel
theorem dX12_law_148 : decode cX12_law 148 = .ok (.getfield 288, 3) := by decide +kernel
theorem dX12_law_151 : decode cX12_law 151 = .ok (.if_icmp .ge 49, 3) := by decide +kernel
theorem dX12_law_154 : decode cX12_law 154 = .ok (.aload_n 0, 1) := by decide +kernel
theorem dX12_law_155 : decode cX12_law 155 = .ok (.getfield 13, 3) := by decide +kernel
theorem dX12_law_158 : decode cX12_law 158 = .ok (.iload_n 1, 1) := by decide +kernel
theorem dX12_law_159 : decode cX12_law 159 = .ok (.bipush 98, 2) := by decide +kernel
theorem dX12_law_161 : decode cX12_law 161 = .ok (.iadd, 1) := by decide +kernel
theorem dX12_law_162 : decode cX12_law 162 = .ok (.iconst 2, 1) := by decide +kernel
theorem dX12_law_163 : decode cX12_law 163 = .ok (.iload_n 2, 1) := by decide +kernel
theorem dX12_law_164 : decode cX12_law 164 = .ok (.imul, 1) := by decide +kernel
theorem dX12_law_165 : decode cX12_law 165 = .ok (.iadd, 1) := by decide +kernel
theorem dX12_law_166 : decode cX12_law 166 = .ok (.aload_n 0, 1) := by decide +kernel
theorem dX12_law_167 : decode cX12_law 167 = .ok (.getfield 45, 3) := by decide +kernel
theorem dX12_law_170 : decode cX12_law 170 = .ok (.iload_n 2, 1) := by decide +kernel
theorem dX12_law_171 : decode cX12_law 171 = .ok (.iaload, 1) := by decide +kernel
theorem dX12_law_172 : decode cX12_law 172 = .ok (.iastore, 1) := by decide +kernel
theorem dX12_law_173 : decode cX12_law 173 = .ok (.aload_n 0, 1) := by decide +kernel
theorem dX12_law_174 : decode cX12_law 174 = .ok (.getfield 13, 3) := by decide +kernel
theorem dX12_law_177 : decode cX12_law 177 = .ok (.iload_n 1, 1) := by decide +kernel
theorem dX12_law_178 : decode cX12_law 178 = .ok (.bipush 98, 2) := by decide +kernel
theorem dX12_law_180 : decode cX12_law 180 = .ok (.iadd, 1) := by decide +kernel
theorem dX12_law_181 : decode cX12_law 181 = .ok (.iconst 2, 1) := by decide +kernel
theorem dX12_law_182 : decode cX12_law 182 = .ok (.iload_n 2, 1) := by decide +kernel
theorem dX12_law_183 : decode cX12_law 183 = .ok (.imul, 1) := by decide +kernel
theorem dX12_law_184 : decode cX12_law 184 = .ok (.iadd, 1) := by decide +kernel
theorem dX12_law_185 : decode cX12_law 185 = .ok (.iconst 1, 1) := by decide +kernel
theorem dX12_law_186 : decode cX12_law 186 = .ok (.iadd, 1) := by decide +kernel
theorem dX12_law_187 : decode cX12_law 187 = .ok (.aload_n 0, 1) := by decide +kernel
theorem dX12_law_188 : decode cX12_law 188 = .ok (.getfield 48, 3) := by decide +kernel
theorem dX12_law_191 : decode cX12_law 191 = .ok (.iload_n 2, 1) := by decide +kernel
theorem dX12_law_192 : decode cX12_law 192 = .ok (.iaload, 1) := by decide +kernel
theorem dX12_law_193 : decode cX12_law 193 = .ok (.iastore, 1) := by decide +kernel
theorem dX12_law_194 : decode cX12_law 194 = .ok (.iinc 2 1, 3) := by decide +kernel
theorem dX12_law_197 : decode cX12_law 197 = .ok (.goto (-51), 3) := by decide +kernel
theorem dX12_law_200 : decode cX12_law 200 = .ok (.aload_n 0, 1) := by decide +kernel
theorem dX12_law_201 : decode cX12_law 201 = .ok (.getfield 13, 3) := by decide +kernel
theorem dX12_law_204 : decode cX12_law 204 = .ok (.iconst 4, 1) := by decide +kernel
theorem dX12_law_205 : decode cX12_law 205 = .ok (.dup2, 1) := by decide +kernel
theorem dX12_law_206 : decode cX12_law 206 = .ok (.iaload, 1) := by decide +kernel
theorem dX12_law_207 : decode cX12_law 207 = .ok (.iconst 1, 1) := by decide +kernel
theorem dX12_law_208 : decode cX12_law 208 = .ok (.iadd, 1) := by decide +kernel
theorem dX12_law_209 : decode cX12_law 209 = .ok (.iastore, 1) := by decide +kernel
theorem dX12_law_210 : decode cX12_law 210 = .ok (.aload_n 0, 1) := by decide +kernel
theorem dX12_law_211 : decode cX12_law 211 = .ok (.aload_n 0, 1) := by decide +kernel
theorem dX12_law_212 : decode cX12_law 212 = .ok (.getfield 13, 3) := by decide +kernel
theorem dX12_law_215 : decode cX12_law 215 = .ok (.iconst 4, 1) := by decide +kernel
theorem dX12_law_216 : decode cX12_law 216 = .ok (.iaload, 1) := by decide +kernel
theorem dX12_law_217 : decode cX12_law 217 = .ok (.iconst 1, 1) := by decide +kernel
theorem dX12_law_218 : decode cX12_law 218 = .ok (.isub, 1) := by decide +kernel
theorem dX12_law_219 : decode cX12_law 219 = .ok (.invokevirtual 175, 3) := by decide +kernel
theorem dX12_law_222 : decode cX12_law 222 = .ok (.ireturn, 1) := by decide +kernel
theorem dX12_layYears_0 : decode cX12_layYears 0 = .ok (.iconst 1, 1) := by decide +kernel
theorem dX12_layYears_1 : decode cX12_layYears 1 = .ok (.istore_n 3, 1) := by decide +kernel
theorem dX12_layYears_2 : decode cX12_layYears 2 = .ok (.iload_n 3, 1) := by decide +kernel
theorem dX12_layYears_3 : decode cX12_layYears 3 = .ok (.iload_n 2, 1) := by decide +kernel
theorem dX12_layYears_4 : decode cX12_layYears 4 = .ok (.if_icmp .gt 26, 3) := by decide +kernel
theorem dX12_layYears_7 : decode cX12_layYears 7 = .ok (.aload_n 0, 1) := by decide +kernel
theorem dX12_layYears_8 : decode cX12_layYears 8 = .ok (.getfield 118, 3) := by decide +kernel
theorem dX12_layYears_11 : decode cX12_layYears 11 = .ok (.iload_n 3, 1) := by decide +kernel
theorem dX12_layYears_12 : decode cX12_layYears 12 = .ok (.aload_n 0, 1) := by decide +kernel
theorem dX12_layYears_13 : decode cX12_layYears 13 = .ok (.iload_n 1, 1) := by decide +kernel
theorem dX12_layYears_14 : decode cX12_layYears 14 = .ok (.aload_n 0, 1) := by decide +kernel
theorem dX12_layYears_15 : decode cX12_layYears 15 = .ok (.invokevirtual 210, 3) := by decide +kernel
theorem dX12_layYears_18 : decode cX12_layYears 18 = .ok (.iload_n 3, 1) := by decide +kernel
theorem dX12_layYears_19 : decode cX12_layYears 19 = .ok (.iadd, 1) := by decide +kernel
theorem dX12_layYears_20 : decode cX12_layYears 20 = .ok (.invokevirtual 214, 3) := by decide +kernel
theorem dX12_layYears_23 : decode cX12_layYears 23 = .ok (.iastore, 1) := by decide +kernel
theorem dX12_layYears_24 : decode cX12_layYears 24 = .ok (.iinc 3 1, 3) := by decide +kernel
theorem dX12_layYears_27 : decode cX12_layYears 27 = .ok (.goto (-25), 3) := by decide +kernel
theorem dX12_layYears_30 : decode cX12_layYears 30 = .ok (.return_, 1) := by decide +kernel
theorem dX12_lord_0 : decode cX12_lord 0 = .ok (.aload_n 0, 1) := by decide +kernel
theorem dX12_lord_1 : decode cX12_lord 1 = .ok (.iconst 0, 1) := by decide +kernel
theorem dX12_lord_2 : decode cX12_lord 2 = .ok (.putfield 166, 3) := by decide +kernel
theorem dX12_lord_5 : decode cX12_lord 5 = .ok (.iload_n 1, 1) := by decide +kernel
theorem dX12_lord_6 : decode cX12_lord 6 = .ok (.i2l, 1) := by decide +kernel
theorem dX12_lord_7 : decode cX12_lord 7 = .ok (.lconst 0, 1) := by decide +kernel
theorem dX12_lord_8 : decode cX12_lord 8 = .ok (.ldc2_w 186, 3) := by decide +kernel
theorem dX12_lord_11 : decode cX12_lord 11 = .ok (.invokestatic 179, 3) := by decide +kernel
theorem dX12_lord_14 : decode cX12_lord 14 = .ok (.ifCond .eq 15, 3) := by decide +kernel
theorem dX12_lord_17 : decode cX12_lord 17 = .ok (.iload_n 2, 1) := by decide +kernel
theorem dX12_lord_18 : decode cX12_lord 18 = .ok (.i2l, 1) := by decide +kernel
theorem dX12_lord_19 : decode cX12_lord 19 = .ok (.lconst 0, 1) := by decide +kernel
theorem dX12_lord_20 : decode cX12_lord 20 = .ok (.ldc2_w 188, 3) := by decide +kernel
theorem dX12_lord_23 : decode cX12_lord 23 = .ok (.invokestatic 179, 3) := by decide +kernel
theorem dX12_lord_26 : decode cX12_lord 26 = .ok (.ifCond .ne 9, 3) := by decide +kernel
theorem dX12_lord_29 : decode cX12_lord 29 = .ok (.aload_n 0, 1) := by decide +kernel
theorem dX12_lord_30 : decode cX12_lord 30 = .ok (.iconst (-1), 1) := by decide +kernel
theorem dX12_lord_31 : decode cX12_lord 31 = .ok (.invokevirtual 175, 3) := by decide +kernel
theorem dX12_lord_34 : decode cX12_lord 34 = .ok (.ireturn, 1) := by decide +kernel
theorem dX12_lord_35 : decode cX12_lord 35 = .ok (.aload_n 0, 1) := by decide +kernel
theorem dX12_lord_36 : decode cX12_lord 36 = .ok (.getfield 13, 3) := by decide +kernel
theorem dX12_lord_39 : decode cX12_lord 39 = .ok (.iconst 0, 1) := by decide +kernel
theorem dX12_lord_40 : decode cX12_lord 40 = .ok (.iaload, 1) := by decide +kernel
theorem dX12_lord_41 : decode cX12_lord 41 = .ok (.istore_n 3, 1) := by decide +kernel
theorem dX12_lord_42 : decode cX12_lord 42 = .ok (.iload_n 3, 1) := by decide +kernel
theorem dX12_lord_43 : decode cX12_lord 43 = .ok (.bipush 6, 2) := by decide +kernel
theorem dX12_lord_45 : decode cX12_lord 45 = .ok (.if_icmp .ne 10, 3) := by decide +kernel
theorem dX12_lord_48 : decode cX12_lord 48 = .ok (.aload_n 0, 1) := by decide +kernel
theorem dX12_lord_49 : decode cX12_lord 49 = .ok (.bipush (-5), 2) := by decide +kernel
theorem dX12_lord_51 : decode cX12_lord 51 = .ok (.invokevirtual 175, 3) := by decide +kernel
theorem dX12_lord_54 : decode cX12_lord 54 = .ok (.ireturn, 1) := by decide +kernel
theorem dX12_lord_55 : decode cX12_lord 55 = .ok (.bipush 9, 2) := by decide +kernel
theorem dX12_lord_57 : decode cX12_lord 57 = .ok (.bipush 6, 2) := by decide +kernel
theorem dX12_lord_59 : decode cX12_lord 59 = .ok (.iload_n 3, 1) := by decide +kernel
theorem dX12_lord_60 : decode cX12_lord 60 = .ok (.imul, 1) := by decide +kernel
theorem dX12_lord_61 : decode cX12_lord 61 = .ok (.iadd, 1) := by decide +kernel
theorem dX12_lord_62 : decode cX12_lord 62 = .ok (.istore 4, 2) := by decide +kernel
theorem dX12_lord_64 : decode cX12_lord 64 = .ok (.aload_n 0, 1) := by decide +kernel
theorem dX12_lord_65 : decode cX12_lord 65 = .ok (.getfield 13, 3) := by decide +kernel
theorem dX12_lord_68 : decode cX12_lord 68 = .ok (.iload 4, 2) := by decide +kernel
theorem dX12_lord_70 : decode cX12_lord 70 = .ok (.iload_n 1, 1) := by decide +kernel
theorem dX12_lord_71 : decode cX12_lord 71 = .ok (.iastore, 1) := by decide +kernel
theorem dX12_lord_72 : decode cX12_lord 72 = .ok (.aload_n 0, 1) := by decide +kernel
theorem dX12_lord_73 : decode cX12_lord 73 = .ok (.getfield 13, 3) := by decide +kernel
theorem dX12_lord_76 : decode cX12_lord 76 = .ok (.iload 4, 2) := by decide +kernel
theorem dX12_lord_78 : decode cX12_lord 78 = .ok (.iconst 1, 1) := by decide +kernel
theorem dX12_lord_79 : decode cX12_lord 79 = .ok (.iadd, 1) := by decide +kernel
theorem dX12_lord_80 : decode cX12_lord 80 = .ok (.iload_n 2, 1) := by decide +kernel
theorem dX12_lord_81 : decode cX12_lord 81 = .ok (.iastore, 1) := by decide +kernel
theorem dX12_lord_82 : decode cX12_lord 82 = .ok (.iconst 2, 1) := by decide +kernel
theorem dX12_lord_83 : decode cX12_lord 83 = .ok (.istore 5, 2) := by decide +kernel
theorem dX12_lord_85 : decode cX12_lord 85 = .ok (.iload 5, 2) := by decide +kernel
theorem dX12_lord_87 : decode cX12_lord 87 = .ok (.bipush 6, 2) := by decide +kernel
theorem dX12_lord_89 : decode cX12_lord 89 = .ok (.if_icmp .ge 20, 3) := by decide +kernel
theorem dX12_lord_92 : decode cX12_lord 92 = .ok (.aload_n 0, 1) := by decide +kernel
theorem dX12_lord_93 : decode cX12_lord 93 = .ok (.getfield 13, 3) := by decide +kernel
theorem dX12_lord_96 : decode cX12_lord 96 = .ok (.iload 4, 2) := by decide +kernel
theorem dX12_lord_98 : decode cX12_lord 98 = .ok (.iload 5, 2) := by decide +kernel
theorem dX12_lord_100 : decode cX12_lord 100 = .ok (.iadd, 1) := by decide +kernel
theorem dX12_lord_101 : decode cX12_lord 101 = .ok (.iconst 0, 1) := by decide +kernel
theorem dX12_lord_102 : decode cX12_lord 102 = .ok (.iastore, 1) := by decide +kernel
theorem dX12_lord_103 : decode cX12_lord 103 = .ok (.iinc 5 1, 3) := by decide +kernel
theorem dX12_lord_106 : decode cX12_lord 106 = .ok (.goto (-21), 3) := by decide +kernel
theorem dX12_lord_109 : decode cX12_lord 109 = .ok (.aload_n 0, 1) := by decide +kernel
theorem dX12_lord_110 : decode cX12_lord 110 = .ok (.getfield 13, 3) := by decide +kernel
theorem dX12_lord_113 : decode cX12_lord 113 = .ok (.iconst 0, 1) := by decide +kernel
theorem dX12_lord_114 : decode cX12_lord 114 = .ok (.dup2, 1) := by decide +kernel
theorem dX12_lord_115 : decode cX12_lord 115 = .ok (.iaload, 1) := by decide +kernel
theorem dX12_lord_116 : decode cX12_lord 116 = .ok (.iconst 1, 1) := by decide +kernel
theorem dX12_lord_117 : decode cX12_lord 117 = .ok (.iadd, 1) := by decide +kernel
theorem dX12_lord_118 : decode cX12_lord 118 = .ok (.iastore, 1) := by decide +kernel
theorem dX12_lord_119 : decode cX12_lord 119 = .ok (.aload_n 0, 1) := by decide +kernel
theorem dX12_lord_120 : decode cX12_lord 120 = .ok (.iload_n 3, 1) := by decide +kernel
theorem dX12_lord_121 : decode cX12_lord 121 = .ok (.invokevirtual 183, 3) := by decide +kernel
theorem dX12_lord_124 : decode cX12_lord 124 = .ok (.ireturn, 1) := by decide +kernel
theorem dX12_of_0 : decode cX12_of 0 = .ok (.aload_n 0, 1) := by decide +kernel
theorem dX12_of_1 : decode cX12_of 1 = .ok (.iconst 0, 1) := by decide +kernel
theorem dX12_of_2 : decode cX12_of 2 = .ok (.putfield 166, 3) := by decide +kernel
theorem dX12_of_5 : decode cX12_of 5 = .ok (.aload_n 0, 1) := by decide +kernel
theorem dX12_of_6 : decode cX12_of 6 = .ok (.iload_n 1, 1) := by decide +kernel
theorem dX12_of_7 : decode cX12_of 7 = .ok (.invokevirtual 198, 3) := by decide +kernel
theorem dX12_of_10 : decode cX12_of 10 = .ok (.ifCond .eq 15, 3) := by decide +kernel
theorem dX12_of_13 : decode cX12_of 13 = .ok (.iload_n 2, 1) := by decide +kernel
theorem dX12_of_14 : decode cX12_of 14 = .ok (.i2l, 1) := by decide +kernel
theorem dX12_of_15 : decode cX12_of 15 = .ok (.lconst 0, 1) := by decide +kernel
theorem dX12_of_16 : decode cX12_of 16 = .ok (.ldc2_w 202, 3) := by decide +kernel
theorem dX12_of_19 : decode cX12_of 19 = .ok (.invokestatic 179, 3) := by decide +kernel
theorem dX12_of_22 : decode cX12_of 22 = .ok (.ifCond .ne 5, 3) := by decide +kernel
theorem dX12_of_25 : decode cX12_of 25 = .ok (.iconst (-1), 1) := by decide +kernel
theorem dX12_of_26 : decode cX12_of 26 = .ok (.ireturn, 1) := by decide +kernel
theorem dX12_of_27 : decode cX12_of 27 = .ok (.iload_n 2, 1) := by decide +kernel
theorem dX12_of_28 : decode cX12_of 28 = .ok (.bipush 6, 2) := by decide +kernel
theorem dX12_of_30 : decode cX12_of 30 = .ok (.if_icmp .ge 12, 3) := by decide +kernel
theorem dX12_of_33 : decode cX12_of 33 = .ok (.aload_n 0, 1) := by decide +kernel
theorem dX12_of_34 : decode cX12_of 34 = .ok (.iload_n 1, 1) := by decide +kernel
theorem dX12_of_35 : decode cX12_of 35 = .ok (.iload_n 2, 1) := by decide +kernel
theorem dX12_of_36 : decode cX12_of 36 = .ok (.invokevirtual 204, 3) := by decide +kernel
theorem dX12_of_39 : decode cX12_of 39 = .ok (.goto 26, 3) := by decide +kernel
theorem dX12_of_42 : decode cX12_of 42 = .ok (.iload_n 2, 1) := by decide +kernel
theorem dX12_of_43 : decode cX12_of 43 = .ok (.bipush 6, 2) := by decide +kernel
theorem dX12_of_45 : decode cX12_of 45 = .ok (.if_icmp .ne 11, 3) := by decide +kernel
theorem dX12_of_48 : decode cX12_of 48 = .ok (.aload_n 0, 1) := by decide +kernel
theorem dX12_of_49 : decode cX12_of 49 = .ok (.iload_n 1, 1) := by decide +kernel
theorem dX12_of_50 : decode cX12_of 50 = .ok (.invokevirtual 207, 3) := by decide +kernel
theorem dX12_of_53 : decode cX12_of 53 = .ok (.goto 12, 3) := by decide +kernel
theorem dX12_of_56 : decode cX12_of 56 = .ok (.aload_n 0, 1) := by decide +kernel
theorem dX12_of_57 : decode cX12_of 57 = .ok (.iload_n 1, 1) := by decide +kernel
theorem dX12_of_58 : decode cX12_of 58 = .ok (.aload_n 0, 1) := by decide +kernel
theorem dX12_of_59 : decode cX12_of 59 = .ok (.invokevirtual 210, 3) := by decide +kernel
theorem dX12_of_62 : decode cX12_of 62 = .ok (.invokevirtual 214, 3) := by decide +kernel
theorem dX12_of_65 : decode cX12_of 65 = .ok (.ireturn, 1) := by decide +kernel
theorem dX12_ones_0 : decode cX12_ones 0 = .ok (.iconst 0, 1) := by decide +kernel
theorem dX12_ones_1 : decode cX12_ones 1 = .ok (.istore_n 1, 1) := by decide +kernel
theorem dX12_ones_2 : decode cX12_ones 2 = .ok (.iconst 0, 1) := by decide +kernel
theorem dX12_ones_3 : decode cX12_ones 3 = .ok (.istore_n 2, 1) := by decide +kernel
theorem dX12_ones_4 : decode cX12_ones 4 = .ok (.iload_n 2, 1) := by decide +kernel
theorem dX12_ones_5 : decode cX12_ones 5 = .ok (.bipush 16, 2) := by decide +kernel
theorem dX12_ones_7 : decode cX12_ones 7 = .ok (.if_icmp .ge 17, 3) := by decide +kernel
theorem dX12_ones_10 : decode cX12_ones 10 = .ok (.iload_n 1, 1) := by decide +kernel
theorem dX12_ones_11 : decode cX12_ones 11 = .ok (.iload_n 0, 1) := by decide +kernel
theorem dX12_ones_12 : decode cX12_ones 12 = .ok (.iload_n 2, 1) := by decide +kernel
theorem dX12_ones_13 : decode cX12_ones 13 = .ok (.ishr, 1) := by decide +kernel
theorem dX12_ones_14 : decode cX12_ones 14 = .ok (.iconst 1, 1) := by decide +kernel
theorem dX12_ones_15 : decode cX12_ones 15 = .ok (.iand, 1) := by decide +kernel
theorem dX12_ones_16 : decode cX12_ones 16 = .ok (.iadd, 1) := by decide +kernel
theorem dX12_ones_17 : decode cX12_ones 17 = .ok (.istore_n 1, 1) := by decide +kernel
theorem dX12_ones_18 : decode cX12_ones 18 = .ok (.iinc 2 1, 3) := by decide +kernel
theorem dX12_ones_21 : decode cX12_ones 21 = .ok (.goto (-17), 3) := by decide +kernel
theorem dX12_ones_24 : decode cX12_ones 24 = .ok (.iload_n 1, 1) := by decide +kernel
theorem dX12_ones_25 : decode cX12_ones 25 = .ok (.ireturn, 1) := by decide +kernel
theorem dX12_readSum_0 : decode cX12_readSum 0 = .ok (.aload_n 0, 1) := by decide +kernel
theorem dX12_readSum_1 : decode cX12_readSum 1 = .ok (.getfield 157, 3) := by decide +kernel
theorem dX12_readSum_4 : decode cX12_readSum 4 = .ok (.iload_n 1, 1) := by decide +kernel
theorem dX12_readSum_5 : decode cX12_readSum 5 = .ok (.aload_n 0, 1) := by decide +kernel
