theorem dX7_gather_60 : decode cX7_gather 60 = .ok (.iinc 6 1, 3) := by decide +kernel
theorem dX7_gather_63 : decode cX7_gather 63 = .ok (.goto (-33), 3) := by decide +kernel
theorem dX7_gather_66 : decode cX7_gather 66 = .ok (.aload_n 0, 1) := by decide +kernel
theorem dX7_gather_67 : decode cX7_gather 67 = .ok (.iconst 0, 1) := by decide +kernel
theorem dX7_gather_68 : decode cX7_gather 68 = .ok (.putfield 24, 3) := by decide +kernel
theorem dX7_gather_71 : decode cX7_gather 71 = .ok (.iconst 0, 1) := by decide +kernel
theorem dX7_gather_72 : decode cX7_gather 72 = .ok (.istore 6, 2) := by decide +kernel
theorem dX7_gather_74 : decode cX7_gather 74 = .ok (.iconst 0, 1) := by decide +kernel
theorem dX7_gather_75 : decode cX7_gather 75 = .ok (.istore 7, 2) := by decide +kernel
theorem dX7_gather_77 : decode cX7_gather 77 = .ok (.iload 7, 2) := by decide +kernel
theorem dX7_gather_79 : decode cX7_gather 79 = .ok (.aload_n 1, 1) := by decide +kernel
theorem dX7_gather_80 : decode cX7_gather 80 = .ok (.iconst 1, 1) := by decide +kernel
theorem dX7_gather_81 : decode cX7_gather 81 = .ok (.invokevirtual 81, 3) := by decide +kernel
theorem dX7_gather_84 : decode cX7_gather 84 = .ok (.if_icmp .ge 135, 3) := by decide +kernel
theorem dX7_gather_87 : decode cX7_gather 87 = .ok (.iload 6, 2) := by decide +kernel
theorem dX7_gather_89 : decode cX7_gather 89 = .ok (.bipush 10, 2) := by decide +kernel
theorem dX7_gather_91 : decode cX7_gather 91 = .ok (.if_icmp .ge 128, 3) := by decide +kernel
theorem dX7_gather_94 : decode cX7_gather 94 = .ok (.aload_n 1, 1) := by decide +kernel
theorem dX7_gather_95 : decode cX7_gather 95 = .ok (.iload 7, 2) := by decide +kernel
theorem dX7_gather_97 : decode cX7_gather 97 = .ok (.iload_n 2, 1) := by decide +kernel
theorem dX7_gather_98 : decode cX7_gather 98 = .ok (.invokevirtual 83, 3) := by decide +kernel
theorem dX7_gather_101 : decode cX7_gather 101 = .ok (.ifCond .eq 112, 3) := by decide +kernel
theorem dX7_gather_104 : decode cX7_gather 104 = .ok (.iinc 6 1, 3) := by decide +kernel
theorem dX7_gather_107 : decode cX7_gather 107 = .ok (.aload_n 0, 1) := by decide +kernel
theorem dX7_gather_108 : decode cX7_gather 108 = .ok (.getfield 34, 3) := by decide +kernel
theorem dX7_gather_111 : decode cX7_gather 111 = .ok (.aload_n 1, 1) := by decide +kernel
theorem dX7_gather_112 : decode cX7_gather 112 = .ok (.iload 7, 2) := by decide +kernel
theorem dX7_gather_114 : decode cX7_gather 114 = .ok (.iload_n 2, 1) := by decide +kernel
theorem dX7_gather_115 : decode cX7_gather 115 = .ok (.iload_n 3, 1) := by decide +kernel
theorem dX7_gather_116 : decode cX7_gather 116 = .ok (.invokevirtual 87, 3) := by decide +kernel
theorem dX7_gather_119 : decode cX7_gather 119 = .ok (.ifCond .ne 94, 3) := by decide +kernel
theorem dX7_gather_122 : decode cX7_gather 122 = .ok (.aload_n 0, 1) := by decide +kernel
theorem dX7_gather_123 : decode cX7_gather 123 = .ok (.getfield 11, 3) := by decide +kernel
theorem dX7_gather_126 : decode cX7_gather 126 = .ok (.aload_n 0, 1) := by decide +kernel
theorem dX7_gather_127 : decode cX7_gather 127 = .ok (.getfield 24, 3) := by decide +kernel
theorem dX7_gather_130 : decode cX7_gather 130 = .ok (.iload 7, 2) := by decide +kernel
theorem dX7_gather_132 : decode cX7_gather 132 = .ok (.iastore, 1) := by decide +kernel
theorem dX7_gather_133 : decode cX7_gather 133 = .ok (.aload_n 0, 1) := by decide +kernel
theorem dX7_gather_134 : decode cX7_gather 134 = .ok (.getfield 15, 3) := by decide +kernel
theorem dX7_gather_137 : decode cX7_gather 137 = .ok (.aload_n 0, 1) := by decide +kernel
theorem dX7_gather_138 : decode cX7_gather 138 = .ok (.getfield 24, 3) := by decide +kernel
theorem dX7_gather_141 : decode cX7_gather 141 = .ok (.aload_n 0, 1) := by decide +kernel
theorem dX7_gather_142 : decode cX7_gather 142 = .ok (.getfield 34, 3) := by decide +kernel
theorem dX7_gather_145 : decode cX7_gather 145 = .ok (.aload_n 1, 1) := by decide +kernel
theorem dX7_gather_146 : decode cX7_gather 146 = .ok (.iload 7, 2) := by decide +kernel
theorem dX7_gather_148 : decode cX7_gather 148 = .ok (.iload_n 2, 1) := by decide +kernel
theorem dX7_gather_149 : decode cX7_gather 149 = .ok (.iload_n 3, 1) := by decide +kernel
theorem dX7_gather_150 : decode cX7_gather 150 = .ok (.invokevirtual 91, 3) := by decide +kernel
theorem dX7_gather_153 : decode cX7_gather 153 = .ok (.iastore, 1) := by decide +kernel
theorem dX7_gather_154 : decode cX7_gather 154 = .ok (.iconst 0, 1) := by decide +kernel
theorem dX7_gather_155 : decode cX7_gather 155 = .ok (.istore 8, 2) := by decide +kernel
theorem dX7_gather_157 : decode cX7_gather 157 = .ok (.iload 8, 2) := by decide +kernel
theorem dX7_gather_159 : decode cX7_gather 159 = .ok (.iload 4, 2) := by decide +kernel
theorem dX7_gather_161 : decode cX7_gather 161 = .ok (.if_icmp .ge 42, 3) := by decide +kernel
theorem dX7_gather_164 : decode cX7_gather 164 = .ok (.aload_n 0, 1) := by decide +kernel
theorem dX7_gather_165 : decode cX7_gather 165 = .ok (.getfield 18, 3) := by decide +kernel
theorem dX7_gather_168 : decode cX7_gather 168 = .ok (.aload_n 0, 1) := by decide +kernel
theorem dX7_gather_169 : decode cX7_gather 169 = .ok (.getfield 24, 3) := by decide +kernel
theorem dX7_gather_172 : decode cX7_gather 172 = .ok (.bipush 9, 2) := by decide +kernel
theorem dX7_gather_174 : decode cX7_gather 174 = .ok (.imul, 1) := by decide +kernel
theorem dX7_gather_175 : decode cX7_gather 175 = .ok (.iload 8, 2) := by decide +kernel
theorem dX7_gather_177 : decode cX7_gather 177 = .ok (.iadd, 1) := by decide +kernel
theorem dX7_gather_178 : decode cX7_gather 178 = .ok (.aload_n 0, 1) := by decide +kernel
theorem dX7_gather_179 : decode cX7_gather 179 = .ok (.getfield 34, 3) := by decide +kernel
theorem dX7_gather_182 : decode cX7_gather 182 = .ok (.aload_n 1, 1) := by decide +kernel
theorem dX7_gather_183 : decode cX7_gather 183 = .ok (.iload 7, 2) := by decide +kernel
theorem dX7_gather_185 : decode cX7_gather 185 = .ok (.iload_n 3, 1) := by decide +kernel
theorem dX7_gather_186 : decode cX7_gather 186 = .ok (.iload 5, 2) := by decide +kernel
theorem dX7_gather_188 : decode cX7_gather 188 = .ok (.iconst 1, 1) := by decide +kernel
theorem dX7_gather_189 : decode cX7_gather 189 = .ok (.iadd, 1) := by decide +kernel
theorem dX7_gather_190 : decode cX7_gather 190 = .ok (.iload 8, 2) := by decide +kernel
theorem dX7_gather_192 : decode cX7_gather 192 = .ok (.iadd, 1) := by decide +kernel
theorem dX7_gather_193 : decode cX7_gather 193 = .ok (.invokevirtual 95, 3) := by decide +kernel
theorem dX7_gather_196 : decode cX7_gather 196 = .ok (.iastore, 1) := by decide +kernel
theorem dX7_gather_197 : decode cX7_gather 197 = .ok (.iinc 8 1, 3) := by decide +kernel
theorem dX7_gather_200 : decode cX7_gather 200 = .ok (.goto (-43), 3) := by decide +kernel
theorem dX7_gather_203 : decode cX7_gather 203 = .ok (.aload_n 0, 1) := by decide +kernel
theorem dX7_gather_204 : decode cX7_gather 204 = .ok (.dup, 1) := by decide +kernel
theorem dX7_gather_205 : decode cX7_gather 205 = .ok (.getfield 24, 3) := by decide +kernel
theorem dX7_gather_208 : decode cX7_gather 208 = .ok (.iconst 1, 1) := by decide +kernel
theorem dX7_gather_209 : decode cX7_gather 209 = .ok (.iadd, 1) := by decide +kernel
theorem dX7_gather_210 : decode cX7_gather 210 = .ok (.putfield 24, 3) := by decide +kernel
theorem dX7_gather_213 : decode cX7_gather 213 = .ok (.iinc 7 1, 3) := by decide +kernel
theorem dX7_gather_216 : decode cX7_gather 216 = .ok (.goto (-139), 3) := by decide +kernel
theorem dX7_gather_219 : decode cX7_gather 219 = .ok (.return_, 1) := by decide +kernel
theorem dX7_answer_0 : decode cX7_answer 0 = .ok (.aload_n 1, 1) := by decide +kernel
theorem dX7_answer_1 : decode cX7_answer 1 = .ok (.iload_n 2, 1) := by decide +kernel
theorem dX7_answer_2 : decode cX7_answer 2 = .ok (.invokevirtual 38, 3) := by decide +kernel
theorem dX7_answer_5 : decode cX7_answer 5 = .ok (.ifCond .ne 22, 3) := by decide +kernel
theorem dX7_answer_8 : decode cX7_answer 8 = .ok (.aload_n 1, 1) := by decide +kernel
theorem dX7_answer_9 : decode cX7_answer 9 = .ok (.iload_n 3, 1) := by decide +kernel
theorem dX7_answer_10 : decode cX7_answer 10 = .ok (.invokevirtual 38, 3) := by decide +kernel
theorem dX7_answer_13 : decode cX7_answer 13 = .ok (.ifCond .ne 14, 3) := by decide +kernel
theorem dX7_answer_16 : decode cX7_answer 16 = .ok (.iload 5, 2) := by decide +kernel
theorem dX7_answer_18 : decode cX7_answer 18 = .ok (.ifCond .lt 9, 3) := by decide +kernel
theorem dX7_answer_21 : decode cX7_answer 21 = .ok (.iload 5, 2) := by decide +kernel
theorem dX7_answer_23 : decode cX7_answer 23 = .ok (.iconst 2, 1) := by decide +kernel
theorem dX7_answer_24 : decode cX7_answer 24 = .ok (.if_icmp .le 5, 3) := by decide +kernel
theorem dX7_answer_27 : decode cX7_answer 27 = .ok (.iconst (-1), 1) := by decide +kernel
theorem dX7_answer_28 : decode cX7_answer 28 = .ok (.ireturn, 1) := by decide +kernel
theorem dX7_answer_29 : decode cX7_answer 29 = .ok (.aload_n 0, 1) := by decide +kernel
theorem dX7_answer_30 : decode cX7_answer 30 = .ok (.aload_n 1, 1) := by decide +kernel
theorem dX7_answer_31 : decode cX7_answer 31 = .ok (.iload_n 2, 1) := by decide +kernel
theorem dX7_answer_32 : decode cX7_answer 32 = .ok (.iload_n 3, 1) := by decide +kernel
theorem dX7_answer_33 : decode cX7_answer 33 = .ok (.iload 4, 2) := by decide +kernel
theorem dX7_answer_35 : decode cX7_answer 35 = .ok (.invokevirtual 63, 3) := by decide +kernel
theorem dX7_answer_38 : decode cX7_answer 38 = .ok (.aload_n 0, 1) := by decide +kernel
theorem dX7_answer_39 : decode cX7_answer 39 = .ok (.iload 4, 2) := by decide +kernel
theorem dX7_answer_41 : decode cX7_answer 41 = .ok (.invokevirtual 67, 3) := by decide +kernel
theorem dX7_answer_44 : decode cX7_answer 44 = .ok (.istore 6, 2) := by decide +kernel
theorem dX7_answer_46 : decode cX7_answer 46 = .ok (.iload 6, 2) := by decide +kernel
theorem dX7_answer_48 : decode cX7_answer 48 = .ok (.iconst (-1), 1) := by decide +kernel
theorem dX7_answer_49 : decode cX7_answer 49 = .ok (.if_icmp .ne 5, 3) := by decide +kernel
theorem dX7_answer_52 : decode cX7_answer 52 = .ok (.iconst (-1), 1) := by decide +kernel
theorem dX7_answer_53 : decode cX7_answer 53 = .ok (.ireturn, 1) := by decide +kernel
theorem dX7_answer_54 : decode cX7_answer 54 = .ok (.iload 5, 2) := by decide +kernel
theorem dX7_answer_56 : decode cX7_answer 56 = .ok (.ifCond .ne 11, 3) := by decide +kernel
theorem dX7_answer_59 : decode cX7_answer 59 = .ok (.iload 6, 2) := by decide +kernel
theorem dX7_answer_61 : decode cX7_answer 61 = .ok (.invokestatic 70, 3) := by decide +kernel
theorem dX7_answer_64 : decode cX7_answer 64 = .ok (.goto 24, 3) := by decide +kernel
theorem dX7_answer_67 : decode cX7_answer 67 = .ok (.iload 5, 2) := by decide +kernel
theorem dX7_answer_69 : decode cX7_answer 69 = .ok (.iconst 1, 1) := by decide +kernel
theorem dX7_answer_70 : decode cX7_answer 70 = .ok (.if_icmp .ne 12, 3) := by decide +kernel
theorem dX7_answer_73 : decode cX7_answer 73 = .ok (.aload_n 0, 1) := by decide +kernel
theorem dX7_answer_74 : decode cX7_answer 74 = .ok (.iload 6, 2) := by decide +kernel
theorem dX7_answer_76 : decode cX7_answer 76 = .ok (.invokevirtual 75, 3) := by decide +kernel
theorem dX7_answer_79 : decode cX7_answer 79 = .ok (.goto 9, 3) := by decide +kernel
theorem dX7_answer_82 : decode cX7_answer 82 = .ok (.aload_n 0, 1) := by decide +kernel
theorem dX7_answer_83 : decode cX7_answer 83 = .ok (.iload 6, 2) := by decide +kernel
theorem dX7_answer_85 : decode cX7_answer 85 = .ok (.invokevirtual 78, 3) := by decide +kernel
theorem dX7_answer_88 : decode cX7_answer 88 = .ok (.ireturn, 1) := by decide +kernel
theorem dX11_siege_0 : decode cX11_siege 0 = .ok (.aload_n 0, 1) := by decide +kernel
theorem dX11_siege_1 : decode cX11_siege 1 = .ok (.getfield 10, 3) := by decide +kernel
theorem dX11_siege_4 : decode cX11_siege 4 = .ok (.iload_n 1, 1) := by decide +kernel
theorem dX11_siege_5 : decode cX11_siege 5 = .ok (.invokevirtual 121, 3) := by decide +kernel
theorem dX11_siege_8 : decode cX11_siege 8 = .ok (.ifCond .eq 29, 3) := by decide +kernel
theorem dX11_siege_11 : decode cX11_siege 11 = .ok (.aload_n 0, 1) := by decide +kernel
theorem dX11_siege_12 : decode cX11_siege 12 = .ok (.getfield 10, 3) := by decide +kernel
theorem dX11_siege_15 : decode cX11_siege 15 = .ok (.iload_n 2, 1) := by decide +kernel
theorem dX11_siege_16 : decode cX11_siege 16 = .ok (.invokevirtual 121, 3) := by decide +kernel
theorem dX11_siege_19 : decode cX11_siege 19 = .ok (.ifCond .eq 18, 3) := by decide +kernel
theorem dX11_siege_22 : decode cX11_siege 22 = .ok (.iload_n 1, 1) := by decide +kernel
theorem dX11_siege_23 : decode cX11_siege 23 = .ok (.iload_n 2, 1) := by decide +kernel
theorem dX11_siege_24 : decode cX11_siege 24 = .ok (.if_icmp .eq 13, 3) := by decide +kernel
theorem dX11_siege_27 : decode cX11_siege 27 = .ok (.iload_n 3, 1) := by decide +kernel
theorem dX11_siege_28 : decode cX11_siege 28 = .ok (.iconst 1, 1) := by decide +kernel
theorem dX11_siege_29 : decode cX11_siege 29 = .ok (.bipush 9, 2) := by decide +kernel
theorem dX11_siege_31 : decode cX11_siege 31 = .ok (.invokestatic 100, 3) := by decide +kernel
theorem dX11_siege_34 : decode cX11_siege 34 = .ok (.ifCond .ne 5, 3) := by decide +kernel
theorem dX11_siege_37 : decode cX11_siege 37 = .ok (.iconst (-1), 1) := by decide +kernel
theorem dX11_siege_38 : decode cX11_siege 38 = .ok (.ireturn, 1) := by decide +kernel
theorem dX11_siege_39 : decode cX11_siege 39 = .ok (.aload_n 0, 1) := by decide +kernel
theorem dX11_siege_40 : decode cX11_siege 40 = .ok (.getfield 71, 3) := by decide +kernel
theorem dX11_siege_43 : decode cX11_siege 43 = .ok (.aload_n 0, 1) := by decide +kernel
theorem dX11_siege_44 : decode cX11_siege 44 = .ok (.getfield 10, 3) := by decide +kernel
theorem dX11_siege_47 : decode cX11_siege 47 = .ok (.iload_n 1, 1) := by decide +kernel
theorem dX11_siege_48 : decode cX11_siege 48 = .ok (.iload_n 2, 1) := by decide +kernel
theorem dX11_siege_49 : decode cX11_siege 49 = .ok (.iload_n 3, 1) := by decide +kernel
theorem dX11_siege_50 : decode cX11_siege 50 = .ok (.iload 4, 2) := by decide +kernel
theorem dX11_siege_52 : decode cX11_siege 52 = .ok (.invokevirtual 260, 3) := by decide +kernel
theorem dX11_siege_55 : decode cX11_siege 55 = .ok (.ireturn, 1) := by decide +kernel
theorem dX11_status_0 : decode cX11_status 0 = .ok (.aload_n 0, 1) := by decide +kernel
theorem dX11_status_1 : decode cX11_status 1 = .ok (.getfield 93, 3) := by decide +kernel
theorem dX11_status_4 : decode cX11_status 4 = .ok (.ireturn, 1) := by decide +kernel
theorem dX3_stoppedAt_0 : decode cX3_stoppedAt 0 = .ok (.aload_n 0, 1) := by decide +kernel
theorem dX3_stoppedAt_1 : decode cX3_stoppedAt 1 = .ok (.getfield 34, 3) := by decide +kernel
theorem dX3_stoppedAt_4 : decode cX3_stoppedAt 4 = .ok (.ireturn, 1) := by decide +kernel
theorem dX11_stopped_0 : decode cX11_stopped 0 = .ok (.aload_n 0, 1) := by decide +kernel
theorem dX11_stopped_1 : decode cX11_stopped 1 = .ok (.getfield 57, 3) := by decide +kernel
theorem dX11_stopped_4 : decode cX11_stopped 4 = .ok (.invokevirtual 207, 3) := by decide +kernel
theorem dX11_stopped_7 : decode cX11_stopped 7 = .ok (.ireturn, 1) := by decide +kernel
theorem dX11_tells_0 : decode cX11_tells 0 = .ok (.aload_n 0, 1) := by decide +kernel
theorem dX11_tells_1 : decode cX11_tells 1 = .ok (.getfield 10, 3) := by decide +kernel
theorem dX11_tells_4 : decode cX11_tells 4 = .ok (.iconst 2, 1) := by decide +kernel
theorem dX11_tells_5 : decode cX11_tells 5 = .ok (.invokevirtual 108, 3) := by decide +kernel
theorem dX11_tells_8 : decode cX11_tells 8 = .ok (.istore_n 3, 1) := by decide +kernel
theorem dX11_tells_9 : decode cX11_tells 9 = .ok (.iload_n 3, 1) := by decide +kernel
theorem dX11_tells_10 : decode cX11_tells 10 = .ok (.ifCond .eq 25, 3) := by decide +kernel
theorem dX11_tells_13 : decode cX11_tells 13 = .ok (.aload_n 0, 1) := by decide +kernel
theorem dX11_tells_14 : decode cX11_tells 14 = .ok (.getfield 10, 3) := by decide +kernel
theorem dX11_tells_17 : decode cX11_tells 17 = .ok (.iload_n 2, 1) := by decide +kernel
theorem dX11_tells_18 : decode cX11_tells 18 = .ok (.invokevirtual 146, 3) := by decide +kernel
theorem dX11_tells_21 : decode cX11_tells 21 = .ok (.ifCond .eq 14, 3) := by decide +kernel
theorem dX11_tells_24 : decode cX11_tells 24 = .ok (.iload_n 1, 1) := by decide +kernel
theorem dX11_tells_25 : decode cX11_tells 25 = .ok (.iconst (-1), 1) := by decide +kernel
theorem dX11_tells_26 : decode cX11_tells 26 = .ok (.iload_n 3, 1) := by decide +kernel
theorem dX11_tells_27 : decode cX11_tells 27 = .ok (.iconst 1, 1) := by decide +kernel
theorem dX11_tells_28 : decode cX11_tells 28 = .ok (.isub, 1) := by decide +kernel
theorem dX11_tells_29 : decode cX11_tells 29 = .ok (.invokestatic 100, 3) := by decide +kernel
theorem dX11_tells_32 : decode cX11_tells 32 = .ok (.ifCond .ne 5, 3) := by decide +kernel
theorem dX11_tells_35 : decode cX11_tells 35 = .ok (.iconst (-1), 1) := by decide +kernel
theorem dX11_tells_36 : decode cX11_tells 36 = .ok (.ireturn, 1) := by decide +kernel
theorem dX11_tells_37 : decode cX11_tells 37 = .ok (.iload_n 1, 1) := by decide +kernel
theorem dX11_tells_38 : decode cX11_tells 38 = .ok (.iconst (-1), 1) := by decide +kernel
theorem dX11_tells_39 : decode cX11_tells 39 = .ok (.if_icmp .ne 18, 3) := by decide +kernel
theorem dX11_tells_42 : decode cX11_tells 42 = .ok (.aload_n 0, 1) := by decide +kernel
theorem dX11_tells_43 : decode cX11_tells 43 = .ok (.getfield 39, 3) := by decide +kernel
theorem dX11_tells_46 : decode cX11_tells 46 = .ok (.aload_n 0, 1) := by decide +kernel
theorem dX11_tells_47 : decode cX11_tells 47 = .ok (.getfield 10, 3) := by decide +kernel
theorem dX11_tells_50 : decode cX11_tells 50 = .ok (.iload_n 2, 1) := by decide +kernel
theorem dX11_tells_51 : decode cX11_tells 51 = .ok (.invokevirtual 266, 3) := by decide +kernel
theorem dX11_tells_54 : decode cX11_tells 54 = .ok (.goto 16, 3) := by decide +kernel
theorem dX11_tells_57 : decode cX11_tells 57 = .ok (.aload_n 0, 1) := by decide +kernel
theorem dX11_tells_58 : decode cX11_tells 58 = .ok (.getfield 39, 3) := by decide +kernel
theorem dX11_tells_61 : decode cX11_tells 61 = .ok (.aload_n 0, 1) := by decide +kernel
theorem dX11_tells_62 : decode cX11_tells 62 = .ok (.getfield 10, 3) := by decide +kernel
theorem dX11_tells_65 : decode cX11_tells 65 = .ok (.iload_n 1, 1) := by decide +kernel
theorem dX11_tells_66 : decode cX11_tells 66 = .ok (.iload_n 2, 1) := by decide +kernel
theorem dX11_tells_67 : decode cX11_tells 67 = .ok (.invokevirtual 269, 3) := by decide +kernel
theorem dX11_tells_70 : decode cX11_tells 70 = .ok (.ireturn, 1) := by decide +kernel
theorem dX11_terms_0 : decode cX11_terms 0 = .ok (.iload_n 1, 1) := by decide +kernel
theorem dX11_terms_1 : decode cX11_terms 1 = .ok (.ifCond .ne 14, 3) := by decide +kernel
theorem dX11_terms_4 : decode cX11_terms 4 = .ok (.iload_n 2, 1) := by decide +kernel
theorem dX11_terms_5 : decode cX11_terms 5 = .ok (.iconst 0, 1) := by decide +kernel
theorem dX11_terms_6 : decode cX11_terms 6 = .ok (.sipush 999, 3) := by decide +kernel
theorem dX11_terms_9 : decode cX11_terms 9 = .ok (.invokestatic 100, 3) := by decide +kernel
theorem dX11_terms_12 : decode cX11_terms 12 = .ok (.ifCond .ne 32, 3) := by decide +kernel
theorem dX11_terms_15 : decode cX11_terms 15 = .ok (.iload_n 1, 1) := by decide +kernel
theorem dX11_terms_16 : decode cX11_terms 16 = .ok (.iconst 1, 1) := by decide +kernel
theorem dX11_terms_17 : decode cX11_terms 17 = .ok (.if_icmp .ne 12, 3) := by decide +kernel
theorem dX11_terms_20 : decode cX11_terms 20 = .ok (.iload_n 2, 1) := by decide +kernel
theorem dX11_terms_21 : decode cX11_terms 21 = .ok (.iconst 1, 1) := by decide +kernel
theorem dX11_terms_22 : decode cX11_terms 22 = .ok (.iconst 3, 1) := by decide +kernel
theorem dX11_terms_23 : decode cX11_terms 23 = .ok (.invokestatic 100, 3) := by decide +kernel
theorem dX11_terms_26 : decode cX11_terms 26 = .ok (.ifCond .ne 18, 3) := by decide +kernel
theorem dX11_terms_29 : decode cX11_terms 29 = .ok (.iload_n 1, 1) := by decide +kernel
theorem dX11_terms_30 : decode cX11_terms 30 = .ok (.iconst 2, 1) := by decide +kernel
theorem dX11_terms_31 : decode cX11_terms 31 = .ok (.if_icmp .ne 17, 3) := by decide +kernel
theorem dX11_terms_34 : decode cX11_terms 34 = .ok (.iload_n 2, 1) := by decide +kernel
theorem dX11_terms_35 : decode cX11_terms 35 = .ok (.iconst 0, 1) := by decide +kernel
theorem dX11_terms_36 : decode cX11_terms 36 = .ok (.bipush 9, 2) := by decide +kernel
theorem dX11_terms_38 : decode cX11_terms 38 = .ok (.invokestatic 100, 3) := by decide +kernel
theorem dX11_terms_41 : decode cX11_terms 41 = .ok (.ifCond .eq 7, 3) := by decide +kernel
theorem dX11_terms_44 : decode cX11_terms 44 = .ok (.iconst 1, 1) := by decide +kernel
theorem dX11_terms_45 : decode cX11_terms 45 = .ok (.goto 4, 3) := by decide +kernel
theorem dX11_terms_48 : decode cX11_terms 48 = .ok (.iconst 0, 1) := by decide +kernel
theorem dX11_terms_49 : decode cX11_terms 49 = .ok (.istore_n 3, 1) := by decide +kernel
theorem dX11_terms_50 : decode cX11_terms 50 = .ok (.iload_n 3, 1) := by decide +kernel
theorem dX11_terms_51 : decode cX11_terms 51 = .ok (.ifCond .ne 9, 3) := by decide +kernel
theorem dX11_terms_54 : decode cX11_terms 54 = .ok (.aload_n 0, 1) := by decide +kernel
theorem dX11_terms_55 : decode cX11_terms 55 = .ok (.iconst (-1), 1) := by decide +kernel
theorem dX11_terms_56 : decode cX11_terms 56 = .ok (.invokevirtual 104, 3) := by decide +kernel
theorem dX11_terms_59 : decode cX11_terms 59 = .ok (.ireturn, 1) := by decide +kernel
theorem dX11_terms_60 : decode cX11_terms 60 = .ok (.aload_n 0, 1) := by decide +kernel
theorem dX11_terms_61 : decode cX11_terms 61 = .ok (.getfield 10, 3) := by decide +kernel
theorem dX11_terms_64 : decode cX11_terms 64 = .ok (.iload_n 1, 1) := by decide +kernel
theorem dX11_terms_65 : decode cX11_terms 65 = .ok (.invokevirtual 125, 3) := by decide +kernel
theorem dX11_terms_68 : decode cX11_terms 68 = .ok (.istore 4, 2) := by decide +kernel
theorem dX11_terms_70 : decode cX11_terms 70 = .ok (.aload_n 0, 1) := by decide +kernel
theorem dX11_terms_71 : decode cX11_terms 71 = .ok (.getfield 10, 3) := by decide +kernel
theorem dX11_terms_74 : decode cX11_terms 74 = .ok (.iload_n 1, 1) := by decide +kernel
theorem dX11_terms_75 : decode cX11_terms 75 = .ok (.iload_n 2, 1) := by decide +kernel
theorem dX11_terms_76 : decode cX11_terms 76 = .ok (.invokevirtual 156, 3) := by decide +kernel
theorem dX11_terms_79 : decode cX11_terms 79 = .ok (.aload_n 0, 1) := by decide +kernel
theorem dX11_terms_80 : decode cX11_terms 80 = .ok (.getfield 25, 3) := by decide +kernel
theorem dX11_terms_83 : decode cX11_terms 83 = .ok (.invokevirtual 111, 3) := by decide +kernel
theorem dX11_terms_86 : decode cX11_terms 86 = .ok (.aload_n 0, 1) := by decide +kernel
theorem dX11_terms_87 : decode cX11_terms 87 = .ok (.iload 4, 2) := by decide +kernel
theorem dX11_terms_89 : decode cX11_terms 89 = .ok (.invokevirtual 118, 3) := by decide +kernel
theorem dX11_terms_92 : decode cX11_terms 92 = .ok (.ireturn, 1) := by decide +kernel
theorem dX4_takeBack_0 : decode cX4_takeBack 0 = .ok (.aload_n 0, 1) := by decide +kernel
theorem dX4_takeBack_1 : decode cX4_takeBack 1 = .ok (.getfield 24, 3) := by decide +kernel
theorem dX4_takeBack_4 : decode cX4_takeBack 4 = .ok (.ifCond .gt 5, 3) := by decide +kernel
theorem dX4_takeBack_7 : decode cX4_takeBack 7 = .ok (.iconst (-1), 1) := by decide +kernel
theorem dX4_takeBack_8 : decode cX4_takeBack 8 = .ok (.ireturn, 1) := by decide +kernel
theorem dX4_takeBack_9 : decode cX4_takeBack 9 = .ok (.aload_n 0, 1) := by decide +kernel
theorem dX4_takeBack_10 : decode cX4_takeBack 10 = .ok (.dup, 1) := by decide +kernel
theorem dX4_takeBack_11 : decode cX4_takeBack 11 = .ok (.getfield 24, 3) := by decide +kernel
theorem dX4_takeBack_14 : decode cX4_takeBack 14 = .ok (.iconst 1, 1) := by decide +kernel
theorem dX4_takeBack_15 : decode cX4_takeBack 15 = .ok (.isub, 1) := by decide +kernel
theorem dX4_takeBack_16 : decode cX4_takeBack 16 = .ok (.putfield 24, 3) := by decide +kernel
theorem dX4_takeBack_19 : decode cX4_takeBack 19 = .ok (.aload_n 0, 1) := by decide +kernel
theorem dX4_takeBack_20 : decode cX4_takeBack 20 = .ok (.aload_n 0, 1) := by decide +kernel
theorem dX4_takeBack_21 : decode cX4_takeBack 21 = .ok (.getfield 20, 3) := by decide +kernel
theorem dX4_takeBack_24 : decode cX4_takeBack 24 = .ok (.bipush 16, 2) := by decide +kernel
theorem dX4_takeBack_26 : decode cX4_takeBack 26 = .ok (.iadd, 1) := by decide +kernel
theorem dX4_takeBack_27 : decode cX4_takeBack 27 = .ok (.iconst 1, 1) := by decide +kernel
theorem dX4_takeBack_28 : decode cX4_takeBack 28 = .ok (.isub, 1) := by decide +kernel
theorem dX4_takeBack_29 : decode cX4_takeBack 29 = .ok (.bipush 16, 2) := by decide +kernel
theorem dX4_takeBack_31 : decode cX4_takeBack 31 = .ok (.irem, 1) := by decide +kernel
theorem dX4_takeBack_32 : decode cX4_takeBack 32 = .ok (.putfield 20, 3) := by decide +kernel
theorem dX4_takeBack_35 : decode cX4_takeBack 35 = .ok (.aload_n 1, 1) := by decide +kernel
theorem dX4_takeBack_36 : decode cX4_takeBack 36 = .ok (.aload_n 0, 1) := by decide +kernel
theorem dX4_takeBack_37 : decode cX4_takeBack 37 = .ok (.getfield 13, 3) := by decide +kernel
theorem dX4_takeBack_40 : decode cX4_takeBack 40 = .ok (.aload_n 0, 1) := by decide +kernel
theorem dX4_takeBack_41 : decode cX4_takeBack 41 = .ok (.getfield 20, 3) := by decide +kernel
theorem dX4_takeBack_44 : decode cX4_takeBack 44 = .ok (.sipush 191, 3) := by decide +kernel
theorem dX4_takeBack_47 : decode cX4_takeBack 47 = .ok (.imul, 1) := by decide +kernel
theorem dX4_takeBack_48 : decode cX4_takeBack 48 = .ok (.invokevirtual 43, 3) := by decide +kernel
theorem dX4_takeBack_51 : decode cX4_takeBack 51 = .ok (.aload_n 0, 1) := by decide +kernel
theorem dX4_takeBack_52 : decode cX4_takeBack 52 = .ok (.getfield 17, 3) := by decide +kernel
theorem dX4_takeBack_55 : decode cX4_takeBack 55 = .ok (.aload_n 0, 1) := by decide +kernel
theorem dX4_takeBack_56 : decode cX4_takeBack 56 = .ok (.getfield 20, 3) := by decide +kernel
theorem dX4_takeBack_59 : decode cX4_takeBack 59 = .ok (.iaload, 1) := by decide +kernel
theorem dX4_takeBack_60 : decode cX4_takeBack 60 = .ok (.ireturn, 1) := by decide +kernel
theorem dX11_undo_0 : decode cX11_undo 0 = .ok (.aload_n 0, 1) := by decide +kernel
theorem dX11_undo_1 : decode cX11_undo 1 = .ok (.getfield 25, 3) := by decide +kernel
theorem dX11_undo_4 : decode cX11_undo 4 = .ok (.aload_n 0, 1) := by decide +kernel
theorem dX11_undo_5 : decode cX11_undo 5 = .ok (.getfield 10, 3) := by decide +kernel
theorem dX11_undo_8 : decode cX11_undo 8 = .ok (.invokevirtual 238, 3) := by decide +kernel
theorem dX11_undo_11 : decode cX11_undo 11 = .ok (.istore_n 1, 1) := by decide +kernel
theorem dX11_undo_12 : decode cX11_undo 12 = .ok (.iload_n 1, 1) := by decide +kernel
theorem dX11_undo_13 : decode cX11_undo 13 = .ok (.iconst (-1), 1) := by decide +kernel
theorem dX11_undo_14 : decode cX11_undo 14 = .ok (.if_icmp .ne 12, 3) := by decide +kernel
theorem dX11_undo_17 : decode cX11_undo 17 = .ok (.aload_n 0, 1) := by decide +kernel
theorem dX11_undo_18 : decode cX11_undo 18 = .ok (.bipush (-3), 2) := by decide +kernel
theorem dX11_undo_20 : decode cX11_undo 20 = .ok (.invokevirtual 104, 3) := by decide +kernel
theorem dX11_undo_23 : decode cX11_undo 23 = .ok (.goto 8, 3) := by decide +kernel
theorem dX11_undo_26 : decode cX11_undo 26 = .ok (.aload_n 0, 1) := by decide +kernel
theorem dX11_undo_27 : decode cX11_undo 27 = .ok (.iload_n 1, 1) := by decide +kernel
theorem dX11_undo_28 : decode cX11_undo 28 = .ok (.invokevirtual 118, 3) := by decide +kernel
theorem dX11_undo_31 : decode cX11_undo 31 = .ok (.ireturn, 1) := by decide +kernel
theorem dX9_draw_0 : decode cX9_draw 0 = .ok (.aload_n 0, 1) := by decide +kernel
theorem dX9_draw_1 : decode cX9_draw 1 = .ok (.aload_n 1, 1) := by decide +kernel
theorem dX9_draw_2 : decode cX9_draw 2 = .ok (.iconst 0, 1) := by decide +kernel
theorem dX9_draw_3 : decode cX9_draw 3 = .ok (.invokevirtual 51, 3) := by decide +kernel
theorem dX9_draw_6 : decode cX9_draw 6 = .ok (.bipush 6, 2) := by decide +kernel
theorem dX9_draw_8 : decode cX9_draw 8 = .ok (.invokestatic 55, 3) := by decide +kernel
theorem dX9_draw_11 : decode cX9_draw 11 = .ok (.putfield 24, 3) := by decide +kernel
theorem dX9_draw_14 : decode cX9_draw 14 = .ok (.aload_n 0, 1) := by decide +kernel
theorem dX9_draw_15 : decode cX9_draw 15 = .ok (.getfield 9, 3) := by decide +kernel
theorem dX9_draw_18 : decode cX9_draw 18 = .ok (.bipush 10, 2) := by decide +kernel
theorem dX9_draw_20 : decode cX9_draw 20 = .ok (.invokestatic 61, 3) := by decide +kernel
theorem dX9_draw_23 : decode cX9_draw 23 = .ok (.aload_n 0, 1) := by decide +kernel
theorem dX9_draw_24 : decode cX9_draw 24 = .ok (.getfield 15, 3) := by decide +kernel
theorem dX9_draw_27 : decode cX9_draw 27 = .ok (.iconst 0, 1) := by decide +kernel
theorem dX9_draw_28 : decode cX9_draw 28 = .ok (.invokestatic 61, 3) := by decide +kernel
theorem dX9_draw_31 : decode cX9_draw 31 = .ok (.iconst 0, 1) := by decide +kernel
theorem dX9_draw_32 : decode cX9_draw 32 = .ok (.istore_n 2, 1) := by decide +kernel
theorem dX9_draw_33 : decode cX9_draw 33 = .ok (.iload_n 2, 1) := by decide +kernel
theorem dX9_draw_34 : decode cX9_draw 34 = .ok (.aload_n 1, 1) := by decide +kernel
theorem dX9_draw_35 : decode cX9_draw 35 = .ok (.iconst 3, 1) := by decide +kernel
theorem dX9_draw_36 : decode cX9_draw 36 = .ok (.invokevirtual 51, 3) := by decide +kernel
theorem dX9_draw_39 : decode cX9_draw 39 = .ok (.if_icmp .ge 130, 3) := by decide +kernel
theorem dX9_draw_42 : decode cX9_draw 42 = .ok (.aload_n 1, 1) := by decide +kernel
theorem dX9_draw_43 : decode cX9_draw 43 = .ok (.iload_n 2, 1) := by decide +kernel
theorem dX9_draw_44 : decode cX9_draw 44 = .ok (.iconst 0, 1) := by decide +kernel
theorem dX9_draw_45 : decode cX9_draw 45 = .ok (.invokevirtual 67, 3) := by decide +kernel
theorem dX9_draw_48 : decode cX9_draw 48 = .ok (.istore_n 3, 1) := by decide +kernel
theorem dX9_draw_49 : decode cX9_draw 49 = .ok (.aload_n 1, 1) := by decide +kernel
theorem dX9_draw_50 : decode cX9_draw 50 = .ok (.iload_n 2, 1) := by decide +kernel
theorem dX9_draw_51 : decode cX9_draw 51 = .ok (.iconst 1, 1) := by decide +kernel
theorem dX9_draw_52 : decode cX9_draw 52 = .ok (.invokevirtual 67, 3) := by decide +kernel
theorem dX9_draw_55 : decode cX9_draw 55 = .ok (.istore 4, 2) := by decide +kernel
theorem dX9_draw_57 : decode cX9_draw 57 = .ok (.aload_n 1, 1) := by decide +kernel
theorem dX9_draw_58 : decode cX9_draw 58 = .ok (.iload_n 2, 1) := by decide +kernel
theorem dX9_draw_59 : decode cX9_draw 59 = .ok (.iconst 3, 1) := by decide +kernel
theorem dX9_draw_60 : decode cX9_draw 60 = .ok (.invokevirtual 67, 3) := by decide +kernel
theorem dX9_draw_63 : decode cX9_draw 63 = .ok (.istore 5, 2) := by decide +kernel
theorem dX9_draw_65 : decode cX9_draw 65 = .ok (.aload_n 1, 1) := by decide +kernel
theorem dX9_draw_66 : decode cX9_draw 66 = .ok (.iload_n 2, 1) := by decide +kernel
theorem dX9_draw_67 : decode cX9_draw 67 = .ok (.iconst 2, 1) := by decide +kernel
theorem dX9_draw_68 : decode cX9_draw 68 = .ok (.invokevirtual 67, 3) := by decide +kernel
theorem dX9_draw_71 : decode cX9_draw 71 = .ok (.istore 6, 2) := by decide +kernel
theorem dX9_draw_73 : decode cX9_draw 73 = .ok (.iload_n 3, 1) := by decide +kernel
theorem dX9_draw_74 : decode cX9_draw 74 = .ok (.bipush 6, 2) := by decide +kernel
theorem dX9_draw_76 : decode cX9_draw 76 = .ok (.imul, 1) := by decide +kernel
theorem dX9_draw_77 : decode cX9_draw 77 = .ok (.iload 4, 2) := by decide +kernel
theorem dX9_draw_79 : decode cX9_draw 79 = .ok (.iadd, 1) := by decide +kernel
theorem dX9_draw_80 : decode cX9_draw 80 = .ok (.istore 7, 2) := by decide +kernel
theorem dX9_draw_82 : decode cX9_draw 82 = .ok (.iload 5, 2) := by decide +kernel
theorem dX9_draw_84 : decode cX9_draw 84 = .ok (.aload_n 0, 1) := by decide +kernel
theorem dX9_draw_85 : decode cX9_draw 85 = .ok (.getfield 9, 3) := by decide +kernel
theorem dX9_draw_88 : decode cX9_draw 88 = .ok (.iload 7, 2) := by decide +kernel
theorem dX9_draw_90 : decode cX9_draw 90 = .ok (.iaload, 1) := by decide +kernel
theorem dX9_draw_91 : decode cX9_draw 91 = .ok (.if_icmp .lt 27, 3) := by decide +kernel
theorem dX9_draw_94 : decode cX9_draw 94 = .ok (.iload 5, 2) := by decide +kernel
theorem dX9_draw_96 : decode cX9_draw 96 = .ok (.aload_n 0, 1) := by decide +kernel
theorem dX9_draw_97 : decode cX9_draw 97 = .ok (.getfield 9, 3) := by decide +kernel
theorem dX9_draw_100 : decode cX9_draw 100 = .ok (.iload 7, 2) := by decide +kernel
theorem dX9_draw_102 : decode cX9_draw 102 = .ok (.iaload, 1) := by decide +kernel
theorem dX9_draw_103 : decode cX9_draw 103 = .ok (.if_icmp .ne 60, 3) := by decide +kernel
theorem dX9_draw_106 : decode cX9_draw 106 = .ok (.iload 6, 2) := by decide +kernel
theorem dX9_draw_108 : decode cX9_draw 108 = .ok (.aload_n 0, 1) := by decide +kernel
theorem dX9_draw_109 : decode cX9_draw 109 = .ok (.getfield 15, 3) := by decide +kernel
theorem dX9_draw_112 : decode cX9_draw 112 = .ok (.iload 7, 2) := by decide +kernel
theorem dX9_draw_114 : decode cX9_draw 114 = .ok (.iaload, 1) := by decide +kernel
theorem dX9_draw_115 : decode cX9_draw 115 = .ok (.if_icmp .ge 48, 3) := by decide +kernel
theorem dX9_draw_118 : decode cX9_draw 118 = .ok (.iload 4, 2) := by decide +kernel
theorem dX9_draw_120 : decode cX9_draw 120 = .ok (.bipush 6, 2) := by decide +kernel
theorem dX9_draw_122 : decode cX9_draw 122 = .ok (.imul, 1) := by decide +kernel
theorem dX9_draw_123 : decode cX9_draw 123 = .ok (.iload_n 3, 1) := by decide +kernel
theorem dX9_draw_124 : decode cX9_draw 124 = .ok (.iadd, 1) := by decide +kernel
theorem dX9_draw_125 : decode cX9_draw 125 = .ok (.istore 8, 2) := by decide +kernel
theorem dX9_draw_127 : decode cX9_draw 127 = .ok (.aload_n 0, 1) := by decide +kernel
theorem dX9_draw_128 : decode cX9_draw 128 = .ok (.getfield 9, 3) := by decide +kernel
theorem dX9_draw_131 : decode cX9_draw 131 = .ok (.iload 7, 2) := by decide +kernel
theorem dX9_draw_133 : decode cX9_draw 133 = .ok (.iload 5, 2) := by decide +kernel
theorem dX9_draw_135 : decode cX9_draw 135 = .ok (.iastore, 1) := by decide +kernel
theorem dX9_draw_136 : decode cX9_draw 136 = .ok (.aload_n 0, 1) := by decide +kernel
theorem dX9_draw_137 : decode cX9_draw 137 = .ok (.getfield 9, 3) := by decide +kernel
theorem dX9_draw_140 : decode cX9_draw 140 = .ok (.iload 8, 2) := by decide +kernel
theorem dX9_draw_142 : decode cX9_draw 142 = .ok (.iload 5, 2) := by decide +kernel
theorem dX9_draw_144 : decode cX9_draw 144 = .ok (.iastore, 1) := by decide +kernel
theorem dX9_draw_145 : decode cX9_draw 145 = .ok (.aload_n 0, 1) := by decide +kernel
theorem dX9_draw_146 : decode cX9_draw 146 = .ok (.getfield 15, 3) := by decide +kernel
theorem dX9_draw_149 : decode cX9_draw 149 = .ok (.iload 7, 2) := by decide +kernel
theorem dX9_draw_151 : decode cX9_draw 151 = .ok (.iload 6, 2) := by decide +kernel
theorem dX9_draw_153 : decode cX9_draw 153 = .ok (.iastore, 1) := by decide +kernel
theorem dX9_draw_154 : decode cX9_draw 154 = .ok (.aload_n 0, 1) := by decide +kernel
theorem dX9_draw_155 : decode cX9_draw 155 = .ok (.getfield 15, 3) := by decide +kernel
theorem dX9_draw_158 : decode cX9_draw 158 = .ok (.iload 8, 2) := by decide +kernel
theorem dX9_draw_160 : decode cX9_draw 160 = .ok (.iload 6, 2) := by decide +kernel
theorem dX9_draw_162 : decode cX9_draw 162 = .ok (.iastore, 1) := by decide +kernel
theorem dX9_draw_163 : decode cX9_draw 163 = .ok (.iinc 2 1, 3) := by decide +kernel
theorem dX9_draw_166 : decode cX9_draw 166 = .ok (.goto (-133), 3) := by decide +kernel
theorem dX9_draw_169 : decode cX9_draw 169 = .ok (.return_, 1) := by decide +kernel
theorem dX9_walk_0 : decode cX9_walk 0 = .ok (.aload_n 0, 1) := by decide +kernel
theorem dX9_walk_1 : decode cX9_walk 1 = .ok (.getfield 18, 3) := by decide +kernel
theorem dX9_walk_4 : decode cX9_walk 4 = .ok (.iload_n 1, 1) := by decide +kernel
theorem dX9_walk_5 : decode cX9_walk 5 = .ok (.iaload, 1) := by decide +kernel
theorem dX9_walk_6 : decode cX9_walk 6 = .ok (.istore 5, 2) := by decide +kernel
theorem dX9_walk_8 : decode cX9_walk 8 = .ok (.iload 5, 2) := by decide +kernel
theorem dX9_walk_10 : decode cX9_walk 10 = .ok (.aload_n 0, 1) := by decide +kernel
theorem dX9_walk_11 : decode cX9_walk 11 = .ok (.getfield 28, 3) := by decide +kernel
theorem dX9_walk_14 : decode cX9_walk 14 = .ok (.if_icmp .ne 61, 3) := by decide +kernel
theorem dX9_walk_17 : decode cX9_walk 17 = .ok (.iload_n 3, 1) := by decide +kernel
theorem dX9_walk_18 : decode cX9_walk 18 = .ok (.aload_n 0, 1) := by decide +kernel
theorem dX9_walk_19 : decode cX9_walk 19 = .ok (.getfield 31, 3) := by decide +kernel
theorem dX9_walk_22 : decode cX9_walk 22 = .ok (.if_icmp .gt 20, 3) := by decide +kernel
theorem dX9_walk_25 : decode cX9_walk 25 = .ok (.iload_n 3, 1) := by decide +kernel
theorem dX9_walk_26 : decode cX9_walk 26 = .ok (.aload_n 0, 1) := by decide +kernel
theorem dX9_walk_27 : decode cX9_walk 27 = .ok (.getfield 31, 3) := by decide +kernel
theorem dX9_walk_30 : decode cX9_walk 30 = .ok (.if_icmp .ne 44, 3) := by decide +kernel
theorem dX9_walk_33 : decode cX9_walk 33 = .ok (.iload 4, 2) := by decide +kernel
theorem dX9_walk_35 : decode cX9_walk 35 = .ok (.aload_n 0, 1) := by decide +kernel
theorem dX9_walk_36 : decode cX9_walk 36 = .ok (.getfield 34, 3) := by decide +kernel
theorem dX9_walk_39 : decode cX9_walk 39 = .ok (.if_icmp .ge 35, 3) := by decide +kernel
theorem dX9_walk_42 : decode cX9_walk 42 = .ok (.aload_n 0, 1) := by decide +kernel
theorem dX9_walk_43 : decode cX9_walk 43 = .ok (.iload_n 3, 1) := by decide +kernel
theorem dX9_walk_44 : decode cX9_walk 44 = .ok (.putfield 31, 3) := by decide +kernel
theorem dX9_walk_47 : decode cX9_walk 47 = .ok (.aload_n 0, 1) := by decide +kernel
theorem dX9_walk_48 : decode cX9_walk 48 = .ok (.iload 4, 2) := by decide +kernel
theorem dX9_walk_50 : decode cX9_walk 50 = .ok (.putfield 34, 3) := by decide +kernel
theorem dX9_walk_53 : decode cX9_walk 53 = .ok (.aload_n 0, 1) := by decide +kernel
theorem dX9_walk_54 : decode cX9_walk 54 = .ok (.iload_n 1, 1) := by decide +kernel
theorem dX9_walk_55 : decode cX9_walk 55 = .ok (.putfield 37, 3) := by decide +kernel
theorem dX9_walk_58 : decode cX9_walk 58 = .ok (.aload_n 0, 1) := by decide +kernel
theorem dX9_walk_59 : decode cX9_walk 59 = .ok (.getfield 18, 3) := by decide +kernel
theorem dX9_walk_62 : decode cX9_walk 62 = .ok (.iconst 0, 1) := by decide +kernel
theorem dX9_walk_63 : decode cX9_walk 63 = .ok (.aload_n 0, 1) := by decide +kernel
theorem dX9_walk_64 : decode cX9_walk 64 = .ok (.getfield 21, 3) := by decide +kernel
theorem dX9_walk_67 : decode cX9_walk 67 = .ok (.iconst 0, 1) := by decide +kernel
theorem dX9_walk_68 : decode cX9_walk 68 = .ok (.iload_n 1, 1) := by decide +kernel
theorem dX9_walk_69 : decode cX9_walk 69 = .ok (.iconst 1, 1) := by decide +kernel
theorem dX9_walk_70 : decode cX9_walk 70 = .ok (.iadd, 1) := by decide +kernel
theorem dX9_walk_71 : decode cX9_walk 71 = .ok (.invokestatic 70, 3) := by decide +kernel
theorem dX9_walk_74 : decode cX9_walk 74 = .ok (.return_, 1) := by decide +kernel
theorem dX9_walk_75 : decode cX9_walk 75 = .ok (.iconst 0, 1) := by decide +kernel
theorem dX9_walk_76 : decode cX9_walk 76 = .ok (.istore 6, 2) := by decide +kernel
theorem dX9_walk_78 : decode cX9_walk 78 = .ok (.iload 6, 2) := by decide +kernel
theorem dX9_walk_80 : decode cX9_walk 80 = .ok (.aload_n 0, 1) := by decide +kernel
theorem dX9_walk_81 : decode cX9_walk 81 = .ok (.getfield 24, 3) := by decide +kernel
theorem dX9_walk_84 : decode cX9_walk 84 = .ok (.if_icmp .ge 93, 3) := by decide +kernel
theorem dX9_walk_87 : decode cX9_walk 87 = .ok (.iload_n 1, 1) := by decide +kernel
theorem dX9_walk_88 : decode cX9_walk 88 = .ok (.iconst 5, 1) := by decide +kernel
theorem dX9_walk_89 : decode cX9_walk 89 = .ok (.if_icmp .ge 88, 3) := by decide +kernel
theorem dX9_walk_92 : decode cX9_walk 92 = .ok (.iload 5, 2) := by decide +kernel
theorem dX9_walk_94 : decode cX9_walk 94 = .ok (.bipush 6, 2) := by decide +kernel
theorem dX9_walk_96 : decode cX9_walk 96 = .ok (.imul, 1) := by decide +kernel
theorem dX9_walk_97 : decode cX9_walk 97 = .ok (.iload 6, 2) := by decide +kernel
theorem dX9_walk_99 : decode cX9_walk 99 = .ok (.iadd, 1) := by decide +kernel
theorem dX9_walk_100 : decode cX9_walk 100 = .ok (.istore 7, 2) := by decide +kernel
theorem dX9_walk_102 : decode cX9_walk 102 = .ok (.iload_n 2, 1) := by decide +kernel
theorem dX9_walk_103 : decode cX9_walk 103 = .ok (.iload 6, 2) := by decide +kernel
theorem dX9_walk_105 : decode cX9_walk 105 = .ok (.ishr, 1) := by decide +kernel
theorem dX9_walk_106 : decode cX9_walk 106 = .ok (.iconst 1, 1) := by decide +kernel
theorem dX9_walk_107 : decode cX9_walk 107 = .ok (.iand, 1) := by decide +kernel
theorem dX9_walk_108 : decode cX9_walk 108 = .ok (.ifCond .ne 63, 3) := by decide +kernel
theorem dX9_walk_111 : decode cX9_walk 111 = .ok (.aload_n 0, 1) := by decide +kernel
theorem dX9_walk_112 : decode cX9_walk 112 = .ok (.getfield 9, 3) := by decide +kernel
theorem dX9_walk_115 : decode cX9_walk 115 = .ok (.iload 7, 2) := by decide +kernel
theorem dX9_walk_117 : decode cX9_walk 117 = .ok (.iaload, 1) := by decide +kernel
theorem dX9_walk_118 : decode cX9_walk 118 = .ok (.bipush 10, 2) := by decide +kernel
theorem dX9_walk_120 : decode cX9_walk 120 = .ok (.if_icmp .ge 51, 3) := by decide +kernel
theorem dX9_walk_123 : decode cX9_walk 123 = .ok (.aload_n 0, 1) := by decide +kernel
theorem dX9_walk_124 : decode cX9_walk 124 = .ok (.getfield 18, 3) := by decide +kernel
theorem dX9_walk_127 : decode cX9_walk 127 = .ok (.iload_n 1, 1) := by decide +kernel
theorem dX9_walk_128 : decode cX9_walk 128 = .ok (.iconst 1, 1) := by decide +kernel
theorem dX9_walk_129 : decode cX9_walk 129 = .ok (.iadd, 1) := by decide +kernel
theorem dX9_walk_130 : decode cX9_walk 130 = .ok (.iload 6, 2) := by decide +kernel
theorem dX9_walk_132 : decode cX9_walk 132 = .ok (.iastore, 1) := by decide +kernel
theorem dX9_walk_133 : decode cX9_walk 133 = .ok (.aload_n 0, 1) := by decide +kernel
theorem dX9_walk_134 : decode cX9_walk 134 = .ok (.iload_n 1, 1) := by decide +kernel
theorem dX9_walk_135 : decode cX9_walk 135 = .ok (.iconst 1, 1) := by decide +kernel
theorem dX9_walk_136 : decode cX9_walk 136 = .ok (.iadd, 1) := by decide +kernel
theorem dX9_walk_137 : decode cX9_walk 137 = .ok (.iload_n 2, 1) := by decide +kernel
theorem dX9_walk_138 : decode cX9_walk 138 = .ok (.iconst 1, 1) := by decide +kernel
theorem dX9_walk_139 : decode cX9_walk 139 = .ok (.iload 6, 2) := by decide +kernel
theorem dX9_walk_141 : decode cX9_walk 141 = .ok (.ishl, 1) := by decide +kernel
theorem dX9_walk_142 : decode cX9_walk 142 = .ok (.ior, 1) := by decide +kernel
theorem dX9_walk_143 : decode cX9_walk 143 = .ok (.iload_n 3, 1) := by decide +kernel
theorem dX9_walk_144 : decode cX9_walk 144 = .ok (.bipush 10, 2) := by decide +kernel
theorem dX9_walk_146 : decode cX9_walk 146 = .ok (.idiv, 1) := by decide +kernel
theorem dX9_walk_147 : decode cX9_walk 147 = .ok (.bipush 10, 2) := by decide +kernel
theorem dX9_walk_149 : decode cX9_walk 149 = .ok (.aload_n 0, 1) := by decide +kernel
theorem dX9_walk_150 : decode cX9_walk 150 = .ok (.getfield 9, 3) := by decide +kernel
theorem dX9_walk_153 : decode cX9_walk 153 = .ok (.iload 7, 2) := by decide +kernel
theorem dX9_walk_155 : decode cX9_walk 155 = .ok (.iaload, 1) := by decide +kernel
theorem dX9_walk_156 : decode cX9_walk 156 = .ok (.isub, 1) := by decide +kernel
theorem dX9_walk_157 : decode cX9_walk 157 = .ok (.imul, 1) := by decide +kernel
theorem dX9_walk_158 : decode cX9_walk 158 = .ok (.iload 4, 2) := by decide +kernel
theorem dX9_walk_160 : decode cX9_walk 160 = .ok (.aload_n 0, 1) := by decide +kernel
theorem dX9_walk_161 : decode cX9_walk 161 = .ok (.getfield 15, 3) := by decide +kernel
theorem dX9_walk_164 : decode cX9_walk 164 = .ok (.iload 7, 2) := by decide +kernel
theorem dX9_walk_166 : decode cX9_walk 166 = .ok (.iaload, 1) := by decide +kernel
theorem dX9_walk_167 : decode cX9_walk 167 = .ok (.iadd, 1) := by decide +kernel
theorem dX9_walk_168 : decode cX9_walk 168 = .ok (.invokevirtual 45, 3) := by decide +kernel
theorem dX9_walk_171 : decode cX9_walk 171 = .ok (.iinc 6 1, 3) := by decide +kernel
theorem dX9_walk_174 : decode cX9_walk 174 = .ok (.goto (-96), 3) := by decide +kernel
theorem dX9_walk_177 : decode cX9_walk 177 = .ok (.return_, 1) := by decide +kernel
theorem dX9_answer_0 : decode cX9_answer 0 = .ok (.aload_n 0, 1) := by decide +kernel
theorem dX9_answer_1 : decode cX9_answer 1 = .ok (.aload_n 1, 1) := by decide +kernel
theorem dX9_answer_2 : decode cX9_answer 2 = .ok (.invokevirtual 40, 3) := by decide +kernel
theorem dX9_answer_5 : decode cX9_answer 5 = .ok (.aload_n 0, 1) := by decide +kernel
theorem dX9_answer_6 : decode cX9_answer 6 = .ok (.iload_n 3, 1) := by decide +kernel
theorem dX9_answer_7 : decode cX9_answer 7 = .ok (.putfield 28, 3) := by decide +kernel
theorem dX9_answer_10 : decode cX9_answer 10 = .ok (.aload_n 0, 1) := by decide +kernel
theorem dX9_answer_11 : decode cX9_answer 11 = .ok (.iconst 0, 1) := by decide +kernel
theorem dX9_answer_12 : decode cX9_answer 12 = .ok (.putfield 31, 3) := by decide +kernel
theorem dX9_answer_15 : decode cX9_answer 15 = .ok (.aload_n 0, 1) := by decide +kernel
theorem dX9_answer_16 : decode cX9_answer 16 = .ok (.iconst 0, 1) := by decide +kernel
theorem dX9_answer_17 : decode cX9_answer 17 = .ok (.putfield 34, 3) := by decide +kernel
theorem dX9_answer_20 : decode cX9_answer 20 = .ok (.aload_n 0, 1) := by decide +kernel
theorem dX9_answer_21 : decode cX9_answer 21 = .ok (.iconst (-1), 1) := by decide +kernel
theorem dX9_answer_22 : decode cX9_answer 22 = .ok (.putfield 37, 3) := by decide +kernel
theorem dX9_answer_25 : decode cX9_answer 25 = .ok (.aload_n 0, 1) := by decide +kernel
theorem dX9_answer_26 : decode cX9_answer 26 = .ok (.getfield 18, 3) := by decide +kernel
theorem dX9_answer_29 : decode cX9_answer 29 = .ok (.iconst 0, 1) := by decide +kernel
theorem dX9_answer_30 : decode cX9_answer 30 = .ok (.iload_n 2, 1) := by decide +kernel
theorem dX9_answer_31 : decode cX9_answer 31 = .ok (.iastore, 1) := by decide +kernel
theorem dX9_answer_32 : decode cX9_answer 32 = .ok (.aload_n 0, 1) := by decide +kernel
theorem dX9_answer_33 : decode cX9_answer 33 = .ok (.iconst 0, 1) := by decide +kernel
theorem dX9_answer_34 : decode cX9_answer 34 = .ok (.iconst 1, 1) := by decide +kernel
theorem dX9_answer_35 : decode cX9_answer 35 = .ok (.iload_n 2, 1) := by decide +kernel
theorem dX9_answer_36 : decode cX9_answer 36 = .ok (.ishl, 1) := by decide +kernel
theorem dX9_answer_37 : decode cX9_answer 37 = .ok (.ldc 44, 2) := by decide +kernel
theorem dX9_answer_39 : decode cX9_answer 39 = .ok (.iconst 0, 1) := by decide +kernel
theorem dX9_answer_40 : decode cX9_answer 40 = .ok (.invokevirtual 45, 3) := by decide +kernel
theorem dX9_answer_43 : decode cX9_answer 43 = .ok (.aload_n 0, 1) := by decide +kernel
theorem dX9_answer_44 : decode cX9_answer 44 = .ok (.getfield 37, 3) := by decide +kernel
theorem dX9_answer_47 : decode cX9_answer 47 = .ok (.iconst (-1), 1) := by decide +kernel
theorem dX9_answer_48 : decode cX9_answer 48 = .ok (.if_icmp .ne 5, 3) := by decide +kernel
theorem dX9_answer_51 : decode cX9_answer 51 = .ok (.iconst (-1), 1) := by decide +kernel
theorem dX9_answer_52 : decode cX9_answer 52 = .ok (.ireturn, 1) := by decide +kernel
theorem dX9_answer_53 : decode cX9_answer 53 = .ok (.iload 4, 2) := by decide +kernel
theorem dX9_answer_55 : decode cX9_answer 55 = .ok (.tableswitch 40 0 2 #[25, 30, 35], 25) := by decide +kernel
theorem dX9_answer_80 : decode cX9_answer 80 = .ok (.aload_n 0, 1) := by decide +kernel
theorem dX9_answer_81 : decode cX9_answer 81 = .ok (.getfield 31, 3) := by decide +kernel
theorem dX9_answer_84 : decode cX9_answer 84 = .ok (.ireturn, 1) := by decide +kernel
theorem dX9_answer_85 : decode cX9_answer 85 = .ok (.aload_n 0, 1) := by decide +kernel
theorem dX9_answer_86 : decode cX9_answer 86 = .ok (.getfield 34, 3) := by decide +kernel
theorem dX9_answer_89 : decode cX9_answer 89 = .ok (.ireturn, 1) := by decide +kernel
theorem dX9_answer_90 : decode cX9_answer 90 = .ok (.aload_n 0, 1) := by decide +kernel
theorem dX9_answer_91 : decode cX9_answer 91 = .ok (.getfield 37, 3) := by decide +kernel
theorem dX9_answer_94 : decode cX9_answer 94 = .ok (.ireturn, 1) := by decide +kernel
theorem dX9_answer_95 : decode cX9_answer 95 = .ok (.iload 4, 2) := by decide +kernel
theorem dX9_answer_97 : decode cX9_answer 97 = .ok (.iconst 3, 1) := by decide +kernel
theorem dX9_answer_98 : decode cX9_answer 98 = .ok (.if_icmp .lt 26, 3) := by decide +kernel
theorem dX9_answer_101 : decode cX9_answer 101 = .ok (.iload 4, 2) := by decide +kernel
theorem dX9_answer_103 : decode cX9_answer 103 = .ok (.iconst 3, 1) := by decide +kernel
theorem dX9_answer_104 : decode cX9_answer 104 = .ok (.isub, 1) := by decide +kernel
theorem dX9_answer_105 : decode cX9_answer 105 = .ok (.aload_n 0, 1) := by decide +kernel
theorem dX9_answer_106 : decode cX9_answer 106 = .ok (.getfield 37, 3) := by decide +kernel
theorem dX9_answer_109 : decode cX9_answer 109 = .ok (.if_icmp .gt 15, 3) := by decide +kernel
theorem dX9_answer_112 : decode cX9_answer 112 = .ok (.aload_n 0, 1) := by decide +kernel
theorem dX9_answer_113 : decode cX9_answer 113 = .ok (.getfield 21, 3) := by decide +kernel
theorem dX9_answer_116 : decode cX9_answer 116 = .ok (.iload 4, 2) := by decide +kernel
theorem dX9_answer_118 : decode cX9_answer 118 = .ok (.iconst 3, 1) := by decide +kernel
theorem dX9_answer_119 : decode cX9_answer 119 = .ok (.isub, 1) := by decide +kernel
theorem dX9_answer_120 : decode cX9_answer 120 = .ok (.iaload, 1) := by decide +kernel
theorem dX9_answer_121 : decode cX9_answer 121 = .ok (.goto 4, 3) := by decide +kernel
theorem dX9_answer_124 : decode cX9_answer 124 = .ok (.iconst (-1), 1) := by decide +kernel
theorem dX9_answer_125 : decode cX9_answer 125 = .ok (.ireturn, 1) := by decide +kernel
theorem dX11_way_0 : decode cX11_way 0 = .ok (.aload_n 0, 1) := by decide +kernel
theorem dX11_way_1 : decode cX11_way 1 = .ok (.getfield 10, 3) := by decide +kernel
theorem dX11_way_4 : decode cX11_way 4 = .ok (.iload_n 1, 1) := by decide +kernel
theorem dX11_way_5 : decode cX11_way 5 = .ok (.invokevirtual 121, 3) := by decide +kernel
theorem dX11_way_8 : decode cX11_way 8 = .ok (.ifCond .eq 14, 3) := by decide +kernel
theorem dX11_way_11 : decode cX11_way 11 = .ok (.aload_n 0, 1) := by decide +kernel
theorem dX11_way_12 : decode cX11_way 12 = .ok (.getfield 10, 3) := by decide +kernel
theorem dX11_way_15 : decode cX11_way 15 = .ok (.iload_n 2, 1) := by decide +kernel
theorem dX11_way_16 : decode cX11_way 16 = .ok (.invokevirtual 121, 3) := by decide +kernel
theorem dX11_way_19 : decode cX11_way 19 = .ok (.ifCond .ne 5, 3) := by decide +kernel
theorem dX11_way_22 : decode cX11_way 22 = .ok (.iconst (-1), 1) := by decide +kernel
theorem dX11_way_23 : decode cX11_way 23 = .ok (.ireturn, 1) := by decide +kernel
theorem dX11_way_24 : decode cX11_way 24 = .ok (.aload_n 0, 1) := by decide +kernel
theorem dX11_way_25 : decode cX11_way 25 = .ok (.getfield 78, 3) := by decide +kernel
theorem dX11_way_28 : decode cX11_way 28 = .ok (.aload_n 0, 1) := by decide +kernel
theorem dX11_way_29 : decode cX11_way 29 = .ok (.getfield 10, 3) := by decide +kernel
theorem dX11_way_32 : decode cX11_way 32 = .ok (.iload_n 1, 1) := by decide +kernel
theorem dX11_way_33 : decode cX11_way 33 = .ok (.iload_n 2, 1) := by decide +kernel
theorem dX11_way_34 : decode cX11_way 34 = .ok (.iload_n 3, 1) := by decide +kernel
theorem dX11_way_35 : decode cX11_way 35 = .ok (.invokevirtual 279, 3) := by decide +kernel
theorem dX11_way_38 : decode cX11_way 38 = .ok (.ireturn, 1) := by decide +kernel
theorem dX12_debtAt_0 : decode cX12_debtAt 0 = .ok (.sipush 141, 3) := by decide +kernel
theorem dX12_debtAt_3 : decode cX12_debtAt 3 = .ok (.iconst 2, 1) := by decide +kernel
theorem dX12_debtAt_4 : decode cX12_debtAt 4 = .ok (.bipush 6, 2) := by decide +kernel
theorem dX12_debtAt_6 : decode cX12_debtAt 6 = .ok (.iload_n 0, 1) := by decide +kernel
theorem dX12_debtAt_7 : decode cX12_debtAt 7 = .ok (.imul, 1) := by decide +kernel
theorem dX12_debtAt_8 : decode cX12_debtAt 8 = .ok (.iload_n 1, 1) := by decide +kernel
theorem dX12_debtAt_9 : decode cX12_debtAt 9 = .ok (.iadd, 1) := by decide +kernel
theorem dX12_debtAt_10 : decode cX12_debtAt 10 = .ok (.imul, 1) := by decide +kernel
theorem dX12_debtAt_11 : decode cX12_debtAt 11 = .ok (.iadd, 1) := by decide +kernel
theorem dX12_debtAt_12 : decode cX12_debtAt 12 = .ok (.ireturn, 1) := by decide +kernel
theorem dX12_debtsOf_0 : decode cX12_debtsOf 0 = .ok (.iconst 0, 1) := by decide +kernel
theorem dX12_debtsOf_1 : decode cX12_debtsOf 1 = .ok (.istore_n 2, 1) := by decide +kernel
theorem dX12_debtsOf_2 : decode cX12_debtsOf 2 = .ok (.iconst 0, 1) := by decide +kernel
theorem dX12_debtsOf_3 : decode cX12_debtsOf 3 = .ok (.istore_n 3, 1) := by decide +kernel
theorem dX12_debtsOf_4 : decode cX12_debtsOf 4 = .ok (.iload_n 3, 1) := by decide +kernel
theorem dX12_debtsOf_5 : decode cX12_debtsOf 5 = .ok (.bipush 6, 2) := by decide +kernel
theorem dX12_debtsOf_7 : decode cX12_debtsOf 7 = .ok (.if_icmp .ge 31, 3) := by decide +kernel
theorem dX12_debtsOf_10 : decode cX12_debtsOf 10 = .ok (.iload_n 2, 1) := by decide +kernel
theorem dX12_debtsOf_11 : decode cX12_debtsOf 11 = .ok (.aload_n 0, 1) := by decide +kernel
theorem dX12_debtsOf_12 : decode cX12_debtsOf 12 = .ok (.getfield 13, 3) := by decide +kernel
theorem dX12_debtsOf_15 : decode cX12_debtsOf 15 = .ok (.iload_n 1, 1) := by decide +kernel
theorem dX12_debtsOf_16 : decode cX12_debtsOf 16 = .ok (.iload_n 3, 1) := by decide +kernel
theorem dX12_debtsOf_17 : decode cX12_debtsOf 17 = .ok (.invokestatic 452, 3) := by decide +kernel
theorem dX12_debtsOf_20 : decode cX12_debtsOf 20 = .ok (.iaload, 1) := by decide +kernel
theorem dX12_debtsOf_21 : decode cX12_debtsOf 21 = .ok (.iconst (-1), 1) := by decide +kernel
theorem dX12_debtsOf_22 : decode cX12_debtsOf 22 = .ok (.if_icmp .ne 7, 3) := by decide +kernel
theorem dX12_debtsOf_25 : decode cX12_debtsOf 25 = .ok (.iconst 0, 1) := by decide +kernel
theorem dX12_debtsOf_26 : decode cX12_debtsOf 26 = .ok (.goto 4, 3) := by decide +kernel
theorem dX12_debtsOf_29 : decode cX12_debtsOf 29 = .ok (.iconst 1, 1) := by decide +kernel
theorem dX12_debtsOf_30 : decode cX12_debtsOf 30 = .ok (.iadd, 1) := by decide +kernel
theorem dX12_debtsOf_31 : decode cX12_debtsOf 31 = .ok (.istore_n 2, 1) := by decide +kernel
theorem dX12_debtsOf_32 : decode cX12_debtsOf 32 = .ok (.iinc 3 1, 3) := by decide +kernel
theorem dX12_debtsOf_35 : decode cX12_debtsOf 35 = .ok (.goto (-31), 3) := by decide +kernel
theorem dX12_debtsOf_38 : decode cX12_debtsOf 38 = .ok (.iload_n 2, 1) := by decide +kernel
theorem dX12_debtsOf_39 : decode cX12_debtsOf 39 = .ok (.ireturn, 1) := by decide +kernel
theorem dX12_allDebts_0 : decode cX12_allDebts 0 = .ok (.iconst 0, 1) := by decide +kernel
theorem dX12_allDebts_1 : decode cX12_allDebts 1 = .ok (.istore_n 1, 1) := by decide +kernel
theorem dX12_allDebts_2 : decode cX12_allDebts 2 = .ok (.iconst 0, 1) := by decide +kernel
theorem dX12_allDebts_3 : decode cX12_allDebts 3 = .ok (.istore_n 2, 1) := by decide +kernel
theorem dX12_allDebts_4 : decode cX12_allDebts 4 = .ok (.iload_n 2, 1) := by decide +kernel
theorem dX12_allDebts_5 : decode cX12_allDebts 5 = .ok (.bipush 6, 2) := by decide +kernel
theorem dX12_allDebts_7 : decode cX12_allDebts 7 = .ok (.if_icmp .ge 17, 3) := by decide +kernel
theorem dX12_allDebts_10 : decode cX12_allDebts 10 = .ok (.iload_n 1, 1) := by decide +kernel
theorem dX12_allDebts_11 : decode cX12_allDebts 11 = .ok (.aload_n 0, 1) := by decide +kernel
theorem dX12_allDebts_12 : decode cX12_allDebts 12 = .ok (.iload_n 2, 1) := by decide +kernel
theorem dX12_allDebts_13 : decode cX12_allDebts 13 = .ok (.invokevirtual 423, 3) := by decide +kernel
theorem dX12_allDebts_16 : decode cX12_allDebts 16 = .ok (.iadd, 1) := by decide +kernel
theorem dX12_allDebts_17 : decode cX12_allDebts 17 = .ok (.istore_n 1, 1) := by decide +kernel
theorem dX12_allDebts_18 : decode cX12_allDebts 18 = .ok (.iinc 2 1, 3) := by decide +kernel
theorem dX12_allDebts_21 : decode cX12_allDebts 21 = .ok (.goto (-17), 3) := by decide +kernel
theorem dX12_allDebts_24 : decode cX12_allDebts 24 = .ok (.iload_n 1, 1) := by decide +kernel
theorem dX12_allDebts_25 : decode cX12_allDebts 25 = .ok (.ireturn, 1) := by decide +kernel
theorem dX12_in_0 : decode cX12_in 0 = .ok (.lload_n 0, 1) := by decide +kernel
theorem dX12_in_1 : decode cX12_in 1 = .ok (.lload_n 2, 1) := by decide +kernel
theorem dX12_in_2 : decode cX12_in 2 = .ok (.lcmp, 1) := by decide +kernel
theorem dX12_in_3 : decode cX12_in 3 = .ok (.ifCond .lt 14, 3) := by decide +kernel
theorem dX12_in_6 : decode cX12_in 6 = .ok (.lload_n 0, 1) := by decide +kernel
theorem dX12_in_7 : decode cX12_in 7 = .ok (.lload 4, 2) := by decide +kernel
theorem dX12_in_9 : decode cX12_in 9 = .ok (.lcmp, 1) := by decide +kernel
theorem dX12_in_10 : decode cX12_in 10 = .ok (.ifCond .gt 7, 3) := by decide +kernel
theorem dX12_in_13 : decode cX12_in 13 = .ok (.iconst 1, 1) := by decide +kernel
theorem dX12_in_14 : decode cX12_in 14 = .ok (.goto 4, 3) := by decide +kernel
theorem dX12_in_17 : decode cX12_in 17 = .ok (.iconst 0, 1) := by decide +kernel
theorem dX12_in_18 : decode cX12_in 18 = .ok (.ireturn, 1) := by decide +kernel
theorem dX12_isGood_0 : decode cX12_isGood 0 = .ok (.iload_n 1, 1) := by decide +kernel
theorem dX12_isGood_1 : decode cX12_isGood 1 = .ok (.i2l, 1) := by decide +kernel
theorem dX12_isGood_2 : decode cX12_isGood 2 = .ok (.lconst 0, 1) := by decide +kernel
theorem dX12_isGood_3 : decode cX12_isGood 3 = .ok (.aload_n 0, 1) := by decide +kernel
theorem dX12_isGood_4 : decode cX12_isGood 4 = .ok (.getfield 13, 3) := by decide +kernel
theorem dX12_isGood_7 : decode cX12_isGood 7 = .ok (.iconst 1, 1) := by decide +kernel
theorem dX12_isGood_8 : decode cX12_isGood 8 = .ok (.iaload, 1) := by decide +kernel
theorem dX12_isGood_9 : decode cX12_isGood 9 = .ok (.i2l, 1) := by decide +kernel
theorem dX12_isGood_10 : decode cX12_isGood 10 = .ok (.lconst 1, 1) := by decide +kernel
theorem dX12_isGood_11 : decode cX12_isGood 11 = .ok (.lsub, 1) := by decide +kernel
theorem dX12_isGood_12 : decode cX12_isGood 12 = .ok (.invokestatic 179, 3) := by decide +kernel
theorem dX12_isGood_15 : decode cX12_isGood 15 = .ok (.ireturn, 1) := by decide +kernel
theorem dX12_isLord_0 : decode cX12_isLord 0 = .ok (.iload_n 1, 1) := by decide +kernel
theorem dX12_isLord_1 : decode cX12_isLord 1 = .ok (.i2l, 1) := by decide +kernel
theorem dX12_isLord_2 : decode cX12_isLord 2 = .ok (.lconst 0, 1) := by decide +kernel
theorem dX12_isLord_3 : decode cX12_isLord 3 = .ok (.aload_n 0, 1) := by decide +kernel
theorem dX12_isLord_4 : decode cX12_isLord 4 = .ok (.getfield 13, 3) := by decide +kernel
theorem dX12_isLord_7 : decode cX12_isLord 7 = .ok (.iconst 0, 1) := by decide +kernel
theorem dX12_isLord_8 : decode cX12_isLord 8 = .ok (.iaload, 1) := by decide +kernel
theorem dX12_isLord_9 : decode cX12_isLord 9 = .ok (.i2l, 1) := by decide +kernel
theorem dX12_isLord_10 : decode cX12_isLord 10 = .ok (.lconst 1, 1) := by decide +kernel
theorem dX12_isLord_11 : decode cX12_isLord 11 = .ok (.lsub, 1) := by decide +kernel
theorem dX12_isLord_12 : decode cX12_isLord 12 = .ok (.invokestatic 179, 3) := by decide +kernel
theorem dX12_isLord_15 : decode cX12_isLord 15 = .ok (.ireturn, 1) := by decide +kernel
theorem dX12_ofGood_0 : decode cX12_ofGood 0 = .ok (.aload_n 0, 1) := by decide +kernel
theorem dX12_ofGood_1 : decode cX12_ofGood 1 = .ok (.getfield 13, 3) := by decide +kernel
theorem dX12_ofGood_4 : decode cX12_ofGood 4 = .ok (.bipush 45, 2) := by decide +kernel
theorem dX12_ofGood_6 : decode cX12_ofGood 6 = .ok (.bipush 6, 2) := by decide +kernel
theorem dX12_ofGood_8 : decode cX12_ofGood 8 = .ok (.iload_n 1, 1) := by decide +kernel
theorem dX12_ofGood_9 : decode cX12_ofGood 9 = .ok (.imul, 1) := by decide +kernel
theorem dX12_ofGood_10 : decode cX12_ofGood 10 = .ok (.iadd, 1) := by decide +kernel
theorem dX12_ofGood_11 : decode cX12_ofGood 11 = .ok (.iload_n 2, 1) := by decide +kernel
theorem dX12_ofGood_12 : decode cX12_ofGood 12 = .ok (.iadd, 1) := by decide +kernel
theorem dX12_ofGood_13 : decode cX12_ofGood 13 = .ok (.iaload, 1) := by decide +kernel
theorem dX12_ofGood_14 : decode cX12_ofGood 14 = .ok (.ireturn, 1) := by decide +kernel
theorem dX12_ofLord_0 : decode cX12_ofLord 0 = .ok (.aload_n 0, 1) := by decide +kernel
theorem dX12_ofLord_1 : decode cX12_ofLord 1 = .ok (.getfield 13, 3) := by decide +kernel
theorem dX12_ofLord_4 : decode cX12_ofLord 4 = .ok (.bipush 9, 2) := by decide +kernel
theorem dX12_ofLord_6 : decode cX12_ofLord 6 = .ok (.bipush 6, 2) := by decide +kernel
theorem dX12_ofLord_8 : decode cX12_ofLord 8 = .ok (.iload_n 1, 1) := by decide +kernel
theorem dX12_ofLord_9 : decode cX12_ofLord 9 = .ok (.imul, 1) := by decide +kernel
theorem dX12_ofLord_10 : decode cX12_ofLord 10 = .ok (.iadd, 1) := by decide +kernel
theorem dX12_ofLord_11 : decode cX12_ofLord 11 = .ok (.iload_n 2, 1) := by decide +kernel
theorem dX12_ofLord_12 : decode cX12_ofLord 12 = .ok (.iadd, 1) := by decide +kernel
theorem dX12_ofLord_13 : decode cX12_ofLord 13 = .ok (.iaload, 1) := by decide +kernel
theorem dX12_ofLord_14 : decode cX12_ofLord 14 = .ok (.ireturn, 1) := by decide +kernel
theorem dX12_askedOf_0 : decode cX12_askedOf 0 = .ok (.iload_n 1, 1) := by decide +kernel
theorem dX12_askedOf_1 : decode cX12_askedOf 1 = .ok (.bipush 6, 2) := by decide +kernel
theorem dX12_askedOf_3 : decode cX12_askedOf 3 = .ok (.if_icmp .ne 25, 3) := by decide +kernel
theorem dX12_askedOf_6 : decode cX12_askedOf 6 = .ok (.aload_n 0, 1) := by decide +kernel
theorem dX12_askedOf_7 : decode cX12_askedOf 7 = .ok (.iload_n 2, 1) := by decide +kernel
theorem dX12_askedOf_8 : decode cX12_askedOf 8 = .ok (.invokevirtual 225, 3) := by decide +kernel
theorem dX12_askedOf_11 : decode cX12_askedOf 11 = .ok (.ifCond .eq 12, 3) := by decide +kernel
theorem dX12_askedOf_14 : decode cX12_askedOf 14 = .ok (.aload_n 0, 1) := by decide +kernel
theorem dX12_askedOf_15 : decode cX12_askedOf 15 = .ok (.iload_n 2, 1) := by decide +kernel
theorem dX12_askedOf_16 : decode cX12_askedOf 16 = .ok (.iconst 0, 1) := by decide +kernel
theorem dX12_askedOf_17 : decode cX12_askedOf 17 = .ok (.invokevirtual 190, 3) := by decide +kernel
theorem dX12_askedOf_20 : decode cX12_askedOf 20 = .ok (.goto 4, 3) := by decide +kernel
theorem dX12_askedOf_23 : decode cX12_askedOf 23 = .ok (.iconst (-1), 1) := by decide +kernel
theorem dX12_askedOf_24 : decode cX12_askedOf 24 = .ok (.i2l, 1) := by decide +kernel
theorem dX12_askedOf_25 : decode cX12_askedOf 25 = .ok (.goto 38, 3) := by decide +kernel
theorem dX12_askedOf_28 : decode cX12_askedOf 28 = .ok (.aload_n 0, 1) := by decide +kernel
theorem dX12_askedOf_29 : decode cX12_askedOf 29 = .ok (.iload_n 2, 1) := by decide +kernel
theorem dX12_askedOf_30 : decode cX12_askedOf 30 = .ok (.invokevirtual 198, 3) := by decide +kernel
theorem dX12_askedOf_33 : decode cX12_askedOf 33 = .ok (.ifCond .ne 9, 3) := by decide +kernel
theorem dX12_askedOf_36 : decode cX12_askedOf 36 = .ok (.ldc2_w 276, 3) := by decide +kernel
theorem dX12_askedOf_39 : decode cX12_askedOf 39 = .ok (.goto 24, 3) := by decide +kernel
theorem dX12_askedOf_42 : decode cX12_askedOf 42 = .ok (.iload_n 1, 1) := by decide +kernel
theorem dX12_askedOf_43 : decode cX12_askedOf 43 = .ok (.iconst 5, 1) := by decide +kernel
theorem dX12_askedOf_44 : decode cX12_askedOf 44 = .ok (.if_icmp .ne 13, 3) := by decide +kernel
theorem dX12_askedOf_47 : decode cX12_askedOf 47 = .ok (.aload_n 0, 1) := by decide +kernel
theorem dX12_askedOf_48 : decode cX12_askedOf 48 = .ok (.iload_n 2, 1) := by decide +kernel
theorem dX12_askedOf_49 : decode cX12_askedOf 49 = .ok (.iconst 0, 1) := by decide +kernel
theorem dX12_askedOf_50 : decode cX12_askedOf 50 = .ok (.invokevirtual 204, 3) := by decide +kernel
theorem dX12_askedOf_53 : decode cX12_askedOf 53 = .ok (.i2l, 1) := by decide +kernel
theorem dX12_askedOf_54 : decode cX12_askedOf 54 = .ok (.goto 9, 3) := by decide +kernel
theorem dX12_askedOf_57 : decode cX12_askedOf 57 = .ok (.aload_n 0, 1) := by decide +kernel
theorem dX12_askedOf_58 : decode cX12_askedOf 58 = .ok (.iload_n 2, 1) := by decide +kernel
theorem dX12_askedOf_59 : decode cX12_askedOf 59 = .ok (.invokevirtual 423, 3) := by decide +kernel
theorem dX12_askedOf_62 : decode cX12_askedOf 62 = .ok (.i2l, 1) := by decide +kernel
theorem dX12_askedOf_63 : decode cX12_askedOf 63 = .ok (.lreturn, 1) := by decide +kernel
theorem dX12_reckon_0 : decode cX12_reckon 0 = .ok (.iload_n 1, 1) := by decide +kernel
theorem dX12_reckon_1 : decode cX12_reckon 1 = .ok (.tableswitch 148 20 26 #[43, 48, 53, 58, 90, 122, 135], 43) := by decide +kernel
theorem dX12_reckon_44 : decode cX12_reckon 44 = .ok (.lload_n 2, 1) := by decide +kernel
theorem dX12_reckon_45 : decode cX12_reckon 45 = .ok (.lload 4, 2) := by decide +kernel
theorem dX12_reckon_47 : decode cX12_reckon 47 = .ok (.ladd, 1) := by decide +kernel
theorem dX12_reckon_48 : decode cX12_reckon 48 = .ok (.lreturn, 1) := by decide +kernel
theorem dX12_reckon_49 : decode cX12_reckon 49 = .ok (.lload_n 2, 1) := by decide +kernel
theorem dX12_reckon_50 : decode cX12_reckon 50 = .ok (.lload 4, 2) := by decide +kernel
theorem dX12_reckon_52 : decode cX12_reckon 52 = .ok (.lsub, 1) := by decide +kernel
theorem dX12_reckon_53 : decode cX12_reckon 53 = .ok (.lreturn, 1) := by decide +kernel
theorem dX12_reckon_54 : decode cX12_reckon 54 = .ok (.lload_n 2, 1) := by decide +kernel
theorem dX12_reckon_55 : decode cX12_reckon 55 = .ok (.lload 4, 2) := by decide +kernel
theorem dX12_reckon_57 : decode cX12_reckon 57 = .ok (.lmul, 1) := by decide +kernel
theorem dX12_reckon_58 : decode cX12_reckon 58 = .ok (.lreturn, 1) := by decide +kernel
theorem dX12_reckon_59 : decode cX12_reckon 59 = .ok (.aload_n 0, 1) := by decide +kernel
theorem dX12_reckon_60 : decode cX12_reckon 60 = .ok (.lload 4, 2) := by decide +kernel
theorem dX12_reckon_62 : decode cX12_reckon 62 = .ok (.lconst 0, 1) := by decide +kernel
theorem dX12_reckon_63 : decode cX12_reckon 63 = .ok (.lcmp, 1) := by decide +kernel
theorem dX12_reckon_64 : decode cX12_reckon 64 = .ok (.ifCond .ne 7, 3) := by decide +kernel
theorem dX12_reckon_67 : decode cX12_reckon 67 = .ok (.iconst 1, 1) := by decide +kernel
theorem dX12_reckon_68 : decode cX12_reckon 68 = .ok (.goto 4, 3) := by decide +kernel
theorem dX12_reckon_71 : decode cX12_reckon 71 = .ok (.iconst 0, 1) := by decide +kernel
theorem dX12_reckon_72 : decode cX12_reckon 72 = .ok (.putfield 402, 3) := by decide +kernel
theorem dX12_reckon_75 : decode cX12_reckon 75 = .ok (.aload_n 0, 1) := by decide +kernel
theorem dX12_reckon_76 : decode cX12_reckon 76 = .ok (.getfield 402, 3) := by decide +kernel
theorem dX12_reckon_79 : decode cX12_reckon 79 = .ok (.ifCond .eq 7, 3) := by decide +kernel
theorem dX12_reckon_82 : decode cX12_reckon 82 = .ok (.lconst 0, 1) := by decide +kernel
theorem dX12_reckon_83 : decode cX12_reckon 83 = .ok (.goto 7, 3) := by decide +kernel
theorem dX12_reckon_86 : decode cX12_reckon 86 = .ok (.lload_n 2, 1) := by decide +kernel
theorem dX12_reckon_87 : decode cX12_reckon 87 = .ok (.lload 4, 2) := by decide +kernel
theorem dX12_reckon_89 : decode cX12_reckon 89 = .ok (.ldiv, 1) := by decide +kernel
theorem dX12_reckon_90 : decode cX12_reckon 90 = .ok (.lreturn, 1) := by decide +kernel
theorem dX12_reckon_91 : decode cX12_reckon 91 = .ok (.aload_n 0, 1) := by decide +kernel
theorem dX12_reckon_92 : decode cX12_reckon 92 = .ok (.lload 4, 2) := by decide +kernel
theorem dX12_reckon_94 : decode cX12_reckon 94 = .ok (.lconst 0, 1) := by decide +kernel
theorem dX12_reckon_95 : decode cX12_reckon 95 = .ok (.lcmp, 1) := by decide +kernel
theorem dX12_reckon_96 : decode cX12_reckon 96 = .ok (.ifCond .ne 7, 3) := by decide +kernel
theorem dX12_reckon_99 : decode cX12_reckon 99 = .ok (.iconst 1, 1) := by decide +kernel
theorem dX12_reckon_100 : decode cX12_reckon 100 = .ok (.goto 4, 3) := by decide +kernel
theorem dX12_reckon_103 : decode cX12_reckon 103 = .ok (.iconst 0, 1) := by decide +kernel
theorem dX12_reckon_104 : decode cX12_reckon 104 = .ok (.putfield 402, 3) := by decide +kernel
theorem dX12_reckon_107 : decode cX12_reckon 107 = .ok (.aload_n 0, 1) := by decide +kernel
theorem dX12_reckon_108 : decode cX12_reckon 108 = .ok (.getfield 402, 3) := by decide +kernel
theorem dX12_reckon_111 : decode cX12_reckon 111 = .ok (.ifCond .eq 7, 3) := by decide +kernel
theorem dX12_reckon_114 : decode cX12_reckon 114 = .ok (.lconst 0, 1) := by decide +kernel
theorem dX12_reckon_115 : decode cX12_reckon 115 = .ok (.goto 7, 3) := by decide +kernel
theorem dX12_reckon_118 : decode cX12_reckon 118 = .ok (.lload_n 2, 1) := by decide +kernel
theorem dX12_reckon_119 : decode cX12_reckon 119 = .ok (.lload 4, 2) := by decide +kernel
theorem dX12_reckon_121 : decode cX12_reckon 121 = .ok (.lrem, 1) := by decide +kernel
theorem dX12_reckon_122 : decode cX12_reckon 122 = .ok (.lreturn, 1) := by decide +kernel
theorem dX12_reckon_123 : decode cX12_reckon 123 = .ok (.lload_n 2, 1) := by decide +kernel
theorem dX12_reckon_124 : decode cX12_reckon 124 = .ok (.lload 4, 2) := by decide +kernel
theorem dX12_reckon_126 : decode cX12_reckon 126 = .ok (.lcmp, 1) := by decide +kernel
theorem dX12_reckon_127 : decode cX12_reckon 127 = .ok (.ifCond .ge 7, 3) := by decide +kernel
theorem dX12_reckon_130 : decode cX12_reckon 130 = .ok (.lconst 1, 1) := by decide +kernel
theorem dX12_reckon_131 : decode cX12_reckon 131 = .ok (.goto 4, 3) := by decide +kernel
theorem dX12_reckon_134 : decode cX12_reckon 134 = .ok (.lconst 0, 1) := by decide +kernel
theorem dX12_reckon_135 : decode cX12_reckon 135 = .ok (.lreturn, 1) := by decide +kernel
theorem dX12_reckon_136 : decode cX12_reckon 136 = .ok (.lload_n 2, 1) := by decide +kernel
theorem dX12_reckon_137 : decode cX12_reckon 137 = .ok (.lload 4, 2) := by decide +kernel
theorem dX12_reckon_139 : decode cX12_reckon 139 = .ok (.lcmp, 1) := by decide +kernel
theorem dX12_reckon_140 : decode cX12_reckon 140 = .ok (.ifCond .le 7, 3) := by decide +kernel
theorem dX12_reckon_143 : decode cX12_reckon 143 = .ok (.lconst 1, 1) := by decide +kernel
theorem dX12_reckon_144 : decode cX12_reckon 144 = .ok (.goto 4, 3) := by decide +kernel
theorem dX12_reckon_147 : decode cX12_reckon 147 = .ok (.lconst 0, 1) := by decide +kernel
theorem dX12_reckon_148 : decode cX12_reckon 148 = .ok (.lreturn, 1) := by decide +kernel
theorem dX12_reckon_149 : decode cX12_reckon 149 = .ok (.lload_n 2, 1) := by decide +kernel
theorem dX12_reckon_150 : decode cX12_reckon 150 = .ok (.lload 4, 2) := by decide +kernel
theorem dX12_reckon_152 : decode cX12_reckon 152 = .ok (.lcmp, 1) := by decide +kernel
theorem dX12_reckon_153 : decode cX12_reckon 153 = .ok (.ifCond .ne 7, 3) := by decide +kernel
theorem dX12_reckon_156 : decode cX12_reckon 156 = .ok (.lconst 1, 1) := by decide +kernel
theorem dX12_reckon_157 : decode cX12_reckon 157 = .ok (.goto 4, 3) := by decide +kernel
theorem dX12_reckon_160 : decode cX12_reckon 160 = .ok (.lconst 0, 1) := by decide +kernel
theorem dX12_reckon_161 : decode cX12_reckon 161 = .ok (.lreturn, 1) := by decide +kernel
theorem dX12_reckonAll_0 : decode cX12_reckonAll 0 = .ok (.aload_n 0, 1) := by decide +kernel
theorem dX12_reckonAll_1 : decode cX12_reckonAll 1 = .ok (.iconst 0, 1) := by decide +kernel
theorem dX12_reckonAll_2 : decode cX12_reckonAll 2 = .ok (.putfield 402, 3) := by decide +kernel
theorem dX12_reckonAll_5 : decode cX12_reckonAll 5 = .ok (.iconst 0, 1) := by decide +kernel
theorem dX12_reckonAll_6 : decode cX12_reckonAll 6 = .ok (.istore_n 3, 1) := by decide +kernel
theorem dX12_reckonAll_7 : decode cX12_reckonAll 7 = .ok (.iload_n 1, 1) := by decide +kernel
theorem dX12_reckonAll_8 : decode cX12_reckonAll 8 = .ok (.istore 4, 2) := by decide +kernel
theorem dX12_reckonAll_10 : decode cX12_reckonAll 10 = .ok (.iload 4, 2) := by decide +kernel
theorem dX12_reckonAll_12 : decode cX12_reckonAll 12 = .ok (.iload_n 2, 1) := by decide +kernel
theorem dX12_reckonAll_13 : decode cX12_reckonAll 13 = .ok (.if_icmp .ge 300, 3) := by decide +kernel
theorem dX12_reckonAll_16 : decode cX12_reckonAll 16 = .ok (.aload_n 0, 1) := by decide +kernel
theorem dX12_reckonAll_17 : decode cX12_reckonAll 17 = .ok (.getfield 402, 3) := by decide +kernel
theorem dX12_reckonAll_20 : decode cX12_reckonAll 20 = .ok (.ifCond .ne 293, 3) := by decide +kernel
theorem dX12_reckonAll_23 : decode cX12_reckonAll 23 = .ok (.aload_n 0, 1) := by decide +kernel
theorem dX12_reckonAll_24 : decode cX12_reckonAll 24 = .ok (.getfield 326, 3) := by decide +kernel
theorem dX12_reckonAll_27 : decode cX12_reckonAll 27 = .ok (.ifCond .eq 13, 3) := by decide +kernel
theorem dX12_reckonAll_30 : decode cX12_reckonAll 30 = .ok (.aload_n 0, 1) := by decide +kernel
theorem dX12_reckonAll_31 : decode cX12_reckonAll 31 = .ok (.getfield 45, 3) := by decide +kernel
theorem dX12_reckonAll_34 : decode cX12_reckonAll 34 = .ok (.iload 4, 2) := by decide +kernel
theorem dX12_reckonAll_36 : decode cX12_reckonAll 36 = .ok (.iaload, 1) := by decide +kernel
theorem dX12_reckonAll_37 : decode cX12_reckonAll 37 = .ok (.goto 20, 3) := by decide +kernel
theorem dX12_reckonAll_40 : decode cX12_reckonAll 40 = .ok (.aload_n 0, 1) := by decide +kernel
theorem dX12_reckonAll_41 : decode cX12_reckonAll 41 = .ok (.getfield 13, 3) := by decide +kernel
theorem dX12_reckonAll_44 : decode cX12_reckonAll 44 = .ok (.aload_n 0, 1) := by decide +kernel
theorem dX12_reckonAll_45 : decode cX12_reckonAll 45 = .ok (.getfield 405, 3) := by decide +kernel
theorem dX12_reckonAll_48 : decode cX12_reckonAll 48 = .ok (.bipush 98, 2) := by decide +kernel
theorem dX12_reckonAll_50 : decode cX12_reckonAll 50 = .ok (.iadd, 1) := by decide +kernel
theorem dX12_reckonAll_51 : decode cX12_reckonAll 51 = .ok (.iconst 2, 1) := by decide +kernel
theorem dX12_reckonAll_52 : decode cX12_reckonAll 52 = .ok (.iload 4, 2) := by decide +kernel
theorem dX12_reckonAll_54 : decode cX12_reckonAll 54 = .ok (.imul, 1) := by decide +kernel
theorem dX12_reckonAll_55 : decode cX12_reckonAll 55 = .ok (.iadd, 1) := by decide +kernel
theorem dX12_reckonAll_56 : decode cX12_reckonAll 56 = .ok (.iaload, 1) := by decide +kernel
theorem dX12_reckonAll_57 : decode cX12_reckonAll 57 = .ok (.istore 5, 2) := by decide +kernel
theorem dX12_reckonAll_59 : decode cX12_reckonAll 59 = .ok (.aload_n 0, 1) := by decide +kernel
theorem dX12_reckonAll_60 : decode cX12_reckonAll 60 = .ok (.getfield 326, 3) := by decide +kernel
theorem dX12_reckonAll_63 : decode cX12_reckonAll 63 = .ok (.ifCond .eq 13, 3) := by decide +kernel
theorem dX12_reckonAll_66 : decode cX12_reckonAll 66 = .ok (.aload_n 0, 1) := by decide +kernel
theorem dX12_reckonAll_67 : decode cX12_reckonAll 67 = .ok (.getfield 48, 3) := by decide +kernel
theorem dX12_reckonAll_70 : decode cX12_reckonAll 70 = .ok (.iload 4, 2) := by decide +kernel
theorem dX12_reckonAll_72 : decode cX12_reckonAll 72 = .ok (.iaload, 1) := by decide +kernel
theorem dX12_reckonAll_73 : decode cX12_reckonAll 73 = .ok (.goto 22, 3) := by decide +kernel
theorem dX12_reckonAll_76 : decode cX12_reckonAll 76 = .ok (.aload_n 0, 1) := by decide +kernel
theorem dX12_reckonAll_77 : decode cX12_reckonAll 77 = .ok (.getfield 13, 3) := by decide +kernel
theorem dX12_reckonAll_80 : decode cX12_reckonAll 80 = .ok (.aload_n 0, 1) := by decide +kernel
theorem dX12_reckonAll_81 : decode cX12_reckonAll 81 = .ok (.getfield 405, 3) := by decide +kernel
theorem dX12_reckonAll_84 : decode cX12_reckonAll 84 = .ok (.bipush 98, 2) := by decide +kernel
theorem dX12_reckonAll_86 : decode cX12_reckonAll 86 = .ok (.iadd, 1) := by decide +kernel
theorem dX12_reckonAll_87 : decode cX12_reckonAll 87 = .ok (.iconst 2, 1) := by decide +kernel
theorem dX12_reckonAll_88 : decode cX12_reckonAll 88 = .ok (.iload 4, 2) := by decide +kernel
theorem dX12_reckonAll_90 : decode cX12_reckonAll 90 = .ok (.imul, 1) := by decide +kernel
theorem dX12_reckonAll_91 : decode cX12_reckonAll 91 = .ok (.iadd, 1) := by decide +kernel
theorem dX12_reckonAll_92 : decode cX12_reckonAll 92 = .ok (.iconst 1, 1) := by decide +kernel
theorem dX12_reckonAll_93 : decode cX12_reckonAll 93 = .ok (.iadd, 1) := by decide +kernel
theorem dX12_reckonAll_94 : decode cX12_reckonAll 94 = .ok (.iaload, 1) := by decide +kernel
theorem dX12_reckonAll_95 : decode cX12_reckonAll 95 = .ok (.istore 6, 2) := by decide +kernel
theorem dX12_reckonAll_97 : decode cX12_reckonAll 97 = .ok (.iinc 4 1, 3) := by decide +kernel
theorem dX12_reckonAll_100 : decode cX12_reckonAll 100 = .ok (.iload 5, 2) := by decide +kernel
theorem dX12_reckonAll_102 : decode cX12_reckonAll 102 = .ok (.bipush 20, 2) := by decide +kernel
theorem dX12_reckonAll_104 : decode cX12_reckonAll 104 = .ok (.if_icmp .ge 67, 3) := by decide +kernel
theorem dX12_reckonAll_107 : decode cX12_reckonAll 107 = .ok (.aload_n 0, 1) := by decide +kernel
theorem dX12_reckonAll_108 : decode cX12_reckonAll 108 = .ok (.getfield 100, 3) := by decide +kernel
theorem dX12_reckonAll_111 : decode cX12_reckonAll 111 = .ok (.iload_n 3, 1) := by decide +kernel
theorem dX12_reckonAll_112 : decode cX12_reckonAll 112 = .ok (.iload 5, 2) := by decide +kernel
theorem dX12_reckonAll_114 : decode cX12_reckonAll 114 = .ok (.ifCond .ne 9, 3) := by decide +kernel
theorem dX12_reckonAll_117 : decode cX12_reckonAll 117 = .ok (.iload 6, 2) := by decide +kernel
theorem dX12_reckonAll_119 : decode cX12_reckonAll 119 = .ok (.i2l, 1) := by decide +kernel
theorem dX12_reckonAll_120 : decode cX12_reckonAll 120 = .ok (.goto 44, 3) := by decide +kernel
theorem dX12_reckonAll_123 : decode cX12_reckonAll 123 = .ok (.aload_n 0, 1) := by decide +kernel
theorem dX12_reckonAll_124 : decode cX12_reckonAll 124 = .ok (.getfield 326, 3) := by decide +kernel
theorem dX12_reckonAll_127 : decode cX12_reckonAll 127 = .ok (.ifCond .ne 13, 3) := by decide +kernel
theorem dX12_reckonAll_130 : decode cX12_reckonAll 130 = .ok (.aload_n 0, 1) := by decide +kernel
theorem dX12_reckonAll_131 : decode cX12_reckonAll 131 = .ok (.getfield 94, 3) := by decide +kernel
theorem dX12_reckonAll_134 : decode cX12_reckonAll 134 = .ok (.iload 5, 2) := by decide +kernel
theorem dX12_reckonAll_136 : decode cX12_reckonAll 136 = .ok (.laload, 1) := by decide +kernel
theorem dX12_reckonAll_137 : decode cX12_reckonAll 137 = .ok (.goto 27, 3) := by decide +kernel
theorem dX12_reckonAll_140 : decode cX12_reckonAll 140 = .ok (.iload 5, 2) := by decide +kernel
theorem dX12_reckonAll_142 : decode cX12_reckonAll 142 = .ok (.iconst 5, 1) := by decide +kernel
theorem dX12_reckonAll_143 : decode cX12_reckonAll 143 = .ok (.if_icmp .ge 13, 3) := by decide +kernel
theorem dX12_reckonAll_146 : decode cX12_reckonAll 146 = .ok (.aload_n 0, 1) := by decide +kernel
theorem dX12_reckonAll_147 : decode cX12_reckonAll 147 = .ok (.getfield 97, 3) := by decide +kernel
theorem dX12_reckonAll_150 : decode cX12_reckonAll 150 = .ok (.iload 5, 2) := by decide +kernel
theorem dX12_reckonAll_152 : decode cX12_reckonAll 152 = .ok (.laload, 1) := by decide +kernel
theorem dX12_reckonAll_153 : decode cX12_reckonAll 153 = .ok (.goto 11, 3) := by decide +kernel
theorem dX12_reckonAll_156 : decode cX12_reckonAll 156 = .ok (.aload_n 0, 1) := by decide +kernel
theorem dX12_reckonAll_157 : decode cX12_reckonAll 157 = .ok (.iload 5, 2) := by decide +kernel
theorem dX12_reckonAll_159 : decode cX12_reckonAll 159 = .ok (.iload 6, 2) := by decide +kernel
theorem dX12_reckonAll_161 : decode cX12_reckonAll 161 = .ok (.invokevirtual 408, 3) := by decide +kernel
theorem dX12_reckonAll_164 : decode cX12_reckonAll 164 = .ok (.lastore, 1) := by decide +kernel
theorem dX12_reckonAll_165 : decode cX12_reckonAll 165 = .ok (.iinc 3 1, 3) := by decide +kernel
theorem dX12_reckonAll_168 : decode cX12_reckonAll 168 = .ok (.goto 142, 3) := by decide +kernel
theorem dX12_reckonAll_171 : decode cX12_reckonAll 171 = .ok (.iload 5, 2) := by decide +kernel
theorem dX12_reckonAll_173 : decode cX12_reckonAll 173 = .ok (.bipush 28, 2) := by decide +kernel
theorem dX12_reckonAll_175 : decode cX12_reckonAll 175 = .ok (.if_icmp .ge 73, 3) := by decide +kernel
theorem dX12_reckonAll_178 : decode cX12_reckonAll 178 = .ok (.iinc 3 (-1), 3) := by decide +kernel
theorem dX12_reckonAll_181 : decode cX12_reckonAll 181 = .ok (.aload_n 0, 1) := by decide +kernel
theorem dX12_reckonAll_182 : decode cX12_reckonAll 182 = .ok (.getfield 100, 3) := by decide +kernel
theorem dX12_reckonAll_185 : decode cX12_reckonAll 185 = .ok (.iload_n 3, 1) := by decide +kernel
theorem dX12_reckonAll_186 : decode cX12_reckonAll 186 = .ok (.iconst 1, 1) := by decide +kernel
theorem dX12_reckonAll_187 : decode cX12_reckonAll 187 = .ok (.isub, 1) := by decide +kernel
theorem dX12_reckonAll_188 : decode cX12_reckonAll 188 = .ok (.aload_n 0, 1) := by decide +kernel
theorem dX12_reckonAll_189 : decode cX12_reckonAll 189 = .ok (.iload 5, 2) := by decide +kernel
theorem dX12_reckonAll_191 : decode cX12_reckonAll 191 = .ok (.aload_n 0, 1) := by decide +kernel
theorem dX12_reckonAll_192 : decode cX12_reckonAll 192 = .ok (.getfield 100, 3) := by decide +kernel
theorem dX12_reckonAll_195 : decode cX12_reckonAll 195 = .ok (.iload_n 3, 1) := by decide +kernel
theorem dX12_reckonAll_196 : decode cX12_reckonAll 196 = .ok (.iconst 1, 1) := by decide +kernel
theorem dX12_reckonAll_197 : decode cX12_reckonAll 197 = .ok (.isub, 1) := by decide +kernel
theorem dX12_reckonAll_198 : decode cX12_reckonAll 198 = .ok (.laload, 1) := by decide +kernel
theorem dX12_reckonAll_199 : decode cX12_reckonAll 199 = .ok (.aload_n 0, 1) := by decide +kernel
theorem dX12_reckonAll_200 : decode cX12_reckonAll 200 = .ok (.getfield 100, 3) := by decide +kernel
theorem dX12_reckonAll_203 : decode cX12_reckonAll 203 = .ok (.iload_n 3, 1) := by decide +kernel
theorem dX12_reckonAll_204 : decode cX12_reckonAll 204 = .ok (.laload, 1) := by decide +kernel
theorem dX12_reckonAll_205 : decode cX12_reckonAll 205 = .ok (.invokevirtual 412, 3) := by decide +kernel
theorem dX12_reckonAll_208 : decode cX12_reckonAll 208 = .ok (.lastore, 1) := by decide +kernel
theorem dX12_reckonAll_209 : decode cX12_reckonAll 209 = .ok (.aload_n 0, 1) := by decide +kernel
theorem dX12_reckonAll_210 : decode cX12_reckonAll 210 = .ok (.aload_n 0, 1) := by decide +kernel
theorem dX12_reckonAll_211 : decode cX12_reckonAll 211 = .ok (.getfield 402, 3) := by decide +kernel
theorem dX12_reckonAll_214 : decode cX12_reckonAll 214 = .ok (.ifCond .ne 23, 3) := by decide +kernel
theorem dX12_reckonAll_217 : decode cX12_reckonAll 217 = .ok (.aload_n 0, 1) := by decide +kernel
theorem dX12_reckonAll_218 : decode cX12_reckonAll 218 = .ok (.getfield 100, 3) := by decide +kernel
theorem dX12_reckonAll_221 : decode cX12_reckonAll 221 = .ok (.iload_n 3, 1) := by decide +kernel
theorem dX12_reckonAll_222 : decode cX12_reckonAll 222 = .ok (.iconst 1, 1) := by decide +kernel
theorem dX12_reckonAll_223 : decode cX12_reckonAll 223 = .ok (.isub, 1) := by decide +kernel
theorem dX12_reckonAll_224 : decode cX12_reckonAll 224 = .ok (.laload, 1) := by decide +kernel
theorem dX12_reckonAll_225 : decode cX12_reckonAll 225 = .ok (.ldc2_w 416, 3) := by decide +kernel
theorem dX12_reckonAll_228 : decode cX12_reckonAll 228 = .ok (.ldc2_w 418, 3) := by decide +kernel
theorem dX12_reckonAll_231 : decode cX12_reckonAll 231 = .ok (.invokestatic 179, 3) := by decide +kernel
theorem dX12_reckonAll_234 : decode cX12_reckonAll 234 = .ok (.ifCond .ne 7, 3) := by decide +kernel
theorem dX12_reckonAll_237 : decode cX12_reckonAll 237 = .ok (.iconst 1, 1) := by decide +kernel
theorem dX12_reckonAll_238 : decode cX12_reckonAll 238 = .ok (.goto 4, 3) := by decide +kernel
theorem dX12_reckonAll_241 : decode cX12_reckonAll 241 = .ok (.iconst 0, 1) := by decide +kernel
theorem dX12_reckonAll_242 : decode cX12_reckonAll 242 = .ok (.putfield 402, 3) := by decide +kernel
theorem dX12_reckonAll_245 : decode cX12_reckonAll 245 = .ok (.goto 65, 3) := by decide +kernel
theorem dX12_reckonAll_248 : decode cX12_reckonAll 248 = .ok (.iload 5, 2) := by decide +kernel
theorem dX12_reckonAll_250 : decode cX12_reckonAll 250 = .ok (.bipush 28, 2) := by decide +kernel
theorem dX12_reckonAll_252 : decode cX12_reckonAll 252 = .ok (.if_icmp .ne 24, 3) := by decide +kernel
theorem dX12_reckonAll_255 : decode cX12_reckonAll 255 = .ok (.aload_n 0, 1) := by decide +kernel
theorem dX12_reckonAll_256 : decode cX12_reckonAll 256 = .ok (.getfield 100, 3) := by decide +kernel
theorem dX12_reckonAll_259 : decode cX12_reckonAll 259 = .ok (.iload_n 3, 1) := by decide +kernel
theorem dX12_reckonAll_260 : decode cX12_reckonAll 260 = .ok (.iconst 1, 1) := by decide +kernel
theorem dX12_reckonAll_261 : decode cX12_reckonAll 261 = .ok (.isub, 1) := by decide +kernel
theorem dX12_reckonAll_262 : decode cX12_reckonAll 262 = .ok (.lconst 1, 1) := by decide +kernel
theorem dX12_reckonAll_263 : decode cX12_reckonAll 263 = .ok (.aload_n 0, 1) := by decide +kernel
theorem dX12_reckonAll_264 : decode cX12_reckonAll 264 = .ok (.getfield 100, 3) := by decide +kernel
theorem dX12_reckonAll_267 : decode cX12_reckonAll 267 = .ok (.iload_n 3, 1) := by decide +kernel
theorem dX12_reckonAll_268 : decode cX12_reckonAll 268 = .ok (.iconst 1, 1) := by decide +kernel
theorem dX12_reckonAll_269 : decode cX12_reckonAll 269 = .ok (.isub, 1) := by decide +kernel
theorem dX12_reckonAll_270 : decode cX12_reckonAll 270 = .ok (.laload, 1) := by decide +kernel
theorem dX12_reckonAll_271 : decode cX12_reckonAll 271 = .ok (.lsub, 1) := by decide +kernel
theorem dX12_reckonAll_272 : decode cX12_reckonAll 272 = .ok (.lastore, 1) := by decide +kernel
theorem dX12_reckonAll_273 : decode cX12_reckonAll 273 = .ok (.goto 37, 3) := by decide +kernel
theorem dX12_reckonAll_276 : decode cX12_reckonAll 276 = .ok (.aload_n 0, 1) := by decide +kernel
theorem dX12_reckonAll_277 : decode cX12_reckonAll 277 = .ok (.getfield 100, 3) := by decide +kernel
theorem dX12_reckonAll_280 : decode cX12_reckonAll 280 = .ok (.iload_n 3, 1) := by decide +kernel
theorem dX12_reckonAll_281 : decode cX12_reckonAll 281 = .ok (.iconst 1, 1) := by decide +kernel
theorem dX12_reckonAll_282 : decode cX12_reckonAll 282 = .ok (.isub, 1) := by decide +kernel
theorem dX12_reckonAll_283 : decode cX12_reckonAll 283 = .ok (.laload, 1) := by decide +kernel
theorem dX12_reckonAll_284 : decode cX12_reckonAll 284 = .ok (.iload 5, 2) := by decide +kernel
theorem dX12_reckonAll_286 : decode cX12_reckonAll 286 = .ok (.bipush 29, 2) := by decide +kernel
theorem dX12_reckonAll_288 : decode cX12_reckonAll 288 = .ok (.if_icmp .ne 7, 3) := by decide +kernel
theorem dX12_reckonAll_291 : decode cX12_reckonAll 291 = .ok (.lconst 0, 1) := by decide +kernel
theorem dX12_reckonAll_292 : decode cX12_reckonAll 292 = .ok (.goto 4, 3) := by decide +kernel
theorem dX12_reckonAll_295 : decode cX12_reckonAll 295 = .ok (.lconst 1, 1) := by decide +kernel
theorem dX12_reckonAll_296 : decode cX12_reckonAll 296 = .ok (.lcmp, 1) := by decide +kernel
theorem dX12_reckonAll_297 : decode cX12_reckonAll 297 = .ok (.ifCond .ne 10, 3) := by decide +kernel
theorem dX12_reckonAll_300 : decode cX12_reckonAll 300 = .ok (.iload 6, 2) := by decide +kernel
theorem dX12_reckonAll_302 : decode cX12_reckonAll 302 = .ok (.istore 4, 2) := by decide +kernel
theorem dX12_reckonAll_304 : decode cX12_reckonAll 304 = .ok (.goto 6, 3) := by decide +kernel
theorem dX12_reckonAll_307 : decode cX12_reckonAll 307 = .ok (.iinc 3 (-1), 3) := by decide +kernel
theorem dX12_reckonAll_310 : decode cX12_reckonAll 310 = .ok (.goto (-300), 3) := by decide +kernel
theorem dX12_reckonAll_313 : decode cX12_reckonAll 313 = .ok (.aload_n 0, 1) := by decide +kernel
theorem dX12_reckonAll_314 : decode cX12_reckonAll 314 = .ok (.iload_n 3, 1) := by decide +kernel
theorem dX12_reckonAll_315 : decode cX12_reckonAll 315 = .ok (.ifCond .le 12, 3) := by decide +kernel
theorem dX12_reckonAll_318 : decode cX12_reckonAll 318 = .ok (.aload_n 0, 1) := by decide +kernel
theorem dX12_reckonAll_319 : decode cX12_reckonAll 319 = .ok (.getfield 100, 3) := by decide +kernel
theorem dX12_reckonAll_322 : decode cX12_reckonAll 322 = .ok (.iconst 0, 1) := by decide +kernel
theorem dX12_reckonAll_323 : decode cX12_reckonAll 323 = .ok (.laload, 1) := by decide +kernel
theorem dX12_reckonAll_324 : decode cX12_reckonAll 324 = .ok (.goto 4, 3) := by decide +kernel
theorem dX12_reckonAll_327 : decode cX12_reckonAll 327 = .ok (.lconst 0, 1) := by decide +kernel
theorem dX12_reckonAll_328 : decode cX12_reckonAll 328 = .ok (.putfield 420, 3) := by decide +kernel
theorem dX12_reckonAll_331 : decode cX12_reckonAll 331 = .ok (.return_, 1) := by decide +kernel
theorem dX12_isSo_0 : decode cX12_isSo 0 = .ok (.aload_n 0, 1) := by decide +kernel
theorem dX12_isSo_1 : decode cX12_isSo 1 = .ok (.getfield 13, 3) := by decide +kernel
theorem dX12_isSo_4 : decode cX12_isSo 4 = .ok (.iload_n 1, 1) := by decide +kernel
theorem dX12_isSo_5 : decode cX12_isSo 5 = .ok (.iconst 5, 1) := by decide +kernel
theorem dX12_isSo_6 : decode cX12_isSo 6 = .ok (.iadd, 1) := by decide +kernel
theorem dX12_isSo_7 : decode cX12_isSo 7 = .ok (.iaload, 1) := by decide +kernel
theorem dX12_isSo_8 : decode cX12_isSo 8 = .ok (.aload_n 0, 1) := by decide +kernel
theorem dX12_isSo_9 : decode cX12_isSo 9 = .ok (.getfield 13, 3) := by decide +kernel
theorem dX12_isSo_12 : decode cX12_isSo 12 = .ok (.iload_n 1, 1) := by decide +kernel
theorem dX12_isSo_13 : decode cX12_isSo 13 = .ok (.bipush 6, 2) := by decide +kernel
theorem dX12_isSo_15 : decode cX12_isSo 15 = .ok (.iadd, 1) := by decide +kernel
theorem dX12_isSo_16 : decode cX12_isSo 16 = .ok (.iaload, 1) := by decide +kernel
theorem dX12_isSo_17 : decode cX12_isSo 17 = .ok (.if_icmp .ge 42, 3) := by decide +kernel
theorem dX12_isSo_20 : decode cX12_isSo 20 = .ok (.aload_n 0, 1) := by decide +kernel
theorem dX12_isSo_21 : decode cX12_isSo 21 = .ok (.aload_n 0, 1) := by decide +kernel
theorem dX12_isSo_22 : decode cX12_isSo 22 = .ok (.getfield 13, 3) := by decide +kernel
theorem dX12_isSo_25 : decode cX12_isSo 25 = .ok (.iload_n 1, 1) := by decide +kernel
theorem dX12_isSo_26 : decode cX12_isSo 26 = .ok (.iconst 5, 1) := by decide +kernel
theorem dX12_isSo_27 : decode cX12_isSo 27 = .ok (.iadd, 1) := by decide +kernel
theorem dX12_isSo_28 : decode cX12_isSo 28 = .ok (.iaload, 1) := by decide +kernel
theorem dX12_isSo_29 : decode cX12_isSo 29 = .ok (.aload_n 0, 1) := by decide +kernel
theorem dX12_isSo_30 : decode cX12_isSo 30 = .ok (.getfield 13, 3) := by decide +kernel
theorem dX12_isSo_33 : decode cX12_isSo 33 = .ok (.iload_n 1, 1) := by decide +kernel
theorem dX12_isSo_34 : decode cX12_isSo 34 = .ok (.bipush 6, 2) := by decide +kernel
theorem dX12_isSo_36 : decode cX12_isSo 36 = .ok (.iadd, 1) := by decide +kernel
theorem dX12_isSo_37 : decode cX12_isSo 37 = .ok (.iaload, 1) := by decide +kernel
theorem dX12_isSo_38 : decode cX12_isSo 38 = .ok (.invokevirtual 426, 3) := by decide +kernel
theorem dX12_isSo_41 : decode cX12_isSo 41 = .ok (.aload_n 0, 1) := by decide +kernel
theorem dX12_isSo_42 : decode cX12_isSo 42 = .ok (.getfield 402, 3) := by decide +kernel
theorem dX12_isSo_45 : decode cX12_isSo 45 = .ok (.ifCond .ne 12, 3) := by decide +kernel
theorem dX12_isSo_48 : decode cX12_isSo 48 = .ok (.aload_n 0, 1) := by decide +kernel
theorem dX12_isSo_49 : decode cX12_isSo 49 = .ok (.getfield 420, 3) := by decide +kernel
theorem dX12_isSo_52 : decode cX12_isSo 52 = .ok (.lconst 0, 1) := by decide +kernel
theorem dX12_isSo_53 : decode cX12_isSo 53 = .ok (.lcmp, 1) := by decide +kernel
theorem dX12_isSo_54 : decode cX12_isSo 54 = .ok (.ifCond .ne 5, 3) := by decide +kernel
theorem dX12_isSo_57 : decode cX12_isSo 57 = .ok (.iconst 0, 1) := by decide +kernel
theorem dX12_isSo_58 : decode cX12_isSo 58 = .ok (.ireturn, 1) := by decide +kernel
theorem dX12_isSo_59 : decode cX12_isSo 59 = .ok (.aload_n 0, 1) := by decide +kernel
theorem dX12_isSo_60 : decode cX12_isSo 60 = .ok (.getfield 13, 3) := by decide +kernel
theorem dX12_isSo_63 : decode cX12_isSo 63 = .ok (.iload_n 1, 1) := by decide +kernel
theorem dX12_isSo_64 : decode cX12_isSo 64 = .ok (.iaload, 1) := by decide +kernel
theorem dX12_isSo_65 : decode cX12_isSo 65 = .ok (.iconst 2, 1) := by decide +kernel
theorem dX12_isSo_66 : decode cX12_isSo 66 = .ok (.if_icmp .eq 44, 3) := by decide +kernel
theorem dX12_isSo_69 : decode cX12_isSo 69 = .ok (.aload_n 0, 1) := by decide +kernel
theorem dX12_isSo_70 : decode cX12_isSo 70 = .ok (.aload_n 0, 1) := by decide +kernel
theorem dX12_isSo_71 : decode cX12_isSo 71 = .ok (.getfield 13, 3) := by decide +kernel
theorem dX12_isSo_74 : decode cX12_isSo 74 = .ok (.iload_n 1, 1) := by decide +kernel
theorem dX12_isSo_75 : decode cX12_isSo 75 = .ok (.iconst 3, 1) := by decide +kernel
theorem dX12_isSo_76 : decode cX12_isSo 76 = .ok (.iadd, 1) := by decide +kernel
theorem dX12_isSo_77 : decode cX12_isSo 77 = .ok (.iaload, 1) := by decide +kernel
theorem dX12_isSo_78 : decode cX12_isSo 78 = .ok (.aload_n 0, 1) := by decide +kernel
theorem dX12_isSo_79 : decode cX12_isSo 79 = .ok (.getfield 13, 3) := by decide +kernel
theorem dX12_isSo_82 : decode cX12_isSo 82 = .ok (.iload_n 1, 1) := by decide +kernel
theorem dX12_isSo_83 : decode cX12_isSo 83 = .ok (.iconst 4, 1) := by decide +kernel
theorem dX12_isSo_84 : decode cX12_isSo 84 = .ok (.iadd, 1) := by decide +kernel
theorem dX12_isSo_85 : decode cX12_isSo 85 = .ok (.iaload, 1) := by decide +kernel
theorem dX12_isSo_86 : decode cX12_isSo 86 = .ok (.invokevirtual 426, 3) := by decide +kernel
theorem dX12_isSo_89 : decode cX12_isSo 89 = .ok (.aload_n 0, 1) := by decide +kernel
theorem dX12_isSo_90 : decode cX12_isSo 90 = .ok (.aload_n 0, 1) := by decide +kernel
theorem dX12_isSo_91 : decode cX12_isSo 91 = .ok (.getfield 420, 3) := by decide +kernel
theorem dX12_isSo_94 : decode cX12_isSo 94 = .ok (.putfield 429, 3) := by decide +kernel
theorem dX12_isSo_97 : decode cX12_isSo 97 = .ok (.aload_n 0, 1) := by decide +kernel
theorem dX12_isSo_98 : decode cX12_isSo 98 = .ok (.getfield 402, 3) := by decide +kernel
theorem dX12_isSo_101 : decode cX12_isSo 101 = .ok (.ifCond .ne 7, 3) := by decide +kernel
theorem dX12_isSo_104 : decode cX12_isSo 104 = .ok (.iconst 1, 1) := by decide +kernel
theorem dX12_isSo_105 : decode cX12_isSo 105 = .ok (.goto 4, 3) := by decide +kernel
theorem dX12_isSo_108 : decode cX12_isSo 108 = .ok (.iconst 0, 1) := by decide +kernel
theorem dX12_isSo_109 : decode cX12_isSo 109 = .ok (.ireturn, 1) := by decide +kernel
theorem dX12_isSo_110 : decode cX12_isSo 110 = .ok (.iconst 1, 1) := by decide +kernel
theorem dX12_isSo_111 : decode cX12_isSo 111 = .ok (.ireturn, 1) := by decide +kernel
theorem dX12_tells1_0 : decode cX12_tells1 0 = .ok (.aload_n 0, 1) := by decide +kernel
theorem dX12_tells1_1 : decode cX12_tells1 1 = .ok (.getfield 13, 3) := by decide +kernel
theorem dX12_tells1_4 : decode cX12_tells1 4 = .ok (.iconst 5, 1) := by decide +kernel
theorem dX12_tells1_5 : decode cX12_tells1 5 = .ok (.iaload, 1) := by decide +kernel
theorem dX12_tells1_6 : decode cX12_tells1 6 = .ok (.iconst (-1), 1) := by decide +kernel
theorem dX12_tells1_7 : decode cX12_tells1 7 = .ok (.if_icmp .ne 6, 3) := by decide +kernel
theorem dX12_tells1_10 : decode cX12_tells1 10 = .ok (.lload 7, 2) := by decide +kernel
theorem dX12_tells1_12 : decode cX12_tells1 12 = .ok (.lreturn, 1) := by decide +kernel
theorem dX12_tells1_13 : decode cX12_tells1 13 = .ok (.aload_n 0, 1) := by decide +kernel
theorem dX12_tells1_14 : decode cX12_tells1 14 = .ok (.sipush 270, 3) := by decide +kernel
theorem dX12_tells1_17 : decode cX12_tells1 17 = .ok (.sipush 900, 3) := by decide +kernel
theorem dX12_tells1_20 : decode cX12_tells1 20 = .ok (.aload_n 0, 1) := by decide +kernel
theorem dX12_tells1_21 : decode cX12_tells1 21 = .ok (.getfield 13, 3) := by decide +kernel
theorem dX12_tells1_24 : decode cX12_tells1 24 = .ok (.iconst 5, 1) := by decide +kernel
theorem dX12_tells1_25 : decode cX12_tells1 25 = .ok (.iaload, 1) := by decide +kernel
theorem dX12_tells1_26 : decode cX12_tells1 26 = .ok (.imul, 1) := by decide +kernel
theorem dX12_tells1_27 : decode cX12_tells1 27 = .ok (.iadd, 1) := by decide +kernel
theorem dX12_tells1_28 : decode cX12_tells1 28 = .ok (.putfield 405, 3) := by decide +kernel
theorem dX12_tells1_31 : decode cX12_tells1 31 = .ok (.aload_n 0, 1) := by decide +kernel
theorem dX12_tells1_32 : decode cX12_tells1 32 = .ok (.getfield 94, 3) := by decide +kernel
theorem dX12_tells1_35 : decode cX12_tells1 35 = .ok (.iconst 1, 1) := by decide +kernel
theorem dX12_tells1_36 : decode cX12_tells1 36 = .ok (.iload_n 2, 1) := by decide +kernel
theorem dX12_tells1_37 : decode cX12_tells1 37 = .ok (.i2l, 1) := by decide +kernel
theorem dX12_tells1_38 : decode cX12_tells1 38 = .ok (.lastore, 1) := by decide +kernel
theorem dX12_tells1_39 : decode cX12_tells1 39 = .ok (.aload_n 0, 1) := by decide +kernel
theorem dX12_tells1_40 : decode cX12_tells1 40 = .ok (.getfield 94, 3) := by decide +kernel
theorem dX12_tells1_43 : decode cX12_tells1 43 = .ok (.iconst 2, 1) := by decide +kernel
theorem dX12_tells1_44 : decode cX12_tells1 44 = .ok (.aload_n 0, 1) := by decide +kernel
theorem dX12_tells1_45 : decode cX12_tells1 45 = .ok (.iload_n 2, 1) := by decide +kernel
theorem dX12_tells1_46 : decode cX12_tells1 46 = .ok (.iconst 2, 1) := by decide +kernel
theorem dX12_tells1_47 : decode cX12_tells1 47 = .ok (.invokevirtual 190, 3) := by decide +kernel
theorem dX12_tells1_50 : decode cX12_tells1 50 = .ok (.i2l, 1) := by decide +kernel
theorem dX12_tells1_51 : decode cX12_tells1 51 = .ok (.lastore, 1) := by decide +kernel
theorem dX12_tells1_52 : decode cX12_tells1 52 = .ok (.aload_n 0, 1) := by decide +kernel
theorem dX12_tells1_53 : decode cX12_tells1 53 = .ok (.getfield 94, 3) := by decide +kernel
theorem dX12_tells1_56 : decode cX12_tells1 56 = .ok (.iconst 3, 1) := by decide +kernel
theorem dX12_tells1_57 : decode cX12_tells1 57 = .ok (.aload_n 0, 1) := by decide +kernel
theorem dX12_tells1_58 : decode cX12_tells1 58 = .ok (.iload_n 2, 1) := by decide +kernel
theorem dX12_tells1_59 : decode cX12_tells1 59 = .ok (.iconst 3, 1) := by decide +kernel
theorem dX12_tells1_60 : decode cX12_tells1 60 = .ok (.invokevirtual 190, 3) := by decide +kernel
theorem dX12_tells1_63 : decode cX12_tells1 63 = .ok (.i2l, 1) := by decide +kernel
theorem dX12_tells1_64 : decode cX12_tells1 64 = .ok (.lastore, 1) := by decide +kernel
theorem dX12_tells1_65 : decode cX12_tells1 65 = .ok (.aload_n 0, 1) := by decide +kernel
theorem dX12_tells1_66 : decode cX12_tells1 66 = .ok (.getfield 94, 3) := by decide +kernel
theorem dX12_tells1_69 : decode cX12_tells1 69 = .ok (.iconst 4, 1) := by decide +kernel
theorem dX12_tells1_70 : decode cX12_tells1 70 = .ok (.aload_n 0, 1) := by decide +kernel
theorem dX12_tells1_71 : decode cX12_tells1 71 = .ok (.iload_n 2, 1) := by decide +kernel
theorem dX12_tells1_72 : decode cX12_tells1 72 = .ok (.iconst 4, 1) := by decide +kernel
theorem dX12_tells1_73 : decode cX12_tells1 73 = .ok (.invokevirtual 190, 3) := by decide +kernel
theorem dX12_tells1_76 : decode cX12_tells1 76 = .ok (.i2l, 1) := by decide +kernel
theorem dX12_tells1_77 : decode cX12_tells1 77 = .ok (.lastore, 1) := by decide +kernel
theorem dX12_tells1_78 : decode cX12_tells1 78 = .ok (.aload_n 0, 1) := by decide +kernel
theorem dX12_tells1_79 : decode cX12_tells1 79 = .ok (.getfield 94, 3) := by decide +kernel
theorem dX12_tells1_82 : decode cX12_tells1 82 = .ok (.iconst 5, 1) := by decide +kernel
theorem dX12_tells1_83 : decode cX12_tells1 83 = .ok (.iload_n 3, 1) := by decide +kernel
theorem dX12_tells1_84 : decode cX12_tells1 84 = .ok (.i2l, 1) := by decide +kernel
theorem dX12_tells1_85 : decode cX12_tells1 85 = .ok (.lastore, 1) := by decide +kernel
theorem dX12_tells1_86 : decode cX12_tells1 86 = .ok (.aload_n 0, 1) := by decide +kernel
theorem dX12_tells1_87 : decode cX12_tells1 87 = .ok (.getfield 94, 3) := by decide +kernel
theorem dX12_tells1_90 : decode cX12_tells1 90 = .ok (.bipush 6, 2) := by decide +kernel
theorem dX12_tells1_92 : decode cX12_tells1 92 = .ok (.iload 4, 2) := by decide +kernel
theorem dX12_tells1_94 : decode cX12_tells1 94 = .ok (.i2l, 1) := by decide +kernel
theorem dX12_tells1_95 : decode cX12_tells1 95 = .ok (.lastore, 1) := by decide +kernel
theorem dX12_tells1_96 : decode cX12_tells1 96 = .ok (.aload_n 0, 1) := by decide +kernel
theorem dX12_tells1_97 : decode cX12_tells1 97 = .ok (.getfield 94, 3) := by decide +kernel
theorem dX12_tells1_100 : decode cX12_tells1 100 = .ok (.bipush 7, 2) := by decide +kernel
theorem dX12_tells1_102 : decode cX12_tells1 102 = .ok (.iload 6, 2) := by decide +kernel
theorem dX12_tells1_104 : decode cX12_tells1 104 = .ok (.i2l, 1) := by decide +kernel
theorem dX12_tells1_105 : decode cX12_tells1 105 = .ok (.lastore, 1) := by decide +kernel
theorem dX12_tells1_106 : decode cX12_tells1 106 = .ok (.aload_n 0, 1) := by decide +kernel
theorem dX12_tells1_107 : decode cX12_tells1 107 = .ok (.getfield 94, 3) := by decide +kernel
theorem dX12_tells1_110 : decode cX12_tells1 110 = .ok (.bipush 8, 2) := by decide +kernel
theorem dX12_tells1_112 : decode cX12_tells1 112 = .ok (.iload 5, 2) := by decide +kernel
theorem dX12_tells1_114 : decode cX12_tells1 114 = .ok (.i2l, 1) := by decide +kernel
theorem dX12_tells1_115 : decode cX12_tells1 115 = .ok (.lastore, 1) := by decide +kernel
theorem dX12_tells1_116 : decode cX12_tells1 116 = .ok (.aload_n 0, 1) := by decide +kernel
theorem dX12_tells1_117 : decode cX12_tells1 117 = .ok (.getfield 94, 3) := by decide +kernel
theorem dX12_tells1_120 : decode cX12_tells1 120 = .ok (.bipush 9, 2) := by decide +kernel
theorem dX12_tells1_122 : decode cX12_tells1 122 = .ok (.aload_n 0, 1) := by decide +kernel
theorem dX12_tells1_123 : decode cX12_tells1 123 = .ok (.getfield 13, 3) := by decide +kernel
theorem dX12_tells1_126 : decode cX12_tells1 126 = .ok (.bipush 8, 2) := by decide +kernel
theorem dX12_tells1_128 : decode cX12_tells1 128 = .ok (.iaload, 1) := by decide +kernel
theorem dX12_tells1_129 : decode cX12_tells1 129 = .ok (.i2l, 1) := by decide +kernel
theorem dX12_tells1_130 : decode cX12_tells1 130 = .ok (.lastore, 1) := by decide +kernel
theorem dX12_tells1_131 : decode cX12_tells1 131 = .ok (.lload 7, 2) := by decide +kernel
theorem dX12_tells1_133 : decode cX12_tells1 133 = .ok (.lstore 9, 2) := by decide +kernel
theorem dX12_tells1_135 : decode cX12_tells1 135 = .ok (.iconst 0, 1) := by decide +kernel
theorem dX12_tells1_136 : decode cX12_tells1 136 = .ok (.istore 11, 2) := by decide +kernel
theorem dX12_tells1_138 : decode cX12_tells1 138 = .ok (.iload 11, 2) := by decide +kernel
theorem dX12_tells1_140 : decode cX12_tells1 140 = .ok (.aload_n 0, 1) := by decide +kernel
theorem dX12_tells1_141 : decode cX12_tells1 141 = .ok (.getfield 13, 3) := by decide +kernel
theorem dX12_tells1_144 : decode cX12_tells1 144 = .ok (.aload_n 0, 1) := by decide +kernel
theorem dX12_tells1_145 : decode cX12_tells1 145 = .ok (.getfield 405, 3) := by decide +kernel
theorem dX12_tells1_148 : decode cX12_tells1 148 = .ok (.iconst 1, 1) := by decide +kernel
theorem dX12_tells1_149 : decode cX12_tells1 149 = .ok (.iadd, 1) := by decide +kernel
theorem dX12_tells1_150 : decode cX12_tells1 150 = .ok (.iaload, 1) := by decide +kernel
theorem dX12_tells1_151 : decode cX12_tells1 151 = .ok (.if_icmp .ge 58, 3) := by decide +kernel
theorem dX12_tells1_154 : decode cX12_tells1 154 = .ok (.aload_n 0, 1) := by decide +kernel
theorem dX12_tells1_155 : decode cX12_tells1 155 = .ok (.getfield 405, 3) := by decide +kernel
theorem dX12_tells1_158 : decode cX12_tells1 158 = .ok (.iconst 2, 1) := by decide +kernel
theorem dX12_tells1_159 : decode cX12_tells1 159 = .ok (.iadd, 1) := by decide +kernel
theorem dX12_tells1_160 : decode cX12_tells1 160 = .ok (.bipush 8, 2) := by decide +kernel
theorem dX12_tells1_162 : decode cX12_tells1 162 = .ok (.iload 11, 2) := by decide +kernel
theorem dX12_tells1_164 : decode cX12_tells1 164 = .ok (.imul, 1) := by decide +kernel
theorem dX12_tells1_165 : decode cX12_tells1 165 = .ok (.iadd, 1) := by decide +kernel
theorem dX12_tells1_166 : decode cX12_tells1 166 = .ok (.istore 12, 2) := by decide +kernel
theorem dX12_tells1_168 : decode cX12_tells1 168 = .ok (.aload_n 0, 1) := by decide +kernel
theorem dX12_tells1_169 : decode cX12_tells1 169 = .ok (.getfield 13, 3) := by decide +kernel
theorem dX12_tells1_172 : decode cX12_tells1 172 = .ok (.iload 12, 2) := by decide +kernel
theorem dX12_tells1_174 : decode cX12_tells1 174 = .ok (.iaload, 1) := by decide +kernel
theorem dX12_tells1_175 : decode cX12_tells1 175 = .ok (.iload_n 1, 1) := by decide +kernel
theorem dX12_tells1_176 : decode cX12_tells1 176 = .ok (.if_icmp .ne 27, 3) := by decide +kernel
theorem dX12_tells1_179 : decode cX12_tells1 179 = .ok (.aload_n 0, 1) := by decide +kernel
theorem dX12_tells1_180 : decode cX12_tells1 180 = .ok (.iload 12, 2) := by decide +kernel
theorem dX12_tells1_182 : decode cX12_tells1 182 = .ok (.invokevirtual 432, 3) := by decide +kernel
theorem dX12_tells1_185 : decode cX12_tells1 185 = .ok (.ifCond .eq 18, 3) := by decide +kernel
theorem dX12_tells1_188 : decode cX12_tells1 188 = .ok (.iload_n 1, 1) := by decide +kernel
theorem dX12_tells1_189 : decode cX12_tells1 189 = .ok (.iconst 2, 1) := by decide +kernel
theorem dX12_tells1_190 : decode cX12_tells1 190 = .ok (.if_icmp .ne 7, 3) := by decide +kernel
theorem dX12_tells1_193 : decode cX12_tells1 193 = .ok (.lconst 1, 1) := by decide +kernel
theorem dX12_tells1_194 : decode cX12_tells1 194 = .ok (.goto 7, 3) := by decide +kernel
theorem dX12_tells1_197 : decode cX12_tells1 197 = .ok (.aload_n 0, 1) := by decide +kernel
theorem dX12_tells1_198 : decode cX12_tells1 198 = .ok (.getfield 429, 3) := by decide +kernel
theorem dX12_tells1_201 : decode cX12_tells1 201 = .ok (.lstore 9, 2) := by decide +kernel
theorem dX12_tells1_203 : decode cX12_tells1 203 = .ok (.iinc 11 1, 3) := by decide +kernel
theorem dX12_tells1_206 : decode cX12_tells1 206 = .ok (.goto (-68), 3) := by decide +kernel
theorem dX12_tells1_209 : decode cX12_tells1 209 = .ok (.lload 9, 2) := by decide +kernel
theorem dX12_tells1_211 : decode cX12_tells1 211 = .ok (.lreturn, 1) := by decide +kernel
theorem dX12_year_0 : decode cX12_year 0 = .ok (.aload_n 0, 1) := by decide +kernel
theorem dX12_year_1 : decode cX12_year 1 = .ok (.getfield 13, 3) := by decide +kernel
theorem dX12_year_4 : decode cX12_year 4 = .ok (.bipush 6, 2) := by decide +kernel
theorem dX12_year_6 : decode cX12_year 6 = .ok (.iaload, 1) := by decide +kernel
theorem dX12_year_7 : decode cX12_year 7 = .ok (.ireturn, 1) := by decide +kernel
theorem dX12_isBarred_0 : decode cX12_isBarred 0 = .ok (.aload_n 0, 1) := by decide +kernel
theorem dX12_isBarred_1 : decode cX12_isBarred 1 = .ok (.iconst 2, 1) := by decide +kernel
theorem dX12_isBarred_2 : decode cX12_isBarred 2 = .ok (.iload_n 1, 1) := by decide +kernel
theorem dX12_isBarred_3 : decode cX12_isBarred 3 = .ok (.iload_n 2, 1) := by decide +kernel
theorem dX12_isBarred_4 : decode cX12_isBarred 4 = .ok (.iload_n 3, 1) := by decide +kernel
theorem dX12_isBarred_5 : decode cX12_isBarred 5 = .ok (.iconst (-1), 1) := by decide +kernel
theorem dX12_isBarred_6 : decode cX12_isBarred 6 = .ok (.aload_n 0, 1) := by decide +kernel
theorem dX12_isBarred_7 : decode cX12_isBarred 7 = .ok (.invokevirtual 210, 3) := by decide +kernel
theorem dX12_isBarred_10 : decode cX12_isBarred 10 = .ok (.lconst 0, 1) := by decide +kernel
theorem dX12_isBarred_11 : decode cX12_isBarred 11 = .ok (.invokevirtual 435, 3) := by decide +kernel
theorem dX12_isBarred_14 : decode cX12_isBarred 14 = .ok (.lconst 1, 1) := by decide +kernel
theorem dX12_isBarred_15 : decode cX12_isBarred 15 = .ok (.lcmp, 1) := by decide +kernel
theorem dX12_isBarred_16 : decode cX12_isBarred 16 = .ok (.ifCond .ne 7, 3) := by decide +kernel
theorem dX12_isBarred_19 : decode cX12_isBarred 19 = .ok (.iconst 1, 1) := by decide +kernel
theorem dX12_isBarred_20 : decode cX12_isBarred 20 = .ok (.goto 4, 3) := by decide +kernel
theorem dX12_isBarred_23 : decode cX12_isBarred 23 = .ok (.iconst 0, 1) := by decide +kernel
theorem dX12_isBarred_24 : decode cX12_isBarred 24 = .ok (.ireturn, 1) := by decide +kernel
theorem dX12_within_0 : decode cX12_within 0 = .ok (.lload_n 0, 1) := by decide +kernel
theorem dX12_within_1 : decode cX12_within 1 = .ok (.iload_n 2, 1) := by decide +kernel
theorem dX12_within_2 : decode cX12_within 2 = .ok (.i2l, 1) := by decide +kernel
theorem dX12_within_3 : decode cX12_within 3 = .ok (.lcmp, 1) := by decide +kernel
theorem dX12_within_4 : decode cX12_within 4 = .ok (.ifCond .ge 7, 3) := by decide +kernel
theorem dX12_within_7 : decode cX12_within 7 = .ok (.iload_n 2, 1) := by decide +kernel
theorem dX12_within_8 : decode cX12_within 8 = .ok (.goto 16, 3) := by decide +kernel
theorem dX12_within_11 : decode cX12_within 11 = .ok (.lload_n 0, 1) := by decide +kernel
theorem dX12_within_12 : decode cX12_within 12 = .ok (.iload_n 3, 1) := by decide +kernel
theorem dX12_within_13 : decode cX12_within 13 = .ok (.i2l, 1) := by decide +kernel
theorem dX12_within_14 : decode cX12_within 14 = .ok (.lcmp, 1) := by decide +kernel
theorem dX12_within_15 : decode cX12_within 15 = .ok (.ifCond .le 7, 3) := by decide +kernel
theorem dX12_within_18 : decode cX12_within 18 = .ok (.iload_n 3, 1) := by decide +kernel
theorem dX12_within_19 : decode cX12_within 19 = .ok (.goto 5, 3) := by decide +kernel
theorem dX12_within_22 : decode cX12_within 22 = .ok (.lload_n 0, 1) := by decide +kernel
theorem dX12_within_23 : decode cX12_within 23 = .ok (.l2i, 1) := by decide +kernel
theorem dX12_within_24 : decode cX12_within 24 = .ok (.ireturn, 1) := by decide +kernel
theorem dX12_worthOf_0 : decode cX12_worthOf 0 = .ok (.aload_n 0, 1) := by decide +kernel
theorem dX12_worthOf_1 : decode cX12_worthOf 1 = .ok (.iconst 0, 1) := by decide +kernel
theorem dX12_worthOf_2 : decode cX12_worthOf 2 = .ok (.iload_n 1, 1) := by decide +kernel
theorem dX12_worthOf_3 : decode cX12_worthOf 3 = .ok (.iload_n 2, 1) := by decide +kernel
theorem dX12_worthOf_4 : decode cX12_worthOf 4 = .ok (.iload_n 3, 1) := by decide +kernel
theorem dX12_worthOf_5 : decode cX12_worthOf 5 = .ok (.iconst (-1), 1) := by decide +kernel
theorem dX12_worthOf_6 : decode cX12_worthOf 6 = .ok (.aload_n 0, 1) := by decide +kernel
theorem dX12_worthOf_7 : decode cX12_worthOf 7 = .ok (.invokevirtual 210, 3) := by decide +kernel
theorem dX12_worthOf_10 : decode cX12_worthOf 10 = .ok (.aload_n 0, 1) := by decide +kernel
theorem dX12_worthOf_11 : decode cX12_worthOf 11 = .ok (.iload_n 1, 1) := by decide +kernel
theorem dX12_worthOf_12 : decode cX12_worthOf 12 = .ok (.iconst 2, 1) := by decide +kernel
theorem dX12_worthOf_13 : decode cX12_worthOf 13 = .ok (.invokevirtual 190, 3) := by decide +kernel
theorem dX12_worthOf_16 : decode cX12_worthOf 16 = .ok (.i2l, 1) := by decide +kernel
theorem dX12_worthOf_17 : decode cX12_worthOf 17 = .ok (.invokevirtual 435, 3) := by decide +kernel
theorem dX12_worthOf_20 : decode cX12_worthOf 20 = .ok (.iconst 0, 1) := by decide +kernel
theorem dX12_worthOf_21 : decode cX12_worthOf 21 = .ok (.sipush 999, 3) := by decide +kernel
theorem dX12_worthOf_24 : decode cX12_worthOf 24 = .ok (.invokestatic 439, 3) := by decide +kernel
theorem dX12_worthOf_27 : decode cX12_worthOf 27 = .ok (.ireturn, 1) := by decide +kernel
theorem dX12_asks_0 : decode cX12_asks 0 = .ok (.aload_n 0, 1) := by decide +kernel
theorem dX12_asks_1 : decode cX12_asks 1 = .ok (.iconst 0, 1) := by decide +kernel
theorem dX12_asks_2 : decode cX12_asks 2 = .ok (.putfield 166, 3) := by decide +kernel
theorem dX12_asks_5 : decode cX12_asks 5 = .ok (.aload_n 0, 1) := by decide +kernel
theorem dX12_asks_6 : decode cX12_asks 6 = .ok (.iload_n 1, 1) := by decide +kernel
theorem dX12_asks_7 : decode cX12_asks 7 = .ok (.invokevirtual 225, 3) := by decide +kernel
theorem dX12_asks_10 : decode cX12_asks 10 = .ok (.ifCond .eq 33, 3) := by decide +kernel
theorem dX12_asks_13 : decode cX12_asks 13 = .ok (.aload_n 0, 1) := by decide +kernel
theorem dX12_asks_14 : decode cX12_asks 14 = .ok (.iload_n 2, 1) := by decide +kernel
theorem dX12_asks_15 : decode cX12_asks 15 = .ok (.invokevirtual 198, 3) := by decide +kernel
theorem dX12_asks_18 : decode cX12_asks 18 = .ok (.ifCond .eq 25, 3) := by decide +kernel
theorem dX12_asks_21 : decode cX12_asks 21 = .ok (.aload_n 0, 1) := by decide +kernel
theorem dX12_asks_22 : decode cX12_asks 22 = .ok (.iload_n 1, 1) := by decide +kernel
theorem dX12_asks_23 : decode cX12_asks 23 = .ok (.iconst 0, 1) := by decide +kernel
theorem dX12_asks_24 : decode cX12_asks 24 = .ok (.invokevirtual 190, 3) := by decide +kernel
theorem dX12_asks_27 : decode cX12_asks 27 = .ok (.iload_n 2, 1) := by decide +kernel
theorem dX12_asks_28 : decode cX12_asks 28 = .ok (.if_icmp .eq 15, 3) := by decide +kernel
theorem dX12_asks_31 : decode cX12_asks 31 = .ok (.iload_n 3, 1) := by decide +kernel
theorem dX12_asks_32 : decode cX12_asks 32 = .ok (.i2l, 1) := by decide +kernel
theorem dX12_asks_33 : decode cX12_asks 33 = .ok (.lconst 0, 1) := by decide +kernel
theorem dX12_asks_34 : decode cX12_asks 34 = .ok (.ldc2_w 443, 3) := by decide +kernel
theorem dX12_asks_37 : decode cX12_asks 37 = .ok (.invokestatic 179, 3) := by decide +kernel
theorem dX12_asks_40 : decode cX12_asks 40 = .ok (.ifCond .ne 5, 3) := by decide +kernel
theorem dX12_asks_43 : decode cX12_asks 43 = .ok (.iconst (-1), 1) := by decide +kernel
theorem dX12_asks_44 : decode cX12_asks 44 = .ok (.ireturn, 1) := by decide +kernel
theorem dX12_asks_45 : decode cX12_asks 45 = .ok (.aload_n 0, 1) := by decide +kernel
theorem dX12_asks_46 : decode cX12_asks 46 = .ok (.iload_n 1, 1) := by decide +kernel
theorem dX12_asks_47 : decode cX12_asks 47 = .ok (.iconst 0, 1) := by decide +kernel
theorem dX12_asks_48 : decode cX12_asks 48 = .ok (.invokevirtual 190, 3) := by decide +kernel
theorem dX12_asks_51 : decode cX12_asks 51 = .ok (.istore 4, 2) := by decide +kernel
theorem dX12_asks_53 : decode cX12_asks 53 = .ok (.iload_n 3, 1) := by decide +kernel
theorem dX12_asks_54 : decode cX12_asks 54 = .ok (.ifCond .ne 14, 3) := by decide +kernel
theorem dX12_asks_57 : decode cX12_asks 57 = .ok (.aload_n 0, 1) := by decide +kernel
theorem dX12_asks_58 : decode cX12_asks 58 = .ok (.iload_n 1, 1) := by decide +kernel
theorem dX12_asks_59 : decode cX12_asks 59 = .ok (.iload 4, 2) := by decide +kernel
theorem dX12_asks_61 : decode cX12_asks 61 = .ok (.iload_n 2, 1) := by decide +kernel
theorem dX12_asks_62 : decode cX12_asks 62 = .ok (.invokevirtual 445, 3) := by decide +kernel
theorem dX12_asks_65 : decode cX12_asks 65 = .ok (.goto 43, 3) := by decide +kernel
theorem dX12_asks_68 : decode cX12_asks 68 = .ok (.iload_n 3, 1) := by decide +kernel
theorem dX12_asks_69 : decode cX12_asks 69 = .ok (.iconst 1, 1) := by decide +kernel
theorem dX12_asks_70 : decode cX12_asks 70 = .ok (.if_icmp .ne 22, 3) := by decide +kernel
theorem dX12_asks_73 : decode cX12_asks 73 = .ok (.aload_n 0, 1) := by decide +kernel
theorem dX12_asks_74 : decode cX12_asks 74 = .ok (.iload_n 1, 1) := by decide +kernel
theorem dX12_asks_75 : decode cX12_asks 75 = .ok (.iload 4, 2) := by decide +kernel
theorem dX12_asks_77 : decode cX12_asks 77 = .ok (.iload_n 2, 1) := by decide +kernel
theorem dX12_asks_78 : decode cX12_asks 78 = .ok (.invokevirtual 448, 3) := by decide +kernel
theorem dX12_asks_81 : decode cX12_asks 81 = .ok (.ifCond .eq 7, 3) := by decide +kernel
theorem dX12_asks_84 : decode cX12_asks 84 = .ok (.iconst 1, 1) := by decide +kernel
theorem dX12_asks_85 : decode cX12_asks 85 = .ok (.goto 23, 3) := by decide +kernel
theorem dX12_asks_88 : decode cX12_asks 88 = .ok (.iconst 0, 1) := by decide +kernel
theorem dX12_asks_89 : decode cX12_asks 89 = .ok (.goto 19, 3) := by decide +kernel
theorem dX12_asks_92 : decode cX12_asks 92 = .ok (.iload 4, 2) := by decide +kernel
theorem dX12_asks_94 : decode cX12_asks 94 = .ok (.aload_n 0, 1) := by decide +kernel
theorem dX12_asks_95 : decode cX12_asks 95 = .ok (.iload_n 1, 1) := by decide +kernel
theorem dX12_asks_96 : decode cX12_asks 96 = .ok (.iconst 1, 1) := by decide +kernel
theorem dX12_asks_97 : decode cX12_asks 97 = .ok (.invokevirtual 190, 3) := by decide +kernel
theorem dX12_asks_100 : decode cX12_asks 100 = .ok (.if_icmp .ne 7, 3) := by decide +kernel
theorem dX12_asks_103 : decode cX12_asks 103 = .ok (.iconst 0, 1) := by decide +kernel
theorem dX12_asks_104 : decode cX12_asks 104 = .ok (.goto 4, 3) := by decide +kernel
theorem dX12_asks_107 : decode cX12_asks 107 = .ok (.iconst 1, 1) := by decide +kernel
theorem dX12_asks_108 : decode cX12_asks 108 = .ok (.ireturn, 1) := by decide +kernel
theorem dX12_costOf_0 : decode cX12_costOf 0 = .ok (.aload_n 0, 1) := by decide +kernel
theorem dX12_costOf_1 : decode cX12_costOf 1 = .ok (.iconst 1, 1) := by decide +kernel
theorem dX12_costOf_2 : decode cX12_costOf 2 = .ok (.iload_n 1, 1) := by decide +kernel
theorem dX12_costOf_3 : decode cX12_costOf 3 = .ok (.iconst (-1), 1) := by decide +kernel
theorem dX12_costOf_4 : decode cX12_costOf 4 = .ok (.iload_n 2, 1) := by decide +kernel
theorem dX12_costOf_5 : decode cX12_costOf 5 = .ok (.iconst (-1), 1) := by decide +kernel
theorem dX12_costOf_6 : decode cX12_costOf 6 = .ok (.iload_n 3, 1) := by decide +kernel
theorem dX12_costOf_7 : decode cX12_costOf 7 = .ok (.aload_n 0, 1) := by decide +kernel
theorem dX12_costOf_8 : decode cX12_costOf 8 = .ok (.iload_n 1, 1) := by decide +kernel
theorem dX12_costOf_9 : decode cX12_costOf 9 = .ok (.iconst 3, 1) := by decide +kernel
theorem dX12_costOf_10 : decode cX12_costOf 10 = .ok (.invokevirtual 190, 3) := by decide +kernel
theorem dX12_costOf_13 : decode cX12_costOf 13 = .ok (.i2l, 1) := by decide +kernel
theorem dX12_costOf_14 : decode cX12_costOf 14 = .ok (.invokevirtual 435, 3) := by decide +kernel
theorem dX12_costOf_17 : decode cX12_costOf 17 = .ok (.iconst 0, 1) := by decide +kernel
theorem dX12_costOf_18 : decode cX12_costOf 18 = .ok (.bipush 99, 2) := by decide +kernel
theorem dX12_costOf_20 : decode cX12_costOf 20 = .ok (.invokestatic 439, 3) := by decide +kernel
theorem dX12_costOf_23 : decode cX12_costOf 23 = .ok (.ireturn, 1) := by decide +kernel
theorem dX12_at_0 : decode cX12_at 0 = .ok (.aload_n 0, 1) := by decide +kernel
theorem dX12_at_1 : decode cX12_at 1 = .ok (.iconst 0, 1) := by decide +kernel
theorem dX12_at_2 : decode cX12_at 2 = .ok (.putfield 166, 3) := by decide +kernel
theorem dX12_at_5 : decode cX12_at 5 = .ok (.aload_n 0, 1) := by decide +kernel
theorem dX12_at_6 : decode cX12_at 6 = .ok (.iload_n 1, 1) := by decide +kernel
theorem dX12_at_7 : decode cX12_at 7 = .ok (.invokevirtual 225, 3) := by decide +kernel
theorem dX12_at_10 : decode cX12_at 10 = .ok (.ifCond .eq 15, 3) := by decide +kernel
theorem dX12_at_13 : decode cX12_at 13 = .ok (.iload_n 2, 1) := by decide +kernel
theorem dX12_at_14 : decode cX12_at 14 = .ok (.i2l, 1) := by decide +kernel
theorem dX12_at_15 : decode cX12_at 15 = .ok (.lconst 0, 1) := by decide +kernel
theorem dX12_at_16 : decode cX12_at 16 = .ok (.ldc2_w 228, 3) := by decide +kernel
theorem dX12_at_19 : decode cX12_at 19 = .ok (.invokestatic 179, 3) := by decide +kernel
theorem dX12_at_22 : decode cX12_at 22 = .ok (.ifCond .ne 5, 3) := by decide +kernel
theorem dX12_at_25 : decode cX12_at 25 = .ok (.iconst (-1), 1) := by decide +kernel
theorem dX12_at_26 : decode cX12_at 26 = .ok (.ireturn, 1) := by decide +kernel
theorem dX12_at_27 : decode cX12_at 27 = .ok (.iload_n 2, 1) := by decide +kernel
theorem dX12_at_28 : decode cX12_at 28 = .ok (.iconst 5, 1) := by decide +kernel
theorem dX12_at_29 : decode cX12_at 29 = .ok (.if_icmp .ge 12, 3) := by decide +kernel
theorem dX12_at_32 : decode cX12_at 32 = .ok (.aload_n 0, 1) := by decide +kernel
theorem dX12_at_33 : decode cX12_at 33 = .ok (.iload_n 1, 1) := by decide +kernel
theorem dX12_at_34 : decode cX12_at 34 = .ok (.iload_n 2, 1) := by decide +kernel
theorem dX12_at_35 : decode cX12_at 35 = .ok (.invokevirtual 190, 3) := by decide +kernel
theorem dX12_at_38 : decode cX12_at 38 = .ok (.goto 18, 3) := by decide +kernel
theorem dX12_at_41 : decode cX12_at 41 = .ok (.aload_n 0, 1) := by decide +kernel
theorem dX12_at_42 : decode cX12_at 42 = .ok (.iload_n 1, 1) := by decide +kernel
theorem dX12_at_43 : decode cX12_at 43 = .ok (.aload_n 0, 1) := by decide +kernel
theorem dX12_at_44 : decode cX12_at 44 = .ok (.iload_n 1, 1) := by decide +kernel
theorem dX12_at_45 : decode cX12_at 45 = .ok (.iconst 0, 1) := by decide +kernel
theorem dX12_at_46 : decode cX12_at 46 = .ok (.invokevirtual 190, 3) := by decide +kernel
theorem dX12_at_49 : decode cX12_at 49 = .ok (.aload_n 0, 1) := by decide +kernel
theorem dX12_at_50 : decode cX12_at 50 = .ok (.invokevirtual 210, 3) := by decide +kernel
theorem dX12_at_53 : decode cX12_at 53 = .ok (.invokevirtual 194, 3) := by decide +kernel
theorem dX12_at_56 : decode cX12_at 56 = .ok (.ireturn, 1) := by decide +kernel
theorem dX12_tell_0 : decode cX12_tell 0 = .ok (.aload_n 0, 1) := by decide +kernel
theorem dX12_tell_1 : decode cX12_tell 1 = .ok (.iload_n 1, 1) := by decide +kernel
theorem dX12_tell_2 : decode cX12_tell 2 = .ok (.ifCond .ge 7, 3) := by decide +kernel
theorem dX12_tell_5 : decode cX12_tell 5 = .ok (.iload_n 1, 1) := by decide +kernel
theorem dX12_tell_6 : decode cX12_tell 6 = .ok (.goto 4, 3) := by decide +kernel
theorem dX12_tell_9 : decode cX12_tell 9 = .ok (.iconst 0, 1) := by decide +kernel
theorem dX12_tell_10 : decode cX12_tell 10 = .ok (.putfield 169, 3) := by decide +kernel
theorem dX12_tell_13 : decode cX12_tell 13 = .ok (.iload_n 1, 1) := by decide +kernel
theorem dX12_tell_14 : decode cX12_tell 14 = .ok (.ifCond .ge 14, 3) := by decide +kernel
theorem dX12_tell_17 : decode cX12_tell 17 = .ok (.aload_n 0, 1) := by decide +kernel
theorem dX12_tell_18 : decode cX12_tell 18 = .ok (.getfield 7, 3) := by decide +kernel
theorem dX12_tell_21 : decode cX12_tell 21 = .ok (.iload_n 1, 1) := by decide +kernel
theorem dX12_tell_22 : decode cX12_tell 22 = .ok (.ineg, 1) := by decide +kernel
theorem dX12_tell_23 : decode cX12_tell 23 = .ok (.dup2, 1) := by decide +kernel
theorem dX12_tell_24 : decode cX12_tell 24 = .ok (.iaload, 1) := by decide +kernel
theorem dX12_tell_25 : decode cX12_tell 25 = .ok (.iconst 1, 1) := by decide +kernel
theorem dX12_tell_26 : decode cX12_tell 26 = .ok (.iadd, 1) := by decide +kernel
theorem dX12_tell_27 : decode cX12_tell 27 = .ok (.iastore, 1) := by decide +kernel
theorem dX12_tell_28 : decode cX12_tell 28 = .ok (.iload_n 1, 1) := by decide +kernel
theorem dX12_tell_29 : decode cX12_tell 29 = .ok (.ireturn, 1) := by decide +kernel
theorem dX12_keepRow_0 : decode cX12_keepRow 0 = .ok (.iconst 0, 1) := by decide +kernel
theorem dX12_keepRow_1 : decode cX12_keepRow 1 = .ok (.istore_n 2, 1) := by decide +kernel
theorem dX12_keepRow_2 : decode cX12_keepRow 2 = .ok (.iload_n 2, 1) := by decide +kernel
theorem dX12_keepRow_3 : decode cX12_keepRow 3 = .ok (.sipush 270, 3) := by decide +kernel
theorem dX12_keepRow_6 : decode cX12_keepRow 6 = .ok (.if_icmp .ge 27, 3) := by decide +kernel
theorem dX12_keepRow_9 : decode cX12_keepRow 9 = .ok (.aload_n 0, 1) := by decide +kernel
theorem dX12_keepRow_10 : decode cX12_keepRow 10 = .ok (.getfield 23, 3) := by decide +kernel
theorem dX12_keepRow_13 : decode cX12_keepRow 13 = .ok (.sipush 270, 3) := by decide +kernel
theorem dX12_keepRow_16 : decode cX12_keepRow 16 = .ok (.iload_n 1, 1) := by decide +kernel
theorem dX12_keepRow_17 : decode cX12_keepRow 17 = .ok (.imul, 1) := by decide +kernel
theorem dX12_keepRow_18 : decode cX12_keepRow 18 = .ok (.iload_n 2, 1) := by decide +kernel
theorem dX12_keepRow_19 : decode cX12_keepRow 19 = .ok (.iadd, 1) := by decide +kernel
theorem dX12_keepRow_20 : decode cX12_keepRow 20 = .ok (.aload_n 0, 1) := by decide +kernel
theorem dX12_keepRow_21 : decode cX12_keepRow 21 = .ok (.getfield 13, 3) := by decide +kernel
theorem dX12_keepRow_24 : decode cX12_keepRow 24 = .ok (.iload_n 2, 1) := by decide +kernel
theorem dX12_keepRow_25 : decode cX12_keepRow 25 = .ok (.iaload, 1) := by decide +kernel
theorem dX12_keepRow_26 : decode cX12_keepRow 26 = .ok (.iastore, 1) := by decide +kernel
theorem dX12_keepRow_27 : decode cX12_keepRow 27 = .ok (.iinc 2 1, 3) := by decide +kernel
theorem dX12_keepRow_30 : decode cX12_keepRow 30 = .ok (.goto (-28), 3) := by decide +kernel
theorem dX12_keepRow_33 : decode cX12_keepRow 33 = .ok (.return_, 1) := by decide +kernel
theorem dX12_remember_0 : decode cX12_remember 0 = .ok (.aload_n 0, 1) := by decide +kernel
theorem dX12_remember_1 : decode cX12_remember 1 = .ok (.getfield 172, 3) := by decide +kernel
theorem dX12_remember_4 : decode cX12_remember 4 = .ok (.bipush 16, 2) := by decide +kernel
theorem dX12_remember_6 : decode cX12_remember 6 = .ok (.if_icmp .ne 72, 3) := by decide +kernel
theorem dX12_remember_9 : decode cX12_remember 9 = .ok (.iconst 0, 1) := by decide +kernel
theorem dX12_remember_10 : decode cX12_remember 10 = .ok (.istore_n 2, 1) := by decide +kernel
theorem dX12_remember_11 : decode cX12_remember 11 = .ok (.iload_n 2, 1) := by decide +kernel
theorem dX12_remember_12 : decode cX12_remember 12 = .ok (.sipush 4050, 3) := by decide +kernel
theorem dX12_remember_15 : decode cX12_remember 15 = .ok (.if_icmp .ge 25, 3) := by decide +kernel
theorem dX12_remember_18 : decode cX12_remember 18 = .ok (.aload_n 0, 1) := by decide +kernel
theorem dX12_remember_19 : decode cX12_remember 19 = .ok (.getfield 23, 3) := by decide +kernel
theorem dX12_remember_22 : decode cX12_remember 22 = .ok (.iload_n 2, 1) := by decide +kernel
theorem dX12_remember_23 : decode cX12_remember 23 = .ok (.aload_n 0, 1) := by decide +kernel
theorem dX12_remember_24 : decode cX12_remember 24 = .ok (.getfield 23, 3) := by decide +kernel
theorem dX12_remember_27 : decode cX12_remember 27 = .ok (.iload_n 2, 1) := by decide +kernel
theorem dX12_remember_28 : decode cX12_remember 28 = .ok (.sipush 270, 3) := by decide +kernel
theorem dX12_remember_31 : decode cX12_remember 31 = .ok (.iadd, 1) := by decide +kernel
theorem dX12_remember_32 : decode cX12_remember 32 = .ok (.iaload, 1) := by decide +kernel
theorem dX12_remember_33 : decode cX12_remember 33 = .ok (.iastore, 1) := by decide +kernel
theorem dX12_remember_34 : decode cX12_remember 34 = .ok (.iinc 2 1, 3) := by decide +kernel
theorem dX12_remember_37 : decode cX12_remember 37 = .ok (.goto (-26), 3) := by decide +kernel
theorem dX12_remember_40 : decode cX12_remember 40 = .ok (.iconst 0, 1) := by decide +kernel
theorem dX12_remember_41 : decode cX12_remember 41 = .ok (.istore_n 2, 1) := by decide +kernel
theorem dX12_remember_42 : decode cX12_remember 42 = .ok (.iload_n 2, 1) := by decide +kernel
theorem dX12_remember_43 : decode cX12_remember 43 = .ok (.bipush 15, 2) := by decide +kernel
theorem dX12_remember_45 : decode cX12_remember 45 = .ok (.if_icmp .ge 23, 3) := by decide +kernel
theorem dX12_remember_48 : decode cX12_remember 48 = .ok (.aload_n 0, 1) := by decide +kernel
theorem dX12_remember_49 : decode cX12_remember 49 = .ok (.getfield 26, 3) := by decide +kernel
theorem dX12_remember_52 : decode cX12_remember 52 = .ok (.iload_n 2, 1) := by decide +kernel
theorem dX12_remember_53 : decode cX12_remember 53 = .ok (.aload_n 0, 1) := by decide +kernel
theorem dX12_remember_54 : decode cX12_remember 54 = .ok (.getfield 26, 3) := by decide +kernel
theorem dX12_remember_57 : decode cX12_remember 57 = .ok (.iload_n 2, 1) := by decide +kernel
theorem dX12_remember_58 : decode cX12_remember 58 = .ok (.iconst 1, 1) := by decide +kernel
theorem dX12_remember_59 : decode cX12_remember 59 = .ok (.iadd, 1) := by decide +kernel
theorem dX12_remember_60 : decode cX12_remember 60 = .ok (.iaload, 1) := by decide +kernel
theorem dX12_remember_61 : decode cX12_remember 61 = .ok (.iastore, 1) := by decide +kernel
theorem dX12_remember_62 : decode cX12_remember 62 = .ok (.iinc 2 1, 3) := by decide +kernel
theorem dX12_remember_65 : decode cX12_remember 65 = .ok (.goto (-23), 3) := by decide +kernel
theorem dX12_remember_68 : decode cX12_remember 68 = .ok (.aload_n 0, 1) := by decide +kernel
theorem dX12_remember_69 : decode cX12_remember 69 = .ok (.dup, 1) := by decide +kernel
theorem dX12_remember_70 : decode cX12_remember 70 = .ok (.getfield 172, 3) := by decide +kernel
theorem dX12_remember_73 : decode cX12_remember 73 = .ok (.iconst 1, 1) := by decide +kernel
theorem dX12_remember_74 : decode cX12_remember 74 = .ok (.isub, 1) := by decide +kernel
theorem dX12_remember_75 : decode cX12_remember 75 = .ok (.putfield 172, 3) := by decide +kernel
theorem dX12_remember_78 : decode cX12_remember 78 = .ok (.aload_n 0, 1) := by decide +kernel
theorem dX12_remember_79 : decode cX12_remember 79 = .ok (.aload_n 0, 1) := by decide +kernel
theorem dX12_remember_80 : decode cX12_remember 80 = .ok (.getfield 172, 3) := by decide +kernel
theorem dX12_remember_83 : decode cX12_remember 83 = .ok (.invokevirtual 462, 3) := by decide +kernel
theorem dX12_remember_86 : decode cX12_remember 86 = .ok (.aload_n 0, 1) := by decide +kernel
theorem dX12_remember_87 : decode cX12_remember 87 = .ok (.getfield 26, 3) := by decide +kernel
theorem dX12_remember_90 : decode cX12_remember 90 = .ok (.aload_n 0, 1) := by decide +kernel
theorem dX12_remember_91 : decode cX12_remember 91 = .ok (.getfield 172, 3) := by decide +kernel
theorem dX12_remember_94 : decode cX12_remember 94 = .ok (.iload_n 1, 1) := by decide +kernel
theorem dX12_remember_95 : decode cX12_remember 95 = .ok (.iastore, 1) := by decide +kernel
theorem dX12_remember_96 : decode cX12_remember 96 = .ok (.aload_n 0, 1) := by decide +kernel
theorem dX12_remember_97 : decode cX12_remember 97 = .ok (.dup, 1) := by decide +kernel
theorem dX12_remember_98 : decode cX12_remember 98 = .ok (.getfield 172, 3) := by decide +kernel
theorem dX12_remember_101 : decode cX12_remember 101 = .ok (.iconst 1, 1) := by decide +kernel
theorem dX12_remember_102 : decode cX12_remember 102 = .ok (.iadd, 1) := by decide +kernel
theorem dX12_remember_103 : decode cX12_remember 103 = .ok (.putfield 172, 3) := by decide +kernel
theorem dX12_remember_106 : decode cX12_remember 106 = .ok (.return_, 1) := by decide +kernel
theorem dX12_costs_0 : decode cX12_costs 0 = .ok (.iconst 0, 1) := by decide +kernel
theorem dX12_costs_1 : decode cX12_costs 1 = .ok (.istore_n 3, 1) := by decide +kernel
theorem dX12_costs_2 : decode cX12_costs 2 = .ok (.iconst 0, 1) := by decide +kernel
theorem dX12_costs_3 : decode cX12_costs 3 = .ok (.istore 4, 2) := by decide +kernel
theorem dX12_costs_5 : decode cX12_costs 5 = .ok (.iload 4, 2) := by decide +kernel
theorem dX12_costs_7 : decode cX12_costs 7 = .ok (.aload_n 0, 1) := by decide +kernel
theorem dX12_costs_8 : decode cX12_costs 8 = .ok (.getfield 13, 3) := by decide +kernel
theorem dX12_costs_11 : decode cX12_costs 11 = .ok (.iconst 1, 1) := by decide +kernel
theorem dX12_costs_12 : decode cX12_costs 12 = .ok (.iaload, 1) := by decide +kernel
theorem dX12_costs_13 : decode cX12_costs 13 = .ok (.if_icmp .ge 35, 3) := by decide +kernel
theorem dX12_costs_16 : decode cX12_costs 16 = .ok (.iload_n 3, 1) := by decide +kernel
theorem dX12_costs_17 : decode cX12_costs 17 = .ok (.aload_n 0, 1) := by decide +kernel
theorem dX12_costs_18 : decode cX12_costs 18 = .ok (.iload 4, 2) := by decide +kernel
theorem dX12_costs_20 : decode cX12_costs 20 = .ok (.iconst 0, 1) := by decide +kernel
theorem dX12_costs_21 : decode cX12_costs 21 = .ok (.invokevirtual 190, 3) := by decide +kernel
theorem dX12_costs_24 : decode cX12_costs 24 = .ok (.iload_n 1, 1) := by decide +kernel
theorem dX12_costs_25 : decode cX12_costs 25 = .ok (.if_icmp .ne 14, 3) := by decide +kernel
theorem dX12_costs_28 : decode cX12_costs 28 = .ok (.aload_n 0, 1) := by decide +kernel
theorem dX12_costs_29 : decode cX12_costs 29 = .ok (.iload 4, 2) := by decide +kernel
theorem dX12_costs_31 : decode cX12_costs 31 = .ok (.iload_n 1, 1) := by decide +kernel
theorem dX12_costs_32 : decode cX12_costs 32 = .ok (.iload_n 2, 1) := by decide +kernel
theorem dX12_costs_33 : decode cX12_costs 33 = .ok (.invokevirtual 194, 3) := by decide +kernel
theorem dX12_costs_36 : decode cX12_costs 36 = .ok (.goto 4, 3) := by decide +kernel
theorem dX12_costs_39 : decode cX12_costs 39 = .ok (.iconst 0, 1) := by decide +kernel
theorem dX12_costs_40 : decode cX12_costs 40 = .ok (.iadd, 1) := by decide +kernel
theorem dX12_costs_41 : decode cX12_costs 41 = .ok (.istore_n 3, 1) := by decide +kernel
theorem dX12_costs_42 : decode cX12_costs 42 = .ok (.iinc 4 1, 3) := by decide +kernel
theorem dX12_costs_45 : decode cX12_costs 45 = .ok (.goto (-40), 3) := by decide +kernel
theorem dX12_costs_48 : decode cX12_costs 48 = .ok (.iload_n 3, 1) := by decide +kernel
theorem dX12_costs_49 : decode cX12_costs 49 = .ok (.ireturn, 1) := by decide +kernel
theorem dX12_is_0 : decode cX12_is 0 = .ok (.iload_n 0, 1) := by decide +kernel
theorem dX12_is_1 : decode cX12_is 1 = .ok (.iload_n 1, 1) := by decide +kernel
theorem dX12_is_2 : decode cX12_is 2 = .ok (.ishr, 1) := by decide +kernel
theorem dX12_is_3 : decode cX12_is 3 = .ok (.iconst 1, 1) := by decide +kernel
theorem dX12_is_4 : decode cX12_is 4 = .ok (.iand, 1) := by decide +kernel
theorem dX12_is_5 : decode cX12_is 5 = .ok (.iconst 1, 1) := by decide +kernel
theorem dX12_is_6 : decode cX12_is 6 = .ok (.if_icmp .ne 7, 3) := by decide +kernel
theorem dX12_is_9 : decode cX12_is 9 = .ok (.iconst 1, 1) := by decide +kernel
theorem dX12_is_10 : decode cX12_is 10 = .ok (.goto 4, 3) := by decide +kernel
theorem dX12_is_13 : decode cX12_is 13 = .ok (.iconst 0, 1) := by decide +kernel
theorem dX12_is_14 : decode cX12_is 14 = .ok (.ireturn, 1) := by decide +kernel
theorem dX12_wait1_0 : decode cX12_wait1 0 = .ok (.aload_n 0, 1) := by decide +kernel
theorem dX12_wait1_1 : decode cX12_wait1 1 = .ok (.getfield 13, 3) := by decide +kernel
theorem dX12_wait1_4 : decode cX12_wait1 4 = .ok (.bipush 6, 2) := by decide +kernel
theorem dX12_wait1_6 : decode cX12_wait1 6 = .ok (.dup2, 1) := by decide +kernel
theorem dX12_wait1_7 : decode cX12_wait1 7 = .ok (.iaload, 1) := by decide +kernel
theorem dX12_wait1_8 : decode cX12_wait1 8 = .ok (.iconst 1, 1) := by decide +kernel
theorem dX12_wait1_9 : decode cX12_wait1 9 = .ok (.iadd, 1) := by decide +kernel
theorem dX12_wait1_10 : decode cX12_wait1 10 = .ok (.iastore, 1) := by decide +kernel
theorem dX12_wait1_11 : decode cX12_wait1 11 = .ok (.iconst 0, 1) := by decide +kernel
theorem dX12_wait1_12 : decode cX12_wait1 12 = .ok (.istore_n 1, 1) := by decide +kernel
theorem dX12_wait1_13 : decode cX12_wait1 13 = .ok (.iconst 0, 1) := by decide +kernel
theorem dX12_wait1_14 : decode cX12_wait1 14 = .ok (.istore_n 2, 1) := by decide +kernel
theorem dX12_wait1_15 : decode cX12_wait1 15 = .ok (.iload_n 2, 1) := by decide +kernel
theorem dX12_wait1_16 : decode cX12_wait1 16 = .ok (.aload_n 0, 1) := by decide +kernel
theorem dX12_wait1_17 : decode cX12_wait1 17 = .ok (.getfield 13, 3) := by decide +kernel
theorem dX12_wait1_20 : decode cX12_wait1 20 = .ok (.iconst 0, 1) := by decide +kernel
theorem dX12_wait1_21 : decode cX12_wait1 21 = .ok (.iaload, 1) := by decide +kernel
theorem dX12_wait1_22 : decode cX12_wait1 22 = .ok (.if_icmp .ge 165, 3) := by decide +kernel
theorem dX12_wait1_25 : decode cX12_wait1 25 = .ok (.bipush 9, 2) := by decide +kernel
theorem dX12_wait1_27 : decode cX12_wait1 27 = .ok (.bipush 6, 2) := by decide +kernel
theorem dX12_wait1_29 : decode cX12_wait1 29 = .ok (.iload_n 2, 1) := by decide +kernel
theorem dX12_wait1_30 : decode cX12_wait1 30 = .ok (.imul, 1) := by decide +kernel
theorem dX12_wait1_31 : decode cX12_wait1 31 = .ok (.iadd, 1) := by decide +kernel
theorem dX12_wait1_32 : decode cX12_wait1 32 = .ok (.istore_n 3, 1) := by decide +kernel
theorem dX12_wait1_33 : decode cX12_wait1 33 = .ok (.aload_n 0, 1) := by decide +kernel
theorem dX12_wait1_34 : decode cX12_wait1 34 = .ok (.getfield 13, 3) := by decide +kernel
theorem dX12_wait1_37 : decode cX12_wait1 37 = .ok (.iload_n 3, 1) := by decide +kernel
theorem dX12_wait1_38 : decode cX12_wait1 38 = .ok (.iaload, 1) := by decide +kernel
theorem dX12_wait1_39 : decode cX12_wait1 39 = .ok (.aload_n 0, 1) := by decide +kernel
theorem dX12_wait1_40 : decode cX12_wait1 40 = .ok (.getfield 455, 3) := by decide +kernel
theorem dX12_wait1_43 : decode cX12_wait1 43 = .ok (.iload_n 2, 1) := by decide +kernel
theorem dX12_wait1_44 : decode cX12_wait1 44 = .ok (.invokestatic 458, 3) := by decide +kernel
theorem dX12_wait1_47 : decode cX12_wait1 47 = .ok (.ifCond .eq 7, 3) := by decide +kernel
theorem dX12_wait1_50 : decode cX12_wait1 50 = .ok (.iconst 0, 1) := by decide +kernel
theorem dX12_wait1_51 : decode cX12_wait1 51 = .ok (.goto 11, 3) := by decide +kernel
theorem dX12_wait1_54 : decode cX12_wait1 54 = .ok (.aload_n 0, 1) := by decide +kernel
theorem dX12_wait1_55 : decode cX12_wait1 55 = .ok (.getfield 13, 3) := by decide +kernel
theorem dX12_wait1_58 : decode cX12_wait1 58 = .ok (.iload_n 3, 1) := by decide +kernel
theorem dX12_wait1_59 : decode cX12_wait1 59 = .ok (.iconst 1, 1) := by decide +kernel
theorem dX12_wait1_60 : decode cX12_wait1 60 = .ok (.iadd, 1) := by decide +kernel
theorem dX12_wait1_61 : decode cX12_wait1 61 = .ok (.iaload, 1) := by decide +kernel
theorem dX12_wait1_62 : decode cX12_wait1 62 = .ok (.iadd, 1) := by decide +kernel
theorem dX12_wait1_63 : decode cX12_wait1 63 = .ok (.i2l, 1) := by decide +kernel
theorem dX12_wait1_64 : decode cX12_wait1 64 = .ok (.iconst 0, 1) := by decide +kernel
theorem dX12_wait1_65 : decode cX12_wait1 65 = .ok (.sipush 9999, 3) := by decide +kernel
theorem dX12_wait1_68 : decode cX12_wait1 68 = .ok (.invokestatic 439, 3) := by decide +kernel
theorem dX12_wait1_71 : decode cX12_wait1 71 = .ok (.istore 4, 2) := by decide +kernel
theorem dX12_wait1_73 : decode cX12_wait1 73 = .ok (.aload_n 0, 1) := by decide +kernel
theorem dX12_wait1_74 : decode cX12_wait1 74 = .ok (.iload_n 2, 1) := by decide +kernel
theorem dX12_wait1_75 : decode cX12_wait1 75 = .ok (.aload_n 0, 1) := by decide +kernel
theorem dX12_wait1_76 : decode cX12_wait1 76 = .ok (.invokevirtual 210, 3) := by decide +kernel
theorem dX12_wait1_79 : decode cX12_wait1 79 = .ok (.invokevirtual 214, 3) := by decide +kernel
theorem dX12_wait1_82 : decode cX12_wait1 82 = .ok (.istore 5, 2) := by decide +kernel
theorem dX12_wait1_84 : decode cX12_wait1 84 = .ok (.aload_n 0, 1) := by decide +kernel
theorem dX12_wait1_85 : decode cX12_wait1 85 = .ok (.getfield 13, 3) := by decide +kernel
theorem dX12_wait1_88 : decode cX12_wait1 88 = .ok (.iload_n 3, 1) := by decide +kernel
theorem dX12_wait1_89 : decode cX12_wait1 89 = .ok (.iload 4, 2) := by decide +kernel
theorem dX12_wait1_91 : decode cX12_wait1 91 = .ok (.iload 5, 2) := by decide +kernel
theorem dX12_wait1_93 : decode cX12_wait1 93 = .ok (.if_icmp .ge 7, 3) := by decide +kernel
theorem dX12_wait1_96 : decode cX12_wait1 96 = .ok (.iconst 0, 1) := by decide +kernel
theorem dX12_wait1_97 : decode cX12_wait1 97 = .ok (.goto 8, 3) := by decide +kernel
theorem dX12_wait1_100 : decode cX12_wait1 100 = .ok (.iload 4, 2) := by decide +kernel
theorem dX12_wait1_102 : decode cX12_wait1 102 = .ok (.iload 5, 2) := by decide +kernel
theorem dX12_wait1_104 : decode cX12_wait1 104 = .ok (.isub, 1) := by decide +kernel
theorem dX12_wait1_105 : decode cX12_wait1 105 = .ok (.iastore, 1) := by decide +kernel
theorem dX12_wait1_106 : decode cX12_wait1 106 = .ok (.iload 4, 2) := by decide +kernel
theorem dX12_wait1_108 : decode cX12_wait1 108 = .ok (.iload 5, 2) := by decide +kernel
theorem dX12_wait1_110 : decode cX12_wait1 110 = .ok (.if_icmp .ge 71, 3) := by decide +kernel
theorem dX12_wait1_113 : decode cX12_wait1 113 = .ok (.iload_n 1, 1) := by decide +kernel
theorem dX12_wait1_114 : decode cX12_wait1 114 = .ok (.aload_n 0, 1) := by decide +kernel
theorem dX12_wait1_115 : decode cX12_wait1 115 = .ok (.getfield 13, 3) := by decide +kernel
theorem dX12_wait1_118 : decode cX12_wait1 118 = .ok (.iload_n 3, 1) := by decide +kernel
theorem dX12_wait1_119 : decode cX12_wait1 119 = .ok (.iconst 2, 1) := by decide +kernel
theorem dX12_wait1_120 : decode cX12_wait1 120 = .ok (.iadd, 1) := by decide +kernel
theorem dX12_wait1_121 : decode cX12_wait1 121 = .ok (.iaload, 1) := by decide +kernel
theorem dX12_wait1_122 : decode cX12_wait1 122 = .ok (.ifCond .ne 7, 3) := by decide +kernel
theorem dX12_wait1_125 : decode cX12_wait1 125 = .ok (.iconst 1, 1) := by decide +kernel
theorem dX12_wait1_126 : decode cX12_wait1 126 = .ok (.goto 4, 3) := by decide +kernel
theorem dX12_wait1_129 : decode cX12_wait1 129 = .ok (.iconst 0, 1) := by decide +kernel
theorem dX12_wait1_130 : decode cX12_wait1 130 = .ok (.iadd, 1) := by decide +kernel
theorem dX12_wait1_131 : decode cX12_wait1 131 = .ok (.istore_n 1, 1) := by decide +kernel
theorem dX12_wait1_132 : decode cX12_wait1 132 = .ok (.aload_n 0, 1) := by decide +kernel
theorem dX12_wait1_133 : decode cX12_wait1 133 = .ok (.getfield 13, 3) := by decide +kernel
theorem dX12_wait1_136 : decode cX12_wait1 136 = .ok (.iload_n 3, 1) := by decide +kernel
theorem dX12_wait1_137 : decode cX12_wait1 137 = .ok (.iconst 2, 1) := by decide +kernel
theorem dX12_wait1_138 : decode cX12_wait1 138 = .ok (.iadd, 1) := by decide +kernel
theorem dX12_wait1_139 : decode cX12_wait1 139 = .ok (.iconst 1, 1) := by decide +kernel
theorem dX12_wait1_140 : decode cX12_wait1 140 = .ok (.iastore, 1) := by decide +kernel
theorem dX12_wait1_141 : decode cX12_wait1 141 = .ok (.iconst 0, 1) := by decide +kernel
theorem dX12_wait1_142 : decode cX12_wait1 142 = .ok (.istore 6, 2) := by decide +kernel
theorem dX12_wait1_144 : decode cX12_wait1 144 = .ok (.iload 6, 2) := by decide +kernel
theorem dX12_wait1_146 : decode cX12_wait1 146 = .ok (.bipush 6, 2) := by decide +kernel
theorem dX12_wait1_148 : decode cX12_wait1 148 = .ok (.if_icmp .ge 33, 3) := by decide +kernel
theorem dX12_wait1_151 : decode cX12_wait1 151 = .ok (.aload_n 0, 1) := by decide +kernel
theorem dX12_wait1_152 : decode cX12_wait1 152 = .ok (.getfield 13, 3) := by decide +kernel
theorem dX12_wait1_155 : decode cX12_wait1 155 = .ok (.iload_n 2, 1) := by decide +kernel
theorem dX12_wait1_156 : decode cX12_wait1 156 = .ok (.iload 6, 2) := by decide +kernel
theorem dX12_wait1_158 : decode cX12_wait1 158 = .ok (.invokestatic 452, 3) := by decide +kernel
theorem dX12_wait1_161 : decode cX12_wait1 161 = .ok (.iconst (-1), 1) := by decide +kernel
theorem dX12_wait1_162 : decode cX12_wait1 162 = .ok (.iastore, 1) := by decide +kernel
theorem dX12_wait1_163 : decode cX12_wait1 163 = .ok (.aload_n 0, 1) := by decide +kernel
theorem dX12_wait1_164 : decode cX12_wait1 164 = .ok (.getfield 13, 3) := by decide +kernel
theorem dX12_wait1_167 : decode cX12_wait1 167 = .ok (.iload 6, 2) := by decide +kernel
theorem dX12_wait1_169 : decode cX12_wait1 169 = .ok (.iload_n 2, 1) := by decide +kernel
theorem dX12_wait1_170 : decode cX12_wait1 170 = .ok (.invokestatic 452, 3) := by decide +kernel
theorem dX12_wait1_173 : decode cX12_wait1 173 = .ok (.iconst (-1), 1) := by decide +kernel
theorem dX12_wait1_174 : decode cX12_wait1 174 = .ok (.iastore, 1) := by decide +kernel
theorem dX12_wait1_175 : decode cX12_wait1 175 = .ok (.iinc 6 1, 3) := by decide +kernel
theorem dX12_wait1_178 : decode cX12_wait1 178 = .ok (.goto (-34), 3) := by decide +kernel
theorem dX12_wait1_181 : decode cX12_wait1 181 = .ok (.iinc 2 1, 3) := by decide +kernel
theorem dX12_wait1_184 : decode cX12_wait1 184 = .ok (.goto (-169), 3) := by decide +kernel
theorem dX12_wait1_187 : decode cX12_wait1 187 = .ok (.iconst 0, 1) := by decide +kernel
theorem dX12_wait1_188 : decode cX12_wait1 188 = .ok (.istore_n 2, 1) := by decide +kernel
theorem dX12_wait1_189 : decode cX12_wait1 189 = .ok (.iload_n 2, 1) := by decide +kernel
theorem dX12_wait1_190 : decode cX12_wait1 190 = .ok (.bipush 36, 2) := by decide +kernel
theorem dX12_wait1_192 : decode cX12_wait1 192 = .ok (.if_icmp .ge 99, 3) := by decide +kernel
theorem dX12_wait1_195 : decode cX12_wait1 195 = .ok (.sipush 141, 3) := by decide +kernel
theorem dX12_wait1_198 : decode cX12_wait1 198 = .ok (.iconst 2, 1) := by decide +kernel
theorem dX12_wait1_199 : decode cX12_wait1 199 = .ok (.iload_n 2, 1) := by decide +kernel
theorem dX12_wait1_200 : decode cX12_wait1 200 = .ok (.imul, 1) := by decide +kernel
theorem dX12_wait1_201 : decode cX12_wait1 201 = .ok (.iadd, 1) := by decide +kernel
theorem dX12_wait1_202 : decode cX12_wait1 202 = .ok (.istore_n 3, 1) := by decide +kernel
theorem dX12_wait1_203 : decode cX12_wait1 203 = .ok (.aload_n 0, 1) := by decide +kernel
theorem dX12_wait1_204 : decode cX12_wait1 204 = .ok (.getfield 13, 3) := by decide +kernel
theorem dX12_wait1_207 : decode cX12_wait1 207 = .ok (.iload_n 3, 1) := by decide +kernel
theorem dX12_wait1_208 : decode cX12_wait1 208 = .ok (.iaload, 1) := by decide +kernel
theorem dX12_wait1_209 : decode cX12_wait1 209 = .ok (.iconst (-1), 1) := by decide +kernel
theorem dX12_wait1_210 : decode cX12_wait1 210 = .ok (.if_icmp .eq 75, 3) := by decide +kernel
theorem dX12_wait1_213 : decode cX12_wait1 213 = .ok (.aload_n 0, 1) := by decide +kernel
theorem dX12_wait1_214 : decode cX12_wait1 214 = .ok (.invokevirtual 210, 3) := by decide +kernel
theorem dX12_wait1_217 : decode cX12_wait1 217 = .ok (.aload_n 0, 1) := by decide +kernel
theorem dX12_wait1_218 : decode cX12_wait1 218 = .ok (.getfield 13, 3) := by decide +kernel
theorem dX12_wait1_221 : decode cX12_wait1 221 = .ok (.iload_n 3, 1) := by decide +kernel
theorem dX12_wait1_222 : decode cX12_wait1 222 = .ok (.iconst 1, 1) := by decide +kernel
theorem dX12_wait1_223 : decode cX12_wait1 223 = .ok (.iadd, 1) := by decide +kernel
theorem dX12_wait1_224 : decode cX12_wait1 224 = .ok (.iaload, 1) := by decide +kernel
theorem dX12_wait1_225 : decode cX12_wait1 225 = .ok (.isub, 1) := by decide +kernel
theorem dX12_wait1_226 : decode cX12_wait1 226 = .ok (.aload_n 0, 1) := by decide +kernel
theorem dX12_wait1_227 : decode cX12_wait1 227 = .ok (.getfield 13, 3) := by decide +kernel
theorem dX12_wait1_230 : decode cX12_wait1 230 = .ok (.bipush 7, 2) := by decide +kernel
theorem dX12_wait1_232 : decode cX12_wait1 232 = .ok (.iaload, 1) := by decide +kernel
theorem dX12_wait1_233 : decode cX12_wait1 233 = .ok (.if_icmp .lt 52, 3) := by decide +kernel
theorem dX12_wait1_236 : decode cX12_wait1 236 = .ok (.aload_n 0, 1) := by decide +kernel
theorem dX12_wait1_237 : decode cX12_wait1 237 = .ok (.getfield 13, 3) := by decide +kernel
theorem dX12_wait1_240 : decode cX12_wait1 240 = .ok (.bipush 9, 2) := by decide +kernel
theorem dX12_wait1_242 : decode cX12_wait1 242 = .ok (.bipush 6, 2) := by decide +kernel
theorem dX12_wait1_244 : decode cX12_wait1 244 = .ok (.iload_n 2, 1) := by decide +kernel
theorem dX12_wait1_245 : decode cX12_wait1 245 = .ok (.bipush 6, 2) := by decide +kernel
theorem dX12_wait1_247 : decode cX12_wait1 247 = .ok (.idiv, 1) := by decide +kernel
theorem dX12_wait1_248 : decode cX12_wait1 248 = .ok (.imul, 1) := by decide +kernel
theorem dX12_wait1_249 : decode cX12_wait1 249 = .ok (.iadd, 1) := by decide +kernel
theorem dX12_wait1_250 : decode cX12_wait1 250 = .ok (.iconst 4, 1) := by decide +kernel
theorem dX12_wait1_251 : decode cX12_wait1 251 = .ok (.iadd, 1) := by decide +kernel
theorem dX12_wait1_252 : decode cX12_wait1 252 = .ok (.dup2, 1) := by decide +kernel
theorem dX12_wait1_253 : decode cX12_wait1 253 = .ok (.iaload, 1) := by decide +kernel
theorem dX12_wait1_254 : decode cX12_wait1 254 = .ok (.iconst 1, 1) := by decide +kernel
theorem dX12_wait1_255 : decode cX12_wait1 255 = .ok (.iadd, 1) := by decide +kernel
theorem dX12_wait1_256 : decode cX12_wait1 256 = .ok (.iastore, 1) := by decide +kernel
theorem dX12_wait1_257 : decode cX12_wait1 257 = .ok (.aload_n 0, 1) := by decide +kernel
theorem dX12_wait1_258 : decode cX12_wait1 258 = .ok (.getfield 13, 3) := by decide +kernel
theorem dX12_wait1_261 : decode cX12_wait1 261 = .ok (.bipush 9, 2) := by decide +kernel
theorem dX12_wait1_263 : decode cX12_wait1 263 = .ok (.bipush 6, 2) := by decide +kernel
theorem dX12_wait1_265 : decode cX12_wait1 265 = .ok (.iload_n 2, 1) := by decide +kernel
theorem dX12_wait1_266 : decode cX12_wait1 266 = .ok (.bipush 6, 2) := by decide +kernel
theorem dX12_wait1_268 : decode cX12_wait1 268 = .ok (.irem, 1) := by decide +kernel
theorem dX12_wait1_269 : decode cX12_wait1 269 = .ok (.imul, 1) := by decide +kernel
theorem dX12_wait1_270 : decode cX12_wait1 270 = .ok (.iadd, 1) := by decide +kernel
theorem dX12_wait1_271 : decode cX12_wait1 271 = .ok (.iconst 5, 1) := by decide +kernel
theorem dX12_wait1_272 : decode cX12_wait1 272 = .ok (.iadd, 1) := by decide +kernel
theorem dX12_wait1_273 : decode cX12_wait1 273 = .ok (.dup2, 1) := by decide +kernel
theorem dX12_wait1_274 : decode cX12_wait1 274 = .ok (.iaload, 1) := by decide +kernel
theorem dX12_wait1_275 : decode cX12_wait1 275 = .ok (.iconst 1, 1) := by decide +kernel
theorem dX12_wait1_276 : decode cX12_wait1 276 = .ok (.iadd, 1) := by decide +kernel
theorem dX12_wait1_277 : decode cX12_wait1 277 = .ok (.iastore, 1) := by decide +kernel
theorem dX12_wait1_278 : decode cX12_wait1 278 = .ok (.aload_n 0, 1) := by decide +kernel
theorem dX12_wait1_279 : decode cX12_wait1 279 = .ok (.getfield 13, 3) := by decide +kernel
theorem dX12_wait1_282 : decode cX12_wait1 282 = .ok (.iload_n 3, 1) := by decide +kernel
theorem dX12_wait1_283 : decode cX12_wait1 283 = .ok (.iconst (-1), 1) := by decide +kernel
theorem dX12_wait1_284 : decode cX12_wait1 284 = .ok (.iastore, 1) := by decide +kernel
theorem dX12_wait1_285 : decode cX12_wait1 285 = .ok (.iinc 2 1, 3) := by decide +kernel
theorem dX12_wait1_288 : decode cX12_wait1 288 = .ok (.goto (-99), 3) := by decide +kernel
theorem dX12_wait1_291 : decode cX12_wait1 291 = .ok (.iload_n 1, 1) := by decide +kernel
theorem dX12_wait1_292 : decode cX12_wait1 292 = .ok (.ireturn, 1) := by decide +kernel
theorem dX12_waitNow_0 : decode cX12_waitNow 0 = .ok (.aload_n 0, 1) := by decide +kernel
theorem dX12_waitNow_1 : decode cX12_waitNow 1 = .ok (.invokevirtual 210, 3) := by decide +kernel
theorem dX12_waitNow_4 : decode cX12_waitNow 4 = .ok (.sipush 999, 3) := by decide +kernel
theorem dX12_waitNow_7 : decode cX12_waitNow 7 = .ok (.if_icmp .ne 6, 3) := by decide +kernel
theorem dX12_waitNow_10 : decode cX12_waitNow 10 = .ok (.bipush (-3), 2) := by decide +kernel
theorem dX12_waitNow_12 : decode cX12_waitNow 12 = .ok (.ireturn, 1) := by decide +kernel
theorem dX12_waitNow_13 : decode cX12_waitNow 13 = .ok (.aload_n 0, 1) := by decide +kernel
theorem dX12_waitNow_14 : decode cX12_waitNow 14 = .ok (.iconst 1, 1) := by decide +kernel
theorem dX12_waitNow_15 : decode cX12_waitNow 15 = .ok (.invokevirtual 468, 3) := by decide +kernel
theorem dX12_waitNow_18 : decode cX12_waitNow 18 = .ok (.aload_n 0, 1) := by decide +kernel
theorem dX12_waitNow_19 : decode cX12_waitNow 19 = .ok (.iconst 0, 1) := by decide +kernel
theorem dX12_waitNow_20 : decode cX12_waitNow 20 = .ok (.putfield 455, 3) := by decide +kernel
theorem dX12_waitNow_23 : decode cX12_waitNow 23 = .ok (.aload_n 0, 1) := by decide +kernel
theorem dX12_waitNow_24 : decode cX12_waitNow 24 = .ok (.invokevirtual 474, 3) := by decide +kernel
theorem dX12_waitNow_27 : decode cX12_waitNow 27 = .ok (.ireturn, 1) := by decide +kernel
theorem dX12_await_0 : decode cX12_await 0 = .ok (.aload_n 0, 1) := by decide +kernel
theorem dX12_await_1 : decode cX12_await 1 = .ok (.iconst 0, 1) := by decide +kernel
theorem dX12_await_2 : decode cX12_await 2 = .ok (.putfield 166, 3) := by decide +kernel
theorem dX12_await_5 : decode cX12_await 5 = .ok (.aload_n 0, 1) := by decide +kernel
theorem dX12_await_6 : decode cX12_await 6 = .ok (.aload_n 0, 1) := by decide +kernel
theorem dX12_await_7 : decode cX12_await 7 = .ok (.invokevirtual 480, 3) := by decide +kernel
theorem dX12_await_10 : decode cX12_await 10 = .ok (.invokevirtual 175, 3) := by decide +kernel
theorem dX12_await_13 : decode cX12_await 13 = .ok (.ireturn, 1) := by decide +kernel
theorem dX12_settled_0 : decode cX12_settled 0 = .ok (.aload_n 0, 1) := by decide +kernel
theorem dX12_settled_1 : decode cX12_settled 1 = .ok (.iload_n 1, 1) := by decide +kernel
theorem dX12_settled_2 : decode cX12_settled 2 = .ok (.ifCond .ge 10, 3) := by decide +kernel
theorem dX12_settled_5 : decode cX12_settled 5 = .ok (.aload_n 0, 1) := by decide +kernel
theorem dX12_settled_6 : decode cX12_settled 6 = .ok (.getfield 172, 3) := by decide +kernel
theorem dX12_settled_9 : decode cX12_settled 9 = .ok (.goto 4, 3) := by decide +kernel
theorem dX12_settled_12 : decode cX12_settled 12 = .ok (.iconst 0, 1) := by decide +kernel
theorem dX12_settled_13 : decode cX12_settled 13 = .ok (.putfield 172, 3) := by decide +kernel
theorem dX12_settled_16 : decode cX12_settled 16 = .ok (.aload_n 0, 1) := by decide +kernel
theorem dX12_settled_17 : decode cX12_settled 17 = .ok (.iload_n 1, 1) := by decide +kernel
theorem dX12_settled_18 : decode cX12_settled 18 = .ok (.invokevirtual 175, 3) := by decide +kernel
theorem dX12_settled_21 : decode cX12_settled 21 = .ok (.ireturn, 1) := by decide +kernel
theorem dX12_back_0 : decode cX12_back 0 = .ok (.aload_n 0, 1) := by decide +kernel
theorem dX12_back_1 : decode cX12_back 1 = .ok (.iconst 0, 1) := by decide +kernel
theorem dX12_back_2 : decode cX12_back 2 = .ok (.putfield 166, 3) := by decide +kernel
theorem dX12_back_5 : decode cX12_back 5 = .ok (.iload_n 1, 1) := by decide +kernel
theorem dX12_back_6 : decode cX12_back 6 = .ok (.i2l, 1) := by decide +kernel
theorem dX12_back_7 : decode cX12_back 7 = .ok (.lconst 0, 1) := by decide +kernel
theorem dX12_back_8 : decode cX12_back 8 = .ok (.lconst 1, 1) := by decide +kernel
theorem dX12_back_9 : decode cX12_back 9 = .ok (.invokestatic 179, 3) := by decide +kernel
theorem dX12_back_12 : decode cX12_back 12 = .ok (.ifCond .ne 9, 3) := by decide +kernel
theorem dX12_back_15 : decode cX12_back 15 = .ok (.aload_n 0, 1) := by decide +kernel
theorem dX12_back_16 : decode cX12_back 16 = .ok (.iconst (-1), 1) := by decide +kernel
theorem dX12_back_17 : decode cX12_back 17 = .ok (.invokevirtual 175, 3) := by decide +kernel
theorem dX12_back_20 : decode cX12_back 20 = .ok (.ireturn, 1) := by decide +kernel
theorem dX12_back_21 : decode cX12_back 21 = .ok (.aload_n 0, 1) := by decide +kernel
theorem dX12_back_22 : decode cX12_back 22 = .ok (.getfield 19, 3) := by decide +kernel
theorem dX12_back_25 : decode cX12_back 25 = .ok (.iload_n 1, 1) := by decide +kernel
theorem dX12_back_26 : decode cX12_back 26 = .ok (.baload, 1) := by decide +kernel
theorem dX12_back_27 : decode cX12_back 27 = .ok (.ifCond .ne 10, 3) := by decide +kernel
theorem dX12_back_30 : decode cX12_back 30 = .ok (.aload_n 0, 1) := by decide +kernel
theorem dX12_back_31 : decode cX12_back 31 = .ok (.bipush (-2), 2) := by decide +kernel
theorem dX12_back_33 : decode cX12_back 33 = .ok (.invokevirtual 175, 3) := by decide +kernel
theorem dX12_back_36 : decode cX12_back 36 = .ok (.ireturn, 1) := by decide +kernel
theorem dX12_back_37 : decode cX12_back 37 = .ok (.iconst 0, 1) := by decide +kernel
theorem dX12_back_38 : decode cX12_back 38 = .ok (.istore_n 2, 1) := by decide +kernel
theorem dX12_back_39 : decode cX12_back 39 = .ok (.iload_n 2, 1) := by decide +kernel
theorem dX12_back_40 : decode cX12_back 40 = .ok (.sipush 5670, 3) := by decide +kernel
theorem dX12_back_43 : decode cX12_back 43 = .ok (.if_icmp .ge 27, 3) := by decide +kernel
theorem dX12_back_46 : decode cX12_back 46 = .ok (.aload_n 0, 1) := by decide +kernel
theorem dX12_back_47 : decode cX12_back 47 = .ok (.getfield 13, 3) := by decide +kernel
theorem dX12_back_50 : decode cX12_back 50 = .ok (.iload_n 2, 1) := by decide +kernel
theorem dX12_back_51 : decode cX12_back 51 = .ok (.aload_n 0, 1) := by decide +kernel
theorem dX12_back_52 : decode cX12_back 52 = .ok (.getfield 16, 3) := by decide +kernel
theorem dX12_back_55 : decode cX12_back 55 = .ok (.sipush 5670, 3) := by decide +kernel
theorem dX12_back_58 : decode cX12_back 58 = .ok (.iload_n 1, 1) := by decide +kernel
theorem dX12_back_59 : decode cX12_back 59 = .ok (.imul, 1) := by decide +kernel
theorem dX12_back_60 : decode cX12_back 60 = .ok (.iload_n 2, 1) := by decide +kernel
theorem dX12_back_61 : decode cX12_back 61 = .ok (.iadd, 1) := by decide +kernel
theorem dX12_back_62 : decode cX12_back 62 = .ok (.iaload, 1) := by decide +kernel
theorem dX12_back_63 : decode cX12_back 63 = .ok (.iastore, 1) := by decide +kernel
theorem dX12_back_64 : decode cX12_back 64 = .ok (.iinc 2 1, 3) := by decide +kernel
theorem dX12_back_67 : decode cX12_back 67 = .ok (.goto (-28), 3) := by decide +kernel
theorem dX12_back_70 : decode cX12_back 70 = .ok (.aload_n 0, 1) := by decide +kernel
theorem dX12_back_71 : decode cX12_back 71 = .ok (.iconst 0, 1) := by decide +kernel
theorem dX12_back_72 : decode cX12_back 72 = .ok (.invokevirtual 183, 3) := by decide +kernel
theorem dX12_back_75 : decode cX12_back 75 = .ok (.ireturn, 1) := by decide +kernel
theorem dX12_beats_0 : decode cX12_beats 0 = .ok (.aload_n 0, 1) := by decide +kernel
theorem dX12_beats_1 : decode cX12_beats 1 = .ok (.iconst 0, 1) := by decide +kernel
theorem dX12_beats_2 : decode cX12_beats 2 = .ok (.putfield 166, 3) := by decide +kernel
theorem dX12_beats_5 : decode cX12_beats 5 = .ok (.aload_n 0, 1) := by decide +kernel
theorem dX12_beats_6 : decode cX12_beats 6 = .ok (.iload_n 1, 1) := by decide +kernel
theorem dX12_beats_7 : decode cX12_beats 7 = .ok (.invokevirtual 198, 3) := by decide +kernel
theorem dX12_beats_10 : decode cX12_beats 10 = .ok (.ifCond .eq 16, 3) := by decide +kernel
theorem dX12_beats_13 : decode cX12_beats 13 = .ok (.aload_n 0, 1) := by decide +kernel
theorem dX12_beats_14 : decode cX12_beats 14 = .ok (.iload_n 2, 1) := by decide +kernel
theorem dX12_beats_15 : decode cX12_beats 15 = .ok (.invokevirtual 198, 3) := by decide +kernel
theorem dX12_beats_18 : decode cX12_beats 18 = .ok (.ifCond .eq 8, 3) := by decide +kernel
theorem dX12_beats_21 : decode cX12_beats 21 = .ok (.iload_n 1, 1) := by decide +kernel
theorem dX12_beats_22 : decode cX12_beats 22 = .ok (.iload_n 2, 1) := by decide +kernel
theorem dX12_beats_23 : decode cX12_beats 23 = .ok (.if_icmp .ne 5, 3) := by decide +kernel
theorem dX12_beats_26 : decode cX12_beats 26 = .ok (.iconst (-1), 1) := by decide +kernel
theorem dX12_beats_27 : decode cX12_beats 27 = .ok (.ireturn, 1) := by decide +kernel
theorem dX12_beats_28 : decode cX12_beats 28 = .ok (.iconst (-1), 1) := by decide +kernel
theorem dX12_beats_29 : decode cX12_beats 29 = .ok (.istore 4, 2) := by decide +kernel
theorem dX12_beats_31 : decode cX12_beats 31 = .ok (.iconst 0, 1) := by decide +kernel
theorem dX12_beats_32 : decode cX12_beats 32 = .ok (.istore 5, 2) := by decide +kernel
theorem dX12_beats_34 : decode cX12_beats 34 = .ok (.iload 5, 2) := by decide +kernel
theorem dX12_beats_36 : decode cX12_beats 36 = .ok (.aload_n 0, 1) := by decide +kernel
theorem dX12_beats_37 : decode cX12_beats 37 = .ok (.getfield 13, 3) := by decide +kernel
theorem dX12_beats_40 : decode cX12_beats 40 = .ok (.iconst 1, 1) := by decide +kernel
theorem dX12_beats_41 : decode cX12_beats 41 = .ok (.iaload, 1) := by decide +kernel
theorem dX12_beats_42 : decode cX12_beats 42 = .ok (.if_icmp .ge 50, 3) := by decide +kernel
theorem dX12_beats_45 : decode cX12_beats 45 = .ok (.aload_n 0, 1) := by decide +kernel
theorem dX12_beats_46 : decode cX12_beats 46 = .ok (.iload 5, 2) := by decide +kernel
theorem dX12_beats_48 : decode cX12_beats 48 = .ok (.iconst 0, 1) := by decide +kernel
theorem dX12_beats_49 : decode cX12_beats 49 = .ok (.invokevirtual 190, 3) := by decide +kernel
theorem dX12_beats_52 : decode cX12_beats 52 = .ok (.iload_n 2, 1) := by decide +kernel
theorem dX12_beats_53 : decode cX12_beats 53 = .ok (.if_icmp .ne 14, 3) := by decide +kernel
theorem dX12_beats_56 : decode cX12_beats 56 = .ok (.aload_n 0, 1) := by decide +kernel
theorem dX12_beats_57 : decode cX12_beats 57 = .ok (.iload 5, 2) := by decide +kernel
theorem dX12_beats_59 : decode cX12_beats 59 = .ok (.iload_n 2, 1) := by decide +kernel
theorem dX12_beats_60 : decode cX12_beats 60 = .ok (.iload_n 1, 1) := by decide +kernel
theorem dX12_beats_61 : decode cX12_beats 61 = .ok (.invokevirtual 445, 3) := by decide +kernel
theorem dX12_beats_64 : decode cX12_beats 64 = .ok (.goto 4, 3) := by decide +kernel
theorem dX12_beats_67 : decode cX12_beats 67 = .ok (.iconst (-1), 1) := by decide +kernel
theorem dX12_beats_68 : decode cX12_beats 68 = .ok (.istore 6, 2) := by decide +kernel
theorem dX12_beats_70 : decode cX12_beats 70 = .ok (.iload 6, 2) := by decide +kernel
theorem dX12_beats_72 : decode cX12_beats 72 = .ok (.iload 4, 2) := by decide +kernel
theorem dX12_beats_74 : decode cX12_beats 74 = .ok (.if_icmp .le 8, 3) := by decide +kernel
theorem dX12_beats_77 : decode cX12_beats 77 = .ok (.iload 6, 2) := by decide +kernel
theorem dX12_beats_79 : decode cX12_beats 79 = .ok (.goto 5, 3) := by decide +kernel
theorem dX12_beats_82 : decode cX12_beats 82 = .ok (.iload 4, 2) := by decide +kernel
theorem dX12_beats_84 : decode cX12_beats 84 = .ok (.istore 4, 2) := by decide +kernel
theorem dX12_beats_86 : decode cX12_beats 86 = .ok (.iinc 5 1, 3) := by decide +kernel
theorem dX12_beats_89 : decode cX12_beats 89 = .ok (.goto (-55), 3) := by decide +kernel
theorem dX12_beats_92 : decode cX12_beats 92 = .ok (.iconst 0, 1) := by decide +kernel
theorem dX12_beats_93 : decode cX12_beats 93 = .ok (.istore 5, 2) := by decide +kernel
theorem dX12_beats_95 : decode cX12_beats 95 = .ok (.iconst 0, 1) := by decide +kernel
theorem dX12_beats_96 : decode cX12_beats 96 = .ok (.istore 6, 2) := by decide +kernel
theorem dX12_beats_98 : decode cX12_beats 98 = .ok (.iload 6, 2) := by decide +kernel
theorem dX12_beats_100 : decode cX12_beats 100 = .ok (.aload_n 0, 1) := by decide +kernel
theorem dX12_beats_101 : decode cX12_beats 101 = .ok (.getfield 13, 3) := by decide +kernel
theorem dX12_beats_104 : decode cX12_beats 104 = .ok (.iconst 1, 1) := by decide +kernel
theorem dX12_beats_105 : decode cX12_beats 105 = .ok (.iaload, 1) := by decide +kernel
theorem dX12_beats_106 : decode cX12_beats 106 = .ok (.if_icmp .ge 45, 3) := by decide +kernel
theorem dX12_beats_109 : decode cX12_beats 109 = .ok (.aload_n 0, 1) := by decide +kernel
theorem dX12_beats_110 : decode cX12_beats 110 = .ok (.iload 6, 2) := by decide +kernel
theorem dX12_beats_112 : decode cX12_beats 112 = .ok (.iconst 0, 1) := by decide +kernel
theorem dX12_beats_113 : decode cX12_beats 113 = .ok (.invokevirtual 190, 3) := by decide +kernel
theorem dX12_beats_116 : decode cX12_beats 116 = .ok (.iload_n 1, 1) := by decide +kernel
theorem dX12_beats_117 : decode cX12_beats 117 = .ok (.if_icmp .ne 28, 3) := by decide +kernel
theorem dX12_beats_120 : decode cX12_beats 120 = .ok (.aload_n 0, 1) := by decide +kernel
theorem dX12_beats_121 : decode cX12_beats 121 = .ok (.iload 6, 2) := by decide +kernel
theorem dX12_beats_123 : decode cX12_beats 123 = .ok (.iload_n 1, 1) := by decide +kernel
theorem dX12_beats_124 : decode cX12_beats 124 = .ok (.iload_n 2, 1) := by decide +kernel
theorem dX12_beats_125 : decode cX12_beats 125 = .ok (.invokevirtual 445, 3) := by decide +kernel
theorem dX12_beats_128 : decode cX12_beats 128 = .ok (.iload 4, 2) := by decide +kernel
theorem dX12_beats_130 : decode cX12_beats 130 = .ok (.if_icmp .le 15, 3) := by decide +kernel
theorem dX12_beats_133 : decode cX12_beats 133 = .ok (.iload 5, 2) := by decide +kernel
theorem dX12_beats_135 : decode cX12_beats 135 = .ok (.iload_n 3, 1) := by decide +kernel
theorem dX12_beats_136 : decode cX12_beats 136 = .ok (.if_icmp .ne 6, 3) := by decide +kernel
theorem dX12_beats_139 : decode cX12_beats 139 = .ok (.iload 6, 2) := by decide +kernel
theorem dX12_beats_141 : decode cX12_beats 141 = .ok (.ireturn, 1) := by decide +kernel
theorem dX12_beats_142 : decode cX12_beats 142 = .ok (.iinc 5 1, 3) := by decide +kernel
theorem dX12_beats_145 : decode cX12_beats 145 = .ok (.iinc 6 1, 3) := by decide +kernel
theorem dX12_beats_148 : decode cX12_beats 148 = .ok (.goto (-50), 3) := by decide +kernel
theorem dX12_beats_151 : decode cX12_beats 151 = .ok (.iload_n 3, 1) := by decide +kernel
theorem dX12_beats_152 : decode cX12_beats 152 = .ok (.iconst (-1), 1) := by decide +kernel
theorem dX12_beats_153 : decode cX12_beats 153 = .ok (.if_icmp .ne 8, 3) := by decide +kernel
theorem dX12_beats_156 : decode cX12_beats 156 = .ok (.iload 5, 2) := by decide +kernel
theorem dX12_beats_158 : decode cX12_beats 158 = .ok (.goto 4, 3) := by decide +kernel
theorem dX12_beats_161 : decode cX12_beats 161 = .ok (.iconst (-1), 1) := by decide +kernel
theorem dX12_beats_162 : decode cX12_beats 162 = .ok (.ireturn, 1) := by decide +kernel
theorem dX12_isDigit_0 : decode cX12_isDigit 0 = .ok (.iload_n 0, 1) := by decide +kernel
theorem dX12_isDigit_1 : decode cX12_isDigit 1 = .ok (.bipush 48, 2) := by decide +kernel
theorem dX12_isDigit_3 : decode cX12_isDigit 3 = .ok (.if_icmp .lt 13, 3) := by decide +kernel
theorem dX12_isDigit_6 : decode cX12_isDigit 6 = .ok (.iload_n 0, 1) := by decide +kernel
theorem dX12_isDigit_7 : decode cX12_isDigit 7 = .ok (.bipush 57, 2) := by decide +kernel
theorem dX12_isDigit_9 : decode cX12_isDigit 9 = .ok (.if_icmp .gt 7, 3) := by decide +kernel
theorem dX12_isDigit_12 : decode cX12_isDigit 12 = .ok (.iconst 1, 1) := by decide +kernel
theorem dX12_isDigit_13 : decode cX12_isDigit 13 = .ok (.goto 4, 3) := by decide +kernel
theorem dX12_isDigit_16 : decode cX12_isDigit 16 = .ok (.iconst 0, 1) := by decide +kernel
theorem dX12_isDigit_17 : decode cX12_isDigit 17 = .ok (.ireturn, 1) := by decide +kernel
theorem dX12_isSmall_0 : decode cX12_isSmall 0 = .ok (.iload_n 0, 1) := by decide +kernel
theorem dX12_isSmall_1 : decode cX12_isSmall 1 = .ok (.bipush 97, 2) := by decide +kernel
theorem dX12_isSmall_3 : decode cX12_isSmall 3 = .ok (.if_icmp .lt 13, 3) := by decide +kernel
theorem dX12_isSmall_6 : decode cX12_isSmall 6 = .ok (.iload_n 0, 1) := by decide +kernel
theorem dX12_isSmall_7 : decode cX12_isSmall 7 = .ok (.bipush 122, 2) := by decide +kernel
theorem dX12_isSmall_9 : decode cX12_isSmall 9 = .ok (.if_icmp .gt 7, 3) := by decide +kernel
theorem dX12_isSmall_12 : decode cX12_isSmall 12 = .ok (.iconst 1, 1) := by decide +kernel
theorem dX12_isSmall_13 : decode cX12_isSmall 13 = .ok (.goto 4, 3) := by decide +kernel
theorem dX12_isSmall_16 : decode cX12_isSmall 16 = .ok (.iconst 0, 1) := by decide +kernel
theorem dX12_isSmall_17 : decode cX12_isSmall 17 = .ok (.ireturn, 1) := by decide +kernel
theorem dX12_next_0 : decode cX12_next 0 = .ok (.aload_n 0, 1) := by decide +kernel
theorem dX12_next_1 : decode cX12_next 1 = .ok (.aload_n 0, 1) := by decide +kernel
theorem dX12_next_2 : decode cX12_next 2 = .ok (.getfield 246, 3) := by decide +kernel
theorem dX12_next_5 : decode cX12_next 5 = .ok (.putfield 256, 3) := by decide +kernel
theorem dX12_next_8 : decode cX12_next 8 = .ok (.aload_n 0, 1) := by decide +kernel
theorem dX12_next_9 : decode cX12_next 9 = .ok (.getfield 256, 3) := by decide +kernel
theorem dX12_next_12 : decode cX12_next 12 = .ok (.aload_n 0, 1) := by decide +kernel
theorem dX12_next_13 : decode cX12_next 13 = .ok (.getfield 236, 3) := by decide +kernel
theorem dX12_next_16 : decode cX12_next 16 = .ok (.if_icmp .ge 30, 3) := by decide +kernel
theorem dX12_next_19 : decode cX12_next 19 = .ok (.aload_n 0, 1) := by decide +kernel
theorem dX12_next_20 : decode cX12_next 20 = .ok (.getfield 35, 3) := by decide +kernel
theorem dX12_next_23 : decode cX12_next 23 = .ok (.aload_n 0, 1) := by decide +kernel
theorem dX12_next_24 : decode cX12_next 24 = .ok (.getfield 256, 3) := by decide +kernel
theorem dX12_next_27 : decode cX12_next 27 = .ok (.iaload, 1) := by decide +kernel
theorem dX12_next_28 : decode cX12_next 28 = .ok (.bipush 32, 2) := by decide +kernel
theorem dX12_next_30 : decode cX12_next 30 = .ok (.if_icmp .ne 16, 3) := by decide +kernel
theorem dX12_next_33 : decode cX12_next 33 = .ok (.aload_n 0, 1) := by decide +kernel
theorem dX12_next_34 : decode cX12_next 34 = .ok (.dup, 1) := by decide +kernel
theorem dX12_next_35 : decode cX12_next 35 = .ok (.getfield 256, 3) := by decide +kernel
theorem dX12_next_38 : decode cX12_next 38 = .ok (.iconst 1, 1) := by decide +kernel
theorem dX12_next_39 : decode cX12_next 39 = .ok (.iadd, 1) := by decide +kernel
theorem dX12_next_40 : decode cX12_next 40 = .ok (.putfield 256, 3) := by decide +kernel
theorem dX12_next_43 : decode cX12_next 43 = .ok (.goto (-35), 3) := by decide +kernel
theorem dX12_next_46 : decode cX12_next 46 = .ok (.aload_n 0, 1) := by decide +kernel
theorem dX12_next_47 : decode cX12_next 47 = .ok (.aload_n 0, 1) := by decide +kernel
theorem dX12_next_48 : decode cX12_next 48 = .ok (.getfield 256, 3) := by decide +kernel
theorem dX12_next_51 : decode cX12_next 51 = .ok (.putfield 246, 3) := by decide +kernel
theorem dX12_next_54 : decode cX12_next 54 = .ok (.aload_n 0, 1) := by decide +kernel
theorem dX12_next_55 : decode cX12_next 55 = .ok (.lconst 0, 1) := by decide +kernel
theorem dX12_next_56 : decode cX12_next 56 = .ok (.putfield 259, 3) := by decide +kernel
theorem dX12_next_59 : decode cX12_next 59 = .ok (.aload_n 0, 1) := by decide +kernel
theorem dX12_next_60 : decode cX12_next 60 = .ok (.aload_n 0, 1) := by decide +kernel
theorem dX12_next_61 : decode cX12_next 61 = .ok (.getfield 256, 3) := by decide +kernel
theorem dX12_next_64 : decode cX12_next 64 = .ok (.aload_n 0, 1) := by decide +kernel
theorem dX12_next_65 : decode cX12_next 65 = .ok (.getfield 236, 3) := by decide +kernel
theorem dX12_next_68 : decode cX12_next 68 = .ok (.if_icmp .ne 7, 3) := by decide +kernel
theorem dX12_next_71 : decode cX12_next 71 = .ok (.iconst 0, 1) := by decide +kernel
theorem dX12_next_72 : decode cX12_next 72 = .ok (.goto 42, 3) := by decide +kernel
theorem dX12_next_75 : decode cX12_next 75 = .ok (.aload_n 0, 1) := by decide +kernel
theorem dX12_next_76 : decode cX12_next 76 = .ok (.getfield 35, 3) := by decide +kernel
theorem dX12_next_79 : decode cX12_next 79 = .ok (.aload_n 0, 1) := by decide +kernel
theorem dX12_next_80 : decode cX12_next 80 = .ok (.getfield 256, 3) := by decide +kernel
theorem dX12_next_83 : decode cX12_next 83 = .ok (.iaload, 1) := by decide +kernel
theorem dX12_next_84 : decode cX12_next 84 = .ok (.invokestatic 263, 3) := by decide +kernel
theorem dX12_next_87 : decode cX12_next 87 = .ok (.ifCond .eq 7, 3) := by decide +kernel
theorem dX12_next_90 : decode cX12_next 90 = .ok (.iconst 1, 1) := by decide +kernel
theorem dX12_next_91 : decode cX12_next 91 = .ok (.goto 23, 3) := by decide +kernel
theorem dX12_next_94 : decode cX12_next 94 = .ok (.aload_n 0, 1) := by decide +kernel
theorem dX12_next_95 : decode cX12_next 95 = .ok (.getfield 35, 3) := by decide +kernel
theorem dX12_next_98 : decode cX12_next 98 = .ok (.aload_n 0, 1) := by decide +kernel
theorem dX12_next_99 : decode cX12_next 99 = .ok (.getfield 256, 3) := by decide +kernel
theorem dX12_next_102 : decode cX12_next 102 = .ok (.iaload, 1) := by decide +kernel
theorem dX12_next_103 : decode cX12_next 103 = .ok (.invokestatic 266, 3) := by decide +kernel
theorem dX12_next_106 : decode cX12_next 106 = .ok (.ifCond .eq 7, 3) := by decide +kernel
theorem dX12_next_109 : decode cX12_next 109 = .ok (.iconst 2, 1) := by decide +kernel
theorem dX12_next_110 : decode cX12_next 110 = .ok (.goto 4, 3) := by decide +kernel
theorem dX12_next_113 : decode cX12_next 113 = .ok (.iconst 3, 1) := by decide +kernel
theorem dX12_next_114 : decode cX12_next 114 = .ok (.putfield 269, 3) := by decide +kernel
theorem dX12_next_117 : decode cX12_next 117 = .ok (.aload_n 0, 1) := by decide +kernel
theorem dX12_next_118 : decode cX12_next 118 = .ok (.getfield 269, 3) := by decide +kernel
theorem dX12_next_121 : decode cX12_next 121 = .ok (.iconst 3, 1) := by decide +kernel
theorem dX12_next_122 : decode cX12_next 122 = .ok (.if_icmp .ne 27, 3) := by decide +kernel
theorem dX12_next_125 : decode cX12_next 125 = .ok (.aload_n 0, 1) := by decide +kernel
theorem dX12_next_126 : decode cX12_next 126 = .ok (.aload_n 0, 1) := by decide +kernel
theorem dX12_next_127 : decode cX12_next 127 = .ok (.getfield 35, 3) := by decide +kernel
theorem dX12_next_130 : decode cX12_next 130 = .ok (.aload_n 0, 1) := by decide +kernel
theorem dX12_next_131 : decode cX12_next 131 = .ok (.getfield 256, 3) := by decide +kernel
theorem dX12_next_134 : decode cX12_next 134 = .ok (.iaload, 1) := by decide +kernel
theorem dX12_next_135 : decode cX12_next 135 = .ok (.i2l, 1) := by decide +kernel
theorem dX12_next_136 : decode cX12_next 136 = .ok (.putfield 259, 3) := by decide +kernel
theorem dX12_next_139 : decode cX12_next 139 = .ok (.aload_n 0, 1) := by decide +kernel
theorem dX12_next_140 : decode cX12_next 140 = .ok (.dup, 1) := by decide +kernel
theorem dX12_next_141 : decode cX12_next 141 = .ok (.getfield 246, 3) := by decide +kernel
theorem dX12_next_144 : decode cX12_next 144 = .ok (.iconst 1, 1) := by decide +kernel
theorem dX12_next_145 : decode cX12_next 145 = .ok (.iadd, 1) := by decide +kernel
theorem dX12_next_146 : decode cX12_next 146 = .ok (.putfield 246, 3) := by decide +kernel
theorem dX12_next_149 : decode cX12_next 149 = .ok (.aload_n 0, 1) := by decide +kernel
theorem dX12_next_150 : decode cX12_next 150 = .ok (.getfield 269, 3) := by decide +kernel
theorem dX12_next_153 : decode cX12_next 153 = .ok (.iconst 1, 1) := by decide +kernel
theorem dX12_next_154 : decode cX12_next 154 = .ok (.if_icmp .ne 89, 3) := by decide +kernel
theorem dX12_next_157 : decode cX12_next 157 = .ok (.aload_n 0, 1) := by decide +kernel
theorem dX12_next_158 : decode cX12_next 158 = .ok (.getfield 246, 3) := by decide +kernel
theorem dX12_next_161 : decode cX12_next 161 = .ok (.aload_n 0, 1) := by decide +kernel
theorem dX12_next_162 : decode cX12_next 162 = .ok (.getfield 236, 3) := by decide +kernel
theorem dX12_next_165 : decode cX12_next 165 = .ok (.if_icmp .ge 78, 3) := by decide +kernel
theorem dX12_next_168 : decode cX12_next 168 = .ok (.aload_n 0, 1) := by decide +kernel
theorem dX12_next_169 : decode cX12_next 169 = .ok (.getfield 35, 3) := by decide +kernel
theorem dX12_next_172 : decode cX12_next 172 = .ok (.aload_n 0, 1) := by decide +kernel
theorem dX12_next_173 : decode cX12_next 173 = .ok (.getfield 246, 3) := by decide +kernel
theorem dX12_next_176 : decode cX12_next 176 = .ok (.iaload, 1) := by decide +kernel
theorem dX12_next_177 : decode cX12_next 177 = .ok (.invokestatic 263, 3) := by decide +kernel
theorem dX12_next_180 : decode cX12_next 180 = .ok (.ifCond .eq 63, 3) := by decide +kernel
theorem dX12_next_183 : decode cX12_next 183 = .ok (.aload_n 0, 1) := by decide +kernel
theorem dX12_next_184 : decode cX12_next 184 = .ok (.aload_n 0, 1) := by decide +kernel
theorem dX12_next_185 : decode cX12_next 185 = .ok (.getfield 246, 3) := by decide +kernel
theorem dX12_next_188 : decode cX12_next 188 = .ok (.aload_n 0, 1) := by decide +kernel
theorem dX12_next_189 : decode cX12_next 189 = .ok (.getfield 256, 3) := by decide +kernel
theorem dX12_next_192 : decode cX12_next 192 = .ok (.isub, 1) := by decide +kernel
theorem dX12_next_193 : decode cX12_next 193 = .ok (.bipush 10, 2) := by decide +kernel
theorem dX12_next_195 : decode cX12_next 195 = .ok (.if_icmp .ge 29, 3) := by decide +kernel
theorem dX12_next_198 : decode cX12_next 198 = .ok (.aload_n 0, 1) := by decide +kernel
theorem dX12_next_199 : decode cX12_next 199 = .ok (.getfield 259, 3) := by decide +kernel
theorem dX12_next_202 : decode cX12_next 202 = .ok (.ldc2_w 272, 3) := by decide +kernel
theorem dX12_next_205 : decode cX12_next 205 = .ok (.lmul, 1) := by decide +kernel
theorem dX12_next_206 : decode cX12_next 206 = .ok (.aload_n 0, 1) := by decide +kernel
theorem dX12_next_207 : decode cX12_next 207 = .ok (.getfield 35, 3) := by decide +kernel
theorem dX12_next_210 : decode cX12_next 210 = .ok (.aload_n 0, 1) := by decide +kernel
theorem dX12_next_211 : decode cX12_next 211 = .ok (.getfield 246, 3) := by decide +kernel
theorem dX12_next_214 : decode cX12_next 214 = .ok (.iaload, 1) := by decide +kernel
theorem dX12_next_215 : decode cX12_next 215 = .ok (.i2l, 1) := by decide +kernel
theorem dX12_next_216 : decode cX12_next 216 = .ok (.ladd, 1) := by decide +kernel
theorem dX12_next_217 : decode cX12_next 217 = .ok (.ldc2_w 274, 3) := by decide +kernel
theorem dX12_next_220 : decode cX12_next 220 = .ok (.lsub, 1) := by decide +kernel
theorem dX12_next_221 : decode cX12_next 221 = .ok (.goto 6, 3) := by decide +kernel
theorem dX12_next_224 : decode cX12_next 224 = .ok (.ldc2_w 276, 3) := by decide +kernel
theorem dX12_next_227 : decode cX12_next 227 = .ok (.putfield 259, 3) := by decide +kernel
theorem dX12_next_230 : decode cX12_next 230 = .ok (.aload_n 0, 1) := by decide +kernel
theorem dX12_next_231 : decode cX12_next 231 = .ok (.dup, 1) := by decide +kernel
theorem dX12_next_232 : decode cX12_next 232 = .ok (.getfield 246, 3) := by decide +kernel
theorem dX12_next_235 : decode cX12_next 235 = .ok (.iconst 1, 1) := by decide +kernel
theorem dX12_next_236 : decode cX12_next 236 = .ok (.iadd, 1) := by decide +kernel
theorem dX12_next_237 : decode cX12_next 237 = .ok (.putfield 246, 3) := by decide +kernel
theorem dX12_next_240 : decode cX12_next 240 = .ok (.goto (-91), 3) := by decide +kernel
theorem dX12_next_243 : decode cX12_next 243 = .ok (.aload_n 0, 1) := by decide +kernel
theorem dX12_next_244 : decode cX12_next 244 = .ok (.getfield 269, 3) := by decide +kernel
theorem dX12_next_247 : decode cX12_next 247 = .ok (.iconst 2, 1) := by decide +kernel
theorem dX12_next_248 : decode cX12_next 248 = .ok (.if_icmp .ne 87, 3) := by decide +kernel
theorem dX12_next_251 : decode cX12_next 251 = .ok (.aload_n 0, 1) := by decide +kernel
theorem dX12_next_252 : decode cX12_next 252 = .ok (.getfield 246, 3) := by decide +kernel
theorem dX12_next_255 : decode cX12_next 255 = .ok (.aload_n 0, 1) := by decide +kernel
theorem dX12_next_256 : decode cX12_next 256 = .ok (.getfield 236, 3) := by decide +kernel
theorem dX12_next_259 : decode cX12_next 259 = .ok (.if_icmp .ge 76, 3) := by decide +kernel
theorem dX12_next_262 : decode cX12_next 262 = .ok (.aload_n 0, 1) := by decide +kernel
theorem dX12_next_263 : decode cX12_next 263 = .ok (.getfield 35, 3) := by decide +kernel
theorem dX12_next_266 : decode cX12_next 266 = .ok (.aload_n 0, 1) := by decide +kernel
theorem dX12_next_267 : decode cX12_next 267 = .ok (.getfield 246, 3) := by decide +kernel
theorem dX12_next_270 : decode cX12_next 270 = .ok (.iaload, 1) := by decide +kernel
theorem dX12_next_271 : decode cX12_next 271 = .ok (.invokestatic 266, 3) := by decide +kernel
theorem dX12_next_274 : decode cX12_next 274 = .ok (.ifCond .eq 61, 3) := by decide +kernel
theorem dX12_next_277 : decode cX12_next 277 = .ok (.aload_n 0, 1) := by decide +kernel
theorem dX12_next_278 : decode cX12_next 278 = .ok (.aload_n 0, 1) := by decide +kernel
theorem dX12_next_279 : decode cX12_next 279 = .ok (.getfield 259, 3) := by decide +kernel
theorem dX12_next_282 : decode cX12_next 282 = .ok (.ldc2_w 278, 3) := by decide +kernel
theorem dX12_next_285 : decode cX12_next 285 = .ok (.lcmp, 1) := by decide +kernel
theorem dX12_next_286 : decode cX12_next 286 = .ok (.ifCond .le 10, 3) := by decide +kernel
theorem dX12_next_289 : decode cX12_next 289 = .ok (.aload_n 0, 1) := by decide +kernel
theorem dX12_next_290 : decode cX12_next 290 = .ok (.getfield 259, 3) := by decide +kernel
theorem dX12_next_293 : decode cX12_next 293 = .ok (.goto 26, 3) := by decide +kernel
theorem dX12_next_296 : decode cX12_next 296 = .ok (.aload_n 0, 1) := by decide +kernel
theorem dX12_next_297 : decode cX12_next 297 = .ok (.getfield 259, 3) := by decide +kernel
theorem dX12_next_300 : decode cX12_next 300 = .ok (.ldc2_w 280, 3) := by decide +kernel
theorem dX12_next_303 : decode cX12_next 303 = .ok (.lmul, 1) := by decide +kernel
theorem dX12_next_304 : decode cX12_next 304 = .ok (.aload_n 0, 1) := by decide +kernel
theorem dX12_next_305 : decode cX12_next 305 = .ok (.getfield 35, 3) := by decide +kernel
theorem dX12_next_308 : decode cX12_next 308 = .ok (.aload_n 0, 1) := by decide +kernel
theorem dX12_next_309 : decode cX12_next 309 = .ok (.getfield 246, 3) := by decide +kernel
theorem dX12_next_312 : decode cX12_next 312 = .ok (.iaload, 1) := by decide +kernel
theorem dX12_next_313 : decode cX12_next 313 = .ok (.i2l, 1) := by decide +kernel
theorem dX12_next_314 : decode cX12_next 314 = .ok (.ladd, 1) := by decide +kernel
theorem dX12_next_315 : decode cX12_next 315 = .ok (.ldc2_w 282, 3) := by decide +kernel
theorem dX12_next_318 : decode cX12_next 318 = .ok (.lsub, 1) := by decide +kernel
theorem dX12_next_319 : decode cX12_next 319 = .ok (.putfield 259, 3) := by decide +kernel
theorem dX12_next_322 : decode cX12_next 322 = .ok (.aload_n 0, 1) := by decide +kernel
theorem dX12_next_323 : decode cX12_next 323 = .ok (.dup, 1) := by decide +kernel
theorem dX12_next_324 : decode cX12_next 324 = .ok (.getfield 246, 3) := by decide +kernel
theorem dX12_next_327 : decode cX12_next 327 = .ok (.iconst 1, 1) := by decide +kernel
theorem dX12_next_328 : decode cX12_next 328 = .ok (.iadd, 1) := by decide +kernel
theorem dX12_next_329 : decode cX12_next 329 = .ok (.putfield 246, 3) := by decide +kernel
theorem dX12_next_332 : decode cX12_next 332 = .ok (.goto (-89), 3) := by decide +kernel
theorem dX12_next_335 : decode cX12_next 335 = .ok (.return_, 1) := by decide +kernel
theorem dX12_begin_0 : decode cX12_begin 0 = .ok (.aload_n 0, 1) := by decide +kernel
theorem dX12_begin_1 : decode cX12_begin 1 = .ok (.iconst 0, 1) := by decide +kernel
theorem dX12_begin_2 : decode cX12_begin 2 = .ok (.putfield 246, 3) := by decide +kernel
theorem dX12_begin_5 : decode cX12_begin 5 = .ok (.aload_n 0, 1) := by decide +kernel
theorem dX12_begin_6 : decode cX12_begin 6 = .ok (.iconst 0, 1) := by decide +kernel
theorem dX12_begin_7 : decode cX12_begin 7 = .ok (.putfield 249, 3) := by decide +kernel
theorem dX12_begin_10 : decode cX12_begin 10 = .ok (.aload_n 0, 1) := by decide +kernel
theorem dX12_begin_11 : decode cX12_begin 11 = .ok (.iconst (-1), 1) := by decide +kernel
theorem dX12_begin_12 : decode cX12_begin 12 = .ok (.putfield 38, 3) := by decide +kernel
theorem dX12_begin_15 : decode cX12_begin 15 = .ok (.aload_n 0, 1) := by decide +kernel
theorem dX12_begin_16 : decode cX12_begin 16 = .ok (.invokevirtual 253, 3) := by decide +kernel
theorem dX12_begin_19 : decode cX12_begin 19 = .ok (.return_, 1) := by decide +kernel
theorem dX12_beginText_0 : decode cX12_beginText 0 = .ok (.aload_n 0, 1) := by decide +kernel
theorem dX12_beginText_1 : decode cX12_beginText 1 = .ok (.iload_n 1, 1) := by decide +kernel
theorem dX12_beginText_2 : decode cX12_beginText 2 = .ok (.putfield 326, 3) := by decide +kernel
theorem dX12_beginText_5 : decode cX12_beginText 5 = .ok (.aload_n 0, 1) := by decide +kernel
theorem dX12_beginText_6 : decode cX12_beginText 6 = .ok (.invokevirtual 376, 3) := by decide +kernel
theorem dX12_beginText_9 : decode cX12_beginText 9 = .ok (.aload_n 0, 1) := by decide +kernel
theorem dX12_beginText_10 : decode cX12_beginText 10 = .ok (.iconst 0, 1) := by decide +kernel
theorem dX12_beginText_11 : decode cX12_beginText 11 = .ok (.putfield 379, 3) := by decide +kernel
theorem dX12_beginText_14 : decode cX12_beginText 14 = .ok (.aload_n 0, 1) := by decide +kernel
theorem dX12_beginText_15 : decode cX12_beginText 15 = .ok (.iconst 0, 1) := by decide +kernel
theorem dX12_beginText_16 : decode cX12_beginText 16 = .ok (.putfield 288, 3) := by decide +kernel
theorem dX12_beginText_19 : decode cX12_beginText 19 = .ok (.aload_n 0, 1) := by decide +kernel
theorem dX12_beginText_20 : decode cX12_beginText 20 = .ok (.iconst 0, 1) := by decide +kernel
theorem dX12_beginText_21 : decode cX12_beginText 21 = .ok (.putfield 317, 3) := by decide +kernel
theorem dX12_beginText_24 : decode cX12_beginText 24 = .ok (.return_, 1) := by decide +kernel
theorem dX12_binds_0 : decode cX12_binds 0 = .ok (.iload_n 0, 1) := by decide +kernel
theorem dX12_binds_1 : decode cX12_binds 1 = .ok (.bipush 31, 2) := by decide +kernel
theorem dX12_binds_3 : decode cX12_binds 3 = .ok (.if_icmp .lt 7, 3) := by decide +kernel
theorem dX12_binds_6 : decode cX12_binds 6 = .ok (.iconst 0, 1) := by decide +kernel
theorem dX12_binds_7 : decode cX12_binds 7 = .ok (.goto 55, 3) := by decide +kernel
theorem dX12_binds_10 : decode cX12_binds 10 = .ok (.iload_n 0, 1) := by decide +kernel
theorem dX12_binds_11 : decode cX12_binds 11 = .ok (.bipush 30, 2) := by decide +kernel
theorem dX12_binds_13 : decode cX12_binds 13 = .ok (.if_icmp .ne 7, 3) := by decide +kernel
theorem dX12_binds_16 : decode cX12_binds 16 = .ok (.iconst 1, 1) := by decide +kernel
theorem dX12_binds_17 : decode cX12_binds 17 = .ok (.goto 45, 3) := by decide +kernel
theorem dX12_binds_20 : decode cX12_binds 20 = .ok (.iload_n 0, 1) := by decide +kernel
theorem dX12_binds_21 : decode cX12_binds 21 = .ok (.bipush 29, 2) := by decide +kernel
theorem dX12_binds_23 : decode cX12_binds 23 = .ok (.if_icmp .ne 7, 3) := by decide +kernel
theorem dX12_binds_26 : decode cX12_binds 26 = .ok (.iconst 2, 1) := by decide +kernel
theorem dX12_binds_27 : decode cX12_binds 27 = .ok (.goto 35, 3) := by decide +kernel
theorem dX12_binds_30 : decode cX12_binds 30 = .ok (.iload_n 0, 1) := by decide +kernel
theorem dX12_binds_31 : decode cX12_binds 31 = .ok (.bipush 28, 2) := by decide +kernel
theorem dX12_binds_33 : decode cX12_binds 33 = .ok (.if_icmp .ne 7, 3) := by decide +kernel
theorem dX12_binds_36 : decode cX12_binds 36 = .ok (.iconst 3, 1) := by decide +kernel
theorem dX12_binds_37 : decode cX12_binds 37 = .ok (.goto 25, 3) := by decide +kernel
theorem dX12_binds_40 : decode cX12_binds 40 = .ok (.iload_n 0, 1) := by decide +kernel
theorem dX12_binds_41 : decode cX12_binds 41 = .ok (.bipush 25, 2) := by decide +kernel
theorem dX12_binds_43 : decode cX12_binds 43 = .ok (.if_icmp .lt 7, 3) := by decide +kernel
theorem dX12_binds_46 : decode cX12_binds 46 = .ok (.iconst 4, 1) := by decide +kernel
theorem dX12_binds_47 : decode cX12_binds 47 = .ok (.goto 15, 3) := by decide +kernel
theorem dX12_binds_50 : decode cX12_binds 50 = .ok (.iload_n 0, 1) := by decide +kernel
theorem dX12_binds_51 : decode cX12_binds 51 = .ok (.bipush 22, 2) := by decide +kernel
theorem dX12_binds_53 : decode cX12_binds 53 = .ok (.if_icmp .lt 8, 3) := by decide +kernel
theorem dX12_binds_56 : decode cX12_binds 56 = .ok (.bipush 6, 2) := by decide +kernel
theorem dX12_binds_58 : decode cX12_binds 58 = .ok (.goto 4, 3) := by decide +kernel
theorem dX12_binds_61 : decode cX12_binds 61 = .ok (.iconst 5, 1) := by decide +kernel
theorem dX12_binds_62 : decode cX12_binds 62 = .ok (.ireturn, 1) := by decide +kernel
theorem dX12_inner_0 : decode cX12_inner 0 = .ok (.iconst (-1), 1) := by decide +kernel
theorem dX12_inner_1 : decode cX12_inner 1 = .ok (.istore_n 1, 1) := by decide +kernel
theorem dX12_inner_2 : decode cX12_inner 2 = .ok (.iconst 0, 1) := by decide +kernel
theorem dX12_inner_3 : decode cX12_inner 3 = .ok (.istore_n 2, 1) := by decide +kernel
theorem dX12_inner_4 : decode cX12_inner 4 = .ok (.iload_n 2, 1) := by decide +kernel
theorem dX12_inner_5 : decode cX12_inner 5 = .ok (.aload_n 0, 1) := by decide +kernel
theorem dX12_inner_6 : decode cX12_inner 6 = .ok (.getfield 291, 3) := by decide +kernel
theorem dX12_inner_9 : decode cX12_inner 9 = .ok (.if_icmp .ge 31, 3) := by decide +kernel
theorem dX12_inner_12 : decode cX12_inner 12 = .ok (.aload_n 0, 1) := by decide +kernel
theorem dX12_inner_13 : decode cX12_inner 13 = .ok (.getfield 51, 3) := by decide +kernel
theorem dX12_inner_16 : decode cX12_inner 16 = .ok (.iload_n 2, 1) := by decide +kernel
theorem dX12_inner_17 : decode cX12_inner 17 = .ok (.iaload, 1) := by decide +kernel
theorem dX12_inner_18 : decode cX12_inner 18 = .ok (.bipush 31, 2) := by decide +kernel
theorem dX12_inner_20 : decode cX12_inner 20 = .ok (.if_icmp .lt 12, 3) := by decide +kernel
theorem dX12_inner_23 : decode cX12_inner 23 = .ok (.aload_n 0, 1) := by decide +kernel
theorem dX12_inner_24 : decode cX12_inner 24 = .ok (.getfield 51, 3) := by decide +kernel
theorem dX12_inner_27 : decode cX12_inner 27 = .ok (.iload_n 2, 1) := by decide +kernel
theorem dX12_inner_28 : decode cX12_inner 28 = .ok (.iaload, 1) := by decide +kernel
theorem dX12_inner_29 : decode cX12_inner 29 = .ok (.goto 4, 3) := by decide +kernel
theorem dX12_inner_32 : decode cX12_inner 32 = .ok (.iload_n 1, 1) := by decide +kernel
theorem dX12_inner_33 : decode cX12_inner 33 = .ok (.istore_n 1, 1) := by decide +kernel
theorem dX12_inner_34 : decode cX12_inner 34 = .ok (.iinc 2 1, 3) := by decide +kernel
theorem dX12_inner_37 : decode cX12_inner 37 = .ok (.goto (-33), 3) := by decide +kernel
theorem dX12_inner_40 : decode cX12_inner 40 = .ok (.iload_n 1, 1) := by decide +kernel
theorem dX12_inner_41 : decode cX12_inner 41 = .ok (.ireturn, 1) := by decide +kernel
theorem dX12_isCompared_0 : decode cX12_isCompared 0 = .ok (.aload_n 0, 1) := by decide +kernel
theorem dX12_isCompared_1 : decode cX12_isCompared 1 = .ok (.getfield 291, 3) := by decide +kernel
theorem dX12_isCompared_4 : decode cX12_isCompared 4 = .ok (.iconst 1, 1) := by decide +kernel
theorem dX12_isCompared_5 : decode cX12_isCompared 5 = .ok (.isub, 1) := by decide +kernel
theorem dX12_isCompared_6 : decode cX12_isCompared 6 = .ok (.istore_n 1, 1) := by decide +kernel
theorem dX12_isCompared_7 : decode cX12_isCompared 7 = .ok (.iload_n 1, 1) := by decide +kernel
theorem dX12_isCompared_8 : decode cX12_isCompared 8 = .ok (.ifCond .lt 28, 3) := by decide +kernel
theorem dX12_isCompared_11 : decode cX12_isCompared 11 = .ok (.aload_n 0, 1) := by decide +kernel
theorem dX12_isCompared_12 : decode cX12_isCompared 12 = .ok (.getfield 51, 3) := by decide +kernel
theorem dX12_isCompared_15 : decode cX12_isCompared 15 = .ok (.iload_n 1, 1) := by decide +kernel
theorem dX12_isCompared_16 : decode cX12_isCompared 16 = .ok (.iaload, 1) := by decide +kernel
theorem dX12_isCompared_17 : decode cX12_isCompared 17 = .ok (.i2l, 1) := by decide +kernel
theorem dX12_isCompared_18 : decode cX12_isCompared 18 = .ok (.ldc2_w 220, 3) := by decide +kernel
theorem dX12_isCompared_21 : decode cX12_isCompared 21 = .ok (.ldc2_w 301, 3) := by decide +kernel
theorem dX12_isCompared_24 : decode cX12_isCompared 24 = .ok (.invokestatic 179, 3) := by decide +kernel
theorem dX12_isCompared_27 : decode cX12_isCompared 27 = .ok (.ifCond .eq 9, 3) := by decide +kernel
theorem dX12_isCompared_30 : decode cX12_isCompared 30 = .ok (.iinc 1 (-1), 3) := by decide +kernel
theorem dX12_isCompared_33 : decode cX12_isCompared 33 = .ok (.goto (-26), 3) := by decide +kernel
theorem dX12_isCompared_36 : decode cX12_isCompared 36 = .ok (.iload_n 1, 1) := by decide +kernel
theorem dX12_isCompared_37 : decode cX12_isCompared 37 = .ok (.ifCond .lt 26, 3) := by decide +kernel
theorem dX12_isCompared_40 : decode cX12_isCompared 40 = .ok (.aload_n 0, 1) := by decide +kernel
theorem dX12_isCompared_41 : decode cX12_isCompared 41 = .ok (.getfield 51, 3) := by decide +kernel
theorem dX12_isCompared_44 : decode cX12_isCompared 44 = .ok (.iload_n 1, 1) := by decide +kernel
theorem dX12_isCompared_45 : decode cX12_isCompared 45 = .ok (.iaload, 1) := by decide +kernel
theorem dX12_isCompared_46 : decode cX12_isCompared 46 = .ok (.i2l, 1) := by decide +kernel
theorem dX12_isCompared_47 : decode cX12_isCompared 47 = .ok (.ldc2_w 303, 3) := by decide +kernel
theorem dX12_isCompared_50 : decode cX12_isCompared 50 = .ok (.ldc2_w 305, 3) := by decide +kernel
theorem dX12_isCompared_53 : decode cX12_isCompared 53 = .ok (.invokestatic 179, 3) := by decide +kernel
theorem dX12_isCompared_56 : decode cX12_isCompared 56 = .ok (.ifCond .eq 7, 3) := by decide +kernel
theorem dX12_isCompared_59 : decode cX12_isCompared 59 = .ok (.iconst 1, 1) := by decide +kernel
theorem dX12_isCompared_60 : decode cX12_isCompared 60 = .ok (.goto 4, 3) := by decide +kernel
theorem dX12_isCompared_63 : decode cX12_isCompared 63 = .ok (.iconst 0, 1) := by decide +kernel
theorem dX12_isCompared_64 : decode cX12_isCompared 64 = .ok (.ireturn, 1) := by decide +kernel
theorem dX12_isSign_0 : decode cX12_isSign 0 = .ok (.aload_n 0, 1) := by decide +kernel
theorem dX12_isSign_1 : decode cX12_isSign 1 = .ok (.getfield 269, 3) := by decide +kernel
theorem dX12_isSign_4 : decode cX12_isSign 4 = .ok (.iconst 3, 1) := by decide +kernel
theorem dX12_isSign_5 : decode cX12_isSign 5 = .ok (.if_icmp .ne 17, 3) := by decide +kernel
theorem dX12_isSign_8 : decode cX12_isSign 8 = .ok (.aload_n 0, 1) := by decide +kernel
theorem dX12_isSign_9 : decode cX12_isSign 9 = .ok (.getfield 259, 3) := by decide +kernel
theorem dX12_isSign_12 : decode cX12_isSign 12 = .ok (.iload_n 1, 1) := by decide +kernel
theorem dX12_isSign_13 : decode cX12_isSign 13 = .ok (.i2l, 1) := by decide +kernel
theorem dX12_isSign_14 : decode cX12_isSign 14 = .ok (.lcmp, 1) := by decide +kernel
theorem dX12_isSign_15 : decode cX12_isSign 15 = .ok (.ifCond .ne 7, 3) := by decide +kernel
theorem dX12_isSign_18 : decode cX12_isSign 18 = .ok (.iconst 1, 1) := by decide +kernel
theorem dX12_isSign_19 : decode cX12_isSign 19 = .ok (.goto 4, 3) := by decide +kernel
theorem dX12_isSign_22 : decode cX12_isSign 22 = .ok (.iconst 0, 1) := by decide +kernel
theorem dX12_isSign_23 : decode cX12_isSign 23 = .ok (.ireturn, 1) := by decide +kernel
theorem dX12_must_0 : decode cX12_must 0 = .ok (.aload_n 0, 1) := by decide +kernel
theorem dX12_must_1 : decode cX12_must 1 = .ok (.getfield 249, 3) := by decide +kernel
theorem dX12_must_4 : decode cX12_must 4 = .ok (.ifCond .ne 20, 3) := by decide +kernel
theorem dX12_must_7 : decode cX12_must 7 = .ok (.iload_n 1, 1) := by decide +kernel
theorem dX12_must_8 : decode cX12_must 8 = .ok (.ifCond .ne 16, 3) := by decide +kernel
theorem dX12_must_11 : decode cX12_must 11 = .ok (.aload_n 0, 1) := by decide +kernel
theorem dX12_must_12 : decode cX12_must 12 = .ok (.iconst 1, 1) := by decide +kernel
theorem dX12_must_13 : decode cX12_must 13 = .ok (.putfield 249, 3) := by decide +kernel
theorem dX12_must_16 : decode cX12_must 16 = .ok (.aload_n 0, 1) := by decide +kernel
theorem dX12_must_17 : decode cX12_must 17 = .ok (.aload_n 0, 1) := by decide +kernel
theorem dX12_must_18 : decode cX12_must 18 = .ok (.getfield 256, 3) := by decide +kernel
theorem dX12_must_21 : decode cX12_must 21 = .ok (.putfield 38, 3) := by decide +kernel
theorem dX12_must_24 : decode cX12_must 24 = .ok (.aload_n 0, 1) := by decide +kernel
theorem dX12_must_25 : decode cX12_must 25 = .ok (.getfield 249, 3) := by decide +kernel
theorem dX12_must_28 : decode cX12_must 28 = .ok (.ifCond .ne 7, 3) := by decide +kernel
theorem dX12_must_31 : decode cX12_must 31 = .ok (.aload_n 0, 1) := by decide +kernel
theorem dX12_must_32 : decode cX12_must 32 = .ok (.invokevirtual 253, 3) := by decide +kernel
theorem dX12_must_35 : decode cX12_must 35 = .ok (.return_, 1) := by decide +kernel
theorem dX12_push_0 : decode cX12_push 0 = .ok (.aload_n 0, 1) := by decide +kernel
theorem dX12_push_1 : decode cX12_push 1 = .ok (.getfield 51, 3) := by decide +kernel
theorem dX12_push_4 : decode cX12_push 4 = .ok (.aload_n 0, 1) := by decide +kernel
theorem dX12_push_5 : decode cX12_push 5 = .ok (.getfield 291, 3) := by decide +kernel
theorem dX12_push_8 : decode cX12_push 8 = .ok (.iload_n 1, 1) := by decide +kernel
theorem dX12_push_9 : decode cX12_push 9 = .ok (.iastore, 1) := by decide +kernel
theorem dX12_push_10 : decode cX12_push 10 = .ok (.aload_n 0, 1) := by decide +kernel
theorem dX12_push_11 : decode cX12_push 11 = .ok (.getfield 54, 3) := by decide +kernel
theorem dX12_push_14 : decode cX12_push 14 = .ok (.aload_n 0, 1) := by decide +kernel
theorem dX12_push_15 : decode cX12_push 15 = .ok (.getfield 291, 3) := by decide +kernel
theorem dX12_push_18 : decode cX12_push 18 = .ok (.iload_n 2, 1) := by decide +kernel
theorem dX12_push_19 : decode cX12_push 19 = .ok (.iastore, 1) := by decide +kernel
theorem dX12_push_20 : decode cX12_push 20 = .ok (.aload_n 0, 1) := by decide +kernel
theorem dX12_push_21 : decode cX12_push 21 = .ok (.dup, 1) := by decide +kernel
theorem dX12_push_22 : decode cX12_push 22 = .ok (.getfield 291, 3) := by decide +kernel
theorem dX12_push_25 : decode cX12_push 25 = .ok (.iconst 1, 1) := by decide +kernel
theorem dX12_push_26 : decode cX12_push 26 = .ok (.iadd, 1) := by decide +kernel
theorem dX12_push_27 : decode cX12_push 27 = .ok (.putfield 291, 3) := by decide +kernel
theorem dX12_push_30 : decode cX12_push 30 = .ok (.return_, 1) := by decide +kernel
theorem dX12_emit_0 : decode cX12_emit 0 = .ok (.aload_n 0, 1) := by decide +kernel
theorem dX12_emit_1 : decode cX12_emit 1 = .ok (.getfield 45, 3) := by decide +kernel
theorem dX12_emit_4 : decode cX12_emit 4 = .ok (.aload_n 0, 1) := by decide +kernel
theorem dX12_emit_5 : decode cX12_emit 5 = .ok (.getfield 288, 3) := by decide +kernel
theorem dX12_emit_8 : decode cX12_emit 8 = .ok (.iload_n 1, 1) := by decide +kernel
theorem dX12_emit_9 : decode cX12_emit 9 = .ok (.iastore, 1) := by decide +kernel
theorem dX12_emit_10 : decode cX12_emit 10 = .ok (.aload_n 0, 1) := by decide +kernel
theorem dX12_emit_11 : decode cX12_emit 11 = .ok (.getfield 48, 3) := by decide +kernel
theorem dX12_emit_14 : decode cX12_emit 14 = .ok (.aload_n 0, 1) := by decide +kernel
theorem dX12_emit_15 : decode cX12_emit 15 = .ok (.getfield 288, 3) := by decide +kernel
theorem dX12_emit_18 : decode cX12_emit 18 = .ok (.iload_n 2, 1) := by decide +kernel
theorem dX12_emit_19 : decode cX12_emit 19 = .ok (.iastore, 1) := by decide +kernel
theorem dX12_emit_20 : decode cX12_emit 20 = .ok (.aload_n 0, 1) := by decide +kernel
theorem dX12_emit_21 : decode cX12_emit 21 = .ok (.dup, 1) := by decide +kernel
theorem dX12_emit_22 : decode cX12_emit 22 = .ok (.getfield 288, 3) := by decide +kernel
theorem dX12_emit_25 : decode cX12_emit 25 = .ok (.iconst 1, 1) := by decide +kernel
theorem dX12_emit_26 : decode cX12_emit 26 = .ok (.iadd, 1) := by decide +kernel
theorem dX12_emit_27 : decode cX12_emit 27 = .ok (.putfield 288, 3) := by decide +kernel
theorem dX12_emit_30 : decode cX12_emit 30 = .ok (.return_, 1) := by decide +kernel
theorem dX12_settle_0 : decode cX12_settle 0 = .ok (.aload_n 0, 1) := by decide +kernel
theorem dX12_settle_1 : decode cX12_settle 1 = .ok (.getfield 291, 3) := by decide +kernel
theorem dX12_settle_4 : decode cX12_settle 4 = .ok (.ifCond .le 97, 3) := by decide +kernel
theorem dX12_settle_7 : decode cX12_settle 7 = .ok (.aload_n 0, 1) := by decide +kernel
theorem dX12_settle_8 : decode cX12_settle 8 = .ok (.getfield 51, 3) := by decide +kernel
theorem dX12_settle_11 : decode cX12_settle 11 = .ok (.aload_n 0, 1) := by decide +kernel
theorem dX12_settle_12 : decode cX12_settle 12 = .ok (.getfield 291, 3) := by decide +kernel
theorem dX12_settle_15 : decode cX12_settle 15 = .ok (.iconst 1, 1) := by decide +kernel
theorem dX12_settle_16 : decode cX12_settle 16 = .ok (.isub, 1) := by decide +kernel
theorem dX12_settle_17 : decode cX12_settle 17 = .ok (.iaload, 1) := by decide +kernel
theorem dX12_settle_18 : decode cX12_settle 18 = .ok (.invokestatic 294, 3) := by decide +kernel
theorem dX12_settle_21 : decode cX12_settle 21 = .ok (.iload_n 1, 1) := by decide +kernel
theorem dX12_settle_22 : decode cX12_settle 22 = .ok (.if_icmp .lt 79, 3) := by decide +kernel
theorem dX12_settle_25 : decode cX12_settle 25 = .ok (.aload_n 0, 1) := by decide +kernel
theorem dX12_settle_26 : decode cX12_settle 26 = .ok (.dup, 1) := by decide +kernel
theorem dX12_settle_27 : decode cX12_settle 27 = .ok (.getfield 291, 3) := by decide +kernel
theorem dX12_settle_30 : decode cX12_settle 30 = .ok (.iconst 1, 1) := by decide +kernel
theorem dX12_settle_31 : decode cX12_settle 31 = .ok (.isub, 1) := by decide +kernel
theorem dX12_settle_32 : decode cX12_settle 32 = .ok (.putfield 291, 3) := by decide +kernel
theorem dX12_settle_35 : decode cX12_settle 35 = .ok (.aload_n 0, 1) := by decide +kernel
theorem dX12_settle_36 : decode cX12_settle 36 = .ok (.getfield 51, 3) := by decide +kernel
theorem dX12_settle_39 : decode cX12_settle 39 = .ok (.aload_n 0, 1) := by decide +kernel
theorem dX12_settle_40 : decode cX12_settle 40 = .ok (.getfield 291, 3) := by decide +kernel
theorem dX12_settle_43 : decode cX12_settle 43 = .ok (.iaload, 1) := by decide +kernel
theorem dX12_settle_44 : decode cX12_settle 44 = .ok (.bipush 29, 2) := by decide +kernel
theorem dX12_settle_46 : decode cX12_settle 46 = .ok (.if_icmp .eq 17, 3) := by decide +kernel
theorem dX12_settle_49 : decode cX12_settle 49 = .ok (.aload_n 0, 1) := by decide +kernel
theorem dX12_settle_50 : decode cX12_settle 50 = .ok (.getfield 51, 3) := by decide +kernel
theorem dX12_settle_53 : decode cX12_settle 53 = .ok (.aload_n 0, 1) := by decide +kernel
theorem dX12_settle_54 : decode cX12_settle 54 = .ok (.getfield 291, 3) := by decide +kernel
theorem dX12_settle_57 : decode cX12_settle 57 = .ok (.iaload, 1) := by decide +kernel
theorem dX12_settle_58 : decode cX12_settle 58 = .ok (.bipush 30, 2) := by decide +kernel
theorem dX12_settle_60 : decode cX12_settle 60 = .ok (.if_icmp .ne 24, 3) := by decide +kernel
theorem dX12_settle_63 : decode cX12_settle 63 = .ok (.aload_n 0, 1) := by decide +kernel
theorem dX12_settle_64 : decode cX12_settle 64 = .ok (.getfield 48, 3) := by decide +kernel
theorem dX12_settle_67 : decode cX12_settle 67 = .ok (.aload_n 0, 1) := by decide +kernel
theorem dX12_settle_68 : decode cX12_settle 68 = .ok (.getfield 54, 3) := by decide +kernel
theorem dX12_settle_71 : decode cX12_settle 71 = .ok (.aload_n 0, 1) := by decide +kernel
theorem dX12_settle_72 : decode cX12_settle 72 = .ok (.getfield 291, 3) := by decide +kernel
theorem dX12_settle_75 : decode cX12_settle 75 = .ok (.iaload, 1) := by decide +kernel
theorem dX12_settle_76 : decode cX12_settle 76 = .ok (.aload_n 0, 1) := by decide +kernel
theorem dX12_settle_77 : decode cX12_settle 77 = .ok (.getfield 288, 3) := by decide +kernel
theorem dX12_settle_80 : decode cX12_settle 80 = .ok (.iastore, 1) := by decide +kernel
theorem dX12_settle_81 : decode cX12_settle 81 = .ok (.goto (-81), 3) := by decide +kernel
theorem dX12_settle_84 : decode cX12_settle 84 = .ok (.aload_n 0, 1) := by decide +kernel
theorem dX12_settle_85 : decode cX12_settle 85 = .ok (.aload_n 0, 1) := by decide +kernel
theorem dX12_settle_86 : decode cX12_settle 86 = .ok (.getfield 51, 3) := by decide +kernel
theorem dX12_settle_89 : decode cX12_settle 89 = .ok (.aload_n 0, 1) := by decide +kernel
theorem dX12_settle_90 : decode cX12_settle 90 = .ok (.getfield 291, 3) := by decide +kernel
theorem dX12_settle_93 : decode cX12_settle 93 = .ok (.iaload, 1) := by decide +kernel
theorem dX12_settle_94 : decode cX12_settle 94 = .ok (.iconst 0, 1) := by decide +kernel
theorem dX12_settle_95 : decode cX12_settle 95 = .ok (.invokevirtual 297, 3) := by decide +kernel
theorem dX12_settle_98 : decode cX12_settle 98 = .ok (.goto (-98), 3) := by decide +kernel
theorem dX12_settle_101 : decode cX12_settle 101 = .ok (.return_, 1) := by decide +kernel
theorem dX12_behindSum_0 : decode cX12_behindSum 0 = .ok (.aload_n 0, 1) := by decide +kernel
theorem dX12_behindSum_1 : decode cX12_behindSum 1 = .ok (.bipush 43, 2) := by decide +kernel
theorem dX12_behindSum_3 : decode cX12_behindSum 3 = .ok (.invokevirtual 320, 3) := by decide +kernel
theorem dX12_behindSum_6 : decode cX12_behindSum 6 = .ok (.ifCond .eq 8, 3) := by decide +kernel
theorem dX12_behindSum_9 : decode cX12_behindSum 9 = .ok (.bipush 20, 2) := by decide +kernel
theorem dX12_behindSum_11 : decode cX12_behindSum 11 = .ok (.goto 60, 3) := by decide +kernel
theorem dX12_behindSum_14 : decode cX12_behindSum 14 = .ok (.aload_n 0, 1) := by decide +kernel
theorem dX12_behindSum_15 : decode cX12_behindSum 15 = .ok (.bipush 45, 2) := by decide +kernel
theorem dX12_behindSum_17 : decode cX12_behindSum 17 = .ok (.invokevirtual 320, 3) := by decide +kernel
theorem dX12_behindSum_20 : decode cX12_behindSum 20 = .ok (.ifCond .eq 8, 3) := by decide +kernel
theorem dX12_behindSum_23 : decode cX12_behindSum 23 = .ok (.bipush 21, 2) := by decide +kernel
theorem dX12_behindSum_25 : decode cX12_behindSum 25 = .ok (.goto 46, 3) := by decide +kernel
theorem dX12_behindSum_28 : decode cX12_behindSum 28 = .ok (.aload_n 0, 1) := by decide +kernel
theorem dX12_behindSum_29 : decode cX12_behindSum 29 = .ok (.bipush 42, 2) := by decide +kernel
theorem dX12_behindSum_31 : decode cX12_behindSum 31 = .ok (.invokevirtual 320, 3) := by decide +kernel
theorem dX12_behindSum_34 : decode cX12_behindSum 34 = .ok (.ifCond .eq 8, 3) := by decide +kernel
theorem dX12_behindSum_37 : decode cX12_behindSum 37 = .ok (.bipush 22, 2) := by decide +kernel
theorem dX12_behindSum_39 : decode cX12_behindSum 39 = .ok (.goto 32, 3) := by decide +kernel
theorem dX12_behindSum_42 : decode cX12_behindSum 42 = .ok (.aload_n 0, 1) := by decide +kernel
theorem dX12_behindSum_43 : decode cX12_behindSum 43 = .ok (.bipush 47, 2) := by decide +kernel
theorem dX12_behindSum_45 : decode cX12_behindSum 45 = .ok (.invokevirtual 320, 3) := by decide +kernel
theorem dX12_behindSum_48 : decode cX12_behindSum 48 = .ok (.ifCond .eq 8, 3) := by decide +kernel
theorem dX12_behindSum_51 : decode cX12_behindSum 51 = .ok (.bipush 23, 2) := by decide +kernel
theorem dX12_behindSum_53 : decode cX12_behindSum 53 = .ok (.goto 18, 3) := by decide +kernel
theorem dX12_behindSum_56 : decode cX12_behindSum 56 = .ok (.aload_n 0, 1) := by decide +kernel
theorem dX12_behindSum_57 : decode cX12_behindSum 57 = .ok (.bipush 37, 2) := by decide +kernel
theorem dX12_behindSum_59 : decode cX12_behindSum 59 = .ok (.invokevirtual 320, 3) := by decide +kernel
theorem dX12_behindSum_62 : decode cX12_behindSum 62 = .ok (.ifCond .eq 8, 3) := by decide +kernel
theorem dX12_behindSum_65 : decode cX12_behindSum 65 = .ok (.bipush 24, 2) := by decide +kernel
theorem dX12_behindSum_67 : decode cX12_behindSum 67 = .ok (.goto 4, 3) := by decide +kernel
theorem dX12_behindSum_70 : decode cX12_behindSum 70 = .ok (.iconst (-1), 1) := by decide +kernel
theorem dX12_behindSum_71 : decode cX12_behindSum 71 = .ok (.istore_n 2, 1) := by decide +kernel
theorem dX12_behindSum_72 : decode cX12_behindSum 72 = .ok (.iload_n 2, 1) := by decide +kernel
theorem dX12_behindSum_73 : decode cX12_behindSum 73 = .ok (.iconst (-1), 1) := by decide +kernel
theorem dX12_behindSum_74 : decode cX12_behindSum 74 = .ok (.if_icmp .eq 23, 3) := by decide +kernel
theorem dX12_behindSum_77 : decode cX12_behindSum 77 = .ok (.aload_n 0, 1) := by decide +kernel
theorem dX12_behindSum_78 : decode cX12_behindSum 78 = .ok (.iload_n 2, 1) := by decide +kernel
theorem dX12_behindSum_79 : decode cX12_behindSum 79 = .ok (.invokestatic 294, 3) := by decide +kernel
theorem dX12_behindSum_82 : decode cX12_behindSum 82 = .ok (.invokevirtual 352, 3) := by decide +kernel
theorem dX12_behindSum_85 : decode cX12_behindSum 85 = .ok (.aload_n 0, 1) := by decide +kernel
theorem dX12_behindSum_86 : decode cX12_behindSum 86 = .ok (.iload_n 2, 1) := by decide +kernel
theorem dX12_behindSum_87 : decode cX12_behindSum 87 = .ok (.iconst 0, 1) := by decide +kernel
theorem dX12_behindSum_88 : decode cX12_behindSum 88 = .ok (.invokevirtual 314, 3) := by decide +kernel
theorem dX12_behindSum_91 : decode cX12_behindSum 91 = .ok (.aload_n 0, 1) := by decide +kernel
theorem dX12_behindSum_92 : decode cX12_behindSum 92 = .ok (.invokevirtual 253, 3) := by decide +kernel
theorem dX12_behindSum_95 : decode cX12_behindSum 95 = .ok (.iconst 1, 1) := by decide +kernel
theorem dX12_behindSum_96 : decode cX12_behindSum 96 = .ok (.ireturn, 1) := by decide +kernel
theorem dX12_behindSum_97 : decode cX12_behindSum 97 = .ok (.aload_n 0, 1) := by decide +kernel
theorem dX12_behindSum_98 : decode cX12_behindSum 98 = .ok (.invokevirtual 355, 3) := by decide +kernel
theorem dX12_behindSum_101 : decode cX12_behindSum 101 = .ok (.istore_n 3, 1) := by decide +kernel
theorem dX12_behindSum_102 : decode cX12_behindSum 102 = .ok (.iload_n 3, 1) := by decide +kernel
theorem dX12_behindSum_103 : decode cX12_behindSum 103 = .ok (.bipush 32, 2) := by decide +kernel
theorem dX12_behindSum_105 : decode cX12_behindSum 105 = .ok (.if_icmp .ne 47, 3) := by decide +kernel
theorem dX12_behindSum_108 : decode cX12_behindSum 108 = .ok (.aload_n 0, 1) := by decide +kernel
theorem dX12_behindSum_109 : decode cX12_behindSum 109 = .ok (.aload_n 0, 1) := by decide +kernel
theorem dX12_behindSum_110 : decode cX12_behindSum 110 = .ok (.bipush 93, 2) := by decide +kernel
theorem dX12_behindSum_112 : decode cX12_behindSum 112 = .ok (.invokevirtual 320, 3) := by decide +kernel
theorem dX12_behindSum_115 : decode cX12_behindSum 115 = .ok (.invokevirtual 284, 3) := by decide +kernel
theorem dX12_behindSum_118 : decode cX12_behindSum 118 = .ok (.aload_n 0, 1) := by decide +kernel
theorem dX12_behindSum_119 : decode cX12_behindSum 119 = .ok (.getfield 249, 3) := by decide +kernel
theorem dX12_behindSum_122 : decode cX12_behindSum 122 = .ok (.ifCond .ne 28, 3) := by decide +kernel
theorem dX12_behindSum_125 : decode cX12_behindSum 125 = .ok (.aload_n 0, 1) := by decide +kernel
theorem dX12_behindSum_126 : decode cX12_behindSum 126 = .ok (.iconst 5, 1) := by decide +kernel
theorem dX12_behindSum_127 : decode cX12_behindSum 127 = .ok (.invokevirtual 352, 3) := by decide +kernel
theorem dX12_behindSum_130 : decode cX12_behindSum 130 = .ok (.aload_n 0, 1) := by decide +kernel
theorem dX12_behindSum_131 : decode cX12_behindSum 131 = .ok (.dup, 1) := by decide +kernel
theorem dX12_behindSum_132 : decode cX12_behindSum 132 = .ok (.getfield 291, 3) := by decide +kernel
theorem dX12_behindSum_135 : decode cX12_behindSum 135 = .ok (.iconst 1, 1) := by decide +kernel
theorem dX12_behindSum_136 : decode cX12_behindSum 136 = .ok (.isub, 1) := by decide +kernel
theorem dX12_behindSum_137 : decode cX12_behindSum 137 = .ok (.putfield 291, 3) := by decide +kernel
theorem dX12_behindSum_140 : decode cX12_behindSum 140 = .ok (.aload_n 0, 1) := by decide +kernel
theorem dX12_behindSum_141 : decode cX12_behindSum 141 = .ok (.dup, 1) := by decide +kernel
theorem dX12_behindSum_142 : decode cX12_behindSum 142 = .ok (.getfield 311, 3) := by decide +kernel
theorem dX12_behindSum_145 : decode cX12_behindSum 145 = .ok (.iconst 1, 1) := by decide +kernel
theorem dX12_behindSum_146 : decode cX12_behindSum 146 = .ok (.isub, 1) := by decide +kernel
theorem dX12_behindSum_147 : decode cX12_behindSum 147 = .ok (.putfield 311, 3) := by decide +kernel
theorem dX12_behindSum_150 : decode cX12_behindSum 150 = .ok (.iconst 3, 1) := by decide +kernel
theorem dX12_behindSum_151 : decode cX12_behindSum 151 = .ok (.ireturn, 1) := by decide +kernel
theorem dX12_behindSum_152 : decode cX12_behindSum 152 = .ok (.iload_n 3, 1) := by decide +kernel
theorem dX12_behindSum_153 : decode cX12_behindSum 153 = .ok (.iconst (-1), 1) := by decide +kernel
theorem dX12_behindSum_154 : decode cX12_behindSum 154 = .ok (.if_icmp .ne 9, 3) := by decide +kernel
theorem dX12_behindSum_157 : decode cX12_behindSum 157 = .ok (.iload_n 1, 1) := by decide +kernel
theorem dX12_behindSum_158 : decode cX12_behindSum 158 = .ok (.ifCond .ne 5, 3) := by decide +kernel
theorem dX12_behindSum_161 : decode cX12_behindSum 161 = .ok (.iconst 4, 1) := by decide +kernel
theorem dX12_behindSum_162 : decode cX12_behindSum 162 = .ok (.ireturn, 1) := by decide +kernel
theorem dX12_behindSum_163 : decode cX12_behindSum 163 = .ok (.aload_n 0, 1) := by decide +kernel
theorem dX12_behindSum_164 : decode cX12_behindSum 164 = .ok (.invokevirtual 358, 3) := by decide +kernel
theorem dX12_behindSum_167 : decode cX12_behindSum 167 = .ok (.ifCond .eq 5, 3) := by decide +kernel
theorem dX12_behindSum_170 : decode cX12_behindSum 170 = .ok (.iconst 2, 1) := by decide +kernel
theorem dX12_behindSum_171 : decode cX12_behindSum 171 = .ok (.ireturn, 1) := by decide +kernel
theorem dX12_behindSum_172 : decode cX12_behindSum 172 = .ok (.aload_n 0, 1) := by decide +kernel
theorem dX12_behindSum_173 : decode cX12_behindSum 173 = .ok (.bipush 60, 2) := by decide +kernel
theorem dX12_behindSum_175 : decode cX12_behindSum 175 = .ok (.invokevirtual 320, 3) := by decide +kernel
theorem dX12_behindSum_178 : decode cX12_behindSum 178 = .ok (.ifCond .eq 8, 3) := by decide +kernel
theorem dX12_behindSum_181 : decode cX12_behindSum 181 = .ok (.bipush 25, 2) := by decide +kernel
theorem dX12_behindSum_183 : decode cX12_behindSum 183 = .ok (.goto 19, 3) := by decide +kernel
theorem dX12_behindSum_186 : decode cX12_behindSum 186 = .ok (.aload_n 0, 1) := by decide +kernel
theorem dX12_behindSum_187 : decode cX12_behindSum 187 = .ok (.bipush 62, 2) := by decide +kernel
theorem dX12_behindSum_189 : decode cX12_behindSum 189 = .ok (.invokevirtual 320, 3) := by decide +kernel
theorem dX12_behindSum_192 : decode cX12_behindSum 192 = .ok (.ifCond .eq 8, 3) := by decide +kernel
theorem dX12_behindSum_195 : decode cX12_behindSum 195 = .ok (.bipush 26, 2) := by decide +kernel
theorem dX12_behindSum_197 : decode cX12_behindSum 197 = .ok (.goto 5, 3) := by decide +kernel
theorem dX12_behindSum_200 : decode cX12_behindSum 200 = .ok (.bipush 27, 2) := by decide +kernel
theorem dX12_behindSum_202 : decode cX12_behindSum 202 = .ok (.istore_n 2, 1) := by decide +kernel
theorem dX12_behindSum_203 : decode cX12_behindSum 203 = .ok (.aload_n 0, 1) := by decide +kernel
theorem dX12_behindSum_204 : decode cX12_behindSum 204 = .ok (.iload_n 2, 1) := by decide +kernel
theorem dX12_behindSum_205 : decode cX12_behindSum 205 = .ok (.bipush 27, 2) := by decide +kernel
theorem dX12_behindSum_207 : decode cX12_behindSum 207 = .ok (.if_icmp .ne 12, 3) := by decide +kernel
theorem dX12_behindSum_210 : decode cX12_behindSum 210 = .ok (.aload_n 0, 1) := by decide +kernel
theorem dX12_behindSum_211 : decode cX12_behindSum 211 = .ok (.bipush 61, 2) := by decide +kernel
theorem dX12_behindSum_213 : decode cX12_behindSum 213 = .ok (.invokevirtual 320, 3) := by decide +kernel
theorem dX12_behindSum_216 : decode cX12_behindSum 216 = .ok (.ifCond .eq 7, 3) := by decide +kernel
theorem dX12_behindSum_219 : decode cX12_behindSum 219 = .ok (.iconst 1, 1) := by decide +kernel
theorem dX12_behindSum_220 : decode cX12_behindSum 220 = .ok (.goto 4, 3) := by decide +kernel
theorem dX12_behindSum_223 : decode cX12_behindSum 223 = .ok (.iconst 0, 1) := by decide +kernel
theorem dX12_behindSum_224 : decode cX12_behindSum 224 = .ok (.invokevirtual 284, 3) := by decide +kernel
theorem dX12_behindSum_227 : decode cX12_behindSum 227 = .ok (.aload_n 0, 1) := by decide +kernel
theorem dX12_behindSum_228 : decode cX12_behindSum 228 = .ok (.getfield 249, 3) := by decide +kernel
theorem dX12_behindSum_231 : decode cX12_behindSum 231 = .ok (.ifCond .ne 14, 3) := by decide +kernel
theorem dX12_behindSum_234 : decode cX12_behindSum 234 = .ok (.aload_n 0, 1) := by decide +kernel
theorem dX12_behindSum_235 : decode cX12_behindSum 235 = .ok (.iconst 5, 1) := by decide +kernel
theorem dX12_behindSum_236 : decode cX12_behindSum 236 = .ok (.invokevirtual 352, 3) := by decide +kernel
theorem dX12_behindSum_239 : decode cX12_behindSum 239 = .ok (.aload_n 0, 1) := by decide +kernel
theorem dX12_behindSum_240 : decode cX12_behindSum 240 = .ok (.iload_n 2, 1) := by decide +kernel
theorem dX12_behindSum_241 : decode cX12_behindSum 241 = .ok (.iconst 0, 1) := by decide +kernel
theorem dX12_behindSum_242 : decode cX12_behindSum 242 = .ok (.invokevirtual 314, 3) := by decide +kernel
theorem dX12_behindSum_245 : decode cX12_behindSum 245 = .ok (.iconst 1, 1) := by decide +kernel
theorem dX12_behindSum_246 : decode cX12_behindSum 246 = .ok (.ireturn, 1) := by decide +kernel
theorem dX12_isWord_0 : decode cX12_isWord 0 = .ok (.aload_n 0, 1) := by decide +kernel
theorem dX12_isWord_1 : decode cX12_isWord 1 = .ok (.getfield 269, 3) := by decide +kernel
theorem dX12_isWord_4 : decode cX12_isWord 4 = .ok (.iconst 1, 1) := by decide +kernel
theorem dX12_isWord_5 : decode cX12_isWord 5 = .ok (.if_icmp .ne 16, 3) := by decide +kernel
theorem dX12_isWord_8 : decode cX12_isWord 8 = .ok (.aload_n 0, 1) := by decide +kernel
theorem dX12_isWord_9 : decode cX12_isWord 9 = .ok (.getfield 259, 3) := by decide +kernel
theorem dX12_isWord_12 : decode cX12_isWord 12 = .ok (.lload_n 1, 1) := by decide +kernel
theorem dX12_isWord_13 : decode cX12_isWord 13 = .ok (.lcmp, 1) := by decide +kernel
theorem dX12_isWord_14 : decode cX12_isWord 14 = .ok (.ifCond .ne 7, 3) := by decide +kernel
theorem dX12_isWord_17 : decode cX12_isWord 17 = .ok (.iconst 1, 1) := by decide +kernel
theorem dX12_isWord_18 : decode cX12_isWord 18 = .ok (.goto 4, 3) := by decide +kernel
theorem dX12_isWord_21 : decode cX12_isWord 21 = .ok (.iconst 0, 1) := by decide +kernel
theorem dX12_isWord_22 : decode cX12_isWord 22 = .ok (.ireturn, 1) := by decide +kernel
theorem dX12_behindTest_0 : decode cX12_behindTest 0 = .ok (.aload_n 0, 1) := by decide +kernel
theorem dX12_behindTest_1 : decode cX12_behindTest 1 = .ok (.ldc2_w 362, 3) := by decide +kernel
theorem dX12_behindTest_4 : decode cX12_behindTest 4 = .ok (.invokevirtual 307, 3) := by decide +kernel
theorem dX12_behindTest_7 : decode cX12_behindTest 7 = .ok (.istore_n 1, 1) := by decide +kernel
theorem dX12_behindTest_8 : decode cX12_behindTest 8 = .ok (.iload_n 1, 1) := by decide +kernel
theorem dX12_behindTest_9 : decode cX12_behindTest 9 = .ok (.ifCond .ne 13, 3) := by decide +kernel
theorem dX12_behindTest_12 : decode cX12_behindTest 12 = .ok (.aload_n 0, 1) := by decide +kernel
theorem dX12_behindTest_13 : decode cX12_behindTest 13 = .ok (.ldc2_w 364, 3) := by decide +kernel
theorem dX12_behindTest_16 : decode cX12_behindTest 16 = .ok (.invokevirtual 307, 3) := by decide +kernel
theorem dX12_behindTest_19 : decode cX12_behindTest 19 = .ok (.ifCond .eq 57, 3) := by decide +kernel
theorem dX12_behindTest_22 : decode cX12_behindTest 22 = .ok (.aload_n 0, 1) := by decide +kernel
theorem dX12_behindTest_23 : decode cX12_behindTest 23 = .ok (.iload_n 1, 1) := by decide +kernel
theorem dX12_behindTest_24 : decode cX12_behindTest 24 = .ok (.ifCond .eq 7, 3) := by decide +kernel
theorem dX12_behindTest_27 : decode cX12_behindTest 27 = .ok (.iconst 2, 1) := by decide +kernel
theorem dX12_behindTest_28 : decode cX12_behindTest 28 = .ok (.goto 4, 3) := by decide +kernel
theorem dX12_behindTest_31 : decode cX12_behindTest 31 = .ok (.iconst 1, 1) := by decide +kernel
theorem dX12_behindTest_32 : decode cX12_behindTest 32 = .ok (.invokevirtual 352, 3) := by decide +kernel
theorem dX12_behindTest_35 : decode cX12_behindTest 35 = .ok (.aload_n 0, 1) := by decide +kernel
theorem dX12_behindTest_36 : decode cX12_behindTest 36 = .ok (.iload_n 1, 1) := by decide +kernel
theorem dX12_behindTest_37 : decode cX12_behindTest 37 = .ok (.ifCond .eq 8, 3) := by decide +kernel
theorem dX12_behindTest_40 : decode cX12_behindTest 40 = .ok (.bipush 29, 2) := by decide +kernel
theorem dX12_behindTest_42 : decode cX12_behindTest 42 = .ok (.goto 5, 3) := by decide +kernel
theorem dX12_behindTest_45 : decode cX12_behindTest 45 = .ok (.bipush 30, 2) := by decide +kernel
theorem dX12_behindTest_47 : decode cX12_behindTest 47 = .ok (.aload_n 0, 1) := by decide +kernel
theorem dX12_behindTest_48 : decode cX12_behindTest 48 = .ok (.getfield 288, 3) := by decide +kernel
theorem dX12_behindTest_51 : decode cX12_behindTest 51 = .ok (.invokevirtual 314, 3) := by decide +kernel
theorem dX12_behindTest_54 : decode cX12_behindTest 54 = .ok (.aload_n 0, 1) := by decide +kernel
theorem dX12_behindTest_55 : decode cX12_behindTest 55 = .ok (.iload_n 1, 1) := by decide +kernel
theorem dX12_behindTest_56 : decode cX12_behindTest 56 = .ok (.ifCond .eq 8, 3) := by decide +kernel
theorem dX12_behindTest_59 : decode cX12_behindTest 59 = .ok (.bipush 29, 2) := by decide +kernel
theorem dX12_behindTest_61 : decode cX12_behindTest 61 = .ok (.goto 5, 3) := by decide +kernel
theorem dX12_behindTest_64 : decode cX12_behindTest 64 = .ok (.bipush 30, 2) := by decide +kernel
theorem dX12_behindTest_66 : decode cX12_behindTest 66 = .ok (.iconst 0, 1) := by decide +kernel
theorem dX12_behindTest_67 : decode cX12_behindTest 67 = .ok (.invokevirtual 297, 3) := by decide +kernel
theorem dX12_behindTest_70 : decode cX12_behindTest 70 = .ok (.aload_n 0, 1) := by decide +kernel
theorem dX12_behindTest_71 : decode cX12_behindTest 71 = .ok (.invokevirtual 253, 3) := by decide +kernel
theorem dX12_behindTest_74 : decode cX12_behindTest 74 = .ok (.iconst 0, 1) := by decide +kernel
theorem dX12_behindTest_75 : decode cX12_behindTest 75 = .ok (.ireturn, 1) := by decide +kernel
theorem dX12_behindTest_76 : decode cX12_behindTest 76 = .ok (.aload_n 0, 1) := by decide +kernel
theorem dX12_behindTest_77 : decode cX12_behindTest 77 = .ok (.invokevirtual 355, 3) := by decide +kernel
theorem dX12_behindTest_80 : decode cX12_behindTest 80 = .ok (.iconst (-1), 1) := by decide +kernel
theorem dX12_behindTest_81 : decode cX12_behindTest 81 = .ok (.if_icmp .ne 5, 3) := by decide +kernel
theorem dX12_behindTest_84 : decode cX12_behindTest 84 = .ok (.iconst 4, 1) := by decide +kernel
theorem dX12_behindTest_85 : decode cX12_behindTest 85 = .ok (.ireturn, 1) := by decide +kernel
theorem dX12_behindTest_86 : decode cX12_behindTest 86 = .ok (.aload_n 0, 1) := by decide +kernel
theorem dX12_behindTest_87 : decode cX12_behindTest 87 = .ok (.aload_n 0, 1) := by decide +kernel
theorem dX12_behindTest_88 : decode cX12_behindTest 88 = .ok (.bipush 41, 2) := by decide +kernel
theorem dX12_behindTest_90 : decode cX12_behindTest 90 = .ok (.invokevirtual 320, 3) := by decide +kernel
theorem dX12_behindTest_93 : decode cX12_behindTest 93 = .ok (.invokevirtual 284, 3) := by decide +kernel
theorem dX12_behindTest_96 : decode cX12_behindTest 96 = .ok (.aload_n 0, 1) := by decide +kernel
theorem dX12_behindTest_97 : decode cX12_behindTest 97 = .ok (.getfield 249, 3) := by decide +kernel
theorem dX12_behindTest_100 : decode cX12_behindTest 100 = .ok (.ifCond .ne 28, 3) := by decide +kernel
theorem dX12_behindTest_103 : decode cX12_behindTest 103 = .ok (.aload_n 0, 1) := by decide +kernel
theorem dX12_behindTest_104 : decode cX12_behindTest 104 = .ok (.iconst 1, 1) := by decide +kernel
theorem dX12_behindTest_105 : decode cX12_behindTest 105 = .ok (.invokevirtual 352, 3) := by decide +kernel
theorem dX12_behindTest_108 : decode cX12_behindTest 108 = .ok (.aload_n 0, 1) := by decide +kernel
theorem dX12_behindTest_109 : decode cX12_behindTest 109 = .ok (.dup, 1) := by decide +kernel
theorem dX12_behindTest_110 : decode cX12_behindTest 110 = .ok (.getfield 291, 3) := by decide +kernel
theorem dX12_behindTest_113 : decode cX12_behindTest 113 = .ok (.iconst 1, 1) := by decide +kernel
theorem dX12_behindTest_114 : decode cX12_behindTest 114 = .ok (.isub, 1) := by decide +kernel
theorem dX12_behindTest_115 : decode cX12_behindTest 115 = .ok (.putfield 291, 3) := by decide +kernel
theorem dX12_behindTest_118 : decode cX12_behindTest 118 = .ok (.aload_n 0, 1) := by decide +kernel
theorem dX12_behindTest_119 : decode cX12_behindTest 119 = .ok (.dup, 1) := by decide +kernel
theorem dX12_behindTest_120 : decode cX12_behindTest 120 = .ok (.getfield 311, 3) := by decide +kernel
theorem dX12_behindTest_123 : decode cX12_behindTest 123 = .ok (.iconst 1, 1) := by decide +kernel
theorem dX12_behindTest_124 : decode cX12_behindTest 124 = .ok (.isub, 1) := by decide +kernel
theorem dX12_behindTest_125 : decode cX12_behindTest 125 = .ok (.putfield 311, 3) := by decide +kernel
theorem dX12_behindTest_128 : decode cX12_behindTest 128 = .ok (.iconst 2, 1) := by decide +kernel
theorem dX12_behindTest_129 : decode cX12_behindTest 129 = .ok (.ireturn, 1) := by decide +kernel
theorem dX12_toldBy_0 : decode cX12_toldBy 0 = .ok (.aload_n 0, 1) := by decide +kernel
theorem dX12_toldBy_1 : decode cX12_toldBy 1 = .ok (.iconst 0, 1) := by decide +kernel
theorem dX12_toldBy_2 : decode cX12_toldBy 2 = .ok (.iload_n 2, 1) := by decide +kernel
theorem dX12_toldBy_3 : decode cX12_toldBy 3 = .ok (.iconst (-1), 1) := by decide +kernel
theorem dX12_toldBy_4 : decode cX12_toldBy 4 = .ok (.iconst (-1), 1) := by decide +kernel
theorem dX12_toldBy_5 : decode cX12_toldBy 5 = .ok (.iload_n 1, 1) := by decide +kernel
theorem dX12_toldBy_6 : decode cX12_toldBy 6 = .ok (.aload_n 0, 1) := by decide +kernel
theorem dX12_toldBy_7 : decode cX12_toldBy 7 = .ok (.invokevirtual 210, 3) := by decide +kernel
theorem dX12_toldBy_10 : decode cX12_toldBy 10 = .ok (.aload_n 0, 1) := by decide +kernel
theorem dX12_toldBy_11 : decode cX12_toldBy 11 = .ok (.iload_n 2, 1) := by decide +kernel
theorem dX12_toldBy_12 : decode cX12_toldBy 12 = .ok (.iconst 2, 1) := by decide +kernel
theorem dX12_toldBy_13 : decode cX12_toldBy 13 = .ok (.invokevirtual 190, 3) := by decide +kernel
theorem dX12_toldBy_16 : decode cX12_toldBy 16 = .ok (.i2l, 1) := by decide +kernel
theorem dX12_toldBy_17 : decode cX12_toldBy 17 = .ok (.invokevirtual 435, 3) := by decide +kernel
theorem dX12_toldBy_20 : decode cX12_toldBy 20 = .ok (.iconst 0, 1) := by decide +kernel
theorem dX12_toldBy_21 : decode cX12_toldBy 21 = .ok (.sipush 999, 3) := by decide +kernel
theorem dX12_toldBy_24 : decode cX12_toldBy 24 = .ok (.invokestatic 439, 3) := by decide +kernel
theorem dX12_toldBy_27 : decode cX12_toldBy 27 = .ok (.ireturn, 1) := by decide +kernel
theorem dX12_middle_0 : decode cX12_middle 0 = .ok (.aload_n 0, 1) := by decide +kernel
theorem dX12_middle_1 : decode cX12_middle 1 = .ok (.getfield 13, 3) := by decide +kernel
theorem dX12_middle_4 : decode cX12_middle 4 = .ok (.iconst 2, 1) := by decide +kernel
theorem dX12_middle_5 : decode cX12_middle 5 = .ok (.iaload, 1) := by decide +kernel
theorem dX12_middle_6 : decode cX12_middle 6 = .ok (.istore 4, 2) := by decide +kernel
theorem dX12_middle_8 : decode cX12_middle 8 = .ok (.iconst 0, 1) := by decide +kernel
theorem dX12_middle_9 : decode cX12_middle 9 = .ok (.istore 5, 2) := by decide +kernel
theorem dX12_middle_11 : decode cX12_middle 11 = .ok (.iload 5, 2) := by decide +kernel
theorem dX12_middle_13 : decode cX12_middle 13 = .ok (.iload 4, 2) := by decide +kernel
theorem dX12_middle_15 : decode cX12_middle 15 = .ok (.if_icmp .ge 85, 3) := by decide +kernel
theorem dX12_middle_18 : decode cX12_middle 18 = .ok (.iload_n 2, 1) := by decide +kernel
theorem dX12_middle_19 : decode cX12_middle 19 = .ok (.iload 5, 2) := by decide +kernel
theorem dX12_middle_21 : decode cX12_middle 21 = .ok (.invokestatic 458, 3) := by decide +kernel
theorem dX12_middle_24 : decode cX12_middle 24 = .ok (.ifCond .eq 7, 3) := by decide +kernel
theorem dX12_middle_27 : decode cX12_middle 27 = .ok (.iload_n 3, 1) := by decide +kernel
theorem dX12_middle_28 : decode cX12_middle 28 = .ok (.goto 10, 3) := by decide +kernel
theorem dX12_middle_31 : decode cX12_middle 31 = .ok (.aload_n 0, 1) := by decide +kernel
theorem dX12_middle_32 : decode cX12_middle 32 = .ok (.iload 5, 2) := by decide +kernel
theorem dX12_middle_34 : decode cX12_middle 34 = .ok (.iload_n 1, 1) := by decide +kernel
theorem dX12_middle_35 : decode cX12_middle 35 = .ok (.invokevirtual 519, 3) := by decide +kernel
theorem dX12_middle_38 : decode cX12_middle 38 = .ok (.istore 6, 2) := by decide +kernel
theorem dX12_middle_40 : decode cX12_middle 40 = .ok (.iload 5, 2) := by decide +kernel
theorem dX12_middle_42 : decode cX12_middle 42 = .ok (.istore 7, 2) := by decide +kernel
theorem dX12_middle_44 : decode cX12_middle 44 = .ok (.iload 7, 2) := by decide +kernel
theorem dX12_middle_46 : decode cX12_middle 46 = .ok (.ifCond .le 39, 3) := by decide +kernel
theorem dX12_middle_49 : decode cX12_middle 49 = .ok (.aload_n 0, 1) := by decide +kernel
theorem dX12_middle_50 : decode cX12_middle 50 = .ok (.getfield 127, 3) := by decide +kernel
theorem dX12_middle_53 : decode cX12_middle 53 = .ok (.iload 7, 2) := by decide +kernel
theorem dX12_middle_55 : decode cX12_middle 55 = .ok (.iconst 1, 1) := by decide +kernel
theorem dX12_middle_56 : decode cX12_middle 56 = .ok (.isub, 1) := by decide +kernel
theorem dX12_middle_57 : decode cX12_middle 57 = .ok (.iaload, 1) := by decide +kernel
theorem dX12_middle_58 : decode cX12_middle 58 = .ok (.iload 6, 2) := by decide +kernel
theorem dX12_middle_60 : decode cX12_middle 60 = .ok (.if_icmp .le 25, 3) := by decide +kernel
theorem dX12_middle_63 : decode cX12_middle 63 = .ok (.aload_n 0, 1) := by decide +kernel
theorem dX12_middle_64 : decode cX12_middle 64 = .ok (.getfield 127, 3) := by decide +kernel
theorem dX12_middle_67 : decode cX12_middle 67 = .ok (.iload 7, 2) := by decide +kernel
theorem dX12_middle_69 : decode cX12_middle 69 = .ok (.aload_n 0, 1) := by decide +kernel
theorem dX12_middle_70 : decode cX12_middle 70 = .ok (.getfield 127, 3) := by decide +kernel
theorem dX12_middle_73 : decode cX12_middle 73 = .ok (.iload 7, 2) := by decide +kernel
theorem dX12_middle_75 : decode cX12_middle 75 = .ok (.iconst 1, 1) := by decide +kernel
theorem dX12_middle_76 : decode cX12_middle 76 = .ok (.isub, 1) := by decide +kernel
theorem dX12_middle_77 : decode cX12_middle 77 = .ok (.iaload, 1) := by decide +kernel
theorem dX12_middle_78 : decode cX12_middle 78 = .ok (.iastore, 1) := by decide +kernel
theorem dX12_middle_79 : decode cX12_middle 79 = .ok (.iinc 7 (-1), 3) := by decide +kernel
theorem dX12_middle_82 : decode cX12_middle 82 = .ok (.goto (-38), 3) := by decide +kernel
theorem dX12_middle_85 : decode cX12_middle 85 = .ok (.aload_n 0, 1) := by decide +kernel
theorem dX12_middle_86 : decode cX12_middle 86 = .ok (.getfield 127, 3) := by decide +kernel
theorem dX12_middle_89 : decode cX12_middle 89 = .ok (.iload 7, 2) := by decide +kernel
theorem dX12_middle_91 : decode cX12_middle 91 = .ok (.iload 6, 2) := by decide +kernel
theorem dX12_middle_93 : decode cX12_middle 93 = .ok (.iastore, 1) := by decide +kernel
theorem dX12_middle_94 : decode cX12_middle 94 = .ok (.iinc 5 1, 3) := by decide +kernel
theorem dX12_middle_97 : decode cX12_middle 97 = .ok (.goto (-86), 3) := by decide +kernel
theorem dX12_middle_100 : decode cX12_middle 100 = .ok (.iload 4, 2) := by decide +kernel
theorem dX12_middle_102 : decode cX12_middle 102 = .ok (.ifCond .ne 7, 3) := by decide +kernel
theorem dX12_middle_105 : decode cX12_middle 105 = .ok (.iconst (-1), 1) := by decide +kernel
theorem dX12_middle_106 : decode cX12_middle 106 = .ok (.goto 14, 3) := by decide +kernel
theorem dX12_middle_109 : decode cX12_middle 109 = .ok (.aload_n 0, 1) := by decide +kernel
theorem dX12_middle_110 : decode cX12_middle 110 = .ok (.getfield 127, 3) := by decide +kernel
theorem dX12_middle_113 : decode cX12_middle 113 = .ok (.iload 4, 2) := by decide +kernel
theorem dX12_middle_115 : decode cX12_middle 115 = .ok (.iconst 1, 1) := by decide +kernel
theorem dX12_middle_116 : decode cX12_middle 116 = .ok (.isub, 1) := by decide +kernel
theorem dX12_middle_117 : decode cX12_middle 117 = .ok (.iconst 2, 1) := by decide +kernel
theorem dX12_middle_118 : decode cX12_middle 118 = .ok (.idiv, 1) := by decide +kernel
theorem dX12_middle_119 : decode cX12_middle 119 = .ok (.iaload, 1) := by decide +kernel
theorem dX12_middle_120 : decode cX12_middle 120 = .ok (.ireturn, 1) := by decide +kernel
theorem dX12_bribe_0 : decode cX12_bribe 0 = .ok (.aload_n 0, 1) := by decide +kernel
theorem dX12_bribe_1 : decode cX12_bribe 1 = .ok (.iconst 0, 1) := by decide +kernel
theorem dX12_bribe_2 : decode cX12_bribe 2 = .ok (.putfield 166, 3) := by decide +kernel
theorem dX12_bribe_5 : decode cX12_bribe 5 = .ok (.aload_n 0, 1) := by decide +kernel
theorem dX12_bribe_6 : decode cX12_bribe 6 = .ok (.getfield 13, 3) := by decide +kernel
theorem dX12_bribe_9 : decode cX12_bribe 9 = .ok (.iconst 2, 1) := by decide +kernel
theorem dX12_bribe_10 : decode cX12_bribe 10 = .ok (.iaload, 1) := by decide +kernel
theorem dX12_bribe_11 : decode cX12_bribe 11 = .ok (.istore 4, 2) := by decide +kernel
theorem dX12_bribe_13 : decode cX12_bribe 13 = .ok (.aload_n 0, 1) := by decide +kernel
theorem dX12_bribe_14 : decode cX12_bribe 14 = .ok (.iload_n 1, 1) := by decide +kernel
theorem dX12_bribe_15 : decode cX12_bribe 15 = .ok (.invokevirtual 225, 3) := by decide +kernel
theorem dX12_bribe_18 : decode cX12_bribe 18 = .ok (.ifCond .eq 31, 3) := by decide +kernel
theorem dX12_bribe_21 : decode cX12_bribe 21 = .ok (.aload_n 0, 1) := by decide +kernel
theorem dX12_bribe_22 : decode cX12_bribe 22 = .ok (.iload_n 2, 1) := by decide +kernel
theorem dX12_bribe_23 : decode cX12_bribe 23 = .ok (.invokevirtual 225, 3) := by decide +kernel
theorem dX12_bribe_26 : decode cX12_bribe 26 = .ok (.ifCond .eq 23, 3) := by decide +kernel
theorem dX12_bribe_29 : decode cX12_bribe 29 = .ok (.iload_n 1, 1) := by decide +kernel
theorem dX12_bribe_30 : decode cX12_bribe 30 = .ok (.iload_n 2, 1) := by decide +kernel
theorem dX12_bribe_31 : decode cX12_bribe 31 = .ok (.if_icmp .eq 18, 3) := by decide +kernel
theorem dX12_bribe_34 : decode cX12_bribe 34 = .ok (.iload_n 3, 1) := by decide +kernel
theorem dX12_bribe_35 : decode cX12_bribe 35 = .ok (.i2l, 1) := by decide +kernel
theorem dX12_bribe_36 : decode cX12_bribe 36 = .ok (.lconst 0, 1) := by decide +kernel
theorem dX12_bribe_37 : decode cX12_bribe 37 = .ok (.lconst 1, 1) := by decide +kernel
theorem dX12_bribe_38 : decode cX12_bribe 38 = .ok (.invokestatic 179, 3) := by decide +kernel
theorem dX12_bribe_41 : decode cX12_bribe 41 = .ok (.ifCond .eq 8, 3) := by decide +kernel
theorem dX12_bribe_44 : decode cX12_bribe 44 = .ok (.iload 4, 2) := by decide +kernel
theorem dX12_bribe_46 : decode cX12_bribe 46 = .ok (.ifCond .ne 5, 3) := by decide +kernel
theorem dX12_bribe_49 : decode cX12_bribe 49 = .ok (.iconst (-1), 1) := by decide +kernel
theorem dX12_bribe_50 : decode cX12_bribe 50 = .ok (.ireturn, 1) := by decide +kernel
theorem dX12_bribe_51 : decode cX12_bribe 51 = .ok (.aload_n 0, 1) := by decide +kernel
theorem dX12_bribe_52 : decode cX12_bribe 52 = .ok (.iload_n 2, 1) := by decide +kernel
theorem dX12_bribe_53 : decode cX12_bribe 53 = .ok (.iconst 0, 1) := by decide +kernel
theorem dX12_bribe_54 : decode cX12_bribe 54 = .ok (.iconst 0, 1) := by decide +kernel
theorem dX12_bribe_55 : decode cX12_bribe 55 = .ok (.invokevirtual 522, 3) := by decide +kernel
theorem dX12_bribe_58 : decode cX12_bribe 58 = .ok (.iconst 1, 1) := by decide +kernel
theorem dX12_bribe_59 : decode cX12_bribe 59 = .ok (.iadd, 1) := by decide +kernel
theorem dX12_bribe_60 : decode cX12_bribe 60 = .ok (.istore 5, 2) := by decide +kernel
theorem dX12_bribe_62 : decode cX12_bribe 62 = .ok (.ldc_w 515, 3) := by decide +kernel
theorem dX12_bribe_65 : decode cX12_bribe 65 = .ok (.istore 6, 2) := by decide +kernel
theorem dX12_bribe_67 : decode cX12_bribe 67 = .ok (.iconst (-1), 1) := by decide +kernel
theorem dX12_bribe_68 : decode cX12_bribe 68 = .ok (.istore 7, 2) := by decide +kernel
theorem dX12_bribe_70 : decode cX12_bribe 70 = .ok (.iconst 0, 1) := by decide +kernel
theorem dX12_bribe_71 : decode cX12_bribe 71 = .ok (.istore 8, 2) := by decide +kernel
theorem dX12_bribe_73 : decode cX12_bribe 73 = .ok (.iload 8, 2) := by decide +kernel
theorem dX12_bribe_75 : decode cX12_bribe 75 = .ok (.iconst 1, 1) := by decide +kernel
theorem dX12_bribe_76 : decode cX12_bribe 76 = .ok (.iload 4, 2) := by decide +kernel
theorem dX12_bribe_78 : decode cX12_bribe 78 = .ok (.ishl, 1) := by decide +kernel
theorem dX12_bribe_79 : decode cX12_bribe 79 = .ok (.if_icmp .ge 154, 3) := by decide +kernel
theorem dX12_bribe_82 : decode cX12_bribe 82 = .ok (.iconst 0, 1) := by decide +kernel
theorem dX12_bribe_83 : decode cX12_bribe 83 = .ok (.istore 9, 2) := by decide +kernel
theorem dX12_bribe_85 : decode cX12_bribe 85 = .ok (.iload 8, 2) := by decide +kernel
theorem dX12_bribe_87 : decode cX12_bribe 87 = .ok (.ifCond .eq 11, 3) := by decide +kernel
theorem dX12_bribe_90 : decode cX12_bribe 90 = .ok (.iload 5, 2) := by decide +kernel
theorem dX12_bribe_92 : decode cX12_bribe 92 = .ok (.sipush 999, 3) := by decide +kernel
theorem dX12_bribe_95 : decode cX12_bribe 95 = .ok (.if_icmp .gt 7, 3) := by decide +kernel
theorem dX12_bribe_98 : decode cX12_bribe 98 = .ok (.iconst 1, 1) := by decide +kernel
theorem dX12_bribe_99 : decode cX12_bribe 99 = .ok (.goto 4, 3) := by decide +kernel
theorem dX12_bribe_102 : decode cX12_bribe 102 = .ok (.iconst 0, 1) := by decide +kernel
theorem dX12_bribe_103 : decode cX12_bribe 103 = .ok (.istore 10, 2) := by decide +kernel
theorem dX12_bribe_105 : decode cX12_bribe 105 = .ok (.iconst 0, 1) := by decide +kernel
theorem dX12_bribe_106 : decode cX12_bribe 106 = .ok (.istore 11, 2) := by decide +kernel
theorem dX12_bribe_108 : decode cX12_bribe 108 = .ok (.iload 11, 2) := by decide +kernel
theorem dX12_bribe_110 : decode cX12_bribe 110 = .ok (.iload 4, 2) := by decide +kernel
theorem dX12_bribe_112 : decode cX12_bribe 112 = .ok (.if_icmp .ge 81, 3) := by decide +kernel
theorem dX12_bribe_115 : decode cX12_bribe 115 = .ok (.iload 5, 2) := by decide +kernel
theorem dX12_bribe_117 : decode cX12_bribe 117 = .ok (.aload_n 0, 1) := by decide +kernel
theorem dX12_bribe_118 : decode cX12_bribe 118 = .ok (.iload 11, 2) := by decide +kernel
theorem dX12_bribe_120 : decode cX12_bribe 120 = .ok (.iload_n 1, 1) := by decide +kernel
theorem dX12_bribe_121 : decode cX12_bribe 121 = .ok (.invokevirtual 519, 3) := by decide +kernel
theorem dX12_bribe_124 : decode cX12_bribe 124 = .ok (.isub, 1) := by decide +kernel
theorem dX12_bribe_125 : decode cX12_bribe 125 = .ok (.istore 12, 2) := by decide +kernel
theorem dX12_bribe_127 : decode cX12_bribe 127 = .ok (.iload 10, 2) := by decide +kernel
theorem dX12_bribe_129 : decode cX12_bribe 129 = .ok (.ifCond .eq 22, 3) := by decide +kernel
theorem dX12_bribe_132 : decode cX12_bribe 132 = .ok (.iload 8, 2) := by decide +kernel
theorem dX12_bribe_134 : decode cX12_bribe 134 = .ok (.iload 11, 2) := by decide +kernel
theorem dX12_bribe_136 : decode cX12_bribe 136 = .ok (.invokestatic 458, 3) := by decide +kernel
theorem dX12_bribe_139 : decode cX12_bribe 139 = .ok (.ifCond .eq 8, 3) := by decide +kernel
theorem dX12_bribe_142 : decode cX12_bribe 142 = .ok (.iload 12, 2) := by decide +kernel
theorem dX12_bribe_144 : decode cX12_bribe 144 = .ok (.ifCond .le 7, 3) := by decide +kernel
theorem dX12_bribe_147 : decode cX12_bribe 147 = .ok (.iconst 1, 1) := by decide +kernel
theorem dX12_bribe_148 : decode cX12_bribe 148 = .ok (.goto 4, 3) := by decide +kernel
theorem dX12_bribe_151 : decode cX12_bribe 151 = .ok (.iconst 0, 1) := by decide +kernel
theorem dX12_bribe_152 : decode cX12_bribe 152 = .ok (.istore 10, 2) := by decide +kernel
theorem dX12_bribe_154 : decode cX12_bribe 154 = .ok (.iload 9, 2) := by decide +kernel
theorem dX12_bribe_156 : decode cX12_bribe 156 = .ok (.iload 8, 2) := by decide +kernel
theorem dX12_bribe_158 : decode cX12_bribe 158 = .ok (.iload 11, 2) := by decide +kernel
theorem dX12_bribe_160 : decode cX12_bribe 160 = .ok (.invokestatic 458, 3) := by decide +kernel
theorem dX12_bribe_163 : decode cX12_bribe 163 = .ok (.ifCond .eq 20, 3) := by decide +kernel
theorem dX12_bribe_166 : decode cX12_bribe 166 = .ok (.iload 12, 2) := by decide +kernel
theorem dX12_bribe_168 : decode cX12_bribe 168 = .ok (.aload_n 0, 1) := by decide +kernel
theorem dX12_bribe_169 : decode cX12_bribe 169 = .ok (.getfield 13, 3) := by decide +kernel
theorem dX12_bribe_172 : decode cX12_bribe 172 = .ok (.sipush 213, 3) := by decide +kernel
theorem dX12_bribe_175 : decode cX12_bribe 175 = .ok (.iload 11, 2) := by decide +kernel
theorem dX12_bribe_177 : decode cX12_bribe 177 = .ok (.iadd, 1) := by decide +kernel
theorem dX12_bribe_178 : decode cX12_bribe 178 = .ok (.iaload, 1) := by decide +kernel
theorem dX12_bribe_179 : decode cX12_bribe 179 = .ok (.imul, 1) := by decide +kernel
theorem dX12_bribe_180 : decode cX12_bribe 180 = .ok (.goto 4, 3) := by decide +kernel
theorem dX12_bribe_183 : decode cX12_bribe 183 = .ok (.iconst 0, 1) := by decide +kernel
theorem dX12_bribe_184 : decode cX12_bribe 184 = .ok (.iadd, 1) := by decide +kernel
theorem dX12_bribe_185 : decode cX12_bribe 185 = .ok (.istore 9, 2) := by decide +kernel
theorem dX12_bribe_187 : decode cX12_bribe 187 = .ok (.iinc 11 1, 3) := by decide +kernel
theorem dX12_bribe_190 : decode cX12_bribe 190 = .ok (.goto (-82), 3) := by decide +kernel
theorem dX12_bribe_193 : decode cX12_bribe 193 = .ok (.iload 10, 2) := by decide +kernel
theorem dX12_bribe_195 : decode cX12_bribe 195 = .ok (.ifCond .eq 32, 3) := by decide +kernel
theorem dX12_bribe_198 : decode cX12_bribe 198 = .ok (.iload 9, 2) := by decide +kernel
theorem dX12_bribe_200 : decode cX12_bribe 200 = .ok (.iload 6, 2) := by decide +kernel
theorem dX12_bribe_202 : decode cX12_bribe 202 = .ok (.if_icmp .ge 25, 3) := by decide +kernel
theorem dX12_bribe_205 : decode cX12_bribe 205 = .ok (.aload_n 0, 1) := by decide +kernel
theorem dX12_bribe_206 : decode cX12_bribe 206 = .ok (.iload_n 1, 1) := by decide +kernel
theorem dX12_bribe_207 : decode cX12_bribe 207 = .ok (.iload 8, 2) := by decide +kernel
theorem dX12_bribe_209 : decode cX12_bribe 209 = .ok (.iload 5, 2) := by decide +kernel
theorem dX12_bribe_211 : decode cX12_bribe 211 = .ok (.invokevirtual 522, 3) := by decide +kernel
theorem dX12_bribe_214 : decode cX12_bribe 214 = .ok (.iload 5, 2) := by decide +kernel
theorem dX12_bribe_216 : decode cX12_bribe 216 = .ok (.if_icmp .lt 11, 3) := by decide +kernel
theorem dX12_bribe_219 : decode cX12_bribe 219 = .ok (.iload 9, 2) := by decide +kernel
theorem dX12_bribe_221 : decode cX12_bribe 221 = .ok (.istore 6, 2) := by decide +kernel
theorem dX12_bribe_223 : decode cX12_bribe 223 = .ok (.iload 8, 2) := by decide +kernel
theorem dX12_bribe_225 : decode cX12_bribe 225 = .ok (.istore 7, 2) := by decide +kernel
theorem dX12_bribe_227 : decode cX12_bribe 227 = .ok (.iinc 8 1, 3) := by decide +kernel
theorem dX12_bribe_230 : decode cX12_bribe 230 = .ok (.goto (-157), 3) := by decide +kernel
theorem dX12_bribe_233 : decode cX12_bribe 233 = .ok (.iload 7, 2) := by decide +kernel
theorem dX12_bribe_235 : decode cX12_bribe 235 = .ok (.iconst (-1), 1) := by decide +kernel
theorem dX12_bribe_236 : decode cX12_bribe 236 = .ok (.if_icmp .ne 7, 3) := by decide +kernel
theorem dX12_bribe_239 : decode cX12_bribe 239 = .ok (.iconst (-1), 1) := by decide +kernel
theorem dX12_bribe_240 : decode cX12_bribe 240 = .ok (.goto 14, 3) := by decide +kernel
theorem dX12_bribe_243 : decode cX12_bribe 243 = .ok (.iload_n 3, 1) := by decide +kernel
theorem dX12_bribe_244 : decode cX12_bribe 244 = .ok (.ifCond .ne 8, 3) := by decide +kernel
theorem dX12_bribe_247 : decode cX12_bribe 247 = .ok (.iload 6, 2) := by decide +kernel
theorem dX12_bribe_249 : decode cX12_bribe 249 = .ok (.goto 5, 3) := by decide +kernel
theorem dX12_bribe_252 : decode cX12_bribe 252 = .ok (.iload 7, 2) := by decide +kernel
theorem dX12_bribe_254 : decode cX12_bribe 254 = .ok (.ireturn, 1) := by decide +kernel
theorem dX12_canBe_0 : decode cX12_canBe 0 = .ok (.iload_n 1, 1) := by decide +kernel
theorem dX12_canBe_1 : decode cX12_canBe 1 = .ok (.bipush 6, 2) := by decide +kernel
theorem dX12_canBe_3 : decode cX12_canBe 3 = .ok (.idiv, 1) := by decide +kernel
theorem dX12_canBe_4 : decode cX12_canBe 4 = .ok (.istore_n 2, 1) := by decide +kernel
theorem dX12_canBe_5 : decode cX12_canBe 5 = .ok (.iload_n 1, 1) := by decide +kernel
theorem dX12_canBe_6 : decode cX12_canBe 6 = .ok (.bipush 6, 2) := by decide +kernel
theorem dX12_canBe_8 : decode cX12_canBe 8 = .ok (.irem, 1) := by decide +kernel
theorem dX12_canBe_9 : decode cX12_canBe 9 = .ok (.istore_n 3, 1) := by decide +kernel
theorem dX12_canBe_10 : decode cX12_canBe 10 = .ok (.aload_n 0, 1) := by decide +kernel
theorem dX12_canBe_11 : decode cX12_canBe 11 = .ok (.getfield 145, 3) := by decide +kernel
theorem dX12_canBe_14 : decode cX12_canBe 14 = .ok (.iload_n 2, 1) := by decide +kernel
theorem dX12_canBe_15 : decode cX12_canBe 15 = .ok (.iaload, 1) := by decide +kernel
theorem dX12_canBe_16 : decode cX12_canBe 16 = .ok (.istore 4, 2) := by decide +kernel
theorem dX12_canBe_18 : decode cX12_canBe 18 = .ok (.aload_n 0, 1) := by decide +kernel
theorem dX12_canBe_19 : decode cX12_canBe 19 = .ok (.iload_n 3, 1) := by decide +kernel
theorem dX12_canBe_20 : decode cX12_canBe 20 = .ok (.invokevirtual 198, 3) := by decide +kernel
theorem dX12_canBe_23 : decode cX12_canBe 23 = .ok (.ifCond .eq 52, 3) := by decide +kernel
theorem dX12_canBe_26 : decode cX12_canBe 26 = .ok (.iload_n 3, 1) := by decide +kernel
theorem dX12_canBe_27 : decode cX12_canBe 27 = .ok (.iload 4, 2) := by decide +kernel
theorem dX12_canBe_29 : decode cX12_canBe 29 = .ok (.if_icmp .eq 46, 3) := by decide +kernel
theorem dX12_canBe_32 : decode cX12_canBe 32 = .ok (.aload_n 0, 1) := by decide +kernel
theorem dX12_canBe_33 : decode cX12_canBe 33 = .ok (.iload 4, 2) := by decide +kernel
theorem dX12_canBe_35 : decode cX12_canBe 35 = .ok (.iconst 2, 1) := by decide +kernel
theorem dX12_canBe_36 : decode cX12_canBe 36 = .ok (.invokevirtual 204, 3) := by decide +kernel
theorem dX12_canBe_39 : decode cX12_canBe 39 = .ok (.ifCond .ne 36, 3) := by decide +kernel
theorem dX12_canBe_42 : decode cX12_canBe 42 = .ok (.aload_n 0, 1) := by decide +kernel
theorem dX12_canBe_43 : decode cX12_canBe 43 = .ok (.iload_n 3, 1) := by decide +kernel
theorem dX12_canBe_44 : decode cX12_canBe 44 = .ok (.iconst 2, 1) := by decide +kernel
theorem dX12_canBe_45 : decode cX12_canBe 45 = .ok (.invokevirtual 204, 3) := by decide +kernel
theorem dX12_canBe_48 : decode cX12_canBe 48 = .ok (.ifCond .ne 27, 3) := by decide +kernel
theorem dX12_canBe_51 : decode cX12_canBe 51 = .ok (.aload_n 0, 1) := by decide +kernel
theorem dX12_canBe_52 : decode cX12_canBe 52 = .ok (.getfield 142, 3) := by decide +kernel
theorem dX12_canBe_55 : decode cX12_canBe 55 = .ok (.bipush 36, 2) := by decide +kernel
theorem dX12_canBe_57 : decode cX12_canBe 57 = .ok (.iload_n 2, 1) := by decide +kernel
theorem dX12_canBe_58 : decode cX12_canBe 58 = .ok (.imul, 1) := by decide +kernel
theorem dX12_canBe_59 : decode cX12_canBe 59 = .ok (.bipush 6, 2) := by decide +kernel
theorem dX12_canBe_61 : decode cX12_canBe 61 = .ok (.iload 4, 2) := by decide +kernel
theorem dX12_canBe_63 : decode cX12_canBe 63 = .ok (.imul, 1) := by decide +kernel
theorem dX12_canBe_64 : decode cX12_canBe 64 = .ok (.iadd, 1) := by decide +kernel
theorem dX12_canBe_65 : decode cX12_canBe 65 = .ok (.iload_n 3, 1) := by decide +kernel
theorem dX12_canBe_66 : decode cX12_canBe 66 = .ok (.iadd, 1) := by decide +kernel
theorem dX12_canBe_67 : decode cX12_canBe 67 = .ok (.baload, 1) := by decide +kernel
theorem dX12_canBe_68 : decode cX12_canBe 68 = .ok (.ifCond .ne 7, 3) := by decide +kernel
theorem dX12_canBe_71 : decode cX12_canBe 71 = .ok (.iconst 1, 1) := by decide +kernel
theorem dX12_canBe_72 : decode cX12_canBe 72 = .ok (.goto 4, 3) := by decide +kernel
theorem dX12_canBe_75 : decode cX12_canBe 75 = .ok (.iconst 0, 1) := by decide +kernel
theorem dX12_canBe_76 : decode cX12_canBe 76 = .ok (.ireturn, 1) := by decide +kernel
theorem dX12_canGive_0 : decode cX12_canGive 0 = .ok (.iload 4, 2) := by decide +kernel
theorem dX12_canGive_2 : decode cX12_canGive 2 = .ok (.bipush 6, 2) := by decide +kernel
theorem dX12_canGive_4 : decode cX12_canGive 4 = .ok (.idiv, 1) := by decide +kernel
theorem dX12_canGive_5 : decode cX12_canGive 5 = .ok (.iload_n 3, 1) := by decide +kernel
theorem dX12_canGive_6 : decode cX12_canGive 6 = .ok (.if_icmp .ne 48, 3) := by decide +kernel
theorem dX12_canGive_9 : decode cX12_canGive 9 = .ok (.aload_n 0, 1) := by decide +kernel
theorem dX12_canGive_10 : decode cX12_canGive 10 = .ok (.getfield 103, 3) := by decide +kernel
theorem dX12_canGive_13 : decode cX12_canGive 13 = .ok (.iload 4, 2) := by decide +kernel
theorem dX12_canGive_15 : decode cX12_canGive 15 = .ok (.iaload, 1) := by decide +kernel
theorem dX12_canGive_16 : decode cX12_canGive 16 = .ok (.iconst (-1), 1) := by decide +kernel
theorem dX12_canGive_17 : decode cX12_canGive 17 = .ok (.if_icmp .eq 37, 3) := by decide +kernel
theorem dX12_canGive_20 : decode cX12_canGive 20 = .ok (.iload_n 1, 1) := by decide +kernel
theorem dX12_canGive_21 : decode cX12_canGive 21 = .ok (.iload 4, 2) := by decide +kernel
theorem dX12_canGive_23 : decode cX12_canGive 23 = .ok (.invokestatic 458, 3) := by decide +kernel
theorem dX12_canGive_26 : decode cX12_canGive 26 = .ok (.ifCond .ne 28, 3) := by decide +kernel
theorem dX12_canGive_29 : decode cX12_canGive 29 = .ok (.iload_n 2, 1) := by decide +kernel
theorem dX12_canGive_30 : decode cX12_canGive 30 = .ok (.iconst (-1), 1) := by decide +kernel
theorem dX12_canGive_31 : decode cX12_canGive 31 = .ok (.if_icmp .eq 19, 3) := by decide +kernel
theorem dX12_canGive_34 : decode cX12_canGive 34 = .ok (.aload_n 0, 1) := by decide +kernel
theorem dX12_canGive_35 : decode cX12_canGive 35 = .ok (.getfield 106, 3) := by decide +kernel
theorem dX12_canGive_38 : decode cX12_canGive 38 = .ok (.iload 4, 2) := by decide +kernel
theorem dX12_canGive_40 : decode cX12_canGive 40 = .ok (.iaload, 1) := by decide +kernel
theorem dX12_canGive_41 : decode cX12_canGive 41 = .ok (.aload_n 0, 1) := by decide +kernel
theorem dX12_canGive_42 : decode cX12_canGive 42 = .ok (.getfield 106, 3) := by decide +kernel
theorem dX12_canGive_45 : decode cX12_canGive 45 = .ok (.iload_n 2, 1) := by decide +kernel
theorem dX12_canGive_46 : decode cX12_canGive 46 = .ok (.iaload, 1) := by decide +kernel
theorem dX12_canGive_47 : decode cX12_canGive 47 = .ok (.if_icmp .le 7, 3) := by decide +kernel
theorem dX12_canGive_50 : decode cX12_canGive 50 = .ok (.iconst 1, 1) := by decide +kernel
theorem dX12_canGive_51 : decode cX12_canGive 51 = .ok (.goto 4, 3) := by decide +kernel
theorem dX12_canGive_54 : decode cX12_canGive 54 = .ok (.iconst 0, 1) := by decide +kernel
theorem dX12_canGive_55 : decode cX12_canGive 55 = .ok (.ireturn, 1) := by decide +kernel
theorem dX12_count_0 : decode cX12_count 0 = .ok (.aload_n 0, 1) := by decide +kernel
theorem dX12_count_1 : decode cX12_count 1 = .ok (.iconst 0, 1) := by decide +kernel
theorem dX12_count_2 : decode cX12_count 2 = .ok (.putfield 166, 3) := by decide +kernel
theorem dX12_count_5 : decode cX12_count 5 = .ok (.iload_n 1, 1) := by decide +kernel
theorem dX12_count_6 : decode cX12_count 6 = .ok (.tableswitch 163 0 13 #[70, 77, 84, 91, 98, 105, 110, 115, 120, 127, 134, 141, 148, 156], 70) := by decide +kernel
theorem dX12_count_76 : decode cX12_count 76 = .ok (.aload_n 0, 1) := by decide +kernel
theorem dX12_count_77 : decode cX12_count 77 = .ok (.getfield 13, 3) := by decide +kernel
theorem dX12_count_80 : decode cX12_count 80 = .ok (.iconst 0, 1) := by decide +kernel
theorem dX12_count_81 : decode cX12_count 81 = .ok (.iaload, 1) := by decide +kernel
theorem dX12_count_82 : decode cX12_count 82 = .ok (.ireturn, 1) := by decide +kernel
theorem dX12_count_83 : decode cX12_count 83 = .ok (.aload_n 0, 1) := by decide +kernel
theorem dX12_count_84 : decode cX12_count 84 = .ok (.getfield 13, 3) := by decide +kernel
theorem dX12_count_87 : decode cX12_count 87 = .ok (.iconst 1, 1) := by decide +kernel
theorem dX12_count_88 : decode cX12_count 88 = .ok (.iaload, 1) := by decide +kernel
theorem dX12_count_89 : decode cX12_count 89 = .ok (.ireturn, 1) := by decide +kernel
