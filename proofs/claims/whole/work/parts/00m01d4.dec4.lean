theorem dX12_readSum_6 : decode cX12_readSum 6 = .ok (.getfield 288, 3) := by decide +kernel
theorem dX12_readSum_9 : decode cX12_readSum 9 = .ok (.iastore, 1) := by decide +kernel
theorem dX12_readSum_10 : decode cX12_readSum 10 = .ok (.aload_n 0, 1) := by decide +kernel
theorem dX12_readSum_11 : decode cX12_readSum 11 = .ok (.getfield 249, 3) := by decide +kernel
theorem dX12_readSum_14 : decode cX12_readSum 14 = .ok (.ifCond .ne 8, 3) := by decide +kernel
theorem dX12_readSum_17 : decode cX12_readSum 17 = .ok (.aload_n 0, 1) := by decide +kernel
theorem dX12_readSum_18 : decode cX12_readSum 18 = .ok (.iconst 0, 1) := by decide +kernel
theorem dX12_readSum_19 : decode cX12_readSum 19 = .ok (.invokevirtual 388, 3) := by decide +kernel
theorem dX12_readSum_22 : decode cX12_readSum 22 = .ok (.aload_n 0, 1) := by decide +kernel
theorem dX12_readSum_23 : decode cX12_readSum 23 = .ok (.getfield 157, 3) := by decide +kernel
theorem dX12_readSum_26 : decode cX12_readSum 26 = .ok (.iload_n 1, 1) := by decide +kernel
theorem dX12_readSum_27 : decode cX12_readSum 27 = .ok (.iconst 1, 1) := by decide +kernel
theorem dX12_readSum_28 : decode cX12_readSum 28 = .ok (.iadd, 1) := by decide +kernel
theorem dX12_readSum_29 : decode cX12_readSum 29 = .ok (.aload_n 0, 1) := by decide +kernel
theorem dX12_readSum_30 : decode cX12_readSum 30 = .ok (.getfield 288, 3) := by decide +kernel
theorem dX12_readSum_33 : decode cX12_readSum 33 = .ok (.iastore, 1) := by decide +kernel
theorem dX12_readSum_34 : decode cX12_readSum 34 = .ok (.return_, 1) := by decide +kernel
theorem dX12_readOrder_0 : decode cX12_readOrder 0 = .ok (.aload_n 0, 1) := by decide +kernel
theorem dX12_readOrder_1 : decode cX12_readOrder 1 = .ok (.ldc2_w 583, 3) := by decide +kernel
theorem dX12_readOrder_4 : decode cX12_readOrder 4 = .ok (.invokevirtual 307, 3) := by decide +kernel
theorem dX12_readOrder_7 : decode cX12_readOrder 7 = .ok (.ifCond .eq 7, 3) := by decide +kernel
theorem dX12_readOrder_10 : decode cX12_readOrder 10 = .ok (.iconst 0, 1) := by decide +kernel
theorem dX12_readOrder_11 : decode cX12_readOrder 11 = .ok (.goto 18, 3) := by decide +kernel
theorem dX12_readOrder_14 : decode cX12_readOrder 14 = .ok (.aload_n 0, 1) := by decide +kernel
theorem dX12_readOrder_15 : decode cX12_readOrder 15 = .ok (.ldc2_w 585, 3) := by decide +kernel
theorem dX12_readOrder_18 : decode cX12_readOrder 18 = .ok (.invokevirtual 307, 3) := by decide +kernel
theorem dX12_readOrder_21 : decode cX12_readOrder 21 = .ok (.ifCond .eq 7, 3) := by decide +kernel
theorem dX12_readOrder_24 : decode cX12_readOrder 24 = .ok (.iconst 1, 1) := by decide +kernel
theorem dX12_readOrder_25 : decode cX12_readOrder 25 = .ok (.goto 4, 3) := by decide +kernel
theorem dX12_readOrder_28 : decode cX12_readOrder 28 = .ok (.iconst (-1), 1) := by decide +kernel
theorem dX12_readOrder_29 : decode cX12_readOrder 29 = .ok (.istore_n 1, 1) := by decide +kernel
theorem dX12_readOrder_30 : decode cX12_readOrder 30 = .ok (.aload_n 0, 1) := by decide +kernel
theorem dX12_readOrder_31 : decode cX12_readOrder 31 = .ok (.iload_n 1, 1) := by decide +kernel
theorem dX12_readOrder_32 : decode cX12_readOrder 32 = .ok (.iconst (-1), 1) := by decide +kernel
theorem dX12_readOrder_33 : decode cX12_readOrder 33 = .ok (.if_icmp .eq 16, 3) := by decide +kernel
theorem dX12_readOrder_36 : decode cX12_readOrder 36 = .ok (.aload_n 0, 1) := by decide +kernel
theorem dX12_readOrder_37 : decode cX12_readOrder 37 = .ok (.getfield 379, 3) := by decide +kernel
theorem dX12_readOrder_40 : decode cX12_readOrder 40 = .ok (.bipush 12, 2) := by decide +kernel
theorem dX12_readOrder_42 : decode cX12_readOrder 42 = .ok (.if_icmp .ge 7, 3) := by decide +kernel
theorem dX12_readOrder_45 : decode cX12_readOrder 45 = .ok (.iconst 1, 1) := by decide +kernel
theorem dX12_readOrder_46 : decode cX12_readOrder 46 = .ok (.goto 4, 3) := by decide +kernel
theorem dX12_readOrder_49 : decode cX12_readOrder 49 = .ok (.iconst 0, 1) := by decide +kernel
theorem dX12_readOrder_50 : decode cX12_readOrder 50 = .ok (.invokevirtual 284, 3) := by decide +kernel
theorem dX12_readOrder_53 : decode cX12_readOrder 53 = .ok (.aload_n 0, 1) := by decide +kernel
theorem dX12_readOrder_54 : decode cX12_readOrder 54 = .ok (.getfield 249, 3) := by decide +kernel
theorem dX12_readOrder_57 : decode cX12_readOrder 57 = .ok (.ifCond .eq 4, 3) := by decide +kernel
theorem dX12_readOrder_60 : decode cX12_readOrder 60 = .ok (.return_, 1) := by decide +kernel
theorem dX12_readOrder_61 : decode cX12_readOrder 61 = .ok (.bipush 8, 2) := by decide +kernel
theorem dX12_readOrder_63 : decode cX12_readOrder 63 = .ok (.aload_n 0, 1) := by decide +kernel
theorem dX12_readOrder_64 : decode cX12_readOrder 64 = .ok (.getfield 379, 3) := by decide +kernel
theorem dX12_readOrder_67 : decode cX12_readOrder 67 = .ok (.imul, 1) := by decide +kernel
theorem dX12_readOrder_68 : decode cX12_readOrder 68 = .ok (.istore_n 2, 1) := by decide +kernel
theorem dX12_readOrder_69 : decode cX12_readOrder 69 = .ok (.aload_n 0, 1) := by decide +kernel
theorem dX12_readOrder_70 : decode cX12_readOrder 70 = .ok (.dup, 1) := by decide +kernel
theorem dX12_readOrder_71 : decode cX12_readOrder 71 = .ok (.getfield 379, 3) := by decide +kernel
theorem dX12_readOrder_74 : decode cX12_readOrder 74 = .ok (.iconst 1, 1) := by decide +kernel
theorem dX12_readOrder_75 : decode cX12_readOrder 75 = .ok (.iadd, 1) := by decide +kernel
theorem dX12_readOrder_76 : decode cX12_readOrder 76 = .ok (.putfield 379, 3) := by decide +kernel
theorem dX12_readOrder_79 : decode cX12_readOrder 79 = .ok (.aload_n 0, 1) := by decide +kernel
theorem dX12_readOrder_80 : decode cX12_readOrder 80 = .ok (.getfield 157, 3) := by decide +kernel
theorem dX12_readOrder_83 : decode cX12_readOrder 83 = .ok (.iload_n 2, 1) := by decide +kernel
theorem dX12_readOrder_84 : decode cX12_readOrder 84 = .ok (.iload_n 1, 1) := by decide +kernel
theorem dX12_readOrder_85 : decode cX12_readOrder 85 = .ok (.iastore, 1) := by decide +kernel
theorem dX12_readOrder_86 : decode cX12_readOrder 86 = .ok (.iload_n 1, 1) := by decide +kernel
theorem dX12_readOrder_87 : decode cX12_readOrder 87 = .ok (.ifCond .ne 35, 3) := by decide +kernel
theorem dX12_readOrder_90 : decode cX12_readOrder 90 = .ok (.aload_n 0, 1) := by decide +kernel
theorem dX12_readOrder_91 : decode cX12_readOrder 91 = .ok (.iload_n 2, 1) := by decide +kernel
theorem dX12_readOrder_92 : decode cX12_readOrder 92 = .ok (.iconst 1, 1) := by decide +kernel
theorem dX12_readOrder_93 : decode cX12_readOrder 93 = .ok (.iadd, 1) := by decide +kernel
theorem dX12_readOrder_94 : decode cX12_readOrder 94 = .ok (.invokevirtual 587, 3) := by decide +kernel
theorem dX12_readOrder_97 : decode cX12_readOrder 97 = .ok (.aload_n 0, 1) := by decide +kernel
theorem dX12_readOrder_98 : decode cX12_readOrder 98 = .ok (.getfield 249, 3) := by decide +kernel
theorem dX12_readOrder_101 : decode cX12_readOrder 101 = .ok (.ifCond .ne 14, 3) := by decide +kernel
theorem dX12_readOrder_104 : decode cX12_readOrder 104 = .ok (.aload_n 0, 1) := by decide +kernel
theorem dX12_readOrder_105 : decode cX12_readOrder 105 = .ok (.aload_n 0, 1) := by decide +kernel
theorem dX12_readOrder_106 : decode cX12_readOrder 106 = .ok (.ldc2_w 67, 3) := by decide +kernel
theorem dX12_readOrder_109 : decode cX12_readOrder 109 = .ok (.invokevirtual 307, 3) := by decide +kernel
theorem dX12_readOrder_112 : decode cX12_readOrder 112 = .ok (.invokevirtual 284, 3) := by decide +kernel
theorem dX12_readOrder_115 : decode cX12_readOrder 115 = .ok (.aload_n 0, 1) := by decide +kernel
theorem dX12_readOrder_116 : decode cX12_readOrder 116 = .ok (.iload_n 2, 1) := by decide +kernel
theorem dX12_readOrder_117 : decode cX12_readOrder 117 = .ok (.iconst 3, 1) := by decide +kernel
theorem dX12_readOrder_118 : decode cX12_readOrder 118 = .ok (.iadd, 1) := by decide +kernel
theorem dX12_readOrder_119 : decode cX12_readOrder 119 = .ok (.invokevirtual 587, 3) := by decide +kernel
theorem dX12_readOrder_122 : decode cX12_readOrder 122 = .ok (.aload_n 0, 1) := by decide +kernel
theorem dX12_readOrder_123 : decode cX12_readOrder 123 = .ok (.getfield 157, 3) := by decide +kernel
theorem dX12_readOrder_126 : decode cX12_readOrder 126 = .ok (.iload_n 2, 1) := by decide +kernel
theorem dX12_readOrder_127 : decode cX12_readOrder 127 = .ok (.bipush 7, 2) := by decide +kernel
theorem dX12_readOrder_129 : decode cX12_readOrder 129 = .ok (.iadd, 1) := by decide +kernel
theorem dX12_readOrder_130 : decode cX12_readOrder 130 = .ok (.iconst 1, 1) := by decide +kernel
theorem dX12_readOrder_131 : decode cX12_readOrder 131 = .ok (.iastore, 1) := by decide +kernel
theorem dX12_readOrder_132 : decode cX12_readOrder 132 = .ok (.aload_n 0, 1) := by decide +kernel
theorem dX12_readOrder_133 : decode cX12_readOrder 133 = .ok (.getfield 249, 3) := by decide +kernel
theorem dX12_readOrder_136 : decode cX12_readOrder 136 = .ok (.ifCond .ne 34, 3) := by decide +kernel
theorem dX12_readOrder_139 : decode cX12_readOrder 139 = .ok (.aload_n 0, 1) := by decide +kernel
theorem dX12_readOrder_140 : decode cX12_readOrder 140 = .ok (.ldc2_w 590, 3) := by decide +kernel
theorem dX12_readOrder_143 : decode cX12_readOrder 143 = .ok (.invokevirtual 307, 3) := by decide +kernel
theorem dX12_readOrder_146 : decode cX12_readOrder 146 = .ok (.ifCond .eq 24, 3) := by decide +kernel
theorem dX12_readOrder_149 : decode cX12_readOrder 149 = .ok (.aload_n 0, 1) := by decide +kernel
theorem dX12_readOrder_150 : decode cX12_readOrder 150 = .ok (.invokevirtual 253, 3) := by decide +kernel
theorem dX12_readOrder_153 : decode cX12_readOrder 153 = .ok (.aload_n 0, 1) := by decide +kernel
theorem dX12_readOrder_154 : decode cX12_readOrder 154 = .ok (.getfield 157, 3) := by decide +kernel
theorem dX12_readOrder_157 : decode cX12_readOrder 157 = .ok (.iload_n 2, 1) := by decide +kernel
theorem dX12_readOrder_158 : decode cX12_readOrder 158 = .ok (.bipush 7, 2) := by decide +kernel
theorem dX12_readOrder_160 : decode cX12_readOrder 160 = .ok (.iadd, 1) := by decide +kernel
theorem dX12_readOrder_161 : decode cX12_readOrder 161 = .ok (.aload_n 0, 1) := by decide +kernel
theorem dX12_readOrder_162 : decode cX12_readOrder 162 = .ok (.lconst 1, 1) := by decide +kernel
theorem dX12_readOrder_163 : decode cX12_readOrder 163 = .ok (.ldc2_w 220, 3) := by decide +kernel
theorem dX12_readOrder_166 : decode cX12_readOrder 166 = .ok (.invokevirtual 343, 3) := by decide +kernel
theorem dX12_readOrder_169 : decode cX12_readOrder 169 = .ok (.iastore, 1) := by decide +kernel
theorem dX12_readOrder_170 : decode cX12_readOrder 170 = .ok (.aload_n 0, 1) := by decide +kernel
theorem dX12_readOrder_171 : decode cX12_readOrder 171 = .ok (.getfield 157, 3) := by decide +kernel
theorem dX12_readOrder_174 : decode cX12_readOrder 174 = .ok (.iload_n 2, 1) := by decide +kernel
theorem dX12_readOrder_175 : decode cX12_readOrder 175 = .ok (.iconst 5, 1) := by decide +kernel
theorem dX12_readOrder_176 : decode cX12_readOrder 176 = .ok (.iadd, 1) := by decide +kernel
theorem dX12_readOrder_177 : decode cX12_readOrder 177 = .ok (.aload_n 0, 1) := by decide +kernel
theorem dX12_readOrder_178 : decode cX12_readOrder 178 = .ok (.getfield 288, 3) := by decide +kernel
theorem dX12_readOrder_181 : decode cX12_readOrder 181 = .ok (.iastore, 1) := by decide +kernel
theorem dX12_readOrder_182 : decode cX12_readOrder 182 = .ok (.aload_n 0, 1) := by decide +kernel
theorem dX12_readOrder_183 : decode cX12_readOrder 183 = .ok (.getfield 249, 3) := by decide +kernel
theorem dX12_readOrder_186 : decode cX12_readOrder 186 = .ok (.ifCond .ne 22, 3) := by decide +kernel
theorem dX12_readOrder_189 : decode cX12_readOrder 189 = .ok (.aload_n 0, 1) := by decide +kernel
theorem dX12_readOrder_190 : decode cX12_readOrder 190 = .ok (.ldc2_w 391, 3) := by decide +kernel
theorem dX12_readOrder_193 : decode cX12_readOrder 193 = .ok (.invokevirtual 307, 3) := by decide +kernel
theorem dX12_readOrder_196 : decode cX12_readOrder 196 = .ok (.ifCond .eq 12, 3) := by decide +kernel
theorem dX12_readOrder_199 : decode cX12_readOrder 199 = .ok (.aload_n 0, 1) := by decide +kernel
theorem dX12_readOrder_200 : decode cX12_readOrder 200 = .ok (.invokevirtual 253, 3) := by decide +kernel
theorem dX12_readOrder_203 : decode cX12_readOrder 203 = .ok (.aload_n 0, 1) := by decide +kernel
theorem dX12_readOrder_204 : decode cX12_readOrder 204 = .ok (.iconst 1, 1) := by decide +kernel
theorem dX12_readOrder_205 : decode cX12_readOrder 205 = .ok (.invokevirtual 388, 3) := by decide +kernel
theorem dX12_readOrder_208 : decode cX12_readOrder 208 = .ok (.aload_n 0, 1) := by decide +kernel
theorem dX12_readOrder_209 : decode cX12_readOrder 209 = .ok (.getfield 157, 3) := by decide +kernel
theorem dX12_readOrder_212 : decode cX12_readOrder 212 = .ok (.iload_n 2, 1) := by decide +kernel
theorem dX12_readOrder_213 : decode cX12_readOrder 213 = .ok (.bipush 6, 2) := by decide +kernel
theorem dX12_readOrder_215 : decode cX12_readOrder 215 = .ok (.iadd, 1) := by decide +kernel
theorem dX12_readOrder_216 : decode cX12_readOrder 216 = .ok (.aload_n 0, 1) := by decide +kernel
theorem dX12_readOrder_217 : decode cX12_readOrder 217 = .ok (.getfield 288, 3) := by decide +kernel
theorem dX12_readOrder_220 : decode cX12_readOrder 220 = .ok (.iastore, 1) := by decide +kernel
theorem dX12_readOrder_221 : decode cX12_readOrder 221 = .ok (.return_, 1) := by decide +kernel
theorem dX12_sumOf_0 : decode cX12_sumOf 0 = .ok (.aload_n 0, 1) := by decide +kernel
theorem dX12_sumOf_1 : decode cX12_sumOf 1 = .ok (.getfield 592, 3) := by decide +kernel
theorem dX12_sumOf_4 : decode cX12_sumOf 4 = .ok (.ifCond .eq 5, 3) := by decide +kernel
theorem dX12_sumOf_7 : decode cX12_sumOf 7 = .ok (.lconst 0, 1) := by decide +kernel
theorem dX12_sumOf_8 : decode cX12_sumOf 8 = .ok (.lreturn, 1) := by decide +kernel
theorem dX12_sumOf_9 : decode cX12_sumOf 9 = .ok (.aload_n 0, 1) := by decide +kernel
theorem dX12_sumOf_10 : decode cX12_sumOf 10 = .ok (.iconst 1, 1) := by decide +kernel
theorem dX12_sumOf_11 : decode cX12_sumOf 11 = .ok (.putfield 326, 3) := by decide +kernel
theorem dX12_sumOf_14 : decode cX12_sumOf 14 = .ok (.aload_n 0, 1) := by decide +kernel
theorem dX12_sumOf_15 : decode cX12_sumOf 15 = .ok (.aload_n 0, 1) := by decide +kernel
theorem dX12_sumOf_16 : decode cX12_sumOf 16 = .ok (.getfield 157, 3) := by decide +kernel
theorem dX12_sumOf_19 : decode cX12_sumOf 19 = .ok (.iload_n 1, 1) := by decide +kernel
theorem dX12_sumOf_20 : decode cX12_sumOf 20 = .ok (.iaload, 1) := by decide +kernel
theorem dX12_sumOf_21 : decode cX12_sumOf 21 = .ok (.aload_n 0, 1) := by decide +kernel
theorem dX12_sumOf_22 : decode cX12_sumOf 22 = .ok (.getfield 157, 3) := by decide +kernel
theorem dX12_sumOf_25 : decode cX12_sumOf 25 = .ok (.iload_n 1, 1) := by decide +kernel
theorem dX12_sumOf_26 : decode cX12_sumOf 26 = .ok (.iconst 1, 1) := by decide +kernel
theorem dX12_sumOf_27 : decode cX12_sumOf 27 = .ok (.iadd, 1) := by decide +kernel
theorem dX12_sumOf_28 : decode cX12_sumOf 28 = .ok (.iaload, 1) := by decide +kernel
theorem dX12_sumOf_29 : decode cX12_sumOf 29 = .ok (.invokevirtual 426, 3) := by decide +kernel
theorem dX12_sumOf_32 : decode cX12_sumOf 32 = .ok (.aload_n 0, 1) := by decide +kernel
theorem dX12_sumOf_33 : decode cX12_sumOf 33 = .ok (.iconst 0, 1) := by decide +kernel
theorem dX12_sumOf_34 : decode cX12_sumOf 34 = .ok (.putfield 326, 3) := by decide +kernel
theorem dX12_sumOf_37 : decode cX12_sumOf 37 = .ok (.aload_n 0, 1) := by decide +kernel
theorem dX12_sumOf_38 : decode cX12_sumOf 38 = .ok (.aload_n 0, 1) := by decide +kernel
theorem dX12_sumOf_39 : decode cX12_sumOf 39 = .ok (.getfield 402, 3) := by decide +kernel
theorem dX12_sumOf_42 : decode cX12_sumOf 42 = .ok (.putfield 592, 3) := by decide +kernel
theorem dX12_sumOf_45 : decode cX12_sumOf 45 = .ok (.aload_n 0, 1) := by decide +kernel
theorem dX12_sumOf_46 : decode cX12_sumOf 46 = .ok (.getfield 420, 3) := by decide +kernel
theorem dX12_sumOf_49 : decode cX12_sumOf 49 = .ok (.lreturn, 1) := by decide +kernel
theorem dX12_run_0 : decode cX12_run 0 = .ok (.aload_n 0, 1) := by decide +kernel
theorem dX12_run_1 : decode cX12_run 1 = .ok (.getfield 97, 3) := by decide +kernel
theorem dX12_run_4 : decode cX12_run 4 = .ok (.iconst 1, 1) := by decide +kernel
theorem dX12_run_5 : decode cX12_run 5 = .ok (.aload_n 0, 1) := by decide +kernel
theorem dX12_run_6 : decode cX12_run 6 = .ok (.invokevirtual 210, 3) := by decide +kernel
theorem dX12_run_9 : decode cX12_run 9 = .ok (.i2l, 1) := by decide +kernel
theorem dX12_run_10 : decode cX12_run 10 = .ok (.lastore, 1) := by decide +kernel
theorem dX12_run_11 : decode cX12_run 11 = .ok (.aload_n 0, 1) := by decide +kernel
theorem dX12_run_12 : decode cX12_run 12 = .ok (.getfield 97, 3) := by decide +kernel
theorem dX12_run_15 : decode cX12_run 15 = .ok (.iconst 2, 1) := by decide +kernel
theorem dX12_run_16 : decode cX12_run 16 = .ok (.aload_n 0, 1) := by decide +kernel
theorem dX12_run_17 : decode cX12_run 17 = .ok (.getfield 13, 3) := by decide +kernel
theorem dX12_run_20 : decode cX12_run 20 = .ok (.iconst 1, 1) := by decide +kernel
theorem dX12_run_21 : decode cX12_run 21 = .ok (.iaload, 1) := by decide +kernel
theorem dX12_run_22 : decode cX12_run 22 = .ok (.i2l, 1) := by decide +kernel
theorem dX12_run_23 : decode cX12_run 23 = .ok (.lastore, 1) := by decide +kernel
theorem dX12_run_24 : decode cX12_run 24 = .ok (.aload_n 0, 1) := by decide +kernel
theorem dX12_run_25 : decode cX12_run 25 = .ok (.getfield 97, 3) := by decide +kernel
theorem dX12_run_28 : decode cX12_run 28 = .ok (.iconst 3, 1) := by decide +kernel
theorem dX12_run_29 : decode cX12_run 29 = .ok (.aload_n 0, 1) := by decide +kernel
theorem dX12_run_30 : decode cX12_run 30 = .ok (.getfield 595, 3) := by decide +kernel
theorem dX12_run_33 : decode cX12_run 33 = .ok (.i2l, 1) := by decide +kernel
theorem dX12_run_34 : decode cX12_run 34 = .ok (.lastore, 1) := by decide +kernel
theorem dX12_run_35 : decode cX12_run 35 = .ok (.aload_n 0, 1) := by decide +kernel
theorem dX12_run_36 : decode cX12_run 36 = .ok (.getfield 97, 3) := by decide +kernel
theorem dX12_run_39 : decode cX12_run 39 = .ok (.iconst 4, 1) := by decide +kernel
theorem dX12_run_40 : decode cX12_run 40 = .ok (.aload_n 0, 1) := by decide +kernel
theorem dX12_run_41 : decode cX12_run 41 = .ok (.getfield 598, 3) := by decide +kernel
theorem dX12_run_44 : decode cX12_run 44 = .ok (.i2l, 1) := by decide +kernel
theorem dX12_run_45 : decode cX12_run 45 = .ok (.lastore, 1) := by decide +kernel
theorem dX12_run_46 : decode cX12_run 46 = .ok (.aload_n 0, 1) := by decide +kernel
theorem dX12_run_47 : decode cX12_run 47 = .ok (.iconst 0, 1) := by decide +kernel
theorem dX12_run_48 : decode cX12_run 48 = .ok (.putfield 592, 3) := by decide +kernel
theorem dX12_run_51 : decode cX12_run 51 = .ok (.aload_n 0, 1) := by decide +kernel
theorem dX12_run_52 : decode cX12_run 52 = .ok (.getfield 157, 3) := by decide +kernel
theorem dX12_run_55 : decode cX12_run 55 = .ok (.iload_n 1, 1) := by decide +kernel
theorem dX12_run_56 : decode cX12_run 56 = .ok (.iconst 5, 1) := by decide +kernel
theorem dX12_run_57 : decode cX12_run 57 = .ok (.iadd, 1) := by decide +kernel
theorem dX12_run_58 : decode cX12_run 58 = .ok (.iaload, 1) := by decide +kernel
theorem dX12_run_59 : decode cX12_run 59 = .ok (.aload_n 0, 1) := by decide +kernel
theorem dX12_run_60 : decode cX12_run 60 = .ok (.getfield 157, 3) := by decide +kernel
theorem dX12_run_63 : decode cX12_run 63 = .ok (.iload_n 1, 1) := by decide +kernel
theorem dX12_run_64 : decode cX12_run 64 = .ok (.bipush 6, 2) := by decide +kernel
theorem dX12_run_66 : decode cX12_run 66 = .ok (.iadd, 1) := by decide +kernel
theorem dX12_run_67 : decode cX12_run 67 = .ok (.iaload, 1) := by decide +kernel
theorem dX12_run_68 : decode cX12_run 68 = .ok (.if_icmp .ge 26, 3) := by decide +kernel
theorem dX12_run_71 : decode cX12_run 71 = .ok (.aload_n 0, 1) := by decide +kernel
theorem dX12_run_72 : decode cX12_run 72 = .ok (.iload_n 1, 1) := by decide +kernel
theorem dX12_run_73 : decode cX12_run 73 = .ok (.iconst 5, 1) := by decide +kernel
theorem dX12_run_74 : decode cX12_run 74 = .ok (.iadd, 1) := by decide +kernel
theorem dX12_run_75 : decode cX12_run 75 = .ok (.invokevirtual 601, 3) := by decide +kernel
theorem dX12_run_78 : decode cX12_run 78 = .ok (.lstore_n 2, 1) := by decide +kernel
theorem dX12_run_79 : decode cX12_run 79 = .ok (.aload_n 0, 1) := by decide +kernel
theorem dX12_run_80 : decode cX12_run 80 = .ok (.getfield 592, 3) := by decide +kernel
theorem dX12_run_83 : decode cX12_run 83 = .ok (.ifCond .ne 9, 3) := by decide +kernel
theorem dX12_run_86 : decode cX12_run 86 = .ok (.lload_n 2, 1) := by decide +kernel
theorem dX12_run_87 : decode cX12_run 87 = .ok (.lconst 0, 1) := by decide +kernel
theorem dX12_run_88 : decode cX12_run 88 = .ok (.lcmp, 1) := by decide +kernel
theorem dX12_run_89 : decode cX12_run 89 = .ok (.ifCond .ne 5, 3) := by decide +kernel
theorem dX12_run_92 : decode cX12_run 92 = .ok (.iconst 0, 1) := by decide +kernel
theorem dX12_run_93 : decode cX12_run 93 = .ok (.ireturn, 1) := by decide +kernel
theorem dX12_run_94 : decode cX12_run 94 = .ok (.aload_n 0, 1) := by decide +kernel
theorem dX12_run_95 : decode cX12_run 95 = .ok (.getfield 157, 3) := by decide +kernel
theorem dX12_run_98 : decode cX12_run 98 = .ok (.iload_n 1, 1) := by decide +kernel
theorem dX12_run_99 : decode cX12_run 99 = .ok (.iaload, 1) := by decide +kernel
theorem dX12_run_100 : decode cX12_run 100 = .ok (.iconst 1, 1) := by decide +kernel
theorem dX12_run_101 : decode cX12_run 101 = .ok (.if_icmp .ne 13, 3) := by decide +kernel
theorem dX12_run_104 : decode cX12_run 104 = .ok (.aload_n 0, 1) := by decide +kernel
theorem dX12_run_105 : decode cX12_run 105 = .ok (.invokevirtual 480, 3) := by decide +kernel
theorem dX12_run_108 : decode cX12_run 108 = .ok (.ifCond .ge 93, 3) := by decide +kernel
theorem dX12_run_111 : decode cX12_run 111 = .ok (.bipush (-3), 2) := by decide +kernel
theorem dX12_run_113 : decode cX12_run 113 = .ok (.ireturn, 1) := by decide +kernel
theorem dX12_run_114 : decode cX12_run 114 = .ok (.aload_n 0, 1) := by decide +kernel
theorem dX12_run_115 : decode cX12_run 115 = .ok (.iload_n 1, 1) := by decide +kernel
theorem dX12_run_116 : decode cX12_run 116 = .ok (.iconst 1, 1) := by decide +kernel
theorem dX12_run_117 : decode cX12_run 117 = .ok (.iadd, 1) := by decide +kernel
theorem dX12_run_118 : decode cX12_run 118 = .ok (.invokevirtual 601, 3) := by decide +kernel
theorem dX12_run_121 : decode cX12_run 121 = .ok (.lstore_n 2, 1) := by decide +kernel
theorem dX12_run_122 : decode cX12_run 122 = .ok (.aload_n 0, 1) := by decide +kernel
theorem dX12_run_123 : decode cX12_run 123 = .ok (.iload_n 1, 1) := by decide +kernel
theorem dX12_run_124 : decode cX12_run 124 = .ok (.iconst 3, 1) := by decide +kernel
theorem dX12_run_125 : decode cX12_run 125 = .ok (.iadd, 1) := by decide +kernel
theorem dX12_run_126 : decode cX12_run 126 = .ok (.invokevirtual 601, 3) := by decide +kernel
theorem dX12_run_129 : decode cX12_run 129 = .ok (.lstore 4, 2) := by decide +kernel
theorem dX12_run_131 : decode cX12_run 131 = .ok (.aload_n 0, 1) := by decide +kernel
theorem dX12_run_132 : decode cX12_run 132 = .ok (.getfield 592, 3) := by decide +kernel
theorem dX12_run_135 : decode cX12_run 135 = .ok (.ifCond .ne 38, 3) := by decide +kernel
theorem dX12_run_138 : decode cX12_run 138 = .ok (.lload_n 2, 1) := by decide +kernel
theorem dX12_run_139 : decode cX12_run 139 = .ok (.lconst 0, 1) := by decide +kernel
theorem dX12_run_140 : decode cX12_run 140 = .ok (.aload_n 0, 1) := by decide +kernel
theorem dX12_run_141 : decode cX12_run 141 = .ok (.getfield 13, 3) := by decide +kernel
theorem dX12_run_144 : decode cX12_run 144 = .ok (.iconst 1, 1) := by decide +kernel
theorem dX12_run_145 : decode cX12_run 145 = .ok (.iaload, 1) := by decide +kernel
theorem dX12_run_146 : decode cX12_run 146 = .ok (.i2l, 1) := by decide +kernel
theorem dX12_run_147 : decode cX12_run 147 = .ok (.lconst 1, 1) := by decide +kernel
theorem dX12_run_148 : decode cX12_run 148 = .ok (.lsub, 1) := by decide +kernel
theorem dX12_run_149 : decode cX12_run 149 = .ok (.invokestatic 179, 3) := by decide +kernel
theorem dX12_run_152 : decode cX12_run 152 = .ok (.ifCond .eq 21, 3) := by decide +kernel
theorem dX12_run_155 : decode cX12_run 155 = .ok (.lload 4, 2) := by decide +kernel
theorem dX12_run_157 : decode cX12_run 157 = .ok (.lconst 0, 1) := by decide +kernel
theorem dX12_run_158 : decode cX12_run 158 = .ok (.aload_n 0, 1) := by decide +kernel
theorem dX12_run_159 : decode cX12_run 159 = .ok (.getfield 13, 3) := by decide +kernel
theorem dX12_run_162 : decode cX12_run 162 = .ok (.iconst 0, 1) := by decide +kernel
theorem dX12_run_163 : decode cX12_run 163 = .ok (.iaload, 1) := by decide +kernel
theorem dX12_run_164 : decode cX12_run 164 = .ok (.i2l, 1) := by decide +kernel
theorem dX12_run_165 : decode cX12_run 165 = .ok (.lconst 1, 1) := by decide +kernel
theorem dX12_run_166 : decode cX12_run 166 = .ok (.lsub, 1) := by decide +kernel
theorem dX12_run_167 : decode cX12_run 167 = .ok (.invokestatic 179, 3) := by decide +kernel
theorem dX12_run_170 : decode cX12_run 170 = .ok (.ifCond .ne 6, 3) := by decide +kernel
theorem dX12_run_173 : decode cX12_run 173 = .ok (.bipush (-3), 2) := by decide +kernel
theorem dX12_run_175 : decode cX12_run 175 = .ok (.ireturn, 1) := by decide +kernel
theorem dX12_run_176 : decode cX12_run 176 = .ok (.aload_n 0, 1) := by decide +kernel
theorem dX12_run_177 : decode cX12_run 177 = .ok (.lload_n 2, 1) := by decide +kernel
theorem dX12_run_178 : decode cX12_run 178 = .ok (.l2i, 1) := by decide +kernel
theorem dX12_run_179 : decode cX12_run 179 = .ok (.lload 4, 2) := by decide +kernel
theorem dX12_run_181 : decode cX12_run 181 = .ok (.l2i, 1) := by decide +kernel
theorem dX12_run_182 : decode cX12_run 182 = .ok (.invokevirtual 477, 3) := by decide +kernel
theorem dX12_run_185 : decode cX12_run 185 = .ok (.istore 6, 2) := by decide +kernel
theorem dX12_run_187 : decode cX12_run 187 = .ok (.iload 6, 2) := by decide +kernel
theorem dX12_run_189 : decode cX12_run 189 = .ok (.ifCond .ge 6, 3) := by decide +kernel
theorem dX12_run_192 : decode cX12_run 192 = .ok (.bipush (-3), 2) := by decide +kernel
theorem dX12_run_194 : decode cX12_run 194 = .ok (.ireturn, 1) := by decide +kernel
theorem dX12_run_195 : decode cX12_run 195 = .ok (.aload_n 0, 1) := by decide +kernel
theorem dX12_run_196 : decode cX12_run 196 = .ok (.iload 6, 2) := by decide +kernel
theorem dX12_run_198 : decode cX12_run 198 = .ok (.putfield 598, 3) := by decide +kernel
theorem dX12_run_201 : decode cX12_run 201 = .ok (.aload_n 0, 1) := by decide +kernel
theorem dX12_run_202 : decode cX12_run 202 = .ok (.dup, 1) := by decide +kernel
theorem dX12_run_203 : decode cX12_run 203 = .ok (.getfield 595, 3) := by decide +kernel
theorem dX12_run_206 : decode cX12_run 206 = .ok (.iconst 1, 1) := by decide +kernel
theorem dX12_run_207 : decode cX12_run 207 = .ok (.iadd, 1) := by decide +kernel
theorem dX12_run_208 : decode cX12_run 208 = .ok (.putfield 595, 3) := by decide +kernel
theorem dX12_run_211 : decode cX12_run 211 = .ok (.iconst 0, 1) := by decide +kernel
theorem dX12_run_212 : decode cX12_run 212 = .ok (.ireturn, 1) := by decide +kernel
theorem dX12_orders_0 : decode cX12_orders 0 = .ok (.aload_n 0, 1) := by decide +kernel
theorem dX12_orders_1 : decode cX12_orders 1 = .ok (.iconst 0, 1) := by decide +kernel
theorem dX12_orders_2 : decode cX12_orders 2 = .ok (.putfield 166, 3) := by decide +kernel
theorem dX12_orders_5 : decode cX12_orders 5 = .ok (.aload_n 0, 1) := by decide +kernel
theorem dX12_orders_6 : decode cX12_orders 6 = .ok (.iconst (-1), 1) := by decide +kernel
theorem dX12_orders_7 : decode cX12_orders 7 = .ok (.putfield 160, 3) := by decide +kernel
theorem dX12_orders_10 : decode cX12_orders 10 = .ok (.aload_n 0, 1) := by decide +kernel
theorem dX12_orders_11 : decode cX12_orders 11 = .ok (.iconst 1, 1) := by decide +kernel
theorem dX12_orders_12 : decode cX12_orders 12 = .ok (.invokevirtual 393, 3) := by decide +kernel
theorem dX12_orders_15 : decode cX12_orders 15 = .ok (.aload_n 0, 1) := by decide +kernel
theorem dX12_orders_16 : decode cX12_orders 16 = .ok (.invokevirtual 605, 3) := by decide +kernel
theorem dX12_orders_19 : decode cX12_orders 19 = .ok (.aload_n 0, 1) := by decide +kernel
theorem dX12_orders_20 : decode cX12_orders 20 = .ok (.getfield 249, 3) := by decide +kernel
theorem dX12_orders_23 : decode cX12_orders 23 = .ok (.ifCond .ne 23, 3) := by decide +kernel
theorem dX12_orders_26 : decode cX12_orders 26 = .ok (.aload_n 0, 1) := by decide +kernel
theorem dX12_orders_27 : decode cX12_orders 27 = .ok (.bipush 59, 2) := by decide +kernel
theorem dX12_orders_29 : decode cX12_orders 29 = .ok (.invokevirtual 320, 3) := by decide +kernel
theorem dX12_orders_32 : decode cX12_orders 32 = .ok (.ifCond .eq 14, 3) := by decide +kernel
theorem dX12_orders_35 : decode cX12_orders 35 = .ok (.aload_n 0, 1) := by decide +kernel
theorem dX12_orders_36 : decode cX12_orders 36 = .ok (.invokevirtual 253, 3) := by decide +kernel
theorem dX12_orders_39 : decode cX12_orders 39 = .ok (.aload_n 0, 1) := by decide +kernel
theorem dX12_orders_40 : decode cX12_orders 40 = .ok (.invokevirtual 605, 3) := by decide +kernel
theorem dX12_orders_43 : decode cX12_orders 43 = .ok (.goto (-24), 3) := by decide +kernel
theorem dX12_orders_46 : decode cX12_orders 46 = .ok (.aload_n 0, 1) := by decide +kernel
theorem dX12_orders_47 : decode cX12_orders 47 = .ok (.invokevirtual 399, 3) := by decide +kernel
theorem dX12_orders_50 : decode cX12_orders 50 = .ok (.aload_n 0, 1) := by decide +kernel
theorem dX12_orders_51 : decode cX12_orders 51 = .ok (.getfield 249, 3) := by decide +kernel
theorem dX12_orders_54 : decode cX12_orders 54 = .ok (.ifCond .eq 10, 3) := by decide +kernel
theorem dX12_orders_57 : decode cX12_orders 57 = .ok (.aload_n 0, 1) := by decide +kernel
theorem dX12_orders_58 : decode cX12_orders 58 = .ok (.bipush (-6), 2) := by decide +kernel
theorem dX12_orders_60 : decode cX12_orders 60 = .ok (.invokevirtual 175, 3) := by decide +kernel
theorem dX12_orders_63 : decode cX12_orders 63 = .ok (.ireturn, 1) := by decide +kernel
theorem dX12_orders_64 : decode cX12_orders 64 = .ok (.aload_n 0, 1) := by decide +kernel
theorem dX12_orders_65 : decode cX12_orders 65 = .ok (.bipush 17, 2) := by decide +kernel
theorem dX12_orders_67 : decode cX12_orders 67 = .ok (.invokevirtual 462, 3) := by decide +kernel
theorem dX12_orders_70 : decode cX12_orders 70 = .ok (.aload_n 0, 1) := by decide +kernel
theorem dX12_orders_71 : decode cX12_orders 71 = .ok (.getfield 172, 3) := by decide +kernel
theorem dX12_orders_74 : decode cX12_orders 74 = .ok (.istore_n 1, 1) := by decide +kernel
theorem dX12_orders_75 : decode cX12_orders 75 = .ok (.iconst 0, 1) := by decide +kernel
theorem dX12_orders_76 : decode cX12_orders 76 = .ok (.istore_n 2, 1) := by decide +kernel
theorem dX12_orders_77 : decode cX12_orders 77 = .ok (.iload_n 2, 1) := by decide +kernel
theorem dX12_orders_78 : decode cX12_orders 78 = .ok (.sipush 4320, 3) := by decide +kernel
theorem dX12_orders_81 : decode cX12_orders 81 = .ok (.if_icmp .ge 21, 3) := by decide +kernel
theorem dX12_orders_84 : decode cX12_orders 84 = .ok (.aload_n 0, 1) := by decide +kernel
theorem dX12_orders_85 : decode cX12_orders 85 = .ok (.getfield 29, 3) := by decide +kernel
theorem dX12_orders_88 : decode cX12_orders 88 = .ok (.iload_n 2, 1) := by decide +kernel
theorem dX12_orders_89 : decode cX12_orders 89 = .ok (.aload_n 0, 1) := by decide +kernel
theorem dX12_orders_90 : decode cX12_orders 90 = .ok (.getfield 23, 3) := by decide +kernel
theorem dX12_orders_93 : decode cX12_orders 93 = .ok (.iload_n 2, 1) := by decide +kernel
theorem dX12_orders_94 : decode cX12_orders 94 = .ok (.iaload, 1) := by decide +kernel
theorem dX12_orders_95 : decode cX12_orders 95 = .ok (.iastore, 1) := by decide +kernel
theorem dX12_orders_96 : decode cX12_orders 96 = .ok (.iinc 2 1, 3) := by decide +kernel
theorem dX12_orders_99 : decode cX12_orders 99 = .ok (.goto (-22), 3) := by decide +kernel
theorem dX12_orders_102 : decode cX12_orders 102 = .ok (.iconst 0, 1) := by decide +kernel
theorem dX12_orders_103 : decode cX12_orders 103 = .ok (.istore_n 2, 1) := by decide +kernel
theorem dX12_orders_104 : decode cX12_orders 104 = .ok (.iload_n 2, 1) := by decide +kernel
theorem dX12_orders_105 : decode cX12_orders 105 = .ok (.bipush 16, 2) := by decide +kernel
theorem dX12_orders_107 : decode cX12_orders 107 = .ok (.if_icmp .ge 21, 3) := by decide +kernel
theorem dX12_orders_110 : decode cX12_orders 110 = .ok (.aload_n 0, 1) := by decide +kernel
theorem dX12_orders_111 : decode cX12_orders 111 = .ok (.getfield 32, 3) := by decide +kernel
theorem dX12_orders_114 : decode cX12_orders 114 = .ok (.iload_n 2, 1) := by decide +kernel
theorem dX12_orders_115 : decode cX12_orders 115 = .ok (.aload_n 0, 1) := by decide +kernel
theorem dX12_orders_116 : decode cX12_orders 116 = .ok (.getfield 26, 3) := by decide +kernel
theorem dX12_orders_119 : decode cX12_orders 119 = .ok (.iload_n 2, 1) := by decide +kernel
theorem dX12_orders_120 : decode cX12_orders 120 = .ok (.iaload, 1) := by decide +kernel
theorem dX12_orders_121 : decode cX12_orders 121 = .ok (.iastore, 1) := by decide +kernel
theorem dX12_orders_122 : decode cX12_orders 122 = .ok (.iinc 2 1, 3) := by decide +kernel
theorem dX12_orders_125 : decode cX12_orders 125 = .ok (.goto (-21), 3) := by decide +kernel
theorem dX12_orders_128 : decode cX12_orders 128 = .ok (.aload_n 0, 1) := by decide +kernel
theorem dX12_orders_129 : decode cX12_orders 129 = .ok (.iconst 0, 1) := by decide +kernel
theorem dX12_orders_130 : decode cX12_orders 130 = .ok (.putfield 595, 3) := by decide +kernel
theorem dX12_orders_133 : decode cX12_orders 133 = .ok (.aload_n 0, 1) := by decide +kernel
theorem dX12_orders_134 : decode cX12_orders 134 = .ok (.iconst (-1), 1) := by decide +kernel
theorem dX12_orders_135 : decode cX12_orders 135 = .ok (.putfield 598, 3) := by decide +kernel
theorem dX12_orders_138 : decode cX12_orders 138 = .ok (.iconst 0, 1) := by decide +kernel
theorem dX12_orders_139 : decode cX12_orders 139 = .ok (.istore_n 2, 1) := by decide +kernel
theorem dX12_orders_140 : decode cX12_orders 140 = .ok (.iload_n 2, 1) := by decide +kernel
theorem dX12_orders_141 : decode cX12_orders 141 = .ok (.aload_n 0, 1) := by decide +kernel
theorem dX12_orders_142 : decode cX12_orders 142 = .ok (.getfield 379, 3) := by decide +kernel
theorem dX12_orders_145 : decode cX12_orders 145 = .ok (.if_icmp .ge 128, 3) := by decide +kernel
theorem dX12_orders_148 : decode cX12_orders 148 = .ok (.iconst 0, 1) := by decide +kernel
theorem dX12_orders_149 : decode cX12_orders 149 = .ok (.istore_n 3, 1) := by decide +kernel
theorem dX12_orders_150 : decode cX12_orders 150 = .ok (.iload_n 3, 1) := by decide +kernel
theorem dX12_orders_151 : decode cX12_orders 151 = .ok (.aload_n 0, 1) := by decide +kernel
theorem dX12_orders_152 : decode cX12_orders 152 = .ok (.getfield 157, 3) := by decide +kernel
theorem dX12_orders_155 : decode cX12_orders 155 = .ok (.bipush 8, 2) := by decide +kernel
theorem dX12_orders_157 : decode cX12_orders 157 = .ok (.iload_n 2, 1) := by decide +kernel
theorem dX12_orders_158 : decode cX12_orders 158 = .ok (.imul, 1) := by decide +kernel
theorem dX12_orders_159 : decode cX12_orders 159 = .ok (.bipush 7, 2) := by decide +kernel
theorem dX12_orders_161 : decode cX12_orders 161 = .ok (.iadd, 1) := by decide +kernel
theorem dX12_orders_162 : decode cX12_orders 162 = .ok (.iaload, 1) := by decide +kernel
theorem dX12_orders_163 : decode cX12_orders 163 = .ok (.if_icmp .ge 104, 3) := by decide +kernel
theorem dX12_orders_166 : decode cX12_orders 166 = .ok (.aload_n 0, 1) := by decide +kernel
theorem dX12_orders_167 : decode cX12_orders 167 = .ok (.bipush 8, 2) := by decide +kernel
theorem dX12_orders_169 : decode cX12_orders 169 = .ok (.iload_n 2, 1) := by decide +kernel
theorem dX12_orders_170 : decode cX12_orders 170 = .ok (.imul, 1) := by decide +kernel
theorem dX12_orders_171 : decode cX12_orders 171 = .ok (.invokevirtual 608, 3) := by decide +kernel
theorem dX12_orders_174 : decode cX12_orders 174 = .ok (.ifCond .ge 87, 3) := by decide +kernel
theorem dX12_orders_177 : decode cX12_orders 177 = .ok (.aload_n 0, 1) := by decide +kernel
theorem dX12_orders_178 : decode cX12_orders 178 = .ok (.bipush 17, 2) := by decide +kernel
theorem dX12_orders_180 : decode cX12_orders 180 = .ok (.invokevirtual 471, 3) := by decide +kernel
theorem dX12_orders_183 : decode cX12_orders 183 = .ok (.iconst 0, 1) := by decide +kernel
theorem dX12_orders_184 : decode cX12_orders 184 = .ok (.istore 4, 2) := by decide +kernel
theorem dX12_orders_186 : decode cX12_orders 186 = .ok (.iload 4, 2) := by decide +kernel
theorem dX12_orders_188 : decode cX12_orders 188 = .ok (.sipush 4320, 3) := by decide +kernel
theorem dX12_orders_191 : decode cX12_orders 191 = .ok (.if_icmp .ge 23, 3) := by decide +kernel
theorem dX12_orders_194 : decode cX12_orders 194 = .ok (.aload_n 0, 1) := by decide +kernel
theorem dX12_orders_195 : decode cX12_orders 195 = .ok (.getfield 23, 3) := by decide +kernel
theorem dX12_orders_198 : decode cX12_orders 198 = .ok (.iload 4, 2) := by decide +kernel
theorem dX12_orders_200 : decode cX12_orders 200 = .ok (.aload_n 0, 1) := by decide +kernel
theorem dX12_orders_201 : decode cX12_orders 201 = .ok (.getfield 29, 3) := by decide +kernel
theorem dX12_orders_204 : decode cX12_orders 204 = .ok (.iload 4, 2) := by decide +kernel
theorem dX12_orders_206 : decode cX12_orders 206 = .ok (.iaload, 1) := by decide +kernel
theorem dX12_orders_207 : decode cX12_orders 207 = .ok (.iastore, 1) := by decide +kernel
theorem dX12_orders_208 : decode cX12_orders 208 = .ok (.iinc 4 1, 3) := by decide +kernel
theorem dX12_orders_211 : decode cX12_orders 211 = .ok (.goto (-25), 3) := by decide +kernel
theorem dX12_orders_214 : decode cX12_orders 214 = .ok (.iconst 0, 1) := by decide +kernel
theorem dX12_orders_215 : decode cX12_orders 215 = .ok (.istore 4, 2) := by decide +kernel
theorem dX12_orders_217 : decode cX12_orders 217 = .ok (.iload 4, 2) := by decide +kernel
theorem dX12_orders_219 : decode cX12_orders 219 = .ok (.bipush 16, 2) := by decide +kernel
theorem dX12_orders_221 : decode cX12_orders 221 = .ok (.if_icmp .ge 23, 3) := by decide +kernel
theorem dX12_orders_224 : decode cX12_orders 224 = .ok (.aload_n 0, 1) := by decide +kernel
theorem dX12_orders_225 : decode cX12_orders 225 = .ok (.getfield 26, 3) := by decide +kernel
theorem dX12_orders_228 : decode cX12_orders 228 = .ok (.iload 4, 2) := by decide +kernel
theorem dX12_orders_230 : decode cX12_orders 230 = .ok (.aload_n 0, 1) := by decide +kernel
theorem dX12_orders_231 : decode cX12_orders 231 = .ok (.getfield 32, 3) := by decide +kernel
theorem dX12_orders_234 : decode cX12_orders 234 = .ok (.iload 4, 2) := by decide +kernel
theorem dX12_orders_236 : decode cX12_orders 236 = .ok (.iaload, 1) := by decide +kernel
theorem dX12_orders_237 : decode cX12_orders 237 = .ok (.iastore, 1) := by decide +kernel
theorem dX12_orders_238 : decode cX12_orders 238 = .ok (.iinc 4 1, 3) := by decide +kernel
theorem dX12_orders_241 : decode cX12_orders 241 = .ok (.goto (-24), 3) := by decide +kernel
theorem dX12_orders_244 : decode cX12_orders 244 = .ok (.aload_n 0, 1) := by decide +kernel
theorem dX12_orders_245 : decode cX12_orders 245 = .ok (.iload_n 1, 1) := by decide +kernel
theorem dX12_orders_246 : decode cX12_orders 246 = .ok (.putfield 172, 3) := by decide +kernel
theorem dX12_orders_249 : decode cX12_orders 249 = .ok (.aload_n 0, 1) := by decide +kernel
theorem dX12_orders_250 : decode cX12_orders 250 = .ok (.iload_n 2, 1) := by decide +kernel
theorem dX12_orders_251 : decode cX12_orders 251 = .ok (.putfield 160, 3) := by decide +kernel
theorem dX12_orders_254 : decode cX12_orders 254 = .ok (.aload_n 0, 1) := by decide +kernel
theorem dX12_orders_255 : decode cX12_orders 255 = .ok (.bipush (-3), 2) := by decide +kernel
theorem dX12_orders_257 : decode cX12_orders 257 = .ok (.invokevirtual 175, 3) := by decide +kernel
theorem dX12_orders_260 : decode cX12_orders 260 = .ok (.ireturn, 1) := by decide +kernel
theorem dX12_orders_261 : decode cX12_orders 261 = .ok (.iinc 3 1, 3) := by decide +kernel
theorem dX12_orders_264 : decode cX12_orders 264 = .ok (.goto (-114), 3) := by decide +kernel
theorem dX12_orders_267 : decode cX12_orders 267 = .ok (.iinc 2 1, 3) := by decide +kernel
theorem dX12_orders_270 : decode cX12_orders 270 = .ok (.goto (-130), 3) := by decide +kernel
theorem dX12_orders_273 : decode cX12_orders 273 = .ok (.aload_n 0, 1) := by decide +kernel
theorem dX12_orders_274 : decode cX12_orders 274 = .ok (.aload_n 0, 1) := by decide +kernel
theorem dX12_orders_275 : decode cX12_orders 275 = .ok (.getfield 595, 3) := by decide +kernel
theorem dX12_orders_278 : decode cX12_orders 278 = .ok (.invokevirtual 175, 3) := by decide +kernel
theorem dX12_orders_281 : decode cX12_orders 281 = .ok (.ireturn, 1) := by decide +kernel
theorem dX12_owed_0 : decode cX12_owed 0 = .ok (.aload_n 0, 1) := by decide +kernel
theorem dX12_owed_1 : decode cX12_owed 1 = .ok (.iconst 0, 1) := by decide +kernel
theorem dX12_owed_2 : decode cX12_owed 2 = .ok (.putfield 166, 3) := by decide +kernel
theorem dX12_owed_5 : decode cX12_owed 5 = .ok (.aload_n 0, 1) := by decide +kernel
theorem dX12_owed_6 : decode cX12_owed 6 = .ok (.iload_n 1, 1) := by decide +kernel
theorem dX12_owed_7 : decode cX12_owed 7 = .ok (.invokevirtual 198, 3) := by decide +kernel
theorem dX12_owed_10 : decode cX12_owed 10 = .ok (.ifCond .eq 13, 3) := by decide +kernel
theorem dX12_owed_13 : decode cX12_owed 13 = .ok (.iload_n 2, 1) := by decide +kernel
theorem dX12_owed_14 : decode cX12_owed 14 = .ok (.i2l, 1) := by decide +kernel
theorem dX12_owed_15 : decode cX12_owed 15 = .ok (.lconst 0, 1) := by decide +kernel
theorem dX12_owed_16 : decode cX12_owed 16 = .ok (.lconst 1, 1) := by decide +kernel
theorem dX12_owed_17 : decode cX12_owed 17 = .ok (.invokestatic 179, 3) := by decide +kernel
theorem dX12_owed_20 : decode cX12_owed 20 = .ok (.ifCond .ne 5, 3) := by decide +kernel
theorem dX12_owed_23 : decode cX12_owed 23 = .ok (.iconst (-1), 1) := by decide +kernel
theorem dX12_owed_24 : decode cX12_owed 24 = .ok (.ireturn, 1) := by decide +kernel
theorem dX12_owed_25 : decode cX12_owed 25 = .ok (.iconst (-1), 1) := by decide +kernel
theorem dX12_owed_26 : decode cX12_owed 26 = .ok (.istore_n 3, 1) := by decide +kernel
theorem dX12_owed_27 : decode cX12_owed 27 = .ok (.iconst (-1), 1) := by decide +kernel
theorem dX12_owed_28 : decode cX12_owed 28 = .ok (.istore 4, 2) := by decide +kernel
theorem dX12_owed_30 : decode cX12_owed 30 = .ok (.iconst 0, 1) := by decide +kernel
theorem dX12_owed_31 : decode cX12_owed 31 = .ok (.istore 5, 2) := by decide +kernel
theorem dX12_owed_33 : decode cX12_owed 33 = .ok (.iload 5, 2) := by decide +kernel
theorem dX12_owed_35 : decode cX12_owed 35 = .ok (.bipush 6, 2) := by decide +kernel
theorem dX12_owed_37 : decode cX12_owed 37 = .ok (.if_icmp .ge 52, 3) := by decide +kernel
theorem dX12_owed_40 : decode cX12_owed 40 = .ok (.aload_n 0, 1) := by decide +kernel
theorem dX12_owed_41 : decode cX12_owed 41 = .ok (.getfield 13, 3) := by decide +kernel
theorem dX12_owed_44 : decode cX12_owed 44 = .ok (.iload_n 1, 1) := by decide +kernel
theorem dX12_owed_45 : decode cX12_owed 45 = .ok (.iload 5, 2) := by decide +kernel
theorem dX12_owed_47 : decode cX12_owed 47 = .ok (.invokestatic 452, 3) := by decide +kernel
theorem dX12_owed_50 : decode cX12_owed 50 = .ok (.iaload, 1) := by decide +kernel
theorem dX12_owed_51 : decode cX12_owed 51 = .ok (.istore 6, 2) := by decide +kernel
theorem dX12_owed_53 : decode cX12_owed 53 = .ok (.iload 6, 2) := by decide +kernel
theorem dX12_owed_55 : decode cX12_owed 55 = .ok (.iload 4, 2) := by decide +kernel
theorem dX12_owed_57 : decode cX12_owed 57 = .ok (.if_icmp .le 8, 3) := by decide +kernel
theorem dX12_owed_60 : decode cX12_owed 60 = .ok (.iload 5, 2) := by decide +kernel
theorem dX12_owed_62 : decode cX12_owed 62 = .ok (.goto 4, 3) := by decide +kernel
theorem dX12_owed_65 : decode cX12_owed 65 = .ok (.iload_n 3, 1) := by decide +kernel
theorem dX12_owed_66 : decode cX12_owed 66 = .ok (.istore_n 3, 1) := by decide +kernel
theorem dX12_owed_67 : decode cX12_owed 67 = .ok (.iload 6, 2) := by decide +kernel
theorem dX12_owed_69 : decode cX12_owed 69 = .ok (.iload 4, 2) := by decide +kernel
theorem dX12_owed_71 : decode cX12_owed 71 = .ok (.if_icmp .le 8, 3) := by decide +kernel
theorem dX12_owed_74 : decode cX12_owed 74 = .ok (.iload 6, 2) := by decide +kernel
theorem dX12_owed_76 : decode cX12_owed 76 = .ok (.goto 5, 3) := by decide +kernel
theorem dX12_owed_79 : decode cX12_owed 79 = .ok (.iload 4, 2) := by decide +kernel
theorem dX12_owed_81 : decode cX12_owed 81 = .ok (.istore 4, 2) := by decide +kernel
theorem dX12_owed_83 : decode cX12_owed 83 = .ok (.iinc 5 1, 3) := by decide +kernel
theorem dX12_owed_86 : decode cX12_owed 86 = .ok (.goto (-53), 3) := by decide +kernel
theorem dX12_owed_89 : decode cX12_owed 89 = .ok (.iload_n 2, 1) := by decide +kernel
theorem dX12_owed_90 : decode cX12_owed 90 = .ok (.ifCond .ne 11, 3) := by decide +kernel
theorem dX12_owed_93 : decode cX12_owed 93 = .ok (.aload_n 0, 1) := by decide +kernel
theorem dX12_owed_94 : decode cX12_owed 94 = .ok (.iload_n 1, 1) := by decide +kernel
theorem dX12_owed_95 : decode cX12_owed 95 = .ok (.invokevirtual 423, 3) := by decide +kernel
theorem dX12_owed_98 : decode cX12_owed 98 = .ok (.goto 4, 3) := by decide +kernel
theorem dX12_owed_101 : decode cX12_owed 101 = .ok (.iload_n 3, 1) := by decide +kernel
theorem dX12_owed_102 : decode cX12_owed 102 = .ok (.ireturn, 1) := by decide +kernel
theorem dX12_put_0 : decode cX12_put 0 = .ok (.aload_n 0, 1) := by decide +kernel
theorem dX12_put_1 : decode cX12_put 1 = .ok (.iconst 0, 1) := by decide +kernel
theorem dX12_put_2 : decode cX12_put 2 = .ok (.putfield 166, 3) := by decide +kernel
theorem dX12_put_5 : decode cX12_put 5 = .ok (.iload_n 2, 1) := by decide +kernel
theorem dX12_put_6 : decode cX12_put 6 = .ok (.ifCond .ne 15, 3) := by decide +kernel
theorem dX12_put_9 : decode cX12_put 9 = .ok (.iload_n 3, 1) := by decide +kernel
theorem dX12_put_10 : decode cX12_put 10 = .ok (.i2l, 1) := by decide +kernel
theorem dX12_put_11 : decode cX12_put 11 = .ok (.lconst 0, 1) := by decide +kernel
theorem dX12_put_12 : decode cX12_put 12 = .ok (.ldc2_w 186, 3) := by decide +kernel
theorem dX12_put_15 : decode cX12_put 15 = .ok (.invokestatic 179, 3) := by decide +kernel
theorem dX12_put_18 : decode cX12_put 18 = .ok (.goto 25, 3) := by decide +kernel
theorem dX12_put_21 : decode cX12_put 21 = .ok (.iload_n 2, 1) := by decide +kernel
theorem dX12_put_22 : decode cX12_put 22 = .ok (.iconst 1, 1) := by decide +kernel
theorem dX12_put_23 : decode cX12_put 23 = .ok (.if_icmp .ne 19, 3) := by decide +kernel
theorem dX12_put_26 : decode cX12_put 26 = .ok (.iload_n 3, 1) := by decide +kernel
theorem dX12_put_27 : decode cX12_put 27 = .ok (.i2l, 1) := by decide +kernel
theorem dX12_put_28 : decode cX12_put 28 = .ok (.lconst 0, 1) := by decide +kernel
theorem dX12_put_29 : decode cX12_put 29 = .ok (.ldc2_w 188, 3) := by decide +kernel
theorem dX12_put_32 : decode cX12_put 32 = .ok (.invokestatic 179, 3) := by decide +kernel
theorem dX12_put_35 : decode cX12_put 35 = .ok (.ifCond .eq 7, 3) := by decide +kernel
theorem dX12_put_38 : decode cX12_put 38 = .ok (.iconst 1, 1) := by decide +kernel
theorem dX12_put_39 : decode cX12_put 39 = .ok (.goto 4, 3) := by decide +kernel
theorem dX12_put_42 : decode cX12_put 42 = .ok (.iconst 0, 1) := by decide +kernel
theorem dX12_put_43 : decode cX12_put 43 = .ok (.istore 4, 2) := by decide +kernel
theorem dX12_put_45 : decode cX12_put 45 = .ok (.iload 4, 2) := by decide +kernel
theorem dX12_put_47 : decode cX12_put 47 = .ok (.ifCond .ne 9, 3) := by decide +kernel
theorem dX12_put_50 : decode cX12_put 50 = .ok (.aload_n 0, 1) := by decide +kernel
theorem dX12_put_51 : decode cX12_put 51 = .ok (.iconst (-1), 1) := by decide +kernel
theorem dX12_put_52 : decode cX12_put 52 = .ok (.invokevirtual 175, 3) := by decide +kernel
theorem dX12_put_55 : decode cX12_put 55 = .ok (.ireturn, 1) := by decide +kernel
theorem dX12_put_56 : decode cX12_put 56 = .ok (.aload_n 0, 1) := by decide +kernel
theorem dX12_put_57 : decode cX12_put 57 = .ok (.iload_n 1, 1) := by decide +kernel
theorem dX12_put_58 : decode cX12_put 58 = .ok (.invokevirtual 198, 3) := by decide +kernel
theorem dX12_put_61 : decode cX12_put 61 = .ok (.ifCond .ne 10, 3) := by decide +kernel
theorem dX12_put_64 : decode cX12_put 64 = .ok (.aload_n 0, 1) := by decide +kernel
theorem dX12_put_65 : decode cX12_put 65 = .ok (.bipush (-2), 2) := by decide +kernel
theorem dX12_put_67 : decode cX12_put 67 = .ok (.invokevirtual 175, 3) := by decide +kernel
theorem dX12_put_70 : decode cX12_put 70 = .ok (.ireturn, 1) := by decide +kernel
theorem dX12_put_71 : decode cX12_put 71 = .ok (.aload_n 0, 1) := by decide +kernel
theorem dX12_put_72 : decode cX12_put 72 = .ok (.iload_n 1, 1) := by decide +kernel
theorem dX12_put_73 : decode cX12_put 73 = .ok (.iload_n 2, 1) := by decide +kernel
theorem dX12_put_74 : decode cX12_put 74 = .ok (.invokevirtual 204, 3) := by decide +kernel
theorem dX12_put_77 : decode cX12_put 77 = .ok (.istore 5, 2) := by decide +kernel
theorem dX12_put_79 : decode cX12_put 79 = .ok (.aload_n 0, 1) := by decide +kernel
theorem dX12_put_80 : decode cX12_put 80 = .ok (.getfield 13, 3) := by decide +kernel
theorem dX12_put_83 : decode cX12_put 83 = .ok (.bipush 9, 2) := by decide +kernel
theorem dX12_put_85 : decode cX12_put 85 = .ok (.bipush 6, 2) := by decide +kernel
theorem dX12_put_87 : decode cX12_put 87 = .ok (.iload_n 1, 1) := by decide +kernel
theorem dX12_put_88 : decode cX12_put 88 = .ok (.imul, 1) := by decide +kernel
theorem dX12_put_89 : decode cX12_put 89 = .ok (.iadd, 1) := by decide +kernel
theorem dX12_put_90 : decode cX12_put 90 = .ok (.iload_n 2, 1) := by decide +kernel
theorem dX12_put_91 : decode cX12_put 91 = .ok (.iadd, 1) := by decide +kernel
theorem dX12_put_92 : decode cX12_put 92 = .ok (.iload_n 3, 1) := by decide +kernel
theorem dX12_put_93 : decode cX12_put 93 = .ok (.iastore, 1) := by decide +kernel
theorem dX12_put_94 : decode cX12_put 94 = .ok (.aload_n 0, 1) := by decide +kernel
theorem dX12_put_95 : decode cX12_put 95 = .ok (.iconst 0, 1) := by decide +kernel
theorem dX12_put_96 : decode cX12_put 96 = .ok (.putfield 172, 3) := by decide +kernel
theorem dX12_put_99 : decode cX12_put 99 = .ok (.aload_n 0, 1) := by decide +kernel
theorem dX12_put_100 : decode cX12_put 100 = .ok (.iload 5, 2) := by decide +kernel
theorem dX12_put_102 : decode cX12_put 102 = .ok (.invokevirtual 217, 3) := by decide +kernel
theorem dX12_put_105 : decode cX12_put 105 = .ok (.ireturn, 1) := by decide +kernel
theorem dX12_ring_0 : decode cX12_ring 0 = .ok (.aload_n 0, 1) := by decide +kernel
theorem dX12_ring_1 : decode cX12_ring 1 = .ok (.iconst 0, 1) := by decide +kernel
theorem dX12_ring_2 : decode cX12_ring 2 = .ok (.putfield 166, 3) := by decide +kernel
theorem dX12_ring_5 : decode cX12_ring 5 = .ok (.aload_n 0, 1) := by decide +kernel
theorem dX12_ring_6 : decode cX12_ring 6 = .ok (.invokevirtual 565, 3) := by decide +kernel
theorem dX12_ring_9 : decode cX12_ring 9 = .ok (.aload_n 0, 1) := by decide +kernel
theorem dX12_ring_10 : decode cX12_ring 10 = .ok (.getfield 553, 3) := by decide +kernel
theorem dX12_ring_13 : decode cX12_ring 13 = .ok (.ldc_w 515, 3) := by decide +kernel
theorem dX12_ring_16 : decode cX12_ring 16 = .ok (.if_icmp .ne 5, 3) := by decide +kernel
theorem dX12_ring_19 : decode cX12_ring 19 = .ok (.iconst (-1), 1) := by decide +kernel
theorem dX12_ring_20 : decode cX12_ring 20 = .ok (.ireturn, 1) := by decide +kernel
theorem dX12_ring_21 : decode cX12_ring 21 = .ok (.iload_n 1, 1) := by decide +kernel
theorem dX12_ring_22 : decode cX12_ring 22 = .ok (.iconst (-1), 1) := by decide +kernel
theorem dX12_ring_23 : decode cX12_ring 23 = .ok (.if_icmp .ne 10, 3) := by decide +kernel
theorem dX12_ring_26 : decode cX12_ring 26 = .ok (.aload_n 0, 1) := by decide +kernel
theorem dX12_ring_27 : decode cX12_ring 27 = .ok (.getfield 553, 3) := by decide +kernel
theorem dX12_ring_30 : decode cX12_ring 30 = .ok (.goto 29, 3) := by decide +kernel
theorem dX12_ring_33 : decode cX12_ring 33 = .ok (.iload_n 1, 1) := by decide +kernel
theorem dX12_ring_34 : decode cX12_ring 34 = .ok (.i2l, 1) := by decide +kernel
theorem dX12_ring_35 : decode cX12_ring 35 = .ok (.lconst 0, 1) := by decide +kernel
theorem dX12_ring_36 : decode cX12_ring 36 = .ok (.aload_n 0, 1) := by decide +kernel
theorem dX12_ring_37 : decode cX12_ring 37 = .ok (.getfield 553, 3) := by decide +kernel
theorem dX12_ring_40 : decode cX12_ring 40 = .ok (.i2l, 1) := by decide +kernel
theorem dX12_ring_41 : decode cX12_ring 41 = .ok (.lconst 1, 1) := by decide +kernel
theorem dX12_ring_42 : decode cX12_ring 42 = .ok (.lsub, 1) := by decide +kernel
theorem dX12_ring_43 : decode cX12_ring 43 = .ok (.invokestatic 179, 3) := by decide +kernel
theorem dX12_ring_46 : decode cX12_ring 46 = .ok (.ifCond .eq 12, 3) := by decide +kernel
theorem dX12_ring_49 : decode cX12_ring 49 = .ok (.aload_n 0, 1) := by decide +kernel
theorem dX12_ring_50 : decode cX12_ring 50 = .ok (.getfield 139, 3) := by decide +kernel
theorem dX12_ring_53 : decode cX12_ring 53 = .ok (.iload_n 1, 1) := by decide +kernel
theorem dX12_ring_54 : decode cX12_ring 54 = .ok (.iaload, 1) := by decide +kernel
theorem dX12_ring_55 : decode cX12_ring 55 = .ok (.goto 4, 3) := by decide +kernel
theorem dX12_ring_58 : decode cX12_ring 58 = .ok (.iconst (-1), 1) := by decide +kernel
theorem dX12_ring_59 : decode cX12_ring 59 = .ok (.ireturn, 1) := by decide +kernel
theorem dX12_road_0 : decode cX12_road 0 = .ok (.aload_n 0, 1) := by decide +kernel
theorem dX12_road_1 : decode cX12_road 1 = .ok (.iconst 0, 1) := by decide +kernel
theorem dX12_road_2 : decode cX12_road 2 = .ok (.putfield 166, 3) := by decide +kernel
theorem dX12_road_5 : decode cX12_road 5 = .ok (.iload_n 1, 1) := by decide +kernel
theorem dX12_road_6 : decode cX12_road 6 = .ok (.iload_n 2, 1) := by decide +kernel
theorem dX12_road_7 : decode cX12_road 7 = .ok (.if_icmp .eq 28, 3) := by decide +kernel
theorem dX12_road_10 : decode cX12_road 10 = .ok (.iload_n 3, 1) := by decide +kernel
theorem dX12_road_11 : decode cX12_road 11 = .ok (.i2l, 1) := by decide +kernel
theorem dX12_road_12 : decode cX12_road 12 = .ok (.lconst 1, 1) := by decide +kernel
theorem dX12_road_13 : decode cX12_road 13 = .ok (.ldc2_w 525, 3) := by decide +kernel
theorem dX12_road_16 : decode cX12_road 16 = .ok (.invokestatic 179, 3) := by decide +kernel
theorem dX12_road_19 : decode cX12_road 19 = .ok (.ifCond .eq 16, 3) := by decide +kernel
theorem dX12_road_22 : decode cX12_road 22 = .ok (.iload 4, 2) := by decide +kernel
theorem dX12_road_24 : decode cX12_road 24 = .ok (.i2l, 1) := by decide +kernel
theorem dX12_road_25 : decode cX12_road 25 = .ok (.lconst 0, 1) := by decide +kernel
theorem dX12_road_26 : decode cX12_road 26 = .ok (.ldc2_w 280, 3) := by decide +kernel
theorem dX12_road_29 : decode cX12_road 29 = .ok (.invokestatic 179, 3) := by decide +kernel
theorem dX12_road_32 : decode cX12_road 32 = .ok (.ifCond .ne 9, 3) := by decide +kernel
theorem dX12_road_35 : decode cX12_road 35 = .ok (.aload_n 0, 1) := by decide +kernel
theorem dX12_road_36 : decode cX12_road 36 = .ok (.iconst (-1), 1) := by decide +kernel
theorem dX12_road_37 : decode cX12_road 37 = .ok (.invokevirtual 175, 3) := by decide +kernel
theorem dX12_road_40 : decode cX12_road 40 = .ok (.ireturn, 1) := by decide +kernel
theorem dX12_road_41 : decode cX12_road 41 = .ok (.aload_n 0, 1) := by decide +kernel
theorem dX12_road_42 : decode cX12_road 42 = .ok (.iload_n 1, 1) := by decide +kernel
theorem dX12_road_43 : decode cX12_road 43 = .ok (.invokevirtual 198, 3) := by decide +kernel
theorem dX12_road_46 : decode cX12_road 46 = .ok (.ifCond .eq 11, 3) := by decide +kernel
theorem dX12_road_49 : decode cX12_road 49 = .ok (.aload_n 0, 1) := by decide +kernel
theorem dX12_road_50 : decode cX12_road 50 = .ok (.iload_n 2, 1) := by decide +kernel
theorem dX12_road_51 : decode cX12_road 51 = .ok (.invokevirtual 198, 3) := by decide +kernel
theorem dX12_road_54 : decode cX12_road 54 = .ok (.ifCond .ne 10, 3) := by decide +kernel
theorem dX12_road_57 : decode cX12_road 57 = .ok (.aload_n 0, 1) := by decide +kernel
theorem dX12_road_58 : decode cX12_road 58 = .ok (.bipush (-2), 2) := by decide +kernel
theorem dX12_road_60 : decode cX12_road 60 = .ok (.invokevirtual 175, 3) := by decide +kernel
theorem dX12_road_63 : decode cX12_road 63 = .ok (.ireturn, 1) := by decide +kernel
theorem dX12_road_64 : decode cX12_road 64 = .ok (.aload_n 0, 1) := by decide +kernel
theorem dX12_road_65 : decode cX12_road 65 = .ok (.getfield 13, 3) := by decide +kernel
theorem dX12_road_68 : decode cX12_road 68 = .ok (.iconst 3, 1) := by decide +kernel
theorem dX12_road_69 : decode cX12_road 69 = .ok (.iaload, 1) := by decide +kernel
theorem dX12_road_70 : decode cX12_road 70 = .ok (.istore 5, 2) := by decide +kernel
theorem dX12_road_72 : decode cX12_road 72 = .ok (.iload 5, 2) := by decide +kernel
theorem dX12_road_74 : decode cX12_road 74 = .ok (.bipush 12, 2) := by decide +kernel
theorem dX12_road_76 : decode cX12_road 76 = .ok (.if_icmp .ne 10, 3) := by decide +kernel
theorem dX12_road_79 : decode cX12_road 79 = .ok (.aload_n 0, 1) := by decide +kernel
theorem dX12_road_80 : decode cX12_road 80 = .ok (.bipush (-5), 2) := by decide +kernel
theorem dX12_road_82 : decode cX12_road 82 = .ok (.invokevirtual 175, 3) := by decide +kernel
theorem dX12_road_85 : decode cX12_road 85 = .ok (.ireturn, 1) := by decide +kernel
theorem dX12_road_86 : decode cX12_road 86 = .ok (.sipush 218, 3) := by decide +kernel
theorem dX12_road_89 : decode cX12_road 89 = .ok (.iconst 4, 1) := by decide +kernel
theorem dX12_road_90 : decode cX12_road 90 = .ok (.iload 5, 2) := by decide +kernel
theorem dX12_road_92 : decode cX12_road 92 = .ok (.imul, 1) := by decide +kernel
theorem dX12_road_93 : decode cX12_road 93 = .ok (.iadd, 1) := by decide +kernel
theorem dX12_road_94 : decode cX12_road 94 = .ok (.istore 6, 2) := by decide +kernel
theorem dX12_road_96 : decode cX12_road 96 = .ok (.aload_n 0, 1) := by decide +kernel
theorem dX12_road_97 : decode cX12_road 97 = .ok (.getfield 13, 3) := by decide +kernel
theorem dX12_road_100 : decode cX12_road 100 = .ok (.iload 6, 2) := by decide +kernel
theorem dX12_road_102 : decode cX12_road 102 = .ok (.iload_n 1, 1) := by decide +kernel
theorem dX12_road_103 : decode cX12_road 103 = .ok (.iastore, 1) := by decide +kernel
theorem dX12_road_104 : decode cX12_road 104 = .ok (.aload_n 0, 1) := by decide +kernel
theorem dX12_road_105 : decode cX12_road 105 = .ok (.getfield 13, 3) := by decide +kernel
theorem dX12_road_108 : decode cX12_road 108 = .ok (.iload 6, 2) := by decide +kernel
theorem dX12_road_110 : decode cX12_road 110 = .ok (.iconst 1, 1) := by decide +kernel
theorem dX12_road_111 : decode cX12_road 111 = .ok (.iadd, 1) := by decide +kernel
theorem dX12_road_112 : decode cX12_road 112 = .ok (.iload_n 2, 1) := by decide +kernel
theorem dX12_road_113 : decode cX12_road 113 = .ok (.iastore, 1) := by decide +kernel
theorem dX12_road_114 : decode cX12_road 114 = .ok (.aload_n 0, 1) := by decide +kernel
theorem dX12_road_115 : decode cX12_road 115 = .ok (.getfield 13, 3) := by decide +kernel
theorem dX12_road_118 : decode cX12_road 118 = .ok (.iload 6, 2) := by decide +kernel
theorem dX12_road_120 : decode cX12_road 120 = .ok (.iconst 2, 1) := by decide +kernel
theorem dX12_road_121 : decode cX12_road 121 = .ok (.iadd, 1) := by decide +kernel
theorem dX12_road_122 : decode cX12_road 122 = .ok (.iload_n 3, 1) := by decide +kernel
theorem dX12_road_123 : decode cX12_road 123 = .ok (.iastore, 1) := by decide +kernel
theorem dX12_road_124 : decode cX12_road 124 = .ok (.aload_n 0, 1) := by decide +kernel
theorem dX12_road_125 : decode cX12_road 125 = .ok (.getfield 13, 3) := by decide +kernel
theorem dX12_road_128 : decode cX12_road 128 = .ok (.iload 6, 2) := by decide +kernel
theorem dX12_road_130 : decode cX12_road 130 = .ok (.iconst 3, 1) := by decide +kernel
theorem dX12_road_131 : decode cX12_road 131 = .ok (.iadd, 1) := by decide +kernel
theorem dX12_road_132 : decode cX12_road 132 = .ok (.iload 4, 2) := by decide +kernel
theorem dX12_road_134 : decode cX12_road 134 = .ok (.iastore, 1) := by decide +kernel
theorem dX12_road_135 : decode cX12_road 135 = .ok (.aload_n 0, 1) := by decide +kernel
theorem dX12_road_136 : decode cX12_road 136 = .ok (.getfield 13, 3) := by decide +kernel
theorem dX12_road_139 : decode cX12_road 139 = .ok (.iconst 3, 1) := by decide +kernel
theorem dX12_road_140 : decode cX12_road 140 = .ok (.dup2, 1) := by decide +kernel
theorem dX12_road_141 : decode cX12_road 141 = .ok (.iaload, 1) := by decide +kernel
theorem dX12_road_142 : decode cX12_road 142 = .ok (.iconst 1, 1) := by decide +kernel
theorem dX12_road_143 : decode cX12_road 143 = .ok (.iadd, 1) := by decide +kernel
theorem dX12_road_144 : decode cX12_road 144 = .ok (.iastore, 1) := by decide +kernel
theorem dX12_road_145 : decode cX12_road 145 = .ok (.aload_n 0, 1) := by decide +kernel
theorem dX12_road_146 : decode cX12_road 146 = .ok (.iload 5, 2) := by decide +kernel
theorem dX12_road_148 : decode cX12_road 148 = .ok (.invokevirtual 175, 3) := by decide +kernel
theorem dX12_road_151 : decode cX12_road 151 = .ok (.ireturn, 1) := by decide +kernel
theorem dX12_row_0 : decode cX12_row 0 = .ok (.aload_n 0, 1) := by decide +kernel
theorem dX12_row_1 : decode cX12_row 1 = .ok (.iconst 0, 1) := by decide +kernel
theorem dX12_row_2 : decode cX12_row 2 = .ok (.putfield 166, 3) := by decide +kernel
theorem dX12_row_5 : decode cX12_row 5 = .ok (.aload_n 0, 1) := by decide +kernel
theorem dX12_row_6 : decode cX12_row 6 = .ok (.getfield 236, 3) := by decide +kernel
theorem dX12_row_9 : decode cX12_row 9 = .ok (.istore_n 1, 1) := by decide +kernel
theorem dX12_row_10 : decode cX12_row 10 = .ok (.aload_n 0, 1) := by decide +kernel
theorem dX12_row_11 : decode cX12_row 11 = .ok (.iconst 0, 1) := by decide +kernel
theorem dX12_row_12 : decode cX12_row 12 = .ok (.putfield 236, 3) := by decide +kernel
theorem dX12_row_15 : decode cX12_row 15 = .ok (.iload_n 1, 1) := by decide +kernel
theorem dX12_row_16 : decode cX12_row 16 = .ok (.ifCond .ne 10, 3) := by decide +kernel
theorem dX12_row_19 : decode cX12_row 19 = .ok (.aload_n 0, 1) := by decide +kernel
theorem dX12_row_20 : decode cX12_row 20 = .ok (.bipush (-6), 2) := by decide +kernel
theorem dX12_row_22 : decode cX12_row 22 = .ok (.invokevirtual 175, 3) := by decide +kernel
theorem dX12_row_25 : decode cX12_row 25 = .ok (.ireturn, 1) := by decide +kernel
theorem dX12_row_26 : decode cX12_row 26 = .ok (.aload_n 0, 1) := by decide +kernel
theorem dX12_row_27 : decode cX12_row 27 = .ok (.iconst 0, 1) := by decide +kernel
theorem dX12_row_28 : decode cX12_row 28 = .ok (.putfield 239, 3) := by decide +kernel
theorem dX12_row_31 : decode cX12_row 31 = .ok (.iconst 0, 1) := by decide +kernel
theorem dX12_row_32 : decode cX12_row 32 = .ok (.istore_n 2, 1) := by decide +kernel
theorem dX12_row_33 : decode cX12_row 33 = .ok (.iconst 0, 1) := by decide +kernel
theorem dX12_row_34 : decode cX12_row 34 = .ok (.istore_n 3, 1) := by decide +kernel
theorem dX12_row_35 : decode cX12_row 35 = .ok (.iload_n 3, 1) := by decide +kernel
theorem dX12_row_36 : decode cX12_row 36 = .ok (.iload_n 1, 1) := by decide +kernel
theorem dX12_row_37 : decode cX12_row 37 = .ok (.if_icmp .ge 61, 3) := by decide +kernel
theorem dX12_row_40 : decode cX12_row 40 = .ok (.iload_n 3, 1) := by decide +kernel
theorem dX12_row_41 : decode cX12_row 41 = .ok (.iconst 2, 1) := by decide +kernel
theorem dX12_row_42 : decode cX12_row 42 = .ok (.iadd, 1) := by decide +kernel
theorem dX12_row_43 : decode cX12_row 43 = .ok (.iload_n 1, 1) := by decide +kernel
theorem dX12_row_44 : decode cX12_row 44 = .ok (.if_icmp .ge 38, 3) := by decide +kernel
theorem dX12_row_47 : decode cX12_row 47 = .ok (.aload_n 0, 1) := by decide +kernel
theorem dX12_row_48 : decode cX12_row 48 = .ok (.aload_n 0, 1) := by decide +kernel
theorem dX12_row_49 : decode cX12_row 49 = .ok (.getfield 35, 3) := by decide +kernel
theorem dX12_row_52 : decode cX12_row 52 = .ok (.iload_n 3, 1) := by decide +kernel
theorem dX12_row_53 : decode cX12_row 53 = .ok (.iaload, 1) := by decide +kernel
theorem dX12_row_54 : decode cX12_row 54 = .ok (.aload_n 0, 1) := by decide +kernel
theorem dX12_row_55 : decode cX12_row 55 = .ok (.getfield 35, 3) := by decide +kernel
theorem dX12_row_58 : decode cX12_row 58 = .ok (.iload_n 3, 1) := by decide +kernel
theorem dX12_row_59 : decode cX12_row 59 = .ok (.iconst 1, 1) := by decide +kernel
theorem dX12_row_60 : decode cX12_row 60 = .ok (.iadd, 1) := by decide +kernel
theorem dX12_row_61 : decode cX12_row 61 = .ok (.iaload, 1) := by decide +kernel
theorem dX12_row_62 : decode cX12_row 62 = .ok (.aload_n 0, 1) := by decide +kernel
theorem dX12_row_63 : decode cX12_row 63 = .ok (.getfield 35, 3) := by decide +kernel
theorem dX12_row_66 : decode cX12_row 66 = .ok (.iload_n 3, 1) := by decide +kernel
theorem dX12_row_67 : decode cX12_row 67 = .ok (.iconst 2, 1) := by decide +kernel
theorem dX12_row_68 : decode cX12_row 68 = .ok (.iadd, 1) := by decide +kernel
theorem dX12_row_69 : decode cX12_row 69 = .ok (.iaload, 1) := by decide +kernel
theorem dX12_row_70 : decode cX12_row 70 = .ok (.invokevirtual 222, 3) := by decide +kernel
theorem dX12_row_73 : decode cX12_row 73 = .ok (.ifCond .lt 9, 3) := by decide +kernel
theorem dX12_row_76 : decode cX12_row 76 = .ok (.iinc 2 1, 3) := by decide +kernel
theorem dX12_row_79 : decode cX12_row 79 = .ok (.goto 13, 3) := by decide +kernel
theorem dX12_row_82 : decode cX12_row 82 = .ok (.aload_n 0, 1) := by decide +kernel
theorem dX12_row_83 : decode cX12_row 83 = .ok (.dup, 1) := by decide +kernel
theorem dX12_row_84 : decode cX12_row 84 = .ok (.getfield 239, 3) := by decide +kernel
theorem dX12_row_87 : decode cX12_row 87 = .ok (.iconst 1, 1) := by decide +kernel
theorem dX12_row_88 : decode cX12_row 88 = .ok (.iadd, 1) := by decide +kernel
theorem dX12_row_89 : decode cX12_row 89 = .ok (.putfield 239, 3) := by decide +kernel
theorem dX12_row_92 : decode cX12_row 92 = .ok (.iinc 3 3, 3) := by decide +kernel
theorem dX12_row_95 : decode cX12_row 95 = .ok (.goto (-60), 3) := by decide +kernel
theorem dX12_row_98 : decode cX12_row 98 = .ok (.aload_n 0, 1) := by decide +kernel
theorem dX12_row_99 : decode cX12_row 99 = .ok (.iload_n 2, 1) := by decide +kernel
theorem dX12_row_100 : decode cX12_row 100 = .ok (.invokevirtual 183, 3) := by decide +kernel
theorem dX12_row_103 : decode cX12_row 103 = .ok (.ireturn, 1) := by decide +kernel
theorem dX12_ruinedIn_0 : decode cX12_ruinedIn 0 = .ok (.aload_n 0, 1) := by decide +kernel
theorem dX12_ruinedIn_1 : decode cX12_ruinedIn 1 = .ok (.iload_n 1, 1) := by decide +kernel
theorem dX12_ruinedIn_2 : decode cX12_ruinedIn 2 = .ok (.iconst 0, 1) := by decide +kernel
theorem dX12_ruinedIn_3 : decode cX12_ruinedIn 3 = .ok (.invokevirtual 204, 3) := by decide +kernel
theorem dX12_ruinedIn_6 : decode cX12_ruinedIn 6 = .ok (.istore 4, 2) := by decide +kernel
theorem dX12_ruinedIn_8 : decode cX12_ruinedIn 8 = .ok (.iconst 1, 1) := by decide +kernel
theorem dX12_ruinedIn_9 : decode cX12_ruinedIn 9 = .ok (.istore 5, 2) := by decide +kernel
theorem dX12_ruinedIn_11 : decode cX12_ruinedIn 11 = .ok (.iload 5, 2) := by decide +kernel
theorem dX12_ruinedIn_13 : decode cX12_ruinedIn 13 = .ok (.iload_n 2, 1) := by decide +kernel
theorem dX12_ruinedIn_14 : decode cX12_ruinedIn 14 = .ok (.if_icmp .gt 104, 3) := by decide +kernel
theorem dX12_ruinedIn_17 : decode cX12_ruinedIn 17 = .ok (.aload_n 0, 1) := by decide +kernel
theorem dX12_ruinedIn_18 : decode cX12_ruinedIn 18 = .ok (.getfield 118, 3) := by decide +kernel
theorem dX12_ruinedIn_21 : decode cX12_ruinedIn 21 = .ok (.iload 5, 2) := by decide +kernel
theorem dX12_ruinedIn_23 : decode cX12_ruinedIn 23 = .ok (.iaload, 1) := by decide +kernel
theorem dX12_ruinedIn_24 : decode cX12_ruinedIn 24 = .ok (.istore 6, 2) := by decide +kernel
theorem dX12_ruinedIn_26 : decode cX12_ruinedIn 26 = .ok (.iconst 0, 1) := by decide +kernel
theorem dX12_ruinedIn_27 : decode cX12_ruinedIn 27 = .ok (.istore 7, 2) := by decide +kernel
theorem dX12_ruinedIn_29 : decode cX12_ruinedIn 29 = .ok (.iload 7, 2) := by decide +kernel
theorem dX12_ruinedIn_31 : decode cX12_ruinedIn 31 = .ok (.bipush 10, 2) := by decide +kernel
theorem dX12_ruinedIn_33 : decode cX12_ruinedIn 33 = .ok (.if_icmp .ge 49, 3) := by decide +kernel
theorem dX12_ruinedIn_36 : decode cX12_ruinedIn 36 = .ok (.iload 5, 2) := by decide +kernel
theorem dX12_ruinedIn_38 : decode cX12_ruinedIn 38 = .ok (.bipush 10, 2) := by decide +kernel
theorem dX12_ruinedIn_40 : decode cX12_ruinedIn 40 = .ok (.if_icmp .ge 42, 3) := by decide +kernel
theorem dX12_ruinedIn_43 : decode cX12_ruinedIn 43 = .ok (.iload 6, 2) := by decide +kernel
theorem dX12_ruinedIn_45 : decode cX12_ruinedIn 45 = .ok (.iload_n 3, 1) := by decide +kernel
theorem dX12_ruinedIn_46 : decode cX12_ruinedIn 46 = .ok (.iload 7, 2) := by decide +kernel
theorem dX12_ruinedIn_48 : decode cX12_ruinedIn 48 = .ok (.invokestatic 458, 3) := by decide +kernel
theorem dX12_ruinedIn_51 : decode cX12_ruinedIn 51 = .ok (.ifCond .eq 21, 3) := by decide +kernel
theorem dX12_ruinedIn_54 : decode cX12_ruinedIn 54 = .ok (.aload_n 0, 1) := by decide +kernel
theorem dX12_ruinedIn_55 : decode cX12_ruinedIn 55 = .ok (.getfield 124, 3) := by decide +kernel
theorem dX12_ruinedIn_58 : decode cX12_ruinedIn 58 = .ok (.bipush 9, 2) := by decide +kernel
theorem dX12_ruinedIn_60 : decode cX12_ruinedIn 60 = .ok (.iload 7, 2) := by decide +kernel
theorem dX12_ruinedIn_62 : decode cX12_ruinedIn 62 = .ok (.imul, 1) := by decide +kernel
theorem dX12_ruinedIn_63 : decode cX12_ruinedIn 63 = .ok (.iload 5, 2) := by decide +kernel
theorem dX12_ruinedIn_65 : decode cX12_ruinedIn 65 = .ok (.iadd, 1) := by decide +kernel
theorem dX12_ruinedIn_66 : decode cX12_ruinedIn 66 = .ok (.iconst 1, 1) := by decide +kernel
theorem dX12_ruinedIn_67 : decode cX12_ruinedIn 67 = .ok (.isub, 1) := by decide +kernel
theorem dX12_ruinedIn_68 : decode cX12_ruinedIn 68 = .ok (.iaload, 1) := by decide +kernel
theorem dX12_ruinedIn_69 : decode cX12_ruinedIn 69 = .ok (.goto 4, 3) := by decide +kernel
theorem dX12_ruinedIn_72 : decode cX12_ruinedIn 72 = .ok (.iconst 0, 1) := by decide +kernel
theorem dX12_ruinedIn_73 : decode cX12_ruinedIn 73 = .ok (.iadd, 1) := by decide +kernel
theorem dX12_ruinedIn_74 : decode cX12_ruinedIn 74 = .ok (.istore 6, 2) := by decide +kernel
theorem dX12_ruinedIn_76 : decode cX12_ruinedIn 76 = .ok (.iinc 7 1, 3) := by decide +kernel
theorem dX12_ruinedIn_79 : decode cX12_ruinedIn 79 = .ok (.goto (-50), 3) := by decide +kernel
theorem dX12_ruinedIn_82 : decode cX12_ruinedIn 82 = .ok (.iload 4, 2) := by decide +kernel
theorem dX12_ruinedIn_84 : decode cX12_ruinedIn 84 = .ok (.aload_n 0, 1) := by decide +kernel
theorem dX12_ruinedIn_85 : decode cX12_ruinedIn 85 = .ok (.iload_n 1, 1) := by decide +kernel
theorem dX12_ruinedIn_86 : decode cX12_ruinedIn 86 = .ok (.iconst 1, 1) := by decide +kernel
theorem dX12_ruinedIn_87 : decode cX12_ruinedIn 87 = .ok (.invokevirtual 204, 3) := by decide +kernel
theorem dX12_ruinedIn_90 : decode cX12_ruinedIn 90 = .ok (.iadd, 1) := by decide +kernel
theorem dX12_ruinedIn_91 : decode cX12_ruinedIn 91 = .ok (.i2l, 1) := by decide +kernel
theorem dX12_ruinedIn_92 : decode cX12_ruinedIn 92 = .ok (.iconst 0, 1) := by decide +kernel
theorem dX12_ruinedIn_93 : decode cX12_ruinedIn 93 = .ok (.sipush 9999, 3) := by decide +kernel
theorem dX12_ruinedIn_96 : decode cX12_ruinedIn 96 = .ok (.invokestatic 439, 3) := by decide +kernel
theorem dX12_ruinedIn_99 : decode cX12_ruinedIn 99 = .ok (.iload 6, 2) := by decide +kernel
theorem dX12_ruinedIn_101 : decode cX12_ruinedIn 101 = .ok (.isub, 1) := by decide +kernel
theorem dX12_ruinedIn_102 : decode cX12_ruinedIn 102 = .ok (.istore 4, 2) := by decide +kernel
theorem dX12_ruinedIn_104 : decode cX12_ruinedIn 104 = .ok (.iload 4, 2) := by decide +kernel
theorem dX12_ruinedIn_106 : decode cX12_ruinedIn 106 = .ok (.ifCond .ge 6, 3) := by decide +kernel
theorem dX12_ruinedIn_109 : decode cX12_ruinedIn 109 = .ok (.iload 5, 2) := by decide +kernel
theorem dX12_ruinedIn_111 : decode cX12_ruinedIn 111 = .ok (.ireturn, 1) := by decide +kernel
theorem dX12_ruinedIn_112 : decode cX12_ruinedIn 112 = .ok (.iinc 5 1, 3) := by decide +kernel
theorem dX12_ruinedIn_115 : decode cX12_ruinedIn 115 = .ok (.goto (-104), 3) := by decide +kernel
theorem dX12_ruinedIn_118 : decode cX12_ruinedIn 118 = .ok (.iconst (-1), 1) := by decide +kernel
theorem dX12_ruinedIn_119 : decode cX12_ruinedIn 119 = .ok (.ireturn, 1) := by decide +kernel
theorem dX12_ruin_0 : decode cX12_ruin 0 = .ok (.aload_n 0, 1) := by decide +kernel
theorem dX12_ruin_1 : decode cX12_ruin 1 = .ok (.iconst 0, 1) := by decide +kernel
theorem dX12_ruin_2 : decode cX12_ruin 2 = .ok (.putfield 166, 3) := by decide +kernel
theorem dX12_ruin_5 : decode cX12_ruin 5 = .ok (.aload_n 0, 1) := by decide +kernel
theorem dX12_ruin_6 : decode cX12_ruin 6 = .ok (.iload_n 1, 1) := by decide +kernel
theorem dX12_ruin_7 : decode cX12_ruin 7 = .ok (.invokevirtual 198, 3) := by decide +kernel
theorem dX12_ruin_10 : decode cX12_ruin 10 = .ok (.ifCond .eq 25, 3) := by decide +kernel
theorem dX12_ruin_13 : decode cX12_ruin 13 = .ok (.iload_n 2, 1) := by decide +kernel
theorem dX12_ruin_14 : decode cX12_ruin 14 = .ok (.i2l, 1) := by decide +kernel
theorem dX12_ruin_15 : decode cX12_ruin 15 = .ok (.lconst 1, 1) := by decide +kernel
theorem dX12_ruin_16 : decode cX12_ruin 16 = .ok (.ldc2_w 188, 3) := by decide +kernel
theorem dX12_ruin_19 : decode cX12_ruin 19 = .ok (.invokestatic 179, 3) := by decide +kernel
theorem dX12_ruin_22 : decode cX12_ruin 22 = .ok (.ifCond .eq 13, 3) := by decide +kernel
theorem dX12_ruin_25 : decode cX12_ruin 25 = .ok (.aload_n 0, 1) := by decide +kernel
theorem dX12_ruin_26 : decode cX12_ruin 26 = .ok (.iload_n 1, 1) := by decide +kernel
theorem dX12_ruin_27 : decode cX12_ruin 27 = .ok (.iconst 2, 1) := by decide +kernel
theorem dX12_ruin_28 : decode cX12_ruin 28 = .ok (.invokevirtual 204, 3) := by decide +kernel
theorem dX12_ruin_31 : decode cX12_ruin 31 = .ok (.iconst 1, 1) := by decide +kernel
theorem dX12_ruin_32 : decode cX12_ruin 32 = .ok (.if_icmp .ne 5, 3) := by decide +kernel
theorem dX12_ruin_35 : decode cX12_ruin 35 = .ok (.iconst (-1), 1) := by decide +kernel
theorem dX12_ruin_36 : decode cX12_ruin 36 = .ok (.ireturn, 1) := by decide +kernel
theorem dX12_ruin_37 : decode cX12_ruin 37 = .ok (.aload_n 0, 1) := by decide +kernel
theorem dX12_ruin_38 : decode cX12_ruin 38 = .ok (.iload_n 1, 1) := by decide +kernel
theorem dX12_ruin_39 : decode cX12_ruin 39 = .ok (.iload_n 2, 1) := by decide +kernel
theorem dX12_ruin_40 : decode cX12_ruin 40 = .ok (.invokevirtual 509, 3) := by decide +kernel
theorem dX12_ruin_43 : decode cX12_ruin 43 = .ok (.aload_n 0, 1) := by decide +kernel
theorem dX12_ruin_44 : decode cX12_ruin 44 = .ok (.iload_n 1, 1) := by decide +kernel
theorem dX12_ruin_45 : decode cX12_ruin 45 = .ok (.iload_n 2, 1) := by decide +kernel
theorem dX12_ruin_46 : decode cX12_ruin 46 = .ok (.iconst 0, 1) := by decide +kernel
theorem dX12_ruin_47 : decode cX12_ruin 47 = .ok (.invokevirtual 512, 3) := by decide +kernel
theorem dX12_ruin_50 : decode cX12_ruin 50 = .ok (.istore_n 3, 1) := by decide +kernel
theorem dX12_ruin_51 : decode cX12_ruin 51 = .ok (.iload_n 3, 1) := by decide +kernel
theorem dX12_ruin_52 : decode cX12_ruin 52 = .ok (.iconst (-1), 1) := by decide +kernel
theorem dX12_ruin_53 : decode cX12_ruin 53 = .ok (.if_icmp .ne 7, 3) := by decide +kernel
theorem dX12_ruin_56 : decode cX12_ruin 56 = .ok (.iconst (-1), 1) := by decide +kernel
theorem dX12_ruin_57 : decode cX12_ruin 57 = .ok (.goto 9, 3) := by decide +kernel
theorem dX12_ruin_60 : decode cX12_ruin 60 = .ok (.aload_n 0, 1) := by decide +kernel
theorem dX12_ruin_61 : decode cX12_ruin 61 = .ok (.invokevirtual 210, 3) := by decide +kernel
theorem dX12_ruin_64 : decode cX12_ruin 64 = .ok (.iload_n 3, 1) := by decide +kernel
theorem dX12_ruin_65 : decode cX12_ruin 65 = .ok (.iadd, 1) := by decide +kernel
theorem dX12_ruin_66 : decode cX12_ruin 66 = .ok (.ireturn, 1) := by decide +kernel
theorem dX12_shelf_0 : decode cX12_shelf 0 = .ok (.aload_n 0, 1) := by decide +kernel
theorem dX12_shelf_1 : decode cX12_shelf 1 = .ok (.iconst 0, 1) := by decide +kernel
theorem dX12_shelf_2 : decode cX12_shelf 2 = .ok (.putfield 166, 3) := by decide +kernel
theorem dX12_shelf_5 : decode cX12_shelf 5 = .ok (.iload_n 2, 1) := by decide +kernel
theorem dX12_shelf_6 : decode cX12_shelf 6 = .ok (.iconst (-1), 1) := by decide +kernel
theorem dX12_shelf_7 : decode cX12_shelf 7 = .ok (.if_icmp .ge 9, 3) := by decide +kernel
theorem dX12_shelf_10 : decode cX12_shelf 10 = .ok (.aload_n 0, 1) := by decide +kernel
theorem dX12_shelf_11 : decode cX12_shelf 11 = .ok (.iconst (-1), 1) := by decide +kernel
theorem dX12_shelf_12 : decode cX12_shelf 12 = .ok (.invokevirtual 175, 3) := by decide +kernel
theorem dX12_shelf_15 : decode cX12_shelf 15 = .ok (.ireturn, 1) := by decide +kernel
theorem dX12_shelf_16 : decode cX12_shelf 16 = .ok (.aload_n 0, 1) := by decide +kernel
theorem dX12_shelf_17 : decode cX12_shelf 17 = .ok (.iload_n 1, 1) := by decide +kernel
theorem dX12_shelf_18 : decode cX12_shelf 18 = .ok (.invokevirtual 225, 3) := by decide +kernel
theorem dX12_shelf_21 : decode cX12_shelf 21 = .ok (.ifCond .eq 16, 3) := by decide +kernel
theorem dX12_shelf_24 : decode cX12_shelf 24 = .ok (.iload_n 2, 1) := by decide +kernel
theorem dX12_shelf_25 : decode cX12_shelf 25 = .ok (.iconst (-1), 1) := by decide +kernel
theorem dX12_shelf_26 : decode cX12_shelf 26 = .ok (.if_icmp .eq 18, 3) := by decide +kernel
theorem dX12_shelf_29 : decode cX12_shelf 29 = .ok (.aload_n 0, 1) := by decide +kernel
theorem dX12_shelf_30 : decode cX12_shelf 30 = .ok (.iload_n 2, 1) := by decide +kernel
theorem dX12_shelf_31 : decode cX12_shelf 31 = .ok (.invokevirtual 198, 3) := by decide +kernel
theorem dX12_shelf_34 : decode cX12_shelf 34 = .ok (.ifCond .ne 10, 3) := by decide +kernel
theorem dX12_shelf_37 : decode cX12_shelf 37 = .ok (.aload_n 0, 1) := by decide +kernel
theorem dX12_shelf_38 : decode cX12_shelf 38 = .ok (.bipush (-2), 2) := by decide +kernel
theorem dX12_shelf_40 : decode cX12_shelf 40 = .ok (.invokevirtual 175, 3) := by decide +kernel
theorem dX12_shelf_43 : decode cX12_shelf 43 = .ok (.ireturn, 1) := by decide +kernel
theorem dX12_shelf_44 : decode cX12_shelf 44 = .ok (.aload_n 0, 1) := by decide +kernel
theorem dX12_shelf_45 : decode cX12_shelf 45 = .ok (.iload_n 1, 1) := by decide +kernel
theorem dX12_shelf_46 : decode cX12_shelf 46 = .ok (.iconst 5, 1) := by decide +kernel
theorem dX12_shelf_47 : decode cX12_shelf 47 = .ok (.invokevirtual 190, 3) := by decide +kernel
theorem dX12_shelf_50 : decode cX12_shelf 50 = .ok (.istore_n 3, 1) := by decide +kernel
theorem dX12_shelf_51 : decode cX12_shelf 51 = .ok (.aload_n 0, 1) := by decide +kernel
theorem dX12_shelf_52 : decode cX12_shelf 52 = .ok (.getfield 13, 3) := by decide +kernel
theorem dX12_shelf_55 : decode cX12_shelf 55 = .ok (.bipush 45, 2) := by decide +kernel
theorem dX12_shelf_57 : decode cX12_shelf 57 = .ok (.bipush 6, 2) := by decide +kernel
theorem dX12_shelf_59 : decode cX12_shelf 59 = .ok (.iload_n 1, 1) := by decide +kernel
theorem dX12_shelf_60 : decode cX12_shelf 60 = .ok (.imul, 1) := by decide +kernel
theorem dX12_shelf_61 : decode cX12_shelf 61 = .ok (.iadd, 1) := by decide +kernel
theorem dX12_shelf_62 : decode cX12_shelf 62 = .ok (.iconst 5, 1) := by decide +kernel
theorem dX12_shelf_63 : decode cX12_shelf 63 = .ok (.iadd, 1) := by decide +kernel
theorem dX12_shelf_64 : decode cX12_shelf 64 = .ok (.iload_n 2, 1) := by decide +kernel
theorem dX12_shelf_65 : decode cX12_shelf 65 = .ok (.iastore, 1) := by decide +kernel
theorem dX12_shelf_66 : decode cX12_shelf 66 = .ok (.aload_n 0, 1) := by decide +kernel
theorem dX12_shelf_67 : decode cX12_shelf 67 = .ok (.iload_n 3, 1) := by decide +kernel
theorem dX12_shelf_68 : decode cX12_shelf 68 = .ok (.invokevirtual 217, 3) := by decide +kernel
theorem dX12_shelf_71 : decode cX12_shelf 71 = .ok (.ireturn, 1) := by decide +kernel
theorem dX12_siege_0 : decode cX12_siege 0 = .ok (.aload_n 0, 1) := by decide +kernel
theorem dX12_siege_1 : decode cX12_siege 1 = .ok (.iconst 0, 1) := by decide +kernel
theorem dX12_siege_2 : decode cX12_siege 2 = .ok (.putfield 166, 3) := by decide +kernel
theorem dX12_siege_5 : decode cX12_siege 5 = .ok (.aload_n 0, 1) := by decide +kernel
theorem dX12_siege_6 : decode cX12_siege 6 = .ok (.iload_n 1, 1) := by decide +kernel
theorem dX12_siege_7 : decode cX12_siege 7 = .ok (.invokevirtual 198, 3) := by decide +kernel
theorem dX12_siege_10 : decode cX12_siege 10 = .ok (.ifCond .eq 61, 3) := by decide +kernel
theorem dX12_siege_13 : decode cX12_siege 13 = .ok (.aload_n 0, 1) := by decide +kernel
theorem dX12_siege_14 : decode cX12_siege 14 = .ok (.iload_n 2, 1) := by decide +kernel
theorem dX12_siege_15 : decode cX12_siege 15 = .ok (.invokevirtual 198, 3) := by decide +kernel
theorem dX12_siege_18 : decode cX12_siege 18 = .ok (.ifCond .eq 53, 3) := by decide +kernel
theorem dX12_siege_21 : decode cX12_siege 21 = .ok (.iload_n 1, 1) := by decide +kernel
theorem dX12_siege_22 : decode cX12_siege 22 = .ok (.iload_n 2, 1) := by decide +kernel
theorem dX12_siege_23 : decode cX12_siege 23 = .ok (.if_icmp .eq 48, 3) := by decide +kernel
theorem dX12_siege_26 : decode cX12_siege 26 = .ok (.iload_n 3, 1) := by decide +kernel
theorem dX12_siege_27 : decode cX12_siege 27 = .ok (.i2l, 1) := by decide +kernel
theorem dX12_siege_28 : decode cX12_siege 28 = .ok (.lconst 1, 1) := by decide +kernel
theorem dX12_siege_29 : decode cX12_siege 29 = .ok (.ldc2_w 234, 3) := by decide +kernel
theorem dX12_siege_32 : decode cX12_siege 32 = .ok (.invokestatic 179, 3) := by decide +kernel
theorem dX12_siege_35 : decode cX12_siege 35 = .ok (.ifCond .eq 36, 3) := by decide +kernel
theorem dX12_siege_38 : decode cX12_siege 38 = .ok (.iload 4, 2) := by decide +kernel
theorem dX12_siege_40 : decode cX12_siege 40 = .ok (.i2l, 1) := by decide +kernel
theorem dX12_siege_41 : decode cX12_siege 41 = .ok (.lconst 0, 1) := by decide +kernel
theorem dX12_siege_42 : decode cX12_siege 42 = .ok (.ldc2_w 443, 3) := by decide +kernel
theorem dX12_siege_45 : decode cX12_siege 45 = .ok (.invokestatic 179, 3) := by decide +kernel
theorem dX12_siege_48 : decode cX12_siege 48 = .ok (.ifCond .eq 23, 3) := by decide +kernel
theorem dX12_siege_51 : decode cX12_siege 51 = .ok (.aload_n 0, 1) := by decide +kernel
theorem dX12_siege_52 : decode cX12_siege 52 = .ok (.iload_n 2, 1) := by decide +kernel
theorem dX12_siege_53 : decode cX12_siege 53 = .ok (.iconst 2, 1) := by decide +kernel
theorem dX12_siege_54 : decode cX12_siege 54 = .ok (.invokevirtual 204, 3) := by decide +kernel
theorem dX12_siege_57 : decode cX12_siege 57 = .ok (.iconst 1, 1) := by decide +kernel
theorem dX12_siege_58 : decode cX12_siege 58 = .ok (.if_icmp .eq 13, 3) := by decide +kernel
theorem dX12_siege_61 : decode cX12_siege 61 = .ok (.aload_n 0, 1) := by decide +kernel
theorem dX12_siege_62 : decode cX12_siege 62 = .ok (.iload_n 1, 1) := by decide +kernel
theorem dX12_siege_63 : decode cX12_siege 63 = .ok (.iconst 2, 1) := by decide +kernel
theorem dX12_siege_64 : decode cX12_siege 64 = .ok (.invokevirtual 204, 3) := by decide +kernel
theorem dX12_siege_67 : decode cX12_siege 67 = .ok (.iconst 1, 1) := by decide +kernel
theorem dX12_siege_68 : decode cX12_siege 68 = .ok (.if_icmp .ne 5, 3) := by decide +kernel
theorem dX12_siege_71 : decode cX12_siege 71 = .ok (.iconst (-1), 1) := by decide +kernel
theorem dX12_siege_72 : decode cX12_siege 72 = .ok (.ireturn, 1) := by decide +kernel
theorem dX12_siege_73 : decode cX12_siege 73 = .ok (.aload_n 0, 1) := by decide +kernel
theorem dX12_siege_74 : decode cX12_siege 74 = .ok (.iload_n 2, 1) := by decide +kernel
theorem dX12_siege_75 : decode cX12_siege 75 = .ok (.iload_n 3, 1) := by decide +kernel
theorem dX12_siege_76 : decode cX12_siege 76 = .ok (.invokevirtual 509, 3) := by decide +kernel
theorem dX12_siege_79 : decode cX12_siege 79 = .ok (.iconst 0, 1) := by decide +kernel
theorem dX12_siege_80 : decode cX12_siege 80 = .ok (.istore 5, 2) := by decide +kernel
theorem dX12_siege_82 : decode cX12_siege 82 = .ok (.iconst 0, 1) := by decide +kernel
theorem dX12_siege_83 : decode cX12_siege 83 = .ok (.istore 6, 2) := by decide +kernel
theorem dX12_siege_85 : decode cX12_siege 85 = .ok (.iconst 0, 1) := by decide +kernel
theorem dX12_siege_86 : decode cX12_siege 86 = .ok (.istore 7, 2) := by decide +kernel
theorem dX12_siege_88 : decode cX12_siege 88 = .ok (.iload 7, 2) := by decide +kernel
theorem dX12_siege_90 : decode cX12_siege 90 = .ok (.aload_n 0, 1) := by decide +kernel
theorem dX12_siege_91 : decode cX12_siege 91 = .ok (.getfield 13, 3) := by decide +kernel
theorem dX12_siege_94 : decode cX12_siege 94 = .ok (.iconst 1, 1) := by decide +kernel
theorem dX12_siege_95 : decode cX12_siege 95 = .ok (.iaload, 1) := by decide +kernel
theorem dX12_siege_96 : decode cX12_siege 96 = .ok (.if_icmp .ge 118, 3) := by decide +kernel
theorem dX12_siege_99 : decode cX12_siege 99 = .ok (.iload 5, 2) := by decide +kernel
theorem dX12_siege_101 : decode cX12_siege 101 = .ok (.bipush 10, 2) := by decide +kernel
theorem dX12_siege_103 : decode cX12_siege 103 = .ok (.if_icmp .ge 111, 3) := by decide +kernel
theorem dX12_siege_106 : decode cX12_siege 106 = .ok (.aload_n 0, 1) := by decide +kernel
theorem dX12_siege_107 : decode cX12_siege 107 = .ok (.iload 7, 2) := by decide +kernel
theorem dX12_siege_109 : decode cX12_siege 109 = .ok (.iconst 0, 1) := by decide +kernel
theorem dX12_siege_110 : decode cX12_siege 110 = .ok (.invokevirtual 190, 3) := by decide +kernel
theorem dX12_siege_113 : decode cX12_siege 113 = .ok (.iload_n 1, 1) := by decide +kernel
theorem dX12_siege_114 : decode cX12_siege 114 = .ok (.if_icmp .ne 94, 3) := by decide +kernel
theorem dX12_siege_117 : decode cX12_siege 117 = .ok (.aload_n 0, 1) := by decide +kernel
theorem dX12_siege_118 : decode cX12_siege 118 = .ok (.iload 7, 2) := by decide +kernel
theorem dX12_siege_120 : decode cX12_siege 120 = .ok (.iconst 1, 1) := by decide +kernel
theorem dX12_siege_121 : decode cX12_siege 121 = .ok (.invokevirtual 190, 3) := by decide +kernel
theorem dX12_siege_124 : decode cX12_siege 124 = .ok (.iload_n 1, 1) := by decide +kernel
theorem dX12_siege_125 : decode cX12_siege 125 = .ok (.if_icmp .ne 83, 3) := by decide +kernel
theorem dX12_siege_128 : decode cX12_siege 128 = .ok (.aload_n 0, 1) := by decide +kernel
theorem dX12_siege_129 : decode cX12_siege 129 = .ok (.getfield 121, 3) := by decide +kernel
theorem dX12_siege_132 : decode cX12_siege 132 = .ok (.iload 5, 2) := by decide +kernel
theorem dX12_siege_134 : decode cX12_siege 134 = .ok (.iload 7, 2) := by decide +kernel
theorem dX12_siege_136 : decode cX12_siege 136 = .ok (.iastore, 1) := by decide +kernel
theorem dX12_siege_137 : decode cX12_siege 137 = .ok (.iload 6, 2) := by decide +kernel
theorem dX12_siege_139 : decode cX12_siege 139 = .ok (.aload_n 0, 1) := by decide +kernel
theorem dX12_siege_140 : decode cX12_siege 140 = .ok (.iload 7, 2) := by decide +kernel
theorem dX12_siege_142 : decode cX12_siege 142 = .ok (.iload_n 1, 1) := by decide +kernel
theorem dX12_siege_143 : decode cX12_siege 143 = .ok (.iload_n 2, 1) := by decide +kernel
theorem dX12_siege_144 : decode cX12_siege 144 = .ok (.invokevirtual 448, 3) := by decide +kernel
theorem dX12_siege_147 : decode cX12_siege 147 = .ok (.ifCond .eq 7, 3) := by decide +kernel
theorem dX12_siege_150 : decode cX12_siege 150 = .ok (.iconst 0, 1) := by decide +kernel
theorem dX12_siege_151 : decode cX12_siege 151 = .ok (.goto 7, 3) := by decide +kernel
theorem dX12_siege_154 : decode cX12_siege 154 = .ok (.iconst 1, 1) := by decide +kernel
theorem dX12_siege_155 : decode cX12_siege 155 = .ok (.iload 5, 2) := by decide +kernel
theorem dX12_siege_157 : decode cX12_siege 157 = .ok (.ishl, 1) := by decide +kernel
theorem dX12_siege_158 : decode cX12_siege 158 = .ok (.ior, 1) := by decide +kernel
theorem dX12_siege_159 : decode cX12_siege 159 = .ok (.istore 6, 2) := by decide +kernel
theorem dX12_siege_161 : decode cX12_siege 161 = .ok (.iconst 1, 1) := by decide +kernel
theorem dX12_siege_162 : decode cX12_siege 162 = .ok (.istore 8, 2) := by decide +kernel
theorem dX12_siege_164 : decode cX12_siege 164 = .ok (.iload 8, 2) := by decide +kernel
theorem dX12_siege_166 : decode cX12_siege 166 = .ok (.iload_n 3, 1) := by decide +kernel
theorem dX12_siege_167 : decode cX12_siege 167 = .ok (.if_icmp .gt 38, 3) := by decide +kernel
theorem dX12_siege_170 : decode cX12_siege 170 = .ok (.aload_n 0, 1) := by decide +kernel
theorem dX12_siege_171 : decode cX12_siege 171 = .ok (.getfield 124, 3) := by decide +kernel
theorem dX12_siege_174 : decode cX12_siege 174 = .ok (.bipush 9, 2) := by decide +kernel
theorem dX12_siege_176 : decode cX12_siege 176 = .ok (.iload 5, 2) := by decide +kernel
theorem dX12_siege_178 : decode cX12_siege 178 = .ok (.imul, 1) := by decide +kernel
theorem dX12_siege_179 : decode cX12_siege 179 = .ok (.iload 8, 2) := by decide +kernel
theorem dX12_siege_181 : decode cX12_siege 181 = .ok (.iadd, 1) := by decide +kernel
theorem dX12_siege_182 : decode cX12_siege 182 = .ok (.iconst 1, 1) := by decide +kernel
theorem dX12_siege_183 : decode cX12_siege 183 = .ok (.isub, 1) := by decide +kernel
theorem dX12_siege_184 : decode cX12_siege 184 = .ok (.aload_n 0, 1) := by decide +kernel
theorem dX12_siege_185 : decode cX12_siege 185 = .ok (.iload 7, 2) := by decide +kernel
theorem dX12_siege_187 : decode cX12_siege 187 = .ok (.iload_n 2, 1) := by decide +kernel
theorem dX12_siege_188 : decode cX12_siege 188 = .ok (.aload_n 0, 1) := by decide +kernel
theorem dX12_siege_189 : decode cX12_siege 189 = .ok (.invokevirtual 210, 3) := by decide +kernel
theorem dX12_siege_192 : decode cX12_siege 192 = .ok (.iload 8, 2) := by decide +kernel
theorem dX12_siege_194 : decode cX12_siege 194 = .ok (.iadd, 1) := by decide +kernel
theorem dX12_siege_195 : decode cX12_siege 195 = .ok (.invokevirtual 194, 3) := by decide +kernel
theorem dX12_siege_198 : decode cX12_siege 198 = .ok (.iastore, 1) := by decide +kernel
theorem dX12_siege_199 : decode cX12_siege 199 = .ok (.iinc 8 1, 3) := by decide +kernel
theorem dX12_siege_202 : decode cX12_siege 202 = .ok (.goto (-38), 3) := by decide +kernel
theorem dX12_siege_205 : decode cX12_siege 205 = .ok (.iinc 5 1, 3) := by decide +kernel
theorem dX12_siege_208 : decode cX12_siege 208 = .ok (.iinc 7 1, 3) := by decide +kernel
theorem dX12_siege_211 : decode cX12_siege 211 = .ok (.goto (-123), 3) := by decide +kernel
theorem dX12_siege_214 : decode cX12_siege 214 = .ok (.ldc_w 515, 3) := by decide +kernel
theorem dX12_siege_217 : decode cX12_siege 217 = .ok (.istore 7, 2) := by decide +kernel
theorem dX12_siege_219 : decode cX12_siege 219 = .ok (.ldc_w 515, 3) := by decide +kernel
theorem dX12_siege_222 : decode cX12_siege 222 = .ok (.istore 8, 2) := by decide +kernel
theorem dX12_siege_224 : decode cX12_siege 224 = .ok (.iconst (-1), 1) := by decide +kernel
theorem dX12_siege_225 : decode cX12_siege 225 = .ok (.istore 9, 2) := by decide +kernel
theorem dX12_siege_227 : decode cX12_siege 227 = .ok (.iconst 0, 1) := by decide +kernel
theorem dX12_siege_228 : decode cX12_siege 228 = .ok (.istore 10, 2) := by decide +kernel
theorem dX12_siege_230 : decode cX12_siege 230 = .ok (.iload 10, 2) := by decide +kernel
theorem dX12_siege_232 : decode cX12_siege 232 = .ok (.iconst 1, 1) := by decide +kernel
theorem dX12_siege_233 : decode cX12_siege 233 = .ok (.iload 5, 2) := by decide +kernel
theorem dX12_siege_235 : decode cX12_siege 235 = .ok (.ishl, 1) := by decide +kernel
theorem dX12_siege_236 : decode cX12_siege 236 = .ok (.if_icmp .ge 161, 3) := by decide +kernel
theorem dX12_siege_239 : decode cX12_siege 239 = .ok (.iconst 0, 1) := by decide +kernel
theorem dX12_siege_240 : decode cX12_siege 240 = .ok (.istore 11, 2) := by decide +kernel
theorem dX12_siege_242 : decode cX12_siege 242 = .ok (.iconst 0, 1) := by decide +kernel
theorem dX12_siege_243 : decode cX12_siege 243 = .ok (.istore 12, 2) := by decide +kernel
theorem dX12_siege_245 : decode cX12_siege 245 = .ok (.iload 12, 2) := by decide +kernel
theorem dX12_siege_247 : decode cX12_siege 247 = .ok (.iload 5, 2) := by decide +kernel
theorem dX12_siege_249 : decode cX12_siege 249 = .ok (.if_icmp .ge 41, 3) := by decide +kernel
theorem dX12_siege_252 : decode cX12_siege 252 = .ok (.iload 11, 2) := by decide +kernel
theorem dX12_siege_254 : decode cX12_siege 254 = .ok (.iload 10, 2) := by decide +kernel
theorem dX12_siege_256 : decode cX12_siege 256 = .ok (.iload 12, 2) := by decide +kernel
theorem dX12_siege_258 : decode cX12_siege 258 = .ok (.invokestatic 458, 3) := by decide +kernel
theorem dX12_siege_261 : decode cX12_siege 261 = .ok (.ifCond .eq 19, 3) := by decide +kernel
theorem dX12_siege_264 : decode cX12_siege 264 = .ok (.aload_n 0, 1) := by decide +kernel
theorem dX12_siege_265 : decode cX12_siege 265 = .ok (.aload_n 0, 1) := by decide +kernel
theorem dX12_siege_266 : decode cX12_siege 266 = .ok (.getfield 121, 3) := by decide +kernel
theorem dX12_siege_269 : decode cX12_siege 269 = .ok (.iload 12, 2) := by decide +kernel
theorem dX12_siege_271 : decode cX12_siege 271 = .ok (.iaload, 1) := by decide +kernel
theorem dX12_siege_272 : decode cX12_siege 272 = .ok (.iload_n 1, 1) := by decide +kernel
theorem dX12_siege_273 : decode cX12_siege 273 = .ok (.iload_n 2, 1) := by decide +kernel
theorem dX12_siege_274 : decode cX12_siege 274 = .ok (.invokevirtual 445, 3) := by decide +kernel
theorem dX12_siege_277 : decode cX12_siege 277 = .ok (.goto 4, 3) := by decide +kernel
theorem dX12_siege_280 : decode cX12_siege 280 = .ok (.iconst 0, 1) := by decide +kernel
theorem dX12_siege_281 : decode cX12_siege 281 = .ok (.iadd, 1) := by decide +kernel
theorem dX12_siege_282 : decode cX12_siege 282 = .ok (.istore 11, 2) := by decide +kernel
theorem dX12_siege_284 : decode cX12_siege 284 = .ok (.iinc 12 1, 3) := by decide +kernel
theorem dX12_siege_287 : decode cX12_siege 287 = .ok (.goto (-42), 3) := by decide +kernel
theorem dX12_siege_290 : decode cX12_siege 290 = .ok (.iload 10, 2) := by decide +kernel
theorem dX12_siege_292 : decode cX12_siege 292 = .ok (.iload 6, 2) := by decide +kernel
theorem dX12_siege_294 : decode cX12_siege 294 = .ok (.iconst (-1), 1) := by decide +kernel
theorem dX12_siege_295 : decode cX12_siege 295 = .ok (.ixor, 1) := by decide +kernel
theorem dX12_siege_296 : decode cX12_siege 296 = .ok (.iand, 1) := by decide +kernel
theorem dX12_siege_297 : decode cX12_siege 297 = .ok (.ifCond .ne 46, 3) := by decide +kernel
theorem dX12_siege_300 : decode cX12_siege 300 = .ok (.iload 10, 2) := by decide +kernel
theorem dX12_siege_302 : decode cX12_siege 302 = .ok (.invokestatic 516, 3) := by decide +kernel
theorem dX12_siege_305 : decode cX12_siege 305 = .ok (.iload 7, 2) := by decide +kernel
theorem dX12_siege_307 : decode cX12_siege 307 = .ok (.if_icmp .lt 20, 3) := by decide +kernel
theorem dX12_siege_310 : decode cX12_siege 310 = .ok (.iload 10, 2) := by decide +kernel
theorem dX12_siege_312 : decode cX12_siege 312 = .ok (.invokestatic 516, 3) := by decide +kernel
theorem dX12_siege_315 : decode cX12_siege 315 = .ok (.iload 7, 2) := by decide +kernel
theorem dX12_siege_317 : decode cX12_siege 317 = .ok (.if_icmp .ne 26, 3) := by decide +kernel
theorem dX12_siege_320 : decode cX12_siege 320 = .ok (.iload 11, 2) := by decide +kernel
theorem dX12_siege_322 : decode cX12_siege 322 = .ok (.iload 8, 2) := by decide +kernel
theorem dX12_siege_324 : decode cX12_siege 324 = .ok (.if_icmp .ge 19, 3) := by decide +kernel
theorem dX12_siege_327 : decode cX12_siege 327 = .ok (.aload_n 0, 1) := by decide +kernel
theorem dX12_siege_328 : decode cX12_siege 328 = .ok (.iload_n 2, 1) := by decide +kernel
theorem dX12_siege_329 : decode cX12_siege 329 = .ok (.iload_n 3, 1) := by decide +kernel
theorem dX12_siege_330 : decode cX12_siege 330 = .ok (.iload 10, 2) := by decide +kernel
theorem dX12_siege_332 : decode cX12_siege 332 = .ok (.invokevirtual 512, 3) := by decide +kernel
theorem dX12_siege_335 : decode cX12_siege 335 = .ok (.iconst (-1), 1) := by decide +kernel
theorem dX12_siege_336 : decode cX12_siege 336 = .ok (.if_icmp .eq 7, 3) := by decide +kernel
theorem dX12_siege_339 : decode cX12_siege 339 = .ok (.iconst 1, 1) := by decide +kernel
theorem dX12_siege_340 : decode cX12_siege 340 = .ok (.goto 4, 3) := by decide +kernel
theorem dX12_siege_343 : decode cX12_siege 343 = .ok (.iconst 0, 1) := by decide +kernel
theorem dX12_siege_344 : decode cX12_siege 344 = .ok (.istore 12, 2) := by decide +kernel
theorem dX12_siege_346 : decode cX12_siege 346 = .ok (.iload 12, 2) := by decide +kernel
theorem dX12_siege_348 : decode cX12_siege 348 = .ok (.ifCond .eq 8, 3) := by decide +kernel
theorem dX12_siege_351 : decode cX12_siege 351 = .ok (.iload 10, 2) := by decide +kernel
theorem dX12_siege_353 : decode cX12_siege 353 = .ok (.goto 5, 3) := by decide +kernel
theorem dX12_siege_356 : decode cX12_siege 356 = .ok (.iload 9, 2) := by decide +kernel
theorem dX12_siege_358 : decode cX12_siege 358 = .ok (.istore 9, 2) := by decide +kernel
theorem dX12_siege_360 : decode cX12_siege 360 = .ok (.iload 12, 2) := by decide +kernel
theorem dX12_siege_362 : decode cX12_siege 362 = .ok (.ifCond .eq 11, 3) := by decide +kernel
theorem dX12_siege_365 : decode cX12_siege 365 = .ok (.iload 10, 2) := by decide +kernel
theorem dX12_siege_367 : decode cX12_siege 367 = .ok (.invokestatic 516, 3) := by decide +kernel
theorem dX12_siege_370 : decode cX12_siege 370 = .ok (.goto 5, 3) := by decide +kernel
theorem dX12_siege_373 : decode cX12_siege 373 = .ok (.iload 7, 2) := by decide +kernel
theorem dX12_siege_375 : decode cX12_siege 375 = .ok (.istore 7, 2) := by decide +kernel
theorem dX12_siege_377 : decode cX12_siege 377 = .ok (.iload 12, 2) := by decide +kernel
theorem dX12_siege_379 : decode cX12_siege 379 = .ok (.ifCond .eq 8, 3) := by decide +kernel
theorem dX12_siege_382 : decode cX12_siege 382 = .ok (.iload 11, 2) := by decide +kernel
theorem dX12_siege_384 : decode cX12_siege 384 = .ok (.goto 5, 3) := by decide +kernel
theorem dX12_siege_387 : decode cX12_siege 387 = .ok (.iload 8, 2) := by decide +kernel
theorem dX12_siege_389 : decode cX12_siege 389 = .ok (.istore 8, 2) := by decide +kernel
theorem dX12_siege_391 : decode cX12_siege 391 = .ok (.iinc 10 1, 3) := by decide +kernel
theorem dX12_siege_394 : decode cX12_siege 394 = .ok (.goto (-164), 3) := by decide +kernel
theorem dX12_siege_397 : decode cX12_siege 397 = .ok (.iload 9, 2) := by decide +kernel
theorem dX12_siege_399 : decode cX12_siege 399 = .ok (.iconst (-1), 1) := by decide +kernel
theorem dX12_siege_400 : decode cX12_siege 400 = .ok (.if_icmp .eq 9, 3) := by decide +kernel
theorem dX12_siege_403 : decode cX12_siege 403 = .ok (.iload 4, 2) := by decide +kernel
theorem dX12_siege_405 : decode cX12_siege 405 = .ok (.iconst 2, 1) := by decide +kernel
theorem dX12_siege_406 : decode cX12_siege 406 = .ok (.if_icmp .ge 26, 3) := by decide +kernel
theorem dX12_siege_409 : decode cX12_siege 409 = .ok (.iload 9, 2) := by decide +kernel
theorem dX12_siege_411 : decode cX12_siege 411 = .ok (.iconst (-1), 1) := by decide +kernel
theorem dX12_siege_412 : decode cX12_siege 412 = .ok (.if_icmp .ne 7, 3) := by decide +kernel
theorem dX12_siege_415 : decode cX12_siege 415 = .ok (.iconst (-1), 1) := by decide +kernel
theorem dX12_siege_416 : decode cX12_siege 416 = .ok (.goto 15, 3) := by decide +kernel
theorem dX12_siege_419 : decode cX12_siege 419 = .ok (.iload 4, 2) := by decide +kernel
theorem dX12_siege_421 : decode cX12_siege 421 = .ok (.ifCond .ne 8, 3) := by decide +kernel
theorem dX12_siege_424 : decode cX12_siege 424 = .ok (.iload 7, 2) := by decide +kernel
theorem dX12_siege_426 : decode cX12_siege 426 = .ok (.goto 5, 3) := by decide +kernel
theorem dX12_siege_429 : decode cX12_siege 429 = .ok (.iload 8, 2) := by decide +kernel
theorem dX12_siege_431 : decode cX12_siege 431 = .ok (.ireturn, 1) := by decide +kernel
theorem dX12_siege_432 : decode cX12_siege 432 = .ok (.iconst 0, 1) := by decide +kernel
theorem dX12_siege_433 : decode cX12_siege 433 = .ok (.istore 10, 2) := by decide +kernel
theorem dX12_siege_435 : decode cX12_siege 435 = .ok (.iconst 0, 1) := by decide +kernel
theorem dX12_siege_436 : decode cX12_siege 436 = .ok (.istore 11, 2) := by decide +kernel
theorem dX12_siege_438 : decode cX12_siege 438 = .ok (.iload 11, 2) := by decide +kernel
theorem dX12_siege_440 : decode cX12_siege 440 = .ok (.iload 5, 2) := by decide +kernel
theorem dX12_siege_442 : decode cX12_siege 442 = .ok (.if_icmp .ge 37, 3) := by decide +kernel
theorem dX12_siege_445 : decode cX12_siege 445 = .ok (.iload 10, 2) := by decide +kernel
theorem dX12_siege_447 : decode cX12_siege 447 = .ok (.iload 9, 2) := by decide +kernel
theorem dX12_siege_449 : decode cX12_siege 449 = .ok (.iload 11, 2) := by decide +kernel
theorem dX12_siege_451 : decode cX12_siege 451 = .ok (.invokestatic 458, 3) := by decide +kernel
theorem dX12_siege_454 : decode cX12_siege 454 = .ok (.ifCond .eq 15, 3) := by decide +kernel
theorem dX12_siege_457 : decode cX12_siege 457 = .ok (.iconst 1, 1) := by decide +kernel
theorem dX12_siege_458 : decode cX12_siege 458 = .ok (.aload_n 0, 1) := by decide +kernel
theorem dX12_siege_459 : decode cX12_siege 459 = .ok (.getfield 121, 3) := by decide +kernel
theorem dX12_siege_462 : decode cX12_siege 462 = .ok (.iload 11, 2) := by decide +kernel
theorem dX12_siege_464 : decode cX12_siege 464 = .ok (.iaload, 1) := by decide +kernel
theorem dX12_siege_465 : decode cX12_siege 465 = .ok (.ishl, 1) := by decide +kernel
theorem dX12_siege_466 : decode cX12_siege 466 = .ok (.goto 4, 3) := by decide +kernel
theorem dX12_siege_469 : decode cX12_siege 469 = .ok (.iconst 0, 1) := by decide +kernel
theorem dX12_siege_470 : decode cX12_siege 470 = .ok (.ior, 1) := by decide +kernel
theorem dX12_siege_471 : decode cX12_siege 471 = .ok (.istore 10, 2) := by decide +kernel
theorem dX12_siege_473 : decode cX12_siege 473 = .ok (.iinc 11 1, 3) := by decide +kernel
theorem dX12_siege_476 : decode cX12_siege 476 = .ok (.goto (-38), 3) := by decide +kernel
theorem dX12_siege_479 : decode cX12_siege 479 = .ok (.iload 10, 2) := by decide +kernel
theorem dX12_siege_481 : decode cX12_siege 481 = .ok (.ireturn, 1) := by decide +kernel
theorem dX12_status_0 : decode cX12_status 0 = .ok (.aload_n 0, 1) := by decide +kernel
theorem dX12_status_1 : decode cX12_status 1 = .ok (.iconst 0, 1) := by decide +kernel
theorem dX12_status_2 : decode cX12_status 2 = .ok (.putfield 166, 3) := by decide +kernel
theorem dX12_status_5 : decode cX12_status 5 = .ok (.aload_n 0, 1) := by decide +kernel
theorem dX12_status_6 : decode cX12_status 6 = .ok (.getfield 169, 3) := by decide +kernel
theorem dX12_status_9 : decode cX12_status 9 = .ok (.ireturn, 1) := by decide +kernel
theorem dX12_stopped_0 : decode cX12_stopped 0 = .ok (.aload_n 0, 1) := by decide +kernel
theorem dX12_stopped_1 : decode cX12_stopped 1 = .ok (.iconst 0, 1) := by decide +kernel
theorem dX12_stopped_2 : decode cX12_stopped 2 = .ok (.putfield 166, 3) := by decide +kernel
theorem dX12_stopped_5 : decode cX12_stopped 5 = .ok (.aload_n 0, 1) := by decide +kernel
theorem dX12_stopped_6 : decode cX12_stopped 6 = .ok (.getfield 160, 3) := by decide +kernel
theorem dX12_stopped_9 : decode cX12_stopped 9 = .ok (.ireturn, 1) := by decide +kernel
theorem dX12_tells_0 : decode cX12_tells 0 = .ok (.aload_n 0, 1) := by decide +kernel
theorem dX12_tells_1 : decode cX12_tells 1 = .ok (.iconst 0, 1) := by decide +kernel
theorem dX12_tells_2 : decode cX12_tells 2 = .ok (.putfield 166, 3) := by decide +kernel
theorem dX12_tells_5 : decode cX12_tells 5 = .ok (.aload_n 0, 1) := by decide +kernel
theorem dX12_tells_6 : decode cX12_tells 6 = .ok (.iload_n 2, 1) := by decide +kernel
theorem dX12_tells_7 : decode cX12_tells 7 = .ok (.invokevirtual 225, 3) := by decide +kernel
theorem dX12_tells_10 : decode cX12_tells 10 = .ok (.ifCond .eq 26, 3) := by decide +kernel
theorem dX12_tells_13 : decode cX12_tells 13 = .ok (.iload_n 1, 1) := by decide +kernel
theorem dX12_tells_14 : decode cX12_tells 14 = .ok (.iconst (-1), 1) := by decide +kernel
theorem dX12_tells_15 : decode cX12_tells 15 = .ok (.if_icmp .eq 23, 3) := by decide +kernel
theorem dX12_tells_18 : decode cX12_tells 18 = .ok (.iload_n 1, 1) := by decide +kernel
theorem dX12_tells_19 : decode cX12_tells 19 = .ok (.i2l, 1) := by decide +kernel
theorem dX12_tells_20 : decode cX12_tells 20 = .ok (.lconst 0, 1) := by decide +kernel
theorem dX12_tells_21 : decode cX12_tells 21 = .ok (.aload_n 0, 1) := by decide +kernel
theorem dX12_tells_22 : decode cX12_tells 22 = .ok (.getfield 13, 3) := by decide +kernel
theorem dX12_tells_25 : decode cX12_tells 25 = .ok (.iconst 2, 1) := by decide +kernel
theorem dX12_tells_26 : decode cX12_tells 26 = .ok (.iaload, 1) := by decide +kernel
theorem dX12_tells_27 : decode cX12_tells 27 = .ok (.i2l, 1) := by decide +kernel
theorem dX12_tells_28 : decode cX12_tells 28 = .ok (.lconst 1, 1) := by decide +kernel
theorem dX12_tells_29 : decode cX12_tells 29 = .ok (.lsub, 1) := by decide +kernel
theorem dX12_tells_30 : decode cX12_tells 30 = .ok (.invokestatic 179, 3) := by decide +kernel
theorem dX12_tells_33 : decode cX12_tells 33 = .ok (.ifCond .ne 5, 3) := by decide +kernel
theorem dX12_tells_36 : decode cX12_tells 36 = .ok (.iconst (-1), 1) := by decide +kernel
theorem dX12_tells_37 : decode cX12_tells 37 = .ok (.ireturn, 1) := by decide +kernel
theorem dX12_tells_38 : decode cX12_tells 38 = .ok (.iload_n 1, 1) := by decide +kernel
theorem dX12_tells_39 : decode cX12_tells 39 = .ok (.iconst (-1), 1) := by decide +kernel
theorem dX12_tells_40 : decode cX12_tells 40 = .ok (.if_icmp .ne 13, 3) := by decide +kernel
theorem dX12_tells_43 : decode cX12_tells 43 = .ok (.aload_n 0, 1) := by decide +kernel
theorem dX12_tells_44 : decode cX12_tells 44 = .ok (.iload_n 2, 1) := by decide +kernel
theorem dX12_tells_45 : decode cX12_tells 45 = .ok (.iconst 0, 1) := by decide +kernel
theorem dX12_tells_46 : decode cX12_tells 46 = .ok (.iconst 0, 1) := by decide +kernel
theorem dX12_tells_47 : decode cX12_tells 47 = .ok (.invokevirtual 522, 3) := by decide +kernel
theorem dX12_tells_50 : decode cX12_tells 50 = .ok (.goto 9, 3) := by decide +kernel
theorem dX12_tells_53 : decode cX12_tells 53 = .ok (.aload_n 0, 1) := by decide +kernel
theorem dX12_tells_54 : decode cX12_tells 54 = .ok (.iload_n 1, 1) := by decide +kernel
theorem dX12_tells_55 : decode cX12_tells 55 = .ok (.iload_n 2, 1) := by decide +kernel
theorem dX12_tells_56 : decode cX12_tells 56 = .ok (.invokevirtual 519, 3) := by decide +kernel
theorem dX12_tells_59 : decode cX12_tells 59 = .ok (.ireturn, 1) := by decide +kernel
theorem dX12_terms_0 : decode cX12_terms 0 = .ok (.aload_n 0, 1) := by decide +kernel
theorem dX12_terms_1 : decode cX12_terms 1 = .ok (.iconst 0, 1) := by decide +kernel
theorem dX12_terms_2 : decode cX12_terms 2 = .ok (.putfield 166, 3) := by decide +kernel
theorem dX12_terms_5 : decode cX12_terms 5 = .ok (.iload_n 1, 1) := by decide +kernel
theorem dX12_terms_6 : decode cX12_terms 6 = .ok (.ifCond .ne 15, 3) := by decide +kernel
theorem dX12_terms_9 : decode cX12_terms 9 = .ok (.iload_n 2, 1) := by decide +kernel
theorem dX12_terms_10 : decode cX12_terms 10 = .ok (.i2l, 1) := by decide +kernel
theorem dX12_terms_11 : decode cX12_terms 11 = .ok (.lconst 0, 1) := by decide +kernel
theorem dX12_terms_12 : decode cX12_terms 12 = .ok (.ldc2_w 230, 3) := by decide +kernel
theorem dX12_terms_15 : decode cX12_terms 15 = .ok (.invokestatic 179, 3) := by decide +kernel
theorem dX12_terms_18 : decode cX12_terms 18 = .ok (.goto 42, 3) := by decide +kernel
theorem dX12_terms_21 : decode cX12_terms 21 = .ok (.iload_n 1, 1) := by decide +kernel
theorem dX12_terms_22 : decode cX12_terms 22 = .ok (.iconst 1, 1) := by decide +kernel
theorem dX12_terms_23 : decode cX12_terms 23 = .ok (.if_icmp .ne 15, 3) := by decide +kernel
theorem dX12_terms_26 : decode cX12_terms 26 = .ok (.iload_n 2, 1) := by decide +kernel
theorem dX12_terms_27 : decode cX12_terms 27 = .ok (.i2l, 1) := by decide +kernel
theorem dX12_terms_28 : decode cX12_terms 28 = .ok (.lconst 1, 1) := by decide +kernel
theorem dX12_terms_29 : decode cX12_terms 29 = .ok (.ldc2_w 232, 3) := by decide +kernel
theorem dX12_terms_32 : decode cX12_terms 32 = .ok (.invokestatic 179, 3) := by decide +kernel
theorem dX12_terms_35 : decode cX12_terms 35 = .ok (.goto 25, 3) := by decide +kernel
theorem dX12_terms_38 : decode cX12_terms 38 = .ok (.iload_n 1, 1) := by decide +kernel
theorem dX12_terms_39 : decode cX12_terms 39 = .ok (.iconst 2, 1) := by decide +kernel
theorem dX12_terms_40 : decode cX12_terms 40 = .ok (.if_icmp .ne 19, 3) := by decide +kernel
theorem dX12_terms_43 : decode cX12_terms 43 = .ok (.iload_n 2, 1) := by decide +kernel
theorem dX12_terms_44 : decode cX12_terms 44 = .ok (.i2l, 1) := by decide +kernel
theorem dX12_terms_45 : decode cX12_terms 45 = .ok (.lconst 0, 1) := by decide +kernel
theorem dX12_terms_46 : decode cX12_terms 46 = .ok (.ldc2_w 234, 3) := by decide +kernel
theorem dX12_terms_49 : decode cX12_terms 49 = .ok (.invokestatic 179, 3) := by decide +kernel
theorem dX12_terms_52 : decode cX12_terms 52 = .ok (.ifCond .eq 7, 3) := by decide +kernel
theorem dX12_terms_55 : decode cX12_terms 55 = .ok (.iconst 1, 1) := by decide +kernel
theorem dX12_terms_56 : decode cX12_terms 56 = .ok (.goto 4, 3) := by decide +kernel
theorem dX12_terms_59 : decode cX12_terms 59 = .ok (.iconst 0, 1) := by decide +kernel
theorem dX12_terms_60 : decode cX12_terms 60 = .ok (.istore_n 3, 1) := by decide +kernel
theorem dX12_terms_61 : decode cX12_terms 61 = .ok (.iload_n 3, 1) := by decide +kernel
theorem dX12_terms_62 : decode cX12_terms 62 = .ok (.ifCond .ne 9, 3) := by decide +kernel
theorem dX12_terms_65 : decode cX12_terms 65 = .ok (.aload_n 0, 1) := by decide +kernel
theorem dX12_terms_66 : decode cX12_terms 66 = .ok (.iconst (-1), 1) := by decide +kernel
theorem dX12_terms_67 : decode cX12_terms 67 = .ok (.invokevirtual 175, 3) := by decide +kernel
theorem dX12_terms_70 : decode cX12_terms 70 = .ok (.ireturn, 1) := by decide +kernel
theorem dX12_terms_71 : decode cX12_terms 71 = .ok (.aload_n 0, 1) := by decide +kernel
theorem dX12_terms_72 : decode cX12_terms 72 = .ok (.getfield 13, 3) := by decide +kernel
theorem dX12_terms_75 : decode cX12_terms 75 = .ok (.bipush 6, 2) := by decide +kernel
theorem dX12_terms_77 : decode cX12_terms 77 = .ok (.iload_n 1, 1) := by decide +kernel
theorem dX12_terms_78 : decode cX12_terms 78 = .ok (.iadd, 1) := by decide +kernel
theorem dX12_terms_79 : decode cX12_terms 79 = .ok (.iaload, 1) := by decide +kernel
theorem dX12_terms_80 : decode cX12_terms 80 = .ok (.istore 4, 2) := by decide +kernel
theorem dX12_terms_82 : decode cX12_terms 82 = .ok (.aload_n 0, 1) := by decide +kernel
theorem dX12_terms_83 : decode cX12_terms 83 = .ok (.getfield 13, 3) := by decide +kernel
theorem dX12_terms_86 : decode cX12_terms 86 = .ok (.bipush 6, 2) := by decide +kernel
theorem dX12_terms_88 : decode cX12_terms 88 = .ok (.iload_n 1, 1) := by decide +kernel
theorem dX12_terms_89 : decode cX12_terms 89 = .ok (.iadd, 1) := by decide +kernel
theorem dX12_terms_90 : decode cX12_terms 90 = .ok (.iload_n 2, 1) := by decide +kernel
theorem dX12_terms_91 : decode cX12_terms 91 = .ok (.iastore, 1) := by decide +kernel
theorem dX12_terms_92 : decode cX12_terms 92 = .ok (.aload_n 0, 1) := by decide +kernel
theorem dX12_terms_93 : decode cX12_terms 93 = .ok (.iconst 0, 1) := by decide +kernel
theorem dX12_terms_94 : decode cX12_terms 94 = .ok (.putfield 172, 3) := by decide +kernel
theorem dX12_terms_97 : decode cX12_terms 97 = .ok (.aload_n 0, 1) := by decide +kernel
theorem dX12_terms_98 : decode cX12_terms 98 = .ok (.iload 4, 2) := by decide +kernel
theorem dX12_terms_100 : decode cX12_terms 100 = .ok (.invokevirtual 217, 3) := by decide +kernel
theorem dX12_terms_103 : decode cX12_terms 103 = .ok (.ireturn, 1) := by decide +kernel
theorem dX12_undoRow_0 : decode cX12_undoRow 0 = .ok (.bipush 9, 2) := by decide +kernel
theorem dX12_undoRow_2 : decode cX12_undoRow 2 = .ok (.istore_n 2, 1) := by decide +kernel
theorem dX12_undoRow_3 : decode cX12_undoRow 3 = .ok (.iload_n 2, 1) := by decide +kernel
theorem dX12_undoRow_4 : decode cX12_undoRow 4 = .ok (.sipush 213, 3) := by decide +kernel
theorem dX12_undoRow_7 : decode cX12_undoRow 7 = .ok (.if_icmp .ge 70, 3) := by decide +kernel
theorem dX12_undoRow_10 : decode cX12_undoRow 10 = .ok (.iload_n 2, 1) := by decide +kernel
theorem dX12_undoRow_11 : decode cX12_undoRow 11 = .ok (.bipush 45, 2) := by decide +kernel
theorem dX12_undoRow_13 : decode cX12_undoRow 13 = .ok (.if_icmp .lt 25, 3) := by decide +kernel
theorem dX12_undoRow_16 : decode cX12_undoRow 16 = .ok (.iload_n 2, 1) := by decide +kernel
theorem dX12_undoRow_17 : decode cX12_undoRow 17 = .ok (.sipush 141, 3) := by decide +kernel
theorem dX12_undoRow_20 : decode cX12_undoRow 20 = .ok (.if_icmp .ge 18, 3) := by decide +kernel
theorem dX12_undoRow_23 : decode cX12_undoRow 23 = .ok (.iload_n 2, 1) := by decide +kernel
theorem dX12_undoRow_24 : decode cX12_undoRow 24 = .ok (.bipush 45, 2) := by decide +kernel
theorem dX12_undoRow_26 : decode cX12_undoRow 26 = .ok (.isub, 1) := by decide +kernel
theorem dX12_undoRow_27 : decode cX12_undoRow 27 = .ok (.bipush 6, 2) := by decide +kernel
theorem dX12_undoRow_29 : decode cX12_undoRow 29 = .ok (.irem, 1) := by decide +kernel
theorem dX12_undoRow_30 : decode cX12_undoRow 30 = .ok (.iconst 5, 1) := by decide +kernel
theorem dX12_undoRow_31 : decode cX12_undoRow 31 = .ok (.if_icmp .ne 7, 3) := by decide +kernel
theorem dX12_undoRow_34 : decode cX12_undoRow 34 = .ok (.iconst 1, 1) := by decide +kernel
theorem dX12_undoRow_35 : decode cX12_undoRow 35 = .ok (.goto 4, 3) := by decide +kernel
theorem dX12_undoRow_38 : decode cX12_undoRow 38 = .ok (.iconst 0, 1) := by decide +kernel
theorem dX12_undoRow_39 : decode cX12_undoRow 39 = .ok (.istore_n 3, 1) := by decide +kernel
theorem dX12_undoRow_40 : decode cX12_undoRow 40 = .ok (.aload_n 0, 1) := by decide +kernel
theorem dX12_undoRow_41 : decode cX12_undoRow 41 = .ok (.getfield 13, 3) := by decide +kernel
theorem dX12_undoRow_44 : decode cX12_undoRow 44 = .ok (.iload_n 2, 1) := by decide +kernel
theorem dX12_undoRow_45 : decode cX12_undoRow 45 = .ok (.iload_n 3, 1) := by decide +kernel
theorem dX12_undoRow_46 : decode cX12_undoRow 46 = .ok (.ifCond .eq 12, 3) := by decide +kernel
theorem dX12_undoRow_49 : decode cX12_undoRow 49 = .ok (.aload_n 0, 1) := by decide +kernel
theorem dX12_undoRow_50 : decode cX12_undoRow 50 = .ok (.getfield 13, 3) := by decide +kernel
theorem dX12_undoRow_53 : decode cX12_undoRow 53 = .ok (.iload_n 2, 1) := by decide +kernel
theorem dX12_undoRow_54 : decode cX12_undoRow 54 = .ok (.iaload, 1) := by decide +kernel
theorem dX12_undoRow_55 : decode cX12_undoRow 55 = .ok (.goto 15, 3) := by decide +kernel
theorem dX12_undoRow_58 : decode cX12_undoRow 58 = .ok (.aload_n 0, 1) := by decide +kernel
theorem dX12_undoRow_59 : decode cX12_undoRow 59 = .ok (.getfield 23, 3) := by decide +kernel
theorem dX12_undoRow_62 : decode cX12_undoRow 62 = .ok (.sipush 270, 3) := by decide +kernel
theorem dX12_undoRow_65 : decode cX12_undoRow 65 = .ok (.iload_n 1, 1) := by decide +kernel
theorem dX12_undoRow_66 : decode cX12_undoRow 66 = .ok (.imul, 1) := by decide +kernel
theorem dX12_undoRow_67 : decode cX12_undoRow 67 = .ok (.iload_n 2, 1) := by decide +kernel
theorem dX12_undoRow_68 : decode cX12_undoRow 68 = .ok (.iadd, 1) := by decide +kernel
theorem dX12_undoRow_69 : decode cX12_undoRow 69 = .ok (.iaload, 1) := by decide +kernel
theorem dX12_undoRow_70 : decode cX12_undoRow 70 = .ok (.iastore, 1) := by decide +kernel
theorem dX12_undoRow_71 : decode cX12_undoRow 71 = .ok (.iinc 2 1, 3) := by decide +kernel
theorem dX12_undoRow_74 : decode cX12_undoRow 74 = .ok (.goto (-71), 3) := by decide +kernel
theorem dX12_undoRow_77 : decode cX12_undoRow 77 = .ok (.aload_n 0, 1) := by decide +kernel
theorem dX12_undoRow_78 : decode cX12_undoRow 78 = .ok (.getfield 13, 3) := by decide +kernel
theorem dX12_undoRow_81 : decode cX12_undoRow 81 = .ok (.bipush 6, 2) := by decide +kernel
theorem dX12_undoRow_83 : decode cX12_undoRow 83 = .ok (.aload_n 0, 1) := by decide +kernel
theorem dX12_undoRow_84 : decode cX12_undoRow 84 = .ok (.getfield 23, 3) := by decide +kernel
theorem dX12_undoRow_87 : decode cX12_undoRow 87 = .ok (.sipush 270, 3) := by decide +kernel
theorem dX12_undoRow_90 : decode cX12_undoRow 90 = .ok (.iload_n 1, 1) := by decide +kernel
theorem dX12_undoRow_91 : decode cX12_undoRow 91 = .ok (.imul, 1) := by decide +kernel
theorem dX12_undoRow_92 : decode cX12_undoRow 92 = .ok (.bipush 6, 2) := by decide +kernel
theorem dX12_undoRow_94 : decode cX12_undoRow 94 = .ok (.iadd, 1) := by decide +kernel
theorem dX12_undoRow_95 : decode cX12_undoRow 95 = .ok (.iconst 0, 1) := by decide +kernel
theorem dX12_undoRow_96 : decode cX12_undoRow 96 = .ok (.iadd, 1) := by decide +kernel
theorem dX12_undoRow_97 : decode cX12_undoRow 97 = .ok (.iaload, 1) := by decide +kernel
theorem dX12_undoRow_98 : decode cX12_undoRow 98 = .ok (.iastore, 1) := by decide +kernel
theorem dX12_undoRow_99 : decode cX12_undoRow 99 = .ok (.return_, 1) := by decide +kernel
theorem dX12_undo_0 : decode cX12_undo 0 = .ok (.aload_n 0, 1) := by decide +kernel
theorem dX12_undo_1 : decode cX12_undo 1 = .ok (.iconst 0, 1) := by decide +kernel
theorem dX12_undo_2 : decode cX12_undo 2 = .ok (.putfield 166, 3) := by decide +kernel
theorem dX12_undo_5 : decode cX12_undo 5 = .ok (.aload_n 0, 1) := by decide +kernel
theorem dX12_undo_6 : decode cX12_undo 6 = .ok (.getfield 172, 3) := by decide +kernel
theorem dX12_undo_9 : decode cX12_undo 9 = .ok (.ifCond .ne 10, 3) := by decide +kernel
theorem dX12_undo_12 : decode cX12_undo 12 = .ok (.aload_n 0, 1) := by decide +kernel
theorem dX12_undo_13 : decode cX12_undo 13 = .ok (.bipush (-3), 2) := by decide +kernel
theorem dX12_undo_15 : decode cX12_undo 15 = .ok (.invokevirtual 175, 3) := by decide +kernel
theorem dX12_undo_18 : decode cX12_undo 18 = .ok (.ireturn, 1) := by decide +kernel
theorem dX12_undo_19 : decode cX12_undo 19 = .ok (.aload_n 0, 1) := by decide +kernel
theorem dX12_undo_20 : decode cX12_undo 20 = .ok (.dup, 1) := by decide +kernel
theorem dX12_undo_21 : decode cX12_undo 21 = .ok (.getfield 172, 3) := by decide +kernel
theorem dX12_undo_24 : decode cX12_undo 24 = .ok (.iconst 1, 1) := by decide +kernel
theorem dX12_undo_25 : decode cX12_undo 25 = .ok (.isub, 1) := by decide +kernel
theorem dX12_undo_26 : decode cX12_undo 26 = .ok (.putfield 172, 3) := by decide +kernel
theorem dX12_undo_29 : decode cX12_undo 29 = .ok (.aload_n 0, 1) := by decide +kernel
theorem dX12_undo_30 : decode cX12_undo 30 = .ok (.aload_n 0, 1) := by decide +kernel
theorem dX12_undo_31 : decode cX12_undo 31 = .ok (.getfield 172, 3) := by decide +kernel
theorem dX12_undo_34 : decode cX12_undo 34 = .ok (.invokevirtual 483, 3) := by decide +kernel
theorem dX12_undo_37 : decode cX12_undo 37 = .ok (.aload_n 0, 1) := by decide +kernel
theorem dX12_undo_38 : decode cX12_undo 38 = .ok (.aload_n 0, 1) := by decide +kernel
theorem dX12_undo_39 : decode cX12_undo 39 = .ok (.getfield 26, 3) := by decide +kernel
theorem dX12_undo_42 : decode cX12_undo 42 = .ok (.aload_n 0, 1) := by decide +kernel
theorem dX12_undo_43 : decode cX12_undo 43 = .ok (.getfield 172, 3) := by decide +kernel
theorem dX12_undo_46 : decode cX12_undo 46 = .ok (.iaload, 1) := by decide +kernel
theorem dX12_undo_47 : decode cX12_undo 47 = .ok (.invokevirtual 175, 3) := by decide +kernel
theorem dX12_undo_50 : decode cX12_undo 50 = .ok (.ireturn, 1) := by decide +kernel
theorem dX12_way_0 : decode cX12_way 0 = .ok (.aload_n 0, 1) := by decide +kernel
theorem dX12_way_1 : decode cX12_way 1 = .ok (.iconst 0, 1) := by decide +kernel
theorem dX12_way_2 : decode cX12_way 2 = .ok (.putfield 166, 3) := by decide +kernel
theorem dX12_way_5 : decode cX12_way 5 = .ok (.aload_n 0, 1) := by decide +kernel
theorem dX12_way_6 : decode cX12_way 6 = .ok (.iload_n 1, 1) := by decide +kernel
theorem dX12_way_7 : decode cX12_way 7 = .ok (.invokevirtual 198, 3) := by decide +kernel
theorem dX12_way_10 : decode cX12_way 10 = .ok (.ifCond .eq 23, 3) := by decide +kernel
theorem dX12_way_13 : decode cX12_way 13 = .ok (.aload_n 0, 1) := by decide +kernel
theorem dX12_way_14 : decode cX12_way 14 = .ok (.iload_n 2, 1) := by decide +kernel
theorem dX12_way_15 : decode cX12_way 15 = .ok (.invokevirtual 198, 3) := by decide +kernel
theorem dX12_way_18 : decode cX12_way 18 = .ok (.ifCond .eq 15, 3) := by decide +kernel
theorem dX12_way_21 : decode cX12_way 21 = .ok (.iload_n 3, 1) := by decide +kernel
theorem dX12_way_22 : decode cX12_way 22 = .ok (.i2l, 1) := by decide +kernel
theorem dX12_way_23 : decode cX12_way 23 = .ok (.lconst 0, 1) := by decide +kernel
theorem dX12_way_24 : decode cX12_way 24 = .ok (.ldc2_w 548, 3) := by decide +kernel
theorem dX12_way_27 : decode cX12_way 27 = .ok (.invokestatic 179, 3) := by decide +kernel
theorem dX12_way_30 : decode cX12_way 30 = .ok (.ifCond .ne 5, 3) := by decide +kernel
theorem dX12_way_33 : decode cX12_way 33 = .ok (.iconst (-1), 1) := by decide +kernel
theorem dX12_way_34 : decode cX12_way 34 = .ok (.ireturn, 1) := by decide +kernel
theorem dX12_way_35 : decode cX12_way 35 = .ok (.aload_n 0, 1) := by decide +kernel
theorem dX12_way_36 : decode cX12_way 36 = .ok (.iload_n 1, 1) := by decide +kernel
theorem dX12_way_37 : decode cX12_way 37 = .ok (.iload_n 2, 1) := by decide +kernel
theorem dX12_way_38 : decode cX12_way 38 = .ok (.invokevirtual 550, 3) := by decide +kernel
theorem dX12_way_41 : decode cX12_way 41 = .ok (.aload_n 0, 1) := by decide +kernel
theorem dX12_way_42 : decode cX12_way 42 = .ok (.getfield 530, 3) := by decide +kernel
theorem dX12_way_45 : decode cX12_way 45 = .ok (.ifCond .eq 13, 3) := by decide +kernel
theorem dX12_way_48 : decode cX12_way 48 = .ok (.iload_n 3, 1) := by decide +kernel
theorem dX12_way_49 : decode cX12_way 49 = .ok (.iconst 3, 1) := by decide +kernel
theorem dX12_way_50 : decode cX12_way 50 = .ok (.aload_n 0, 1) := by decide +kernel
theorem dX12_way_51 : decode cX12_way 51 = .ok (.getfield 539, 3) := by decide +kernel
theorem dX12_way_54 : decode cX12_way 54 = .ok (.iadd, 1) := by decide +kernel
theorem dX12_way_55 : decode cX12_way 55 = .ok (.if_icmp .le 5, 3) := by decide +kernel
theorem dX12_way_58 : decode cX12_way 58 = .ok (.iconst (-1), 1) := by decide +kernel
theorem dX12_way_59 : decode cX12_way 59 = .ok (.ireturn, 1) := by decide +kernel
theorem dX12_way_60 : decode cX12_way 60 = .ok (.iload_n 3, 1) := by decide +kernel
theorem dX12_way_61 : decode cX12_way 61 = .ok (.ifCond .ne 10, 3) := by decide +kernel
theorem dX12_way_64 : decode cX12_way 64 = .ok (.aload_n 0, 1) := by decide +kernel
theorem dX12_way_65 : decode cX12_way 65 = .ok (.getfield 530, 3) := by decide +kernel
theorem dX12_way_68 : decode cX12_way 68 = .ok (.goto 35, 3) := by decide +kernel
theorem dX12_way_71 : decode cX12_way 71 = .ok (.iload_n 3, 1) := by decide +kernel
theorem dX12_way_72 : decode cX12_way 72 = .ok (.iconst 1, 1) := by decide +kernel
theorem dX12_way_73 : decode cX12_way 73 = .ok (.if_icmp .ne 10, 3) := by decide +kernel
theorem dX12_way_76 : decode cX12_way 76 = .ok (.aload_n 0, 1) := by decide +kernel
theorem dX12_way_77 : decode cX12_way 77 = .ok (.getfield 533, 3) := by decide +kernel
theorem dX12_way_80 : decode cX12_way 80 = .ok (.goto 23, 3) := by decide +kernel
theorem dX12_way_83 : decode cX12_way 83 = .ok (.iload_n 3, 1) := by decide +kernel
theorem dX12_way_84 : decode cX12_way 84 = .ok (.iconst 2, 1) := by decide +kernel
theorem dX12_way_85 : decode cX12_way 85 = .ok (.if_icmp .ne 10, 3) := by decide +kernel
theorem dX12_way_88 : decode cX12_way 88 = .ok (.aload_n 0, 1) := by decide +kernel
theorem dX12_way_89 : decode cX12_way 89 = .ok (.getfield 539, 3) := by decide +kernel
theorem dX12_way_92 : decode cX12_way 92 = .ok (.goto 11, 3) := by decide +kernel
theorem dX12_way_95 : decode cX12_way 95 = .ok (.aload_n 0, 1) := by decide +kernel
theorem dX12_way_96 : decode cX12_way 96 = .ok (.getfield 133, 3) := by decide +kernel
theorem dX12_way_99 : decode cX12_way 99 = .ok (.iload_n 3, 1) := by decide +kernel
theorem dX12_way_100 : decode cX12_way 100 = .ok (.iconst 3, 1) := by decide +kernel
theorem dX12_way_101 : decode cX12_way 101 = .ok (.isub, 1) := by decide +kernel
theorem dX12_way_102 : decode cX12_way 102 = .ok (.iaload, 1) := by decide +kernel
theorem dX12_way_103 : decode cX12_way 103 = .ok (.ireturn, 1) := by decide +kernel
theorem dX5_bracketed_0 : decode cX5_bracketed 0 = .ok (.aload_n 0, 1) := by decide +kernel
theorem dX5_bracketed_1 : decode cX5_bracketed 1 = .ok (.getfield 50, 3) := by decide +kernel
theorem dX5_bracketed_4 : decode cX5_bracketed 4 = .ok (.iload_n 2, 1) := by decide +kernel
theorem dX5_bracketed_5 : decode cX5_bracketed 5 = .ok (.if_icmp .ne 9, 3) := by decide +kernel
theorem dX5_bracketed_8 : decode cX5_bracketed 8 = .ok (.iload_n 1, 1) := by decide +kernel
theorem dX5_bracketed_9 : decode cX5_bracketed 9 = .ok (.bipush 8, 2) := by decide +kernel
theorem dX5_bracketed_11 : decode cX5_bracketed 11 = .ok (.if_icmp .lt 8, 3) := by decide +kernel
theorem dX5_bracketed_14 : decode cX5_bracketed 14 = .ok (.aload_n 0, 1) := by decide +kernel
theorem dX5_bracketed_15 : decode cX5_bracketed 15 = .ok (.invokevirtual 69, 3) := by decide +kernel
theorem dX5_bracketed_18 : decode cX5_bracketed 18 = .ok (.ireturn, 1) := by decide +kernel
theorem dX5_bracketed_19 : decode cX5_bracketed 19 = .ok (.aload_n 0, 1) := by decide +kernel
theorem dX5_bracketed_20 : decode cX5_bracketed 20 = .ok (.invokevirtual 66, 3) := by decide +kernel
theorem dX5_bracketed_23 : decode cX5_bracketed 23 = .ok (.iload_n 2, 1) := by decide +kernel
theorem dX5_bracketed_24 : decode cX5_bracketed 24 = .ok (.bipush 40, 2) := by decide +kernel
theorem dX5_bracketed_26 : decode cX5_bracketed 26 = .ok (.if_icmp .ne 13, 3) := by decide +kernel
theorem dX5_bracketed_29 : decode cX5_bracketed 29 = .ok (.aload_n 0, 1) := by decide +kernel
theorem dX5_bracketed_30 : decode cX5_bracketed 30 = .ok (.iload_n 1, 1) := by decide +kernel
theorem dX5_bracketed_31 : decode cX5_bracketed 31 = .ok (.iconst 1, 1) := by decide +kernel
theorem dX5_bracketed_32 : decode cX5_bracketed 32 = .ok (.iadd, 1) := by decide +kernel
theorem dX5_bracketed_33 : decode cX5_bracketed 33 = .ok (.invokevirtual 123, 3) := by decide +kernel
theorem dX5_bracketed_36 : decode cX5_bracketed 36 = .ok (.goto 10, 3) := by decide +kernel
theorem dX5_bracketed_39 : decode cX5_bracketed 39 = .ok (.aload_n 0, 1) := by decide +kernel
theorem dX5_bracketed_40 : decode cX5_bracketed 40 = .ok (.iload_n 1, 1) := by decide +kernel
theorem dX5_bracketed_41 : decode cX5_bracketed 41 = .ok (.iconst 1, 1) := by decide +kernel
theorem dX5_bracketed_42 : decode cX5_bracketed 42 = .ok (.iadd, 1) := by decide +kernel
theorem dX5_bracketed_43 : decode cX5_bracketed 43 = .ok (.invokevirtual 126, 3) := by decide +kernel
theorem dX5_bracketed_46 : decode cX5_bracketed 46 = .ok (.istore 4, 2) := by decide +kernel
theorem dX5_bracketed_48 : decode cX5_bracketed 48 = .ok (.iload 4, 2) := by decide +kernel
theorem dX5_bracketed_50 : decode cX5_bracketed 50 = .ok (.ifCond .ne 5, 3) := by decide +kernel
theorem dX5_bracketed_53 : decode cX5_bracketed 53 = .ok (.iconst 0, 1) := by decide +kernel
theorem dX5_bracketed_54 : decode cX5_bracketed 54 = .ok (.ireturn, 1) := by decide +kernel
theorem dX5_bracketed_55 : decode cX5_bracketed 55 = .ok (.aload_n 0, 1) := by decide +kernel
theorem dX5_bracketed_56 : decode cX5_bracketed 56 = .ok (.getfield 50, 3) := by decide +kernel
theorem dX5_bracketed_59 : decode cX5_bracketed 59 = .ok (.iload_n 3, 1) := by decide +kernel
theorem dX5_bracketed_60 : decode cX5_bracketed 60 = .ok (.if_icmp .eq 8, 3) := by decide +kernel
theorem dX5_bracketed_63 : decode cX5_bracketed 63 = .ok (.aload_n 0, 1) := by decide +kernel
theorem dX5_bracketed_64 : decode cX5_bracketed 64 = .ok (.invokevirtual 69, 3) := by decide +kernel
theorem dX5_bracketed_67 : decode cX5_bracketed 67 = .ok (.ireturn, 1) := by decide +kernel
theorem dX5_bracketed_68 : decode cX5_bracketed 68 = .ok (.aload_n 0, 1) := by decide +kernel
theorem dX5_bracketed_69 : decode cX5_bracketed 69 = .ok (.invokevirtual 66, 3) := by decide +kernel
theorem dX5_bracketed_72 : decode cX5_bracketed 72 = .ok (.iconst 1, 1) := by decide +kernel
theorem dX5_bracketed_73 : decode cX5_bracketed 73 = .ok (.ireturn, 1) := by decide +kernel
