theorem dX11_duel_16 : decode cX11_duel 16 = .ok (.invokevirtual 121, 3) := by decide +kernel
theorem dX11_duel_19 : decode cX11_duel 19 = .ok (.ifCond .eq 8, 3) := by decide +kernel
theorem dX11_duel_22 : decode cX11_duel 22 = .ok (.iload_n 1, 1) := by decide +kernel
theorem dX11_duel_23 : decode cX11_duel 23 = .ok (.iload_n 2, 1) := by decide +kernel
theorem dX11_duel_24 : decode cX11_duel 24 = .ok (.if_icmp .ne 5, 3) := by decide +kernel
theorem dX11_duel_27 : decode cX11_duel 27 = .ok (.iconst (-1), 1) := by decide +kernel
theorem dX11_duel_28 : decode cX11_duel 28 = .ok (.ireturn, 1) := by decide +kernel
theorem dX11_duel_29 : decode cX11_duel 29 = .ok (.aload_n 0, 1) := by decide +kernel
theorem dX11_duel_30 : decode cX11_duel 30 = .ok (.getfield 64, 3) := by decide +kernel
theorem dX11_duel_33 : decode cX11_duel 33 = .ok (.aload_n 0, 1) := by decide +kernel
theorem dX11_duel_34 : decode cX11_duel 34 = .ok (.getfield 10, 3) := by decide +kernel
theorem dX11_duel_37 : decode cX11_duel 37 = .ok (.iload_n 1, 1) := by decide +kernel
theorem dX11_duel_38 : decode cX11_duel 38 = .ok (.iload_n 2, 1) := by decide +kernel
theorem dX11_duel_39 : decode cX11_duel 39 = .ok (.iload_n 3, 1) := by decide +kernel
theorem dX11_duel_40 : decode cX11_duel 40 = .ok (.invokevirtual 254, 3) := by decide +kernel
theorem dX11_duel_43 : decode cX11_duel 43 = .ok (.ireturn, 1) := by decide +kernel
theorem dX5_cut_0 : decode cX5_cut 0 = .ok (.aload_n 0, 1) := by decide +kernel
theorem dX5_cut_1 : decode cX5_cut 1 = .ok (.iload_n 1, 1) := by decide +kernel
theorem dX5_cut_2 : decode cX5_cut 2 = .ok (.putfield 33, 3) := by decide +kernel
theorem dX5_cut_5 : decode cX5_cut 5 = .ok (.return_, 1) := by decide +kernel
theorem dX11_end_0 : decode cX11_end 0 = .ok (.iload_n 1, 1) := by decide +kernel
theorem dX11_end_1 : decode cX11_end 1 = .ok (.iconst 0, 1) := by decide +kernel
theorem dX11_end_2 : decode cX11_end 2 = .ok (.aload_n 0, 1) := by decide +kernel
theorem dX11_end_3 : decode cX11_end 3 = .ok (.getfield 32, 3) := by decide +kernel
theorem dX11_end_6 : decode cX11_end 6 = .ok (.invokevirtual 167, 3) := by decide +kernel
theorem dX11_end_9 : decode cX11_end 9 = .ok (.invokestatic 100, 3) := by decide +kernel
theorem dX11_end_12 : decode cX11_end 12 = .ok (.ifCond .ne 5, 3) := by decide +kernel
theorem dX11_end_15 : decode cX11_end 15 = .ok (.iconst (-1), 1) := by decide +kernel
theorem dX11_end_16 : decode cX11_end 16 = .ok (.ireturn, 1) := by decide +kernel
theorem dX11_end_17 : decode cX11_end 17 = .ok (.aload_n 0, 1) := by decide +kernel
theorem dX11_end_18 : decode cX11_end 18 = .ok (.getfield 32, 3) := by decide +kernel
theorem dX11_end_21 : decode cX11_end 21 = .ok (.iload_n 1, 1) := by decide +kernel
theorem dX11_end_22 : decode cX11_end 22 = .ok (.invokevirtual 171, 3) := by decide +kernel
theorem dX11_end_25 : decode cX11_end 25 = .ok (.iload_n 1, 1) := by decide +kernel
theorem dX11_end_26 : decode cX11_end 26 = .ok (.ireturn, 1) := by decide +kernel
theorem dX5_faultPlace_0 : decode cX5_faultPlace 0 = .ok (.aload_n 0, 1) := by decide +kernel
theorem dX5_faultPlace_1 : decode cX5_faultPlace 1 = .ok (.getfield 37, 3) := by decide +kernel
theorem dX5_faultPlace_4 : decode cX5_faultPlace 4 = .ok (.ireturn, 1) := by decide +kernel
theorem dX11_fault_0 : decode cX11_fault 0 = .ok (.aload_n 0, 1) := by decide +kernel
theorem dX11_fault_1 : decode cX11_fault 1 = .ok (.getfield 32, 3) := by decide +kernel
theorem dX11_fault_4 : decode cX11_fault 4 = .ok (.invokevirtual 204, 3) := by decide +kernel
theorem dX11_fault_7 : decode cX11_fault 7 = .ok (.ireturn, 1) := by decide +kernel
theorem dX5_append_0 : decode cX5_append 0 = .ok (.bipush 24, 2) := by decide +kernel
theorem dX5_append_2 : decode cX5_append 2 = .ok (.istore_n 2, 1) := by decide +kernel
theorem dX5_append_3 : decode cX5_append 3 = .ok (.iload_n 2, 1) := by decide +kernel
theorem dX5_append_4 : decode cX5_append 4 = .ok (.ifCond .lt 45, 3) := by decide +kernel
theorem dX5_append_7 : decode cX5_append 7 = .ok (.aload_n 0, 1) := by decide +kernel
theorem dX5_append_8 : decode cX5_append 8 = .ok (.getfield 33, 3) := by decide +kernel
theorem dX5_append_11 : decode cX5_append 11 = .ok (.sipush 400, 3) := by decide +kernel
theorem dX5_append_14 : decode cX5_append 14 = .ok (.if_icmp .ge 35, 3) := by decide +kernel
theorem dX5_append_17 : decode cX5_append 17 = .ok (.aload_n 0, 1) := by decide +kernel
theorem dX5_append_18 : decode cX5_append 18 = .ok (.getfield 11, 3) := by decide +kernel
theorem dX5_append_21 : decode cX5_append 21 = .ok (.aload_n 0, 1) := by decide +kernel
theorem dX5_append_22 : decode cX5_append 22 = .ok (.getfield 33, 3) := by decide +kernel
theorem dX5_append_25 : decode cX5_append 25 = .ok (.iload_n 1, 1) := by decide +kernel
theorem dX5_append_26 : decode cX5_append 26 = .ok (.iload_n 2, 1) := by decide +kernel
theorem dX5_append_27 : decode cX5_append 27 = .ok (.iushr, 1) := by decide +kernel
theorem dX5_append_28 : decode cX5_append 28 = .ok (.sipush 255, 3) := by decide +kernel
theorem dX5_append_31 : decode cX5_append 31 = .ok (.iand, 1) := by decide +kernel
theorem dX5_append_32 : decode cX5_append 32 = .ok (.iastore, 1) := by decide +kernel
theorem dX5_append_33 : decode cX5_append 33 = .ok (.aload_n 0, 1) := by decide +kernel
theorem dX5_append_34 : decode cX5_append 34 = .ok (.dup, 1) := by decide +kernel
theorem dX5_append_35 : decode cX5_append 35 = .ok (.getfield 33, 3) := by decide +kernel
theorem dX5_append_38 : decode cX5_append 38 = .ok (.iconst 1, 1) := by decide +kernel
theorem dX5_append_39 : decode cX5_append 39 = .ok (.iadd, 1) := by decide +kernel
theorem dX5_append_40 : decode cX5_append 40 = .ok (.putfield 33, 3) := by decide +kernel
theorem dX5_append_43 : decode cX5_append 43 = .ok (.iinc 2 (-8), 3) := by decide +kernel
theorem dX5_append_46 : decode cX5_append 46 = .ok (.goto (-43), 3) := by decide +kernel
theorem dX5_append_49 : decode cX5_append 49 = .ok (.return_, 1) := by decide +kernel
theorem dX5_hasRoom_0 : decode cX5_hasRoom 0 = .ok (.aload_n 0, 1) := by decide +kernel
theorem dX5_hasRoom_1 : decode cX5_hasRoom 1 = .ok (.getfield 33, 3) := by decide +kernel
theorem dX5_hasRoom_4 : decode cX5_hasRoom 4 = .ok (.iload_n 1, 1) := by decide +kernel
theorem dX5_hasRoom_5 : decode cX5_hasRoom 5 = .ok (.iadd, 1) := by decide +kernel
theorem dX5_hasRoom_6 : decode cX5_hasRoom 6 = .ok (.sipush 400, 3) := by decide +kernel
theorem dX5_hasRoom_9 : decode cX5_hasRoom 9 = .ok (.if_icmp .gt 7, 3) := by decide +kernel
theorem dX5_hasRoom_12 : decode cX5_hasRoom 12 = .ok (.iconst 1, 1) := by decide +kernel
theorem dX5_hasRoom_13 : decode cX5_hasRoom 13 = .ok (.goto 4, 3) := by decide +kernel
theorem dX5_hasRoom_16 : decode cX5_hasRoom 16 = .ok (.iconst 0, 1) := by decide +kernel
theorem dX5_hasRoom_17 : decode cX5_hasRoom 17 = .ok (.ireturn, 1) := by decide +kernel
theorem dX11_feed_0 : decode cX11_feed 0 = .ok (.aload_n 0, 1) := by decide +kernel
theorem dX11_feed_1 : decode cX11_feed 1 = .ok (.getfield 32, 3) := by decide +kernel
theorem dX11_feed_4 : decode cX11_feed 4 = .ok (.bipush 20, 2) := by decide +kernel
theorem dX11_feed_6 : decode cX11_feed 6 = .ok (.invokevirtual 160, 3) := by decide +kernel
theorem dX11_feed_9 : decode cX11_feed 9 = .ok (.ifCond .ne 5, 3) := by decide +kernel
theorem dX11_feed_12 : decode cX11_feed 12 = .ok (.iconst (-1), 1) := by decide +kernel
theorem dX11_feed_13 : decode cX11_feed 13 = .ok (.ireturn, 1) := by decide +kernel
theorem dX11_feed_14 : decode cX11_feed 14 = .ok (.aload_n 0, 1) := by decide +kernel
theorem dX11_feed_15 : decode cX11_feed 15 = .ok (.getfield 32, 3) := by decide +kernel
theorem dX11_feed_18 : decode cX11_feed 18 = .ok (.iload_n 1, 1) := by decide +kernel
theorem dX11_feed_19 : decode cX11_feed 19 = .ok (.invokevirtual 163, 3) := by decide +kernel
theorem dX11_feed_22 : decode cX11_feed 22 = .ok (.aload_n 0, 1) := by decide +kernel
theorem dX11_feed_23 : decode cX11_feed 23 = .ok (.getfield 32, 3) := by decide +kernel
theorem dX11_feed_26 : decode cX11_feed 26 = .ok (.iload_n 2, 1) := by decide +kernel
theorem dX11_feed_27 : decode cX11_feed 27 = .ok (.invokevirtual 163, 3) := by decide +kernel
theorem dX11_feed_30 : decode cX11_feed 30 = .ok (.aload_n 0, 1) := by decide +kernel
theorem dX11_feed_31 : decode cX11_feed 31 = .ok (.getfield 32, 3) := by decide +kernel
theorem dX11_feed_34 : decode cX11_feed 34 = .ok (.iload_n 3, 1) := by decide +kernel
theorem dX11_feed_35 : decode cX11_feed 35 = .ok (.invokevirtual 163, 3) := by decide +kernel
theorem dX11_feed_38 : decode cX11_feed 38 = .ok (.aload_n 0, 1) := by decide +kernel
theorem dX11_feed_39 : decode cX11_feed 39 = .ok (.getfield 32, 3) := by decide +kernel
theorem dX11_feed_42 : decode cX11_feed 42 = .ok (.iload 4, 2) := by decide +kernel
theorem dX11_feed_44 : decode cX11_feed 44 = .ok (.invokevirtual 163, 3) := by decide +kernel
theorem dX11_feed_47 : decode cX11_feed 47 = .ok (.aload_n 0, 1) := by decide +kernel
theorem dX11_feed_48 : decode cX11_feed 48 = .ok (.getfield 32, 3) := by decide +kernel
theorem dX11_feed_51 : decode cX11_feed 51 = .ok (.iload 5, 2) := by decide +kernel
theorem dX11_feed_53 : decode cX11_feed 53 = .ok (.invokevirtual 163, 3) := by decide +kernel
theorem dX11_feed_56 : decode cX11_feed 56 = .ok (.aload_n 0, 1) := by decide +kernel
theorem dX11_feed_57 : decode cX11_feed 57 = .ok (.getfield 32, 3) := by decide +kernel
theorem dX11_feed_60 : decode cX11_feed 60 = .ok (.invokevirtual 167, 3) := by decide +kernel
theorem dX11_feed_63 : decode cX11_feed 63 = .ok (.ireturn, 1) := by decide +kernel
theorem dX11_force_0 : decode cX11_force 0 = .ok (.iload_n 1, 1) := by decide +kernel
theorem dX11_force_1 : decode cX11_force 1 = .ok (.iconst (-1), 1) := by decide +kernel
theorem dX11_force_2 : decode cX11_force 2 = .ok (.aload_n 0, 1) := by decide +kernel
theorem dX11_force_3 : decode cX11_force 3 = .ok (.getfield 10, 3) := by decide +kernel
theorem dX11_force_6 : decode cX11_force 6 = .ok (.iconst 4, 1) := by decide +kernel
theorem dX11_force_7 : decode cX11_force 7 = .ok (.invokevirtual 108, 3) := by decide +kernel
theorem dX11_force_10 : decode cX11_force 10 = .ok (.iconst 1, 1) := by decide +kernel
theorem dX11_force_11 : decode cX11_force 11 = .ok (.isub, 1) := by decide +kernel
theorem dX11_force_12 : decode cX11_force 12 = .ok (.invokestatic 100, 3) := by decide +kernel
theorem dX11_force_15 : decode cX11_force 15 = .ok (.ifCond .ne 10, 3) := by decide +kernel
theorem dX11_force_18 : decode cX11_force 18 = .ok (.aload_n 0, 1) := by decide +kernel
theorem dX11_force_19 : decode cX11_force 19 = .ok (.bipush (-2), 2) := by decide +kernel
theorem dX11_force_21 : decode cX11_force 21 = .ok (.invokevirtual 104, 3) := by decide +kernel
theorem dX11_force_24 : decode cX11_force 24 = .ok (.ireturn, 1) := by decide +kernel
theorem dX11_force_25 : decode cX11_force 25 = .ok (.aload_n 0, 1) := by decide +kernel
theorem dX11_force_26 : decode cX11_force 26 = .ok (.getfield 10, 3) := by decide +kernel
theorem dX11_force_29 : decode cX11_force 29 = .ok (.invokevirtual 210, 3) := by decide +kernel
theorem dX11_force_32 : decode cX11_force 32 = .ok (.istore_n 2, 1) := by decide +kernel
theorem dX11_force_33 : decode cX11_force 33 = .ok (.aload_n 0, 1) := by decide +kernel
theorem dX11_force_34 : decode cX11_force 34 = .ok (.getfield 10, 3) := by decide +kernel
theorem dX11_force_37 : decode cX11_force 37 = .ok (.iload_n 1, 1) := by decide +kernel
theorem dX11_force_38 : decode cX11_force 38 = .ok (.invokevirtual 213, 3) := by decide +kernel
theorem dX11_force_41 : decode cX11_force 41 = .ok (.aload_n 0, 1) := by decide +kernel
theorem dX11_force_42 : decode cX11_force 42 = .ok (.iload_n 2, 1) := by decide +kernel
theorem dX11_force_43 : decode cX11_force 43 = .ok (.invokevirtual 118, 3) := by decide +kernel
theorem dX11_force_46 : decode cX11_force 46 = .ok (.ireturn, 1) := by decide +kernel
theorem dX6_lookAt_0 : decode cX6_lookAt 0 = .ok (.aload_n 1, 1) := by decide +kernel
theorem dX6_lookAt_1 : decode cX6_lookAt 1 = .ok (.iload_n 2, 1) := by decide +kernel
theorem dX6_lookAt_2 : decode cX6_lookAt 2 = .ok (.invokevirtual 68, 3) := by decide +kernel
theorem dX6_lookAt_5 : decode cX6_lookAt 5 = .ok (.istore 4, 2) := by decide +kernel
theorem dX6_lookAt_7 : decode cX6_lookAt 7 = .ok (.iconst 0, 1) := by decide +kernel
theorem dX6_lookAt_8 : decode cX6_lookAt 8 = .ok (.istore 5, 2) := by decide +kernel
theorem dX6_lookAt_10 : decode cX6_lookAt 10 = .ok (.iload 5, 2) := by decide +kernel
theorem dX6_lookAt_12 : decode cX6_lookAt 12 = .ok (.aload_n 0, 1) := by decide +kernel
theorem dX6_lookAt_13 : decode cX6_lookAt 13 = .ok (.getfield 25, 3) := by decide +kernel
theorem dX6_lookAt_16 : decode cX6_lookAt 16 = .ok (.if_icmp .ge 127, 3) := by decide +kernel
theorem dX6_lookAt_19 : decode cX6_lookAt 19 = .ok (.iconst 0, 1) := by decide +kernel
theorem dX6_lookAt_20 : decode cX6_lookAt 20 = .ok (.istore 6, 2) := by decide +kernel
theorem dX6_lookAt_22 : decode cX6_lookAt 22 = .ok (.iload 6, 2) := by decide +kernel
theorem dX6_lookAt_24 : decode cX6_lookAt 24 = .ok (.aload_n 0, 1) := by decide +kernel
theorem dX6_lookAt_25 : decode cX6_lookAt 25 = .ok (.getfield 25, 3) := by decide +kernel
theorem dX6_lookAt_28 : decode cX6_lookAt 28 = .ok (.if_icmp .ge 77, 3) := by decide +kernel
theorem dX6_lookAt_31 : decode cX6_lookAt 31 = .ok (.aload_n 0, 1) := by decide +kernel
theorem dX6_lookAt_32 : decode cX6_lookAt 32 = .ok (.getfield 11, 3) := by decide +kernel
theorem dX6_lookAt_35 : decode cX6_lookAt 35 = .ok (.iload_n 2, 1) := by decide +kernel
theorem dX6_lookAt_36 : decode cX6_lookAt 36 = .ok (.bipush 36, 2) := by decide +kernel
theorem dX6_lookAt_38 : decode cX6_lookAt 38 = .ok (.imul, 1) := by decide +kernel
theorem dX6_lookAt_39 : decode cX6_lookAt 39 = .ok (.iload 5, 2) := by decide +kernel
theorem dX6_lookAt_41 : decode cX6_lookAt 41 = .ok (.bipush 6, 2) := by decide +kernel
theorem dX6_lookAt_43 : decode cX6_lookAt 43 = .ok (.imul, 1) := by decide +kernel
theorem dX6_lookAt_44 : decode cX6_lookAt 44 = .ok (.iadd, 1) := by decide +kernel
theorem dX6_lookAt_45 : decode cX6_lookAt 45 = .ok (.iload 6, 2) := by decide +kernel
theorem dX6_lookAt_47 : decode cX6_lookAt 47 = .ok (.iadd, 1) := by decide +kernel
theorem dX6_lookAt_48 : decode cX6_lookAt 48 = .ok (.iload_n 3, 1) := by decide +kernel
theorem dX6_lookAt_49 : decode cX6_lookAt 49 = .ok (.ifCond .le 48, 3) := by decide +kernel
theorem dX6_lookAt_52 : decode cX6_lookAt 52 = .ok (.iload 5, 2) := by decide +kernel
theorem dX6_lookAt_54 : decode cX6_lookAt 54 = .ok (.iload 6, 2) := by decide +kernel
theorem dX6_lookAt_56 : decode cX6_lookAt 56 = .ok (.if_icmp .eq 41, 3) := by decide +kernel
theorem dX6_lookAt_59 : decode cX6_lookAt 59 = .ok (.aload_n 1, 1) := by decide +kernel
theorem dX6_lookAt_60 : decode cX6_lookAt 60 = .ok (.iload 5, 2) := by decide +kernel
theorem dX6_lookAt_62 : decode cX6_lookAt 62 = .ok (.invokevirtual 71, 3) := by decide +kernel
theorem dX6_lookAt_65 : decode cX6_lookAt 65 = .ok (.ifCond .ne 32, 3) := by decide +kernel
theorem dX6_lookAt_68 : decode cX6_lookAt 68 = .ok (.aload_n 1, 1) := by decide +kernel
theorem dX6_lookAt_69 : decode cX6_lookAt 69 = .ok (.iload 6, 2) := by decide +kernel
theorem dX6_lookAt_71 : decode cX6_lookAt 71 = .ok (.invokevirtual 71, 3) := by decide +kernel
theorem dX6_lookAt_74 : decode cX6_lookAt 74 = .ok (.ifCond .ne 23, 3) := by decide +kernel
theorem dX6_lookAt_77 : decode cX6_lookAt 77 = .ok (.aload_n 0, 1) := by decide +kernel
theorem dX6_lookAt_78 : decode cX6_lookAt 78 = .ok (.getfield 38, 3) := by decide +kernel
theorem dX6_lookAt_81 : decode cX6_lookAt 81 = .ok (.aload_n 1, 1) := by decide +kernel
theorem dX6_lookAt_82 : decode cX6_lookAt 82 = .ok (.iload_n 2, 1) := by decide +kernel
theorem dX6_lookAt_83 : decode cX6_lookAt 83 = .ok (.iload 5, 2) := by decide +kernel
theorem dX6_lookAt_85 : decode cX6_lookAt 85 = .ok (.iload 6, 2) := by decide +kernel
theorem dX6_lookAt_87 : decode cX6_lookAt 87 = .ok (.invokevirtual 74, 3) := by decide +kernel
theorem dX6_lookAt_90 : decode cX6_lookAt 90 = .ok (.ifCond .ne 7, 3) := by decide +kernel
theorem dX6_lookAt_93 : decode cX6_lookAt 93 = .ok (.iconst 1, 1) := by decide +kernel
theorem dX6_lookAt_94 : decode cX6_lookAt 94 = .ok (.goto 4, 3) := by decide +kernel
theorem dX6_lookAt_97 : decode cX6_lookAt 97 = .ok (.iconst 0, 1) := by decide +kernel
theorem dX6_lookAt_98 : decode cX6_lookAt 98 = .ok (.bastore, 1) := by decide +kernel
theorem dX6_lookAt_99 : decode cX6_lookAt 99 = .ok (.iinc 6 1, 3) := by decide +kernel
theorem dX6_lookAt_102 : decode cX6_lookAt 102 = .ok (.goto (-80), 3) := by decide +kernel
theorem dX6_lookAt_105 : decode cX6_lookAt 105 = .ok (.aload_n 0, 1) := by decide +kernel
theorem dX6_lookAt_106 : decode cX6_lookAt 106 = .ok (.getfield 15, 3) := by decide +kernel
theorem dX6_lookAt_109 : decode cX6_lookAt 109 = .ok (.iload_n 2, 1) := by decide +kernel
theorem dX6_lookAt_110 : decode cX6_lookAt 110 = .ok (.bipush 6, 2) := by decide +kernel
theorem dX6_lookAt_112 : decode cX6_lookAt 112 = .ok (.imul, 1) := by decide +kernel
theorem dX6_lookAt_113 : decode cX6_lookAt 113 = .ok (.iload 5, 2) := by decide +kernel
theorem dX6_lookAt_115 : decode cX6_lookAt 115 = .ok (.iadd, 1) := by decide +kernel
theorem dX6_lookAt_116 : decode cX6_lookAt 116 = .ok (.iconst 4, 1) := by decide +kernel
theorem dX6_lookAt_117 : decode cX6_lookAt 117 = .ok (.imul, 1) := by decide +kernel
theorem dX6_lookAt_118 : decode cX6_lookAt 118 = .ok (.iload 4, 2) := by decide +kernel
theorem dX6_lookAt_120 : decode cX6_lookAt 120 = .ok (.iconst (-1), 1) := by decide +kernel
theorem dX6_lookAt_121 : decode cX6_lookAt 121 = .ok (.if_icmp .eq 10, 3) := by decide +kernel
theorem dX6_lookAt_124 : decode cX6_lookAt 124 = .ok (.iload 4, 2) := by decide +kernel
theorem dX6_lookAt_126 : decode cX6_lookAt 126 = .ok (.iload 5, 2) := by decide +kernel
theorem dX6_lookAt_128 : decode cX6_lookAt 128 = .ok (.if_icmp .ne 7, 3) := by decide +kernel
theorem dX6_lookAt_131 : decode cX6_lookAt 131 = .ok (.iconst 1, 1) := by decide +kernel
theorem dX6_lookAt_132 : decode cX6_lookAt 132 = .ok (.goto 4, 3) := by decide +kernel
theorem dX6_lookAt_135 : decode cX6_lookAt 135 = .ok (.iconst 0, 1) := by decide +kernel
theorem dX6_lookAt_136 : decode cX6_lookAt 136 = .ok (.iastore, 1) := by decide +kernel
theorem dX6_lookAt_137 : decode cX6_lookAt 137 = .ok (.iinc 5 1, 3) := by decide +kernel
theorem dX6_lookAt_140 : decode cX6_lookAt 140 = .ok (.goto (-130), 3) := by decide +kernel
theorem dX6_lookAt_143 : decode cX6_lookAt 143 = .ok (.iconst 1, 1) := by decide +kernel
theorem dX6_lookAt_144 : decode cX6_lookAt 144 = .ok (.istore 5, 2) := by decide +kernel
theorem dX6_lookAt_146 : decode cX6_lookAt 146 = .ok (.iload 5, 2) := by decide +kernel
theorem dX6_lookAt_148 : decode cX6_lookAt 148 = .ok (.iload_n 3, 1) := by decide +kernel
theorem dX6_lookAt_149 : decode cX6_lookAt 149 = .ok (.if_icmp .gt 126, 3) := by decide +kernel
theorem dX6_lookAt_152 : decode cX6_lookAt 152 = .ok (.iload 5, 2) := by decide +kernel
theorem dX6_lookAt_154 : decode cX6_lookAt 154 = .ok (.iconst 4, 1) := by decide +kernel
theorem dX6_lookAt_155 : decode cX6_lookAt 155 = .ok (.if_icmp .ge 120, 3) := by decide +kernel
theorem dX6_lookAt_158 : decode cX6_lookAt 158 = .ok (.iconst 0, 1) := by decide +kernel
theorem dX6_lookAt_159 : decode cX6_lookAt 159 = .ok (.istore 6, 2) := by decide +kernel
theorem dX6_lookAt_161 : decode cX6_lookAt 161 = .ok (.iload 6, 2) := by decide +kernel
theorem dX6_lookAt_163 : decode cX6_lookAt 163 = .ok (.aload_n 0, 1) := by decide +kernel
theorem dX6_lookAt_164 : decode cX6_lookAt 164 = .ok (.getfield 25, 3) := by decide +kernel
theorem dX6_lookAt_167 : decode cX6_lookAt 167 = .ok (.if_icmp .ge 102, 3) := by decide +kernel
theorem dX6_lookAt_170 : decode cX6_lookAt 170 = .ok (.iconst 0, 1) := by decide +kernel
theorem dX6_lookAt_171 : decode cX6_lookAt 171 = .ok (.istore 7, 2) := by decide +kernel
theorem dX6_lookAt_173 : decode cX6_lookAt 173 = .ok (.iconst 0, 1) := by decide +kernel
theorem dX6_lookAt_174 : decode cX6_lookAt 174 = .ok (.istore 8, 2) := by decide +kernel
theorem dX6_lookAt_176 : decode cX6_lookAt 176 = .ok (.iload 8, 2) := by decide +kernel
theorem dX6_lookAt_178 : decode cX6_lookAt 178 = .ok (.aload_n 0, 1) := by decide +kernel
theorem dX6_lookAt_179 : decode cX6_lookAt 179 = .ok (.getfield 25, 3) := by decide +kernel
theorem dX6_lookAt_182 : decode cX6_lookAt 182 = .ok (.if_icmp .ge 62, 3) := by decide +kernel
theorem dX6_lookAt_185 : decode cX6_lookAt 185 = .ok (.aload_n 0, 1) := by decide +kernel
theorem dX6_lookAt_186 : decode cX6_lookAt 186 = .ok (.getfield 11, 3) := by decide +kernel
theorem dX6_lookAt_189 : decode cX6_lookAt 189 = .ok (.iload_n 2, 1) := by decide +kernel
theorem dX6_lookAt_190 : decode cX6_lookAt 190 = .ok (.bipush 36, 2) := by decide +kernel
theorem dX6_lookAt_192 : decode cX6_lookAt 192 = .ok (.imul, 1) := by decide +kernel
theorem dX6_lookAt_193 : decode cX6_lookAt 193 = .ok (.iload 6, 2) := by decide +kernel
theorem dX6_lookAt_195 : decode cX6_lookAt 195 = .ok (.bipush 6, 2) := by decide +kernel
theorem dX6_lookAt_197 : decode cX6_lookAt 197 = .ok (.imul, 1) := by decide +kernel
theorem dX6_lookAt_198 : decode cX6_lookAt 198 = .ok (.iadd, 1) := by decide +kernel
theorem dX6_lookAt_199 : decode cX6_lookAt 199 = .ok (.iload 8, 2) := by decide +kernel
theorem dX6_lookAt_201 : decode cX6_lookAt 201 = .ok (.iadd, 1) := by decide +kernel
theorem dX6_lookAt_202 : decode cX6_lookAt 202 = .ok (.baload, 1) := by decide +kernel
theorem dX6_lookAt_203 : decode cX6_lookAt 203 = .ok (.istore 9, 2) := by decide +kernel
theorem dX6_lookAt_205 : decode cX6_lookAt 205 = .ok (.iload 7, 2) := by decide +kernel
theorem dX6_lookAt_207 : decode cX6_lookAt 207 = .ok (.iload 9, 2) := by decide +kernel
theorem dX6_lookAt_209 : decode cX6_lookAt 209 = .ok (.ifCond .eq 25, 3) := by decide +kernel
theorem dX6_lookAt_212 : decode cX6_lookAt 212 = .ok (.aload_n 0, 1) := by decide +kernel
theorem dX6_lookAt_213 : decode cX6_lookAt 213 = .ok (.getfield 15, 3) := by decide +kernel
theorem dX6_lookAt_216 : decode cX6_lookAt 216 = .ok (.iload_n 2, 1) := by decide +kernel
theorem dX6_lookAt_217 : decode cX6_lookAt 217 = .ok (.bipush 6, 2) := by decide +kernel
theorem dX6_lookAt_219 : decode cX6_lookAt 219 = .ok (.imul, 1) := by decide +kernel
theorem dX6_lookAt_220 : decode cX6_lookAt 220 = .ok (.iload 8, 2) := by decide +kernel
theorem dX6_lookAt_222 : decode cX6_lookAt 222 = .ok (.iadd, 1) := by decide +kernel
theorem dX6_lookAt_223 : decode cX6_lookAt 223 = .ok (.iconst 4, 1) := by decide +kernel
theorem dX6_lookAt_224 : decode cX6_lookAt 224 = .ok (.imul, 1) := by decide +kernel
theorem dX6_lookAt_225 : decode cX6_lookAt 225 = .ok (.iload 5, 2) := by decide +kernel
theorem dX6_lookAt_227 : decode cX6_lookAt 227 = .ok (.iadd, 1) := by decide +kernel
theorem dX6_lookAt_228 : decode cX6_lookAt 228 = .ok (.iconst 1, 1) := by decide +kernel
theorem dX6_lookAt_229 : decode cX6_lookAt 229 = .ok (.isub, 1) := by decide +kernel
theorem dX6_lookAt_230 : decode cX6_lookAt 230 = .ok (.iaload, 1) := by decide +kernel
theorem dX6_lookAt_231 : decode cX6_lookAt 231 = .ok (.goto 4, 3) := by decide +kernel
theorem dX6_lookAt_234 : decode cX6_lookAt 234 = .ok (.iconst 0, 1) := by decide +kernel
theorem dX6_lookAt_235 : decode cX6_lookAt 235 = .ok (.iadd, 1) := by decide +kernel
theorem dX6_lookAt_236 : decode cX6_lookAt 236 = .ok (.istore 7, 2) := by decide +kernel
theorem dX6_lookAt_238 : decode cX6_lookAt 238 = .ok (.iinc 8 1, 3) := by decide +kernel
theorem dX6_lookAt_241 : decode cX6_lookAt 241 = .ok (.goto (-65), 3) := by decide +kernel
theorem dX6_lookAt_244 : decode cX6_lookAt 244 = .ok (.aload_n 0, 1) := by decide +kernel
theorem dX6_lookAt_245 : decode cX6_lookAt 245 = .ok (.getfield 15, 3) := by decide +kernel
theorem dX6_lookAt_248 : decode cX6_lookAt 248 = .ok (.iload_n 2, 1) := by decide +kernel
theorem dX6_lookAt_249 : decode cX6_lookAt 249 = .ok (.bipush 6, 2) := by decide +kernel
theorem dX6_lookAt_251 : decode cX6_lookAt 251 = .ok (.imul, 1) := by decide +kernel
theorem dX6_lookAt_252 : decode cX6_lookAt 252 = .ok (.iload 6, 2) := by decide +kernel
theorem dX6_lookAt_254 : decode cX6_lookAt 254 = .ok (.iadd, 1) := by decide +kernel
theorem dX6_lookAt_255 : decode cX6_lookAt 255 = .ok (.iconst 4, 1) := by decide +kernel
theorem dX6_lookAt_256 : decode cX6_lookAt 256 = .ok (.imul, 1) := by decide +kernel
theorem dX6_lookAt_257 : decode cX6_lookAt 257 = .ok (.iload 5, 2) := by decide +kernel
theorem dX6_lookAt_259 : decode cX6_lookAt 259 = .ok (.iadd, 1) := by decide +kernel
theorem dX6_lookAt_260 : decode cX6_lookAt 260 = .ok (.iload 7, 2) := by decide +kernel
theorem dX6_lookAt_262 : decode cX6_lookAt 262 = .ok (.iastore, 1) := by decide +kernel
theorem dX6_lookAt_263 : decode cX6_lookAt 263 = .ok (.iinc 6 1, 3) := by decide +kernel
theorem dX6_lookAt_266 : decode cX6_lookAt 266 = .ok (.goto (-105), 3) := by decide +kernel
theorem dX6_lookAt_269 : decode cX6_lookAt 269 = .ok (.iinc 5 1, 3) := by decide +kernel
theorem dX6_lookAt_272 : decode cX6_lookAt 272 = .ok (.goto (-126), 3) := by decide +kernel
theorem dX6_lookAt_275 : decode cX6_lookAt 275 = .ok (.return_, 1) := by decide +kernel
theorem dX6_chosen_0 : decode cX6_chosen 0 = .ok (.iload_n 1, 1) := by decide +kernel
theorem dX6_chosen_1 : decode cX6_chosen 1 = .ok (.ifCond .eq 8, 3) := by decide +kernel
theorem dX6_chosen_4 : decode cX6_chosen 4 = .ok (.iload_n 1, 1) := by decide +kernel
theorem dX6_chosen_5 : decode cX6_chosen 5 = .ok (.iload_n 0, 1) := by decide +kernel
theorem dX6_chosen_6 : decode cX6_chosen 6 = .ok (.if_icmp .ne 7, 3) := by decide +kernel
theorem dX6_chosen_9 : decode cX6_chosen 9 = .ok (.iconst 1, 1) := by decide +kernel
theorem dX6_chosen_10 : decode cX6_chosen 10 = .ok (.goto 4, 3) := by decide +kernel
theorem dX6_chosen_13 : decode cX6_chosen 13 = .ok (.iload_n 0, 1) := by decide +kernel
theorem dX6_chosen_14 : decode cX6_chosen 14 = .ok (.ireturn, 1) := by decide +kernel
theorem dX6_rows_0 : decode cX6_rows 0 = .ok (.aload_n 0, 1) := by decide +kernel
theorem dX6_rows_1 : decode cX6_rows 1 = .ok (.getfield 22, 3) := by decide +kernel
theorem dX6_rows_4 : decode cX6_rows 4 = .ok (.iconst 0, 1) := by decide +kernel
theorem dX6_rows_5 : decode cX6_rows 5 = .ok (.invokestatic 80, 3) := by decide +kernel
theorem dX6_rows_8 : decode cX6_rows 8 = .ok (.aload_n 0, 1) := by decide +kernel
theorem dX6_rows_9 : decode cX6_rows 9 = .ok (.getfield 22, 3) := by decide +kernel
theorem dX6_rows_12 : decode cX6_rows 12 = .ok (.iconst 0, 1) := by decide +kernel
theorem dX6_rows_13 : decode cX6_rows 13 = .ok (.iconst 1, 1) := by decide +kernel
theorem dX6_rows_14 : decode cX6_rows 14 = .ok (.iastore, 1) := by decide +kernel
theorem dX6_rows_15 : decode cX6_rows 15 = .ok (.iconst 0, 1) := by decide +kernel
theorem dX6_rows_16 : decode cX6_rows 16 = .ok (.istore_n 2, 1) := by decide +kernel
theorem dX6_rows_17 : decode cX6_rows 17 = .ok (.iload_n 2, 1) := by decide +kernel
theorem dX6_rows_18 : decode cX6_rows 18 = .ok (.aload_n 0, 1) := by decide +kernel
theorem dX6_rows_19 : decode cX6_rows 19 = .ok (.getfield 29, 3) := by decide +kernel
theorem dX6_rows_22 : decode cX6_rows 22 = .ok (.if_icmp .ge 102, 3) := by decide +kernel
theorem dX6_rows_25 : decode cX6_rows 25 = .ok (.iload_n 2, 1) := by decide +kernel
theorem dX6_rows_26 : decode cX6_rows 26 = .ok (.bipush 6, 2) := by decide +kernel
theorem dX6_rows_28 : decode cX6_rows 28 = .ok (.imul, 1) := by decide +kernel
theorem dX6_rows_29 : decode cX6_rows 29 = .ok (.aload_n 0, 1) := by decide +kernel
theorem dX6_rows_30 : decode cX6_rows 30 = .ok (.getfield 19, 3) := by decide +kernel
theorem dX6_rows_33 : decode cX6_rows 33 = .ok (.iload_n 2, 1) := by decide +kernel
theorem dX6_rows_34 : decode cX6_rows 34 = .ok (.iaload, 1) := by decide +kernel
theorem dX6_rows_35 : decode cX6_rows 35 = .ok (.iadd, 1) := by decide +kernel
theorem dX6_rows_36 : decode cX6_rows 36 = .ok (.iconst 4, 1) := by decide +kernel
theorem dX6_rows_37 : decode cX6_rows 37 = .ok (.imul, 1) := by decide +kernel
theorem dX6_rows_38 : decode cX6_rows 38 = .ok (.istore_n 3, 1) := by decide +kernel
theorem dX6_rows_39 : decode cX6_rows 39 = .ok (.iload_n 1, 1) := by decide +kernel
theorem dX6_rows_40 : decode cX6_rows 40 = .ok (.iconst 3, 1) := by decide +kernel
theorem dX6_rows_41 : decode cX6_rows 41 = .ok (.invokestatic 48, 3) := by decide +kernel
theorem dX6_rows_44 : decode cX6_rows 44 = .ok (.istore 4, 2) := by decide +kernel
theorem dX6_rows_46 : decode cX6_rows 46 = .ok (.iload 4, 2) := by decide +kernel
theorem dX6_rows_48 : decode cX6_rows 48 = .ok (.ifCond .lt 70, 3) := by decide +kernel
theorem dX6_rows_51 : decode cX6_rows 51 = .ok (.iconst 0, 1) := by decide +kernel
theorem dX6_rows_52 : decode cX6_rows 52 = .ok (.istore 5, 2) := by decide +kernel
theorem dX6_rows_54 : decode cX6_rows 54 = .ok (.iconst 0, 1) := by decide +kernel
theorem dX6_rows_55 : decode cX6_rows 55 = .ok (.istore 6, 2) := by decide +kernel
theorem dX6_rows_57 : decode cX6_rows 57 = .ok (.iload 6, 2) := by decide +kernel
theorem dX6_rows_59 : decode cX6_rows 59 = .ok (.iload 4, 2) := by decide +kernel
theorem dX6_rows_61 : decode cX6_rows 61 = .ok (.if_icmp .gt 42, 3) := by decide +kernel
theorem dX6_rows_64 : decode cX6_rows 64 = .ok (.iload 5, 2) := by decide +kernel
theorem dX6_rows_66 : decode cX6_rows 66 = .ok (.iload 4, 2) := by decide +kernel
theorem dX6_rows_68 : decode cX6_rows 68 = .ok (.iload 6, 2) := by decide +kernel
theorem dX6_rows_70 : decode cX6_rows 70 = .ok (.invokestatic 86, 3) := by decide +kernel
theorem dX6_rows_73 : decode cX6_rows 73 = .ok (.aload_n 0, 1) := by decide +kernel
theorem dX6_rows_74 : decode cX6_rows 74 = .ok (.getfield 22, 3) := by decide +kernel
theorem dX6_rows_77 : decode cX6_rows 77 = .ok (.iload 4, 2) := by decide +kernel
theorem dX6_rows_79 : decode cX6_rows 79 = .ok (.iload 6, 2) := by decide +kernel
theorem dX6_rows_81 : decode cX6_rows 81 = .ok (.isub, 1) := by decide +kernel
theorem dX6_rows_82 : decode cX6_rows 82 = .ok (.iaload, 1) := by decide +kernel
theorem dX6_rows_83 : decode cX6_rows 83 = .ok (.imul, 1) := by decide +kernel
theorem dX6_rows_84 : decode cX6_rows 84 = .ok (.aload_n 0, 1) := by decide +kernel
theorem dX6_rows_85 : decode cX6_rows 85 = .ok (.getfield 15, 3) := by decide +kernel
theorem dX6_rows_88 : decode cX6_rows 88 = .ok (.iload_n 3, 1) := by decide +kernel
theorem dX6_rows_89 : decode cX6_rows 89 = .ok (.iload 6, 2) := by decide +kernel
theorem dX6_rows_91 : decode cX6_rows 91 = .ok (.iadd, 1) := by decide +kernel
theorem dX6_rows_92 : decode cX6_rows 92 = .ok (.iaload, 1) := by decide +kernel
theorem dX6_rows_93 : decode cX6_rows 93 = .ok (.imul, 1) := by decide +kernel
theorem dX6_rows_94 : decode cX6_rows 94 = .ok (.iadd, 1) := by decide +kernel
theorem dX6_rows_95 : decode cX6_rows 95 = .ok (.istore 5, 2) := by decide +kernel
theorem dX6_rows_97 : decode cX6_rows 97 = .ok (.iinc 6 1, 3) := by decide +kernel
theorem dX6_rows_100 : decode cX6_rows 100 = .ok (.goto (-43), 3) := by decide +kernel
theorem dX6_rows_103 : decode cX6_rows 103 = .ok (.aload_n 0, 1) := by decide +kernel
theorem dX6_rows_104 : decode cX6_rows 104 = .ok (.getfield 22, 3) := by decide +kernel
theorem dX6_rows_107 : decode cX6_rows 107 = .ok (.iload 4, 2) := by decide +kernel
theorem dX6_rows_109 : decode cX6_rows 109 = .ok (.iload 5, 2) := by decide +kernel
theorem dX6_rows_111 : decode cX6_rows 111 = .ok (.iastore, 1) := by decide +kernel
theorem dX6_rows_112 : decode cX6_rows 112 = .ok (.iinc 4 (-1), 3) := by decide +kernel
theorem dX6_rows_115 : decode cX6_rows 115 = .ok (.goto (-69), 3) := by decide +kernel
theorem dX6_rows_118 : decode cX6_rows 118 = .ok (.iinc 2 1, 3) := by decide +kernel
theorem dX6_rows_121 : decode cX6_rows 121 = .ok (.goto (-104), 3) := by decide +kernel
theorem dX6_rows_124 : decode cX6_rows 124 = .ok (.iload_n 1, 1) := by decide +kernel
theorem dX6_rows_125 : decode cX6_rows 125 = .ok (.ifCond .lt 17, 3) := by decide +kernel
theorem dX6_rows_128 : decode cX6_rows 128 = .ok (.iload_n 1, 1) := by decide +kernel
theorem dX6_rows_129 : decode cX6_rows 129 = .ok (.iconst 4, 1) := by decide +kernel
theorem dX6_rows_130 : decode cX6_rows 130 = .ok (.if_icmp .ge 12, 3) := by decide +kernel
theorem dX6_rows_133 : decode cX6_rows 133 = .ok (.aload_n 0, 1) := by decide +kernel
theorem dX6_rows_134 : decode cX6_rows 134 = .ok (.getfield 22, 3) := by decide +kernel
theorem dX6_rows_137 : decode cX6_rows 137 = .ok (.iload_n 1, 1) := by decide +kernel
theorem dX6_rows_138 : decode cX6_rows 138 = .ok (.iaload, 1) := by decide +kernel
theorem dX6_rows_139 : decode cX6_rows 139 = .ok (.goto 4, 3) := by decide +kernel
theorem dX6_rows_142 : decode cX6_rows 142 = .ok (.iconst 0, 1) := by decide +kernel
theorem dX6_rows_143 : decode cX6_rows 143 = .ok (.ireturn, 1) := by decide +kernel
theorem dX6_takeFirst_0 : decode cX6_takeFirst 0 = .ok (.iconst 0, 1) := by decide +kernel
theorem dX6_takeFirst_1 : decode cX6_takeFirst 1 = .ok (.istore_n 2, 1) := by decide +kernel
theorem dX6_takeFirst_2 : decode cX6_takeFirst 2 = .ok (.iload_n 2, 1) := by decide +kernel
theorem dX6_takeFirst_3 : decode cX6_takeFirst 3 = .ok (.aload_n 0, 1) := by decide +kernel
theorem dX6_takeFirst_4 : decode cX6_takeFirst 4 = .ok (.getfield 29, 3) := by decide +kernel
theorem dX6_takeFirst_7 : decode cX6_takeFirst 7 = .ok (.if_icmp .ge 90, 3) := by decide +kernel
theorem dX6_takeFirst_10 : decode cX6_takeFirst 10 = .ok (.aload_n 0, 1) := by decide +kernel
theorem dX6_takeFirst_11 : decode cX6_takeFirst 11 = .ok (.getfield 19, 3) := by decide +kernel
theorem dX6_takeFirst_14 : decode cX6_takeFirst 14 = .ok (.iload_n 2, 1) := by decide +kernel
theorem dX6_takeFirst_15 : decode cX6_takeFirst 15 = .ok (.iaload, 1) := by decide +kernel
theorem dX6_takeFirst_16 : decode cX6_takeFirst 16 = .ok (.istore_n 3, 1) := by decide +kernel
theorem dX6_takeFirst_17 : decode cX6_takeFirst 17 = .ok (.iconst 0, 1) := by decide +kernel
theorem dX6_takeFirst_18 : decode cX6_takeFirst 18 = .ok (.istore 4, 2) := by decide +kernel
theorem dX6_takeFirst_20 : decode cX6_takeFirst 20 = .ok (.iload 4, 2) := by decide +kernel
theorem dX6_takeFirst_22 : decode cX6_takeFirst 22 = .ok (.aload_n 0, 1) := by decide +kernel
theorem dX6_takeFirst_23 : decode cX6_takeFirst 23 = .ok (.getfield 25, 3) := by decide +kernel
theorem dX6_takeFirst_26 : decode cX6_takeFirst 26 = .ok (.if_icmp .ge 58, 3) := by decide +kernel
theorem dX6_takeFirst_29 : decode cX6_takeFirst 29 = .ok (.aload_n 0, 1) := by decide +kernel
theorem dX6_takeFirst_30 : decode cX6_takeFirst 30 = .ok (.getfield 11, 3) := by decide +kernel
theorem dX6_takeFirst_33 : decode cX6_takeFirst 33 = .ok (.iload_n 2, 1) := by decide +kernel
theorem dX6_takeFirst_34 : decode cX6_takeFirst 34 = .ok (.bipush 36, 2) := by decide +kernel
theorem dX6_takeFirst_36 : decode cX6_takeFirst 36 = .ok (.imul, 1) := by decide +kernel
theorem dX6_takeFirst_37 : decode cX6_takeFirst 37 = .ok (.iload_n 3, 1) := by decide +kernel
theorem dX6_takeFirst_38 : decode cX6_takeFirst 38 = .ok (.bipush 6, 2) := by decide +kernel
theorem dX6_takeFirst_40 : decode cX6_takeFirst 40 = .ok (.imul, 1) := by decide +kernel
theorem dX6_takeFirst_41 : decode cX6_takeFirst 41 = .ok (.iadd, 1) := by decide +kernel
theorem dX6_takeFirst_42 : decode cX6_takeFirst 42 = .ok (.iload 4, 2) := by decide +kernel
theorem dX6_takeFirst_44 : decode cX6_takeFirst 44 = .ok (.iadd, 1) := by decide +kernel
theorem dX6_takeFirst_45 : decode cX6_takeFirst 45 = .ok (.baload, 1) := by decide +kernel
theorem dX6_takeFirst_46 : decode cX6_takeFirst 46 = .ok (.ifCond .eq 32, 3) := by decide +kernel
theorem dX6_takeFirst_49 : decode cX6_takeFirst 49 = .ok (.aload_n 0, 1) := by decide +kernel
theorem dX6_takeFirst_50 : decode cX6_takeFirst 50 = .ok (.getfield 19, 3) := by decide +kernel
theorem dX6_takeFirst_53 : decode cX6_takeFirst 53 = .ok (.iload_n 2, 1) := by decide +kernel
theorem dX6_takeFirst_54 : decode cX6_takeFirst 54 = .ok (.iload 4, 2) := by decide +kernel
theorem dX6_takeFirst_56 : decode cX6_takeFirst 56 = .ok (.iastore, 1) := by decide +kernel
theorem dX6_takeFirst_57 : decode cX6_takeFirst 57 = .ok (.aload_n 0, 1) := by decide +kernel
theorem dX6_takeFirst_58 : decode cX6_takeFirst 58 = .ok (.iload_n 1, 1) := by decide +kernel
theorem dX6_takeFirst_59 : decode cX6_takeFirst 59 = .ok (.invokevirtual 61, 3) := by decide +kernel
theorem dX6_takeFirst_62 : decode cX6_takeFirst 62 = .ok (.ifCond .le 16, 3) := by decide +kernel
theorem dX6_takeFirst_65 : decode cX6_takeFirst 65 = .ok (.aload_n 0, 1) := by decide +kernel
theorem dX6_takeFirst_66 : decode cX6_takeFirst 66 = .ok (.iload_n 2, 1) := by decide +kernel
theorem dX6_takeFirst_67 : decode cX6_takeFirst 67 = .ok (.putfield 32, 3) := by decide +kernel
theorem dX6_takeFirst_70 : decode cX6_takeFirst 70 = .ok (.aload_n 0, 1) := by decide +kernel
theorem dX6_takeFirst_71 : decode cX6_takeFirst 71 = .ok (.iload 4, 2) := by decide +kernel
theorem dX6_takeFirst_73 : decode cX6_takeFirst 73 = .ok (.putfield 35, 3) := by decide +kernel
theorem dX6_takeFirst_76 : decode cX6_takeFirst 76 = .ok (.iconst 1, 1) := by decide +kernel
theorem dX6_takeFirst_77 : decode cX6_takeFirst 77 = .ok (.ireturn, 1) := by decide +kernel
theorem dX6_takeFirst_78 : decode cX6_takeFirst 78 = .ok (.iinc 4 1, 3) := by decide +kernel
theorem dX6_takeFirst_81 : decode cX6_takeFirst 81 = .ok (.goto (-61), 3) := by decide +kernel
theorem dX6_takeFirst_84 : decode cX6_takeFirst 84 = .ok (.aload_n 0, 1) := by decide +kernel
theorem dX6_takeFirst_85 : decode cX6_takeFirst 85 = .ok (.getfield 19, 3) := by decide +kernel
theorem dX6_takeFirst_88 : decode cX6_takeFirst 88 = .ok (.iload_n 2, 1) := by decide +kernel
theorem dX6_takeFirst_89 : decode cX6_takeFirst 89 = .ok (.iload_n 3, 1) := by decide +kernel
theorem dX6_takeFirst_90 : decode cX6_takeFirst 90 = .ok (.iastore, 1) := by decide +kernel
theorem dX6_takeFirst_91 : decode cX6_takeFirst 91 = .ok (.iinc 2 1, 3) := by decide +kernel
theorem dX6_takeFirst_94 : decode cX6_takeFirst 94 = .ok (.goto (-92), 3) := by decide +kernel
theorem dX6_takeFirst_97 : decode cX6_takeFirst 97 = .ok (.iconst 0, 1) := by decide +kernel
theorem dX6_takeFirst_98 : decode cX6_takeFirst 98 = .ok (.ireturn, 1) := by decide +kernel
theorem dX6_answer_0 : decode cX6_answer 0 = .ok (.aload_n 0, 1) := by decide +kernel
theorem dX6_answer_1 : decode cX6_answer 1 = .ok (.aload_n 1, 1) := by decide +kernel
theorem dX6_answer_2 : decode cX6_answer 2 = .ok (.iconst 0, 1) := by decide +kernel
theorem dX6_answer_3 : decode cX6_answer 3 = .ok (.invokevirtual 44, 3) := by decide +kernel
theorem dX6_answer_6 : decode cX6_answer 6 = .ok (.bipush 6, 2) := by decide +kernel
theorem dX6_answer_8 : decode cX6_answer 8 = .ok (.invokestatic 48, 3) := by decide +kernel
theorem dX6_answer_11 : decode cX6_answer 11 = .ok (.putfield 25, 3) := by decide +kernel
theorem dX6_answer_14 : decode cX6_answer 14 = .ok (.aload_n 0, 1) := by decide +kernel
theorem dX6_answer_15 : decode cX6_answer 15 = .ok (.aload_n 1, 1) := by decide +kernel
theorem dX6_answer_16 : decode cX6_answer 16 = .ok (.iconst 1, 1) := by decide +kernel
theorem dX6_answer_17 : decode cX6_answer 17 = .ok (.invokevirtual 44, 3) := by decide +kernel
theorem dX6_answer_20 : decode cX6_answer 20 = .ok (.bipush 16, 2) := by decide +kernel
theorem dX6_answer_22 : decode cX6_answer 22 = .ok (.invokestatic 48, 3) := by decide +kernel
theorem dX6_answer_25 : decode cX6_answer 25 = .ok (.putfield 29, 3) := by decide +kernel
theorem dX6_answer_28 : decode cX6_answer 28 = .ok (.iconst 0, 1) := by decide +kernel
theorem dX6_answer_29 : decode cX6_answer 29 = .ok (.istore 4, 2) := by decide +kernel
theorem dX6_answer_31 : decode cX6_answer 31 = .ok (.iload 4, 2) := by decide +kernel
theorem dX6_answer_33 : decode cX6_answer 33 = .ok (.aload_n 0, 1) := by decide +kernel
theorem dX6_answer_34 : decode cX6_answer 34 = .ok (.getfield 29, 3) := by decide +kernel
theorem dX6_answer_37 : decode cX6_answer 37 = .ok (.if_icmp .ge 31, 3) := by decide +kernel
theorem dX6_answer_40 : decode cX6_answer 40 = .ok (.aload_n 0, 1) := by decide +kernel
theorem dX6_answer_41 : decode cX6_answer 41 = .ok (.getfield 19, 3) := by decide +kernel
theorem dX6_answer_44 : decode cX6_answer 44 = .ok (.iload 4, 2) := by decide +kernel
theorem dX6_answer_46 : decode cX6_answer 46 = .ok (.aload_n 1, 1) := by decide +kernel
theorem dX6_answer_47 : decode cX6_answer 47 = .ok (.iload 4, 2) := by decide +kernel
theorem dX6_answer_49 : decode cX6_answer 49 = .ok (.iconst 0, 1) := by decide +kernel
theorem dX6_answer_50 : decode cX6_answer 50 = .ok (.invokevirtual 54, 3) := by decide +kernel
theorem dX6_answer_53 : decode cX6_answer 53 = .ok (.iastore, 1) := by decide +kernel
theorem dX6_answer_54 : decode cX6_answer 54 = .ok (.aload_n 0, 1) := by decide +kernel
theorem dX6_answer_55 : decode cX6_answer 55 = .ok (.aload_n 1, 1) := by decide +kernel
theorem dX6_answer_56 : decode cX6_answer 56 = .ok (.iload 4, 2) := by decide +kernel
theorem dX6_answer_58 : decode cX6_answer 58 = .ok (.iload_n 2, 1) := by decide +kernel
theorem dX6_answer_59 : decode cX6_answer 59 = .ok (.invokevirtual 57, 3) := by decide +kernel
theorem dX6_answer_62 : decode cX6_answer 62 = .ok (.iinc 4 1, 3) := by decide +kernel
theorem dX6_answer_65 : decode cX6_answer 65 = .ok (.goto (-34), 3) := by decide +kernel
theorem dX6_answer_68 : decode cX6_answer 68 = .ok (.iload_n 3, 1) := by decide +kernel
theorem dX6_answer_69 : decode cX6_answer 69 = .ok (.ifCond .ne 9, 3) := by decide +kernel
theorem dX6_answer_72 : decode cX6_answer 72 = .ok (.aload_n 0, 1) := by decide +kernel
theorem dX6_answer_73 : decode cX6_answer 73 = .ok (.iload_n 2, 1) := by decide +kernel
theorem dX6_answer_74 : decode cX6_answer 74 = .ok (.invokevirtual 61, 3) := by decide +kernel
theorem dX6_answer_77 : decode cX6_answer 77 = .ok (.ireturn, 1) := by decide +kernel
theorem dX6_answer_78 : decode cX6_answer 78 = .ok (.iload_n 3, 1) := by decide +kernel
theorem dX6_answer_79 : decode cX6_answer 79 = .ok (.iconst 1, 1) := by decide +kernel
theorem dX6_answer_80 : decode cX6_answer 80 = .ok (.isub, 1) := by decide +kernel
theorem dX6_answer_81 : decode cX6_answer 81 = .ok (.iconst 2, 1) := by decide +kernel
theorem dX6_answer_82 : decode cX6_answer 82 = .ok (.idiv, 1) := by decide +kernel
theorem dX6_answer_83 : decode cX6_answer 83 = .ok (.istore 4, 2) := by decide +kernel
theorem dX6_answer_85 : decode cX6_answer 85 = .ok (.iconst 0, 1) := by decide +kernel
theorem dX6_answer_86 : decode cX6_answer 86 = .ok (.istore 5, 2) := by decide +kernel
theorem dX6_answer_88 : decode cX6_answer 88 = .ok (.iload 5, 2) := by decide +kernel
theorem dX6_answer_90 : decode cX6_answer 90 = .ok (.iload 4, 2) := by decide +kernel
theorem dX6_answer_92 : decode cX6_answer 92 = .ok (.if_icmp .gt 24, 3) := by decide +kernel
theorem dX6_answer_95 : decode cX6_answer 95 = .ok (.aload_n 0, 1) := by decide +kernel
theorem dX6_answer_96 : decode cX6_answer 96 = .ok (.iload_n 2, 1) := by decide +kernel
theorem dX6_answer_97 : decode cX6_answer 97 = .ok (.iconst 1, 1) := by decide +kernel
theorem dX6_answer_98 : decode cX6_answer 98 = .ok (.isub, 1) := by decide +kernel
theorem dX6_answer_99 : decode cX6_answer 99 = .ok (.iload 5, 2) := by decide +kernel
theorem dX6_answer_101 : decode cX6_answer 101 = .ok (.isub, 1) := by decide +kernel
theorem dX6_answer_102 : decode cX6_answer 102 = .ok (.invokevirtual 64, 3) := by decide +kernel
theorem dX6_answer_105 : decode cX6_answer 105 = .ok (.ifCond .ne 5, 3) := by decide +kernel
theorem dX6_answer_108 : decode cX6_answer 108 = .ok (.iconst (-1), 1) := by decide +kernel
theorem dX6_answer_109 : decode cX6_answer 109 = .ok (.ireturn, 1) := by decide +kernel
theorem dX6_answer_110 : decode cX6_answer 110 = .ok (.iinc 5 1, 3) := by decide +kernel
theorem dX6_answer_113 : decode cX6_answer 113 = .ok (.goto (-25), 3) := by decide +kernel
theorem dX6_answer_116 : decode cX6_answer 116 = .ok (.iload_n 3, 1) := by decide +kernel
theorem dX6_answer_117 : decode cX6_answer 117 = .ok (.iconst 2, 1) := by decide +kernel
theorem dX6_answer_118 : decode cX6_answer 118 = .ok (.irem, 1) := by decide +kernel
theorem dX6_answer_119 : decode cX6_answer 119 = .ok (.iconst 1, 1) := by decide +kernel
theorem dX6_answer_120 : decode cX6_answer 120 = .ok (.if_icmp .ne 10, 3) := by decide +kernel
theorem dX6_answer_123 : decode cX6_answer 123 = .ok (.aload_n 0, 1) := by decide +kernel
theorem dX6_answer_124 : decode cX6_answer 124 = .ok (.getfield 32, 3) := by decide +kernel
theorem dX6_answer_127 : decode cX6_answer 127 = .ok (.goto 7, 3) := by decide +kernel
theorem dX6_answer_130 : decode cX6_answer 130 = .ok (.aload_n 0, 1) := by decide +kernel
theorem dX6_answer_131 : decode cX6_answer 131 = .ok (.getfield 35, 3) := by decide +kernel
theorem dX6_answer_134 : decode cX6_answer 134 = .ok (.ireturn, 1) := by decide +kernel
theorem dX11_found_0 : decode cX11_found 0 = .ok (.iload_n 1, 1) := by decide +kernel
theorem dX11_found_1 : decode cX11_found 1 = .ok (.iconst 0, 1) := by decide +kernel
theorem dX11_found_2 : decode cX11_found 2 = .ok (.iconst 3, 1) := by decide +kernel
theorem dX11_found_3 : decode cX11_found 3 = .ok (.invokestatic 100, 3) := by decide +kernel
theorem dX11_found_6 : decode cX11_found 6 = .ok (.ifCond .eq 14, 3) := by decide +kernel
theorem dX11_found_9 : decode cX11_found 9 = .ok (.iload_n 2, 1) := by decide +kernel
theorem dX11_found_10 : decode cX11_found 10 = .ok (.iconst 0, 1) := by decide +kernel
theorem dX11_found_11 : decode cX11_found 11 = .ok (.iconst 2, 1) := by decide +kernel
theorem dX11_found_12 : decode cX11_found 12 = .ok (.iload_n 1, 1) := by decide +kernel
theorem dX11_found_13 : decode cX11_found 13 = .ok (.imul, 1) := by decide +kernel
theorem dX11_found_14 : decode cX11_found 14 = .ok (.invokestatic 100, 3) := by decide +kernel
theorem dX11_found_17 : decode cX11_found 17 = .ok (.ifCond .ne 5, 3) := by decide +kernel
theorem dX11_found_20 : decode cX11_found 20 = .ok (.iconst (-1), 1) := by decide +kernel
theorem dX11_found_21 : decode cX11_found 21 = .ok (.ireturn, 1) := by decide +kernel
theorem dX11_found_22 : decode cX11_found 22 = .ok (.aload_n 0, 1) := by decide +kernel
theorem dX11_found_23 : decode cX11_found 23 = .ok (.getfield 85, 3) := by decide +kernel
theorem dX11_found_26 : decode cX11_found 26 = .ok (.aload_n 0, 1) := by decide +kernel
theorem dX11_found_27 : decode cX11_found 27 = .ok (.getfield 10, 3) := by decide +kernel
theorem dX11_found_30 : decode cX11_found 30 = .ok (.iload_n 1, 1) := by decide +kernel
theorem dX11_found_31 : decode cX11_found 31 = .ok (.iload_n 2, 1) := by decide +kernel
theorem dX11_found_32 : decode cX11_found 32 = .ok (.invokevirtual 289, 3) := by decide +kernel
theorem dX11_found_35 : decode cX11_found 35 = .ok (.ireturn, 1) := by decide +kernel
theorem dX11_generation_0 : decode cX11_generation 0 = .ok (.iload_n 1, 1) := by decide +kernel
theorem dX11_generation_1 : decode cX11_generation 1 = .ok (.iconst 0, 1) := by decide +kernel
theorem dX11_generation_2 : decode cX11_generation 2 = .ok (.ldc_w 294, 3) := by decide +kernel
theorem dX11_generation_5 : decode cX11_generation 5 = .ok (.invokestatic 100, 3) := by decide +kernel
theorem dX11_generation_8 : decode cX11_generation 8 = .ok (.ifCond .eq 13, 3) := by decide +kernel
theorem dX11_generation_11 : decode cX11_generation 11 = .ok (.iload_n 2, 1) := by decide +kernel
theorem dX11_generation_12 : decode cX11_generation 12 = .ok (.iconst 1, 1) := by decide +kernel
theorem dX11_generation_13 : decode cX11_generation 13 = .ok (.bipush 50, 2) := by decide +kernel
theorem dX11_generation_15 : decode cX11_generation 15 = .ok (.invokestatic 100, 3) := by decide +kernel
theorem dX11_generation_18 : decode cX11_generation 18 = .ok (.ifCond .ne 9, 3) := by decide +kernel
theorem dX11_generation_21 : decode cX11_generation 21 = .ok (.aload_n 0, 1) := by decide +kernel
theorem dX11_generation_22 : decode cX11_generation 22 = .ok (.iconst (-1), 1) := by decide +kernel
theorem dX11_generation_23 : decode cX11_generation 23 = .ok (.invokevirtual 104, 3) := by decide +kernel
theorem dX11_generation_26 : decode cX11_generation 26 = .ok (.ireturn, 1) := by decide +kernel
theorem dX11_generation_27 : decode cX11_generation 27 = .ok (.aload_n 0, 1) := by decide +kernel
theorem dX11_generation_28 : decode cX11_generation 28 = .ok (.getfield 10, 3) := by decide +kernel
theorem dX11_generation_31 : decode cX11_generation 31 = .ok (.iconst 0, 1) := by decide +kernel
theorem dX11_generation_32 : decode cX11_generation 32 = .ok (.invokevirtual 108, 3) := by decide +kernel
theorem dX11_generation_35 : decode cX11_generation 35 = .ok (.ifCond .ne 10, 3) := by decide +kernel
theorem dX11_generation_38 : decode cX11_generation 38 = .ok (.aload_n 0, 1) := by decide +kernel
theorem dX11_generation_39 : decode cX11_generation 39 = .ok (.bipush (-3), 2) := by decide +kernel
theorem dX11_generation_41 : decode cX11_generation 41 = .ok (.invokevirtual 104, 3) := by decide +kernel
theorem dX11_generation_44 : decode cX11_generation 44 = .ok (.ireturn, 1) := by decide +kernel
theorem dX11_generation_45 : decode cX11_generation 45 = .ok (.aload_n 0, 1) := by decide +kernel
theorem dX11_generation_46 : decode cX11_generation 46 = .ok (.aload_n 0, 1) := by decide +kernel
theorem dX11_generation_47 : decode cX11_generation 47 = .ok (.getfield 48, 3) := by decide +kernel
theorem dX11_generation_50 : decode cX11_generation 50 = .ok (.aload_n 0, 1) := by decide +kernel
theorem dX11_generation_51 : decode cX11_generation 51 = .ok (.getfield 10, 3) := by decide +kernel
theorem dX11_generation_54 : decode cX11_generation 54 = .ok (.iload_n 1, 1) := by decide +kernel
theorem dX11_generation_55 : decode cX11_generation 55 = .ok (.iload_n 2, 1) := by decide +kernel
theorem dX11_generation_56 : decode cX11_generation 56 = .ok (.invokevirtual 295, 3) := by decide +kernel
theorem dX11_generation_59 : decode cX11_generation 59 = .ok (.invokevirtual 118, 3) := by decide +kernel
theorem dX11_generation_62 : decode cX11_generation 62 = .ok (.ireturn, 1) := by decide +kernel
theorem dX11_give_0 : decode cX11_give 0 = .ok (.aload_n 0, 1) := by decide +kernel
theorem dX11_give_1 : decode cX11_give 1 = .ok (.getfield 10, 3) := by decide +kernel
theorem dX11_give_4 : decode cX11_give 4 = .ok (.iload_n 1, 1) := by decide +kernel
theorem dX11_give_5 : decode cX11_give 5 = .ok (.invokevirtual 146, 3) := by decide +kernel
theorem dX11_give_8 : decode cX11_give 8 = .ok (.ifCond .eq 14, 3) := by decide +kernel
theorem dX11_give_11 : decode cX11_give 11 = .ok (.aload_n 0, 1) := by decide +kernel
theorem dX11_give_12 : decode cX11_give 12 = .ok (.getfield 10, 3) := by decide +kernel
theorem dX11_give_15 : decode cX11_give 15 = .ok (.iload_n 2, 1) := by decide +kernel
theorem dX11_give_16 : decode cX11_give 16 = .ok (.invokevirtual 121, 3) := by decide +kernel
theorem dX11_give_19 : decode cX11_give 19 = .ok (.ifCond .ne 10, 3) := by decide +kernel
theorem dX11_give_22 : decode cX11_give 22 = .ok (.aload_n 0, 1) := by decide +kernel
theorem dX11_give_23 : decode cX11_give 23 = .ok (.bipush (-2), 2) := by decide +kernel
theorem dX11_give_25 : decode cX11_give 25 = .ok (.invokevirtual 104, 3) := by decide +kernel
theorem dX11_give_28 : decode cX11_give 28 = .ok (.ireturn, 1) := by decide +kernel
theorem dX11_give_29 : decode cX11_give 29 = .ok (.aload_n 0, 1) := by decide +kernel
theorem dX11_give_30 : decode cX11_give 30 = .ok (.getfield 48, 3) := by decide +kernel
theorem dX11_give_33 : decode cX11_give 33 = .ok (.aload_n 0, 1) := by decide +kernel
theorem dX11_give_34 : decode cX11_give 34 = .ok (.getfield 10, 3) := by decide +kernel
theorem dX11_give_37 : decode cX11_give 37 = .ok (.iload_n 1, 1) := by decide +kernel
theorem dX11_give_38 : decode cX11_give 38 = .ok (.iload_n 2, 1) := by decide +kernel
theorem dX11_give_39 : decode cX11_give 39 = .ok (.invokevirtual 223, 3) := by decide +kernel
theorem dX11_give_42 : decode cX11_give 42 = .ok (.ifCond .ne 10, 3) := by decide +kernel
theorem dX11_give_45 : decode cX11_give 45 = .ok (.aload_n 0, 1) := by decide +kernel
theorem dX11_give_46 : decode cX11_give 46 = .ok (.bipush (-3), 2) := by decide +kernel
theorem dX11_give_48 : decode cX11_give 48 = .ok (.invokevirtual 104, 3) := by decide +kernel
theorem dX11_give_51 : decode cX11_give 51 = .ok (.ireturn, 1) := by decide +kernel
theorem dX11_give_52 : decode cX11_give 52 = .ok (.aload_n 0, 1) := by decide +kernel
theorem dX11_give_53 : decode cX11_give 53 = .ok (.getfield 25, 3) := by decide +kernel
theorem dX11_give_56 : decode cX11_give 56 = .ok (.aload_n 0, 1) := by decide +kernel
theorem dX11_give_57 : decode cX11_give 57 = .ok (.getfield 10, 3) := by decide +kernel
theorem dX11_give_60 : decode cX11_give 60 = .ok (.iconst 0, 1) := by decide +kernel
theorem dX11_give_61 : decode cX11_give 61 = .ok (.invokevirtual 227, 3) := by decide +kernel
theorem dX11_give_64 : decode cX11_give 64 = .ok (.aload_n 0, 1) := by decide +kernel
theorem dX11_give_65 : decode cX11_give 65 = .ok (.aload_n 0, 1) := by decide +kernel
theorem dX11_give_66 : decode cX11_give 66 = .ok (.getfield 48, 3) := by decide +kernel
theorem dX11_give_69 : decode cX11_give 69 = .ok (.aload_n 0, 1) := by decide +kernel
theorem dX11_give_70 : decode cX11_give 70 = .ok (.getfield 10, 3) := by decide +kernel
theorem dX11_give_73 : decode cX11_give 73 = .ok (.iload_n 1, 1) := by decide +kernel
theorem dX11_give_74 : decode cX11_give 74 = .ok (.iload_n 2, 1) := by decide +kernel
theorem dX11_give_75 : decode cX11_give 75 = .ok (.invokevirtual 231, 3) := by decide +kernel
theorem dX11_give_78 : decode cX11_give 78 = .ok (.invokevirtual 118, 3) := by decide +kernel
theorem dX11_give_81 : decode cX11_give 81 = .ok (.ireturn, 1) := by decide +kernel
theorem dX11_good_0 : decode cX11_good 0 = .ok (.iload_n 2, 1) := by decide +kernel
theorem dX11_good_1 : decode cX11_good 1 = .ok (.iconst 0, 1) := by decide +kernel
theorem dX11_good_2 : decode cX11_good 2 = .ok (.bipush 99, 2) := by decide +kernel
theorem dX11_good_4 : decode cX11_good 4 = .ok (.invokestatic 100, 3) := by decide +kernel
theorem dX11_good_7 : decode cX11_good 7 = .ok (.ifCond .eq 13, 3) := by decide +kernel
theorem dX11_good_10 : decode cX11_good 10 = .ok (.iload_n 3, 1) := by decide +kernel
theorem dX11_good_11 : decode cX11_good 11 = .ok (.iconst 0, 1) := by decide +kernel
theorem dX11_good_12 : decode cX11_good 12 = .ok (.bipush 20, 2) := by decide +kernel
theorem dX11_good_14 : decode cX11_good 14 = .ok (.invokestatic 100, 3) := by decide +kernel
theorem dX11_good_17 : decode cX11_good 17 = .ok (.ifCond .ne 9, 3) := by decide +kernel
theorem dX11_good_20 : decode cX11_good 20 = .ok (.aload_n 0, 1) := by decide +kernel
theorem dX11_good_21 : decode cX11_good 21 = .ok (.iconst (-1), 1) := by decide +kernel
theorem dX11_good_22 : decode cX11_good 22 = .ok (.invokevirtual 104, 3) := by decide +kernel
theorem dX11_good_25 : decode cX11_good 25 = .ok (.ireturn, 1) := by decide +kernel
theorem dX11_good_26 : decode cX11_good 26 = .ok (.aload_n 0, 1) := by decide +kernel
theorem dX11_good_27 : decode cX11_good 27 = .ok (.getfield 10, 3) := by decide +kernel
theorem dX11_good_30 : decode cX11_good 30 = .ok (.iload_n 1, 1) := by decide +kernel
theorem dX11_good_31 : decode cX11_good 31 = .ok (.invokevirtual 121, 3) := by decide +kernel
theorem dX11_good_34 : decode cX11_good 34 = .ok (.ifCond .ne 10, 3) := by decide +kernel
theorem dX11_good_37 : decode cX11_good 37 = .ok (.aload_n 0, 1) := by decide +kernel
theorem dX11_good_38 : decode cX11_good 38 = .ok (.bipush (-2), 2) := by decide +kernel
theorem dX11_good_40 : decode cX11_good 40 = .ok (.invokevirtual 104, 3) := by decide +kernel
theorem dX11_good_43 : decode cX11_good 43 = .ok (.ireturn, 1) := by decide +kernel
theorem dX11_good_44 : decode cX11_good 44 = .ok (.aload_n 0, 1) := by decide +kernel
theorem dX11_good_45 : decode cX11_good 45 = .ok (.getfield 10, 3) := by decide +kernel
theorem dX11_good_48 : decode cX11_good 48 = .ok (.iconst 1, 1) := by decide +kernel
theorem dX11_good_49 : decode cX11_good 49 = .ok (.invokevirtual 108, 3) := by decide +kernel
theorem dX11_good_52 : decode cX11_good 52 = .ok (.bipush 16, 2) := by decide +kernel
theorem dX11_good_54 : decode cX11_good 54 = .ok (.if_icmp .lt 10, 3) := by decide +kernel
theorem dX11_good_57 : decode cX11_good 57 = .ok (.aload_n 0, 1) := by decide +kernel
theorem dX11_good_58 : decode cX11_good 58 = .ok (.bipush (-5), 2) := by decide +kernel
theorem dX11_good_60 : decode cX11_good 60 = .ok (.invokevirtual 104, 3) := by decide +kernel
theorem dX11_good_63 : decode cX11_good 63 = .ok (.ireturn, 1) := by decide +kernel
theorem dX11_good_64 : decode cX11_good 64 = .ok (.aload_n 0, 1) := by decide +kernel
theorem dX11_good_65 : decode cX11_good 65 = .ok (.getfield 25, 3) := by decide +kernel
theorem dX11_good_68 : decode cX11_good 68 = .ok (.invokevirtual 111, 3) := by decide +kernel
theorem dX11_good_71 : decode cX11_good 71 = .ok (.aload_n 0, 1) := by decide +kernel
theorem dX11_good_72 : decode cX11_good 72 = .ok (.aload_n 0, 1) := by decide +kernel
theorem dX11_good_73 : decode cX11_good 73 = .ok (.getfield 10, 3) := by decide +kernel
theorem dX11_good_76 : decode cX11_good 76 = .ok (.iload_n 1, 1) := by decide +kernel
theorem dX11_good_77 : decode cX11_good 77 = .ok (.iload_n 2, 1) := by decide +kernel
theorem dX11_good_78 : decode cX11_good 78 = .ok (.iload_n 3, 1) := by decide +kernel
theorem dX11_good_79 : decode cX11_good 79 = .ok (.invokevirtual 142, 3) := by decide +kernel
theorem dX11_good_82 : decode cX11_good 82 = .ok (.invokevirtual 118, 3) := by decide +kernel
theorem dX11_good_85 : decode cX11_good 85 = .ok (.ireturn, 1) := by decide +kernel
theorem dX11_herald_0 : decode cX11_herald 0 = .ok (.iload_n 1, 1) := by decide +kernel
theorem dX11_herald_1 : decode cX11_herald 1 = .ok (.iconst 1, 1) := by decide +kernel
theorem dX11_herald_2 : decode cX11_herald 2 = .ok (.bipush 9, 2) := by decide +kernel
theorem dX11_herald_4 : decode cX11_herald 4 = .ok (.invokestatic 100, 3) := by decide +kernel
theorem dX11_herald_7 : decode cX11_herald 7 = .ok (.ifCond .ne 9, 3) := by decide +kernel
theorem dX11_herald_10 : decode cX11_herald 10 = .ok (.aload_n 0, 1) := by decide +kernel
theorem dX11_herald_11 : decode cX11_herald 11 = .ok (.iconst (-1), 1) := by decide +kernel
theorem dX11_herald_12 : decode cX11_herald 12 = .ok (.invokevirtual 104, 3) := by decide +kernel
theorem dX11_herald_15 : decode cX11_herald 15 = .ok (.ireturn, 1) := by decide +kernel
theorem dX11_herald_16 : decode cX11_herald 16 = .ok (.aload_n 0, 1) := by decide +kernel
theorem dX11_herald_17 : decode cX11_herald 17 = .ok (.getfield 10, 3) := by decide +kernel
theorem dX11_herald_20 : decode cX11_herald 20 = .ok (.iconst 2, 1) := by decide +kernel
theorem dX11_herald_21 : decode cX11_herald 21 = .ok (.invokevirtual 108, 3) := by decide +kernel
theorem dX11_herald_24 : decode cX11_herald 24 = .ok (.iconst 5, 1) := by decide +kernel
theorem dX11_herald_25 : decode cX11_herald 25 = .ok (.if_icmp .lt 10, 3) := by decide +kernel
theorem dX11_herald_28 : decode cX11_herald 28 = .ok (.aload_n 0, 1) := by decide +kernel
theorem dX11_herald_29 : decode cX11_herald 29 = .ok (.bipush (-5), 2) := by decide +kernel
theorem dX11_herald_31 : decode cX11_herald 31 = .ok (.invokevirtual 104, 3) := by decide +kernel
theorem dX11_herald_34 : decode cX11_herald 34 = .ok (.ireturn, 1) := by decide +kernel
theorem dX11_herald_35 : decode cX11_herald 35 = .ok (.aload_n 0, 1) := by decide +kernel
theorem dX11_herald_36 : decode cX11_herald 36 = .ok (.aload_n 0, 1) := by decide +kernel
theorem dX11_herald_37 : decode cX11_herald 37 = .ok (.getfield 10, 3) := by decide +kernel
theorem dX11_herald_40 : decode cX11_herald 40 = .ok (.iload_n 1, 1) := by decide +kernel
theorem dX11_herald_41 : decode cX11_herald 41 = .ok (.invokevirtual 263, 3) := by decide +kernel
theorem dX11_herald_44 : decode cX11_herald 44 = .ok (.invokevirtual 118, 3) := by decide +kernel
theorem dX11_herald_47 : decode cX11_herald 47 = .ok (.ireturn, 1) := by decide +kernel
theorem dX11_image_0 : decode cX11_image 0 = .ok (.iload_n 1, 1) := by decide +kernel
theorem dX11_image_1 : decode cX11_image 1 = .ok (.iconst 0, 1) := by decide +kernel
theorem dX11_image_2 : decode cX11_image 2 = .ok (.iconst 1, 1) := by decide +kernel
theorem dX11_image_3 : decode cX11_image 3 = .ok (.invokestatic 100, 3) := by decide +kernel
theorem dX11_image_6 : decode cX11_image 6 = .ok (.ifCond .ne 9, 3) := by decide +kernel
theorem dX11_image_9 : decode cX11_image 9 = .ok (.aload_n 0, 1) := by decide +kernel
theorem dX11_image_10 : decode cX11_image 10 = .ok (.iconst (-1), 1) := by decide +kernel
theorem dX11_image_11 : decode cX11_image 11 = .ok (.invokevirtual 104, 3) := by decide +kernel
theorem dX11_image_14 : decode cX11_image 14 = .ok (.ireturn, 1) := by decide +kernel
theorem dX11_image_15 : decode cX11_image 15 = .ok (.iload_n 1, 1) := by decide +kernel
theorem dX11_image_16 : decode cX11_image 16 = .ok (.ifCond .ne 10, 3) := by decide +kernel
theorem dX11_image_19 : decode cX11_image 19 = .ok (.aload_n 0, 1) := by decide +kernel
theorem dX11_image_20 : decode cX11_image 20 = .ok (.getfield 16, 3) := by decide +kernel
theorem dX11_image_23 : decode cX11_image 23 = .ok (.goto 7, 3) := by decide +kernel
theorem dX11_image_26 : decode cX11_image 26 = .ok (.aload_n 0, 1) := by decide +kernel
theorem dX11_image_27 : decode cX11_image 27 = .ok (.getfield 19, 3) := by decide +kernel
theorem dX11_image_30 : decode cX11_image 30 = .ok (.astore_n 2, 1) := by decide +kernel
theorem dX11_image_31 : decode cX11_image 31 = .ok (.aload_n 2, 1) := by decide +kernel
theorem dX11_image_32 : decode cX11_image 32 = .ok (.aload_n 0, 1) := by decide +kernel
theorem dX11_image_33 : decode cX11_image 33 = .ok (.getfield 10, 3) := by decide +kernel
theorem dX11_image_36 : decode cX11_image 36 = .ok (.invokevirtual 302, 3) := by decide +kernel
theorem dX11_image_39 : decode cX11_image 39 = .ok (.aload_n 2, 1) := by decide +kernel
theorem dX11_image_40 : decode cX11_image 40 = .ok (.invokevirtual 306, 3) := by decide +kernel
theorem dX11_image_43 : decode cX11_image 43 = .ok (.aload_n 0, 1) := by decide +kernel
theorem dX11_image_44 : decode cX11_image 44 = .ok (.iconst 0, 1) := by decide +kernel
theorem dX11_image_45 : decode cX11_image 45 = .ok (.invokevirtual 118, 3) := by decide +kernel
theorem dX11_image_48 : decode cX11_image 48 = .ok (.ireturn, 1) := by decide +kernel
theorem dX11_lord_0 : decode cX11_lord 0 = .ok (.iload_n 1, 1) := by decide +kernel
theorem dX11_lord_1 : decode cX11_lord 1 = .ok (.iconst 0, 1) := by decide +kernel
theorem dX11_lord_2 : decode cX11_lord 2 = .ok (.sipush 9999, 3) := by decide +kernel
theorem dX11_lord_5 : decode cX11_lord 5 = .ok (.invokestatic 100, 3) := by decide +kernel
theorem dX11_lord_8 : decode cX11_lord 8 = .ok (.ifCond .eq 13, 3) := by decide +kernel
theorem dX11_lord_11 : decode cX11_lord 11 = .ok (.iload_n 2, 1) := by decide +kernel
theorem dX11_lord_12 : decode cX11_lord 12 = .ok (.iconst 0, 1) := by decide +kernel
theorem dX11_lord_13 : decode cX11_lord 13 = .ok (.bipush 99, 2) := by decide +kernel
theorem dX11_lord_15 : decode cX11_lord 15 = .ok (.invokestatic 100, 3) := by decide +kernel
theorem dX11_lord_18 : decode cX11_lord 18 = .ok (.ifCond .ne 9, 3) := by decide +kernel
theorem dX11_lord_21 : decode cX11_lord 21 = .ok (.aload_n 0, 1) := by decide +kernel
theorem dX11_lord_22 : decode cX11_lord 22 = .ok (.iconst (-1), 1) := by decide +kernel
theorem dX11_lord_23 : decode cX11_lord 23 = .ok (.invokevirtual 104, 3) := by decide +kernel
theorem dX11_lord_26 : decode cX11_lord 26 = .ok (.ireturn, 1) := by decide +kernel
theorem dX11_lord_27 : decode cX11_lord 27 = .ok (.aload_n 0, 1) := by decide +kernel
theorem dX11_lord_28 : decode cX11_lord 28 = .ok (.getfield 10, 3) := by decide +kernel
theorem dX11_lord_31 : decode cX11_lord 31 = .ok (.iconst 0, 1) := by decide +kernel
theorem dX11_lord_32 : decode cX11_lord 32 = .ok (.invokevirtual 108, 3) := by decide +kernel
theorem dX11_lord_35 : decode cX11_lord 35 = .ok (.bipush 6, 2) := by decide +kernel
theorem dX11_lord_37 : decode cX11_lord 37 = .ok (.if_icmp .lt 10, 3) := by decide +kernel
theorem dX11_lord_40 : decode cX11_lord 40 = .ok (.aload_n 0, 1) := by decide +kernel
theorem dX11_lord_41 : decode cX11_lord 41 = .ok (.bipush (-5), 2) := by decide +kernel
theorem dX11_lord_43 : decode cX11_lord 43 = .ok (.invokevirtual 104, 3) := by decide +kernel
theorem dX11_lord_46 : decode cX11_lord 46 = .ok (.ireturn, 1) := by decide +kernel
theorem dX11_lord_47 : decode cX11_lord 47 = .ok (.aload_n 0, 1) := by decide +kernel
theorem dX11_lord_48 : decode cX11_lord 48 = .ok (.getfield 25, 3) := by decide +kernel
theorem dX11_lord_51 : decode cX11_lord 51 = .ok (.invokevirtual 111, 3) := by decide +kernel
theorem dX11_lord_54 : decode cX11_lord 54 = .ok (.aload_n 0, 1) := by decide +kernel
theorem dX11_lord_55 : decode cX11_lord 55 = .ok (.aload_n 0, 1) := by decide +kernel
theorem dX11_lord_56 : decode cX11_lord 56 = .ok (.getfield 10, 3) := by decide +kernel
theorem dX11_lord_59 : decode cX11_lord 59 = .ok (.iload_n 1, 1) := by decide +kernel
theorem dX11_lord_60 : decode cX11_lord 60 = .ok (.iload_n 2, 1) := by decide +kernel
theorem dX11_lord_61 : decode cX11_lord 61 = .ok (.invokevirtual 114, 3) := by decide +kernel
theorem dX11_lord_64 : decode cX11_lord 64 = .ok (.invokevirtual 118, 3) := by decide +kernel
theorem dX11_lord_67 : decode cX11_lord 67 = .ok (.ireturn, 1) := by decide +kernel
theorem dX11_of_0 : decode cX11_of 0 = .ok (.aload_n 0, 1) := by decide +kernel
theorem dX11_of_1 : decode cX11_of 1 = .ok (.getfield 10, 3) := by decide +kernel
theorem dX11_of_4 : decode cX11_of 4 = .ok (.iload_n 1, 1) := by decide +kernel
theorem dX11_of_5 : decode cX11_of 5 = .ok (.invokevirtual 121, 3) := by decide +kernel
theorem dX11_of_8 : decode cX11_of 8 = .ok (.ifCond .ne 5, 3) := by decide +kernel
theorem dX11_of_11 : decode cX11_of 11 = .ok (.iconst (-1), 1) := by decide +kernel
theorem dX11_of_12 : decode cX11_of 12 = .ok (.ireturn, 1) := by decide +kernel
theorem dX11_of_13 : decode cX11_of 13 = .ok (.iload_n 2, 1) := by decide +kernel
theorem dX11_of_14 : decode cX11_of 14 = .ok (.bipush 7, 2) := by decide +kernel
theorem dX11_of_16 : decode cX11_of 16 = .ok (.if_icmp .ne 24, 3) := by decide +kernel
theorem dX11_of_19 : decode cX11_of 19 = .ok (.aload_n 0, 1) := by decide +kernel
theorem dX11_of_20 : decode cX11_of 20 = .ok (.getfield 39, 3) := by decide +kernel
theorem dX11_of_23 : decode cX11_of 23 = .ok (.aload_n 0, 1) := by decide +kernel
theorem dX11_of_24 : decode cX11_of 24 = .ok (.getfield 10, 3) := by decide +kernel
theorem dX11_of_27 : decode cX11_of 27 = .ok (.iload_n 1, 1) := by decide +kernel
theorem dX11_of_28 : decode cX11_of 28 = .ok (.aload_n 0, 1) := by decide +kernel
theorem dX11_of_29 : decode cX11_of 29 = .ok (.getfield 10, 3) := by decide +kernel
theorem dX11_of_32 : decode cX11_of 32 = .ok (.iconst 0, 1) := by decide +kernel
theorem dX11_of_33 : decode cX11_of 33 = .ok (.invokevirtual 125, 3) := by decide +kernel
theorem dX11_of_36 : decode cX11_of 36 = .ok (.invokevirtual 128, 3) := by decide +kernel
theorem dX11_of_39 : decode cX11_of 39 = .ok (.ireturn, 1) := by decide +kernel
theorem dX11_of_40 : decode cX11_of 40 = .ok (.aload_n 0, 1) := by decide +kernel
theorem dX11_of_41 : decode cX11_of 41 = .ok (.getfield 10, 3) := by decide +kernel
theorem dX11_of_44 : decode cX11_of 44 = .ok (.iload_n 1, 1) := by decide +kernel
theorem dX11_of_45 : decode cX11_of 45 = .ok (.iload_n 2, 1) := by decide +kernel
theorem dX11_of_46 : decode cX11_of 46 = .ok (.invokevirtual 132, 3) := by decide +kernel
theorem dX11_of_49 : decode cX11_of 49 = .ok (.ireturn, 1) := by decide +kernel
theorem dX3_forget_0 : decode cX3_forget 0 = .ok (.aload_n 0, 1) := by decide +kernel
theorem dX3_forget_1 : decode cX3_forget 1 = .ok (.iconst (-1), 1) := by decide +kernel
theorem dX3_forget_2 : decode cX3_forget 2 = .ok (.putfield 34, 3) := by decide +kernel
theorem dX3_forget_5 : decode cX3_forget 5 = .ok (.return_, 1) := by decide +kernel
theorem dX3_look_0 : decode cX3_look 0 = .ok (.aload_n 0, 1) := by decide +kernel
theorem dX3_look_1 : decode cX3_look 1 = .ok (.getfield 25, 3) := by decide +kernel
theorem dX3_look_4 : decode cX3_look 4 = .ok (.iconst 0, 1) := by decide +kernel
theorem dX3_look_5 : decode cX3_look 5 = .ok (.aload_n 1, 1) := by decide +kernel
theorem dX3_look_6 : decode cX3_look 6 = .ok (.iconst 0, 1) := by decide +kernel
theorem dX3_look_7 : decode cX3_look 7 = .ok (.invokevirtual 76, 3) := by decide +kernel
theorem dX3_look_10 : decode cX3_look 10 = .ok (.iastore, 1) := by decide +kernel
theorem dX3_look_11 : decode cX3_look 11 = .ok (.aload_n 0, 1) := by decide +kernel
theorem dX3_look_12 : decode cX3_look 12 = .ok (.getfield 25, 3) := by decide +kernel
theorem dX3_look_15 : decode cX3_look 15 = .ok (.iconst 1, 1) := by decide +kernel
theorem dX3_look_16 : decode cX3_look 16 = .ok (.aload_n 1, 1) := by decide +kernel
theorem dX3_look_17 : decode cX3_look 17 = .ok (.iconst 1, 1) := by decide +kernel
theorem dX3_look_18 : decode cX3_look 18 = .ok (.invokevirtual 109, 3) := by decide +kernel
theorem dX3_look_21 : decode cX3_look 21 = .ok (.iastore, 1) := by decide +kernel
theorem dX3_look_22 : decode cX3_look 22 = .ok (.aload_n 0, 1) := by decide +kernel
theorem dX3_look_23 : decode cX3_look 23 = .ok (.getfield 25, 3) := by decide +kernel
theorem dX3_look_26 : decode cX3_look 26 = .ok (.iconst 2, 1) := by decide +kernel
theorem dX3_look_27 : decode cX3_look 27 = .ok (.aload_n 0, 1) := by decide +kernel
theorem dX3_look_28 : decode cX3_look 28 = .ok (.getfield 38, 3) := by decide +kernel
theorem dX3_look_31 : decode cX3_look 31 = .ok (.iastore, 1) := by decide +kernel
theorem dX3_look_32 : decode cX3_look 32 = .ok (.aload_n 0, 1) := by decide +kernel
theorem dX3_look_33 : decode cX3_look 33 = .ok (.getfield 25, 3) := by decide +kernel
theorem dX3_look_36 : decode cX3_look 36 = .ok (.iconst 3, 1) := by decide +kernel
theorem dX3_look_37 : decode cX3_look 37 = .ok (.aload_n 0, 1) := by decide +kernel
theorem dX3_look_38 : decode cX3_look 38 = .ok (.getfield 41, 3) := by decide +kernel
theorem dX3_look_41 : decode cX3_look 41 = .ok (.iastore, 1) := by decide +kernel
theorem dX3_look_42 : decode cX3_look 42 = .ok (.iconst 0, 1) := by decide +kernel
theorem dX3_look_43 : decode cX3_look 43 = .ok (.istore_n 2, 1) := by decide +kernel
theorem dX3_look_44 : decode cX3_look 44 = .ok (.iload_n 2, 1) := by decide +kernel
theorem dX3_look_45 : decode cX3_look 45 = .ok (.bipush 6, 2) := by decide +kernel
theorem dX3_look_47 : decode cX3_look 47 = .ok (.if_icmp .ge 59, 3) := by decide +kernel
theorem dX3_look_50 : decode cX3_look 50 = .ok (.aload_n 1, 1) := by decide +kernel
theorem dX3_look_51 : decode cX3_look 51 = .ok (.iload_n 2, 1) := by decide +kernel
theorem dX3_look_52 : decode cX3_look 52 = .ok (.invokevirtual 98, 3) := by decide +kernel
theorem dX3_look_55 : decode cX3_look 55 = .ok (.istore_n 3, 1) := by decide +kernel
theorem dX3_look_56 : decode cX3_look 56 = .ok (.aload_n 0, 1) := by decide +kernel
theorem dX3_look_57 : decode cX3_look 57 = .ok (.getfield 25, 3) := by decide +kernel
theorem dX3_look_60 : decode cX3_look 60 = .ok (.iconst 4, 1) := by decide +kernel
theorem dX3_look_61 : decode cX3_look 61 = .ok (.iload_n 2, 1) := by decide +kernel
theorem dX3_look_62 : decode cX3_look 62 = .ok (.iadd, 1) := by decide +kernel
theorem dX3_look_63 : decode cX3_look 63 = .ok (.iload_n 3, 1) := by decide +kernel
theorem dX3_look_64 : decode cX3_look 64 = .ok (.ifCond .eq 12, 3) := by decide +kernel
theorem dX3_look_67 : decode cX3_look 67 = .ok (.aload_n 1, 1) := by decide +kernel
theorem dX3_look_68 : decode cX3_look 68 = .ok (.iload_n 2, 1) := by decide +kernel
theorem dX3_look_69 : decode cX3_look 69 = .ok (.iconst 0, 1) := by decide +kernel
theorem dX3_look_70 : decode cX3_look 70 = .ok (.invokevirtual 112, 3) := by decide +kernel
theorem dX3_look_73 : decode cX3_look 73 = .ok (.goto 4, 3) := by decide +kernel
theorem dX3_look_76 : decode cX3_look 76 = .ok (.iconst (-1), 1) := by decide +kernel
theorem dX3_look_77 : decode cX3_look 77 = .ok (.iastore, 1) := by decide +kernel
theorem dX3_look_78 : decode cX3_look 78 = .ok (.aload_n 0, 1) := by decide +kernel
theorem dX3_look_79 : decode cX3_look 79 = .ok (.getfield 25, 3) := by decide +kernel
theorem dX3_look_82 : decode cX3_look 82 = .ok (.bipush 26, 2) := by decide +kernel
theorem dX3_look_84 : decode cX3_look 84 = .ok (.iload_n 2, 1) := by decide +kernel
theorem dX3_look_85 : decode cX3_look 85 = .ok (.iadd, 1) := by decide +kernel
theorem dX3_look_86 : decode cX3_look 86 = .ok (.iload_n 3, 1) := by decide +kernel
theorem dX3_look_87 : decode cX3_look 87 = .ok (.ifCond .eq 11, 3) := by decide +kernel
theorem dX3_look_90 : decode cX3_look 90 = .ok (.aload_n 1, 1) := by decide +kernel
theorem dX3_look_91 : decode cX3_look 91 = .ok (.iload_n 2, 1) := by decide +kernel
theorem dX3_look_92 : decode cX3_look 92 = .ok (.invokevirtual 115, 3) := by decide +kernel
theorem dX3_look_95 : decode cX3_look 95 = .ok (.goto 4, 3) := by decide +kernel
theorem dX3_look_98 : decode cX3_look 98 = .ok (.iconst (-1), 1) := by decide +kernel
theorem dX3_look_99 : decode cX3_look 99 = .ok (.iastore, 1) := by decide +kernel
theorem dX3_look_100 : decode cX3_look 100 = .ok (.iinc 2 1, 3) := by decide +kernel
theorem dX3_look_103 : decode cX3_look 103 = .ok (.goto (-59), 3) := by decide +kernel
theorem dX3_look_106 : decode cX3_look 106 = .ok (.iconst 0, 1) := by decide +kernel
theorem dX3_look_107 : decode cX3_look 107 = .ok (.istore_n 2, 1) := by decide +kernel
theorem dX3_look_108 : decode cX3_look 108 = .ok (.iload_n 2, 1) := by decide +kernel
theorem dX3_look_109 : decode cX3_look 109 = .ok (.bipush 16, 2) := by decide +kernel
theorem dX3_look_111 : decode cX3_look 111 = .ok (.if_icmp .ge 36, 3) := by decide +kernel
theorem dX3_look_114 : decode cX3_look 114 = .ok (.aload_n 0, 1) := by decide +kernel
theorem dX3_look_115 : decode cX3_look 115 = .ok (.getfield 25, 3) := by decide +kernel
theorem dX3_look_118 : decode cX3_look 118 = .ok (.bipush 10, 2) := by decide +kernel
theorem dX3_look_120 : decode cX3_look 120 = .ok (.iload_n 2, 1) := by decide +kernel
theorem dX3_look_121 : decode cX3_look 121 = .ok (.iadd, 1) := by decide +kernel
theorem dX3_look_122 : decode cX3_look 122 = .ok (.aload_n 1, 1) := by decide +kernel
theorem dX3_look_123 : decode cX3_look 123 = .ok (.iload_n 2, 1) := by decide +kernel
theorem dX3_look_124 : decode cX3_look 124 = .ok (.invokevirtual 94, 3) := by decide +kernel
theorem dX3_look_127 : decode cX3_look 127 = .ok (.ifCond .eq 12, 3) := by decide +kernel
theorem dX3_look_130 : decode cX3_look 130 = .ok (.aload_n 1, 1) := by decide +kernel
theorem dX3_look_131 : decode cX3_look 131 = .ok (.iload_n 2, 1) := by decide +kernel
theorem dX3_look_132 : decode cX3_look 132 = .ok (.iconst 0, 1) := by decide +kernel
theorem dX3_look_133 : decode cX3_look 133 = .ok (.invokevirtual 118, 3) := by decide +kernel
theorem dX3_look_136 : decode cX3_look 136 = .ok (.goto 4, 3) := by decide +kernel
theorem dX3_look_139 : decode cX3_look 139 = .ok (.iconst (-1), 1) := by decide +kernel
theorem dX3_look_140 : decode cX3_look 140 = .ok (.iastore, 1) := by decide +kernel
theorem dX3_look_141 : decode cX3_look 141 = .ok (.iinc 2 1, 3) := by decide +kernel
theorem dX3_look_144 : decode cX3_look 144 = .ok (.goto (-36), 3) := by decide +kernel
theorem dX3_look_147 : decode cX3_look 147 = .ok (.return_, 1) := by decide +kernel
theorem dX3_step_0 : decode cX3_step 0 = .ok (.aload_n 0, 1) := by decide +kernel
theorem dX3_step_1 : decode cX3_step 1 = .ok (.aload_n 3, 1) := by decide +kernel
theorem dX3_step_2 : decode cX3_step 2 = .ok (.invokevirtual 67, 3) := by decide +kernel
theorem dX3_step_5 : decode cX3_step 5 = .ok (.aload_n 1, 1) := by decide +kernel
theorem dX3_step_6 : decode cX3_step 6 = .ok (.iload_n 2, 1) := by decide +kernel
theorem dX3_step_7 : decode cX3_step 7 = .ok (.aload_n 0, 1) := by decide +kernel
theorem dX3_step_8 : decode cX3_step 8 = .ok (.getfield 25, 3) := by decide +kernel
theorem dX3_step_11 : decode cX3_step 11 = .ok (.aload_n 0, 1) := by decide +kernel
theorem dX3_step_12 : decode cX3_step 12 = .ok (.getfield 31, 3) := by decide +kernel
theorem dX3_step_15 : decode cX3_step 15 = .ok (.invokevirtual 70, 3) := by decide +kernel
theorem dX3_step_18 : decode cX3_step 18 = .ok (.ifCond .ne 5, 3) := by decide +kernel
theorem dX3_step_21 : decode cX3_step 21 = .ok (.iconst 1, 1) := by decide +kernel
theorem dX3_step_22 : decode cX3_step 22 = .ok (.ireturn, 1) := by decide +kernel
theorem dX3_step_23 : decode cX3_step 23 = .ok (.aload_n 1, 1) := by decide +kernel
theorem dX3_step_24 : decode cX3_step 24 = .ok (.iload_n 2, 1) := by decide +kernel
theorem dX3_step_25 : decode cX3_step 25 = .ok (.iconst 0, 1) := by decide +kernel
theorem dX3_step_26 : decode cX3_step 26 = .ok (.invokevirtual 59, 3) := by decide +kernel
theorem dX3_step_29 : decode cX3_step 29 = .ok (.sipush 265, 3) := by decide +kernel
theorem dX3_step_32 : decode cX3_step 32 = .ok (.if_icmp .ne 36, 3) := by decide +kernel
theorem dX3_step_35 : decode cX3_step 35 = .ok (.aload_n 3, 1) := by decide +kernel
theorem dX3_step_36 : decode cX3_step 36 = .ok (.iconst 0, 1) := by decide +kernel
theorem dX3_step_37 : decode cX3_step 37 = .ok (.invokevirtual 76, 3) := by decide +kernel
theorem dX3_step_40 : decode cX3_step 40 = .ok (.sipush 999, 3) := by decide +kernel
theorem dX3_step_43 : decode cX3_step 43 = .ok (.if_icmp .lt 5, 3) := by decide +kernel
theorem dX3_step_46 : decode cX3_step 46 = .ok (.iconst 0, 1) := by decide +kernel
theorem dX3_step_47 : decode cX3_step 47 = .ok (.ireturn, 1) := by decide +kernel
theorem dX3_step_48 : decode cX3_step 48 = .ok (.aload 4, 2) := by decide +kernel
theorem dX3_step_50 : decode cX3_step 50 = .ok (.aload_n 3, 1) := by decide +kernel
theorem dX3_step_51 : decode cX3_step 51 = .ok (.iconst 1, 1) := by decide +kernel
theorem dX3_step_52 : decode cX3_step 52 = .ok (.invokevirtual 80, 3) := by decide +kernel
theorem dX3_step_55 : decode cX3_step 55 = .ok (.aload_n 0, 1) := by decide +kernel
theorem dX3_step_56 : decode cX3_step 56 = .ok (.getfield 44, 3) := by decide +kernel
theorem dX3_step_59 : decode cX3_step 59 = .ok (.aload_n 3, 1) := by decide +kernel
theorem dX3_step_60 : decode cX3_step 60 = .ok (.iconst 0, 1) := by decide +kernel
theorem dX3_step_61 : decode cX3_step 61 = .ok (.invokevirtual 84, 3) := by decide +kernel
theorem dX3_step_64 : decode cX3_step 64 = .ok (.pop, 1) := by decide +kernel
theorem dX3_step_65 : decode cX3_step 65 = .ok (.goto 94, 3) := by decide +kernel
theorem dX3_step_68 : decode cX3_step 68 = .ok (.aload_n 1, 1) := by decide +kernel
theorem dX3_step_69 : decode cX3_step 69 = .ok (.iload_n 2, 1) := by decide +kernel
theorem dX3_step_70 : decode cX3_step 70 = .ok (.iconst 4, 1) := by decide +kernel
theorem dX3_step_71 : decode cX3_step 71 = .ok (.aload_n 0, 1) := by decide +kernel
theorem dX3_step_72 : decode cX3_step 72 = .ok (.getfield 25, 3) := by decide +kernel
theorem dX3_step_75 : decode cX3_step 75 = .ok (.aload_n 0, 1) := by decide +kernel
theorem dX3_step_76 : decode cX3_step 76 = .ok (.getfield 31, 3) := by decide +kernel
theorem dX3_step_79 : decode cX3_step 79 = .ok (.invokevirtual 90, 3) := by decide +kernel
theorem dX3_step_82 : decode cX3_step 82 = .ok (.istore 5, 2) := by decide +kernel
theorem dX3_step_84 : decode cX3_step 84 = .ok (.aload_n 1, 1) := by decide +kernel
theorem dX3_step_85 : decode cX3_step 85 = .ok (.iload_n 2, 1) := by decide +kernel
theorem dX3_step_86 : decode cX3_step 86 = .ok (.bipush 6, 2) := by decide +kernel
theorem dX3_step_88 : decode cX3_step 88 = .ok (.aload_n 0, 1) := by decide +kernel
theorem dX3_step_89 : decode cX3_step 89 = .ok (.getfield 25, 3) := by decide +kernel
theorem dX3_step_92 : decode cX3_step 92 = .ok (.aload_n 0, 1) := by decide +kernel
theorem dX3_step_93 : decode cX3_step 93 = .ok (.getfield 31, 3) := by decide +kernel
theorem dX3_step_96 : decode cX3_step 96 = .ok (.invokevirtual 90, 3) := by decide +kernel
theorem dX3_step_99 : decode cX3_step 99 = .ok (.istore 6, 2) := by decide +kernel
theorem dX3_step_101 : decode cX3_step 101 = .ok (.aload_n 3, 1) := by decide +kernel
theorem dX3_step_102 : decode cX3_step 102 = .ok (.iload 5, 2) := by decide +kernel
theorem dX3_step_104 : decode cX3_step 104 = .ok (.invokevirtual 94, 3) := by decide +kernel
theorem dX3_step_107 : decode cX3_step 107 = .ok (.ifCond .eq 27, 3) := by decide +kernel
theorem dX3_step_110 : decode cX3_step 110 = .ok (.aload_n 3, 1) := by decide +kernel
theorem dX3_step_111 : decode cX3_step 111 = .ok (.iload 6, 2) := by decide +kernel
theorem dX3_step_113 : decode cX3_step 113 = .ok (.invokevirtual 98, 3) := by decide +kernel
theorem dX3_step_116 : decode cX3_step 116 = .ok (.ifCond .eq 18, 3) := by decide +kernel
theorem dX3_step_119 : decode cX3_step 119 = .ok (.aload_n 0, 1) := by decide +kernel
theorem dX3_step_120 : decode cX3_step 120 = .ok (.getfield 44, 3) := by decide +kernel
theorem dX3_step_123 : decode cX3_step 123 = .ok (.aload_n 3, 1) := by decide +kernel
theorem dX3_step_124 : decode cX3_step 124 = .ok (.iload 5, 2) := by decide +kernel
theorem dX3_step_126 : decode cX3_step 126 = .ok (.iload 6, 2) := by decide +kernel
theorem dX3_step_128 : decode cX3_step 128 = .ok (.invokevirtual 101, 3) := by decide +kernel
theorem dX3_step_131 : decode cX3_step 131 = .ok (.ifCond .ne 5, 3) := by decide +kernel
theorem dX3_step_134 : decode cX3_step 134 = .ok (.iconst 0, 1) := by decide +kernel
theorem dX3_step_135 : decode cX3_step 135 = .ok (.ireturn, 1) := by decide +kernel
theorem dX3_step_136 : decode cX3_step 136 = .ok (.aload 4, 2) := by decide +kernel
theorem dX3_step_138 : decode cX3_step 138 = .ok (.aload_n 3, 1) := by decide +kernel
theorem dX3_step_139 : decode cX3_step 139 = .ok (.iconst 0, 1) := by decide +kernel
theorem dX3_step_140 : decode cX3_step 140 = .ok (.invokevirtual 80, 3) := by decide +kernel
theorem dX3_step_143 : decode cX3_step 143 = .ok (.aload_n 0, 1) := by decide +kernel
theorem dX3_step_144 : decode cX3_step 144 = .ok (.aload_n 0, 1) := by decide +kernel
theorem dX3_step_145 : decode cX3_step 145 = .ok (.getfield 44, 3) := by decide +kernel
theorem dX3_step_148 : decode cX3_step 148 = .ok (.aload_n 3, 1) := by decide +kernel
theorem dX3_step_149 : decode cX3_step 149 = .ok (.iload 5, 2) := by decide +kernel
theorem dX3_step_151 : decode cX3_step 151 = .ok (.iload 6, 2) := by decide +kernel
theorem dX3_step_153 : decode cX3_step 153 = .ok (.invokevirtual 105, 3) := by decide +kernel
theorem dX3_step_156 : decode cX3_step 156 = .ok (.putfield 41, 3) := by decide +kernel
theorem dX3_step_159 : decode cX3_step 159 = .ok (.aload_n 0, 1) := by decide +kernel
theorem dX3_step_160 : decode cX3_step 160 = .ok (.dup, 1) := by decide +kernel
theorem dX3_step_161 : decode cX3_step 161 = .ok (.getfield 38, 3) := by decide +kernel
theorem dX3_step_164 : decode cX3_step 164 = .ok (.iconst 1, 1) := by decide +kernel
theorem dX3_step_165 : decode cX3_step 165 = .ok (.iadd, 1) := by decide +kernel
theorem dX3_step_166 : decode cX3_step 166 = .ok (.putfield 38, 3) := by decide +kernel
theorem dX3_step_169 : decode cX3_step 169 = .ok (.iconst 1, 1) := by decide +kernel
theorem dX3_step_170 : decode cX3_step 170 = .ok (.ireturn, 1) := by decide +kernel
theorem dX4_copyFrom_0 : decode cX4_copyFrom 0 = .ok (.aload_n 1, 1) := by decide +kernel
theorem dX4_copyFrom_1 : decode cX4_copyFrom 1 = .ok (.getfield 13, 3) := by decide +kernel
theorem dX4_copyFrom_4 : decode cX4_copyFrom 4 = .ok (.iconst 0, 1) := by decide +kernel
theorem dX4_copyFrom_5 : decode cX4_copyFrom 5 = .ok (.aload_n 0, 1) := by decide +kernel
theorem dX4_copyFrom_6 : decode cX4_copyFrom 6 = .ok (.getfield 13, 3) := by decide +kernel
theorem dX4_copyFrom_9 : decode cX4_copyFrom 9 = .ok (.iconst 0, 1) := by decide +kernel
theorem dX4_copyFrom_10 : decode cX4_copyFrom 10 = .ok (.aload_n 0, 1) := by decide +kernel
theorem dX4_copyFrom_11 : decode cX4_copyFrom 11 = .ok (.getfield 13, 3) := by decide +kernel
theorem dX4_copyFrom_14 : decode cX4_copyFrom 14 = .ok (.arraylength, 1) := by decide +kernel
theorem dX4_copyFrom_15 : decode cX4_copyFrom 15 = .ok (.invokestatic 27, 3) := by decide +kernel
theorem dX4_copyFrom_18 : decode cX4_copyFrom 18 = .ok (.aload_n 1, 1) := by decide +kernel
theorem dX4_copyFrom_19 : decode cX4_copyFrom 19 = .ok (.getfield 17, 3) := by decide +kernel
theorem dX4_copyFrom_22 : decode cX4_copyFrom 22 = .ok (.iconst 0, 1) := by decide +kernel
theorem dX4_copyFrom_23 : decode cX4_copyFrom 23 = .ok (.aload_n 0, 1) := by decide +kernel
theorem dX4_copyFrom_24 : decode cX4_copyFrom 24 = .ok (.getfield 17, 3) := by decide +kernel
theorem dX4_copyFrom_27 : decode cX4_copyFrom 27 = .ok (.iconst 0, 1) := by decide +kernel
theorem dX4_copyFrom_28 : decode cX4_copyFrom 28 = .ok (.aload_n 0, 1) := by decide +kernel
theorem dX4_copyFrom_29 : decode cX4_copyFrom 29 = .ok (.getfield 17, 3) := by decide +kernel
theorem dX4_copyFrom_32 : decode cX4_copyFrom 32 = .ok (.arraylength, 1) := by decide +kernel
theorem dX4_copyFrom_33 : decode cX4_copyFrom 33 = .ok (.invokestatic 27, 3) := by decide +kernel
theorem dX4_copyFrom_36 : decode cX4_copyFrom 36 = .ok (.aload_n 0, 1) := by decide +kernel
theorem dX4_copyFrom_37 : decode cX4_copyFrom 37 = .ok (.aload_n 1, 1) := by decide +kernel
theorem dX4_copyFrom_38 : decode cX4_copyFrom 38 = .ok (.getfield 20, 3) := by decide +kernel
theorem dX4_copyFrom_41 : decode cX4_copyFrom 41 = .ok (.putfield 20, 3) := by decide +kernel
theorem dX4_copyFrom_44 : decode cX4_copyFrom 44 = .ok (.aload_n 0, 1) := by decide +kernel
theorem dX4_copyFrom_45 : decode cX4_copyFrom 45 = .ok (.aload_n 1, 1) := by decide +kernel
theorem dX4_copyFrom_46 : decode cX4_copyFrom 46 = .ok (.getfield 24, 3) := by decide +kernel
theorem dX4_copyFrom_49 : decode cX4_copyFrom 49 = .ok (.putfield 24, 3) := by decide +kernel
theorem dX4_copyFrom_52 : decode cX4_copyFrom 52 = .ok (.return_, 1) := by decide +kernel
theorem dX3_run_0 : decode cX3_run 0 = .ok (.aload_n 0, 1) := by decide +kernel
theorem dX3_run_1 : decode cX3_run 1 = .ok (.getfield 14, 3) := by decide +kernel
theorem dX3_run_4 : decode cX3_run 4 = .ok (.aload_n 2, 1) := by decide +kernel
theorem dX3_run_5 : decode cX3_run 5 = .ok (.invokevirtual 48, 3) := by decide +kernel
theorem dX3_run_8 : decode cX3_run 8 = .ok (.aload_n 0, 1) := by decide +kernel
theorem dX3_run_9 : decode cX3_run 9 = .ok (.getfield 21, 3) := by decide +kernel
theorem dX3_run_12 : decode cX3_run 12 = .ok (.aload_n 3, 1) := by decide +kernel
theorem dX3_run_13 : decode cX3_run 13 = .ok (.invokevirtual 52, 3) := by decide +kernel
theorem dX3_run_16 : decode cX3_run 16 = .ok (.aload_n 0, 1) := by decide +kernel
theorem dX3_run_17 : decode cX3_run 17 = .ok (.iconst (-1), 1) := by decide +kernel
theorem dX3_run_18 : decode cX3_run 18 = .ok (.putfield 34, 3) := by decide +kernel
theorem dX3_run_21 : decode cX3_run 21 = .ok (.aload_n 0, 1) := by decide +kernel
theorem dX3_run_22 : decode cX3_run 22 = .ok (.iconst 0, 1) := by decide +kernel
theorem dX3_run_23 : decode cX3_run 23 = .ok (.putfield 38, 3) := by decide +kernel
theorem dX3_run_26 : decode cX3_run 26 = .ok (.aload_n 0, 1) := by decide +kernel
theorem dX3_run_27 : decode cX3_run 27 = .ok (.iconst (-1), 1) := by decide +kernel
theorem dX3_run_28 : decode cX3_run 28 = .ok (.putfield 41, 3) := by decide +kernel
theorem dX3_run_31 : decode cX3_run 31 = .ok (.iconst 0, 1) := by decide +kernel
theorem dX3_run_32 : decode cX3_run 32 = .ok (.istore 4, 2) := by decide +kernel
theorem dX3_run_34 : decode cX3_run 34 = .ok (.iload 4, 2) := by decide +kernel
theorem dX3_run_36 : decode cX3_run 36 = .ok (.aload_n 1, 1) := by decide +kernel
theorem dX3_run_37 : decode cX3_run 37 = .ok (.invokevirtual 55, 3) := by decide +kernel
theorem dX3_run_40 : decode cX3_run 40 = .ok (.if_icmp .ge 70, 3) := by decide +kernel
theorem dX3_run_43 : decode cX3_run 43 = .ok (.aload_n 1, 1) := by decide +kernel
theorem dX3_run_44 : decode cX3_run 44 = .ok (.iload 4, 2) := by decide +kernel
theorem dX3_run_46 : decode cX3_run 46 = .ok (.iconst 1, 1) := by decide +kernel
theorem dX3_run_47 : decode cX3_run 47 = .ok (.invokevirtual 59, 3) := by decide +kernel
theorem dX3_run_50 : decode cX3_run 50 = .ok (.istore 5, 2) := by decide +kernel
theorem dX3_run_52 : decode cX3_run 52 = .ok (.iconst 0, 1) := by decide +kernel
theorem dX3_run_53 : decode cX3_run 53 = .ok (.istore 6, 2) := by decide +kernel
theorem dX3_run_55 : decode cX3_run 55 = .ok (.iload 6, 2) := by decide +kernel
theorem dX3_run_57 : decode cX3_run 57 = .ok (.iload 5, 2) := by decide +kernel
theorem dX3_run_59 : decode cX3_run 59 = .ok (.if_icmp .ge 45, 3) := by decide +kernel
theorem dX3_run_62 : decode cX3_run 62 = .ok (.aload_n 0, 1) := by decide +kernel
theorem dX3_run_63 : decode cX3_run 63 = .ok (.aload_n 1, 1) := by decide +kernel
theorem dX3_run_64 : decode cX3_run 64 = .ok (.iload 4, 2) := by decide +kernel
theorem dX3_run_66 : decode cX3_run 66 = .ok (.aload_n 2, 1) := by decide +kernel
theorem dX3_run_67 : decode cX3_run 67 = .ok (.aload_n 3, 1) := by decide +kernel
theorem dX3_run_68 : decode cX3_run 68 = .ok (.invokevirtual 63, 3) := by decide +kernel
theorem dX3_run_71 : decode cX3_run 71 = .ok (.ifCond .ne 27, 3) := by decide +kernel
theorem dX3_run_74 : decode cX3_run 74 = .ok (.aload_n 2, 1) := by decide +kernel
theorem dX3_run_75 : decode cX3_run 75 = .ok (.aload_n 0, 1) := by decide +kernel
theorem dX3_run_76 : decode cX3_run 76 = .ok (.getfield 14, 3) := by decide +kernel
theorem dX3_run_79 : decode cX3_run 79 = .ok (.invokevirtual 48, 3) := by decide +kernel
theorem dX3_run_82 : decode cX3_run 82 = .ok (.aload_n 3, 1) := by decide +kernel
theorem dX3_run_83 : decode cX3_run 83 = .ok (.aload_n 0, 1) := by decide +kernel
theorem dX3_run_84 : decode cX3_run 84 = .ok (.getfield 21, 3) := by decide +kernel
theorem dX3_run_87 : decode cX3_run 87 = .ok (.invokevirtual 52, 3) := by decide +kernel
theorem dX3_run_90 : decode cX3_run 90 = .ok (.aload_n 0, 1) := by decide +kernel
theorem dX3_run_91 : decode cX3_run 91 = .ok (.iload 4, 2) := by decide +kernel
theorem dX3_run_93 : decode cX3_run 93 = .ok (.putfield 34, 3) := by decide +kernel
theorem dX3_run_96 : decode cX3_run 96 = .ok (.iconst (-1), 1) := by decide +kernel
theorem dX3_run_97 : decode cX3_run 97 = .ok (.ireturn, 1) := by decide +kernel
theorem dX3_run_98 : decode cX3_run 98 = .ok (.iinc 6 1, 3) := by decide +kernel
theorem dX3_run_101 : decode cX3_run 101 = .ok (.goto (-46), 3) := by decide +kernel
theorem dX3_run_104 : decode cX3_run 104 = .ok (.iinc 4 1, 3) := by decide +kernel
theorem dX3_run_107 : decode cX3_run 107 = .ok (.goto (-73), 3) := by decide +kernel
theorem dX3_run_110 : decode cX3_run 110 = .ok (.aload_n 0, 1) := by decide +kernel
theorem dX3_run_111 : decode cX3_run 111 = .ok (.getfield 38, 3) := by decide +kernel
theorem dX3_run_114 : decode cX3_run 114 = .ok (.ireturn, 1) := by decide +kernel
theorem dX5_advance_0 : decode cX5_advance 0 = .ok (.aload_n 0, 1) := by decide +kernel
theorem dX5_advance_1 : decode cX5_advance 1 = .ok (.getfield 50, 3) := by decide +kernel
theorem dX5_advance_4 : decode cX5_advance 4 = .ok (.iconst (-1), 1) := by decide +kernel
theorem dX5_advance_5 : decode cX5_advance 5 = .ok (.if_icmp .eq 36, 3) := by decide +kernel
theorem dX5_advance_8 : decode cX5_advance 8 = .ok (.aload_n 0, 1) := by decide +kernel
theorem dX5_advance_9 : decode cX5_advance 9 = .ok (.getfield 47, 3) := by decide +kernel
theorem dX5_advance_12 : decode cX5_advance 12 = .ok (.sipush 400, 3) := by decide +kernel
theorem dX5_advance_15 : decode cX5_advance 15 = .ok (.if_icmp .ge 26, 3) := by decide +kernel
theorem dX5_advance_18 : decode cX5_advance 18 = .ok (.aload_n 0, 1) := by decide +kernel
theorem dX5_advance_19 : decode cX5_advance 19 = .ok (.dup, 1) := by decide +kernel
theorem dX5_advance_20 : decode cX5_advance 20 = .ok (.getfield 47, 3) := by decide +kernel
theorem dX5_advance_23 : decode cX5_advance 23 = .ok (.iconst 1, 1) := by decide +kernel
theorem dX5_advance_24 : decode cX5_advance 24 = .ok (.iadd, 1) := by decide +kernel
theorem dX5_advance_25 : decode cX5_advance 25 = .ok (.putfield 47, 3) := by decide +kernel
theorem dX5_advance_28 : decode cX5_advance 28 = .ok (.aload_n 0, 1) := by decide +kernel
theorem dX5_advance_29 : decode cX5_advance 29 = .ok (.aload_n 0, 1) := by decide +kernel
theorem dX5_advance_30 : decode cX5_advance 30 = .ok (.getfield 15, 3) := by decide +kernel
theorem dX5_advance_33 : decode cX5_advance 33 = .ok (.aload_n 0, 1) := by decide +kernel
theorem dX5_advance_34 : decode cX5_advance 34 = .ok (.getfield 47, 3) := by decide +kernel
theorem dX5_advance_37 : decode cX5_advance 37 = .ok (.iaload, 1) := by decide +kernel
theorem dX5_advance_38 : decode cX5_advance 38 = .ok (.putfield 50, 3) := by decide +kernel
theorem dX5_advance_41 : decode cX5_advance 41 = .ok (.return_, 1) := by decide +kernel
theorem dX5_lawWord_0 : decode cX5_lawWord 0 = .ok (.aload_n 0, 1) := by decide +kernel
theorem dX5_lawWord_1 : decode cX5_lawWord 1 = .ok (.getfield 50, 3) := by decide +kernel
theorem dX5_lawWord_4 : decode cX5_lawWord 4 = .ok (.sipush 267, 3) := by decide +kernel
theorem dX5_lawWord_7 : decode cX5_lawWord 7 = .ok (.if_icmp .lt 24, 3) := by decide +kernel
theorem dX5_lawWord_10 : decode cX5_lawWord 10 = .ok (.aload_n 0, 1) := by decide +kernel
theorem dX5_lawWord_11 : decode cX5_lawWord 11 = .ok (.getfield 50, 3) := by decide +kernel
theorem dX5_lawWord_14 : decode cX5_lawWord 14 = .ok (.sipush 271, 3) := by decide +kernel
theorem dX5_lawWord_17 : decode cX5_lawWord 17 = .ok (.if_icmp .gt 14, 3) := by decide +kernel
theorem dX5_lawWord_20 : decode cX5_lawWord 20 = .ok (.aload_n 0, 1) := by decide +kernel
theorem dX5_lawWord_21 : decode cX5_lawWord 21 = .ok (.getfield 50, 3) := by decide +kernel
theorem dX5_lawWord_24 : decode cX5_lawWord 24 = .ok (.sipush 267, 3) := by decide +kernel
theorem dX5_lawWord_27 : decode cX5_lawWord 27 = .ok (.isub, 1) := by decide +kernel
theorem dX5_lawWord_28 : decode cX5_lawWord 28 = .ok (.iconst 0, 1) := by decide +kernel
theorem dX5_lawWord_29 : decode cX5_lawWord 29 = .ok (.iadd, 1) := by decide +kernel
theorem dX5_lawWord_30 : decode cX5_lawWord 30 = .ok (.ireturn, 1) := by decide +kernel
theorem dX5_lawWord_31 : decode cX5_lawWord 31 = .ok (.aload_n 0, 1) := by decide +kernel
theorem dX5_lawWord_32 : decode cX5_lawWord 32 = .ok (.getfield 50, 3) := by decide +kernel
theorem dX5_lawWord_35 : decode cX5_lawWord 35 = .ok (.sipush 272, 3) := by decide +kernel
theorem dX5_lawWord_38 : decode cX5_lawWord 38 = .ok (.if_icmp .lt 25, 3) := by decide +kernel
theorem dX5_lawWord_41 : decode cX5_lawWord 41 = .ok (.aload_n 0, 1) := by decide +kernel
theorem dX5_lawWord_42 : decode cX5_lawWord 42 = .ok (.getfield 50, 3) := by decide +kernel
theorem dX5_lawWord_45 : decode cX5_lawWord 45 = .ok (.sipush 274, 3) := by decide +kernel
theorem dX5_lawWord_48 : decode cX5_lawWord 48 = .ok (.if_icmp .gt 15, 3) := by decide +kernel
theorem dX5_lawWord_51 : decode cX5_lawWord 51 = .ok (.aload_n 0, 1) := by decide +kernel
theorem dX5_lawWord_52 : decode cX5_lawWord 52 = .ok (.getfield 50, 3) := by decide +kernel
theorem dX5_lawWord_55 : decode cX5_lawWord 55 = .ok (.sipush 272, 3) := by decide +kernel
theorem dX5_lawWord_58 : decode cX5_lawWord 58 = .ok (.isub, 1) := by decide +kernel
theorem dX5_lawWord_59 : decode cX5_lawWord 59 = .ok (.bipush 6, 2) := by decide +kernel
theorem dX5_lawWord_61 : decode cX5_lawWord 61 = .ok (.iadd, 1) := by decide +kernel
theorem dX5_lawWord_62 : decode cX5_lawWord 62 = .ok (.ireturn, 1) := by decide +kernel
theorem dX5_lawWord_63 : decode cX5_lawWord 63 = .ok (.aload_n 0, 1) := by decide +kernel
theorem dX5_lawWord_64 : decode cX5_lawWord 64 = .ok (.getfield 50, 3) := by decide +kernel
theorem dX5_lawWord_67 : decode cX5_lawWord 67 = .ok (.sipush 264, 3) := by decide +kernel
theorem dX5_lawWord_70 : decode cX5_lawWord 70 = .ok (.if_icmp .ne 7, 3) := by decide +kernel
theorem dX5_lawWord_73 : decode cX5_lawWord 73 = .ok (.iconst 5, 1) := by decide +kernel
theorem dX5_lawWord_74 : decode cX5_lawWord 74 = .ok (.goto 4, 3) := by decide +kernel
theorem dX5_lawWord_77 : decode cX5_lawWord 77 = .ok (.iconst (-1), 1) := by decide +kernel
theorem dX5_lawWord_78 : decode cX5_lawWord 78 = .ok (.ireturn, 1) := by decide +kernel
theorem dX5_orderWord_0 : decode cX5_orderWord 0 = .ok (.aload_n 0, 1) := by decide +kernel
theorem dX5_orderWord_1 : decode cX5_orderWord 1 = .ok (.getfield 50, 3) := by decide +kernel
theorem dX5_orderWord_4 : decode cX5_orderWord 4 = .ok (.sipush 275, 3) := by decide +kernel
theorem dX5_orderWord_7 : decode cX5_orderWord 7 = .ok (.if_icmp .lt 24, 3) := by decide +kernel
theorem dX5_orderWord_10 : decode cX5_orderWord 10 = .ok (.aload_n 0, 1) := by decide +kernel
theorem dX5_orderWord_11 : decode cX5_orderWord 11 = .ok (.getfield 50, 3) := by decide +kernel
theorem dX5_orderWord_14 : decode cX5_orderWord 14 = .ok (.sipush 277, 3) := by decide +kernel
theorem dX5_orderWord_17 : decode cX5_orderWord 17 = .ok (.if_icmp .gt 14, 3) := by decide +kernel
theorem dX5_orderWord_20 : decode cX5_orderWord 20 = .ok (.aload_n 0, 1) := by decide +kernel
theorem dX5_orderWord_21 : decode cX5_orderWord 21 = .ok (.getfield 50, 3) := by decide +kernel
theorem dX5_orderWord_24 : decode cX5_orderWord 24 = .ok (.sipush 275, 3) := by decide +kernel
theorem dX5_orderWord_27 : decode cX5_orderWord 27 = .ok (.isub, 1) := by decide +kernel
theorem dX5_orderWord_28 : decode cX5_orderWord 28 = .ok (.iconst 1, 1) := by decide +kernel
theorem dX5_orderWord_29 : decode cX5_orderWord 29 = .ok (.iadd, 1) := by decide +kernel
theorem dX5_orderWord_30 : decode cX5_orderWord 30 = .ok (.ireturn, 1) := by decide +kernel
theorem dX5_orderWord_31 : decode cX5_orderWord 31 = .ok (.aload_n 0, 1) := by decide +kernel
theorem dX5_orderWord_32 : decode cX5_orderWord 32 = .ok (.getfield 50, 3) := by decide +kernel
theorem dX5_orderWord_35 : decode cX5_orderWord 35 = .ok (.tableswitch 59 272 280 #[49, 59, 59, 59, 59, 59, 51, 53, 56], 49) := by decide +kernel
theorem dX5_orderWord_84 : decode cX5_orderWord 84 = .ok (.iconst 0, 1) := by decide +kernel
theorem dX5_orderWord_85 : decode cX5_orderWord 85 = .ok (.ireturn, 1) := by decide +kernel
theorem dX5_orderWord_86 : decode cX5_orderWord 86 = .ok (.iconst 4, 1) := by decide +kernel
theorem dX5_orderWord_87 : decode cX5_orderWord 87 = .ok (.ireturn, 1) := by decide +kernel
theorem dX5_orderWord_88 : decode cX5_orderWord 88 = .ok (.bipush 10, 2) := by decide +kernel
theorem dX5_orderWord_90 : decode cX5_orderWord 90 = .ok (.ireturn, 1) := by decide +kernel
theorem dX5_orderWord_91 : decode cX5_orderWord 91 = .ok (.bipush 26, 2) := by decide +kernel
theorem dX5_orderWord_93 : decode cX5_orderWord 93 = .ok (.ireturn, 1) := by decide +kernel
theorem dX5_orderWord_94 : decode cX5_orderWord 94 = .ok (.iconst (-1), 1) := by decide +kernel
theorem dX5_orderWord_95 : decode cX5_orderWord 95 = .ok (.ireturn, 1) := by decide +kernel
theorem dX5_wrong_0 : decode cX5_wrong 0 = .ok (.aload_n 0, 1) := by decide +kernel
theorem dX5_wrong_1 : decode cX5_wrong 1 = .ok (.aload_n 0, 1) := by decide +kernel
theorem dX5_wrong_2 : decode cX5_wrong 2 = .ok (.getfield 21, 3) := by decide +kernel
theorem dX5_wrong_5 : decode cX5_wrong 5 = .ok (.aload_n 0, 1) := by decide +kernel
theorem dX5_wrong_6 : decode cX5_wrong 6 = .ok (.getfield 47, 3) := by decide +kernel
theorem dX5_wrong_9 : decode cX5_wrong 9 = .ok (.iaload, 1) := by decide +kernel
theorem dX5_wrong_10 : decode cX5_wrong 10 = .ok (.putfield 37, 3) := by decide +kernel
theorem dX5_wrong_13 : decode cX5_wrong 13 = .ok (.iconst 0, 1) := by decide +kernel
theorem dX5_wrong_14 : decode cX5_wrong 14 = .ok (.ireturn, 1) := by decide +kernel
theorem dX8_add_0 : decode cX8_add 0 = .ok (.aload_n 0, 1) := by decide +kernel
theorem dX8_add_1 : decode cX8_add 1 = .ok (.getfield 25, 3) := by decide +kernel
theorem dX8_add_4 : decode cX8_add 4 = .ok (.aload_n 0, 1) := by decide +kernel
theorem dX8_add_5 : decode cX8_add 5 = .ok (.getfield 13, 3) := by decide +kernel
theorem dX8_add_8 : decode cX8_add 8 = .ok (.arraylength, 1) := by decide +kernel
theorem dX8_add_9 : decode cX8_add 9 = .ok (.if_icmp .ge 33, 3) := by decide +kernel
theorem dX8_add_12 : decode cX8_add 12 = .ok (.aload_n 0, 1) := by decide +kernel
theorem dX8_add_13 : decode cX8_add 13 = .ok (.getfield 13, 3) := by decide +kernel
theorem dX8_add_16 : decode cX8_add 16 = .ok (.aload_n 0, 1) := by decide +kernel
theorem dX8_add_17 : decode cX8_add 17 = .ok (.getfield 25, 3) := by decide +kernel
theorem dX8_add_20 : decode cX8_add 20 = .ok (.iload_n 1, 1) := by decide +kernel
theorem dX8_add_21 : decode cX8_add 21 = .ok (.iastore, 1) := by decide +kernel
theorem dX8_add_22 : decode cX8_add 22 = .ok (.aload_n 0, 1) := by decide +kernel
theorem dX8_add_23 : decode cX8_add 23 = .ok (.getfield 19, 3) := by decide +kernel
theorem dX8_add_26 : decode cX8_add 26 = .ok (.aload_n 0, 1) := by decide +kernel
theorem dX8_add_27 : decode cX8_add 27 = .ok (.getfield 25, 3) := by decide +kernel
theorem dX8_add_30 : decode cX8_add 30 = .ok (.iload_n 2, 1) := by decide +kernel
theorem dX8_add_31 : decode cX8_add 31 = .ok (.iastore, 1) := by decide +kernel
theorem dX8_add_32 : decode cX8_add 32 = .ok (.aload_n 0, 1) := by decide +kernel
theorem dX8_add_33 : decode cX8_add 33 = .ok (.dup, 1) := by decide +kernel
theorem dX8_add_34 : decode cX8_add 34 = .ok (.getfield 25, 3) := by decide +kernel
theorem dX8_add_37 : decode cX8_add 37 = .ok (.iconst 1, 1) := by decide +kernel
theorem dX8_add_38 : decode cX8_add 38 = .ok (.iadd, 1) := by decide +kernel
theorem dX8_add_39 : decode cX8_add 39 = .ok (.putfield 25, 3) := by decide +kernel
theorem dX8_add_42 : decode cX8_add 42 = .ok (.aload_n 0, 1) := by decide +kernel
theorem dX8_add_43 : decode cX8_add 43 = .ok (.getfield 25, 3) := by decide +kernel
theorem dX8_add_46 : decode cX8_add 46 = .ok (.iconst 1, 1) := by decide +kernel
theorem dX8_add_47 : decode cX8_add 47 = .ok (.isub, 1) := by decide +kernel
theorem dX8_add_48 : decode cX8_add 48 = .ok (.ireturn, 1) := by decide +kernel
theorem dX5_part_0 : decode cX5_part 0 = .ok (.aload_n 0, 1) := by decide +kernel
theorem dX5_part_1 : decode cX5_part 1 = .ok (.getfield 50, 3) := by decide +kernel
theorem dX5_part_4 : decode cX5_part 4 = .ok (.bipush 91, 2) := by decide +kernel
theorem dX5_part_6 : decode cX5_part 6 = .ok (.if_icmp .ne 13, 3) := by decide +kernel
theorem dX5_part_9 : decode cX5_part 9 = .ok (.aload_n 0, 1) := by decide +kernel
theorem dX5_part_10 : decode cX5_part 10 = .ok (.iload_n 1, 1) := by decide +kernel
theorem dX5_part_11 : decode cX5_part 11 = .ok (.bipush 91, 2) := by decide +kernel
theorem dX5_part_13 : decode cX5_part 13 = .ok (.bipush 93, 2) := by decide +kernel
theorem dX5_part_15 : decode cX5_part 15 = .ok (.invokevirtual 142, 3) := by decide +kernel
theorem dX5_part_18 : decode cX5_part 18 = .ok (.ireturn, 1) := by decide +kernel
theorem dX5_part_19 : decode cX5_part 19 = .ok (.aload_n 0, 1) := by decide +kernel
theorem dX5_part_20 : decode cX5_part 20 = .ok (.getfield 50, 3) := by decide +kernel
theorem dX5_part_23 : decode cX5_part 23 = .ok (.bipush (-2), 2) := by decide +kernel
theorem dX5_part_25 : decode cX5_part 25 = .ok (.if_icmp .ne 22, 3) := by decide +kernel
theorem dX5_part_28 : decode cX5_part 28 = .ok (.aload_n 0, 1) := by decide +kernel
theorem dX5_part_29 : decode cX5_part 29 = .ok (.getfield 18, 3) := by decide +kernel
theorem dX5_part_32 : decode cX5_part 32 = .ok (.aload_n 0, 1) := by decide +kernel
theorem dX5_part_33 : decode cX5_part 33 = .ok (.getfield 47, 3) := by decide +kernel
theorem dX5_part_36 : decode cX5_part 36 = .ok (.iaload, 1) := by decide +kernel
theorem dX5_part_37 : decode cX5_part 37 = .ok (.sipush 1000, 3) := by decide +kernel
theorem dX5_part_40 : decode cX5_part 40 = .ok (.if_icmp .gt 7, 3) := by decide +kernel
theorem dX5_part_43 : decode cX5_part 43 = .ok (.iconst 1, 1) := by decide +kernel
theorem dX5_part_44 : decode cX5_part 44 = .ok (.goto 4, 3) := by decide +kernel
theorem dX5_part_47 : decode cX5_part 47 = .ok (.iconst 0, 1) := by decide +kernel
theorem dX5_part_48 : decode cX5_part 48 = .ok (.istore_n 2, 1) := by decide +kernel
theorem dX5_part_49 : decode cX5_part 49 = .ok (.aload_n 0, 1) := by decide +kernel
theorem dX5_part_50 : decode cX5_part 50 = .ok (.getfield 40, 3) := by decide +kernel
theorem dX5_part_53 : decode cX5_part 53 = .ok (.ifCond .eq 10, 3) := by decide +kernel
theorem dX5_part_56 : decode cX5_part 56 = .ok (.aload_n 0, 1) := by decide +kernel
theorem dX5_part_57 : decode cX5_part 57 = .ok (.invokevirtual 155, 3) := by decide +kernel
theorem dX5_part_60 : decode cX5_part 60 = .ok (.goto 7, 3) := by decide +kernel
theorem dX5_part_63 : decode cX5_part 63 = .ok (.aload_n 0, 1) := by decide +kernel
theorem dX5_part_64 : decode cX5_part 64 = .ok (.invokevirtual 158, 3) := by decide +kernel
theorem dX5_part_67 : decode cX5_part 67 = .ok (.istore_n 3, 1) := by decide +kernel
theorem dX5_part_68 : decode cX5_part 68 = .ok (.aload_n 0, 1) := by decide +kernel
theorem dX5_part_69 : decode cX5_part 69 = .ok (.getfield 44, 3) := by decide +kernel
theorem dX5_part_72 : decode cX5_part 72 = .ok (.bipush 50, 2) := by decide +kernel
theorem dX5_part_74 : decode cX5_part 74 = .ok (.if_icmp .ge 12, 3) := by decide +kernel
theorem dX5_part_77 : decode cX5_part 77 = .ok (.iload_n 2, 1) := by decide +kernel
theorem dX5_part_78 : decode cX5_part 78 = .ok (.ifCond .ne 13, 3) := by decide +kernel
theorem dX5_part_81 : decode cX5_part 81 = .ok (.iload_n 3, 1) := by decide +kernel
theorem dX5_part_82 : decode cX5_part 82 = .ok (.iconst (-1), 1) := by decide +kernel
theorem dX5_part_83 : decode cX5_part 83 = .ok (.if_icmp .ne 8, 3) := by decide +kernel
theorem dX5_part_86 : decode cX5_part 86 = .ok (.aload_n 0, 1) := by decide +kernel
theorem dX5_part_87 : decode cX5_part 87 = .ok (.invokevirtual 69, 3) := by decide +kernel
theorem dX5_part_90 : decode cX5_part 90 = .ok (.ireturn, 1) := by decide +kernel
theorem dX5_part_91 : decode cX5_part 91 = .ok (.aload_n 0, 1) := by decide +kernel
theorem dX5_part_92 : decode cX5_part 92 = .ok (.dup, 1) := by decide +kernel
theorem dX5_part_93 : decode cX5_part 93 = .ok (.getfield 44, 3) := by decide +kernel
theorem dX5_part_96 : decode cX5_part 96 = .ok (.iconst 1, 1) := by decide +kernel
theorem dX5_part_97 : decode cX5_part 97 = .ok (.iadd, 1) := by decide +kernel
theorem dX5_part_98 : decode cX5_part 98 = .ok (.putfield 44, 3) := by decide +kernel
theorem dX5_part_101 : decode cX5_part 101 = .ok (.aload_n 0, 1) := by decide +kernel
theorem dX5_part_102 : decode cX5_part 102 = .ok (.getfield 50, 3) := by decide +kernel
theorem dX5_part_105 : decode cX5_part 105 = .ok (.istore 4, 2) := by decide +kernel
theorem dX5_part_107 : decode cX5_part 107 = .ok (.iload_n 2, 1) := by decide +kernel
theorem dX5_part_108 : decode cX5_part 108 = .ok (.ifCond .eq 15, 3) := by decide +kernel
theorem dX5_part_111 : decode cX5_part 111 = .ok (.aload_n 0, 1) := by decide +kernel
theorem dX5_part_112 : decode cX5_part 112 = .ok (.getfield 18, 3) := by decide +kernel
theorem dX5_part_115 : decode cX5_part 115 = .ok (.aload_n 0, 1) := by decide +kernel
theorem dX5_part_116 : decode cX5_part 116 = .ok (.getfield 47, 3) := by decide +kernel
theorem dX5_part_119 : decode cX5_part 119 = .ok (.iaload, 1) := by decide +kernel
theorem dX5_part_120 : decode cX5_part 120 = .ok (.goto 4, 3) := by decide +kernel
theorem dX5_part_123 : decode cX5_part 123 = .ok (.iload_n 3, 1) := by decide +kernel
theorem dX5_part_124 : decode cX5_part 124 = .ok (.istore 5, 2) := by decide +kernel
theorem dX5_part_126 : decode cX5_part 126 = .ok (.aload_n 0, 1) := by decide +kernel
theorem dX5_part_127 : decode cX5_part 127 = .ok (.invokevirtual 66, 3) := by decide +kernel
theorem dX5_part_130 : decode cX5_part 130 = .ok (.aload_n 0, 1) := by decide +kernel
theorem dX5_part_131 : decode cX5_part 131 = .ok (.getfield 40, 3) := by decide +kernel
theorem dX5_part_134 : decode cX5_part 134 = .ok (.ifCond .ne 77, 3) := by decide +kernel
theorem dX5_part_137 : decode cX5_part 137 = .ok (.iload_n 2, 1) := by decide +kernel
theorem dX5_part_138 : decode cX5_part 138 = .ok (.ifCond .ne 73, 3) := by decide +kernel
theorem dX5_part_141 : decode cX5_part 141 = .ok (.iload 4, 2) := by decide +kernel
theorem dX5_part_143 : decode cX5_part 143 = .ok (.sipush 278, 3) := by decide +kernel
theorem dX5_part_146 : decode cX5_part 146 = .ok (.if_icmp .lt 65, 3) := by decide +kernel
theorem dX5_part_149 : decode cX5_part 149 = .ok (.iload 4, 2) := by decide +kernel
theorem dX5_part_151 : decode cX5_part 151 = .ok (.sipush 279, 3) := by decide +kernel
theorem dX5_part_154 : decode cX5_part 154 = .ok (.if_icmp .ne 8, 3) := by decide +kernel
theorem dX5_part_157 : decode cX5_part 157 = .ok (.bipush 15, 2) := by decide +kernel
theorem dX5_part_159 : decode cX5_part 159 = .ok (.goto 4, 3) := by decide +kernel
theorem dX5_part_162 : decode cX5_part 162 = .ok (.iconst 5, 1) := by decide +kernel
theorem dX5_part_163 : decode cX5_part 163 = .ok (.istore 6, 2) := by decide +kernel
theorem dX5_part_165 : decode cX5_part 165 = .ok (.aload_n 0, 1) := by decide +kernel
theorem dX5_part_166 : decode cX5_part 166 = .ok (.getfield 50, 3) := by decide +kernel
theorem dX5_part_169 : decode cX5_part 169 = .ok (.bipush (-2), 2) := by decide +kernel
theorem dX5_part_171 : decode cX5_part 171 = .ok (.if_icmp .ne 17, 3) := by decide +kernel
theorem dX5_part_174 : decode cX5_part 174 = .ok (.aload_n 0, 1) := by decide +kernel
theorem dX5_part_175 : decode cX5_part 175 = .ok (.getfield 18, 3) := by decide +kernel
theorem dX5_part_178 : decode cX5_part 178 = .ok (.aload_n 0, 1) := by decide +kernel
theorem dX5_part_179 : decode cX5_part 179 = .ok (.getfield 47, 3) := by decide +kernel
theorem dX5_part_182 : decode cX5_part 182 = .ok (.iaload, 1) := by decide +kernel
theorem dX5_part_183 : decode cX5_part 183 = .ok (.iload 6, 2) := by decide +kernel
theorem dX5_part_185 : decode cX5_part 185 = .ok (.if_icmp .le 8, 3) := by decide +kernel
theorem dX5_part_188 : decode cX5_part 188 = .ok (.aload_n 0, 1) := by decide +kernel
theorem dX5_part_189 : decode cX5_part 189 = .ok (.invokevirtual 69, 3) := by decide +kernel
theorem dX5_part_192 : decode cX5_part 192 = .ok (.ireturn, 1) := by decide +kernel
theorem dX5_part_193 : decode cX5_part 193 = .ok (.iload 5, 2) := by decide +kernel
theorem dX5_part_195 : decode cX5_part 195 = .ok (.aload_n 0, 1) := by decide +kernel
theorem dX5_part_196 : decode cX5_part 196 = .ok (.getfield 18, 3) := by decide +kernel
theorem dX5_part_199 : decode cX5_part 199 = .ok (.aload_n 0, 1) := by decide +kernel
theorem dX5_part_200 : decode cX5_part 200 = .ok (.getfield 47, 3) := by decide +kernel
theorem dX5_part_203 : decode cX5_part 203 = .ok (.iaload, 1) := by decide +kernel
theorem dX5_part_204 : decode cX5_part 204 = .ok (.iadd, 1) := by decide +kernel
theorem dX5_part_205 : decode cX5_part 205 = .ok (.istore 5, 2) := by decide +kernel
theorem dX5_part_207 : decode cX5_part 207 = .ok (.aload_n 0, 1) := by decide +kernel
theorem dX5_part_208 : decode cX5_part 208 = .ok (.invokevirtual 66, 3) := by decide +kernel
theorem dX5_part_211 : decode cX5_part 211 = .ok (.aload_n 0, 1) := by decide +kernel
theorem dX5_part_212 : decode cX5_part 212 = .ok (.getfield 29, 3) := by decide +kernel
theorem dX5_part_215 : decode cX5_part 215 = .ok (.iload_n 2, 1) := by decide +kernel
theorem dX5_part_216 : decode cX5_part 216 = .ok (.ifCond .eq 7, 3) := by decide +kernel
theorem dX5_part_219 : decode cX5_part 219 = .ok (.iconst 0, 1) := by decide +kernel
theorem dX5_part_220 : decode cX5_part 220 = .ok (.goto 4, 3) := by decide +kernel
theorem dX5_part_223 : decode cX5_part 223 = .ok (.iconst 1, 1) := by decide +kernel
theorem dX5_part_224 : decode cX5_part 224 = .ok (.iload 5, 2) := by decide +kernel
theorem dX5_part_226 : decode cX5_part 226 = .ok (.invokevirtual 132, 3) := by decide +kernel
theorem dX5_part_229 : decode cX5_part 229 = .ok (.pop, 1) := by decide +kernel
theorem dX5_part_230 : decode cX5_part 230 = .ok (.iconst 1, 1) := by decide +kernel
theorem dX5_part_231 : decode cX5_part 231 = .ok (.ireturn, 1) := by decide +kernel
theorem dX5_term_0 : decode cX5_term 0 = .ok (.aload_n 0, 1) := by decide +kernel
theorem dX5_term_1 : decode cX5_term 1 = .ok (.iload_n 1, 1) := by decide +kernel
theorem dX5_term_2 : decode cX5_term 2 = .ok (.invokevirtual 152, 3) := by decide +kernel
theorem dX5_term_5 : decode cX5_term 5 = .ok (.istore_n 2, 1) := by decide +kernel
theorem dX5_term_6 : decode cX5_term 6 = .ok (.iconst 0, 1) := by decide +kernel
theorem dX5_term_7 : decode cX5_term 7 = .ok (.istore_n 3, 1) := by decide +kernel
theorem dX5_term_8 : decode cX5_term 8 = .ok (.iload_n 3, 1) := by decide +kernel
theorem dX5_term_9 : decode cX5_term 9 = .ok (.sipush 400, 3) := by decide +kernel
theorem dX5_term_12 : decode cX5_term 12 = .ok (.if_icmp .ge 91, 3) := by decide +kernel
theorem dX5_term_15 : decode cX5_term 15 = .ok (.iload_n 2, 1) := by decide +kernel
theorem dX5_term_16 : decode cX5_term 16 = .ok (.ifCond .eq 87, 3) := by decide +kernel
theorem dX5_term_19 : decode cX5_term 19 = .ok (.aload_n 0, 1) := by decide +kernel
theorem dX5_term_20 : decode cX5_term 20 = .ok (.getfield 50, 3) := by decide +kernel
theorem dX5_term_23 : decode cX5_term 23 = .ok (.bipush 42, 2) := by decide +kernel
theorem dX5_term_25 : decode cX5_term 25 = .ok (.if_icmp .eq 21, 3) := by decide +kernel
theorem dX5_term_28 : decode cX5_term 28 = .ok (.aload_n 0, 1) := by decide +kernel
theorem dX5_term_29 : decode cX5_term 29 = .ok (.getfield 50, 3) := by decide +kernel
theorem dX5_term_32 : decode cX5_term 32 = .ok (.bipush 47, 2) := by decide +kernel
theorem dX5_term_34 : decode cX5_term 34 = .ok (.if_icmp .eq 12, 3) := by decide +kernel
theorem dX5_term_37 : decode cX5_term 37 = .ok (.aload_n 0, 1) := by decide +kernel
theorem dX5_term_38 : decode cX5_term 38 = .ok (.getfield 50, 3) := by decide +kernel
theorem dX5_term_41 : decode cX5_term 41 = .ok (.bipush 37, 2) := by decide +kernel
theorem dX5_term_43 : decode cX5_term 43 = .ok (.if_icmp .ne 60, 3) := by decide +kernel
theorem dX5_term_46 : decode cX5_term 46 = .ok (.aload_n 0, 1) := by decide +kernel
theorem dX5_term_47 : decode cX5_term 47 = .ok (.getfield 50, 3) := by decide +kernel
theorem dX5_term_50 : decode cX5_term 50 = .ok (.bipush 42, 2) := by decide +kernel
theorem dX5_term_52 : decode cX5_term 52 = .ok (.if_icmp .ne 7, 3) := by decide +kernel
theorem dX5_term_55 : decode cX5_term 55 = .ok (.iconst 4, 1) := by decide +kernel
theorem dX5_term_56 : decode cX5_term 56 = .ok (.goto 18, 3) := by decide +kernel
theorem dX5_term_59 : decode cX5_term 59 = .ok (.aload_n 0, 1) := by decide +kernel
theorem dX5_term_60 : decode cX5_term 60 = .ok (.getfield 50, 3) := by decide +kernel
theorem dX5_term_63 : decode cX5_term 63 = .ok (.bipush 47, 2) := by decide +kernel
theorem dX5_term_65 : decode cX5_term 65 = .ok (.if_icmp .ne 7, 3) := by decide +kernel
theorem dX5_term_68 : decode cX5_term 68 = .ok (.iconst 5, 1) := by decide +kernel
theorem dX5_term_69 : decode cX5_term 69 = .ok (.goto 5, 3) := by decide +kernel
theorem dX5_term_72 : decode cX5_term 72 = .ok (.bipush 6, 2) := by decide +kernel
theorem dX5_term_74 : decode cX5_term 74 = .ok (.istore 4, 2) := by decide +kernel
theorem dX5_term_76 : decode cX5_term 76 = .ok (.aload_n 0, 1) := by decide +kernel
theorem dX5_term_77 : decode cX5_term 77 = .ok (.invokevirtual 66, 3) := by decide +kernel
theorem dX5_term_80 : decode cX5_term 80 = .ok (.aload_n 0, 1) := by decide +kernel
theorem dX5_term_81 : decode cX5_term 81 = .ok (.iload_n 1, 1) := by decide +kernel
theorem dX5_term_82 : decode cX5_term 82 = .ok (.invokevirtual 152, 3) := by decide +kernel
theorem dX5_term_85 : decode cX5_term 85 = .ok (.istore_n 2, 1) := by decide +kernel
theorem dX5_term_86 : decode cX5_term 86 = .ok (.aload_n 0, 1) := by decide +kernel
theorem dX5_term_87 : decode cX5_term 87 = .ok (.getfield 29, 3) := by decide +kernel
theorem dX5_term_90 : decode cX5_term 90 = .ok (.iload 4, 2) := by decide +kernel
theorem dX5_term_92 : decode cX5_term 92 = .ok (.iconst 0, 1) := by decide +kernel
theorem dX5_term_93 : decode cX5_term 93 = .ok (.invokevirtual 132, 3) := by decide +kernel
theorem dX5_term_96 : decode cX5_term 96 = .ok (.pop, 1) := by decide +kernel
theorem dX5_term_97 : decode cX5_term 97 = .ok (.iinc 3 1, 3) := by decide +kernel
theorem dX5_term_100 : decode cX5_term 100 = .ok (.goto (-92), 3) := by decide +kernel
theorem dX5_term_103 : decode cX5_term 103 = .ok (.iload_n 2, 1) := by decide +kernel
theorem dX5_term_104 : decode cX5_term 104 = .ok (.ireturn, 1) := by decide +kernel
theorem dX5_sum_0 : decode cX5_sum 0 = .ok (.aload_n 0, 1) := by decide +kernel
theorem dX5_sum_1 : decode cX5_sum 1 = .ok (.iload_n 1, 1) := by decide +kernel
theorem dX5_sum_2 : decode cX5_sum 2 = .ok (.invokevirtual 149, 3) := by decide +kernel
theorem dX5_sum_5 : decode cX5_sum 5 = .ok (.istore_n 2, 1) := by decide +kernel
theorem dX5_sum_6 : decode cX5_sum 6 = .ok (.iconst 0, 1) := by decide +kernel
theorem dX5_sum_7 : decode cX5_sum 7 = .ok (.istore_n 3, 1) := by decide +kernel
theorem dX5_sum_8 : decode cX5_sum 8 = .ok (.iload_n 3, 1) := by decide +kernel
theorem dX5_sum_9 : decode cX5_sum 9 = .ok (.sipush 400, 3) := by decide +kernel
theorem dX5_sum_12 : decode cX5_sum 12 = .ok (.if_icmp .ge 68, 3) := by decide +kernel
theorem dX5_sum_15 : decode cX5_sum 15 = .ok (.iload_n 2, 1) := by decide +kernel
theorem dX5_sum_16 : decode cX5_sum 16 = .ok (.ifCond .eq 64, 3) := by decide +kernel
theorem dX5_sum_19 : decode cX5_sum 19 = .ok (.aload_n 0, 1) := by decide +kernel
theorem dX5_sum_20 : decode cX5_sum 20 = .ok (.getfield 50, 3) := by decide +kernel
theorem dX5_sum_23 : decode cX5_sum 23 = .ok (.bipush 43, 2) := by decide +kernel
theorem dX5_sum_25 : decode cX5_sum 25 = .ok (.if_icmp .eq 12, 3) := by decide +kernel
theorem dX5_sum_28 : decode cX5_sum 28 = .ok (.aload_n 0, 1) := by decide +kernel
theorem dX5_sum_29 : decode cX5_sum 29 = .ok (.getfield 50, 3) := by decide +kernel
theorem dX5_sum_32 : decode cX5_sum 32 = .ok (.bipush 45, 2) := by decide +kernel
theorem dX5_sum_34 : decode cX5_sum 34 = .ok (.if_icmp .ne 46, 3) := by decide +kernel
theorem dX5_sum_37 : decode cX5_sum 37 = .ok (.aload_n 0, 1) := by decide +kernel
theorem dX5_sum_38 : decode cX5_sum 38 = .ok (.getfield 50, 3) := by decide +kernel
theorem dX5_sum_41 : decode cX5_sum 41 = .ok (.bipush 43, 2) := by decide +kernel
theorem dX5_sum_43 : decode cX5_sum 43 = .ok (.if_icmp .ne 7, 3) := by decide +kernel
theorem dX5_sum_46 : decode cX5_sum 46 = .ok (.iconst 2, 1) := by decide +kernel
theorem dX5_sum_47 : decode cX5_sum 47 = .ok (.goto 4, 3) := by decide +kernel
theorem dX5_sum_50 : decode cX5_sum 50 = .ok (.iconst 3, 1) := by decide +kernel
theorem dX5_sum_51 : decode cX5_sum 51 = .ok (.istore 4, 2) := by decide +kernel
theorem dX5_sum_53 : decode cX5_sum 53 = .ok (.aload_n 0, 1) := by decide +kernel
theorem dX5_sum_54 : decode cX5_sum 54 = .ok (.invokevirtual 66, 3) := by decide +kernel
theorem dX5_sum_57 : decode cX5_sum 57 = .ok (.aload_n 0, 1) := by decide +kernel
theorem dX5_sum_58 : decode cX5_sum 58 = .ok (.iload_n 1, 1) := by decide +kernel
theorem dX5_sum_59 : decode cX5_sum 59 = .ok (.invokevirtual 149, 3) := by decide +kernel
theorem dX5_sum_62 : decode cX5_sum 62 = .ok (.istore_n 2, 1) := by decide +kernel
theorem dX5_sum_63 : decode cX5_sum 63 = .ok (.aload_n 0, 1) := by decide +kernel
theorem dX5_sum_64 : decode cX5_sum 64 = .ok (.getfield 29, 3) := by decide +kernel
theorem dX5_sum_67 : decode cX5_sum 67 = .ok (.iload 4, 2) := by decide +kernel
theorem dX5_sum_69 : decode cX5_sum 69 = .ok (.iconst 0, 1) := by decide +kernel
theorem dX5_sum_70 : decode cX5_sum 70 = .ok (.invokevirtual 132, 3) := by decide +kernel
theorem dX5_sum_73 : decode cX5_sum 73 = .ok (.pop, 1) := by decide +kernel
theorem dX5_sum_74 : decode cX5_sum 74 = .ok (.iinc 3 1, 3) := by decide +kernel
theorem dX5_sum_77 : decode cX5_sum 77 = .ok (.goto (-69), 3) := by decide +kernel
theorem dX5_sum_80 : decode cX5_sum 80 = .ok (.iload_n 2, 1) := by decide +kernel
theorem dX5_sum_81 : decode cX5_sum 81 = .ok (.ireturn, 1) := by decide +kernel
theorem dX5_comparison_0 : decode cX5_comparison 0 = .ok (.aload_n 0, 1) := by decide +kernel
theorem dX5_comparison_1 : decode cX5_comparison 1 = .ok (.iload_n 1, 1) := by decide +kernel
theorem dX5_comparison_2 : decode cX5_comparison 2 = .ok (.invokevirtual 126, 3) := by decide +kernel
theorem dX5_comparison_5 : decode cX5_comparison 5 = .ok (.ifCond .ne 5, 3) := by decide +kernel
theorem dX5_comparison_8 : decode cX5_comparison 8 = .ok (.iconst 0, 1) := by decide +kernel
theorem dX5_comparison_9 : decode cX5_comparison 9 = .ok (.ireturn, 1) := by decide +kernel
theorem dX5_comparison_10 : decode cX5_comparison 10 = .ok (.aload_n 0, 1) := by decide +kernel
theorem dX5_comparison_11 : decode cX5_comparison 11 = .ok (.getfield 50, 3) := by decide +kernel
theorem dX5_comparison_14 : decode cX5_comparison 14 = .ok (.bipush 60, 2) := by decide +kernel
theorem dX5_comparison_16 : decode cX5_comparison 16 = .ok (.if_icmp .ne 8, 3) := by decide +kernel
theorem dX5_comparison_19 : decode cX5_comparison 19 = .ok (.bipush 7, 2) := by decide +kernel
theorem dX5_comparison_21 : decode cX5_comparison 21 = .ok (.goto 19, 3) := by decide +kernel
theorem dX5_comparison_24 : decode cX5_comparison 24 = .ok (.aload_n 0, 1) := by decide +kernel
theorem dX5_comparison_25 : decode cX5_comparison 25 = .ok (.getfield 50, 3) := by decide +kernel
theorem dX5_comparison_28 : decode cX5_comparison 28 = .ok (.bipush 62, 2) := by decide +kernel
theorem dX5_comparison_30 : decode cX5_comparison 30 = .ok (.if_icmp .ne 8, 3) := by decide +kernel
theorem dX5_comparison_33 : decode cX5_comparison 33 = .ok (.bipush 8, 2) := by decide +kernel
theorem dX5_comparison_35 : decode cX5_comparison 35 = .ok (.goto 5, 3) := by decide +kernel
theorem dX5_comparison_38 : decode cX5_comparison 38 = .ok (.bipush 9, 2) := by decide +kernel
theorem dX5_comparison_40 : decode cX5_comparison 40 = .ok (.istore_n 2, 1) := by decide +kernel
theorem dX5_comparison_41 : decode cX5_comparison 41 = .ok (.iload_n 2, 1) := by decide +kernel
theorem dX5_comparison_42 : decode cX5_comparison 42 = .ok (.bipush 9, 2) := by decide +kernel
theorem dX5_comparison_44 : decode cX5_comparison 44 = .ok (.if_icmp .ne 17, 3) := by decide +kernel
theorem dX5_comparison_47 : decode cX5_comparison 47 = .ok (.aload_n 0, 1) := by decide +kernel
theorem dX5_comparison_48 : decode cX5_comparison 48 = .ok (.getfield 50, 3) := by decide +kernel
theorem dX5_comparison_51 : decode cX5_comparison 51 = .ok (.bipush 61, 2) := by decide +kernel
theorem dX5_comparison_53 : decode cX5_comparison 53 = .ok (.if_icmp .eq 8, 3) := by decide +kernel
theorem dX5_comparison_56 : decode cX5_comparison 56 = .ok (.aload_n 0, 1) := by decide +kernel
theorem dX5_comparison_57 : decode cX5_comparison 57 = .ok (.invokevirtual 69, 3) := by decide +kernel
theorem dX5_comparison_60 : decode cX5_comparison 60 = .ok (.ireturn, 1) := by decide +kernel
theorem dX5_comparison_61 : decode cX5_comparison 61 = .ok (.aload_n 0, 1) := by decide +kernel
theorem dX5_comparison_62 : decode cX5_comparison 62 = .ok (.invokevirtual 66, 3) := by decide +kernel
theorem dX5_comparison_65 : decode cX5_comparison 65 = .ok (.aload_n 0, 1) := by decide +kernel
theorem dX5_comparison_66 : decode cX5_comparison 66 = .ok (.iload_n 1, 1) := by decide +kernel
theorem dX5_comparison_67 : decode cX5_comparison 67 = .ok (.invokevirtual 126, 3) := by decide +kernel
theorem dX5_comparison_70 : decode cX5_comparison 70 = .ok (.istore_n 3, 1) := by decide +kernel
theorem dX5_comparison_71 : decode cX5_comparison 71 = .ok (.aload_n 0, 1) := by decide +kernel
theorem dX5_comparison_72 : decode cX5_comparison 72 = .ok (.getfield 29, 3) := by decide +kernel
theorem dX5_comparison_75 : decode cX5_comparison 75 = .ok (.iload_n 2, 1) := by decide +kernel
theorem dX5_comparison_76 : decode cX5_comparison 76 = .ok (.iconst 0, 1) := by decide +kernel
theorem dX5_comparison_77 : decode cX5_comparison 77 = .ok (.invokevirtual 132, 3) := by decide +kernel
theorem dX5_comparison_80 : decode cX5_comparison 80 = .ok (.pop, 1) := by decide +kernel
theorem dX5_comparison_81 : decode cX5_comparison 81 = .ok (.iload_n 3, 1) := by decide +kernel
theorem dX5_comparison_82 : decode cX5_comparison 82 = .ok (.ireturn, 1) := by decide +kernel
theorem dX5_plain_0 : decode cX5_plain 0 = .ok (.iconst 0, 1) := by decide +kernel
theorem dX5_plain_1 : decode cX5_plain 1 = .ok (.istore_n 2, 1) := by decide +kernel
theorem dX5_plain_2 : decode cX5_plain 2 = .ok (.iconst 0, 1) := by decide +kernel
theorem dX5_plain_3 : decode cX5_plain 3 = .ok (.istore_n 3, 1) := by decide +kernel
theorem dX5_plain_4 : decode cX5_plain 4 = .ok (.iload_n 3, 1) := by decide +kernel
theorem dX5_plain_5 : decode cX5_plain 5 = .ok (.sipush 400, 3) := by decide +kernel
theorem dX5_plain_8 : decode cX5_plain 8 = .ok (.if_icmp .ge 33, 3) := by decide +kernel
theorem dX5_plain_11 : decode cX5_plain 11 = .ok (.aload_n 0, 1) := by decide +kernel
theorem dX5_plain_12 : decode cX5_plain 12 = .ok (.getfield 50, 3) := by decide +kernel
theorem dX5_plain_15 : decode cX5_plain 15 = .ok (.sipush 262, 3) := by decide +kernel
theorem dX5_plain_18 : decode cX5_plain 18 = .ok (.if_icmp .ne 23, 3) := by decide +kernel
theorem dX5_plain_21 : decode cX5_plain 21 = .ok (.iload_n 2, 1) := by decide +kernel
theorem dX5_plain_22 : decode cX5_plain 22 = .ok (.ifCond .ne 7, 3) := by decide +kernel
theorem dX5_plain_25 : decode cX5_plain 25 = .ok (.iconst 1, 1) := by decide +kernel
theorem dX5_plain_26 : decode cX5_plain 26 = .ok (.goto 4, 3) := by decide +kernel
theorem dX5_plain_29 : decode cX5_plain 29 = .ok (.iconst 0, 1) := by decide +kernel
theorem dX5_plain_30 : decode cX5_plain 30 = .ok (.istore_n 2, 1) := by decide +kernel
theorem dX5_plain_31 : decode cX5_plain 31 = .ok (.aload_n 0, 1) := by decide +kernel
theorem dX5_plain_32 : decode cX5_plain 32 = .ok (.invokevirtual 66, 3) := by decide +kernel
theorem dX5_plain_35 : decode cX5_plain 35 = .ok (.iinc 3 1, 3) := by decide +kernel
theorem dX5_plain_38 : decode cX5_plain 38 = .ok (.goto (-34), 3) := by decide +kernel
theorem dX5_plain_41 : decode cX5_plain 41 = .ok (.aload_n 0, 1) := by decide +kernel
theorem dX5_plain_42 : decode cX5_plain 42 = .ok (.getfield 50, 3) := by decide +kernel
theorem dX5_plain_45 : decode cX5_plain 45 = .ok (.bipush 40, 2) := by decide +kernel
theorem dX5_plain_47 : decode cX5_plain 47 = .ok (.if_icmp .ne 15, 3) := by decide +kernel
theorem dX5_plain_50 : decode cX5_plain 50 = .ok (.aload_n 0, 1) := by decide +kernel
theorem dX5_plain_51 : decode cX5_plain 51 = .ok (.iload_n 1, 1) := by decide +kernel
theorem dX5_plain_52 : decode cX5_plain 52 = .ok (.bipush 40, 2) := by decide +kernel
theorem dX5_plain_54 : decode cX5_plain 54 = .ok (.bipush 41, 2) := by decide +kernel
theorem dX5_plain_56 : decode cX5_plain 56 = .ok (.invokevirtual 142, 3) := by decide +kernel
theorem dX5_plain_59 : decode cX5_plain 59 = .ok (.goto 8, 3) := by decide +kernel
theorem dX5_plain_62 : decode cX5_plain 62 = .ok (.aload_n 0, 1) := by decide +kernel
theorem dX5_plain_63 : decode cX5_plain 63 = .ok (.iload_n 1, 1) := by decide +kernel
theorem dX5_plain_64 : decode cX5_plain 64 = .ok (.invokevirtual 146, 3) := by decide +kernel
theorem dX5_plain_67 : decode cX5_plain 67 = .ok (.istore_n 3, 1) := by decide +kernel
theorem dX5_plain_68 : decode cX5_plain 68 = .ok (.iload_n 3, 1) := by decide +kernel
theorem dX5_plain_69 : decode cX5_plain 69 = .ok (.ifCond .eq 18, 3) := by decide +kernel
theorem dX5_plain_72 : decode cX5_plain 72 = .ok (.iload_n 2, 1) := by decide +kernel
theorem dX5_plain_73 : decode cX5_plain 73 = .ok (.ifCond .eq 14, 3) := by decide +kernel
theorem dX5_plain_76 : decode cX5_plain 76 = .ok (.aload_n 0, 1) := by decide +kernel
theorem dX5_plain_77 : decode cX5_plain 77 = .ok (.getfield 29, 3) := by decide +kernel
theorem dX5_plain_80 : decode cX5_plain 80 = .ok (.bipush 10, 2) := by decide +kernel
theorem dX5_plain_82 : decode cX5_plain 82 = .ok (.iconst 0, 1) := by decide +kernel
theorem dX5_plain_83 : decode cX5_plain 83 = .ok (.invokevirtual 132, 3) := by decide +kernel
theorem dX5_plain_86 : decode cX5_plain 86 = .ok (.pop, 1) := by decide +kernel
theorem dX5_plain_87 : decode cX5_plain 87 = .ok (.iload_n 3, 1) := by decide +kernel
theorem dX5_plain_88 : decode cX5_plain 88 = .ok (.ireturn, 1) := by decide +kernel
theorem dX8_landHere_0 : decode cX8_landHere 0 = .ok (.iload_n 1, 1) := by decide +kernel
theorem dX8_landHere_1 : decode cX8_landHere 1 = .ok (.ifCond .lt 21, 3) := by decide +kernel
theorem dX8_landHere_4 : decode cX8_landHere 4 = .ok (.iload_n 1, 1) := by decide +kernel
theorem dX8_landHere_5 : decode cX8_landHere 5 = .ok (.aload_n 0, 1) := by decide +kernel
theorem dX8_landHere_6 : decode cX8_landHere 6 = .ok (.getfield 25, 3) := by decide +kernel
theorem dX8_landHere_9 : decode cX8_landHere 9 = .ok (.if_icmp .ge 13, 3) := by decide +kernel
theorem dX8_landHere_12 : decode cX8_landHere 12 = .ok (.aload_n 0, 1) := by decide +kernel
theorem dX8_landHere_13 : decode cX8_landHere 13 = .ok (.getfield 19, 3) := by decide +kernel
theorem dX8_landHere_16 : decode cX8_landHere 16 = .ok (.iload_n 1, 1) := by decide +kernel
theorem dX8_landHere_17 : decode cX8_landHere 17 = .ok (.aload_n 0, 1) := by decide +kernel
theorem dX8_landHere_18 : decode cX8_landHere 18 = .ok (.getfield 25, 3) := by decide +kernel
theorem dX8_landHere_21 : decode cX8_landHere 21 = .ok (.iastore, 1) := by decide +kernel
theorem dX8_landHere_22 : decode cX8_landHere 22 = .ok (.return_, 1) := by decide +kernel
theorem dX5_both_0 : decode cX5_both 0 = .ok (.aload_n 0, 1) := by decide +kernel
theorem dX5_both_1 : decode cX5_both 1 = .ok (.iload_n 1, 1) := by decide +kernel
theorem dX5_both_2 : decode cX5_both 2 = .ok (.invokevirtual 139, 3) := by decide +kernel
theorem dX5_both_5 : decode cX5_both 5 = .ok (.istore_n 2, 1) := by decide +kernel
theorem dX5_both_6 : decode cX5_both 6 = .ok (.iconst 0, 1) := by decide +kernel
theorem dX5_both_7 : decode cX5_both 7 = .ok (.istore_n 3, 1) := by decide +kernel
theorem dX5_both_8 : decode cX5_both 8 = .ok (.iload_n 3, 1) := by decide +kernel
theorem dX5_both_9 : decode cX5_both 9 = .ok (.sipush 400, 3) := by decide +kernel
theorem dX5_both_12 : decode cX5_both 12 = .ok (.if_icmp .ge 54, 3) := by decide +kernel
theorem dX5_both_15 : decode cX5_both 15 = .ok (.iload_n 2, 1) := by decide +kernel
theorem dX5_both_16 : decode cX5_both 16 = .ok (.ifCond .eq 50, 3) := by decide +kernel
theorem dX5_both_19 : decode cX5_both 19 = .ok (.aload_n 0, 1) := by decide +kernel
theorem dX5_both_20 : decode cX5_both 20 = .ok (.getfield 50, 3) := by decide +kernel
theorem dX5_both_23 : decode cX5_both 23 = .ok (.sipush 261, 3) := by decide +kernel
theorem dX5_both_26 : decode cX5_both 26 = .ok (.if_icmp .ne 40, 3) := by decide +kernel
theorem dX5_both_29 : decode cX5_both 29 = .ok (.aload_n 0, 1) := by decide +kernel
theorem dX5_both_30 : decode cX5_both 30 = .ok (.getfield 29, 3) := by decide +kernel
theorem dX5_both_33 : decode cX5_both 33 = .ok (.bipush 11, 2) := by decide +kernel
theorem dX5_both_35 : decode cX5_both 35 = .ok (.iconst 0, 1) := by decide +kernel
theorem dX5_both_36 : decode cX5_both 36 = .ok (.invokevirtual 132, 3) := by decide +kernel
theorem dX5_both_39 : decode cX5_both 39 = .ok (.istore 4, 2) := by decide +kernel
theorem dX5_both_41 : decode cX5_both 41 = .ok (.aload_n 0, 1) := by decide +kernel
theorem dX5_both_42 : decode cX5_both 42 = .ok (.invokevirtual 66, 3) := by decide +kernel
theorem dX5_both_45 : decode cX5_both 45 = .ok (.aload_n 0, 1) := by decide +kernel
theorem dX5_both_46 : decode cX5_both 46 = .ok (.iload_n 1, 1) := by decide +kernel
theorem dX5_both_47 : decode cX5_both 47 = .ok (.invokevirtual 139, 3) := by decide +kernel
theorem dX5_both_50 : decode cX5_both 50 = .ok (.istore_n 2, 1) := by decide +kernel
theorem dX5_both_51 : decode cX5_both 51 = .ok (.aload_n 0, 1) := by decide +kernel
theorem dX5_both_52 : decode cX5_both 52 = .ok (.getfield 29, 3) := by decide +kernel
theorem dX5_both_55 : decode cX5_both 55 = .ok (.iload 4, 2) := by decide +kernel
theorem dX5_both_57 : decode cX5_both 57 = .ok (.invokevirtual 135, 3) := by decide +kernel
theorem dX5_both_60 : decode cX5_both 60 = .ok (.iinc 3 1, 3) := by decide +kernel
theorem dX5_both_63 : decode cX5_both 63 = .ok (.goto (-55), 3) := by decide +kernel
theorem dX5_both_66 : decode cX5_both 66 = .ok (.iload_n 2, 1) := by decide +kernel
theorem dX5_both_67 : decode cX5_both 67 = .ok (.ireturn, 1) := by decide +kernel
theorem dX5_test_0 : decode cX5_test 0 = .ok (.aload_n 0, 1) := by decide +kernel
theorem dX5_test_1 : decode cX5_test 1 = .ok (.iload_n 1, 1) := by decide +kernel
theorem dX5_test_2 : decode cX5_test 2 = .ok (.invokevirtual 129, 3) := by decide +kernel
theorem dX5_test_5 : decode cX5_test 5 = .ok (.istore_n 2, 1) := by decide +kernel
theorem dX5_test_6 : decode cX5_test 6 = .ok (.iconst 0, 1) := by decide +kernel
theorem dX5_test_7 : decode cX5_test 7 = .ok (.istore_n 3, 1) := by decide +kernel
theorem dX5_test_8 : decode cX5_test 8 = .ok (.iload_n 3, 1) := by decide +kernel
theorem dX5_test_9 : decode cX5_test 9 = .ok (.sipush 400, 3) := by decide +kernel
theorem dX5_test_12 : decode cX5_test 12 = .ok (.if_icmp .ge 54, 3) := by decide +kernel
theorem dX5_test_15 : decode cX5_test 15 = .ok (.iload_n 2, 1) := by decide +kernel
theorem dX5_test_16 : decode cX5_test 16 = .ok (.ifCond .eq 50, 3) := by decide +kernel
theorem dX5_test_19 : decode cX5_test 19 = .ok (.aload_n 0, 1) := by decide +kernel
theorem dX5_test_20 : decode cX5_test 20 = .ok (.getfield 50, 3) := by decide +kernel
theorem dX5_test_23 : decode cX5_test 23 = .ok (.sipush 260, 3) := by decide +kernel
theorem dX5_test_26 : decode cX5_test 26 = .ok (.if_icmp .ne 40, 3) := by decide +kernel
theorem dX5_test_29 : decode cX5_test 29 = .ok (.aload_n 0, 1) := by decide +kernel
theorem dX5_test_30 : decode cX5_test 30 = .ok (.getfield 29, 3) := by decide +kernel
theorem dX5_test_33 : decode cX5_test 33 = .ok (.bipush 12, 2) := by decide +kernel
theorem dX5_test_35 : decode cX5_test 35 = .ok (.iconst 0, 1) := by decide +kernel
theorem dX5_test_36 : decode cX5_test 36 = .ok (.invokevirtual 132, 3) := by decide +kernel
theorem dX5_test_39 : decode cX5_test 39 = .ok (.istore 4, 2) := by decide +kernel
theorem dX5_test_41 : decode cX5_test 41 = .ok (.aload_n 0, 1) := by decide +kernel
theorem dX5_test_42 : decode cX5_test 42 = .ok (.invokevirtual 66, 3) := by decide +kernel
theorem dX5_test_45 : decode cX5_test 45 = .ok (.aload_n 0, 1) := by decide +kernel
theorem dX5_test_46 : decode cX5_test 46 = .ok (.iload_n 1, 1) := by decide +kernel
theorem dX5_test_47 : decode cX5_test 47 = .ok (.invokevirtual 129, 3) := by decide +kernel
theorem dX5_test_50 : decode cX5_test 50 = .ok (.istore_n 2, 1) := by decide +kernel
theorem dX5_test_51 : decode cX5_test 51 = .ok (.aload_n 0, 1) := by decide +kernel
theorem dX5_test_52 : decode cX5_test 52 = .ok (.getfield 29, 3) := by decide +kernel
theorem dX5_test_55 : decode cX5_test 55 = .ok (.iload 4, 2) := by decide +kernel
theorem dX5_test_57 : decode cX5_test 57 = .ok (.invokevirtual 135, 3) := by decide +kernel
theorem dX5_test_60 : decode cX5_test 60 = .ok (.iinc 3 1, 3) := by decide +kernel
theorem dX5_test_63 : decode cX5_test 63 = .ok (.goto (-55), 3) := by decide +kernel
theorem dX5_test_66 : decode cX5_test 66 = .ok (.iload_n 2, 1) := by decide +kernel
theorem dX5_test_67 : decode cX5_test 67 = .ok (.ireturn, 1) := by decide +kernel
theorem dX8_setPart_0 : decode cX8_setPart 0 = .ok (.aload_n 0, 1) := by decide +kernel
theorem dX8_setPart_1 : decode cX8_setPart 1 = .ok (.getfield 22, 3) := by decide +kernel
theorem dX8_setPart_4 : decode cX8_setPart 4 = .ok (.iload_n 1, 1) := by decide +kernel
theorem dX8_setPart_5 : decode cX8_setPart 5 = .ok (.bipush 8, 2) := by decide +kernel
theorem dX8_setPart_7 : decode cX8_setPart 7 = .ok (.imul, 1) := by decide +kernel
theorem dX8_setPart_8 : decode cX8_setPart 8 = .ok (.iload_n 2, 1) := by decide +kernel
theorem dX8_setPart_9 : decode cX8_setPart 9 = .ok (.iadd, 1) := by decide +kernel
theorem dX8_setPart_10 : decode cX8_setPart 10 = .ok (.iload_n 3, 1) := by decide +kernel
theorem dX8_setPart_11 : decode cX8_setPart 11 = .ok (.iastore, 1) := by decide +kernel
theorem dX8_setPart_12 : decode cX8_setPart 12 = .ok (.return_, 1) := by decide +kernel
theorem dX8_size_0 : decode cX8_size 0 = .ok (.aload_n 0, 1) := by decide +kernel
theorem dX8_size_1 : decode cX8_size 1 = .ok (.getfield 25, 3) := by decide +kernel
theorem dX8_size_4 : decode cX8_size 4 = .ok (.ireturn, 1) := by decide +kernel
theorem dX5_condition_0 : decode cX5_condition 0 = .ok (.aload_n 0, 1) := by decide +kernel
theorem dX5_condition_1 : decode cX5_condition 1 = .ok (.getfield 50, 3) := by decide +kernel
theorem dX5_condition_4 : decode cX5_condition 4 = .ok (.sipush 259, 3) := by decide +kernel
theorem dX5_condition_7 : decode cX5_condition 7 = .ok (.if_icmp .eq 5, 3) := by decide +kernel
theorem dX5_condition_10 : decode cX5_condition 10 = .ok (.iconst 1, 1) := by decide +kernel
theorem dX5_condition_11 : decode cX5_condition 11 = .ok (.ireturn, 1) := by decide +kernel
theorem dX5_condition_12 : decode cX5_condition 12 = .ok (.aload_n 0, 1) := by decide +kernel
theorem dX5_condition_13 : decode cX5_condition 13 = .ok (.invokevirtual 66, 3) := by decide +kernel
theorem dX5_condition_16 : decode cX5_condition 16 = .ok (.aload_n 0, 1) := by decide +kernel
theorem dX5_condition_17 : decode cX5_condition 17 = .ok (.getfield 29, 3) := by decide +kernel
theorem dX5_condition_20 : decode cX5_condition 20 = .ok (.iload_n 1, 1) := by decide +kernel
theorem dX5_condition_21 : decode cX5_condition 21 = .ok (.iconst 2, 1) := by decide +kernel
theorem dX5_condition_22 : decode cX5_condition 22 = .ok (.aload_n 0, 1) := by decide +kernel
theorem dX5_condition_23 : decode cX5_condition 23 = .ok (.getfield 29, 3) := by decide +kernel
theorem dX5_condition_26 : decode cX5_condition 26 = .ok (.invokevirtual 120, 3) := by decide +kernel
theorem dX5_condition_29 : decode cX5_condition 29 = .ok (.invokevirtual 116, 3) := by decide +kernel
theorem dX5_condition_32 : decode cX5_condition 32 = .ok (.aload_n 0, 1) := by decide +kernel
theorem dX5_condition_33 : decode cX5_condition 33 = .ok (.iconst 0, 1) := by decide +kernel
theorem dX5_condition_34 : decode cX5_condition 34 = .ok (.invokevirtual 123, 3) := by decide +kernel
theorem dX5_condition_37 : decode cX5_condition 37 = .ok (.istore_n 2, 1) := by decide +kernel
theorem dX5_condition_38 : decode cX5_condition 38 = .ok (.aload_n 0, 1) := by decide +kernel
theorem dX5_condition_39 : decode cX5_condition 39 = .ok (.getfield 29, 3) := by decide +kernel
theorem dX5_condition_42 : decode cX5_condition 42 = .ok (.iload_n 1, 1) := by decide +kernel
theorem dX5_condition_43 : decode cX5_condition 43 = .ok (.iconst 3, 1) := by decide +kernel
theorem dX5_condition_44 : decode cX5_condition 44 = .ok (.aload_n 0, 1) := by decide +kernel
theorem dX5_condition_45 : decode cX5_condition 45 = .ok (.getfield 29, 3) := by decide +kernel
theorem dX5_condition_48 : decode cX5_condition 48 = .ok (.invokevirtual 120, 3) := by decide +kernel
theorem dX5_condition_51 : decode cX5_condition 51 = .ok (.invokevirtual 116, 3) := by decide +kernel
theorem dX5_condition_54 : decode cX5_condition 54 = .ok (.iload_n 2, 1) := by decide +kernel
theorem dX5_condition_55 : decode cX5_condition 55 = .ok (.ireturn, 1) := by decide +kernel
theorem dX5_sumOf_0 : decode cX5_sumOf 0 = .ok (.aload_n 0, 1) := by decide +kernel
theorem dX5_sumOf_1 : decode cX5_sumOf 1 = .ok (.getfield 29, 3) := by decide +kernel
theorem dX5_sumOf_4 : decode cX5_sumOf 4 = .ok (.iload_n 1, 1) := by decide +kernel
theorem dX5_sumOf_5 : decode cX5_sumOf 5 = .ok (.iload_n 2, 1) := by decide +kernel
theorem dX5_sumOf_6 : decode cX5_sumOf 6 = .ok (.aload_n 0, 1) := by decide +kernel
theorem dX5_sumOf_7 : decode cX5_sumOf 7 = .ok (.getfield 29, 3) := by decide +kernel
theorem dX5_sumOf_10 : decode cX5_sumOf 10 = .ok (.invokevirtual 120, 3) := by decide +kernel
theorem dX5_sumOf_13 : decode cX5_sumOf 13 = .ok (.invokevirtual 116, 3) := by decide +kernel
theorem dX5_sumOf_16 : decode cX5_sumOf 16 = .ok (.aload_n 0, 1) := by decide +kernel
theorem dX5_sumOf_17 : decode cX5_sumOf 17 = .ok (.iconst 0, 1) := by decide +kernel
theorem dX5_sumOf_18 : decode cX5_sumOf 18 = .ok (.invokevirtual 126, 3) := by decide +kernel
theorem dX5_sumOf_21 : decode cX5_sumOf 21 = .ok (.istore_n 3, 1) := by decide +kernel
theorem dX5_sumOf_22 : decode cX5_sumOf 22 = .ok (.aload_n 0, 1) := by decide +kernel
theorem dX5_sumOf_23 : decode cX5_sumOf 23 = .ok (.getfield 29, 3) := by decide +kernel
theorem dX5_sumOf_26 : decode cX5_sumOf 26 = .ok (.iload_n 1, 1) := by decide +kernel
theorem dX5_sumOf_27 : decode cX5_sumOf 27 = .ok (.iload_n 2, 1) := by decide +kernel
theorem dX5_sumOf_28 : decode cX5_sumOf 28 = .ok (.iconst 1, 1) := by decide +kernel
theorem dX5_sumOf_29 : decode cX5_sumOf 29 = .ok (.iadd, 1) := by decide +kernel
theorem dX5_sumOf_30 : decode cX5_sumOf 30 = .ok (.aload_n 0, 1) := by decide +kernel
theorem dX5_sumOf_31 : decode cX5_sumOf 31 = .ok (.getfield 29, 3) := by decide +kernel
theorem dX5_sumOf_34 : decode cX5_sumOf 34 = .ok (.invokevirtual 120, 3) := by decide +kernel
theorem dX5_sumOf_37 : decode cX5_sumOf 37 = .ok (.invokevirtual 116, 3) := by decide +kernel
theorem dX5_sumOf_40 : decode cX5_sumOf 40 = .ok (.iload_n 3, 1) := by decide +kernel
theorem dX5_sumOf_41 : decode cX5_sumOf 41 = .ok (.ireturn, 1) := by decide +kernel
theorem dX8_open_0 : decode cX8_open 0 = .ok (.aload_n 0, 1) := by decide +kernel
theorem dX8_open_1 : decode cX8_open 1 = .ok (.getfield 29, 3) := by decide +kernel
theorem dX8_open_4 : decode cX8_open 4 = .ok (.iconst 1, 1) := by decide +kernel
theorem dX8_open_5 : decode cX8_open 5 = .ok (.iadd, 1) := by decide +kernel
theorem dX8_open_6 : decode cX8_open 6 = .ok (.bipush 8, 2) := by decide +kernel
theorem dX8_open_8 : decode cX8_open 8 = .ok (.imul, 1) := by decide +kernel
theorem dX8_open_9 : decode cX8_open 9 = .ok (.aload_n 0, 1) := by decide +kernel
theorem dX8_open_10 : decode cX8_open 10 = .ok (.getfield 22, 3) := by decide +kernel
theorem dX8_open_13 : decode cX8_open 13 = .ok (.arraylength, 1) := by decide +kernel
theorem dX8_open_14 : decode cX8_open 14 = .ok (.if_icmp .gt 67, 3) := by decide +kernel
theorem dX8_open_17 : decode cX8_open 17 = .ok (.aload_n 0, 1) := by decide +kernel
theorem dX8_open_18 : decode cX8_open 18 = .ok (.getfield 22, 3) := by decide +kernel
theorem dX8_open_21 : decode cX8_open 21 = .ok (.aload_n 0, 1) := by decide +kernel
theorem dX8_open_22 : decode cX8_open 22 = .ok (.getfield 29, 3) := by decide +kernel
theorem dX8_open_25 : decode cX8_open 25 = .ok (.bipush 8, 2) := by decide +kernel
theorem dX8_open_27 : decode cX8_open 27 = .ok (.imul, 1) := by decide +kernel
theorem dX8_open_28 : decode cX8_open 28 = .ok (.aload_n 0, 1) := by decide +kernel
theorem dX8_open_29 : decode cX8_open 29 = .ok (.getfield 29, 3) := by decide +kernel
theorem dX8_open_32 : decode cX8_open 32 = .ok (.iconst 1, 1) := by decide +kernel
theorem dX8_open_33 : decode cX8_open 33 = .ok (.iadd, 1) := by decide +kernel
theorem dX8_open_34 : decode cX8_open 34 = .ok (.bipush 8, 2) := by decide +kernel
theorem dX8_open_36 : decode cX8_open 36 = .ok (.imul, 1) := by decide +kernel
theorem dX8_open_37 : decode cX8_open 37 = .ok (.iconst 0, 1) := by decide +kernel
theorem dX8_open_38 : decode cX8_open 38 = .ok (.invokestatic 32, 3) := by decide +kernel
theorem dX8_open_41 : decode cX8_open 41 = .ok (.aload_n 0, 1) := by decide +kernel
theorem dX8_open_42 : decode cX8_open 42 = .ok (.getfield 22, 3) := by decide +kernel
theorem dX8_open_45 : decode cX8_open 45 = .ok (.aload_n 0, 1) := by decide +kernel
theorem dX8_open_46 : decode cX8_open 46 = .ok (.getfield 29, 3) := by decide +kernel
theorem dX8_open_49 : decode cX8_open 49 = .ok (.bipush 8, 2) := by decide +kernel
theorem dX8_open_51 : decode cX8_open 51 = .ok (.imul, 1) := by decide +kernel
theorem dX8_open_52 : decode cX8_open 52 = .ok (.iconst 0, 1) := by decide +kernel
theorem dX8_open_53 : decode cX8_open 53 = .ok (.iadd, 1) := by decide +kernel
theorem dX8_open_54 : decode cX8_open 54 = .ok (.iload_n 1, 1) := by decide +kernel
theorem dX8_open_55 : decode cX8_open 55 = .ok (.iastore, 1) := by decide +kernel
theorem dX8_open_56 : decode cX8_open 56 = .ok (.aload_n 0, 1) := by decide +kernel
theorem dX8_open_57 : decode cX8_open 57 = .ok (.getfield 22, 3) := by decide +kernel
theorem dX8_open_60 : decode cX8_open 60 = .ok (.aload_n 0, 1) := by decide +kernel
theorem dX8_open_61 : decode cX8_open 61 = .ok (.getfield 29, 3) := by decide +kernel
theorem dX8_open_64 : decode cX8_open 64 = .ok (.bipush 8, 2) := by decide +kernel
theorem dX8_open_66 : decode cX8_open 66 = .ok (.imul, 1) := by decide +kernel
theorem dX8_open_67 : decode cX8_open 67 = .ok (.iconst 1, 1) := by decide +kernel
theorem dX8_open_68 : decode cX8_open 68 = .ok (.iadd, 1) := by decide +kernel
theorem dX8_open_69 : decode cX8_open 69 = .ok (.iconst 1, 1) := by decide +kernel
theorem dX8_open_70 : decode cX8_open 70 = .ok (.iastore, 1) := by decide +kernel
theorem dX8_open_71 : decode cX8_open 71 = .ok (.aload_n 0, 1) := by decide +kernel
theorem dX8_open_72 : decode cX8_open 72 = .ok (.dup, 1) := by decide +kernel
theorem dX8_open_73 : decode cX8_open 73 = .ok (.getfield 29, 3) := by decide +kernel
theorem dX8_open_76 : decode cX8_open 76 = .ok (.iconst 1, 1) := by decide +kernel
theorem dX8_open_77 : decode cX8_open 77 = .ok (.iadd, 1) := by decide +kernel
theorem dX8_open_78 : decode cX8_open 78 = .ok (.putfield 29, 3) := by decide +kernel
theorem dX8_open_81 : decode cX8_open 81 = .ok (.aload_n 0, 1) := by decide +kernel
theorem dX8_open_82 : decode cX8_open 82 = .ok (.getfield 29, 3) := by decide +kernel
theorem dX8_open_85 : decode cX8_open 85 = .ok (.iconst 1, 1) := by decide +kernel
theorem dX8_open_86 : decode cX8_open 86 = .ok (.isub, 1) := by decide +kernel
theorem dX8_open_87 : decode cX8_open 87 = .ok (.ireturn, 1) := by decide +kernel
theorem dX5_lawClause_0 : decode cX5_lawClause 0 = .ok (.aload_n 0, 1) := by decide +kernel
theorem dX5_lawClause_1 : decode cX5_lawClause 1 = .ok (.getfield 50, 3) := by decide +kernel
theorem dX5_lawClause_4 : decode cX5_lawClause 4 = .ok (.sipush 256, 3) := by decide +kernel
theorem dX5_lawClause_7 : decode cX5_lawClause 7 = .ok (.if_icmp .lt 13, 3) := by decide +kernel
theorem dX5_lawClause_10 : decode cX5_lawClause 10 = .ok (.aload_n 0, 1) := by decide +kernel
theorem dX5_lawClause_11 : decode cX5_lawClause 11 = .ok (.getfield 50, 3) := by decide +kernel
theorem dX5_lawClause_14 : decode cX5_lawClause 14 = .ok (.sipush 258, 3) := by decide +kernel
theorem dX5_lawClause_17 : decode cX5_lawClause 17 = .ok (.if_icmp .le 8, 3) := by decide +kernel
theorem dX5_lawClause_20 : decode cX5_lawClause 20 = .ok (.aload_n 0, 1) := by decide +kernel
theorem dX5_lawClause_21 : decode cX5_lawClause 21 = .ok (.invokevirtual 69, 3) := by decide +kernel
theorem dX5_lawClause_24 : decode cX5_lawClause 24 = .ok (.ireturn, 1) := by decide +kernel
theorem dX5_lawClause_25 : decode cX5_lawClause 25 = .ok (.aload_n 0, 1) := by decide +kernel
theorem dX5_lawClause_26 : decode cX5_lawClause 26 = .ok (.getfield 50, 3) := by decide +kernel
theorem dX5_lawClause_29 : decode cX5_lawClause 29 = .ok (.istore_n 1, 1) := by decide +kernel
theorem dX5_lawClause_30 : decode cX5_lawClause 30 = .ok (.aload_n 0, 1) := by decide +kernel
theorem dX5_lawClause_31 : decode cX5_lawClause 31 = .ok (.getfield 29, 3) := by decide +kernel
theorem dX5_lawClause_34 : decode cX5_lawClause 34 = .ok (.iload_n 1, 1) := by decide +kernel
theorem dX5_lawClause_35 : decode cX5_lawClause 35 = .ok (.invokevirtual 102, 3) := by decide +kernel
theorem dX5_lawClause_38 : decode cX5_lawClause 38 = .ok (.istore_n 2, 1) := by decide +kernel
theorem dX5_lawClause_39 : decode cX5_lawClause 39 = .ok (.aload_n 0, 1) := by decide +kernel
theorem dX5_lawClause_40 : decode cX5_lawClause 40 = .ok (.invokevirtual 66, 3) := by decide +kernel
theorem dX5_lawClause_43 : decode cX5_lawClause 43 = .ok (.iload_n 1, 1) := by decide +kernel
theorem dX5_lawClause_44 : decode cX5_lawClause 44 = .ok (.sipush 258, 3) := by decide +kernel
theorem dX5_lawClause_47 : decode cX5_lawClause 47 = .ok (.if_icmp .eq 12, 3) := by decide +kernel
theorem dX5_lawClause_50 : decode cX5_lawClause 50 = .ok (.aload_n 0, 1) := by decide +kernel
theorem dX5_lawClause_51 : decode cX5_lawClause 51 = .ok (.iload_n 2, 1) := by decide +kernel
theorem dX5_lawClause_52 : decode cX5_lawClause 52 = .ok (.iconst 4, 1) := by decide +kernel
theorem dX5_lawClause_53 : decode cX5_lawClause 53 = .ok (.invokevirtual 106, 3) := by decide +kernel
theorem dX5_lawClause_56 : decode cX5_lawClause 56 = .ok (.ifCond .eq 15, 3) := by decide +kernel
theorem dX5_lawClause_59 : decode cX5_lawClause 59 = .ok (.aload_n 0, 1) := by decide +kernel
theorem dX5_lawClause_60 : decode cX5_lawClause 60 = .ok (.iload_n 2, 1) := by decide +kernel
theorem dX5_lawClause_61 : decode cX5_lawClause 61 = .ok (.invokevirtual 110, 3) := by decide +kernel
theorem dX5_lawClause_64 : decode cX5_lawClause 64 = .ok (.ifCond .eq 7, 3) := by decide +kernel
theorem dX5_lawClause_67 : decode cX5_lawClause 67 = .ok (.iconst 1, 1) := by decide +kernel
theorem dX5_lawClause_68 : decode cX5_lawClause 68 = .ok (.goto 4, 3) := by decide +kernel
theorem dX5_lawClause_71 : decode cX5_lawClause 71 = .ok (.iconst 0, 1) := by decide +kernel
theorem dX5_lawClause_72 : decode cX5_lawClause 72 = .ok (.ireturn, 1) := by decide +kernel
theorem dX5_times_0 : decode cX5_times 0 = .ok (.aload_n 0, 1) := by decide +kernel
theorem dX5_times_1 : decode cX5_times 1 = .ok (.getfield 50, 3) := by decide +kernel
theorem dX5_times_4 : decode cX5_times 4 = .ok (.sipush 266, 3) := by decide +kernel
theorem dX5_times_7 : decode cX5_times 7 = .ok (.if_icmp .eq 5, 3) := by decide +kernel
theorem dX5_times_10 : decode cX5_times 10 = .ok (.iconst 1, 1) := by decide +kernel
theorem dX5_times_11 : decode cX5_times 11 = .ok (.ireturn, 1) := by decide +kernel
theorem dX5_times_12 : decode cX5_times 12 = .ok (.aload_n 0, 1) := by decide +kernel
theorem dX5_times_13 : decode cX5_times 13 = .ok (.invokevirtual 66, 3) := by decide +kernel
theorem dX5_times_16 : decode cX5_times 16 = .ok (.aload_n 0, 1) := by decide +kernel
theorem dX5_times_17 : decode cX5_times 17 = .ok (.getfield 50, 3) := by decide +kernel
theorem dX5_times_20 : decode cX5_times 20 = .ok (.bipush (-2), 2) := by decide +kernel
theorem dX5_times_22 : decode cX5_times 22 = .ok (.if_icmp .ne 30, 3) := by decide +kernel
theorem dX5_times_25 : decode cX5_times 25 = .ok (.aload_n 0, 1) := by decide +kernel
theorem dX5_times_26 : decode cX5_times 26 = .ok (.getfield 18, 3) := by decide +kernel
theorem dX5_times_29 : decode cX5_times 29 = .ok (.aload_n 0, 1) := by decide +kernel
theorem dX5_times_30 : decode cX5_times 30 = .ok (.getfield 47, 3) := by decide +kernel
theorem dX5_times_33 : decode cX5_times 33 = .ok (.iaload, 1) := by decide +kernel
theorem dX5_times_34 : decode cX5_times 34 = .ok (.iconst 1, 1) := by decide +kernel
theorem dX5_times_35 : decode cX5_times 35 = .ok (.if_icmp .lt 17, 3) := by decide +kernel
theorem dX5_times_38 : decode cX5_times 38 = .ok (.aload_n 0, 1) := by decide +kernel
theorem dX5_times_39 : decode cX5_times 39 = .ok (.getfield 18, 3) := by decide +kernel
theorem dX5_times_42 : decode cX5_times 42 = .ok (.aload_n 0, 1) := by decide +kernel
theorem dX5_times_43 : decode cX5_times 43 = .ok (.getfield 47, 3) := by decide +kernel
theorem dX5_times_46 : decode cX5_times 46 = .ok (.iaload, 1) := by decide +kernel
theorem dX5_times_47 : decode cX5_times 47 = .ok (.bipush 20, 2) := by decide +kernel
theorem dX5_times_49 : decode cX5_times 49 = .ok (.if_icmp .le 8, 3) := by decide +kernel
theorem dX5_times_52 : decode cX5_times 52 = .ok (.aload_n 0, 1) := by decide +kernel
theorem dX5_times_53 : decode cX5_times 53 = .ok (.invokevirtual 69, 3) := by decide +kernel
theorem dX5_times_56 : decode cX5_times 56 = .ok (.ireturn, 1) := by decide +kernel
theorem dX5_times_57 : decode cX5_times 57 = .ok (.aload_n 0, 1) := by decide +kernel
theorem dX5_times_58 : decode cX5_times 58 = .ok (.getfield 29, 3) := by decide +kernel
theorem dX5_times_61 : decode cX5_times 61 = .ok (.iload_n 1, 1) := by decide +kernel
theorem dX5_times_62 : decode cX5_times 62 = .ok (.iconst 1, 1) := by decide +kernel
theorem dX5_times_63 : decode cX5_times 63 = .ok (.aload_n 0, 1) := by decide +kernel
theorem dX5_times_64 : decode cX5_times 64 = .ok (.getfield 18, 3) := by decide +kernel
theorem dX5_times_67 : decode cX5_times 67 = .ok (.aload_n 0, 1) := by decide +kernel
theorem dX5_times_68 : decode cX5_times 68 = .ok (.getfield 47, 3) := by decide +kernel
theorem dX5_times_71 : decode cX5_times 71 = .ok (.iaload, 1) := by decide +kernel
theorem dX5_times_72 : decode cX5_times 72 = .ok (.invokevirtual 116, 3) := by decide +kernel
theorem dX5_times_75 : decode cX5_times 75 = .ok (.aload_n 0, 1) := by decide +kernel
theorem dX5_times_76 : decode cX5_times 76 = .ok (.invokevirtual 66, 3) := by decide +kernel
theorem dX5_times_79 : decode cX5_times 79 = .ok (.iconst 1, 1) := by decide +kernel
theorem dX5_times_80 : decode cX5_times 80 = .ok (.ireturn, 1) := by decide +kernel
theorem dX5_orderClause_0 : decode cX5_orderClause 0 = .ok (.aload_n 0, 1) := by decide +kernel
theorem dX5_orderClause_1 : decode cX5_orderClause 1 = .ok (.getfield 50, 3) := by decide +kernel
theorem dX5_orderClause_4 : decode cX5_orderClause 4 = .ok (.sipush 263, 3) := by decide +kernel
theorem dX5_orderClause_7 : decode cX5_orderClause 7 = .ok (.if_icmp .eq 18, 3) := by decide +kernel
theorem dX5_orderClause_10 : decode cX5_orderClause 10 = .ok (.aload_n 0, 1) := by decide +kernel
theorem dX5_orderClause_11 : decode cX5_orderClause 11 = .ok (.getfield 50, 3) := by decide +kernel
theorem dX5_orderClause_14 : decode cX5_orderClause 14 = .ok (.sipush 265, 3) := by decide +kernel
theorem dX5_orderClause_17 : decode cX5_orderClause 17 = .ok (.if_icmp .eq 8, 3) := by decide +kernel
theorem dX5_orderClause_20 : decode cX5_orderClause 20 = .ok (.aload_n 0, 1) := by decide +kernel
theorem dX5_orderClause_21 : decode cX5_orderClause 21 = .ok (.invokevirtual 69, 3) := by decide +kernel
theorem dX5_orderClause_24 : decode cX5_orderClause 24 = .ok (.ireturn, 1) := by decide +kernel
theorem dX5_orderClause_25 : decode cX5_orderClause 25 = .ok (.aload_n 0, 1) := by decide +kernel
theorem dX5_orderClause_26 : decode cX5_orderClause 26 = .ok (.getfield 50, 3) := by decide +kernel
theorem dX5_orderClause_29 : decode cX5_orderClause 29 = .ok (.istore_n 1, 1) := by decide +kernel
theorem dX5_orderClause_30 : decode cX5_orderClause 30 = .ok (.aload_n 0, 1) := by decide +kernel
theorem dX5_orderClause_31 : decode cX5_orderClause 31 = .ok (.getfield 29, 3) := by decide +kernel
theorem dX5_orderClause_34 : decode cX5_orderClause 34 = .ok (.iload_n 1, 1) := by decide +kernel
theorem dX5_orderClause_35 : decode cX5_orderClause 35 = .ok (.invokevirtual 102, 3) := by decide +kernel
theorem dX5_orderClause_38 : decode cX5_orderClause 38 = .ok (.istore_n 2, 1) := by decide +kernel
theorem dX5_orderClause_39 : decode cX5_orderClause 39 = .ok (.aload_n 0, 1) := by decide +kernel
theorem dX5_orderClause_40 : decode cX5_orderClause 40 = .ok (.invokevirtual 66, 3) := by decide +kernel
theorem dX5_orderClause_43 : decode cX5_orderClause 43 = .ok (.iload_n 1, 1) := by decide +kernel
theorem dX5_orderClause_44 : decode cX5_orderClause 44 = .ok (.sipush 263, 3) := by decide +kernel
theorem dX5_orderClause_47 : decode cX5_orderClause 47 = .ok (.if_icmp .ne 45, 3) := by decide +kernel
theorem dX5_orderClause_50 : decode cX5_orderClause 50 = .ok (.aload_n 0, 1) := by decide +kernel
theorem dX5_orderClause_51 : decode cX5_orderClause 51 = .ok (.iload_n 2, 1) := by decide +kernel
theorem dX5_orderClause_52 : decode cX5_orderClause 52 = .ok (.iconst 4, 1) := by decide +kernel
theorem dX5_orderClause_53 : decode cX5_orderClause 53 = .ok (.invokevirtual 106, 3) := by decide +kernel
theorem dX5_orderClause_56 : decode cX5_orderClause 56 = .ok (.ifCond .ne 5, 3) := by decide +kernel
theorem dX5_orderClause_59 : decode cX5_orderClause 59 = .ok (.iconst 0, 1) := by decide +kernel
theorem dX5_orderClause_60 : decode cX5_orderClause 60 = .ok (.ireturn, 1) := by decide +kernel
theorem dX5_orderClause_61 : decode cX5_orderClause 61 = .ok (.aload_n 0, 1) := by decide +kernel
theorem dX5_orderClause_62 : decode cX5_orderClause 62 = .ok (.getfield 50, 3) := by decide +kernel
theorem dX5_orderClause_65 : decode cX5_orderClause 65 = .ok (.sipush 264, 3) := by decide +kernel
theorem dX5_orderClause_68 : decode cX5_orderClause 68 = .ok (.if_icmp .eq 8, 3) := by decide +kernel
theorem dX5_orderClause_71 : decode cX5_orderClause 71 = .ok (.aload_n 0, 1) := by decide +kernel
theorem dX5_orderClause_72 : decode cX5_orderClause 72 = .ok (.invokevirtual 69, 3) := by decide +kernel
theorem dX5_orderClause_75 : decode cX5_orderClause 75 = .ok (.ireturn, 1) := by decide +kernel
theorem dX5_orderClause_76 : decode cX5_orderClause 76 = .ok (.aload_n 0, 1) := by decide +kernel
theorem dX5_orderClause_77 : decode cX5_orderClause 77 = .ok (.invokevirtual 66, 3) := by decide +kernel
theorem dX5_orderClause_80 : decode cX5_orderClause 80 = .ok (.aload_n 0, 1) := by decide +kernel
theorem dX5_orderClause_81 : decode cX5_orderClause 81 = .ok (.iload_n 2, 1) := by decide +kernel
theorem dX5_orderClause_82 : decode cX5_orderClause 82 = .ok (.bipush 6, 2) := by decide +kernel
theorem dX5_orderClause_84 : decode cX5_orderClause 84 = .ok (.invokevirtual 106, 3) := by decide +kernel
theorem dX5_orderClause_87 : decode cX5_orderClause 87 = .ok (.ifCond .ne 5, 3) := by decide +kernel
theorem dX5_orderClause_90 : decode cX5_orderClause 90 = .ok (.iconst 0, 1) := by decide +kernel
theorem dX5_orderClause_91 : decode cX5_orderClause 91 = .ok (.ireturn, 1) := by decide +kernel
theorem dX5_orderClause_92 : decode cX5_orderClause 92 = .ok (.aload_n 0, 1) := by decide +kernel
theorem dX5_orderClause_93 : decode cX5_orderClause 93 = .ok (.iload_n 2, 1) := by decide +kernel
theorem dX5_orderClause_94 : decode cX5_orderClause 94 = .ok (.invokevirtual 113, 3) := by decide +kernel
theorem dX5_orderClause_97 : decode cX5_orderClause 97 = .ok (.ifCond .eq 15, 3) := by decide +kernel
theorem dX5_orderClause_100 : decode cX5_orderClause 100 = .ok (.aload_n 0, 1) := by decide +kernel
theorem dX5_orderClause_101 : decode cX5_orderClause 101 = .ok (.iload_n 2, 1) := by decide +kernel
theorem dX5_orderClause_102 : decode cX5_orderClause 102 = .ok (.invokevirtual 110, 3) := by decide +kernel
theorem dX5_orderClause_105 : decode cX5_orderClause 105 = .ok (.ifCond .eq 7, 3) := by decide +kernel
theorem dX5_orderClause_108 : decode cX5_orderClause 108 = .ok (.iconst 1, 1) := by decide +kernel
theorem dX5_orderClause_109 : decode cX5_orderClause 109 = .ok (.goto 4, 3) := by decide +kernel
theorem dX5_orderClause_112 : decode cX5_orderClause 112 = .ok (.iconst 0, 1) := by decide +kernel
theorem dX5_orderClause_113 : decode cX5_orderClause 113 = .ok (.ireturn, 1) := by decide +kernel
theorem dX5_isDigit_0 : decode cX5_isDigit 0 = .ok (.iload_n 0, 1) := by decide +kernel
theorem dX5_isDigit_1 : decode cX5_isDigit 1 = .ok (.bipush 48, 2) := by decide +kernel
theorem dX5_isDigit_3 : decode cX5_isDigit 3 = .ok (.if_icmp .lt 13, 3) := by decide +kernel
theorem dX5_isDigit_6 : decode cX5_isDigit 6 = .ok (.iload_n 0, 1) := by decide +kernel
theorem dX5_isDigit_7 : decode cX5_isDigit 7 = .ok (.bipush 57, 2) := by decide +kernel
theorem dX5_isDigit_9 : decode cX5_isDigit 9 = .ok (.if_icmp .gt 7, 3) := by decide +kernel
theorem dX5_isDigit_12 : decode cX5_isDigit 12 = .ok (.iconst 1, 1) := by decide +kernel
theorem dX5_isDigit_13 : decode cX5_isDigit 13 = .ok (.goto 4, 3) := by decide +kernel
theorem dX5_isDigit_16 : decode cX5_isDigit 16 = .ok (.iconst 0, 1) := by decide +kernel
theorem dX5_isDigit_17 : decode cX5_isDigit 17 = .ok (.ireturn, 1) := by decide +kernel
theorem dX5_isLetter_0 : decode cX5_isLetter 0 = .ok (.iload_n 0, 1) := by decide +kernel
theorem dX5_isLetter_1 : decode cX5_isLetter 1 = .ok (.bipush 97, 2) := by decide +kernel
theorem dX5_isLetter_3 : decode cX5_isLetter 3 = .ok (.if_icmp .lt 13, 3) := by decide +kernel
theorem dX5_isLetter_6 : decode cX5_isLetter 6 = .ok (.iload_n 0, 1) := by decide +kernel
theorem dX5_isLetter_7 : decode cX5_isLetter 7 = .ok (.bipush 122, 2) := by decide +kernel
theorem dX5_isLetter_9 : decode cX5_isLetter 9 = .ok (.if_icmp .gt 7, 3) := by decide +kernel
theorem dX5_isLetter_12 : decode cX5_isLetter 12 = .ok (.iconst 1, 1) := by decide +kernel
theorem dX5_isLetter_13 : decode cX5_isLetter 13 = .ok (.goto 4, 3) := by decide +kernel
theorem dX5_isLetter_16 : decode cX5_isLetter 16 = .ok (.iconst 0, 1) := by decide +kernel
theorem dX5_isLetter_17 : decode cX5_isLetter 17 = .ok (.ireturn, 1) := by decide +kernel
theorem dX5_numberOf_0 : decode cX5_numberOf 0 = .ok (.iconst 0, 1) := by decide +kernel
theorem dX5_numberOf_1 : decode cX5_numberOf 1 = .ok (.istore_n 3, 1) := by decide +kernel
theorem dX5_numberOf_2 : decode cX5_numberOf 2 = .ok (.iload_n 1, 1) := by decide +kernel
theorem dX5_numberOf_3 : decode cX5_numberOf 3 = .ok (.istore 4, 2) := by decide +kernel
theorem dX5_numberOf_5 : decode cX5_numberOf 5 = .ok (.iload 4, 2) := by decide +kernel
theorem dX5_numberOf_7 : decode cX5_numberOf 7 = .ok (.iload_n 2, 1) := by decide +kernel
theorem dX5_numberOf_8 : decode cX5_numberOf 8 = .ok (.if_icmp .ge 31, 3) := by decide +kernel
theorem dX5_numberOf_11 : decode cX5_numberOf 11 = .ok (.iload_n 3, 1) := by decide +kernel
theorem dX5_numberOf_12 : decode cX5_numberOf 12 = .ok (.bipush 10, 2) := by decide +kernel
theorem dX5_numberOf_14 : decode cX5_numberOf 14 = .ok (.imul, 1) := by decide +kernel
theorem dX5_numberOf_15 : decode cX5_numberOf 15 = .ok (.aload_n 0, 1) := by decide +kernel
theorem dX5_numberOf_16 : decode cX5_numberOf 16 = .ok (.getfield 11, 3) := by decide +kernel
theorem dX5_numberOf_19 : decode cX5_numberOf 19 = .ok (.iload 4, 2) := by decide +kernel
theorem dX5_numberOf_21 : decode cX5_numberOf 21 = .ok (.iaload, 1) := by decide +kernel
theorem dX5_numberOf_22 : decode cX5_numberOf 22 = .ok (.iadd, 1) := by decide +kernel
theorem dX5_numberOf_23 : decode cX5_numberOf 23 = .ok (.bipush 48, 2) := by decide +kernel
theorem dX5_numberOf_25 : decode cX5_numberOf 25 = .ok (.isub, 1) := by decide +kernel
theorem dX5_numberOf_26 : decode cX5_numberOf 26 = .ok (.sipush 1001, 3) := by decide +kernel
theorem dX5_numberOf_29 : decode cX5_numberOf 29 = .ok (.invokestatic 86, 3) := by decide +kernel
theorem dX5_numberOf_32 : decode cX5_numberOf 32 = .ok (.istore_n 3, 1) := by decide +kernel
theorem dX5_numberOf_33 : decode cX5_numberOf 33 = .ok (.iinc 4 1, 3) := by decide +kernel
theorem dX5_numberOf_36 : decode cX5_numberOf 36 = .ok (.goto (-31), 3) := by decide +kernel
theorem dX5_numberOf_39 : decode cX5_numberOf 39 = .ok (.iload_n 3, 1) := by decide +kernel
theorem dX5_numberOf_40 : decode cX5_numberOf 40 = .ok (.ireturn, 1) := by decide +kernel
theorem dX5_wordOf_0 : decode cX5_wordOf 0 = .ok (.sipush 256, 3) := by decide +kernel
theorem dX5_wordOf_3 : decode cX5_wordOf 3 = .ok (.istore_n 3, 1) := by decide +kernel
theorem dX5_wordOf_4 : decode cX5_wordOf 4 = .ok (.iconst 0, 1) := by decide +kernel
theorem dX5_wordOf_5 : decode cX5_wordOf 5 = .ok (.istore 4, 2) := by decide +kernel
theorem dX5_wordOf_7 : decode cX5_wordOf 7 = .ok (.iconst 0, 1) := by decide +kernel
theorem dX5_wordOf_8 : decode cX5_wordOf 8 = .ok (.istore 5, 2) := by decide +kernel
theorem dX5_wordOf_10 : decode cX5_wordOf 10 = .ok (.iload 5, 2) := by decide +kernel
theorem dX5_wordOf_12 : decode cX5_wordOf 12 = .ok (.ldc 91, 2) := by decide +kernel
theorem dX5_wordOf_14 : decode cX5_wordOf 14 = .ok (.invokevirtual 93, 3) := by decide +kernel
theorem dX5_wordOf_17 : decode cX5_wordOf 17 = .ok (.if_icmp .gt 108, 3) := by decide +kernel
theorem dX5_wordOf_20 : decode cX5_wordOf 20 = .ok (.iload 5, 2) := by decide +kernel
theorem dX5_wordOf_22 : decode cX5_wordOf 22 = .ok (.ldc 91, 2) := by decide +kernel
theorem dX5_wordOf_24 : decode cX5_wordOf 24 = .ok (.invokevirtual 93, 3) := by decide +kernel
theorem dX5_wordOf_27 : decode cX5_wordOf 27 = .ok (.if_icmp .ge 13, 3) := by decide +kernel
theorem dX5_wordOf_30 : decode cX5_wordOf 30 = .ok (.ldc 91, 2) := by decide +kernel
theorem dX5_wordOf_32 : decode cX5_wordOf 32 = .ok (.iload 5, 2) := by decide +kernel
theorem dX5_wordOf_34 : decode cX5_wordOf 34 = .ok (.invokevirtual 98, 3) := by decide +kernel
theorem dX5_wordOf_37 : decode cX5_wordOf 37 = .ok (.goto 5, 3) := by decide +kernel
theorem dX5_wordOf_40 : decode cX5_wordOf 40 = .ok (.bipush 32, 2) := by decide +kernel
theorem dX5_wordOf_42 : decode cX5_wordOf 42 = .ok (.istore 6, 2) := by decide +kernel
theorem dX5_wordOf_44 : decode cX5_wordOf 44 = .ok (.iload 6, 2) := by decide +kernel
theorem dX5_wordOf_46 : decode cX5_wordOf 46 = .ok (.bipush 32, 2) := by decide +kernel
theorem dX5_wordOf_48 : decode cX5_wordOf 48 = .ok (.if_icmp .eq 55, 3) := by decide +kernel
theorem dX5_wordOf_51 : decode cX5_wordOf 51 = .ok (.iload 4, 2) := by decide +kernel
theorem dX5_wordOf_53 : decode cX5_wordOf 53 = .ok (.ifCond .lt 29, 3) := by decide +kernel
theorem dX5_wordOf_56 : decode cX5_wordOf 56 = .ok (.iload_n 1, 1) := by decide +kernel
theorem dX5_wordOf_57 : decode cX5_wordOf 57 = .ok (.iload 4, 2) := by decide +kernel
theorem dX5_wordOf_59 : decode cX5_wordOf 59 = .ok (.iadd, 1) := by decide +kernel
theorem dX5_wordOf_60 : decode cX5_wordOf 60 = .ok (.iload_n 2, 1) := by decide +kernel
theorem dX5_wordOf_61 : decode cX5_wordOf 61 = .ok (.if_icmp .ge 21, 3) := by decide +kernel
theorem dX5_wordOf_64 : decode cX5_wordOf 64 = .ok (.aload_n 0, 1) := by decide +kernel
theorem dX5_wordOf_65 : decode cX5_wordOf 65 = .ok (.getfield 11, 3) := by decide +kernel
theorem dX5_wordOf_68 : decode cX5_wordOf 68 = .ok (.iload_n 1, 1) := by decide +kernel
theorem dX5_wordOf_69 : decode cX5_wordOf 69 = .ok (.iload 4, 2) := by decide +kernel
theorem dX5_wordOf_71 : decode cX5_wordOf 71 = .ok (.iadd, 1) := by decide +kernel
theorem dX5_wordOf_72 : decode cX5_wordOf 72 = .ok (.iaload, 1) := by decide +kernel
theorem dX5_wordOf_73 : decode cX5_wordOf 73 = .ok (.iload 6, 2) := by decide +kernel
theorem dX5_wordOf_75 : decode cX5_wordOf 75 = .ok (.if_icmp .ne 7, 3) := by decide +kernel
theorem dX5_wordOf_78 : decode cX5_wordOf 78 = .ok (.iconst 1, 1) := by decide +kernel
theorem dX5_wordOf_79 : decode cX5_wordOf 79 = .ok (.goto 4, 3) := by decide +kernel
theorem dX5_wordOf_82 : decode cX5_wordOf 82 = .ok (.iconst 0, 1) := by decide +kernel
theorem dX5_wordOf_83 : decode cX5_wordOf 83 = .ok (.istore 7, 2) := by decide +kernel
theorem dX5_wordOf_85 : decode cX5_wordOf 85 = .ok (.iload 7, 2) := by decide +kernel
theorem dX5_wordOf_87 : decode cX5_wordOf 87 = .ok (.ifCond .eq 10, 3) := by decide +kernel
theorem dX5_wordOf_90 : decode cX5_wordOf 90 = .ok (.iload 4, 2) := by decide +kernel
theorem dX5_wordOf_92 : decode cX5_wordOf 92 = .ok (.iconst 1, 1) := by decide +kernel
theorem dX5_wordOf_93 : decode cX5_wordOf 93 = .ok (.iadd, 1) := by decide +kernel
theorem dX5_wordOf_94 : decode cX5_wordOf 94 = .ok (.goto 4, 3) := by decide +kernel
theorem dX5_wordOf_97 : decode cX5_wordOf 97 = .ok (.iconst (-1), 1) := by decide +kernel
theorem dX5_wordOf_98 : decode cX5_wordOf 98 = .ok (.istore 4, 2) := by decide +kernel
theorem dX5_wordOf_100 : decode cX5_wordOf 100 = .ok (.goto 19, 3) := by decide +kernel
theorem dX5_wordOf_103 : decode cX5_wordOf 103 = .ok (.iload 4, 2) := by decide +kernel
theorem dX5_wordOf_105 : decode cX5_wordOf 105 = .ok (.iload_n 2, 1) := by decide +kernel
theorem dX5_wordOf_106 : decode cX5_wordOf 106 = .ok (.iload_n 1, 1) := by decide +kernel
theorem dX5_wordOf_107 : decode cX5_wordOf 107 = .ok (.isub, 1) := by decide +kernel
theorem dX5_wordOf_108 : decode cX5_wordOf 108 = .ok (.if_icmp .ne 5, 3) := by decide +kernel
theorem dX5_wordOf_111 : decode cX5_wordOf 111 = .ok (.iload_n 3, 1) := by decide +kernel
theorem dX5_wordOf_112 : decode cX5_wordOf 112 = .ok (.ireturn, 1) := by decide +kernel
theorem dX5_wordOf_113 : decode cX5_wordOf 113 = .ok (.iinc 3 1, 3) := by decide +kernel
theorem dX5_wordOf_116 : decode cX5_wordOf 116 = .ok (.iconst 0, 1) := by decide +kernel
theorem dX5_wordOf_117 : decode cX5_wordOf 117 = .ok (.istore 4, 2) := by decide +kernel
theorem dX5_wordOf_119 : decode cX5_wordOf 119 = .ok (.iinc 5 1, 3) := by decide +kernel
theorem dX5_wordOf_122 : decode cX5_wordOf 122 = .ok (.goto (-112), 3) := by decide +kernel
theorem dX5_wordOf_125 : decode cX5_wordOf 125 = .ok (.bipush (-3), 2) := by decide +kernel
theorem dX5_wordOf_127 : decode cX5_wordOf 127 = .ok (.ireturn, 1) := by decide +kernel
theorem dX5_scan_0 : decode cX5_scan 0 = .ok (.iconst 0, 1) := by decide +kernel
theorem dX5_scan_1 : decode cX5_scan 1 = .ok (.istore_n 1, 1) := by decide +kernel
theorem dX5_scan_2 : decode cX5_scan 2 = .ok (.iconst 0, 1) := by decide +kernel
theorem dX5_scan_3 : decode cX5_scan 3 = .ok (.istore_n 2, 1) := by decide +kernel
theorem dX5_scan_4 : decode cX5_scan 4 = .ok (.iload_n 2, 1) := by decide +kernel
theorem dX5_scan_5 : decode cX5_scan 5 = .ok (.aload_n 0, 1) := by decide +kernel
theorem dX5_scan_6 : decode cX5_scan 6 = .ok (.getfield 33, 3) := by decide +kernel
theorem dX5_scan_9 : decode cX5_scan 9 = .ok (.if_icmp .ge 154, 3) := by decide +kernel
theorem dX5_scan_12 : decode cX5_scan 12 = .ok (.aload_n 0, 1) := by decide +kernel
theorem dX5_scan_13 : decode cX5_scan 13 = .ok (.getfield 11, 3) := by decide +kernel
theorem dX5_scan_16 : decode cX5_scan 16 = .ok (.iload_n 2, 1) := by decide +kernel
theorem dX5_scan_17 : decode cX5_scan 17 = .ok (.iaload, 1) := by decide +kernel
theorem dX5_scan_18 : decode cX5_scan 18 = .ok (.istore_n 3, 1) := by decide +kernel
theorem dX5_scan_19 : decode cX5_scan 19 = .ok (.iload_n 2, 1) := by decide +kernel
theorem dX5_scan_20 : decode cX5_scan 20 = .ok (.iconst 1, 1) := by decide +kernel
theorem dX5_scan_21 : decode cX5_scan 21 = .ok (.iadd, 1) := by decide +kernel
theorem dX5_scan_22 : decode cX5_scan 22 = .ok (.istore 4, 2) := by decide +kernel
theorem dX5_scan_24 : decode cX5_scan 24 = .ok (.iload_n 3, 1) := by decide +kernel
theorem dX5_scan_25 : decode cX5_scan 25 = .ok (.invokestatic 72, 3) := by decide +kernel
theorem dX5_scan_28 : decode cX5_scan 28 = .ok (.ifCond .eq 47, 3) := by decide +kernel
theorem dX5_scan_31 : decode cX5_scan 31 = .ok (.iload 4, 2) := by decide +kernel
theorem dX5_scan_33 : decode cX5_scan 33 = .ok (.aload_n 0, 1) := by decide +kernel
theorem dX5_scan_34 : decode cX5_scan 34 = .ok (.getfield 33, 3) := by decide +kernel
theorem dX5_scan_37 : decode cX5_scan 37 = .ok (.if_icmp .ge 22, 3) := by decide +kernel
theorem dX5_scan_40 : decode cX5_scan 40 = .ok (.aload_n 0, 1) := by decide +kernel
theorem dX5_scan_41 : decode cX5_scan 41 = .ok (.getfield 11, 3) := by decide +kernel
theorem dX5_scan_44 : decode cX5_scan 44 = .ok (.iload 4, 2) := by decide +kernel
theorem dX5_scan_46 : decode cX5_scan 46 = .ok (.iaload, 1) := by decide +kernel
theorem dX5_scan_47 : decode cX5_scan 47 = .ok (.invokestatic 72, 3) := by decide +kernel
theorem dX5_scan_50 : decode cX5_scan 50 = .ok (.ifCond .eq 9, 3) := by decide +kernel
theorem dX5_scan_53 : decode cX5_scan 53 = .ok (.iinc 4 1, 3) := by decide +kernel
theorem dX5_scan_56 : decode cX5_scan 56 = .ok (.goto (-25), 3) := by decide +kernel
theorem dX5_scan_59 : decode cX5_scan 59 = .ok (.aload_n 0, 1) := by decide +kernel
theorem dX5_scan_60 : decode cX5_scan 60 = .ok (.getfield 15, 3) := by decide +kernel
theorem dX5_scan_63 : decode cX5_scan 63 = .ok (.iload_n 1, 1) := by decide +kernel
theorem dX5_scan_64 : decode cX5_scan 64 = .ok (.aload_n 0, 1) := by decide +kernel
theorem dX5_scan_65 : decode cX5_scan 65 = .ok (.iload_n 2, 1) := by decide +kernel
theorem dX5_scan_66 : decode cX5_scan 66 = .ok (.iload 4, 2) := by decide +kernel
theorem dX5_scan_68 : decode cX5_scan 68 = .ok (.invokevirtual 76, 3) := by decide +kernel
theorem dX5_scan_71 : decode cX5_scan 71 = .ok (.iastore, 1) := by decide +kernel
theorem dX5_scan_72 : decode cX5_scan 72 = .ok (.goto 69, 3) := by decide +kernel
theorem dX5_scan_75 : decode cX5_scan 75 = .ok (.iload_n 3, 1) := by decide +kernel
theorem dX5_scan_76 : decode cX5_scan 76 = .ok (.invokestatic 80, 3) := by decide +kernel
theorem dX5_scan_79 : decode cX5_scan 79 = .ok (.ifCond .eq 55, 3) := by decide +kernel
theorem dX5_scan_82 : decode cX5_scan 82 = .ok (.iload 4, 2) := by decide +kernel
theorem dX5_scan_84 : decode cX5_scan 84 = .ok (.aload_n 0, 1) := by decide +kernel
theorem dX5_scan_85 : decode cX5_scan 85 = .ok (.getfield 33, 3) := by decide +kernel
theorem dX5_scan_88 : decode cX5_scan 88 = .ok (.if_icmp .ge 22, 3) := by decide +kernel
theorem dX5_scan_91 : decode cX5_scan 91 = .ok (.aload_n 0, 1) := by decide +kernel
theorem dX5_scan_92 : decode cX5_scan 92 = .ok (.getfield 11, 3) := by decide +kernel
theorem dX5_scan_95 : decode cX5_scan 95 = .ok (.iload 4, 2) := by decide +kernel
theorem dX5_scan_97 : decode cX5_scan 97 = .ok (.iaload, 1) := by decide +kernel
theorem dX5_scan_98 : decode cX5_scan 98 = .ok (.invokestatic 80, 3) := by decide +kernel
theorem dX5_scan_101 : decode cX5_scan 101 = .ok (.ifCond .eq 9, 3) := by decide +kernel
theorem dX5_scan_104 : decode cX5_scan 104 = .ok (.iinc 4 1, 3) := by decide +kernel
theorem dX5_scan_107 : decode cX5_scan 107 = .ok (.goto (-25), 3) := by decide +kernel
theorem dX5_scan_110 : decode cX5_scan 110 = .ok (.aload_n 0, 1) := by decide +kernel
theorem dX5_scan_111 : decode cX5_scan 111 = .ok (.getfield 15, 3) := by decide +kernel
theorem dX5_scan_114 : decode cX5_scan 114 = .ok (.iload_n 1, 1) := by decide +kernel
theorem dX5_scan_115 : decode cX5_scan 115 = .ok (.bipush (-2), 2) := by decide +kernel
theorem dX5_scan_117 : decode cX5_scan 117 = .ok (.iastore, 1) := by decide +kernel
theorem dX5_scan_118 : decode cX5_scan 118 = .ok (.aload_n 0, 1) := by decide +kernel
theorem dX5_scan_119 : decode cX5_scan 119 = .ok (.getfield 18, 3) := by decide +kernel
theorem dX5_scan_122 : decode cX5_scan 122 = .ok (.iload_n 1, 1) := by decide +kernel
theorem dX5_scan_123 : decode cX5_scan 123 = .ok (.aload_n 0, 1) := by decide +kernel
theorem dX5_scan_124 : decode cX5_scan 124 = .ok (.iload_n 2, 1) := by decide +kernel
theorem dX5_scan_125 : decode cX5_scan 125 = .ok (.iload 4, 2) := by decide +kernel
theorem dX5_scan_127 : decode cX5_scan 127 = .ok (.invokevirtual 83, 3) := by decide +kernel
theorem dX5_scan_130 : decode cX5_scan 130 = .ok (.iastore, 1) := by decide +kernel
theorem dX5_scan_131 : decode cX5_scan 131 = .ok (.goto 10, 3) := by decide +kernel
theorem dX5_scan_134 : decode cX5_scan 134 = .ok (.aload_n 0, 1) := by decide +kernel
theorem dX5_scan_135 : decode cX5_scan 135 = .ok (.getfield 15, 3) := by decide +kernel
theorem dX5_scan_138 : decode cX5_scan 138 = .ok (.iload_n 1, 1) := by decide +kernel
theorem dX5_scan_139 : decode cX5_scan 139 = .ok (.iload_n 3, 1) := by decide +kernel
theorem dX5_scan_140 : decode cX5_scan 140 = .ok (.iastore, 1) := by decide +kernel
theorem dX5_scan_141 : decode cX5_scan 141 = .ok (.aload_n 0, 1) := by decide +kernel
theorem dX5_scan_142 : decode cX5_scan 142 = .ok (.getfield 21, 3) := by decide +kernel
theorem dX5_scan_145 : decode cX5_scan 145 = .ok (.iload_n 1, 1) := by decide +kernel
theorem dX5_scan_146 : decode cX5_scan 146 = .ok (.iload_n 2, 1) := by decide +kernel
theorem dX5_scan_147 : decode cX5_scan 147 = .ok (.iastore, 1) := by decide +kernel
theorem dX5_scan_148 : decode cX5_scan 148 = .ok (.iload_n 3, 1) := by decide +kernel
theorem dX5_scan_149 : decode cX5_scan 149 = .ok (.bipush 32, 2) := by decide +kernel
theorem dX5_scan_151 : decode cX5_scan 151 = .ok (.if_icmp .eq 6, 3) := by decide +kernel
theorem dX5_scan_154 : decode cX5_scan 154 = .ok (.iinc 1 1, 3) := by decide +kernel
theorem dX5_scan_157 : decode cX5_scan 157 = .ok (.iload 4, 2) := by decide +kernel
theorem dX5_scan_159 : decode cX5_scan 159 = .ok (.istore_n 2, 1) := by decide +kernel
theorem dX5_scan_160 : decode cX5_scan 160 = .ok (.goto (-156), 3) := by decide +kernel
theorem dX5_scan_163 : decode cX5_scan 163 = .ok (.aload_n 0, 1) := by decide +kernel
theorem dX5_scan_164 : decode cX5_scan 164 = .ok (.getfield 15, 3) := by decide +kernel
theorem dX5_scan_167 : decode cX5_scan 167 = .ok (.iload_n 1, 1) := by decide +kernel
theorem dX5_scan_168 : decode cX5_scan 168 = .ok (.iconst (-1), 1) := by decide +kernel
theorem dX5_scan_169 : decode cX5_scan 169 = .ok (.iastore, 1) := by decide +kernel
theorem dX5_scan_170 : decode cX5_scan 170 = .ok (.aload_n 0, 1) := by decide +kernel
theorem dX5_scan_171 : decode cX5_scan 171 = .ok (.getfield 21, 3) := by decide +kernel
theorem dX5_scan_174 : decode cX5_scan 174 = .ok (.iload_n 1, 1) := by decide +kernel
theorem dX5_scan_175 : decode cX5_scan 175 = .ok (.aload_n 0, 1) := by decide +kernel
theorem dX5_scan_176 : decode cX5_scan 176 = .ok (.getfield 33, 3) := by decide +kernel
theorem dX5_scan_179 : decode cX5_scan 179 = .ok (.iastore, 1) := by decide +kernel
theorem dX5_scan_180 : decode cX5_scan 180 = .ok (.return_, 1) := by decide +kernel
theorem dX8_empty_0 : decode cX8_empty 0 = .ok (.aload_n 0, 1) := by decide +kernel
theorem dX8_empty_1 : decode cX8_empty 1 = .ok (.iconst 0, 1) := by decide +kernel
theorem dX8_empty_2 : decode cX8_empty 2 = .ok (.putfield 25, 3) := by decide +kernel
theorem dX8_empty_5 : decode cX8_empty 5 = .ok (.aload_n 0, 1) := by decide +kernel
theorem dX8_empty_6 : decode cX8_empty 6 = .ok (.iconst 0, 1) := by decide +kernel
theorem dX8_empty_7 : decode cX8_empty 7 = .ok (.putfield 29, 3) := by decide +kernel
theorem dX8_empty_10 : decode cX8_empty 10 = .ok (.return_, 1) := by decide +kernel
theorem dX5_reads_0 : decode cX5_reads 0 = .ok (.aload_n 0, 1) := by decide +kernel
theorem dX5_reads_1 : decode cX5_reads 1 = .ok (.iload_n 1, 1) := by decide +kernel
theorem dX5_reads_2 : decode cX5_reads 2 = .ok (.putfield 40, 3) := by decide +kernel
theorem dX5_reads_5 : decode cX5_reads 5 = .ok (.aload_n 0, 1) := by decide +kernel
theorem dX5_reads_6 : decode cX5_reads 6 = .ok (.iconst 0, 1) := by decide +kernel
theorem dX5_reads_7 : decode cX5_reads 7 = .ok (.putfield 44, 3) := by decide +kernel
theorem dX5_reads_10 : decode cX5_reads 10 = .ok (.aload_n 0, 1) := by decide +kernel
theorem dX5_reads_11 : decode cX5_reads 11 = .ok (.iconst (-1), 1) := by decide +kernel
theorem dX5_reads_12 : decode cX5_reads 12 = .ok (.putfield 37, 3) := by decide +kernel
theorem dX5_reads_15 : decode cX5_reads 15 = .ok (.aload_n 0, 1) := by decide +kernel
theorem dX5_reads_16 : decode cX5_reads 16 = .ok (.getfield 29, 3) := by decide +kernel
theorem dX5_reads_19 : decode cX5_reads 19 = .ok (.invokevirtual 53, 3) := by decide +kernel
theorem dX5_reads_22 : decode cX5_reads 22 = .ok (.aload_n 0, 1) := by decide +kernel
theorem dX5_reads_23 : decode cX5_reads 23 = .ok (.invokevirtual 56, 3) := by decide +kernel
theorem dX5_reads_26 : decode cX5_reads 26 = .ok (.aload_n 0, 1) := by decide +kernel
theorem dX5_reads_27 : decode cX5_reads 27 = .ok (.iconst 0, 1) := by decide +kernel
theorem dX5_reads_28 : decode cX5_reads 28 = .ok (.putfield 47, 3) := by decide +kernel
theorem dX5_reads_31 : decode cX5_reads 31 = .ok (.aload_n 0, 1) := by decide +kernel
theorem dX5_reads_32 : decode cX5_reads 32 = .ok (.aload_n 0, 1) := by decide +kernel
theorem dX5_reads_33 : decode cX5_reads 33 = .ok (.getfield 15, 3) := by decide +kernel
theorem dX5_reads_36 : decode cX5_reads 36 = .ok (.iconst 0, 1) := by decide +kernel
theorem dX5_reads_37 : decode cX5_reads 37 = .ok (.iaload, 1) := by decide +kernel
theorem dX5_reads_38 : decode cX5_reads 38 = .ok (.putfield 50, 3) := by decide +kernel
theorem dX5_reads_41 : decode cX5_reads 41 = .ok (.aload_n 0, 1) := by decide +kernel
theorem dX5_reads_42 : decode cX5_reads 42 = .ok (.getfield 40, 3) := by decide +kernel
theorem dX5_reads_45 : decode cX5_reads 45 = .ok (.ifCond .eq 10, 3) := by decide +kernel
theorem dX5_reads_48 : decode cX5_reads 48 = .ok (.aload_n 0, 1) := by decide +kernel
theorem dX5_reads_49 : decode cX5_reads 49 = .ok (.invokevirtual 59, 3) := by decide +kernel
theorem dX5_reads_52 : decode cX5_reads 52 = .ok (.goto 7, 3) := by decide +kernel
theorem dX5_reads_55 : decode cX5_reads 55 = .ok (.aload_n 0, 1) := by decide +kernel
theorem dX5_reads_56 : decode cX5_reads 56 = .ok (.invokevirtual 63, 3) := by decide +kernel
theorem dX5_reads_59 : decode cX5_reads 59 = .ok (.istore_n 2, 1) := by decide +kernel
theorem dX5_reads_60 : decode cX5_reads 60 = .ok (.iconst 1, 1) := by decide +kernel
theorem dX5_reads_61 : decode cX5_reads 61 = .ok (.istore_n 3, 1) := by decide +kernel
theorem dX5_reads_62 : decode cX5_reads 62 = .ok (.iload_n 3, 1) := by decide +kernel
theorem dX5_reads_63 : decode cX5_reads 63 = .ok (.bipush 12, 2) := by decide +kernel
theorem dX5_reads_65 : decode cX5_reads 65 = .ok (.if_icmp .gt 59, 3) := by decide +kernel
theorem dX5_reads_68 : decode cX5_reads 68 = .ok (.iload_n 2, 1) := by decide +kernel
theorem dX5_reads_69 : decode cX5_reads 69 = .ok (.ifCond .eq 55, 3) := by decide +kernel
theorem dX5_reads_72 : decode cX5_reads 72 = .ok (.aload_n 0, 1) := by decide +kernel
theorem dX5_reads_73 : decode cX5_reads 73 = .ok (.getfield 50, 3) := by decide +kernel
theorem dX5_reads_76 : decode cX5_reads 76 = .ok (.bipush 59, 2) := by decide +kernel
theorem dX5_reads_78 : decode cX5_reads 78 = .ok (.if_icmp .ne 46, 3) := by decide +kernel
theorem dX5_reads_81 : decode cX5_reads 81 = .ok (.aload_n 0, 1) := by decide +kernel
theorem dX5_reads_82 : decode cX5_reads 82 = .ok (.invokevirtual 66, 3) := by decide +kernel
theorem dX5_reads_85 : decode cX5_reads 85 = .ok (.iload_n 3, 1) := by decide +kernel
theorem dX5_reads_86 : decode cX5_reads 86 = .ok (.bipush 12, 2) := by decide +kernel
theorem dX5_reads_88 : decode cX5_reads 88 = .ok (.if_icmp .ne 11, 3) := by decide +kernel
theorem dX5_reads_91 : decode cX5_reads 91 = .ok (.aload_n 0, 1) := by decide +kernel
theorem dX5_reads_92 : decode cX5_reads 92 = .ok (.invokevirtual 69, 3) := by decide +kernel
theorem dX5_reads_95 : decode cX5_reads 95 = .ok (.istore_n 2, 1) := by decide +kernel
theorem dX5_reads_96 : decode cX5_reads 96 = .ok (.goto 22, 3) := by decide +kernel
theorem dX5_reads_99 : decode cX5_reads 99 = .ok (.aload_n 0, 1) := by decide +kernel
theorem dX5_reads_100 : decode cX5_reads 100 = .ok (.getfield 40, 3) := by decide +kernel
theorem dX5_reads_103 : decode cX5_reads 103 = .ok (.ifCond .eq 10, 3) := by decide +kernel
theorem dX5_reads_106 : decode cX5_reads 106 = .ok (.aload_n 0, 1) := by decide +kernel
theorem dX5_reads_107 : decode cX5_reads 107 = .ok (.invokevirtual 59, 3) := by decide +kernel
theorem dX5_reads_110 : decode cX5_reads 110 = .ok (.goto 7, 3) := by decide +kernel
theorem dX5_reads_113 : decode cX5_reads 113 = .ok (.aload_n 0, 1) := by decide +kernel
theorem dX5_reads_114 : decode cX5_reads 114 = .ok (.invokevirtual 63, 3) := by decide +kernel
theorem dX5_reads_117 : decode cX5_reads 117 = .ok (.istore_n 2, 1) := by decide +kernel
theorem dX5_reads_118 : decode cX5_reads 118 = .ok (.iinc 3 1, 3) := by decide +kernel
theorem dX5_reads_121 : decode cX5_reads 121 = .ok (.goto (-59), 3) := by decide +kernel
theorem dX5_reads_124 : decode cX5_reads 124 = .ok (.iload_n 2, 1) := by decide +kernel
theorem dX5_reads_125 : decode cX5_reads 125 = .ok (.ifCond .eq 22, 3) := by decide +kernel
theorem dX5_reads_128 : decode cX5_reads 128 = .ok (.aload_n 0, 1) := by decide +kernel
theorem dX5_reads_129 : decode cX5_reads 129 = .ok (.getfield 50, 3) := by decide +kernel
theorem dX5_reads_132 : decode cX5_reads 132 = .ok (.iconst (-1), 1) := by decide +kernel
theorem dX5_reads_133 : decode cX5_reads 133 = .ok (.if_icmp .eq 10, 3) := by decide +kernel
theorem dX5_reads_136 : decode cX5_reads 136 = .ok (.aload_n 0, 1) := by decide +kernel
theorem dX5_reads_137 : decode cX5_reads 137 = .ok (.invokevirtual 69, 3) := by decide +kernel
theorem dX5_reads_140 : decode cX5_reads 140 = .ok (.ifCond .eq 7, 3) := by decide +kernel
theorem dX5_reads_143 : decode cX5_reads 143 = .ok (.iconst 1, 1) := by decide +kernel
theorem dX5_reads_144 : decode cX5_reads 144 = .ok (.goto 4, 3) := by decide +kernel
theorem dX5_reads_147 : decode cX5_reads 147 = .ok (.iconst 0, 1) := by decide +kernel
theorem dX5_reads_148 : decode cX5_reads 148 = .ok (.ireturn, 1) := by decide +kernel
theorem dX5_text_0 : decode cX5_text 0 = .ok (.aload_n 0, 1) := by decide +kernel
theorem dX5_text_1 : decode cX5_text 1 = .ok (.getfield 29, 3) := by decide +kernel
theorem dX5_text_4 : decode cX5_text 4 = .ok (.areturn, 1) := by decide +kernel
theorem dX11_orders_0 : decode cX11_orders 0 = .ok (.aload_n 0, 1) := by decide +kernel
theorem dX11_orders_1 : decode cX11_orders 1 = .ok (.getfield 32, 3) := by decide +kernel
theorem dX11_orders_4 : decode cX11_orders 4 = .ok (.iconst 0, 1) := by decide +kernel
theorem dX11_orders_5 : decode cX11_orders 5 = .ok (.invokevirtual 180, 3) := by decide +kernel
theorem dX11_orders_8 : decode cX11_orders 8 = .ok (.istore_n 1, 1) := by decide +kernel
theorem dX11_orders_9 : decode cX11_orders 9 = .ok (.aload_n 0, 1) := by decide +kernel
theorem dX11_orders_10 : decode cX11_orders 10 = .ok (.getfield 32, 3) := by decide +kernel
theorem dX11_orders_13 : decode cX11_orders 13 = .ok (.iconst 0, 1) := by decide +kernel
theorem dX11_orders_14 : decode cX11_orders 14 = .ok (.invokevirtual 171, 3) := by decide +kernel
theorem dX11_orders_17 : decode cX11_orders 17 = .ok (.iload_n 1, 1) := by decide +kernel
theorem dX11_orders_18 : decode cX11_orders 18 = .ok (.ifCond .ne 17, 3) := by decide +kernel
theorem dX11_orders_21 : decode cX11_orders 21 = .ok (.aload_n 0, 1) := by decide +kernel
theorem dX11_orders_22 : decode cX11_orders 22 = .ok (.getfield 57, 3) := by decide +kernel
theorem dX11_orders_25 : decode cX11_orders 25 = .ok (.invokevirtual 197, 3) := by decide +kernel
theorem dX11_orders_28 : decode cX11_orders 28 = .ok (.aload_n 0, 1) := by decide +kernel
theorem dX11_orders_29 : decode cX11_orders 29 = .ok (.bipush (-6), 2) := by decide +kernel
theorem dX11_orders_31 : decode cX11_orders 31 = .ok (.invokevirtual 104, 3) := by decide +kernel
theorem dX11_orders_34 : decode cX11_orders 34 = .ok (.ireturn, 1) := by decide +kernel
theorem dX11_orders_35 : decode cX11_orders 35 = .ok (.aload_n 0, 1) := by decide +kernel
theorem dX11_orders_36 : decode cX11_orders 36 = .ok (.getfield 57, 3) := by decide +kernel
theorem dX11_orders_39 : decode cX11_orders 39 = .ok (.aload_n 0, 1) := by decide +kernel
theorem dX11_orders_40 : decode cX11_orders 40 = .ok (.getfield 32, 3) := by decide +kernel
theorem dX11_orders_43 : decode cX11_orders 43 = .ok (.invokevirtual 184, 3) := by decide +kernel
theorem dX11_orders_46 : decode cX11_orders 46 = .ok (.aload_n 0, 1) := by decide +kernel
theorem dX11_orders_47 : decode cX11_orders 47 = .ok (.getfield 10, 3) := by decide +kernel
theorem dX11_orders_50 : decode cX11_orders 50 = .ok (.aload_n 0, 1) := by decide +kernel
theorem dX11_orders_51 : decode cX11_orders 51 = .ok (.getfield 25, 3) := by decide +kernel
theorem dX11_orders_54 : decode cX11_orders 54 = .ok (.invokevirtual 200, 3) := by decide +kernel
theorem dX11_orders_57 : decode cX11_orders 57 = .ok (.istore_n 2, 1) := by decide +kernel
theorem dX11_orders_58 : decode cX11_orders 58 = .ok (.iload_n 2, 1) := by decide +kernel
theorem dX11_orders_59 : decode cX11_orders 59 = .ok (.ifCond .ge 12, 3) := by decide +kernel
theorem dX11_orders_62 : decode cX11_orders 62 = .ok (.aload_n 0, 1) := by decide +kernel
theorem dX11_orders_63 : decode cX11_orders 63 = .ok (.bipush (-3), 2) := by decide +kernel
theorem dX11_orders_65 : decode cX11_orders 65 = .ok (.invokevirtual 104, 3) := by decide +kernel
theorem dX11_orders_68 : decode cX11_orders 68 = .ok (.goto 8, 3) := by decide +kernel
theorem dX11_orders_71 : decode cX11_orders 71 = .ok (.aload_n 0, 1) := by decide +kernel
theorem dX11_orders_72 : decode cX11_orders 72 = .ok (.iload_n 2, 1) := by decide +kernel
theorem dX11_orders_73 : decode cX11_orders 73 = .ok (.invokevirtual 118, 3) := by decide +kernel
theorem dX11_orders_76 : decode cX11_orders 76 = .ok (.ireturn, 1) := by decide +kernel
theorem dX11_owed_0 : decode cX11_owed 0 = .ok (.aload_n 0, 1) := by decide +kernel
theorem dX11_owed_1 : decode cX11_owed 1 = .ok (.getfield 10, 3) := by decide +kernel
theorem dX11_owed_4 : decode cX11_owed 4 = .ok (.iload_n 1, 1) := by decide +kernel
theorem dX11_owed_5 : decode cX11_owed 5 = .ok (.invokevirtual 121, 3) := by decide +kernel
theorem dX11_owed_8 : decode cX11_owed 8 = .ok (.ifCond .ne 5, 3) := by decide +kernel
theorem dX11_owed_11 : decode cX11_owed 11 = .ok (.iconst (-1), 1) := by decide +kernel
theorem dX11_owed_12 : decode cX11_owed 12 = .ok (.ireturn, 1) := by decide +kernel
theorem dX11_owed_13 : decode cX11_owed 13 = .ok (.iload_n 2, 1) := by decide +kernel
theorem dX11_owed_14 : decode cX11_owed 14 = .ok (.lookupswitch 44 #[(0, 26), (1, 35)], 26) := by decide +kernel
theorem dX11_owed_40 : decode cX11_owed 40 = .ok (.aload_n 0, 1) := by decide +kernel
theorem dX11_owed_41 : decode cX11_owed 41 = .ok (.getfield 10, 3) := by decide +kernel
theorem dX11_owed_44 : decode cX11_owed 44 = .ok (.iload_n 1, 1) := by decide +kernel
theorem dX11_owed_45 : decode cX11_owed 45 = .ok (.invokevirtual 248, 3) := by decide +kernel
theorem dX11_owed_48 : decode cX11_owed 48 = .ok (.ireturn, 1) := by decide +kernel
theorem dX11_owed_49 : decode cX11_owed 49 = .ok (.aload_n 0, 1) := by decide +kernel
theorem dX11_owed_50 : decode cX11_owed 50 = .ok (.getfield 10, 3) := by decide +kernel
theorem dX11_owed_53 : decode cX11_owed 53 = .ok (.iload_n 1, 1) := by decide +kernel
theorem dX11_owed_54 : decode cX11_owed 54 = .ok (.invokevirtual 251, 3) := by decide +kernel
theorem dX11_owed_57 : decode cX11_owed 57 = .ok (.ireturn, 1) := by decide +kernel
theorem dX11_owed_58 : decode cX11_owed 58 = .ok (.iconst (-1), 1) := by decide +kernel
theorem dX11_owed_59 : decode cX11_owed 59 = .ok (.ireturn, 1) := by decide +kernel
theorem dX11_put_0 : decode cX11_put 0 = .ok (.iload_n 2, 1) := by decide +kernel
theorem dX11_put_1 : decode cX11_put 1 = .ok (.iconst 0, 1) := by decide +kernel
theorem dX11_put_2 : decode cX11_put 2 = .ok (.iconst 1, 1) := by decide +kernel
theorem dX11_put_3 : decode cX11_put 3 = .ok (.invokestatic 100, 3) := by decide +kernel
theorem dX11_put_6 : decode cX11_put 6 = .ok (.ifCond .eq 23, 3) := by decide +kernel
theorem dX11_put_9 : decode cX11_put 9 = .ok (.iload_n 3, 1) := by decide +kernel
theorem dX11_put_10 : decode cX11_put 10 = .ok (.iconst 0, 1) := by decide +kernel
theorem dX11_put_11 : decode cX11_put 11 = .ok (.iload_n 2, 1) := by decide +kernel
theorem dX11_put_12 : decode cX11_put 12 = .ok (.ifCond .ne 9, 3) := by decide +kernel
theorem dX11_put_15 : decode cX11_put 15 = .ok (.sipush 9999, 3) := by decide +kernel
theorem dX11_put_18 : decode cX11_put 18 = .ok (.goto 5, 3) := by decide +kernel
theorem dX11_put_21 : decode cX11_put 21 = .ok (.bipush 99, 2) := by decide +kernel
theorem dX11_put_23 : decode cX11_put 23 = .ok (.invokestatic 100, 3) := by decide +kernel
theorem dX11_put_26 : decode cX11_put 26 = .ok (.ifCond .ne 9, 3) := by decide +kernel
theorem dX11_put_29 : decode cX11_put 29 = .ok (.aload_n 0, 1) := by decide +kernel
theorem dX11_put_30 : decode cX11_put 30 = .ok (.iconst (-1), 1) := by decide +kernel
theorem dX11_put_31 : decode cX11_put 31 = .ok (.invokevirtual 104, 3) := by decide +kernel
theorem dX11_put_34 : decode cX11_put 34 = .ok (.ireturn, 1) := by decide +kernel
theorem dX11_put_35 : decode cX11_put 35 = .ok (.aload_n 0, 1) := by decide +kernel
theorem dX11_put_36 : decode cX11_put 36 = .ok (.getfield 10, 3) := by decide +kernel
theorem dX11_put_39 : decode cX11_put 39 = .ok (.iload_n 1, 1) := by decide +kernel
theorem dX11_put_40 : decode cX11_put 40 = .ok (.invokevirtual 121, 3) := by decide +kernel
theorem dX11_put_43 : decode cX11_put 43 = .ok (.ifCond .ne 10, 3) := by decide +kernel
theorem dX11_put_46 : decode cX11_put 46 = .ok (.aload_n 0, 1) := by decide +kernel
theorem dX11_put_47 : decode cX11_put 47 = .ok (.bipush (-2), 2) := by decide +kernel
theorem dX11_put_49 : decode cX11_put 49 = .ok (.invokevirtual 104, 3) := by decide +kernel
theorem dX11_put_52 : decode cX11_put 52 = .ok (.ireturn, 1) := by decide +kernel
theorem dX11_put_53 : decode cX11_put 53 = .ok (.aload_n 0, 1) := by decide +kernel
theorem dX11_put_54 : decode cX11_put 54 = .ok (.getfield 10, 3) := by decide +kernel
theorem dX11_put_57 : decode cX11_put 57 = .ok (.iload_n 1, 1) := by decide +kernel
theorem dX11_put_58 : decode cX11_put 58 = .ok (.iload_n 2, 1) := by decide +kernel
theorem dX11_put_59 : decode cX11_put 59 = .ok (.invokevirtual 135, 3) := by decide +kernel
theorem dX11_put_62 : decode cX11_put 62 = .ok (.istore 4, 2) := by decide +kernel
theorem dX11_put_64 : decode cX11_put 64 = .ok (.aload_n 0, 1) := by decide +kernel
theorem dX11_put_65 : decode cX11_put 65 = .ok (.getfield 10, 3) := by decide +kernel
theorem dX11_put_68 : decode cX11_put 68 = .ok (.iload_n 1, 1) := by decide +kernel
theorem dX11_put_69 : decode cX11_put 69 = .ok (.iload_n 2, 1) := by decide +kernel
theorem dX11_put_70 : decode cX11_put 70 = .ok (.iload_n 3, 1) := by decide +kernel
theorem dX11_put_71 : decode cX11_put 71 = .ok (.invokevirtual 138, 3) := by decide +kernel
theorem dX11_put_74 : decode cX11_put 74 = .ok (.aload_n 0, 1) := by decide +kernel
theorem dX11_put_75 : decode cX11_put 75 = .ok (.getfield 25, 3) := by decide +kernel
theorem dX11_put_78 : decode cX11_put 78 = .ok (.invokevirtual 111, 3) := by decide +kernel
theorem dX11_put_81 : decode cX11_put 81 = .ok (.aload_n 0, 1) := by decide +kernel
theorem dX11_put_82 : decode cX11_put 82 = .ok (.iload 4, 2) := by decide +kernel
theorem dX11_put_84 : decode cX11_put 84 = .ok (.invokevirtual 118, 3) := by decide +kernel
theorem dX11_put_87 : decode cX11_put 87 = .ok (.ireturn, 1) := by decide +kernel
theorem dX9_closes_0 : decode cX9_closes 0 = .ok (.aload_n 0, 1) := by decide +kernel
theorem dX9_closes_1 : decode cX9_closes 1 = .ok (.getfield 18, 3) := by decide +kernel
theorem dX9_closes_4 : decode cX9_closes 4 = .ok (.iload_n 2, 1) := by decide +kernel
theorem dX9_closes_5 : decode cX9_closes 5 = .ok (.iaload, 1) := by decide +kernel
theorem dX9_closes_6 : decode cX9_closes 6 = .ok (.istore 5, 2) := by decide +kernel
theorem dX9_closes_8 : decode cX9_closes 8 = .ok (.iload_n 3, 1) := by decide +kernel
theorem dX9_closes_9 : decode cX9_closes 9 = .ok (.ifCond .ne 25, 3) := by decide +kernel
theorem dX9_closes_12 : decode cX9_closes 12 = .ok (.aload_n 1, 1) := by decide +kernel
theorem dX9_closes_13 : decode cX9_closes 13 = .ok (.iload 5, 2) := by decide +kernel
theorem dX9_closes_15 : decode cX9_closes 15 = .ok (.aload_n 0, 1) := by decide +kernel
theorem dX9_closes_16 : decode cX9_closes 16 = .ok (.getfield 18, 3) := by decide +kernel
theorem dX9_closes_19 : decode cX9_closes 19 = .ok (.iconst 0, 1) := by decide +kernel
theorem dX9_closes_20 : decode cX9_closes 20 = .ok (.iaload, 1) := by decide +kernel
theorem dX9_closes_21 : decode cX9_closes 21 = .ok (.invokevirtual 88, 3) := by decide +kernel
theorem dX9_closes_24 : decode cX9_closes 24 = .ok (.iconst (-1), 1) := by decide +kernel
theorem dX9_closes_25 : decode cX9_closes 25 = .ok (.if_icmp .eq 7, 3) := by decide +kernel
theorem dX9_closes_28 : decode cX9_closes 28 = .ok (.iconst 1, 1) := by decide +kernel
theorem dX9_closes_29 : decode cX9_closes 29 = .ok (.goto 4, 3) := by decide +kernel
theorem dX9_closes_32 : decode cX9_closes 32 = .ok (.iconst 0, 1) := by decide +kernel
theorem dX9_closes_33 : decode cX9_closes 33 = .ok (.ireturn, 1) := by decide +kernel
theorem dX9_closes_34 : decode cX9_closes 34 = .ok (.iconst 0, 1) := by decide +kernel
theorem dX9_closes_35 : decode cX9_closes 35 = .ok (.istore 6, 2) := by decide +kernel
theorem dX9_closes_37 : decode cX9_closes 37 = .ok (.iload 6, 2) := by decide +kernel
theorem dX9_closes_39 : decode cX9_closes 39 = .ok (.aload_n 0, 1) := by decide +kernel
theorem dX9_closes_40 : decode cX9_closes 40 = .ok (.getfield 24, 3) := by decide +kernel
theorem dX9_closes_43 : decode cX9_closes 43 = .ok (.if_icmp .ge 72, 3) := by decide +kernel
theorem dX9_closes_46 : decode cX9_closes 46 = .ok (.iload_n 2, 1) := by decide +kernel
theorem dX9_closes_47 : decode cX9_closes 47 = .ok (.iconst 1, 1) := by decide +kernel
theorem dX9_closes_48 : decode cX9_closes 48 = .ok (.iadd, 1) := by decide +kernel
theorem dX9_closes_49 : decode cX9_closes 49 = .ok (.iload 4, 2) := by decide +kernel
theorem dX9_closes_51 : decode cX9_closes 51 = .ok (.if_icmp .ge 64, 3) := by decide +kernel
theorem dX9_closes_54 : decode cX9_closes 54 = .ok (.iload_n 3, 1) := by decide +kernel
theorem dX9_closes_55 : decode cX9_closes 55 = .ok (.iload 6, 2) := by decide +kernel
theorem dX9_closes_57 : decode cX9_closes 57 = .ok (.ishr, 1) := by decide +kernel
theorem dX9_closes_58 : decode cX9_closes 58 = .ok (.iconst 1, 1) := by decide +kernel
theorem dX9_closes_59 : decode cX9_closes 59 = .ok (.iand, 1) := by decide +kernel
theorem dX9_closes_60 : decode cX9_closes 60 = .ok (.iconst 1, 1) := by decide +kernel
theorem dX9_closes_61 : decode cX9_closes 61 = .ok (.if_icmp .ne 48, 3) := by decide +kernel
theorem dX9_closes_64 : decode cX9_closes 64 = .ok (.aload_n 1, 1) := by decide +kernel
theorem dX9_closes_65 : decode cX9_closes 65 = .ok (.iload 5, 2) := by decide +kernel
theorem dX9_closes_67 : decode cX9_closes 67 = .ok (.iload 6, 2) := by decide +kernel
theorem dX9_closes_69 : decode cX9_closes 69 = .ok (.invokevirtual 88, 3) := by decide +kernel
theorem dX9_closes_72 : decode cX9_closes 72 = .ok (.iconst (-1), 1) := by decide +kernel
theorem dX9_closes_73 : decode cX9_closes 73 = .ok (.if_icmp .eq 36, 3) := by decide +kernel
theorem dX9_closes_76 : decode cX9_closes 76 = .ok (.aload_n 0, 1) := by decide +kernel
theorem dX9_closes_77 : decode cX9_closes 77 = .ok (.getfield 18, 3) := by decide +kernel
theorem dX9_closes_80 : decode cX9_closes 80 = .ok (.iload_n 2, 1) := by decide +kernel
theorem dX9_closes_81 : decode cX9_closes 81 = .ok (.iconst 1, 1) := by decide +kernel
theorem dX9_closes_82 : decode cX9_closes 82 = .ok (.iadd, 1) := by decide +kernel
theorem dX9_closes_83 : decode cX9_closes 83 = .ok (.iload 6, 2) := by decide +kernel
theorem dX9_closes_85 : decode cX9_closes 85 = .ok (.iastore, 1) := by decide +kernel
theorem dX9_closes_86 : decode cX9_closes 86 = .ok (.aload_n 0, 1) := by decide +kernel
theorem dX9_closes_87 : decode cX9_closes 87 = .ok (.aload_n 1, 1) := by decide +kernel
theorem dX9_closes_88 : decode cX9_closes 88 = .ok (.iload_n 2, 1) := by decide +kernel
theorem dX9_closes_89 : decode cX9_closes 89 = .ok (.iconst 1, 1) := by decide +kernel
theorem dX9_closes_90 : decode cX9_closes 90 = .ok (.iadd, 1) := by decide +kernel
theorem dX9_closes_91 : decode cX9_closes 91 = .ok (.iload_n 3, 1) := by decide +kernel
theorem dX9_closes_92 : decode cX9_closes 92 = .ok (.iconst 1, 1) := by decide +kernel
theorem dX9_closes_93 : decode cX9_closes 93 = .ok (.iload 6, 2) := by decide +kernel
theorem dX9_closes_95 : decode cX9_closes 95 = .ok (.ishl, 1) := by decide +kernel
theorem dX9_closes_96 : decode cX9_closes 96 = .ok (.iconst (-1), 1) := by decide +kernel
theorem dX9_closes_97 : decode cX9_closes 97 = .ok (.ixor, 1) := by decide +kernel
theorem dX9_closes_98 : decode cX9_closes 98 = .ok (.iand, 1) := by decide +kernel
theorem dX9_closes_99 : decode cX9_closes 99 = .ok (.iload 4, 2) := by decide +kernel
theorem dX9_closes_101 : decode cX9_closes 101 = .ok (.invokevirtual 84, 3) := by decide +kernel
theorem dX9_closes_104 : decode cX9_closes 104 = .ok (.ifCond .eq 5, 3) := by decide +kernel
theorem dX9_closes_107 : decode cX9_closes 107 = .ok (.iconst 1, 1) := by decide +kernel
theorem dX9_closes_108 : decode cX9_closes 108 = .ok (.ireturn, 1) := by decide +kernel
theorem dX9_closes_109 : decode cX9_closes 109 = .ok (.iinc 6 1, 3) := by decide +kernel
theorem dX9_closes_112 : decode cX9_closes 112 = .ok (.goto (-75), 3) := by decide +kernel
theorem dX9_closes_115 : decode cX9_closes 115 = .ok (.iconst 0, 1) := by decide +kernel
theorem dX9_closes_116 : decode cX9_closes 116 = .ok (.ireturn, 1) := by decide +kernel
theorem dX9_ofRing_0 : decode cX9_ofRing 0 = .ok (.iload_n 2, 1) := by decide +kernel
theorem dX9_ofRing_1 : decode cX9_ofRing 1 = .ok (.iconst (-1), 1) := by decide +kernel
theorem dX9_ofRing_2 : decode cX9_ofRing 2 = .ok (.if_icmp .lt 9, 3) := by decide +kernel
theorem dX9_ofRing_5 : decode cX9_ofRing 5 = .ok (.iload_n 2, 1) := by decide +kernel
theorem dX9_ofRing_6 : decode cX9_ofRing 6 = .ok (.bipush 6, 2) := by decide +kernel
theorem dX9_ofRing_8 : decode cX9_ofRing 8 = .ok (.if_icmp .lt 5, 3) := by decide +kernel
theorem dX9_ofRing_11 : decode cX9_ofRing 11 = .ok (.iconst (-1), 1) := by decide +kernel
theorem dX9_ofRing_12 : decode cX9_ofRing 12 = .ok (.ireturn, 1) := by decide +kernel
theorem dX9_ofRing_13 : decode cX9_ofRing 13 = .ok (.aload_n 0, 1) := by decide +kernel
theorem dX9_ofRing_14 : decode cX9_ofRing 14 = .ok (.aload_n 1, 1) := by decide +kernel
theorem dX9_ofRing_15 : decode cX9_ofRing 15 = .ok (.iconst 0, 1) := by decide +kernel
theorem dX9_ofRing_16 : decode cX9_ofRing 16 = .ok (.invokevirtual 51, 3) := by decide +kernel
theorem dX9_ofRing_19 : decode cX9_ofRing 19 = .ok (.bipush 6, 2) := by decide +kernel
theorem dX9_ofRing_21 : decode cX9_ofRing 21 = .ok (.invokestatic 55, 3) := by decide +kernel
theorem dX9_ofRing_24 : decode cX9_ofRing 24 = .ok (.putfield 24, 3) := by decide +kernel
theorem dX9_ofRing_27 : decode cX9_ofRing 27 = .ok (.iconst 2, 1) := by decide +kernel
theorem dX9_ofRing_28 : decode cX9_ofRing 28 = .ok (.istore_n 3, 1) := by decide +kernel
theorem dX9_ofRing_29 : decode cX9_ofRing 29 = .ok (.iload_n 3, 1) := by decide +kernel
theorem dX9_ofRing_30 : decode cX9_ofRing 30 = .ok (.aload_n 0, 1) := by decide +kernel
theorem dX9_ofRing_31 : decode cX9_ofRing 31 = .ok (.getfield 24, 3) := by decide +kernel
theorem dX9_ofRing_34 : decode cX9_ofRing 34 = .ok (.if_icmp .gt 91, 3) := by decide +kernel
theorem dX9_ofRing_37 : decode cX9_ofRing 37 = .ok (.iconst 0, 1) := by decide +kernel
theorem dX9_ofRing_38 : decode cX9_ofRing 38 = .ok (.istore 4, 2) := by decide +kernel
theorem dX9_ofRing_40 : decode cX9_ofRing 40 = .ok (.iload 4, 2) := by decide +kernel
theorem dX9_ofRing_42 : decode cX9_ofRing 42 = .ok (.iconst 1, 1) := by decide +kernel
theorem dX9_ofRing_43 : decode cX9_ofRing 43 = .ok (.aload_n 0, 1) := by decide +kernel
theorem dX9_ofRing_44 : decode cX9_ofRing 44 = .ok (.getfield 24, 3) := by decide +kernel
theorem dX9_ofRing_47 : decode cX9_ofRing 47 = .ok (.ishl, 1) := by decide +kernel
theorem dX9_ofRing_48 : decode cX9_ofRing 48 = .ok (.if_icmp .ge 71, 3) := by decide +kernel
theorem dX9_ofRing_51 : decode cX9_ofRing 51 = .ok (.iload 4, 2) := by decide +kernel
theorem dX9_ofRing_53 : decode cX9_ofRing 53 = .ok (.invokestatic 76, 3) := by decide +kernel
theorem dX9_ofRing_56 : decode cX9_ofRing 56 = .ok (.iload_n 3, 1) := by decide +kernel
theorem dX9_ofRing_57 : decode cX9_ofRing 57 = .ok (.if_icmp .ne 56, 3) := by decide +kernel
theorem dX9_ofRing_60 : decode cX9_ofRing 60 = .ok (.aload_n 0, 1) := by decide +kernel
theorem dX9_ofRing_61 : decode cX9_ofRing 61 = .ok (.getfield 18, 3) := by decide +kernel
theorem dX9_ofRing_64 : decode cX9_ofRing 64 = .ok (.iconst 0, 1) := by decide +kernel
theorem dX9_ofRing_65 : decode cX9_ofRing 65 = .ok (.iload 4, 2) := by decide +kernel
theorem dX9_ofRing_67 : decode cX9_ofRing 67 = .ok (.invokestatic 81, 3) := by decide +kernel
theorem dX9_ofRing_70 : decode cX9_ofRing 70 = .ok (.iastore, 1) := by decide +kernel
theorem dX9_ofRing_71 : decode cX9_ofRing 71 = .ok (.aload_n 0, 1) := by decide +kernel
theorem dX9_ofRing_72 : decode cX9_ofRing 72 = .ok (.aload_n 1, 1) := by decide +kernel
theorem dX9_ofRing_73 : decode cX9_ofRing 73 = .ok (.iconst 0, 1) := by decide +kernel
theorem dX9_ofRing_74 : decode cX9_ofRing 74 = .ok (.iload 4, 2) := by decide +kernel
theorem dX9_ofRing_76 : decode cX9_ofRing 76 = .ok (.iload 4, 2) := by decide +kernel
theorem dX9_ofRing_78 : decode cX9_ofRing 78 = .ok (.iconst 1, 1) := by decide +kernel
theorem dX9_ofRing_79 : decode cX9_ofRing 79 = .ok (.isub, 1) := by decide +kernel
theorem dX9_ofRing_80 : decode cX9_ofRing 80 = .ok (.iand, 1) := by decide +kernel
theorem dX9_ofRing_81 : decode cX9_ofRing 81 = .ok (.iload_n 3, 1) := by decide +kernel
theorem dX9_ofRing_82 : decode cX9_ofRing 82 = .ok (.invokevirtual 84, 3) := by decide +kernel
theorem dX9_ofRing_85 : decode cX9_ofRing 85 = .ok (.ifCond .eq 28, 3) := by decide +kernel
theorem dX9_ofRing_88 : decode cX9_ofRing 88 = .ok (.iload_n 2, 1) := by decide +kernel
theorem dX9_ofRing_89 : decode cX9_ofRing 89 = .ok (.iconst (-1), 1) := by decide +kernel
theorem dX9_ofRing_90 : decode cX9_ofRing 90 = .ok (.if_icmp .ne 7, 3) := by decide +kernel
theorem dX9_ofRing_93 : decode cX9_ofRing 93 = .ok (.iload_n 3, 1) := by decide +kernel
theorem dX9_ofRing_94 : decode cX9_ofRing 94 = .ok (.goto 18, 3) := by decide +kernel
theorem dX9_ofRing_97 : decode cX9_ofRing 97 = .ok (.iload_n 2, 1) := by decide +kernel
theorem dX9_ofRing_98 : decode cX9_ofRing 98 = .ok (.iload_n 3, 1) := by decide +kernel
theorem dX9_ofRing_99 : decode cX9_ofRing 99 = .ok (.if_icmp .ge 12, 3) := by decide +kernel
theorem dX9_ofRing_102 : decode cX9_ofRing 102 = .ok (.aload_n 0, 1) := by decide +kernel
theorem dX9_ofRing_103 : decode cX9_ofRing 103 = .ok (.getfield 18, 3) := by decide +kernel
theorem dX9_ofRing_106 : decode cX9_ofRing 106 = .ok (.iload_n 2, 1) := by decide +kernel
theorem dX9_ofRing_107 : decode cX9_ofRing 107 = .ok (.iaload, 1) := by decide +kernel
theorem dX9_ofRing_108 : decode cX9_ofRing 108 = .ok (.goto 4, 3) := by decide +kernel
theorem dX9_ofRing_111 : decode cX9_ofRing 111 = .ok (.iconst (-1), 1) := by decide +kernel
theorem dX9_ofRing_112 : decode cX9_ofRing 112 = .ok (.ireturn, 1) := by decide +kernel
theorem dX9_ofRing_113 : decode cX9_ofRing 113 = .ok (.iinc 4 1, 3) := by decide +kernel
theorem dX9_ofRing_116 : decode cX9_ofRing 116 = .ok (.goto (-76), 3) := by decide +kernel
theorem dX9_ofRing_119 : decode cX9_ofRing 119 = .ok (.iinc 3 1, 3) := by decide +kernel
theorem dX9_ofRing_122 : decode cX9_ofRing 122 = .ok (.goto (-93), 3) := by decide +kernel
theorem dX9_ofRing_125 : decode cX9_ofRing 125 = .ok (.iconst (-1), 1) := by decide +kernel
theorem dX9_ofRing_126 : decode cX9_ofRing 126 = .ok (.ireturn, 1) := by decide +kernel
theorem dX11_ring_0 : decode cX11_ring 0 = .ok (.aload_n 0, 1) := by decide +kernel
theorem dX11_ring_1 : decode cX11_ring 1 = .ok (.getfield 78, 3) := by decide +kernel
theorem dX11_ring_4 : decode cX11_ring 4 = .ok (.aload_n 0, 1) := by decide +kernel
theorem dX11_ring_5 : decode cX11_ring 5 = .ok (.getfield 10, 3) := by decide +kernel
theorem dX11_ring_8 : decode cX11_ring 8 = .ok (.iload_n 1, 1) := by decide +kernel
theorem dX11_ring_9 : decode cX11_ring 9 = .ok (.invokevirtual 280, 3) := by decide +kernel
theorem dX11_ring_12 : decode cX11_ring 12 = .ok (.ireturn, 1) := by decide +kernel
theorem dX11_road_0 : decode cX11_road 0 = .ok (.iload_n 1, 1) := by decide +kernel
theorem dX11_road_1 : decode cX11_road 1 = .ok (.iload_n 2, 1) := by decide +kernel
theorem dX11_road_2 : decode cX11_road 2 = .ok (.if_icmp .eq 24, 3) := by decide +kernel
theorem dX11_road_5 : decode cX11_road 5 = .ok (.iload_n 3, 1) := by decide +kernel
theorem dX11_road_6 : decode cX11_road 6 = .ok (.iconst 1, 1) := by decide +kernel
theorem dX11_road_7 : decode cX11_road 7 = .ok (.bipush 30, 2) := by decide +kernel
theorem dX11_road_9 : decode cX11_road 9 = .ok (.invokestatic 100, 3) := by decide +kernel
theorem dX11_road_12 : decode cX11_road 12 = .ok (.ifCond .eq 14, 3) := by decide +kernel
theorem dX11_road_15 : decode cX11_road 15 = .ok (.iload 4, 2) := by decide +kernel
theorem dX11_road_17 : decode cX11_road 17 = .ok (.iconst 0, 1) := by decide +kernel
theorem dX11_road_18 : decode cX11_road 18 = .ok (.bipush 10, 2) := by decide +kernel
theorem dX11_road_20 : decode cX11_road 20 = .ok (.invokestatic 100, 3) := by decide +kernel
theorem dX11_road_23 : decode cX11_road 23 = .ok (.ifCond .ne 9, 3) := by decide +kernel
theorem dX11_road_26 : decode cX11_road 26 = .ok (.aload_n 0, 1) := by decide +kernel
theorem dX11_road_27 : decode cX11_road 27 = .ok (.iconst (-1), 1) := by decide +kernel
theorem dX11_road_28 : decode cX11_road 28 = .ok (.invokevirtual 104, 3) := by decide +kernel
theorem dX11_road_31 : decode cX11_road 31 = .ok (.ireturn, 1) := by decide +kernel
theorem dX11_road_32 : decode cX11_road 32 = .ok (.aload_n 0, 1) := by decide +kernel
theorem dX11_road_33 : decode cX11_road 33 = .ok (.getfield 10, 3) := by decide +kernel
theorem dX11_road_36 : decode cX11_road 36 = .ok (.iload_n 1, 1) := by decide +kernel
theorem dX11_road_37 : decode cX11_road 37 = .ok (.invokevirtual 121, 3) := by decide +kernel
theorem dX11_road_40 : decode cX11_road 40 = .ok (.ifCond .eq 14, 3) := by decide +kernel
theorem dX11_road_43 : decode cX11_road 43 = .ok (.aload_n 0, 1) := by decide +kernel
theorem dX11_road_44 : decode cX11_road 44 = .ok (.getfield 10, 3) := by decide +kernel
theorem dX11_road_47 : decode cX11_road 47 = .ok (.iload_n 2, 1) := by decide +kernel
theorem dX11_road_48 : decode cX11_road 48 = .ok (.invokevirtual 121, 3) := by decide +kernel
theorem dX11_road_51 : decode cX11_road 51 = .ok (.ifCond .ne 10, 3) := by decide +kernel
theorem dX11_road_54 : decode cX11_road 54 = .ok (.aload_n 0, 1) := by decide +kernel
theorem dX11_road_55 : decode cX11_road 55 = .ok (.bipush (-2), 2) := by decide +kernel
theorem dX11_road_57 : decode cX11_road 57 = .ok (.invokevirtual 104, 3) := by decide +kernel
theorem dX11_road_60 : decode cX11_road 60 = .ok (.ireturn, 1) := by decide +kernel
theorem dX11_road_61 : decode cX11_road 61 = .ok (.aload_n 0, 1) := by decide +kernel
theorem dX11_road_62 : decode cX11_road 62 = .ok (.getfield 10, 3) := by decide +kernel
theorem dX11_road_65 : decode cX11_road 65 = .ok (.iconst 3, 1) := by decide +kernel
theorem dX11_road_66 : decode cX11_road 66 = .ok (.invokevirtual 108, 3) := by decide +kernel
theorem dX11_road_69 : decode cX11_road 69 = .ok (.bipush 12, 2) := by decide +kernel
theorem dX11_road_71 : decode cX11_road 71 = .ok (.if_icmp .lt 10, 3) := by decide +kernel
theorem dX11_road_74 : decode cX11_road 74 = .ok (.aload_n 0, 1) := by decide +kernel
theorem dX11_road_75 : decode cX11_road 75 = .ok (.bipush (-5), 2) := by decide +kernel
theorem dX11_road_77 : decode cX11_road 77 = .ok (.invokevirtual 104, 3) := by decide +kernel
theorem dX11_road_80 : decode cX11_road 80 = .ok (.ireturn, 1) := by decide +kernel
theorem dX11_road_81 : decode cX11_road 81 = .ok (.aload_n 0, 1) := by decide +kernel
theorem dX11_road_82 : decode cX11_road 82 = .ok (.aload_n 0, 1) := by decide +kernel
theorem dX11_road_83 : decode cX11_road 83 = .ok (.getfield 10, 3) := by decide +kernel
theorem dX11_road_86 : decode cX11_road 86 = .ok (.iload_n 1, 1) := by decide +kernel
theorem dX11_road_87 : decode cX11_road 87 = .ok (.iload_n 2, 1) := by decide +kernel
theorem dX11_road_88 : decode cX11_road 88 = .ok (.iload_n 3, 1) := by decide +kernel
theorem dX11_road_89 : decode cX11_road 89 = .ok (.iload 4, 2) := by decide +kernel
theorem dX11_road_91 : decode cX11_road 91 = .ok (.invokevirtual 275, 3) := by decide +kernel
theorem dX11_road_94 : decode cX11_road 94 = .ok (.invokevirtual 118, 3) := by decide +kernel
theorem dX11_road_97 : decode cX11_road 97 = .ok (.ireturn, 1) := by decide +kernel
theorem dX5_byteAt_0 : decode cX5_byteAt 0 = .ok (.iload_n 1, 1) := by decide +kernel
theorem dX5_byteAt_1 : decode cX5_byteAt 1 = .ok (.ifCond .lt 20, 3) := by decide +kernel
theorem dX5_byteAt_4 : decode cX5_byteAt 4 = .ok (.iload_n 1, 1) := by decide +kernel
theorem dX5_byteAt_5 : decode cX5_byteAt 5 = .ok (.aload_n 0, 1) := by decide +kernel
theorem dX5_byteAt_6 : decode cX5_byteAt 6 = .ok (.getfield 33, 3) := by decide +kernel
theorem dX5_byteAt_9 : decode cX5_byteAt 9 = .ok (.if_icmp .ge 12, 3) := by decide +kernel
theorem dX5_byteAt_12 : decode cX5_byteAt 12 = .ok (.aload_n 0, 1) := by decide +kernel
theorem dX5_byteAt_13 : decode cX5_byteAt 13 = .ok (.getfield 11, 3) := by decide +kernel
theorem dX5_byteAt_16 : decode cX5_byteAt 16 = .ok (.iload_n 1, 1) := by decide +kernel
theorem dX5_byteAt_17 : decode cX5_byteAt 17 = .ok (.iaload, 1) := by decide +kernel
theorem dX5_byteAt_18 : decode cX5_byteAt 18 = .ok (.goto 4, 3) := by decide +kernel
theorem dX5_byteAt_21 : decode cX5_byteAt 21 = .ok (.iconst 0, 1) := by decide +kernel
theorem dX5_byteAt_22 : decode cX5_byteAt 22 = .ok (.ireturn, 1) := by decide +kernel
theorem dX11_row_0 : decode cX11_row 0 = .ok (.aload_n 0, 1) := by decide +kernel
theorem dX11_row_1 : decode cX11_row 1 = .ok (.getfield 32, 3) := by decide +kernel
theorem dX11_row_4 : decode cX11_row 4 = .ok (.invokevirtual 167, 3) := by decide +kernel
theorem dX11_row_7 : decode cX11_row 7 = .ok (.istore_n 1, 1) := by decide +kernel
theorem dX11_row_8 : decode cX11_row 8 = .ok (.iload_n 1, 1) := by decide +kernel
theorem dX11_row_9 : decode cX11_row 9 = .ok (.ifCond .ne 10, 3) := by decide +kernel
theorem dX11_row_12 : decode cX11_row 12 = .ok (.aload_n 0, 1) := by decide +kernel
theorem dX11_row_13 : decode cX11_row 13 = .ok (.bipush (-6), 2) := by decide +kernel
theorem dX11_row_15 : decode cX11_row 15 = .ok (.invokevirtual 104, 3) := by decide +kernel
theorem dX11_row_18 : decode cX11_row 18 = .ok (.ireturn, 1) := by decide +kernel
theorem dX11_row_19 : decode cX11_row 19 = .ok (.aload_n 0, 1) := by decide +kernel
theorem dX11_row_20 : decode cX11_row 20 = .ok (.getfield 25, 3) := by decide +kernel
theorem dX11_row_23 : decode cX11_row 23 = .ok (.invokevirtual 111, 3) := by decide +kernel
theorem dX11_row_26 : decode cX11_row 26 = .ok (.iconst 0, 1) := by decide +kernel
theorem dX11_row_27 : decode cX11_row 27 = .ok (.istore_n 2, 1) := by decide +kernel
theorem dX11_row_28 : decode cX11_row 28 = .ok (.aload_n 0, 1) := by decide +kernel
theorem dX11_row_29 : decode cX11_row 29 = .ok (.iconst 0, 1) := by decide +kernel
theorem dX11_row_30 : decode cX11_row 30 = .ok (.putfield 97, 3) := by decide +kernel
theorem dX11_row_33 : decode cX11_row 33 = .ok (.iconst 0, 1) := by decide +kernel
theorem dX11_row_34 : decode cX11_row 34 = .ok (.istore_n 3, 1) := by decide +kernel
theorem dX11_row_35 : decode cX11_row 35 = .ok (.iload_n 3, 1) := by decide +kernel
theorem dX11_row_36 : decode cX11_row 36 = .ok (.iload_n 1, 1) := by decide +kernel
theorem dX11_row_37 : decode cX11_row 37 = .ok (.if_icmp .ge 67, 3) := by decide +kernel
theorem dX11_row_40 : decode cX11_row 40 = .ok (.iload_n 3, 1) := by decide +kernel
theorem dX11_row_41 : decode cX11_row 41 = .ok (.iconst 3, 1) := by decide +kernel
theorem dX11_row_42 : decode cX11_row 42 = .ok (.iadd, 1) := by decide +kernel
theorem dX11_row_43 : decode cX11_row 43 = .ok (.iload_n 1, 1) := by decide +kernel
theorem dX11_row_44 : decode cX11_row 44 = .ok (.if_icmp .gt 44, 3) := by decide +kernel
theorem dX11_row_47 : decode cX11_row 47 = .ok (.aload_n 0, 1) := by decide +kernel
theorem dX11_row_48 : decode cX11_row 48 = .ok (.aload_n 0, 1) := by decide +kernel
theorem dX11_row_49 : decode cX11_row 49 = .ok (.getfield 32, 3) := by decide +kernel
theorem dX11_row_52 : decode cX11_row 52 = .ok (.iload_n 3, 1) := by decide +kernel
theorem dX11_row_53 : decode cX11_row 53 = .ok (.invokevirtual 174, 3) := by decide +kernel
theorem dX11_row_56 : decode cX11_row 56 = .ok (.aload_n 0, 1) := by decide +kernel
theorem dX11_row_57 : decode cX11_row 57 = .ok (.getfield 32, 3) := by decide +kernel
theorem dX11_row_60 : decode cX11_row 60 = .ok (.iload_n 3, 1) := by decide +kernel
theorem dX11_row_61 : decode cX11_row 61 = .ok (.iconst 1, 1) := by decide +kernel
theorem dX11_row_62 : decode cX11_row 62 = .ok (.iadd, 1) := by decide +kernel
theorem dX11_row_63 : decode cX11_row 63 = .ok (.invokevirtual 174, 3) := by decide +kernel
theorem dX11_row_66 : decode cX11_row 66 = .ok (.aload_n 0, 1) := by decide +kernel
theorem dX11_row_67 : decode cX11_row 67 = .ok (.getfield 32, 3) := by decide +kernel
theorem dX11_row_70 : decode cX11_row 70 = .ok (.iload_n 3, 1) := by decide +kernel
theorem dX11_row_71 : decode cX11_row 71 = .ok (.iconst 2, 1) := by decide +kernel
theorem dX11_row_72 : decode cX11_row 72 = .ok (.iadd, 1) := by decide +kernel
theorem dX11_row_73 : decode cX11_row 73 = .ok (.invokevirtual 174, 3) := by decide +kernel
theorem dX11_row_76 : decode cX11_row 76 = .ok (.invokevirtual 177, 3) := by decide +kernel
theorem dX11_row_79 : decode cX11_row 79 = .ok (.ifCond .eq 9, 3) := by decide +kernel
theorem dX11_row_82 : decode cX11_row 82 = .ok (.iinc 2 1, 3) := by decide +kernel
theorem dX11_row_85 : decode cX11_row 85 = .ok (.goto 13, 3) := by decide +kernel
theorem dX11_row_88 : decode cX11_row 88 = .ok (.aload_n 0, 1) := by decide +kernel
theorem dX11_row_89 : decode cX11_row 89 = .ok (.dup, 1) := by decide +kernel
theorem dX11_row_90 : decode cX11_row 90 = .ok (.getfield 97, 3) := by decide +kernel
theorem dX11_row_93 : decode cX11_row 93 = .ok (.iconst 1, 1) := by decide +kernel
theorem dX11_row_94 : decode cX11_row 94 = .ok (.iadd, 1) := by decide +kernel
theorem dX11_row_95 : decode cX11_row 95 = .ok (.putfield 97, 3) := by decide +kernel
theorem dX11_row_98 : decode cX11_row 98 = .ok (.iinc 3 3, 3) := by decide +kernel
theorem dX11_row_101 : decode cX11_row 101 = .ok (.goto (-66), 3) := by decide +kernel
theorem dX11_row_104 : decode cX11_row 104 = .ok (.aload_n 0, 1) := by decide +kernel
theorem dX11_row_105 : decode cX11_row 105 = .ok (.getfield 32, 3) := by decide +kernel
theorem dX11_row_108 : decode cX11_row 108 = .ok (.iconst 0, 1) := by decide +kernel
theorem dX11_row_109 : decode cX11_row 109 = .ok (.invokevirtual 171, 3) := by decide +kernel
theorem dX11_row_112 : decode cX11_row 112 = .ok (.aload_n 0, 1) := by decide +kernel
theorem dX11_row_113 : decode cX11_row 113 = .ok (.iload_n 2, 1) := by decide +kernel
theorem dX11_row_114 : decode cX11_row 114 = .ok (.invokevirtual 118, 3) := by decide +kernel
theorem dX11_row_117 : decode cX11_row 117 = .ok (.ireturn, 1) := by decide +kernel
theorem dX7_fallOf_0 : decode cX7_fallOf 0 = .ok (.aload_n 1, 1) := by decide +kernel
theorem dX7_fallOf_1 : decode cX7_fallOf 1 = .ok (.iload_n 2, 1) := by decide +kernel
theorem dX7_fallOf_2 : decode cX7_fallOf 2 = .ok (.invokevirtual 38, 3) := by decide +kernel
theorem dX7_fallOf_5 : decode cX7_fallOf 5 = .ok (.ifCond .eq 5, 3) := by decide +kernel
theorem dX7_fallOf_8 : decode cX7_fallOf 8 = .ok (.iconst (-1), 1) := by decide +kernel
theorem dX7_fallOf_9 : decode cX7_fallOf 9 = .ok (.ireturn, 1) := by decide +kernel
theorem dX7_fallOf_10 : decode cX7_fallOf 10 = .ok (.aload_n 1, 1) := by decide +kernel
theorem dX7_fallOf_11 : decode cX7_fallOf 11 = .ok (.iload_n 2, 1) := by decide +kernel
theorem dX7_fallOf_12 : decode cX7_fallOf 12 = .ok (.iconst 0, 1) := by decide +kernel
theorem dX7_fallOf_13 : decode cX7_fallOf 13 = .ok (.invokevirtual 44, 3) := by decide +kernel
theorem dX7_fallOf_16 : decode cX7_fallOf 16 = .ok (.istore 4, 2) := by decide +kernel
theorem dX7_fallOf_18 : decode cX7_fallOf 18 = .ok (.aload_n 1, 1) := by decide +kernel
theorem dX7_fallOf_19 : decode cX7_fallOf 19 = .ok (.iconst 0, 1) := by decide +kernel
theorem dX7_fallOf_20 : decode cX7_fallOf 20 = .ok (.invokevirtual 48, 3) := by decide +kernel
theorem dX7_fallOf_23 : decode cX7_fallOf 23 = .ok (.istore 5, 2) := by decide +kernel
theorem dX7_fallOf_25 : decode cX7_fallOf 25 = .ok (.iload 5, 2) := by decide +kernel
theorem dX7_fallOf_27 : decode cX7_fallOf 27 = .ok (.iconst 1, 1) := by decide +kernel
theorem dX7_fallOf_28 : decode cX7_fallOf 28 = .ok (.iadd, 1) := by decide +kernel
theorem dX7_fallOf_29 : decode cX7_fallOf 29 = .ok (.istore 6, 2) := by decide +kernel
theorem dX7_fallOf_31 : decode cX7_fallOf 31 = .ok (.iload 6, 2) := by decide +kernel
theorem dX7_fallOf_33 : decode cX7_fallOf 33 = .ok (.iload 5, 2) := by decide +kernel
theorem dX7_fallOf_35 : decode cX7_fallOf 35 = .ok (.iload_n 3, 1) := by decide +kernel
theorem dX7_fallOf_36 : decode cX7_fallOf 36 = .ok (.iadd, 1) := by decide +kernel
theorem dX7_fallOf_37 : decode cX7_fallOf 37 = .ok (.if_icmp .gt 50, 3) := by decide +kernel
theorem dX7_fallOf_40 : decode cX7_fallOf 40 = .ok (.sipush 9999, 3) := by decide +kernel
theorem dX7_fallOf_43 : decode cX7_fallOf 43 = .ok (.iload 4, 2) := by decide +kernel
theorem dX7_fallOf_45 : decode cX7_fallOf 45 = .ok (.aload_n 1, 1) := by decide +kernel
theorem dX7_fallOf_46 : decode cX7_fallOf 46 = .ok (.iload_n 2, 1) := by decide +kernel
theorem dX7_fallOf_47 : decode cX7_fallOf 47 = .ok (.iconst 1, 1) := by decide +kernel
theorem dX7_fallOf_48 : decode cX7_fallOf 48 = .ok (.invokevirtual 44, 3) := by decide +kernel
theorem dX7_fallOf_51 : decode cX7_fallOf 51 = .ok (.iadd, 1) := by decide +kernel
theorem dX7_fallOf_52 : decode cX7_fallOf 52 = .ok (.invokestatic 52, 3) := by decide +kernel
theorem dX7_fallOf_55 : decode cX7_fallOf 55 = .ok (.istore 4, 2) := by decide +kernel
theorem dX7_fallOf_57 : decode cX7_fallOf 57 = .ok (.iload 4, 2) := by decide +kernel
theorem dX7_fallOf_59 : decode cX7_fallOf 59 = .ok (.aload_n 0, 1) := by decide +kernel
theorem dX7_fallOf_60 : decode cX7_fallOf 60 = .ok (.getfield 34, 3) := by decide +kernel
theorem dX7_fallOf_63 : decode cX7_fallOf 63 = .ok (.aload_n 1, 1) := by decide +kernel
theorem dX7_fallOf_64 : decode cX7_fallOf 64 = .ok (.iload_n 2, 1) := by decide +kernel
theorem dX7_fallOf_65 : decode cX7_fallOf 65 = .ok (.iload 6, 2) := by decide +kernel
theorem dX7_fallOf_67 : decode cX7_fallOf 67 = .ok (.invokevirtual 57, 3) := by decide +kernel
theorem dX7_fallOf_70 : decode cX7_fallOf 70 = .ok (.isub, 1) := by decide +kernel
theorem dX7_fallOf_71 : decode cX7_fallOf 71 = .ok (.istore 4, 2) := by decide +kernel
theorem dX7_fallOf_73 : decode cX7_fallOf 73 = .ok (.iload 4, 2) := by decide +kernel
theorem dX7_fallOf_75 : decode cX7_fallOf 75 = .ok (.ifCond .ge 6, 3) := by decide +kernel
theorem dX7_fallOf_78 : decode cX7_fallOf 78 = .ok (.iload 6, 2) := by decide +kernel
theorem dX7_fallOf_80 : decode cX7_fallOf 80 = .ok (.ireturn, 1) := by decide +kernel
theorem dX7_fallOf_81 : decode cX7_fallOf 81 = .ok (.iinc 6 1, 3) := by decide +kernel
theorem dX7_fallOf_84 : decode cX7_fallOf 84 = .ok (.goto (-53), 3) := by decide +kernel
theorem dX7_fallOf_87 : decode cX7_fallOf 87 = .ok (.iconst (-1), 1) := by decide +kernel
theorem dX7_fallOf_88 : decode cX7_fallOf 88 = .ok (.ireturn, 1) := by decide +kernel
theorem dX11_ruin_0 : decode cX11_ruin 0 = .ok (.aload_n 0, 1) := by decide +kernel
theorem dX11_ruin_1 : decode cX11_ruin 1 = .ok (.getfield 10, 3) := by decide +kernel
theorem dX11_ruin_4 : decode cX11_ruin 4 = .ok (.iload_n 1, 1) := by decide +kernel
theorem dX11_ruin_5 : decode cX11_ruin 5 = .ok (.invokevirtual 121, 3) := by decide +kernel
theorem dX11_ruin_8 : decode cX11_ruin 8 = .ok (.ifCond .eq 13, 3) := by decide +kernel
theorem dX11_ruin_11 : decode cX11_ruin 11 = .ok (.iload_n 2, 1) := by decide +kernel
theorem dX11_ruin_12 : decode cX11_ruin 12 = .ok (.iconst 1, 1) := by decide +kernel
theorem dX11_ruin_13 : decode cX11_ruin 13 = .ok (.bipush 99, 2) := by decide +kernel
theorem dX11_ruin_15 : decode cX11_ruin 15 = .ok (.invokestatic 100, 3) := by decide +kernel
theorem dX11_ruin_18 : decode cX11_ruin 18 = .ok (.ifCond .ne 5, 3) := by decide +kernel
theorem dX11_ruin_21 : decode cX11_ruin 21 = .ok (.iconst (-1), 1) := by decide +kernel
theorem dX11_ruin_22 : decode cX11_ruin 22 = .ok (.ireturn, 1) := by decide +kernel
theorem dX11_ruin_23 : decode cX11_ruin 23 = .ok (.aload_n 0, 1) := by decide +kernel
theorem dX11_ruin_24 : decode cX11_ruin 24 = .ok (.getfield 71, 3) := by decide +kernel
theorem dX11_ruin_27 : decode cX11_ruin 27 = .ok (.aload_n 0, 1) := by decide +kernel
theorem dX11_ruin_28 : decode cX11_ruin 28 = .ok (.getfield 10, 3) := by decide +kernel
theorem dX11_ruin_31 : decode cX11_ruin 31 = .ok (.iload_n 1, 1) := by decide +kernel
theorem dX11_ruin_32 : decode cX11_ruin 32 = .ok (.iload_n 2, 1) := by decide +kernel
theorem dX11_ruin_33 : decode cX11_ruin 33 = .ok (.invokevirtual 257, 3) := by decide +kernel
theorem dX11_ruin_36 : decode cX11_ruin 36 = .ok (.ireturn, 1) := by decide +kernel
theorem dX11_shelf_0 : decode cX11_shelf 0 = .ok (.iload_n 2, 1) := by decide +kernel
theorem dX11_shelf_1 : decode cX11_shelf 1 = .ok (.iconst (-1), 1) := by decide +kernel
theorem dX11_shelf_2 : decode cX11_shelf 2 = .ok (.if_icmp .ge 9, 3) := by decide +kernel
theorem dX11_shelf_5 : decode cX11_shelf 5 = .ok (.aload_n 0, 1) := by decide +kernel
theorem dX11_shelf_6 : decode cX11_shelf 6 = .ok (.iconst (-1), 1) := by decide +kernel
theorem dX11_shelf_7 : decode cX11_shelf 7 = .ok (.invokevirtual 104, 3) := by decide +kernel
theorem dX11_shelf_10 : decode cX11_shelf 10 = .ok (.ireturn, 1) := by decide +kernel
theorem dX11_shelf_11 : decode cX11_shelf 11 = .ok (.aload_n 0, 1) := by decide +kernel
theorem dX11_shelf_12 : decode cX11_shelf 12 = .ok (.getfield 10, 3) := by decide +kernel
theorem dX11_shelf_15 : decode cX11_shelf 15 = .ok (.iload_n 1, 1) := by decide +kernel
theorem dX11_shelf_16 : decode cX11_shelf 16 = .ok (.invokevirtual 146, 3) := by decide +kernel
theorem dX11_shelf_19 : decode cX11_shelf 19 = .ok (.ifCond .eq 19, 3) := by decide +kernel
theorem dX11_shelf_22 : decode cX11_shelf 22 = .ok (.iload_n 2, 1) := by decide +kernel
theorem dX11_shelf_23 : decode cX11_shelf 23 = .ok (.iconst (-1), 1) := by decide +kernel
theorem dX11_shelf_24 : decode cX11_shelf 24 = .ok (.if_icmp .eq 21, 3) := by decide +kernel
theorem dX11_shelf_27 : decode cX11_shelf 27 = .ok (.aload_n 0, 1) := by decide +kernel
theorem dX11_shelf_28 : decode cX11_shelf 28 = .ok (.getfield 10, 3) := by decide +kernel
theorem dX11_shelf_31 : decode cX11_shelf 31 = .ok (.iload_n 2, 1) := by decide +kernel
theorem dX11_shelf_32 : decode cX11_shelf 32 = .ok (.invokevirtual 121, 3) := by decide +kernel
theorem dX11_shelf_35 : decode cX11_shelf 35 = .ok (.ifCond .ne 10, 3) := by decide +kernel
theorem dX11_shelf_38 : decode cX11_shelf 38 = .ok (.aload_n 0, 1) := by decide +kernel
theorem dX11_shelf_39 : decode cX11_shelf 39 = .ok (.bipush (-2), 2) := by decide +kernel
theorem dX11_shelf_41 : decode cX11_shelf 41 = .ok (.invokevirtual 104, 3) := by decide +kernel
theorem dX11_shelf_44 : decode cX11_shelf 44 = .ok (.ireturn, 1) := by decide +kernel
theorem dX11_shelf_45 : decode cX11_shelf 45 = .ok (.aload_n 0, 1) := by decide +kernel
theorem dX11_shelf_46 : decode cX11_shelf 46 = .ok (.getfield 10, 3) := by decide +kernel
theorem dX11_shelf_49 : decode cX11_shelf 49 = .ok (.iload_n 1, 1) := by decide +kernel
theorem dX11_shelf_50 : decode cX11_shelf 50 = .ok (.invokevirtual 283, 3) := by decide +kernel
theorem dX11_shelf_53 : decode cX11_shelf 53 = .ok (.istore_n 3, 1) := by decide +kernel
theorem dX11_shelf_54 : decode cX11_shelf 54 = .ok (.aload_n 0, 1) := by decide +kernel
theorem dX11_shelf_55 : decode cX11_shelf 55 = .ok (.getfield 10, 3) := by decide +kernel
theorem dX11_shelf_58 : decode cX11_shelf 58 = .ok (.iload_n 1, 1) := by decide +kernel
theorem dX11_shelf_59 : decode cX11_shelf 59 = .ok (.iload_n 2, 1) := by decide +kernel
theorem dX11_shelf_60 : decode cX11_shelf 60 = .ok (.invokevirtual 286, 3) := by decide +kernel
theorem dX11_shelf_63 : decode cX11_shelf 63 = .ok (.aload_n 0, 1) := by decide +kernel
theorem dX11_shelf_64 : decode cX11_shelf 64 = .ok (.iload_n 3, 1) := by decide +kernel
theorem dX11_shelf_65 : decode cX11_shelf 65 = .ok (.invokevirtual 118, 3) := by decide +kernel
theorem dX11_shelf_68 : decode cX11_shelf 68 = .ok (.ireturn, 1) := by decide +kernel
theorem dX7_bitsOf_0 : decode cX7_bitsOf 0 = .ok (.iconst 0, 1) := by decide +kernel
theorem dX7_bitsOf_1 : decode cX7_bitsOf 1 = .ok (.istore_n 2, 1) := by decide +kernel
theorem dX7_bitsOf_2 : decode cX7_bitsOf 2 = .ok (.iconst 0, 1) := by decide +kernel
theorem dX7_bitsOf_3 : decode cX7_bitsOf 3 = .ok (.istore_n 3, 1) := by decide +kernel
theorem dX7_bitsOf_4 : decode cX7_bitsOf 4 = .ok (.iload_n 3, 1) := by decide +kernel
theorem dX7_bitsOf_5 : decode cX7_bitsOf 5 = .ok (.aload_n 0, 1) := by decide +kernel
theorem dX7_bitsOf_6 : decode cX7_bitsOf 6 = .ok (.getfield 24, 3) := by decide +kernel
theorem dX7_bitsOf_9 : decode cX7_bitsOf 9 = .ok (.if_icmp .ge 24, 3) := by decide +kernel
theorem dX7_bitsOf_12 : decode cX7_bitsOf 12 = .ok (.iload_n 2, 1) := by decide +kernel
theorem dX7_bitsOf_13 : decode cX7_bitsOf 13 = .ok (.iload_n 1, 1) := by decide +kernel
theorem dX7_bitsOf_14 : decode cX7_bitsOf 14 = .ok (.iload_n 3, 1) := by decide +kernel
theorem dX7_bitsOf_15 : decode cX7_bitsOf 15 = .ok (.ishr, 1) := by decide +kernel
theorem dX7_bitsOf_16 : decode cX7_bitsOf 16 = .ok (.iconst 1, 1) := by decide +kernel
theorem dX7_bitsOf_17 : decode cX7_bitsOf 17 = .ok (.iand, 1) := by decide +kernel
theorem dX7_bitsOf_18 : decode cX7_bitsOf 18 = .ok (.aload_n 0, 1) := by decide +kernel
theorem dX7_bitsOf_19 : decode cX7_bitsOf 19 = .ok (.getfield 11, 3) := by decide +kernel
theorem dX7_bitsOf_22 : decode cX7_bitsOf 22 = .ok (.iload_n 3, 1) := by decide +kernel
theorem dX7_bitsOf_23 : decode cX7_bitsOf 23 = .ok (.iaload, 1) := by decide +kernel
theorem dX7_bitsOf_24 : decode cX7_bitsOf 24 = .ok (.ishl, 1) := by decide +kernel
theorem dX7_bitsOf_25 : decode cX7_bitsOf 25 = .ok (.ior, 1) := by decide +kernel
theorem dX7_bitsOf_26 : decode cX7_bitsOf 26 = .ok (.istore_n 2, 1) := by decide +kernel
theorem dX7_bitsOf_27 : decode cX7_bitsOf 27 = .ok (.iinc 3 1, 3) := by decide +kernel
theorem dX7_bitsOf_30 : decode cX7_bitsOf 30 = .ok (.goto (-26), 3) := by decide +kernel
theorem dX7_bitsOf_33 : decode cX7_bitsOf 33 = .ok (.iload_n 2, 1) := by decide +kernel
theorem dX7_bitsOf_34 : decode cX7_bitsOf 34 = .ok (.ireturn, 1) := by decide +kernel
theorem dX7_falls_0 : decode cX7_falls 0 = .ok (.aload_n 0, 1) := by decide +kernel
theorem dX7_falls_1 : decode cX7_falls 1 = .ok (.getfield 28, 3) := by decide +kernel
theorem dX7_falls_4 : decode cX7_falls 4 = .ok (.istore_n 3, 1) := by decide +kernel
theorem dX7_falls_5 : decode cX7_falls 5 = .ok (.iconst 0, 1) := by decide +kernel
theorem dX7_falls_6 : decode cX7_falls 6 = .ok (.istore 4, 2) := by decide +kernel
theorem dX7_falls_8 : decode cX7_falls 8 = .ok (.iload 4, 2) := by decide +kernel
theorem dX7_falls_10 : decode cX7_falls 10 = .ok (.iload_n 2, 1) := by decide +kernel
theorem dX7_falls_11 : decode cX7_falls 11 = .ok (.if_icmp .ge 77, 3) := by decide +kernel
theorem dX7_falls_14 : decode cX7_falls 14 = .ok (.sipush 9999, 3) := by decide +kernel
theorem dX7_falls_17 : decode cX7_falls 17 = .ok (.iload_n 3, 1) := by decide +kernel
theorem dX7_falls_18 : decode cX7_falls 18 = .ok (.aload_n 0, 1) := by decide +kernel
theorem dX7_falls_19 : decode cX7_falls 19 = .ok (.getfield 31, 3) := by decide +kernel
theorem dX7_falls_22 : decode cX7_falls 22 = .ok (.iadd, 1) := by decide +kernel
theorem dX7_falls_23 : decode cX7_falls 23 = .ok (.invokestatic 52, 3) := by decide +kernel
theorem dX7_falls_26 : decode cX7_falls 26 = .ok (.aload_n 0, 1) := by decide +kernel
theorem dX7_falls_27 : decode cX7_falls 27 = .ok (.getfield 21, 3) := by decide +kernel
theorem dX7_falls_30 : decode cX7_falls 30 = .ok (.iload 4, 2) := by decide +kernel
theorem dX7_falls_32 : decode cX7_falls 32 = .ok (.iaload, 1) := by decide +kernel
theorem dX7_falls_33 : decode cX7_falls 33 = .ok (.isub, 1) := by decide +kernel
theorem dX7_falls_34 : decode cX7_falls 34 = .ok (.istore_n 3, 1) := by decide +kernel
theorem dX7_falls_35 : decode cX7_falls 35 = .ok (.iconst 0, 1) := by decide +kernel
theorem dX7_falls_36 : decode cX7_falls 36 = .ok (.istore 5, 2) := by decide +kernel
theorem dX7_falls_38 : decode cX7_falls 38 = .ok (.iload 5, 2) := by decide +kernel
theorem dX7_falls_40 : decode cX7_falls 40 = .ok (.aload_n 0, 1) := by decide +kernel
theorem dX7_falls_41 : decode cX7_falls 41 = .ok (.getfield 24, 3) := by decide +kernel
theorem dX7_falls_44 : decode cX7_falls 44 = .ok (.if_icmp .ge 32, 3) := by decide +kernel
theorem dX7_falls_47 : decode cX7_falls 47 = .ok (.iload_n 3, 1) := by decide +kernel
theorem dX7_falls_48 : decode cX7_falls 48 = .ok (.iload_n 1, 1) := by decide +kernel
theorem dX7_falls_49 : decode cX7_falls 49 = .ok (.iload 5, 2) := by decide +kernel
theorem dX7_falls_51 : decode cX7_falls 51 = .ok (.ishr, 1) := by decide +kernel
theorem dX7_falls_52 : decode cX7_falls 52 = .ok (.iconst 1, 1) := by decide +kernel
theorem dX7_falls_53 : decode cX7_falls 53 = .ok (.iand, 1) := by decide +kernel
theorem dX7_falls_54 : decode cX7_falls 54 = .ok (.aload_n 0, 1) := by decide +kernel
theorem dX7_falls_55 : decode cX7_falls 55 = .ok (.getfield 18, 3) := by decide +kernel
theorem dX7_falls_58 : decode cX7_falls 58 = .ok (.iload 5, 2) := by decide +kernel
theorem dX7_falls_60 : decode cX7_falls 60 = .ok (.bipush 9, 2) := by decide +kernel
theorem dX7_falls_62 : decode cX7_falls 62 = .ok (.imul, 1) := by decide +kernel
theorem dX7_falls_63 : decode cX7_falls 63 = .ok (.iload 4, 2) := by decide +kernel
theorem dX7_falls_65 : decode cX7_falls 65 = .ok (.iadd, 1) := by decide +kernel
theorem dX7_falls_66 : decode cX7_falls 66 = .ok (.iaload, 1) := by decide +kernel
theorem dX7_falls_67 : decode cX7_falls 67 = .ok (.imul, 1) := by decide +kernel
theorem dX7_falls_68 : decode cX7_falls 68 = .ok (.isub, 1) := by decide +kernel
theorem dX7_falls_69 : decode cX7_falls 69 = .ok (.istore_n 3, 1) := by decide +kernel
theorem dX7_falls_70 : decode cX7_falls 70 = .ok (.iinc 5 1, 3) := by decide +kernel
theorem dX7_falls_73 : decode cX7_falls 73 = .ok (.goto (-35), 3) := by decide +kernel
theorem dX7_falls_76 : decode cX7_falls 76 = .ok (.iload_n 3, 1) := by decide +kernel
theorem dX7_falls_77 : decode cX7_falls 77 = .ok (.ifCond .ge 5, 3) := by decide +kernel
theorem dX7_falls_80 : decode cX7_falls 80 = .ok (.iconst 1, 1) := by decide +kernel
theorem dX7_falls_81 : decode cX7_falls 81 = .ok (.ireturn, 1) := by decide +kernel
theorem dX7_falls_82 : decode cX7_falls 82 = .ok (.iinc 4 1, 3) := by decide +kernel
theorem dX7_falls_85 : decode cX7_falls 85 = .ok (.goto (-77), 3) := by decide +kernel
theorem dX7_falls_88 : decode cX7_falls 88 = .ok (.iconst 0, 1) := by decide +kernel
theorem dX7_falls_89 : decode cX7_falls 89 = .ok (.ireturn, 1) := by decide +kernel
theorem dX7_worthOf_0 : decode cX7_worthOf 0 = .ok (.iconst 0, 1) := by decide +kernel
theorem dX7_worthOf_1 : decode cX7_worthOf 1 = .ok (.istore_n 2, 1) := by decide +kernel
theorem dX7_worthOf_2 : decode cX7_worthOf 2 = .ok (.iconst 0, 1) := by decide +kernel
theorem dX7_worthOf_3 : decode cX7_worthOf 3 = .ok (.istore_n 3, 1) := by decide +kernel
theorem dX7_worthOf_4 : decode cX7_worthOf 4 = .ok (.iload_n 3, 1) := by decide +kernel
theorem dX7_worthOf_5 : decode cX7_worthOf 5 = .ok (.aload_n 0, 1) := by decide +kernel
theorem dX7_worthOf_6 : decode cX7_worthOf 6 = .ok (.getfield 24, 3) := by decide +kernel
theorem dX7_worthOf_9 : decode cX7_worthOf 9 = .ok (.if_icmp .ge 24, 3) := by decide +kernel
theorem dX7_worthOf_12 : decode cX7_worthOf 12 = .ok (.iload_n 2, 1) := by decide +kernel
theorem dX7_worthOf_13 : decode cX7_worthOf 13 = .ok (.iload_n 1, 1) := by decide +kernel
theorem dX7_worthOf_14 : decode cX7_worthOf 14 = .ok (.iload_n 3, 1) := by decide +kernel
theorem dX7_worthOf_15 : decode cX7_worthOf 15 = .ok (.ishr, 1) := by decide +kernel
theorem dX7_worthOf_16 : decode cX7_worthOf 16 = .ok (.iconst 1, 1) := by decide +kernel
theorem dX7_worthOf_17 : decode cX7_worthOf 17 = .ok (.iand, 1) := by decide +kernel
theorem dX7_worthOf_18 : decode cX7_worthOf 18 = .ok (.aload_n 0, 1) := by decide +kernel
theorem dX7_worthOf_19 : decode cX7_worthOf 19 = .ok (.getfield 15, 3) := by decide +kernel
theorem dX7_worthOf_22 : decode cX7_worthOf 22 = .ok (.iload_n 3, 1) := by decide +kernel
theorem dX7_worthOf_23 : decode cX7_worthOf 23 = .ok (.iaload, 1) := by decide +kernel
theorem dX7_worthOf_24 : decode cX7_worthOf 24 = .ok (.imul, 1) := by decide +kernel
theorem dX7_worthOf_25 : decode cX7_worthOf 25 = .ok (.iadd, 1) := by decide +kernel
theorem dX7_worthOf_26 : decode cX7_worthOf 26 = .ok (.istore_n 2, 1) := by decide +kernel
theorem dX7_worthOf_27 : decode cX7_worthOf 27 = .ok (.iinc 3 1, 3) := by decide +kernel
theorem dX7_worthOf_30 : decode cX7_worthOf 30 = .ok (.goto (-26), 3) := by decide +kernel
theorem dX7_worthOf_33 : decode cX7_worthOf 33 = .ok (.iload_n 2, 1) := by decide +kernel
theorem dX7_worthOf_34 : decode cX7_worthOf 34 = .ok (.ireturn, 1) := by decide +kernel
theorem dX7_cheapest_0 : decode cX7_cheapest 0 = .ok (.iconst 1, 1) := by decide +kernel
theorem dX7_cheapest_1 : decode cX7_cheapest 1 = .ok (.aload_n 0, 1) := by decide +kernel
theorem dX7_cheapest_2 : decode cX7_cheapest 2 = .ok (.getfield 24, 3) := by decide +kernel
theorem dX7_cheapest_5 : decode cX7_cheapest 5 = .ok (.ishl, 1) := by decide +kernel
theorem dX7_cheapest_6 : decode cX7_cheapest 6 = .ok (.iconst 1, 1) := by decide +kernel
theorem dX7_cheapest_7 : decode cX7_cheapest 7 = .ok (.isub, 1) := by decide +kernel
theorem dX7_cheapest_8 : decode cX7_cheapest 8 = .ok (.istore_n 2, 1) := by decide +kernel
theorem dX7_cheapest_9 : decode cX7_cheapest 9 = .ok (.aload_n 0, 1) := by decide +kernel
theorem dX7_cheapest_10 : decode cX7_cheapest 10 = .ok (.iload_n 2, 1) := by decide +kernel
theorem dX7_cheapest_11 : decode cX7_cheapest 11 = .ok (.iload_n 1, 1) := by decide +kernel
theorem dX7_cheapest_12 : decode cX7_cheapest 12 = .ok (.invokevirtual 97, 3) := by decide +kernel
theorem dX7_cheapest_15 : decode cX7_cheapest 15 = .ok (.ifCond .ne 5, 3) := by decide +kernel
theorem dX7_cheapest_18 : decode cX7_cheapest 18 = .ok (.iconst (-1), 1) := by decide +kernel
theorem dX7_cheapest_19 : decode cX7_cheapest 19 = .ok (.ireturn, 1) := by decide +kernel
theorem dX7_cheapest_20 : decode cX7_cheapest 20 = .ok (.iload_n 2, 1) := by decide +kernel
theorem dX7_cheapest_21 : decode cX7_cheapest 21 = .ok (.istore_n 3, 1) := by decide +kernel
theorem dX7_cheapest_22 : decode cX7_cheapest 22 = .ok (.aload_n 0, 1) := by decide +kernel
theorem dX7_cheapest_23 : decode cX7_cheapest 23 = .ok (.getfield 24, 3) := by decide +kernel
theorem dX7_cheapest_26 : decode cX7_cheapest 26 = .ok (.istore 4, 2) := by decide +kernel
theorem dX7_cheapest_28 : decode cX7_cheapest 28 = .ok (.aload_n 0, 1) := by decide +kernel
theorem dX7_cheapest_29 : decode cX7_cheapest 29 = .ok (.iload_n 2, 1) := by decide +kernel
theorem dX7_cheapest_30 : decode cX7_cheapest 30 = .ok (.invokevirtual 75, 3) := by decide +kernel
theorem dX7_cheapest_33 : decode cX7_cheapest 33 = .ok (.istore 5, 2) := by decide +kernel
theorem dX7_cheapest_35 : decode cX7_cheapest 35 = .ok (.iconst 0, 1) := by decide +kernel
theorem dX7_cheapest_36 : decode cX7_cheapest 36 = .ok (.istore 6, 2) := by decide +kernel
theorem dX7_cheapest_38 : decode cX7_cheapest 38 = .ok (.iload 6, 2) := by decide +kernel
theorem dX7_cheapest_40 : decode cX7_cheapest 40 = .ok (.iload_n 2, 1) := by decide +kernel
theorem dX7_cheapest_41 : decode cX7_cheapest 41 = .ok (.if_icmp .ge 66, 3) := by decide +kernel
theorem dX7_cheapest_44 : decode cX7_cheapest 44 = .ok (.iload 6, 2) := by decide +kernel
theorem dX7_cheapest_46 : decode cX7_cheapest 46 = .ok (.invokestatic 70, 3) := by decide +kernel
theorem dX7_cheapest_49 : decode cX7_cheapest 49 = .ok (.istore 7, 2) := by decide +kernel
theorem dX7_cheapest_51 : decode cX7_cheapest 51 = .ok (.iload 7, 2) := by decide +kernel
theorem dX7_cheapest_53 : decode cX7_cheapest 53 = .ok (.iload 4, 2) := by decide +kernel
theorem dX7_cheapest_55 : decode cX7_cheapest 55 = .ok (.if_icmp .gt 46, 3) := by decide +kernel
theorem dX7_cheapest_58 : decode cX7_cheapest 58 = .ok (.aload_n 0, 1) := by decide +kernel
theorem dX7_cheapest_59 : decode cX7_cheapest 59 = .ok (.iload 6, 2) := by decide +kernel
theorem dX7_cheapest_61 : decode cX7_cheapest 61 = .ok (.invokevirtual 75, 3) := by decide +kernel
theorem dX7_cheapest_64 : decode cX7_cheapest 64 = .ok (.istore 8, 2) := by decide +kernel
theorem dX7_cheapest_66 : decode cX7_cheapest 66 = .ok (.iload 7, 2) := by decide +kernel
theorem dX7_cheapest_68 : decode cX7_cheapest 68 = .ok (.iload 4, 2) := by decide +kernel
theorem dX7_cheapest_70 : decode cX7_cheapest 70 = .ok (.if_icmp .lt 10, 3) := by decide +kernel
theorem dX7_cheapest_73 : decode cX7_cheapest 73 = .ok (.iload 8, 2) := by decide +kernel
theorem dX7_cheapest_75 : decode cX7_cheapest 75 = .ok (.iload 5, 2) := by decide +kernel
theorem dX7_cheapest_77 : decode cX7_cheapest 77 = .ok (.if_icmp .ge 24, 3) := by decide +kernel
theorem dX7_cheapest_80 : decode cX7_cheapest 80 = .ok (.aload_n 0, 1) := by decide +kernel
theorem dX7_cheapest_81 : decode cX7_cheapest 81 = .ok (.iload 6, 2) := by decide +kernel
theorem dX7_cheapest_83 : decode cX7_cheapest 83 = .ok (.iload_n 1, 1) := by decide +kernel
theorem dX7_cheapest_84 : decode cX7_cheapest 84 = .ok (.invokevirtual 97, 3) := by decide +kernel
theorem dX7_cheapest_87 : decode cX7_cheapest 87 = .ok (.ifCond .eq 14, 3) := by decide +kernel
theorem dX7_cheapest_90 : decode cX7_cheapest 90 = .ok (.iload 6, 2) := by decide +kernel
theorem dX7_cheapest_92 : decode cX7_cheapest 92 = .ok (.istore_n 3, 1) := by decide +kernel
theorem dX7_cheapest_93 : decode cX7_cheapest 93 = .ok (.iload 7, 2) := by decide +kernel
theorem dX7_cheapest_95 : decode cX7_cheapest 95 = .ok (.istore 4, 2) := by decide +kernel
theorem dX7_cheapest_97 : decode cX7_cheapest 97 = .ok (.iload 8, 2) := by decide +kernel
theorem dX7_cheapest_99 : decode cX7_cheapest 99 = .ok (.istore 5, 2) := by decide +kernel
theorem dX7_cheapest_101 : decode cX7_cheapest 101 = .ok (.iinc 6 1, 3) := by decide +kernel
theorem dX7_cheapest_104 : decode cX7_cheapest 104 = .ok (.goto (-66), 3) := by decide +kernel
theorem dX7_cheapest_107 : decode cX7_cheapest 107 = .ok (.iload_n 3, 1) := by decide +kernel
theorem dX7_cheapest_108 : decode cX7_cheapest 108 = .ok (.ireturn, 1) := by decide +kernel
theorem dX7_gather_0 : decode cX7_gather 0 = .ok (.aload_n 1, 1) := by decide +kernel
theorem dX7_gather_1 : decode cX7_gather 1 = .ok (.iconst 0, 1) := by decide +kernel
theorem dX7_gather_2 : decode cX7_gather 2 = .ok (.invokevirtual 48, 3) := by decide +kernel
theorem dX7_gather_5 : decode cX7_gather 5 = .ok (.istore 5, 2) := by decide +kernel
theorem dX7_gather_7 : decode cX7_gather 7 = .ok (.aload_n 0, 1) := by decide +kernel
theorem dX7_gather_8 : decode cX7_gather 8 = .ok (.aload_n 1, 1) := by decide +kernel
theorem dX7_gather_9 : decode cX7_gather 9 = .ok (.iload_n 3, 1) := by decide +kernel
theorem dX7_gather_10 : decode cX7_gather 10 = .ok (.iconst 0, 1) := by decide +kernel
theorem dX7_gather_11 : decode cX7_gather 11 = .ok (.invokevirtual 44, 3) := by decide +kernel
theorem dX7_gather_14 : decode cX7_gather 14 = .ok (.putfield 28, 3) := by decide +kernel
theorem dX7_gather_17 : decode cX7_gather 17 = .ok (.aload_n 0, 1) := by decide +kernel
theorem dX7_gather_18 : decode cX7_gather 18 = .ok (.aload_n 1, 1) := by decide +kernel
theorem dX7_gather_19 : decode cX7_gather 19 = .ok (.iload_n 3, 1) := by decide +kernel
theorem dX7_gather_20 : decode cX7_gather 20 = .ok (.iconst 1, 1) := by decide +kernel
theorem dX7_gather_21 : decode cX7_gather 21 = .ok (.invokevirtual 44, 3) := by decide +kernel
theorem dX7_gather_24 : decode cX7_gather 24 = .ok (.putfield 31, 3) := by decide +kernel
theorem dX7_gather_27 : decode cX7_gather 27 = .ok (.iconst 0, 1) := by decide +kernel
theorem dX7_gather_28 : decode cX7_gather 28 = .ok (.istore 6, 2) := by decide +kernel
theorem dX7_gather_30 : decode cX7_gather 30 = .ok (.iload 6, 2) := by decide +kernel
theorem dX7_gather_32 : decode cX7_gather 32 = .ok (.iload 4, 2) := by decide +kernel
theorem dX7_gather_34 : decode cX7_gather 34 = .ok (.if_icmp .ge 32, 3) := by decide +kernel
theorem dX7_gather_37 : decode cX7_gather 37 = .ok (.aload_n 0, 1) := by decide +kernel
theorem dX7_gather_38 : decode cX7_gather 38 = .ok (.getfield 21, 3) := by decide +kernel
theorem dX7_gather_41 : decode cX7_gather 41 = .ok (.iload 6, 2) := by decide +kernel
theorem dX7_gather_43 : decode cX7_gather 43 = .ok (.aload_n 0, 1) := by decide +kernel
theorem dX7_gather_44 : decode cX7_gather 44 = .ok (.getfield 34, 3) := by decide +kernel
theorem dX7_gather_47 : decode cX7_gather 47 = .ok (.aload_n 1, 1) := by decide +kernel
theorem dX7_gather_48 : decode cX7_gather 48 = .ok (.iload_n 3, 1) := by decide +kernel
theorem dX7_gather_49 : decode cX7_gather 49 = .ok (.iload 5, 2) := by decide +kernel
theorem dX7_gather_51 : decode cX7_gather 51 = .ok (.iconst 1, 1) := by decide +kernel
theorem dX7_gather_52 : decode cX7_gather 52 = .ok (.iadd, 1) := by decide +kernel
theorem dX7_gather_53 : decode cX7_gather 53 = .ok (.iload 6, 2) := by decide +kernel
theorem dX7_gather_55 : decode cX7_gather 55 = .ok (.iadd, 1) := by decide +kernel
theorem dX7_gather_56 : decode cX7_gather 56 = .ok (.invokevirtual 57, 3) := by decide +kernel
theorem dX7_gather_59 : decode cX7_gather 59 = .ok (.iastore, 1) := by decide +kernel
