theorem dX10_placeOf_0 : decode cX10_placeOf 0 = .ok (.aload_n 0, 1) := by decide +kernel
theorem dX10_placeOf_1 : decode cX10_placeOf 1 = .ok (.iload_n 1, 1) := by decide +kernel
theorem dX10_placeOf_2 : decode cX10_placeOf 2 = .ok (.iload_n 2, 1) := by decide +kernel
theorem dX10_placeOf_3 : decode cX10_placeOf 3 = .ok (.iconst 0, 1) := by decide +kernel
theorem dX10_placeOf_4 : decode cX10_placeOf 4 = .ok (.iconst 1, 1) := by decide +kernel
theorem dX10_placeOf_5 : decode cX10_placeOf 5 = .ok (.invokevirtual 93, 3) := by decide +kernel
theorem dX10_placeOf_8 : decode cX10_placeOf 8 = .ok (.ireturn, 1) := by decide +kernel
theorem dX10_isGone_0 : decode cX10_isGone 0 = .ok (.aload_n 0, 1) := by decide +kernel
theorem dX10_isGone_1 : decode cX10_isGone 1 = .ok (.iload_n 1, 1) := by decide +kernel
theorem dX10_isGone_2 : decode cX10_isGone 2 = .ok (.iload_n 2, 1) := by decide +kernel
theorem dX10_isGone_3 : decode cX10_isGone 3 = .ok (.iconst 2, 1) := by decide +kernel
theorem dX10_isGone_4 : decode cX10_isGone 4 = .ok (.iconst 2, 1) := by decide +kernel
theorem dX10_isGone_5 : decode cX10_isGone 5 = .ok (.invokevirtual 93, 3) := by decide +kernel
theorem dX10_isGone_8 : decode cX10_isGone 8 = .ok (.ifCond .lt 7, 3) := by decide +kernel
theorem dX10_isGone_11 : decode cX10_isGone 11 = .ok (.iconst 1, 1) := by decide +kernel
theorem dX10_isGone_12 : decode cX10_isGone 12 = .ok (.goto 4, 3) := by decide +kernel
theorem dX10_isGone_15 : decode cX10_isGone 15 = .ok (.iconst 0, 1) := by decide +kernel
theorem dX10_isGone_16 : decode cX10_isGone 16 = .ok (.ireturn, 1) := by decide +kernel
theorem dX10_isSwept_0 : decode cX10_isSwept 0 = .ok (.iload_n 1, 1) := by decide +kernel
theorem dX10_isSwept_1 : decode cX10_isSwept 1 = .ok (.iconst 5, 1) := by decide +kernel
theorem dX10_isSwept_2 : decode cX10_isSwept 2 = .ok (.if_icmp .ge 21, 3) := by decide +kernel
theorem dX10_isSwept_5 : decode cX10_isSwept 5 = .ok (.aload_n 0, 1) := by decide +kernel
theorem dX10_isSwept_6 : decode cX10_isSwept 6 = .ok (.iload_n 1, 1) := by decide +kernel
theorem dX10_isSwept_7 : decode cX10_isSwept 7 = .ok (.sipush 294, 3) := by decide +kernel
theorem dX10_isSwept_10 : decode cX10_isSwept 10 = .ok (.iload_n 2, 1) := by decide +kernel
theorem dX10_isSwept_11 : decode cX10_isSwept 11 = .ok (.iadd, 1) := by decide +kernel
theorem dX10_isSwept_12 : decode cX10_isSwept 12 = .ok (.invokevirtual 81, 3) := by decide +kernel
theorem dX10_isSwept_15 : decode cX10_isSwept 15 = .ok (.iconst 1, 1) := by decide +kernel
theorem dX10_isSwept_16 : decode cX10_isSwept 16 = .ok (.if_icmp .ne 7, 3) := by decide +kernel
theorem dX10_isSwept_19 : decode cX10_isSwept 19 = .ok (.iconst 1, 1) := by decide +kernel
theorem dX10_isSwept_20 : decode cX10_isSwept 20 = .ok (.goto 4, 3) := by decide +kernel
theorem dX10_isSwept_23 : decode cX10_isSwept 23 = .ok (.iconst 0, 1) := by decide +kernel
theorem dX10_isSwept_24 : decode cX10_isSwept 24 = .ok (.ireturn, 1) := by decide +kernel
theorem dX10_isPlace_0 : decode cX10_isPlace 0 = .ok (.aload_n 0, 1) := by decide +kernel
theorem dX10_isPlace_1 : decode cX10_isPlace 1 = .ok (.iload_n 1, 1) := by decide +kernel
theorem dX10_isPlace_2 : decode cX10_isPlace 2 = .ok (.iload_n 2, 1) := by decide +kernel
theorem dX10_isPlace_3 : decode cX10_isPlace 3 = .ok (.invokevirtual 87, 3) := by decide +kernel
theorem dX10_isPlace_6 : decode cX10_isPlace 6 = .ok (.ifCond .eq 26, 3) := by decide +kernel
theorem dX10_isPlace_9 : decode cX10_isPlace 9 = .ok (.aload_n 0, 1) := by decide +kernel
theorem dX10_isPlace_10 : decode cX10_isPlace 10 = .ok (.iload_n 2, 1) := by decide +kernel
theorem dX10_isPlace_11 : decode cX10_isPlace 11 = .ok (.iconst 0, 1) := by decide +kernel
theorem dX10_isPlace_12 : decode cX10_isPlace 12 = .ok (.invokevirtual 84, 3) := by decide +kernel
theorem dX10_isPlace_15 : decode cX10_isPlace 15 = .ok (.iconst 1, 1) := by decide +kernel
theorem dX10_isPlace_16 : decode cX10_isPlace 16 = .ok (.if_icmp .gt 16, 3) := by decide +kernel
theorem dX10_isPlace_19 : decode cX10_isPlace 19 = .ok (.aload_n 0, 1) := by decide +kernel
theorem dX10_isPlace_20 : decode cX10_isPlace 20 = .ok (.iload_n 1, 1) := by decide +kernel
theorem dX10_isPlace_21 : decode cX10_isPlace 21 = .ok (.iload_n 2, 1) := by decide +kernel
theorem dX10_isPlace_22 : decode cX10_isPlace 22 = .ok (.invokevirtual 97, 3) := by decide +kernel
theorem dX10_isPlace_25 : decode cX10_isPlace 25 = .ok (.ifCond .ne 7, 3) := by decide +kernel
theorem dX10_isPlace_28 : decode cX10_isPlace 28 = .ok (.iconst 1, 1) := by decide +kernel
theorem dX10_isPlace_29 : decode cX10_isPlace 29 = .ok (.goto 4, 3) := by decide +kernel
theorem dX10_isPlace_32 : decode cX10_isPlace 32 = .ok (.iconst 0, 1) := by decide +kernel
theorem dX10_isPlace_33 : decode cX10_isPlace 33 = .ok (.ireturn, 1) := by decide +kernel
theorem dX10_behind_0 : decode cX10_behind 0 = .ok (.aload_n 0, 1) := by decide +kernel
theorem dX10_behind_1 : decode cX10_behind 1 = .ok (.aload_n 0, 1) := by decide +kernel
theorem dX10_behind_2 : decode cX10_behind 2 = .ok (.iload_n 2, 1) := by decide +kernel
theorem dX10_behind_3 : decode cX10_behind 3 = .ok (.iconst 3, 1) := by decide +kernel
theorem dX10_behind_4 : decode cX10_behind 4 = .ok (.invokevirtual 84, 3) := by decide +kernel
theorem dX10_behind_7 : decode cX10_behind 7 = .ok (.invokevirtual 100, 3) := by decide +kernel
theorem dX10_behind_10 : decode cX10_behind 10 = .ok (.istore_n 3, 1) := by decide +kernel
theorem dX10_behind_11 : decode cX10_behind 11 = .ok (.iload_n 3, 1) := by decide +kernel
theorem dX10_behind_12 : decode cX10_behind 12 = .ok (.ifCond .lt 16, 3) := by decide +kernel
theorem dX10_behind_15 : decode cX10_behind 15 = .ok (.aload_n 0, 1) := by decide +kernel
theorem dX10_behind_16 : decode cX10_behind 16 = .ok (.iload_n 1, 1) := by decide +kernel
theorem dX10_behind_17 : decode cX10_behind 17 = .ok (.iload_n 3, 1) := by decide +kernel
theorem dX10_behind_18 : decode cX10_behind 18 = .ok (.invokevirtual 103, 3) := by decide +kernel
theorem dX10_behind_21 : decode cX10_behind 21 = .ok (.ifCond .eq 7, 3) := by decide +kernel
theorem dX10_behind_24 : decode cX10_behind 24 = .ok (.iload_n 3, 1) := by decide +kernel
theorem dX10_behind_25 : decode cX10_behind 25 = .ok (.goto 4, 3) := by decide +kernel
theorem dX10_behind_28 : decode cX10_behind 28 = .ok (.iconst (-1), 1) := by decide +kernel
theorem dX10_behind_29 : decode cX10_behind 29 = .ok (.ireturn, 1) := by decide +kernel
theorem dX10_laysBehind_0 : decode cX10_laysBehind 0 = .ok (.iconst (-1), 1) := by decide +kernel
theorem dX10_laysBehind_1 : decode cX10_laysBehind 1 = .ok (.istore 4, 2) := by decide +kernel
theorem dX10_laysBehind_3 : decode cX10_laysBehind 3 = .ok (.iconst 1, 1) := by decide +kernel
theorem dX10_laysBehind_4 : decode cX10_laysBehind 4 = .ok (.istore 5, 2) := by decide +kernel
theorem dX10_laysBehind_6 : decode cX10_laysBehind 6 = .ok (.iload 5, 2) := by decide +kernel
theorem dX10_laysBehind_8 : decode cX10_laysBehind 8 = .ok (.ifCond .eq 162, 3) := by decide +kernel
theorem dX10_laysBehind_11 : decode cX10_laysBehind 11 = .ok (.iconst (-1), 1) := by decide +kernel
theorem dX10_laysBehind_12 : decode cX10_laysBehind 12 = .ok (.istore 6, 2) := by decide +kernel
theorem dX10_laysBehind_14 : decode cX10_laysBehind 14 = .ok (.iconst 0, 1) := by decide +kernel
theorem dX10_laysBehind_15 : decode cX10_laysBehind 15 = .ok (.istore 7, 2) := by decide +kernel
theorem dX10_laysBehind_17 : decode cX10_laysBehind 17 = .ok (.iload 7, 2) := by decide +kernel
theorem dX10_laysBehind_19 : decode cX10_laysBehind 19 = .ok (.sipush 200, 3) := by decide +kernel
theorem dX10_laysBehind_22 : decode cX10_laysBehind 22 = .ok (.if_icmp .ge 83, 3) := by decide +kernel
theorem dX10_laysBehind_25 : decode cX10_laysBehind 25 = .ok (.aload_n 0, 1) := by decide +kernel
theorem dX10_laysBehind_26 : decode cX10_laysBehind 26 = .ok (.iload_n 1, 1) := by decide +kernel
theorem dX10_laysBehind_27 : decode cX10_laysBehind 27 = .ok (.iload 7, 2) := by decide +kernel
theorem dX10_laysBehind_29 : decode cX10_laysBehind 29 = .ok (.invokevirtual 103, 3) := by decide +kernel
theorem dX10_laysBehind_32 : decode cX10_laysBehind 32 = .ok (.ifCond .eq 34, 3) := by decide +kernel
theorem dX10_laysBehind_35 : decode cX10_laysBehind 35 = .ok (.aload_n 0, 1) := by decide +kernel
theorem dX10_laysBehind_36 : decode cX10_laysBehind 36 = .ok (.iload_n 1, 1) := by decide +kernel
theorem dX10_laysBehind_37 : decode cX10_laysBehind 37 = .ok (.iload 7, 2) := by decide +kernel
theorem dX10_laysBehind_39 : decode cX10_laysBehind 39 = .ok (.invokevirtual 106, 3) := by decide +kernel
theorem dX10_laysBehind_42 : decode cX10_laysBehind 42 = .ok (.iload_n 2, 1) := by decide +kernel
theorem dX10_laysBehind_43 : decode cX10_laysBehind 43 = .ok (.if_icmp .ne 23, 3) := by decide +kernel
theorem dX10_laysBehind_46 : decode cX10_laysBehind 46 = .ok (.iload 4, 2) := by decide +kernel
theorem dX10_laysBehind_48 : decode cX10_laysBehind 48 = .ok (.ifCond .lt 14, 3) := by decide +kernel
theorem dX10_laysBehind_51 : decode cX10_laysBehind 51 = .ok (.aload_n 0, 1) := by decide +kernel
theorem dX10_laysBehind_52 : decode cX10_laysBehind 52 = .ok (.iload 4, 2) := by decide +kernel
theorem dX10_laysBehind_54 : decode cX10_laysBehind 54 = .ok (.iload 7, 2) := by decide +kernel
theorem dX10_laysBehind_56 : decode cX10_laysBehind 56 = .ok (.invokevirtual 90, 3) := by decide +kernel
theorem dX10_laysBehind_59 : decode cX10_laysBehind 59 = .ok (.ifCond .eq 7, 3) := by decide +kernel
theorem dX10_laysBehind_62 : decode cX10_laysBehind 62 = .ok (.iconst 1, 1) := by decide +kernel
theorem dX10_laysBehind_63 : decode cX10_laysBehind 63 = .ok (.goto 4, 3) := by decide +kernel
theorem dX10_laysBehind_66 : decode cX10_laysBehind 66 = .ok (.iconst 0, 1) := by decide +kernel
theorem dX10_laysBehind_67 : decode cX10_laysBehind 67 = .ok (.istore 8, 2) := by decide +kernel
theorem dX10_laysBehind_69 : decode cX10_laysBehind 69 = .ok (.iload 8, 2) := by decide +kernel
theorem dX10_laysBehind_71 : decode cX10_laysBehind 71 = .ok (.ifCond .eq 24, 3) := by decide +kernel
theorem dX10_laysBehind_74 : decode cX10_laysBehind 74 = .ok (.iload 6, 2) := by decide +kernel
theorem dX10_laysBehind_76 : decode cX10_laysBehind 76 = .ok (.ifCond .lt 14, 3) := by decide +kernel
theorem dX10_laysBehind_79 : decode cX10_laysBehind 79 = .ok (.aload_n 0, 1) := by decide +kernel
theorem dX10_laysBehind_80 : decode cX10_laysBehind 80 = .ok (.iload 7, 2) := by decide +kernel
theorem dX10_laysBehind_82 : decode cX10_laysBehind 82 = .ok (.iload 6, 2) := by decide +kernel
theorem dX10_laysBehind_84 : decode cX10_laysBehind 84 = .ok (.invokevirtual 90, 3) := by decide +kernel
theorem dX10_laysBehind_87 : decode cX10_laysBehind 87 = .ok (.ifCond .eq 8, 3) := by decide +kernel
theorem dX10_laysBehind_90 : decode cX10_laysBehind 90 = .ok (.iload 7, 2) := by decide +kernel
theorem dX10_laysBehind_92 : decode cX10_laysBehind 92 = .ok (.goto 5, 3) := by decide +kernel
theorem dX10_laysBehind_95 : decode cX10_laysBehind 95 = .ok (.iload 6, 2) := by decide +kernel
theorem dX10_laysBehind_97 : decode cX10_laysBehind 97 = .ok (.istore 6, 2) := by decide +kernel
theorem dX10_laysBehind_99 : decode cX10_laysBehind 99 = .ok (.iinc 7 1, 3) := by decide +kernel
theorem dX10_laysBehind_102 : decode cX10_laysBehind 102 = .ok (.goto (-85), 3) := by decide +kernel
theorem dX10_laysBehind_105 : decode cX10_laysBehind 105 = .ok (.iload 6, 2) := by decide +kernel
theorem dX10_laysBehind_107 : decode cX10_laysBehind 107 = .ok (.ifCond .lt 7, 3) := by decide +kernel
theorem dX10_laysBehind_110 : decode cX10_laysBehind 110 = .ok (.iconst 1, 1) := by decide +kernel
theorem dX10_laysBehind_111 : decode cX10_laysBehind 111 = .ok (.goto 4, 3) := by decide +kernel
theorem dX10_laysBehind_114 : decode cX10_laysBehind 114 = .ok (.iconst 0, 1) := by decide +kernel
theorem dX10_laysBehind_115 : decode cX10_laysBehind 115 = .ok (.istore 5, 2) := by decide +kernel
theorem dX10_laysBehind_117 : decode cX10_laysBehind 117 = .ok (.iload 5, 2) := by decide +kernel
theorem dX10_laysBehind_119 : decode cX10_laysBehind 119 = .ok (.ifCond .eq 48, 3) := by decide +kernel
theorem dX10_laysBehind_122 : decode cX10_laysBehind 122 = .ok (.aload_n 0, 1) := by decide +kernel
theorem dX10_laysBehind_123 : decode cX10_laysBehind 123 = .ok (.getfield 20, 3) := by decide +kernel
theorem dX10_laysBehind_126 : decode cX10_laysBehind 126 = .ok (.aload_n 0, 1) := by decide +kernel
theorem dX10_laysBehind_127 : decode cX10_laysBehind 127 = .ok (.getfield 109, 3) := by decide +kernel
theorem dX10_laysBehind_130 : decode cX10_laysBehind 130 = .ok (.iload 6, 2) := by decide +kernel
theorem dX10_laysBehind_132 : decode cX10_laysBehind 132 = .ok (.iastore, 1) := by decide +kernel
theorem dX10_laysBehind_133 : decode cX10_laysBehind 133 = .ok (.aload_n 0, 1) := by decide +kernel
theorem dX10_laysBehind_134 : decode cX10_laysBehind 134 = .ok (.getfield 23, 3) := by decide +kernel
theorem dX10_laysBehind_137 : decode cX10_laysBehind 137 = .ok (.aload_n 0, 1) := by decide +kernel
theorem dX10_laysBehind_138 : decode cX10_laysBehind 138 = .ok (.getfield 109, 3) := by decide +kernel
theorem dX10_laysBehind_141 : decode cX10_laysBehind 141 = .ok (.iload_n 3, 1) := by decide +kernel
theorem dX10_laysBehind_142 : decode cX10_laysBehind 142 = .ok (.iastore, 1) := by decide +kernel
theorem dX10_laysBehind_143 : decode cX10_laysBehind 143 = .ok (.aload_n 0, 1) := by decide +kernel
theorem dX10_laysBehind_144 : decode cX10_laysBehind 144 = .ok (.dup, 1) := by decide +kernel
theorem dX10_laysBehind_145 : decode cX10_laysBehind 145 = .ok (.getfield 109, 3) := by decide +kernel
theorem dX10_laysBehind_148 : decode cX10_laysBehind 148 = .ok (.iconst 1, 1) := by decide +kernel
theorem dX10_laysBehind_149 : decode cX10_laysBehind 149 = .ok (.iadd, 1) := by decide +kernel
theorem dX10_laysBehind_150 : decode cX10_laysBehind 150 = .ok (.putfield 109, 3) := by decide +kernel
theorem dX10_laysBehind_153 : decode cX10_laysBehind 153 = .ok (.aload_n 0, 1) := by decide +kernel
theorem dX10_laysBehind_154 : decode cX10_laysBehind 154 = .ok (.iload_n 1, 1) := by decide +kernel
theorem dX10_laysBehind_155 : decode cX10_laysBehind 155 = .ok (.iload 6, 2) := by decide +kernel
theorem dX10_laysBehind_157 : decode cX10_laysBehind 157 = .ok (.iload_n 3, 1) := by decide +kernel
theorem dX10_laysBehind_158 : decode cX10_laysBehind 158 = .ok (.iconst 1, 1) := by decide +kernel
theorem dX10_laysBehind_159 : decode cX10_laysBehind 159 = .ok (.iadd, 1) := by decide +kernel
theorem dX10_laysBehind_160 : decode cX10_laysBehind 160 = .ok (.invokevirtual 112, 3) := by decide +kernel
theorem dX10_laysBehind_163 : decode cX10_laysBehind 163 = .ok (.iload 6, 2) := by decide +kernel
theorem dX10_laysBehind_165 : decode cX10_laysBehind 165 = .ok (.istore 4, 2) := by decide +kernel
theorem dX10_laysBehind_167 : decode cX10_laysBehind 167 = .ok (.goto (-161), 3) := by decide +kernel
theorem dX10_laysBehind_170 : decode cX10_laysBehind 170 = .ok (.return_, 1) := by decide +kernel
theorem dX10_laysOrder_0 : decode cX10_laysOrder 0 = .ok (.aload_n 0, 1) := by decide +kernel
theorem dX10_laysOrder_1 : decode cX10_laysOrder 1 = .ok (.iconst 0, 1) := by decide +kernel
theorem dX10_laysOrder_2 : decode cX10_laysOrder 2 = .ok (.putfield 109, 3) := by decide +kernel
theorem dX10_laysOrder_5 : decode cX10_laysOrder 5 = .ok (.aload_n 0, 1) := by decide +kernel
theorem dX10_laysOrder_6 : decode cX10_laysOrder 6 = .ok (.iload_n 1, 1) := by decide +kernel
theorem dX10_laysOrder_7 : decode cX10_laysOrder 7 = .ok (.iconst (-1), 1) := by decide +kernel
theorem dX10_laysOrder_8 : decode cX10_laysOrder 8 = .ok (.iconst 1, 1) := by decide +kernel
theorem dX10_laysOrder_9 : decode cX10_laysOrder 9 = .ok (.invokevirtual 112, 3) := by decide +kernel
theorem dX10_laysOrder_12 : decode cX10_laysOrder 12 = .ok (.return_, 1) := by decide +kernel
theorem dX10_laysList_0 : decode cX10_laysList 0 = .ok (.aload_n 0, 1) := by decide +kernel
theorem dX10_laysList_1 : decode cX10_laysList 1 = .ok (.iload_n 1, 1) := by decide +kernel
theorem dX10_laysList_2 : decode cX10_laysList 2 = .ok (.invokevirtual 116, 3) := by decide +kernel
theorem dX10_laysList_5 : decode cX10_laysList 5 = .ok (.aload_n 0, 1) := by decide +kernel
theorem dX10_laysList_6 : decode cX10_laysList 6 = .ok (.iconst 0, 1) := by decide +kernel
theorem dX10_laysList_7 : decode cX10_laysList 7 = .ok (.putfield 119, 3) := by decide +kernel
theorem dX10_laysList_10 : decode cX10_laysList 10 = .ok (.iconst 0, 1) := by decide +kernel
theorem dX10_laysList_11 : decode cX10_laysList 11 = .ok (.istore_n 2, 1) := by decide +kernel
theorem dX10_laysList_12 : decode cX10_laysList 12 = .ok (.iload_n 2, 1) := by decide +kernel
theorem dX10_laysList_13 : decode cX10_laysList 13 = .ok (.aload_n 0, 1) := by decide +kernel
theorem dX10_laysList_14 : decode cX10_laysList 14 = .ok (.getfield 109, 3) := by decide +kernel
theorem dX10_laysList_17 : decode cX10_laysList 17 = .ok (.if_icmp .ge 70, 3) := by decide +kernel
theorem dX10_laysList_20 : decode cX10_laysList 20 = .ok (.aload_n 0, 1) := by decide +kernel
theorem dX10_laysList_21 : decode cX10_laysList 21 = .ok (.aload_n 0, 1) := by decide +kernel
theorem dX10_laysList_22 : decode cX10_laysList 22 = .ok (.getfield 20, 3) := by decide +kernel
theorem dX10_laysList_25 : decode cX10_laysList 25 = .ok (.iload_n 2, 1) := by decide +kernel
theorem dX10_laysList_26 : decode cX10_laysList 26 = .ok (.iaload, 1) := by decide +kernel
theorem dX10_laysList_27 : decode cX10_laysList 27 = .ok (.iconst 2, 1) := by decide +kernel
theorem dX10_laysList_28 : decode cX10_laysList 28 = .ok (.invokevirtual 84, 3) := by decide +kernel
theorem dX10_laysList_31 : decode cX10_laysList 31 = .ok (.istore_n 3, 1) := by decide +kernel
theorem dX10_laysList_32 : decode cX10_laysList 32 = .ok (.aload_n 0, 1) := by decide +kernel
theorem dX10_laysList_33 : decode cX10_laysList 33 = .ok (.iload_n 1, 1) := by decide +kernel
theorem dX10_laysList_34 : decode cX10_laysList 34 = .ok (.iload_n 3, 1) := by decide +kernel
theorem dX10_laysList_35 : decode cX10_laysList 35 = .ok (.invokevirtual 122, 3) := by decide +kernel
theorem dX10_laysList_38 : decode cX10_laysList 38 = .ok (.aload_n 0, 1) := by decide +kernel
theorem dX10_laysList_39 : decode cX10_laysList 39 = .ok (.getfield 20, 3) := by decide +kernel
theorem dX10_laysList_42 : decode cX10_laysList 42 = .ok (.iload_n 2, 1) := by decide +kernel
theorem dX10_laysList_43 : decode cX10_laysList 43 = .ok (.iaload, 1) := by decide +kernel
theorem dX10_laysList_44 : decode cX10_laysList 44 = .ok (.if_icmp .ne 37, 3) := by decide +kernel
theorem dX10_laysList_47 : decode cX10_laysList 47 = .ok (.aload_n 0, 1) := by decide +kernel
theorem dX10_laysList_48 : decode cX10_laysList 48 = .ok (.iload_n 1, 1) := by decide +kernel
theorem dX10_laysList_49 : decode cX10_laysList 49 = .ok (.iload_n 3, 1) := by decide +kernel
theorem dX10_laysList_50 : decode cX10_laysList 50 = .ok (.invokevirtual 125, 3) := by decide +kernel
theorem dX10_laysList_53 : decode cX10_laysList 53 = .ok (.ifCond .ne 28, 3) := by decide +kernel
theorem dX10_laysList_56 : decode cX10_laysList 56 = .ok (.aload_n 0, 1) := by decide +kernel
theorem dX10_laysList_57 : decode cX10_laysList 57 = .ok (.getfield 26, 3) := by decide +kernel
theorem dX10_laysList_60 : decode cX10_laysList 60 = .ok (.aload_n 0, 1) := by decide +kernel
theorem dX10_laysList_61 : decode cX10_laysList 61 = .ok (.getfield 119, 3) := by decide +kernel
theorem dX10_laysList_64 : decode cX10_laysList 64 = .ok (.aload_n 0, 1) := by decide +kernel
theorem dX10_laysList_65 : decode cX10_laysList 65 = .ok (.getfield 20, 3) := by decide +kernel
theorem dX10_laysList_68 : decode cX10_laysList 68 = .ok (.iload_n 2, 1) := by decide +kernel
theorem dX10_laysList_69 : decode cX10_laysList 69 = .ok (.iaload, 1) := by decide +kernel
theorem dX10_laysList_70 : decode cX10_laysList 70 = .ok (.iastore, 1) := by decide +kernel
theorem dX10_laysList_71 : decode cX10_laysList 71 = .ok (.aload_n 0, 1) := by decide +kernel
theorem dX10_laysList_72 : decode cX10_laysList 72 = .ok (.dup, 1) := by decide +kernel
theorem dX10_laysList_73 : decode cX10_laysList 73 = .ok (.getfield 119, 3) := by decide +kernel
theorem dX10_laysList_76 : decode cX10_laysList 76 = .ok (.iconst 1, 1) := by decide +kernel
theorem dX10_laysList_77 : decode cX10_laysList 77 = .ok (.iadd, 1) := by decide +kernel
theorem dX10_laysList_78 : decode cX10_laysList 78 = .ok (.putfield 119, 3) := by decide +kernel
theorem dX10_laysList_81 : decode cX10_laysList 81 = .ok (.iinc 2 1, 3) := by decide +kernel
theorem dX10_laysList_84 : decode cX10_laysList 84 = .ok (.goto (-72), 3) := by decide +kernel
theorem dX10_laysList_87 : decode cX10_laysList 87 = .ok (.return_, 1) := by decide +kernel
theorem dX10_elementAt_0 : decode cX10_elementAt 0 = .ok (.aload_n 0, 1) := by decide +kernel
theorem dX10_elementAt_1 : decode cX10_elementAt 1 = .ok (.aload_n 0, 1) := by decide +kernel
theorem dX10_elementAt_2 : decode cX10_elementAt 2 = .ok (.getfield 26, 3) := by decide +kernel
theorem dX10_elementAt_5 : decode cX10_elementAt 5 = .ok (.iload_n 1, 1) := by decide +kernel
theorem dX10_elementAt_6 : decode cX10_elementAt 6 = .ok (.iaload, 1) := by decide +kernel
theorem dX10_elementAt_7 : decode cX10_elementAt 7 = .ok (.iconst 2, 1) := by decide +kernel
theorem dX10_elementAt_8 : decode cX10_elementAt 8 = .ok (.invokevirtual 84, 3) := by decide +kernel
theorem dX10_elementAt_11 : decode cX10_elementAt 11 = .ok (.ireturn, 1) := by decide +kernel
theorem dX10_letterOf_0 : decode cX10_letterOf 0 = .ok (.aload_n 0, 1) := by decide +kernel
theorem dX10_letterOf_1 : decode cX10_letterOf 1 = .ok (.aload_n 0, 1) := by decide +kernel
theorem dX10_letterOf_2 : decode cX10_letterOf 2 = .ok (.iload_n 1, 1) := by decide +kernel
theorem dX10_letterOf_3 : decode cX10_letterOf 3 = .ok (.iload_n 2, 1) := by decide +kernel
theorem dX10_letterOf_4 : decode cX10_letterOf 4 = .ok (.iconst 0, 1) := by decide +kernel
theorem dX10_letterOf_5 : decode cX10_letterOf 5 = .ok (.iconst 3, 1) := by decide +kernel
theorem dX10_letterOf_6 : decode cX10_letterOf 6 = .ok (.invokevirtual 93, 3) := by decide +kernel
theorem dX10_letterOf_9 : decode cX10_letterOf 9 = .ok (.iconst 4, 1) := by decide +kernel
theorem dX10_letterOf_10 : decode cX10_letterOf 10 = .ok (.invokevirtual 84, 3) := by decide +kernel
theorem dX10_letterOf_13 : decode cX10_letterOf 13 = .ok (.ireturn, 1) := by decide +kernel
theorem dX10_posts_0 : decode cX10_posts 0 = .ok (.aload_n 0, 1) := by decide +kernel
theorem dX10_posts_1 : decode cX10_posts 1 = .ok (.iload_n 1, 1) := by decide +kernel
theorem dX10_posts_2 : decode cX10_posts 2 = .ok (.bipush 7, 2) := by decide +kernel
theorem dX10_posts_4 : decode cX10_posts 4 = .ok (.invokevirtual 81, 3) := by decide +kernel
theorem dX10_posts_7 : decode cX10_posts 7 = .ok (.istore_n 3, 1) := by decide +kernel
theorem dX10_posts_8 : decode cX10_posts 8 = .ok (.iload_n 3, 1) := by decide +kernel
theorem dX10_posts_9 : decode cX10_posts 9 = .ok (.bipush 60, 2) := by decide +kernel
theorem dX10_posts_11 : decode cX10_posts 11 = .ok (.if_icmp .ne 14, 3) := by decide +kernel
theorem dX10_posts_14 : decode cX10_posts 14 = .ok (.aload_n 0, 1) := by decide +kernel
theorem dX10_posts_15 : decode cX10_posts 15 = .ok (.getfield 13, 3) := by decide +kernel
theorem dX10_posts_18 : decode cX10_posts 18 = .ok (.iconst 1, 1) := by decide +kernel
theorem dX10_posts_19 : decode cX10_posts 19 = .ok (.dup2, 1) := by decide +kernel
theorem dX10_posts_20 : decode cX10_posts 20 = .ok (.iaload, 1) := by decide +kernel
theorem dX10_posts_21 : decode cX10_posts 21 = .ok (.iconst 1, 1) := by decide +kernel
theorem dX10_posts_22 : decode cX10_posts 22 = .ok (.iadd, 1) := by decide +kernel
theorem dX10_posts_23 : decode cX10_posts 23 = .ok (.iastore, 1) := by decide +kernel
theorem dX10_posts_24 : decode cX10_posts 24 = .ok (.return_, 1) := by decide +kernel
theorem dX10_posts_25 : decode cX10_posts 25 = .ok (.aload_n 0, 1) := by decide +kernel
theorem dX10_posts_26 : decode cX10_posts 26 = .ok (.getfield 13, 3) := by decide +kernel
theorem dX10_posts_29 : decode cX10_posts 29 = .ok (.aload_n 0, 1) := by decide +kernel
theorem dX10_posts_30 : decode cX10_posts 30 = .ok (.iload_n 1, 1) := by decide +kernel
theorem dX10_posts_31 : decode cX10_posts 31 = .ok (.bipush 8, 2) := by decide +kernel
theorem dX10_posts_33 : decode cX10_posts 33 = .ok (.iload_n 3, 1) := by decide +kernel
theorem dX10_posts_34 : decode cX10_posts 34 = .ok (.iadd, 1) := by decide +kernel
theorem dX10_posts_35 : decode cX10_posts 35 = .ok (.invokevirtual 59, 3) := by decide +kernel
theorem dX10_posts_38 : decode cX10_posts 38 = .ok (.iload_n 2, 1) := by decide +kernel
theorem dX10_posts_39 : decode cX10_posts 39 = .ok (.iastore, 1) := by decide +kernel
theorem dX10_posts_40 : decode cX10_posts 40 = .ok (.aload_n 0, 1) := by decide +kernel
theorem dX10_posts_41 : decode cX10_posts 41 = .ok (.getfield 13, 3) := by decide +kernel
theorem dX10_posts_44 : decode cX10_posts 44 = .ok (.aload_n 0, 1) := by decide +kernel
theorem dX10_posts_45 : decode cX10_posts 45 = .ok (.iload_n 1, 1) := by decide +kernel
theorem dX10_posts_46 : decode cX10_posts 46 = .ok (.bipush 7, 2) := by decide +kernel
theorem dX10_posts_48 : decode cX10_posts 48 = .ok (.invokevirtual 59, 3) := by decide +kernel
theorem dX10_posts_51 : decode cX10_posts 51 = .ok (.dup2, 1) := by decide +kernel
theorem dX10_posts_52 : decode cX10_posts 52 = .ok (.iaload, 1) := by decide +kernel
theorem dX10_posts_53 : decode cX10_posts 53 = .ok (.iconst 1, 1) := by decide +kernel
theorem dX10_posts_54 : decode cX10_posts 54 = .ok (.iadd, 1) := by decide +kernel
theorem dX10_posts_55 : decode cX10_posts 55 = .ok (.iastore, 1) := by decide +kernel
theorem dX10_posts_56 : decode cX10_posts 56 = .ok (.return_, 1) := by decide +kernel
theorem dX10_makes_0 : decode cX10_makes 0 = .ok (.aload_n 0, 1) := by decide +kernel
theorem dX10_makes_1 : decode cX10_makes 1 = .ok (.getfield 13, 3) := by decide +kernel
theorem dX10_makes_4 : decode cX10_makes 4 = .ok (.iconst 2, 1) := by decide +kernel
theorem dX10_makes_5 : decode cX10_makes 5 = .ok (.iload_n 1, 1) := by decide +kernel
theorem dX10_makes_6 : decode cX10_makes 6 = .ok (.iadd, 1) := by decide +kernel
theorem dX10_makes_7 : decode cX10_makes 7 = .ok (.iaload, 1) := by decide +kernel
theorem dX10_makes_8 : decode cX10_makes 8 = .ok (.istore 6, 2) := by decide +kernel
theorem dX10_makes_10 : decode cX10_makes 10 = .ok (.bipush 40, 2) := by decide +kernel
theorem dX10_makes_12 : decode cX10_makes 12 = .ok (.iload_n 1, 1) := by decide +kernel
theorem dX10_makes_13 : decode cX10_makes 13 = .ok (.imul, 1) := by decide +kernel
theorem dX10_makes_14 : decode cX10_makes 14 = .ok (.iload 6, 2) := by decide +kernel
theorem dX10_makes_16 : decode cX10_makes 16 = .ok (.iadd, 1) := by decide +kernel
theorem dX10_makes_17 : decode cX10_makes 17 = .ok (.istore 7, 2) := by decide +kernel
theorem dX10_makes_19 : decode cX10_makes 19 = .ok (.aload_n 0, 1) := by decide +kernel
theorem dX10_makes_20 : decode cX10_makes 20 = .ok (.getfield 13, 3) := by decide +kernel
theorem dX10_makes_23 : decode cX10_makes 23 = .ok (.iconst 2, 1) := by decide +kernel
theorem dX10_makes_24 : decode cX10_makes 24 = .ok (.iload_n 1, 1) := by decide +kernel
theorem dX10_makes_25 : decode cX10_makes 25 = .ok (.iadd, 1) := by decide +kernel
theorem dX10_makes_26 : decode cX10_makes 26 = .ok (.dup2, 1) := by decide +kernel
theorem dX10_makes_27 : decode cX10_makes 27 = .ok (.iaload, 1) := by decide +kernel
theorem dX10_makes_28 : decode cX10_makes 28 = .ok (.iconst 1, 1) := by decide +kernel
theorem dX10_makes_29 : decode cX10_makes 29 = .ok (.iadd, 1) := by decide +kernel
theorem dX10_makes_30 : decode cX10_makes 30 = .ok (.iastore, 1) := by decide +kernel
theorem dX10_makes_31 : decode cX10_makes 31 = .ok (.aload_n 0, 1) := by decide +kernel
theorem dX10_makes_32 : decode cX10_makes 32 = .ok (.getfield 13, 3) := by decide +kernel
theorem dX10_makes_35 : decode cX10_makes 35 = .ok (.aload_n 0, 1) := by decide +kernel
theorem dX10_makes_36 : decode cX10_makes 36 = .ok (.iload_n 1, 1) := by decide +kernel
theorem dX10_makes_37 : decode cX10_makes 37 = .ok (.bipush 6, 2) := by decide +kernel
theorem dX10_makes_39 : decode cX10_makes 39 = .ok (.invokevirtual 59, 3) := by decide +kernel
theorem dX10_makes_42 : decode cX10_makes 42 = .ok (.dup2, 1) := by decide +kernel
theorem dX10_makes_43 : decode cX10_makes 43 = .ok (.iaload, 1) := by decide +kernel
theorem dX10_makes_44 : decode cX10_makes 44 = .ok (.iconst 1, 1) := by decide +kernel
theorem dX10_makes_45 : decode cX10_makes 45 = .ok (.iadd, 1) := by decide +kernel
theorem dX10_makes_46 : decode cX10_makes 46 = .ok (.iastore, 1) := by decide +kernel
theorem dX10_makes_47 : decode cX10_makes 47 = .ok (.bipush 8, 2) := by decide +kernel
theorem dX10_makes_49 : decode cX10_makes 49 = .ok (.bipush 10, 2) := by decide +kernel
theorem dX10_makes_51 : decode cX10_makes 51 = .ok (.iload 7, 2) := by decide +kernel
theorem dX10_makes_53 : decode cX10_makes 53 = .ok (.imul, 1) := by decide +kernel
theorem dX10_makes_54 : decode cX10_makes 54 = .ok (.iadd, 1) := by decide +kernel
theorem dX10_makes_55 : decode cX10_makes 55 = .ok (.istore 8, 2) := by decide +kernel
theorem dX10_makes_57 : decode cX10_makes 57 = .ok (.aload_n 0, 1) := by decide +kernel
theorem dX10_makes_58 : decode cX10_makes 58 = .ok (.getfield 13, 3) := by decide +kernel
theorem dX10_makes_61 : decode cX10_makes 61 = .ok (.iload 8, 2) := by decide +kernel
theorem dX10_makes_63 : decode cX10_makes 63 = .ok (.iconst 0, 1) := by decide +kernel
theorem dX10_makes_64 : decode cX10_makes 64 = .ok (.iadd, 1) := by decide +kernel
theorem dX10_makes_65 : decode cX10_makes 65 = .ok (.iload_n 2, 1) := by decide +kernel
theorem dX10_makes_66 : decode cX10_makes 66 = .ok (.iastore, 1) := by decide +kernel
theorem dX10_makes_67 : decode cX10_makes 67 = .ok (.aload_n 0, 1) := by decide +kernel
theorem dX10_makes_68 : decode cX10_makes 68 = .ok (.getfield 13, 3) := by decide +kernel
theorem dX10_makes_71 : decode cX10_makes 71 = .ok (.iload 8, 2) := by decide +kernel
theorem dX10_makes_73 : decode cX10_makes 73 = .ok (.iconst 1, 1) := by decide +kernel
theorem dX10_makes_74 : decode cX10_makes 74 = .ok (.iadd, 1) := by decide +kernel
theorem dX10_makes_75 : decode cX10_makes 75 = .ok (.aload_n 0, 1) := by decide +kernel
theorem dX10_makes_76 : decode cX10_makes 76 = .ok (.iload_n 1, 1) := by decide +kernel
theorem dX10_makes_77 : decode cX10_makes 77 = .ok (.bipush 6, 2) := by decide +kernel
theorem dX10_makes_79 : decode cX10_makes 79 = .ok (.invokevirtual 81, 3) := by decide +kernel
theorem dX10_makes_82 : decode cX10_makes 82 = .ok (.iastore, 1) := by decide +kernel
theorem dX10_makes_83 : decode cX10_makes 83 = .ok (.aload_n 0, 1) := by decide +kernel
theorem dX10_makes_84 : decode cX10_makes 84 = .ok (.getfield 13, 3) := by decide +kernel
theorem dX10_makes_87 : decode cX10_makes 87 = .ok (.iload 8, 2) := by decide +kernel
theorem dX10_makes_89 : decode cX10_makes 89 = .ok (.iconst 2, 1) := by decide +kernel
theorem dX10_makes_90 : decode cX10_makes 90 = .ok (.iadd, 1) := by decide +kernel
theorem dX10_makes_91 : decode cX10_makes 91 = .ok (.iload_n 2, 1) := by decide +kernel
theorem dX10_makes_92 : decode cX10_makes 92 = .ok (.ifCond .ne 11, 3) := by decide +kernel
theorem dX10_makes_95 : decode cX10_makes 95 = .ok (.iload 7, 2) := by decide +kernel
theorem dX10_makes_97 : decode cX10_makes 97 = .ok (.invokestatic 128, 3) := by decide +kernel
theorem dX10_makes_100 : decode cX10_makes 100 = .ok (.goto 4, 3) := by decide +kernel
theorem dX10_makes_103 : decode cX10_makes 103 = .ok (.iload_n 3, 1) := by decide +kernel
theorem dX10_makes_104 : decode cX10_makes 104 = .ok (.iastore, 1) := by decide +kernel
theorem dX10_makes_105 : decode cX10_makes 105 = .ok (.aload_n 0, 1) := by decide +kernel
theorem dX10_makes_106 : decode cX10_makes 106 = .ok (.getfield 13, 3) := by decide +kernel
theorem dX10_makes_109 : decode cX10_makes 109 = .ok (.iload 8, 2) := by decide +kernel
theorem dX10_makes_111 : decode cX10_makes 111 = .ok (.iconst 3, 1) := by decide +kernel
theorem dX10_makes_112 : decode cX10_makes 112 = .ok (.iadd, 1) := by decide +kernel
theorem dX10_makes_113 : decode cX10_makes 113 = .ok (.iload 4, 2) := by decide +kernel
theorem dX10_makes_115 : decode cX10_makes 115 = .ok (.iastore, 1) := by decide +kernel
theorem dX10_makes_116 : decode cX10_makes 116 = .ok (.aload_n 0, 1) := by decide +kernel
theorem dX10_makes_117 : decode cX10_makes 117 = .ok (.getfield 13, 3) := by decide +kernel
theorem dX10_makes_120 : decode cX10_makes 120 = .ok (.iload 8, 2) := by decide +kernel
theorem dX10_makes_122 : decode cX10_makes 122 = .ok (.iconst 4, 1) := by decide +kernel
theorem dX10_makes_123 : decode cX10_makes 123 = .ok (.iadd, 1) := by decide +kernel
theorem dX10_makes_124 : decode cX10_makes 124 = .ok (.iload 5, 2) := by decide +kernel
theorem dX10_makes_126 : decode cX10_makes 126 = .ok (.iastore, 1) := by decide +kernel
theorem dX10_makes_127 : decode cX10_makes 127 = .ok (.iconst 0, 1) := by decide +kernel
theorem dX10_makes_128 : decode cX10_makes 128 = .ok (.istore 9, 2) := by decide +kernel
theorem dX10_makes_130 : decode cX10_makes 130 = .ok (.iload 9, 2) := by decide +kernel
theorem dX10_makes_132 : decode cX10_makes 132 = .ok (.iconst 5, 1) := by decide +kernel
theorem dX10_makes_133 : decode cX10_makes 133 = .ok (.if_icmp .ge 30, 3) := by decide +kernel
theorem dX10_makes_136 : decode cX10_makes 136 = .ok (.aload_n 0, 1) := by decide +kernel
theorem dX10_makes_137 : decode cX10_makes 137 = .ok (.getfield 13, 3) := by decide +kernel
theorem dX10_makes_140 : decode cX10_makes 140 = .ok (.iload 8, 2) := by decide +kernel
theorem dX10_makes_142 : decode cX10_makes 142 = .ok (.iconst 5, 1) := by decide +kernel
theorem dX10_makes_143 : decode cX10_makes 143 = .ok (.iadd, 1) := by decide +kernel
theorem dX10_makes_144 : decode cX10_makes 144 = .ok (.iload 9, 2) := by decide +kernel
theorem dX10_makes_146 : decode cX10_makes 146 = .ok (.iadd, 1) := by decide +kernel
theorem dX10_makes_147 : decode cX10_makes 147 = .ok (.aload_n 0, 1) := by decide +kernel
theorem dX10_makes_148 : decode cX10_makes 148 = .ok (.iload_n 1, 1) := by decide +kernel
theorem dX10_makes_149 : decode cX10_makes 149 = .ok (.iconst 0, 1) := by decide +kernel
theorem dX10_makes_150 : decode cX10_makes 150 = .ok (.iload 9, 2) := by decide +kernel
theorem dX10_makes_152 : decode cX10_makes 152 = .ok (.iadd, 1) := by decide +kernel
theorem dX10_makes_153 : decode cX10_makes 153 = .ok (.invokevirtual 81, 3) := by decide +kernel
theorem dX10_makes_156 : decode cX10_makes 156 = .ok (.iastore, 1) := by decide +kernel
theorem dX10_makes_157 : decode cX10_makes 157 = .ok (.iinc 9 1, 3) := by decide +kernel
theorem dX10_makes_160 : decode cX10_makes 160 = .ok (.goto (-30), 3) := by decide +kernel
theorem dX10_makes_163 : decode cX10_makes 163 = .ok (.aload_n 0, 1) := by decide +kernel
theorem dX10_makes_164 : decode cX10_makes 164 = .ok (.getfield 13, 3) := by decide +kernel
theorem dX10_makes_167 : decode cX10_makes 167 = .ok (.aload_n 0, 1) := by decide +kernel
theorem dX10_makes_168 : decode cX10_makes 168 = .ok (.iload_n 1, 1) := by decide +kernel
theorem dX10_makes_169 : decode cX10_makes 169 = .ok (.iconst 0, 1) := by decide +kernel
theorem dX10_makes_170 : decode cX10_makes 170 = .ok (.iload_n 1, 1) := by decide +kernel
theorem dX10_makes_171 : decode cX10_makes 171 = .ok (.iadd, 1) := by decide +kernel
theorem dX10_makes_172 : decode cX10_makes 172 = .ok (.invokevirtual 59, 3) := by decide +kernel
theorem dX10_makes_175 : decode cX10_makes 175 = .ok (.dup2, 1) := by decide +kernel
theorem dX10_makes_176 : decode cX10_makes 176 = .ok (.iaload, 1) := by decide +kernel
theorem dX10_makes_177 : decode cX10_makes 177 = .ok (.iconst 1, 1) := by decide +kernel
theorem dX10_makes_178 : decode cX10_makes 178 = .ok (.iadd, 1) := by decide +kernel
theorem dX10_makes_179 : decode cX10_makes 179 = .ok (.iastore, 1) := by decide +kernel
theorem dX10_makes_180 : decode cX10_makes 180 = .ok (.iconst 0, 1) := by decide +kernel
theorem dX10_makes_181 : decode cX10_makes 181 = .ok (.istore 9, 2) := by decide +kernel
theorem dX10_makes_183 : decode cX10_makes 183 = .ok (.iload 9, 2) := by decide +kernel
theorem dX10_makes_185 : decode cX10_makes 185 = .ok (.aload_n 0, 1) := by decide +kernel
theorem dX10_makes_186 : decode cX10_makes 186 = .ok (.getfield 13, 3) := by decide +kernel
theorem dX10_makes_189 : decode cX10_makes 189 = .ok (.iconst 0, 1) := by decide +kernel
theorem dX10_makes_190 : decode cX10_makes 190 = .ok (.iaload, 1) := by decide +kernel
theorem dX10_makes_191 : decode cX10_makes 191 = .ok (.if_icmp .ge 23, 3) := by decide +kernel
theorem dX10_makes_194 : decode cX10_makes 194 = .ok (.iload 9, 2) := by decide +kernel
theorem dX10_makes_196 : decode cX10_makes 196 = .ok (.iload_n 1, 1) := by decide +kernel
theorem dX10_makes_197 : decode cX10_makes 197 = .ok (.if_icmp .eq 11, 3) := by decide +kernel
theorem dX10_makes_200 : decode cX10_makes 200 = .ok (.aload_n 0, 1) := by decide +kernel
theorem dX10_makes_201 : decode cX10_makes 201 = .ok (.iload 9, 2) := by decide +kernel
theorem dX10_makes_203 : decode cX10_makes 203 = .ok (.iload 7, 2) := by decide +kernel
theorem dX10_makes_205 : decode cX10_makes 205 = .ok (.invokevirtual 131, 3) := by decide +kernel
theorem dX10_makes_208 : decode cX10_makes 208 = .ok (.iinc 9 1, 3) := by decide +kernel
theorem dX10_makes_211 : decode cX10_makes 211 = .ok (.goto (-28), 3) := by decide +kernel
theorem dX10_makes_214 : decode cX10_makes 214 = .ok (.iload 7, 2) := by decide +kernel
theorem dX10_makes_216 : decode cX10_makes 216 = .ok (.invokestatic 128, 3) := by decide +kernel
theorem dX10_makes_219 : decode cX10_makes 219 = .ok (.ireturn, 1) := by decide +kernel
theorem dX10_canMake_0 : decode cX10_canMake 0 = .ok (.aload_n 0, 1) := by decide +kernel
theorem dX10_canMake_1 : decode cX10_canMake 1 = .ok (.iload_n 1, 1) := by decide +kernel
theorem dX10_canMake_2 : decode cX10_canMake 2 = .ok (.invokevirtual 63, 3) := by decide +kernel
theorem dX10_canMake_5 : decode cX10_canMake 5 = .ok (.ifCond .eq 20, 3) := by decide +kernel
theorem dX10_canMake_8 : decode cX10_canMake 8 = .ok (.aload_n 0, 1) := by decide +kernel
theorem dX10_canMake_9 : decode cX10_canMake 9 = .ok (.getfield 13, 3) := by decide +kernel
theorem dX10_canMake_12 : decode cX10_canMake 12 = .ok (.iconst 2, 1) := by decide +kernel
theorem dX10_canMake_13 : decode cX10_canMake 13 = .ok (.iload_n 1, 1) := by decide +kernel
theorem dX10_canMake_14 : decode cX10_canMake 14 = .ok (.iadd, 1) := by decide +kernel
theorem dX10_canMake_15 : decode cX10_canMake 15 = .ok (.iaload, 1) := by decide +kernel
theorem dX10_canMake_16 : decode cX10_canMake 16 = .ok (.bipush 40, 2) := by decide +kernel
theorem dX10_canMake_18 : decode cX10_canMake 18 = .ok (.if_icmp .ge 7, 3) := by decide +kernel
theorem dX10_canMake_21 : decode cX10_canMake 21 = .ok (.iconst 1, 1) := by decide +kernel
theorem dX10_canMake_22 : decode cX10_canMake 22 = .ok (.goto 4, 3) := by decide +kernel
theorem dX10_canMake_25 : decode cX10_canMake 25 = .ok (.iconst 0, 1) := by decide +kernel
theorem dX10_canMake_26 : decode cX10_canMake 26 = .ok (.ireturn, 1) := by decide +kernel
theorem dX10_placeAhead_0 : decode cX10_placeAhead 0 = .ok (.iconst 0, 1) := by decide +kernel
theorem dX10_placeAhead_1 : decode cX10_placeAhead 1 = .ok (.istore_n 3, 1) := by decide +kernel
theorem dX10_placeAhead_2 : decode cX10_placeAhead 2 = .ok (.iconst 0, 1) := by decide +kernel
theorem dX10_placeAhead_3 : decode cX10_placeAhead 3 = .ok (.istore 4, 2) := by decide +kernel
theorem dX10_placeAhead_5 : decode cX10_placeAhead 5 = .ok (.iload 4, 2) := by decide +kernel
theorem dX10_placeAhead_7 : decode cX10_placeAhead 7 = .ok (.aload_n 0, 1) := by decide +kernel
theorem dX10_placeAhead_8 : decode cX10_placeAhead 8 = .ok (.getfield 119, 3) := by decide +kernel
theorem dX10_placeAhead_11 : decode cX10_placeAhead 11 = .ok (.if_icmp .ge 34, 3) := by decide +kernel
theorem dX10_placeAhead_14 : decode cX10_placeAhead 14 = .ok (.iload 4, 2) := by decide +kernel
theorem dX10_placeAhead_16 : decode cX10_placeAhead 16 = .ok (.iload_n 2, 1) := by decide +kernel
theorem dX10_placeAhead_17 : decode cX10_placeAhead 17 = .ok (.if_icmp .eq 22, 3) := by decide +kernel
theorem dX10_placeAhead_20 : decode cX10_placeAhead 20 = .ok (.iinc 3 1, 3) := by decide +kernel
theorem dX10_placeAhead_23 : decode cX10_placeAhead 23 = .ok (.iload_n 3, 1) := by decide +kernel
theorem dX10_placeAhead_24 : decode cX10_placeAhead 24 = .ok (.iload_n 1, 1) := by decide +kernel
theorem dX10_placeAhead_25 : decode cX10_placeAhead 25 = .ok (.if_icmp .ne 14, 3) := by decide +kernel
theorem dX10_placeAhead_28 : decode cX10_placeAhead 28 = .ok (.aload_n 0, 1) := by decide +kernel
theorem dX10_placeAhead_29 : decode cX10_placeAhead 29 = .ok (.getfield 26, 3) := by decide +kernel
theorem dX10_placeAhead_32 : decode cX10_placeAhead 32 = .ok (.iload 4, 2) := by decide +kernel
theorem dX10_placeAhead_34 : decode cX10_placeAhead 34 = .ok (.iaload, 1) := by decide +kernel
theorem dX10_placeAhead_35 : decode cX10_placeAhead 35 = .ok (.invokestatic 128, 3) := by decide +kernel
theorem dX10_placeAhead_38 : decode cX10_placeAhead 38 = .ok (.ireturn, 1) := by decide +kernel
theorem dX10_placeAhead_39 : decode cX10_placeAhead 39 = .ok (.iinc 4 1, 3) := by decide +kernel
theorem dX10_placeAhead_42 : decode cX10_placeAhead 42 = .ok (.goto (-37), 3) := by decide +kernel
theorem dX10_placeAhead_45 : decode cX10_placeAhead 45 = .ok (.iconst 0, 1) := by decide +kernel
theorem dX10_placeAhead_46 : decode cX10_placeAhead 46 = .ok (.ireturn, 1) := by decide +kernel
theorem dX10_insert_0 : decode cX10_insert 0 = .ok (.aload_n 0, 1) := by decide +kernel
theorem dX10_insert_1 : decode cX10_insert 1 = .ok (.iconst 0, 1) := by decide +kernel
theorem dX10_insert_2 : decode cX10_insert 2 = .ok (.putfield 1, 3) := by decide +kernel
theorem dX10_insert_5 : decode cX10_insert 5 = .ok (.aload_n 0, 1) := by decide +kernel
theorem dX10_insert_6 : decode cX10_insert 6 = .ok (.iload_n 1, 1) := by decide +kernel
theorem dX10_insert_7 : decode cX10_insert 7 = .ok (.invokevirtual 135, 3) := by decide +kernel
theorem dX10_insert_10 : decode cX10_insert 10 = .ok (.ifCond .eq 13, 3) := by decide +kernel
theorem dX10_insert_13 : decode cX10_insert 13 = .ok (.iload_n 3, 1) := by decide +kernel
theorem dX10_insert_14 : decode cX10_insert 14 = .ok (.iconst 0, 1) := by decide +kernel
theorem dX10_insert_15 : decode cX10_insert 15 = .ok (.bipush 25, 2) := by decide +kernel
theorem dX10_insert_17 : decode cX10_insert 17 = .ok (.invokestatic 55, 3) := by decide +kernel
theorem dX10_insert_20 : decode cX10_insert 20 = .ok (.ifCond .ne 5, 3) := by decide +kernel
theorem dX10_insert_23 : decode cX10_insert 23 = .ok (.iconst (-1), 1) := by decide +kernel
theorem dX10_insert_24 : decode cX10_insert 24 = .ok (.ireturn, 1) := by decide +kernel
theorem dX10_insert_25 : decode cX10_insert 25 = .ok (.aload_n 0, 1) := by decide +kernel
theorem dX10_insert_26 : decode cX10_insert 26 = .ok (.iload_n 1, 1) := by decide +kernel
theorem dX10_insert_27 : decode cX10_insert 27 = .ok (.invokevirtual 138, 3) := by decide +kernel
theorem dX10_insert_30 : decode cX10_insert 30 = .ok (.iload_n 2, 1) := by decide +kernel
theorem dX10_insert_31 : decode cX10_insert 31 = .ok (.iconst 0, 1) := by decide +kernel
theorem dX10_insert_32 : decode cX10_insert 32 = .ok (.aload_n 0, 1) := by decide +kernel
theorem dX10_insert_33 : decode cX10_insert 33 = .ok (.getfield 119, 3) := by decide +kernel
theorem dX10_insert_36 : decode cX10_insert 36 = .ok (.invokestatic 55, 3) := by decide +kernel
theorem dX10_insert_39 : decode cX10_insert 39 = .ok (.ifCond .eq 20, 3) := by decide +kernel
theorem dX10_insert_42 : decode cX10_insert 42 = .ok (.aload_n 0, 1) := by decide +kernel
theorem dX10_insert_43 : decode cX10_insert 43 = .ok (.iload_n 1, 1) := by decide +kernel
theorem dX10_insert_44 : decode cX10_insert 44 = .ok (.iconst 0, 1) := by decide +kernel
theorem dX10_insert_45 : decode cX10_insert 45 = .ok (.iconst 0, 1) := by decide +kernel
theorem dX10_insert_46 : decode cX10_insert 46 = .ok (.aload_n 0, 1) := by decide +kernel
theorem dX10_insert_47 : decode cX10_insert 47 = .ok (.iload_n 2, 1) := by decide +kernel
theorem dX10_insert_48 : decode cX10_insert 48 = .ok (.iconst (-1), 1) := by decide +kernel
theorem dX10_insert_49 : decode cX10_insert 49 = .ok (.invokevirtual 141, 3) := by decide +kernel
theorem dX10_insert_52 : decode cX10_insert 52 = .ok (.iload_n 3, 1) := by decide +kernel
theorem dX10_insert_53 : decode cX10_insert 53 = .ok (.invokevirtual 144, 3) := by decide +kernel
theorem dX10_insert_56 : decode cX10_insert 56 = .ok (.goto 4, 3) := by decide +kernel
theorem dX10_insert_59 : decode cX10_insert 59 = .ok (.iconst (-1), 1) := by decide +kernel
theorem dX10_insert_60 : decode cX10_insert 60 = .ok (.ireturn, 1) := by decide +kernel
theorem dX10_move_0 : decode cX10_move 0 = .ok (.aload_n 0, 1) := by decide +kernel
theorem dX10_move_1 : decode cX10_move 1 = .ok (.iconst 0, 1) := by decide +kernel
theorem dX10_move_2 : decode cX10_move 2 = .ok (.putfield 1, 3) := by decide +kernel
theorem dX10_move_5 : decode cX10_move 5 = .ok (.aload_n 0, 1) := by decide +kernel
theorem dX10_move_6 : decode cX10_move 6 = .ok (.iload_n 1, 1) := by decide +kernel
theorem dX10_move_7 : decode cX10_move 7 = .ok (.invokevirtual 135, 3) := by decide +kernel
theorem dX10_move_10 : decode cX10_move 10 = .ok (.ifCond .ne 5, 3) := by decide +kernel
theorem dX10_move_13 : decode cX10_move 13 = .ok (.iconst (-1), 1) := by decide +kernel
theorem dX10_move_14 : decode cX10_move 14 = .ok (.ireturn, 1) := by decide +kernel
theorem dX10_move_15 : decode cX10_move 15 = .ok (.aload_n 0, 1) := by decide +kernel
theorem dX10_move_16 : decode cX10_move 16 = .ok (.iload_n 1, 1) := by decide +kernel
theorem dX10_move_17 : decode cX10_move 17 = .ok (.invokevirtual 138, 3) := by decide +kernel
theorem dX10_move_20 : decode cX10_move 20 = .ok (.iload_n 2, 1) := by decide +kernel
theorem dX10_move_21 : decode cX10_move 21 = .ok (.iconst 0, 1) := by decide +kernel
theorem dX10_move_22 : decode cX10_move 22 = .ok (.aload_n 0, 1) := by decide +kernel
theorem dX10_move_23 : decode cX10_move 23 = .ok (.getfield 119, 3) := by decide +kernel
theorem dX10_move_26 : decode cX10_move 26 = .ok (.iconst 1, 1) := by decide +kernel
theorem dX10_move_27 : decode cX10_move 27 = .ok (.isub, 1) := by decide +kernel
theorem dX10_move_28 : decode cX10_move 28 = .ok (.invokestatic 55, 3) := by decide +kernel
theorem dX10_move_31 : decode cX10_move 31 = .ok (.ifCond .eq 38, 3) := by decide +kernel
theorem dX10_move_34 : decode cX10_move 34 = .ok (.iload_n 3, 1) := by decide +kernel
theorem dX10_move_35 : decode cX10_move 35 = .ok (.iconst 0, 1) := by decide +kernel
theorem dX10_move_36 : decode cX10_move 36 = .ok (.aload_n 0, 1) := by decide +kernel
theorem dX10_move_37 : decode cX10_move 37 = .ok (.getfield 119, 3) := by decide +kernel
theorem dX10_move_40 : decode cX10_move 40 = .ok (.iconst 1, 1) := by decide +kernel
theorem dX10_move_41 : decode cX10_move 41 = .ok (.isub, 1) := by decide +kernel
theorem dX10_move_42 : decode cX10_move 42 = .ok (.invokestatic 55, 3) := by decide +kernel
theorem dX10_move_45 : decode cX10_move 45 = .ok (.ifCond .eq 24, 3) := by decide +kernel
theorem dX10_move_48 : decode cX10_move 48 = .ok (.aload_n 0, 1) := by decide +kernel
theorem dX10_move_49 : decode cX10_move 49 = .ok (.iload_n 1, 1) := by decide +kernel
theorem dX10_move_50 : decode cX10_move 50 = .ok (.iconst 1, 1) := by decide +kernel
theorem dX10_move_51 : decode cX10_move 51 = .ok (.aload_n 0, 1) := by decide +kernel
theorem dX10_move_52 : decode cX10_move 52 = .ok (.iload_n 2, 1) := by decide +kernel
theorem dX10_move_53 : decode cX10_move 53 = .ok (.invokevirtual 148, 3) := by decide +kernel
theorem dX10_move_56 : decode cX10_move 56 = .ok (.aload_n 0, 1) := by decide +kernel
theorem dX10_move_57 : decode cX10_move 57 = .ok (.iload_n 3, 1) := by decide +kernel
theorem dX10_move_58 : decode cX10_move 58 = .ok (.iload_n 2, 1) := by decide +kernel
theorem dX10_move_59 : decode cX10_move 59 = .ok (.invokevirtual 141, 3) := by decide +kernel
theorem dX10_move_62 : decode cX10_move 62 = .ok (.iconst (-1), 1) := by decide +kernel
theorem dX10_move_63 : decode cX10_move 63 = .ok (.invokevirtual 144, 3) := by decide +kernel
theorem dX10_move_66 : decode cX10_move 66 = .ok (.goto 4, 3) := by decide +kernel
theorem dX10_move_69 : decode cX10_move 69 = .ok (.iconst (-1), 1) := by decide +kernel
theorem dX10_move_70 : decode cX10_move 70 = .ok (.ireturn, 1) := by decide +kernel
theorem dX10_drop_0 : decode cX10_drop 0 = .ok (.aload_n 0, 1) := by decide +kernel
theorem dX10_drop_1 : decode cX10_drop 1 = .ok (.iconst 0, 1) := by decide +kernel
theorem dX10_drop_2 : decode cX10_drop 2 = .ok (.putfield 1, 3) := by decide +kernel
theorem dX10_drop_5 : decode cX10_drop 5 = .ok (.aload_n 0, 1) := by decide +kernel
theorem dX10_drop_6 : decode cX10_drop 6 = .ok (.iload_n 1, 1) := by decide +kernel
theorem dX10_drop_7 : decode cX10_drop 7 = .ok (.invokevirtual 135, 3) := by decide +kernel
theorem dX10_drop_10 : decode cX10_drop 10 = .ok (.ifCond .ne 5, 3) := by decide +kernel
theorem dX10_drop_13 : decode cX10_drop 13 = .ok (.iconst (-1), 1) := by decide +kernel
theorem dX10_drop_14 : decode cX10_drop 14 = .ok (.ireturn, 1) := by decide +kernel
theorem dX10_drop_15 : decode cX10_drop 15 = .ok (.aload_n 0, 1) := by decide +kernel
theorem dX10_drop_16 : decode cX10_drop 16 = .ok (.iload_n 1, 1) := by decide +kernel
theorem dX10_drop_17 : decode cX10_drop 17 = .ok (.invokevirtual 138, 3) := by decide +kernel
theorem dX10_drop_20 : decode cX10_drop 20 = .ok (.iload_n 2, 1) := by decide +kernel
theorem dX10_drop_21 : decode cX10_drop 21 = .ok (.iconst 0, 1) := by decide +kernel
theorem dX10_drop_22 : decode cX10_drop 22 = .ok (.aload_n 0, 1) := by decide +kernel
theorem dX10_drop_23 : decode cX10_drop 23 = .ok (.getfield 119, 3) := by decide +kernel
theorem dX10_drop_26 : decode cX10_drop 26 = .ok (.iconst 1, 1) := by decide +kernel
theorem dX10_drop_27 : decode cX10_drop 27 = .ok (.isub, 1) := by decide +kernel
theorem dX10_drop_28 : decode cX10_drop 28 = .ok (.invokestatic 55, 3) := by decide +kernel
theorem dX10_drop_31 : decode cX10_drop 31 = .ok (.ifCond .eq 19, 3) := by decide +kernel
theorem dX10_drop_34 : decode cX10_drop 34 = .ok (.aload_n 0, 1) := by decide +kernel
theorem dX10_drop_35 : decode cX10_drop 35 = .ok (.iload_n 1, 1) := by decide +kernel
theorem dX10_drop_36 : decode cX10_drop 36 = .ok (.iconst 2, 1) := by decide +kernel
theorem dX10_drop_37 : decode cX10_drop 37 = .ok (.aload_n 0, 1) := by decide +kernel
theorem dX10_drop_38 : decode cX10_drop 38 = .ok (.iload_n 2, 1) := by decide +kernel
theorem dX10_drop_39 : decode cX10_drop 39 = .ok (.invokevirtual 148, 3) := by decide +kernel
theorem dX10_drop_42 : decode cX10_drop 42 = .ok (.iconst (-1), 1) := by decide +kernel
theorem dX10_drop_43 : decode cX10_drop 43 = .ok (.iconst (-1), 1) := by decide +kernel
theorem dX10_drop_44 : decode cX10_drop 44 = .ok (.invokevirtual 144, 3) := by decide +kernel
theorem dX10_drop_47 : decode cX10_drop 47 = .ok (.goto 4, 3) := by decide +kernel
theorem dX10_drop_50 : decode cX10_drop 50 = .ok (.iconst (-1), 1) := by decide +kernel
theorem dX10_drop_51 : decode cX10_drop 51 = .ok (.ireturn, 1) := by decide +kernel
theorem dX10_change_0 : decode cX10_change 0 = .ok (.aload_n 0, 1) := by decide +kernel
theorem dX10_change_1 : decode cX10_change 1 = .ok (.iconst 0, 1) := by decide +kernel
theorem dX10_change_2 : decode cX10_change 2 = .ok (.putfield 1, 3) := by decide +kernel
theorem dX10_change_5 : decode cX10_change 5 = .ok (.aload_n 0, 1) := by decide +kernel
theorem dX10_change_6 : decode cX10_change 6 = .ok (.iload_n 1, 1) := by decide +kernel
theorem dX10_change_7 : decode cX10_change 7 = .ok (.invokevirtual 135, 3) := by decide +kernel
theorem dX10_change_10 : decode cX10_change 10 = .ok (.ifCond .eq 13, 3) := by decide +kernel
theorem dX10_change_13 : decode cX10_change 13 = .ok (.iload_n 3, 1) := by decide +kernel
theorem dX10_change_14 : decode cX10_change 14 = .ok (.iconst 0, 1) := by decide +kernel
theorem dX10_change_15 : decode cX10_change 15 = .ok (.bipush 25, 2) := by decide +kernel
theorem dX10_change_17 : decode cX10_change 17 = .ok (.invokestatic 55, 3) := by decide +kernel
theorem dX10_change_20 : decode cX10_change 20 = .ok (.ifCond .ne 5, 3) := by decide +kernel
theorem dX10_change_23 : decode cX10_change 23 = .ok (.iconst (-1), 1) := by decide +kernel
theorem dX10_change_24 : decode cX10_change 24 = .ok (.ireturn, 1) := by decide +kernel
theorem dX10_change_25 : decode cX10_change 25 = .ok (.aload_n 0, 1) := by decide +kernel
theorem dX10_change_26 : decode cX10_change 26 = .ok (.iload_n 1, 1) := by decide +kernel
theorem dX10_change_27 : decode cX10_change 27 = .ok (.invokevirtual 138, 3) := by decide +kernel
theorem dX10_change_30 : decode cX10_change 30 = .ok (.iload_n 2, 1) := by decide +kernel
theorem dX10_change_31 : decode cX10_change 31 = .ok (.iconst 0, 1) := by decide +kernel
theorem dX10_change_32 : decode cX10_change 32 = .ok (.aload_n 0, 1) := by decide +kernel
theorem dX10_change_33 : decode cX10_change 33 = .ok (.getfield 119, 3) := by decide +kernel
theorem dX10_change_36 : decode cX10_change 36 = .ok (.iconst 1, 1) := by decide +kernel
theorem dX10_change_37 : decode cX10_change 37 = .ok (.isub, 1) := by decide +kernel
theorem dX10_change_38 : decode cX10_change 38 = .ok (.invokestatic 55, 3) := by decide +kernel
theorem dX10_change_41 : decode cX10_change 41 = .ok (.ifCond .eq 19, 3) := by decide +kernel
theorem dX10_change_44 : decode cX10_change 44 = .ok (.aload_n 0, 1) := by decide +kernel
theorem dX10_change_45 : decode cX10_change 45 = .ok (.iload_n 1, 1) := by decide +kernel
theorem dX10_change_46 : decode cX10_change 46 = .ok (.iconst 3, 1) := by decide +kernel
theorem dX10_change_47 : decode cX10_change 47 = .ok (.aload_n 0, 1) := by decide +kernel
theorem dX10_change_48 : decode cX10_change 48 = .ok (.iload_n 2, 1) := by decide +kernel
theorem dX10_change_49 : decode cX10_change 49 = .ok (.invokevirtual 148, 3) := by decide +kernel
theorem dX10_change_52 : decode cX10_change 52 = .ok (.iconst (-1), 1) := by decide +kernel
theorem dX10_change_53 : decode cX10_change 53 = .ok (.iload_n 3, 1) := by decide +kernel
theorem dX10_change_54 : decode cX10_change 54 = .ok (.invokevirtual 144, 3) := by decide +kernel
theorem dX10_change_57 : decode cX10_change 57 = .ok (.goto 4, 3) := by decide +kernel
theorem dX10_change_60 : decode cX10_change 60 = .ok (.iconst (-1), 1) := by decide +kernel
theorem dX10_change_61 : decode cX10_change 61 = .ok (.ireturn, 1) := by decide +kernel
theorem dX10_canBe_0 : decode cX10_canBe 0 = .ok (.iconst 1, 1) := by decide +kernel
theorem dX10_canBe_1 : decode cX10_canBe 1 = .ok (.istore_n 3, 1) := by decide +kernel
theorem dX10_canBe_2 : decode cX10_canBe 2 = .ok (.iconst 0, 1) := by decide +kernel
theorem dX10_canBe_3 : decode cX10_canBe 3 = .ok (.istore 4, 2) := by decide +kernel
theorem dX10_canBe_5 : decode cX10_canBe 5 = .ok (.iload 4, 2) := by decide +kernel
theorem dX10_canBe_7 : decode cX10_canBe 7 = .ok (.aload_n 0, 1) := by decide +kernel
theorem dX10_canBe_8 : decode cX10_canBe 8 = .ok (.getfield 13, 3) := by decide +kernel
theorem dX10_canBe_11 : decode cX10_canBe 11 = .ok (.iconst 0, 1) := by decide +kernel
theorem dX10_canBe_12 : decode cX10_canBe 12 = .ok (.iaload, 1) := by decide +kernel
theorem dX10_canBe_13 : decode cX10_canBe 13 = .ok (.if_icmp .ge 40, 3) := by decide +kernel
theorem dX10_canBe_16 : decode cX10_canBe 16 = .ok (.iload_n 3, 1) := by decide +kernel
theorem dX10_canBe_17 : decode cX10_canBe 17 = .ok (.ifCond .eq 28, 3) := by decide +kernel
theorem dX10_canBe_20 : decode cX10_canBe 20 = .ok (.aload_n 0, 1) := by decide +kernel
theorem dX10_canBe_21 : decode cX10_canBe 21 = .ok (.iload_n 1, 1) := by decide +kernel
theorem dX10_canBe_22 : decode cX10_canBe 22 = .ok (.iconst 0, 1) := by decide +kernel
theorem dX10_canBe_23 : decode cX10_canBe 23 = .ok (.iload 4, 2) := by decide +kernel
theorem dX10_canBe_25 : decode cX10_canBe 25 = .ok (.iadd, 1) := by decide +kernel
theorem dX10_canBe_26 : decode cX10_canBe 26 = .ok (.invokevirtual 81, 3) := by decide +kernel
theorem dX10_canBe_29 : decode cX10_canBe 29 = .ok (.aload_n 0, 1) := by decide +kernel
theorem dX10_canBe_30 : decode cX10_canBe 30 = .ok (.iload_n 2, 1) := by decide +kernel
theorem dX10_canBe_31 : decode cX10_canBe 31 = .ok (.iconst 5, 1) := by decide +kernel
theorem dX10_canBe_32 : decode cX10_canBe 32 = .ok (.iload 4, 2) := by decide +kernel
theorem dX10_canBe_34 : decode cX10_canBe 34 = .ok (.iadd, 1) := by decide +kernel
theorem dX10_canBe_35 : decode cX10_canBe 35 = .ok (.invokevirtual 84, 3) := by decide +kernel
theorem dX10_canBe_38 : decode cX10_canBe 38 = .ok (.if_icmp .lt 7, 3) := by decide +kernel
theorem dX10_canBe_41 : decode cX10_canBe 41 = .ok (.iconst 1, 1) := by decide +kernel
theorem dX10_canBe_42 : decode cX10_canBe 42 = .ok (.goto 4, 3) := by decide +kernel
theorem dX10_canBe_45 : decode cX10_canBe 45 = .ok (.iconst 0, 1) := by decide +kernel
theorem dX10_canBe_46 : decode cX10_canBe 46 = .ok (.istore_n 3, 1) := by decide +kernel
theorem dX10_canBe_47 : decode cX10_canBe 47 = .ok (.iinc 4 1, 3) := by decide +kernel
theorem dX10_canBe_50 : decode cX10_canBe 50 = .ok (.goto (-45), 3) := by decide +kernel
theorem dX10_canBe_53 : decode cX10_canBe 53 = .ok (.iload_n 3, 1) := by decide +kernel
theorem dX10_canBe_54 : decode cX10_canBe 54 = .ok (.ireturn, 1) := by decide +kernel
theorem dX10_isDoneNow_0 : decode cX10_isDoneNow 0 = .ok (.aload_n 0, 1) := by decide +kernel
theorem dX10_isDoneNow_1 : decode cX10_isDoneNow 1 = .ok (.getfield 13, 3) := by decide +kernel
theorem dX10_isDoneNow_4 : decode cX10_isDoneNow 4 = .ok (.aload_n 0, 1) := by decide +kernel
theorem dX10_isDoneNow_5 : decode cX10_isDoneNow 5 = .ok (.iload_n 1, 1) := by decide +kernel
theorem dX10_isDoneNow_6 : decode cX10_isDoneNow 6 = .ok (.iconst 0, 1) := by decide +kernel
theorem dX10_isDoneNow_7 : decode cX10_isDoneNow 7 = .ok (.iload_n 2, 1) := by decide +kernel
theorem dX10_isDoneNow_8 : decode cX10_isDoneNow 8 = .ok (.invokestatic 67, 3) := by decide +kernel
theorem dX10_isDoneNow_11 : decode cX10_isDoneNow 11 = .ok (.iadd, 1) := by decide +kernel
theorem dX10_isDoneNow_12 : decode cX10_isDoneNow 12 = .ok (.invokevirtual 59, 3) := by decide +kernel
theorem dX10_isDoneNow_15 : decode cX10_isDoneNow 15 = .ok (.dup2, 1) := by decide +kernel
theorem dX10_isDoneNow_16 : decode cX10_isDoneNow 16 = .ok (.iaload, 1) := by decide +kernel
theorem dX10_isDoneNow_17 : decode cX10_isDoneNow 17 = .ok (.iconst 1, 1) := by decide +kernel
theorem dX10_isDoneNow_18 : decode cX10_isDoneNow 18 = .ok (.iadd, 1) := by decide +kernel
theorem dX10_isDoneNow_19 : decode cX10_isDoneNow 19 = .ok (.iastore, 1) := by decide +kernel
theorem dX10_isDoneNow_20 : decode cX10_isDoneNow 20 = .ok (.aload_n 0, 1) := by decide +kernel
theorem dX10_isDoneNow_21 : decode cX10_isDoneNow 21 = .ok (.getfield 13, 3) := by decide +kernel
theorem dX10_isDoneNow_24 : decode cX10_isDoneNow 24 = .ok (.aload_n 0, 1) := by decide +kernel
theorem dX10_isDoneNow_25 : decode cX10_isDoneNow 25 = .ok (.iload_n 1, 1) := by decide +kernel
theorem dX10_isDoneNow_26 : decode cX10_isDoneNow 26 = .ok (.bipush 6, 2) := by decide +kernel
theorem dX10_isDoneNow_28 : decode cX10_isDoneNow 28 = .ok (.invokevirtual 59, 3) := by decide +kernel
theorem dX10_isDoneNow_31 : decode cX10_isDoneNow 31 = .ok (.aload_n 0, 1) := by decide +kernel
theorem dX10_isDoneNow_32 : decode cX10_isDoneNow 32 = .ok (.iload_n 2, 1) := by decide +kernel
theorem dX10_isDoneNow_33 : decode cX10_isDoneNow 33 = .ok (.iconst 1, 1) := by decide +kernel
theorem dX10_isDoneNow_34 : decode cX10_isDoneNow 34 = .ok (.invokevirtual 84, 3) := by decide +kernel
theorem dX10_isDoneNow_37 : decode cX10_isDoneNow 37 = .ok (.aload_n 0, 1) := by decide +kernel
theorem dX10_isDoneNow_38 : decode cX10_isDoneNow 38 = .ok (.iload_n 1, 1) := by decide +kernel
theorem dX10_isDoneNow_39 : decode cX10_isDoneNow 39 = .ok (.bipush 6, 2) := by decide +kernel
theorem dX10_isDoneNow_41 : decode cX10_isDoneNow 41 = .ok (.invokevirtual 81, 3) := by decide +kernel
theorem dX10_isDoneNow_44 : decode cX10_isDoneNow 44 = .ok (.if_icmp .le 12, 3) := by decide +kernel
theorem dX10_isDoneNow_47 : decode cX10_isDoneNow 47 = .ok (.aload_n 0, 1) := by decide +kernel
theorem dX10_isDoneNow_48 : decode cX10_isDoneNow 48 = .ok (.iload_n 2, 1) := by decide +kernel
theorem dX10_isDoneNow_49 : decode cX10_isDoneNow 49 = .ok (.iconst 1, 1) := by decide +kernel
theorem dX10_isDoneNow_50 : decode cX10_isDoneNow 50 = .ok (.invokevirtual 84, 3) := by decide +kernel
theorem dX10_isDoneNow_53 : decode cX10_isDoneNow 53 = .ok (.goto 10, 3) := by decide +kernel
theorem dX10_isDoneNow_56 : decode cX10_isDoneNow 56 = .ok (.aload_n 0, 1) := by decide +kernel
theorem dX10_isDoneNow_57 : decode cX10_isDoneNow 57 = .ok (.iload_n 1, 1) := by decide +kernel
theorem dX10_isDoneNow_58 : decode cX10_isDoneNow 58 = .ok (.bipush 6, 2) := by decide +kernel
theorem dX10_isDoneNow_60 : decode cX10_isDoneNow 60 = .ok (.invokevirtual 81, 3) := by decide +kernel
theorem dX10_isDoneNow_63 : decode cX10_isDoneNow 63 = .ok (.iastore, 1) := by decide +kernel
theorem dX10_isDoneNow_64 : decode cX10_isDoneNow 64 = .ok (.return_, 1) := by decide +kernel
theorem dX10_takesOut_0 : decode cX10_takesOut 0 = .ok (.iload 4, 2) := by decide +kernel
theorem dX10_takesOut_2 : decode cX10_takesOut 2 = .ok (.istore 5, 2) := by decide +kernel
theorem dX10_takesOut_4 : decode cX10_takesOut 4 = .ok (.iload 5, 2) := by decide +kernel
theorem dX10_takesOut_6 : decode cX10_takesOut 6 = .ok (.iconst 1, 1) := by decide +kernel
theorem dX10_takesOut_7 : decode cX10_takesOut 7 = .ok (.iadd, 1) := by decide +kernel
theorem dX10_takesOut_8 : decode cX10_takesOut 8 = .ok (.aload_n 0, 1) := by decide +kernel
theorem dX10_takesOut_9 : decode cX10_takesOut 9 = .ok (.iload_n 1, 1) := by decide +kernel
theorem dX10_takesOut_10 : decode cX10_takesOut 10 = .ok (.iload_n 3, 1) := by decide +kernel
theorem dX10_takesOut_11 : decode cX10_takesOut 11 = .ok (.invokevirtual 81, 3) := by decide +kernel
theorem dX10_takesOut_14 : decode cX10_takesOut 14 = .ok (.if_icmp .ge 34, 3) := by decide +kernel
theorem dX10_takesOut_17 : decode cX10_takesOut 17 = .ok (.aload_n 0, 1) := by decide +kernel
theorem dX10_takesOut_18 : decode cX10_takesOut 18 = .ok (.getfield 13, 3) := by decide +kernel
theorem dX10_takesOut_21 : decode cX10_takesOut 21 = .ok (.aload_n 0, 1) := by decide +kernel
theorem dX10_takesOut_22 : decode cX10_takesOut 22 = .ok (.iload_n 1, 1) := by decide +kernel
theorem dX10_takesOut_23 : decode cX10_takesOut 23 = .ok (.iload_n 2, 1) := by decide +kernel
theorem dX10_takesOut_24 : decode cX10_takesOut 24 = .ok (.iload 5, 2) := by decide +kernel
theorem dX10_takesOut_26 : decode cX10_takesOut 26 = .ok (.iadd, 1) := by decide +kernel
theorem dX10_takesOut_27 : decode cX10_takesOut 27 = .ok (.invokevirtual 59, 3) := by decide +kernel
theorem dX10_takesOut_30 : decode cX10_takesOut 30 = .ok (.aload_n 0, 1) := by decide +kernel
theorem dX10_takesOut_31 : decode cX10_takesOut 31 = .ok (.iload_n 1, 1) := by decide +kernel
theorem dX10_takesOut_32 : decode cX10_takesOut 32 = .ok (.iload_n 2, 1) := by decide +kernel
theorem dX10_takesOut_33 : decode cX10_takesOut 33 = .ok (.iload 5, 2) := by decide +kernel
theorem dX10_takesOut_35 : decode cX10_takesOut 35 = .ok (.iadd, 1) := by decide +kernel
theorem dX10_takesOut_36 : decode cX10_takesOut 36 = .ok (.iconst 1, 1) := by decide +kernel
theorem dX10_takesOut_37 : decode cX10_takesOut 37 = .ok (.iadd, 1) := by decide +kernel
theorem dX10_takesOut_38 : decode cX10_takesOut 38 = .ok (.invokevirtual 81, 3) := by decide +kernel
theorem dX10_takesOut_41 : decode cX10_takesOut 41 = .ok (.iastore, 1) := by decide +kernel
theorem dX10_takesOut_42 : decode cX10_takesOut 42 = .ok (.iinc 5 1, 3) := by decide +kernel
theorem dX10_takesOut_45 : decode cX10_takesOut 45 = .ok (.goto (-41), 3) := by decide +kernel
theorem dX10_takesOut_48 : decode cX10_takesOut 48 = .ok (.aload_n 0, 1) := by decide +kernel
theorem dX10_takesOut_49 : decode cX10_takesOut 49 = .ok (.getfield 13, 3) := by decide +kernel
theorem dX10_takesOut_52 : decode cX10_takesOut 52 = .ok (.aload_n 0, 1) := by decide +kernel
theorem dX10_takesOut_53 : decode cX10_takesOut 53 = .ok (.iload_n 1, 1) := by decide +kernel
theorem dX10_takesOut_54 : decode cX10_takesOut 54 = .ok (.iload_n 3, 1) := by decide +kernel
theorem dX10_takesOut_55 : decode cX10_takesOut 55 = .ok (.invokevirtual 59, 3) := by decide +kernel
theorem dX10_takesOut_58 : decode cX10_takesOut 58 = .ok (.dup2, 1) := by decide +kernel
theorem dX10_takesOut_59 : decode cX10_takesOut 59 = .ok (.iaload, 1) := by decide +kernel
theorem dX10_takesOut_60 : decode cX10_takesOut 60 = .ok (.iconst 1, 1) := by decide +kernel
theorem dX10_takesOut_61 : decode cX10_takesOut 61 = .ok (.isub, 1) := by decide +kernel
theorem dX10_takesOut_62 : decode cX10_takesOut 62 = .ok (.iastore, 1) := by decide +kernel
theorem dX10_takesOut_63 : decode cX10_takesOut 63 = .ok (.return_, 1) := by decide +kernel
theorem dX10_doesHeld_0 : decode cX10_doesHeld 0 = .ok (.iconst 0, 1) := by decide +kernel
theorem dX10_doesHeld_1 : decode cX10_doesHeld 1 = .ok (.istore_n 2, 1) := by decide +kernel
theorem dX10_doesHeld_2 : decode cX10_doesHeld 2 = .ok (.iconst 0, 1) := by decide +kernel
theorem dX10_doesHeld_3 : decode cX10_doesHeld 3 = .ok (.istore_n 3, 1) := by decide +kernel
theorem dX10_doesHeld_4 : decode cX10_doesHeld 4 = .ok (.iload_n 3, 1) := by decide +kernel
theorem dX10_doesHeld_5 : decode cX10_doesHeld 5 = .ok (.aload_n 0, 1) := by decide +kernel
theorem dX10_doesHeld_6 : decode cX10_doesHeld 6 = .ok (.iload_n 1, 1) := by decide +kernel
theorem dX10_doesHeld_7 : decode cX10_doesHeld 7 = .ok (.bipush 68, 2) := by decide +kernel
theorem dX10_doesHeld_9 : decode cX10_doesHeld 9 = .ok (.invokevirtual 81, 3) := by decide +kernel
theorem dX10_doesHeld_12 : decode cX10_doesHeld 12 = .ok (.if_icmp .ge 78, 3) := by decide +kernel
theorem dX10_doesHeld_15 : decode cX10_doesHeld 15 = .ok (.aload_n 0, 1) := by decide +kernel
theorem dX10_doesHeld_16 : decode cX10_doesHeld 16 = .ok (.iload_n 1, 1) := by decide +kernel
theorem dX10_doesHeld_17 : decode cX10_doesHeld 17 = .ok (.bipush 69, 2) := by decide +kernel
theorem dX10_doesHeld_19 : decode cX10_doesHeld 19 = .ok (.iload_n 3, 1) := by decide +kernel
theorem dX10_doesHeld_20 : decode cX10_doesHeld 20 = .ok (.iadd, 1) := by decide +kernel
theorem dX10_doesHeld_21 : decode cX10_doesHeld 21 = .ok (.invokevirtual 81, 3) := by decide +kernel
theorem dX10_doesHeld_24 : decode cX10_doesHeld 24 = .ok (.istore 4, 2) := by decide +kernel
theorem dX10_doesHeld_26 : decode cX10_doesHeld 26 = .ok (.aload_n 0, 1) := by decide +kernel
theorem dX10_doesHeld_27 : decode cX10_doesHeld 27 = .ok (.iload_n 1, 1) := by decide +kernel
theorem dX10_doesHeld_28 : decode cX10_doesHeld 28 = .ok (.iload 4, 2) := by decide +kernel
theorem dX10_doesHeld_30 : decode cX10_doesHeld 30 = .ok (.invokevirtual 87, 3) := by decide +kernel
theorem dX10_doesHeld_33 : decode cX10_doesHeld 33 = .ok (.ifCond .eq 16, 3) := by decide +kernel
theorem dX10_doesHeld_36 : decode cX10_doesHeld 36 = .ok (.aload_n 0, 1) := by decide +kernel
theorem dX10_doesHeld_37 : decode cX10_doesHeld 37 = .ok (.iload_n 1, 1) := by decide +kernel
theorem dX10_doesHeld_38 : decode cX10_doesHeld 38 = .ok (.bipush 69, 2) := by decide +kernel
theorem dX10_doesHeld_40 : decode cX10_doesHeld 40 = .ok (.bipush 68, 2) := by decide +kernel
theorem dX10_doesHeld_42 : decode cX10_doesHeld 42 = .ok (.iload_n 3, 1) := by decide +kernel
theorem dX10_doesHeld_43 : decode cX10_doesHeld 43 = .ok (.invokevirtual 151, 3) := by decide +kernel
theorem dX10_doesHeld_46 : decode cX10_doesHeld 46 = .ok (.goto 41, 3) := by decide +kernel
theorem dX10_doesHeld_49 : decode cX10_doesHeld 49 = .ok (.aload_n 0, 1) := by decide +kernel
theorem dX10_doesHeld_50 : decode cX10_doesHeld 50 = .ok (.iload_n 1, 1) := by decide +kernel
theorem dX10_doesHeld_51 : decode cX10_doesHeld 51 = .ok (.iload 4, 2) := by decide +kernel
theorem dX10_doesHeld_53 : decode cX10_doesHeld 53 = .ok (.invokevirtual 155, 3) := by decide +kernel
theorem dX10_doesHeld_56 : decode cX10_doesHeld 56 = .ok (.ifCond .eq 28, 3) := by decide +kernel
theorem dX10_doesHeld_59 : decode cX10_doesHeld 59 = .ok (.aload_n 0, 1) := by decide +kernel
theorem dX10_doesHeld_60 : decode cX10_doesHeld 60 = .ok (.iload_n 1, 1) := by decide +kernel
theorem dX10_doesHeld_61 : decode cX10_doesHeld 61 = .ok (.bipush 69, 2) := by decide +kernel
theorem dX10_doesHeld_63 : decode cX10_doesHeld 63 = .ok (.bipush 68, 2) := by decide +kernel
theorem dX10_doesHeld_65 : decode cX10_doesHeld 65 = .ok (.iload_n 3, 1) := by decide +kernel
theorem dX10_doesHeld_66 : decode cX10_doesHeld 66 = .ok (.invokevirtual 151, 3) := by decide +kernel
theorem dX10_doesHeld_69 : decode cX10_doesHeld 69 = .ok (.aload_n 0, 1) := by decide +kernel
theorem dX10_doesHeld_70 : decode cX10_doesHeld 70 = .ok (.iload_n 1, 1) := by decide +kernel
theorem dX10_doesHeld_71 : decode cX10_doesHeld 71 = .ok (.iload 4, 2) := by decide +kernel
theorem dX10_doesHeld_73 : decode cX10_doesHeld 73 = .ok (.invokevirtual 158, 3) := by decide +kernel
theorem dX10_doesHeld_76 : decode cX10_doesHeld 76 = .ok (.iinc 2 1, 3) := by decide +kernel
theorem dX10_doesHeld_79 : decode cX10_doesHeld 79 = .ok (.iconst 0, 1) := by decide +kernel
theorem dX10_doesHeld_80 : decode cX10_doesHeld 80 = .ok (.istore_n 3, 1) := by decide +kernel
theorem dX10_doesHeld_81 : decode cX10_doesHeld 81 = .ok (.goto 6, 3) := by decide +kernel
theorem dX10_doesHeld_84 : decode cX10_doesHeld 84 = .ok (.iinc 3 1, 3) := by decide +kernel
theorem dX10_doesHeld_87 : decode cX10_doesHeld 87 = .ok (.goto (-83), 3) := by decide +kernel
theorem dX10_doesHeld_90 : decode cX10_doesHeld 90 = .ok (.iload_n 2, 1) := by decide +kernel
theorem dX10_doesHeld_91 : decode cX10_doesHeld 91 = .ok (.ireturn, 1) := by decide +kernel
theorem dX10_isHeld_0 : decode cX10_isHeld 0 = .ok (.iconst 0, 1) := by decide +kernel
theorem dX10_isHeld_1 : decode cX10_isHeld 1 = .ok (.istore_n 3, 1) := by decide +kernel
theorem dX10_isHeld_2 : decode cX10_isHeld 2 = .ok (.iconst 0, 1) := by decide +kernel
theorem dX10_isHeld_3 : decode cX10_isHeld 3 = .ok (.istore 4, 2) := by decide +kernel
theorem dX10_isHeld_5 : decode cX10_isHeld 5 = .ok (.iload 4, 2) := by decide +kernel
theorem dX10_isHeld_7 : decode cX10_isHeld 7 = .ok (.aload_n 0, 1) := by decide +kernel
theorem dX10_isHeld_8 : decode cX10_isHeld 8 = .ok (.iload_n 1, 1) := by decide +kernel
theorem dX10_isHeld_9 : decode cX10_isHeld 9 = .ok (.bipush 68, 2) := by decide +kernel
theorem dX10_isHeld_11 : decode cX10_isHeld 11 = .ok (.invokevirtual 81, 3) := by decide +kernel
theorem dX10_isHeld_14 : decode cX10_isHeld 14 = .ok (.if_icmp .ge 33, 3) := by decide +kernel
theorem dX10_isHeld_17 : decode cX10_isHeld 17 = .ok (.iload_n 3, 1) := by decide +kernel
theorem dX10_isHeld_18 : decode cX10_isHeld 18 = .ok (.ifCond .ne 17, 3) := by decide +kernel
theorem dX10_isHeld_21 : decode cX10_isHeld 21 = .ok (.aload_n 0, 1) := by decide +kernel
theorem dX10_isHeld_22 : decode cX10_isHeld 22 = .ok (.iload_n 1, 1) := by decide +kernel
theorem dX10_isHeld_23 : decode cX10_isHeld 23 = .ok (.bipush 69, 2) := by decide +kernel
theorem dX10_isHeld_25 : decode cX10_isHeld 25 = .ok (.iload 4, 2) := by decide +kernel
theorem dX10_isHeld_27 : decode cX10_isHeld 27 = .ok (.iadd, 1) := by decide +kernel
theorem dX10_isHeld_28 : decode cX10_isHeld 28 = .ok (.invokevirtual 81, 3) := by decide +kernel
theorem dX10_isHeld_31 : decode cX10_isHeld 31 = .ok (.iload_n 2, 1) := by decide +kernel
theorem dX10_isHeld_32 : decode cX10_isHeld 32 = .ok (.if_icmp .ne 7, 3) := by decide +kernel
theorem dX10_isHeld_35 : decode cX10_isHeld 35 = .ok (.iconst 1, 1) := by decide +kernel
theorem dX10_isHeld_36 : decode cX10_isHeld 36 = .ok (.goto 4, 3) := by decide +kernel
theorem dX10_isHeld_39 : decode cX10_isHeld 39 = .ok (.iconst 0, 1) := by decide +kernel
theorem dX10_isHeld_40 : decode cX10_isHeld 40 = .ok (.istore_n 3, 1) := by decide +kernel
theorem dX10_isHeld_41 : decode cX10_isHeld 41 = .ok (.iinc 4 1, 3) := by decide +kernel
theorem dX10_isHeld_44 : decode cX10_isHeld 44 = .ok (.goto (-39), 3) := by decide +kernel
theorem dX10_isHeld_47 : decode cX10_isHeld 47 = .ok (.iload_n 3, 1) := by decide +kernel
theorem dX10_isHeld_48 : decode cX10_isHeld 48 = .ok (.ireturn, 1) := by decide +kernel
theorem dX10_isWaiting_0 : decode cX10_isWaiting 0 = .ok (.aload_n 0, 1) := by decide +kernel
theorem dX10_isWaiting_1 : decode cX10_isWaiting 1 = .ok (.iload_n 1, 1) := by decide +kernel
theorem dX10_isWaiting_2 : decode cX10_isWaiting 2 = .ok (.invokevirtual 63, 3) := by decide +kernel
theorem dX10_isWaiting_5 : decode cX10_isWaiting 5 = .ok (.ifCond .eq 24, 3) := by decide +kernel
theorem dX10_isWaiting_8 : decode cX10_isWaiting 8 = .ok (.iload_n 2, 1) := by decide +kernel
theorem dX10_isWaiting_9 : decode cX10_isWaiting 9 = .ok (.iconst 0, 1) := by decide +kernel
theorem dX10_isWaiting_10 : decode cX10_isWaiting 10 = .ok (.aload_n 0, 1) := by decide +kernel
theorem dX10_isWaiting_11 : decode cX10_isWaiting 11 = .ok (.iload_n 1, 1) := by decide +kernel
theorem dX10_isWaiting_12 : decode cX10_isWaiting 12 = .ok (.bipush 7, 2) := by decide +kernel
theorem dX10_isWaiting_14 : decode cX10_isWaiting 14 = .ok (.invokevirtual 81, 3) := by decide +kernel
theorem dX10_isWaiting_17 : decode cX10_isWaiting 17 = .ok (.iconst 1, 1) := by decide +kernel
theorem dX10_isWaiting_18 : decode cX10_isWaiting 18 = .ok (.isub, 1) := by decide +kernel
theorem dX10_isWaiting_19 : decode cX10_isWaiting 19 = .ok (.invokestatic 55, 3) := by decide +kernel
theorem dX10_isWaiting_22 : decode cX10_isWaiting 22 = .ok (.ifCond .eq 7, 3) := by decide +kernel
theorem dX10_isWaiting_25 : decode cX10_isWaiting 25 = .ok (.iconst 1, 1) := by decide +kernel
theorem dX10_isWaiting_26 : decode cX10_isWaiting 26 = .ok (.goto 4, 3) := by decide +kernel
theorem dX10_isWaiting_29 : decode cX10_isWaiting 29 = .ok (.iconst 0, 1) := by decide +kernel
theorem dX10_isWaiting_30 : decode cX10_isWaiting 30 = .ok (.ireturn, 1) := by decide +kernel
theorem dX10_delivers_0 : decode cX10_delivers 0 = .ok (.aload_n 0, 1) := by decide +kernel
theorem dX10_delivers_1 : decode cX10_delivers 1 = .ok (.iload_n 1, 1) := by decide +kernel
theorem dX10_delivers_2 : decode cX10_delivers 2 = .ok (.bipush 8, 2) := by decide +kernel
theorem dX10_delivers_4 : decode cX10_delivers 4 = .ok (.iload_n 2, 1) := by decide +kernel
theorem dX10_delivers_5 : decode cX10_delivers 5 = .ok (.iadd, 1) := by decide +kernel
theorem dX10_delivers_6 : decode cX10_delivers 6 = .ok (.invokevirtual 81, 3) := by decide +kernel
theorem dX10_delivers_9 : decode cX10_delivers 9 = .ok (.istore_n 3, 1) := by decide +kernel
theorem dX10_delivers_10 : decode cX10_delivers 10 = .ok (.aload_n 0, 1) := by decide +kernel
theorem dX10_delivers_11 : decode cX10_delivers 11 = .ok (.iload_n 1, 1) := by decide +kernel
theorem dX10_delivers_12 : decode cX10_delivers 12 = .ok (.bipush 8, 2) := by decide +kernel
theorem dX10_delivers_14 : decode cX10_delivers 14 = .ok (.bipush 7, 2) := by decide +kernel
theorem dX10_delivers_16 : decode cX10_delivers 16 = .ok (.iload_n 2, 1) := by decide +kernel
theorem dX10_delivers_17 : decode cX10_delivers 17 = .ok (.invokevirtual 151, 3) := by decide +kernel
theorem dX10_delivers_20 : decode cX10_delivers 20 = .ok (.aload_n 0, 1) := by decide +kernel
theorem dX10_delivers_21 : decode cX10_delivers 21 = .ok (.iload_n 1, 1) := by decide +kernel
theorem dX10_delivers_22 : decode cX10_delivers 22 = .ok (.iload_n 3, 1) := by decide +kernel
theorem dX10_delivers_23 : decode cX10_delivers 23 = .ok (.invokevirtual 87, 3) := by decide +kernel
theorem dX10_delivers_26 : decode cX10_delivers 26 = .ok (.ifCond .ne 12, 3) := by decide +kernel
theorem dX10_delivers_29 : decode cX10_delivers 29 = .ok (.aload_n 0, 1) := by decide +kernel
theorem dX10_delivers_30 : decode cX10_delivers 30 = .ok (.iload_n 1, 1) := by decide +kernel
theorem dX10_delivers_31 : decode cX10_delivers 31 = .ok (.iload_n 3, 1) := by decide +kernel
theorem dX10_delivers_32 : decode cX10_delivers 32 = .ok (.invokevirtual 161, 3) := by decide +kernel
theorem dX10_delivers_35 : decode cX10_delivers 35 = .ok (.ifCond .eq 5, 3) := by decide +kernel
theorem dX10_delivers_38 : decode cX10_delivers 38 = .ok (.iconst 0, 1) := by decide +kernel
theorem dX10_delivers_39 : decode cX10_delivers 39 = .ok (.ireturn, 1) := by decide +kernel
theorem dX10_delivers_40 : decode cX10_delivers 40 = .ok (.aload_n 0, 1) := by decide +kernel
theorem dX10_delivers_41 : decode cX10_delivers 41 = .ok (.iload_n 1, 1) := by decide +kernel
theorem dX10_delivers_42 : decode cX10_delivers 42 = .ok (.iload_n 3, 1) := by decide +kernel
theorem dX10_delivers_43 : decode cX10_delivers 43 = .ok (.invokevirtual 155, 3) := by decide +kernel
theorem dX10_delivers_46 : decode cX10_delivers 46 = .ok (.ifCond .ne 42, 3) := by decide +kernel
theorem dX10_delivers_49 : decode cX10_delivers 49 = .ok (.aload_n 0, 1) := by decide +kernel
theorem dX10_delivers_50 : decode cX10_delivers 50 = .ok (.getfield 13, 3) := by decide +kernel
theorem dX10_delivers_53 : decode cX10_delivers 53 = .ok (.aload_n 0, 1) := by decide +kernel
theorem dX10_delivers_54 : decode cX10_delivers 54 = .ok (.iload_n 1, 1) := by decide +kernel
theorem dX10_delivers_55 : decode cX10_delivers 55 = .ok (.bipush 69, 2) := by decide +kernel
theorem dX10_delivers_57 : decode cX10_delivers 57 = .ok (.aload_n 0, 1) := by decide +kernel
theorem dX10_delivers_58 : decode cX10_delivers 58 = .ok (.iload_n 1, 1) := by decide +kernel
theorem dX10_delivers_59 : decode cX10_delivers 59 = .ok (.bipush 68, 2) := by decide +kernel
theorem dX10_delivers_61 : decode cX10_delivers 61 = .ok (.invokevirtual 81, 3) := by decide +kernel
theorem dX10_delivers_64 : decode cX10_delivers 64 = .ok (.iadd, 1) := by decide +kernel
theorem dX10_delivers_65 : decode cX10_delivers 65 = .ok (.invokevirtual 59, 3) := by decide +kernel
theorem dX10_delivers_68 : decode cX10_delivers 68 = .ok (.iload_n 3, 1) := by decide +kernel
theorem dX10_delivers_69 : decode cX10_delivers 69 = .ok (.iastore, 1) := by decide +kernel
theorem dX10_delivers_70 : decode cX10_delivers 70 = .ok (.aload_n 0, 1) := by decide +kernel
theorem dX10_delivers_71 : decode cX10_delivers 71 = .ok (.getfield 13, 3) := by decide +kernel
theorem dX10_delivers_74 : decode cX10_delivers 74 = .ok (.aload_n 0, 1) := by decide +kernel
theorem dX10_delivers_75 : decode cX10_delivers 75 = .ok (.iload_n 1, 1) := by decide +kernel
theorem dX10_delivers_76 : decode cX10_delivers 76 = .ok (.bipush 68, 2) := by decide +kernel
theorem dX10_delivers_78 : decode cX10_delivers 78 = .ok (.invokevirtual 59, 3) := by decide +kernel
theorem dX10_delivers_81 : decode cX10_delivers 81 = .ok (.dup2, 1) := by decide +kernel
theorem dX10_delivers_82 : decode cX10_delivers 82 = .ok (.iaload, 1) := by decide +kernel
theorem dX10_delivers_83 : decode cX10_delivers 83 = .ok (.iconst 1, 1) := by decide +kernel
theorem dX10_delivers_84 : decode cX10_delivers 84 = .ok (.iadd, 1) := by decide +kernel
theorem dX10_delivers_85 : decode cX10_delivers 85 = .ok (.iastore, 1) := by decide +kernel
theorem dX10_delivers_86 : decode cX10_delivers 86 = .ok (.iconst 0, 1) := by decide +kernel
theorem dX10_delivers_87 : decode cX10_delivers 87 = .ok (.ireturn, 1) := by decide +kernel
theorem dX10_delivers_88 : decode cX10_delivers 88 = .ok (.aload_n 0, 1) := by decide +kernel
theorem dX10_delivers_89 : decode cX10_delivers 89 = .ok (.iload_n 1, 1) := by decide +kernel
theorem dX10_delivers_90 : decode cX10_delivers 90 = .ok (.iload_n 3, 1) := by decide +kernel
theorem dX10_delivers_91 : decode cX10_delivers 91 = .ok (.invokevirtual 158, 3) := by decide +kernel
theorem dX10_delivers_94 : decode cX10_delivers 94 = .ok (.iconst 1, 1) := by decide +kernel
theorem dX10_delivers_95 : decode cX10_delivers 95 = .ok (.aload_n 0, 1) := by decide +kernel
theorem dX10_delivers_96 : decode cX10_delivers 96 = .ok (.iload_n 1, 1) := by decide +kernel
theorem dX10_delivers_97 : decode cX10_delivers 97 = .ok (.invokevirtual 164, 3) := by decide +kernel
theorem dX10_delivers_100 : decode cX10_delivers 100 = .ok (.iadd, 1) := by decide +kernel
theorem dX10_delivers_101 : decode cX10_delivers 101 = .ok (.ireturn, 1) := by decide +kernel
theorem dX10_deliver_0 : decode cX10_deliver 0 = .ok (.aload_n 0, 1) := by decide +kernel
theorem dX10_deliver_1 : decode cX10_deliver 1 = .ok (.iconst 0, 1) := by decide +kernel
theorem dX10_deliver_2 : decode cX10_deliver 2 = .ok (.putfield 1, 3) := by decide +kernel
theorem dX10_deliver_5 : decode cX10_deliver 5 = .ok (.aload_n 0, 1) := by decide +kernel
theorem dX10_deliver_6 : decode cX10_deliver 6 = .ok (.iload_n 1, 1) := by decide +kernel
theorem dX10_deliver_7 : decode cX10_deliver 7 = .ok (.iload_n 2, 1) := by decide +kernel
theorem dX10_deliver_8 : decode cX10_deliver 8 = .ok (.invokevirtual 167, 3) := by decide +kernel
theorem dX10_deliver_11 : decode cX10_deliver 11 = .ok (.ifCond .eq 12, 3) := by decide +kernel
theorem dX10_deliver_14 : decode cX10_deliver 14 = .ok (.aload_n 0, 1) := by decide +kernel
theorem dX10_deliver_15 : decode cX10_deliver 15 = .ok (.iload_n 1, 1) := by decide +kernel
theorem dX10_deliver_16 : decode cX10_deliver 16 = .ok (.iload_n 2, 1) := by decide +kernel
theorem dX10_deliver_17 : decode cX10_deliver 17 = .ok (.invokevirtual 170, 3) := by decide +kernel
theorem dX10_deliver_20 : decode cX10_deliver 20 = .ok (.goto 4, 3) := by decide +kernel
theorem dX10_deliver_23 : decode cX10_deliver 23 = .ok (.iconst (-1), 1) := by decide +kernel
theorem dX10_deliver_24 : decode cX10_deliver 24 = .ok (.ireturn, 1) := by decide +kernel
