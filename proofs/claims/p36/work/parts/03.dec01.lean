theorem dX5_slotOf_0 : decode cX5_slotOf 0 = .ok (.iload_n 1, 1) := by decide +kernel
theorem dX5_slotOf_1 : decode cX5_slotOf 1 = .ok (.ifCond .gt 5, 3) := by decide +kernel
theorem dX5_slotOf_4 : decode cX5_slotOf 4 = .ok (.iconst 0, 1) := by decide +kernel
theorem dX5_slotOf_5 : decode cX5_slotOf 5 = .ok (.ireturn, 1) := by decide +kernel
theorem dX5_slotOf_6 : decode cX5_slotOf 6 = .ok (.iload_n 1, 1) := by decide +kernel
theorem dX5_slotOf_7 : decode cX5_slotOf 7 = .ok (.bipush 100, 2) := by decide +kernel
theorem dX5_slotOf_9 : decode cX5_slotOf 9 = .ok (.idiv, 1) := by decide +kernel
theorem dX5_slotOf_10 : decode cX5_slotOf 10 = .ok (.istore_n 2, 1) := by decide +kernel
theorem dX5_slotOf_11 : decode cX5_slotOf 11 = .ok (.iload_n 1, 1) := by decide +kernel
theorem dX5_slotOf_12 : decode cX5_slotOf 12 = .ok (.bipush 100, 2) := by decide +kernel
theorem dX5_slotOf_14 : decode cX5_slotOf 14 = .ok (.irem, 1) := by decide +kernel
theorem dX5_slotOf_15 : decode cX5_slotOf 15 = .ok (.istore_n 3, 1) := by decide +kernel
theorem dX5_slotOf_16 : decode cX5_slotOf 16 = .ok (.iload_n 2, 1) := by decide +kernel
theorem dX5_slotOf_17 : decode cX5_slotOf 17 = .ok (.aload_n 0, 1) := by decide +kernel
theorem dX5_slotOf_18 : decode cX5_slotOf 18 = .ok (.getfield 36, 3) := by decide +kernel
theorem dX5_slotOf_21 : decode cX5_slotOf 21 = .ok (.if_icmp .ge 18, 3) := by decide +kernel
theorem dX5_slotOf_24 : decode cX5_slotOf 24 = .ok (.iload_n 3, 1) := by decide +kernel
theorem dX5_slotOf_25 : decode cX5_slotOf 25 = .ok (.iconst 1, 1) := by decide +kernel
theorem dX5_slotOf_26 : decode cX5_slotOf 26 = .ok (.if_icmp .lt 13, 3) := by decide +kernel
theorem dX5_slotOf_29 : decode cX5_slotOf 29 = .ok (.iload_n 3, 1) := by decide +kernel
theorem dX5_slotOf_30 : decode cX5_slotOf 30 = .ok (.aload_n 0, 1) := by decide +kernel
theorem dX5_slotOf_31 : decode cX5_slotOf 31 = .ok (.getfield 9, 3) := by decide +kernel
theorem dX5_slotOf_34 : decode cX5_slotOf 34 = .ok (.iload_n 2, 1) := by decide +kernel
theorem dX5_slotOf_35 : decode cX5_slotOf 35 = .ok (.iaload, 1) := by decide +kernel
theorem dX5_slotOf_36 : decode cX5_slotOf 36 = .ok (.if_icmp .le 5, 3) := by decide +kernel
theorem dX5_slotOf_39 : decode cX5_slotOf 39 = .ok (.iconst 0, 1) := by decide +kernel
theorem dX5_slotOf_40 : decode cX5_slotOf 40 = .ok (.ireturn, 1) := by decide +kernel
theorem dX5_slotOf_41 : decode cX5_slotOf 41 = .ok (.iload_n 2, 1) := by decide +kernel
theorem dX5_slotOf_42 : decode cX5_slotOf 42 = .ok (.bipush 40, 2) := by decide +kernel
theorem dX5_slotOf_44 : decode cX5_slotOf 44 = .ok (.imul, 1) := by decide +kernel
theorem dX5_slotOf_45 : decode cX5_slotOf 45 = .ok (.iload_n 3, 1) := by decide +kernel
theorem dX5_slotOf_46 : decode cX5_slotOf 46 = .ok (.iadd, 1) := by decide +kernel
theorem dX5_slotOf_47 : decode cX5_slotOf 47 = .ok (.ireturn, 1) := by decide +kernel
theorem dX5_lastOf_0 : decode cX5_lastOf 0 = .ok (.aload_n 0, 1) := by decide +kernel
theorem dX5_lastOf_1 : decode cX5_lastOf 1 = .ok (.getfield 9, 3) := by decide +kernel
theorem dX5_lastOf_4 : decode cX5_lastOf 4 = .ok (.iload_n 1, 1) := by decide +kernel
theorem dX5_lastOf_5 : decode cX5_lastOf 5 = .ok (.iaload, 1) := by decide +kernel
theorem dX5_lastOf_6 : decode cX5_lastOf 6 = .ok (.ifCond .ne 7, 3) := by decide +kernel
theorem dX5_lastOf_9 : decode cX5_lastOf 9 = .ok (.iconst 0, 1) := by decide +kernel
theorem dX5_lastOf_10 : decode cX5_lastOf 10 = .ok (.goto 14, 3) := by decide +kernel
theorem dX5_lastOf_13 : decode cX5_lastOf 13 = .ok (.iload_n 1, 1) := by decide +kernel
theorem dX5_lastOf_14 : decode cX5_lastOf 14 = .ok (.bipush 40, 2) := by decide +kernel
theorem dX5_lastOf_16 : decode cX5_lastOf 16 = .ok (.imul, 1) := by decide +kernel
theorem dX5_lastOf_17 : decode cX5_lastOf 17 = .ok (.aload_n 0, 1) := by decide +kernel
theorem dX5_lastOf_18 : decode cX5_lastOf 18 = .ok (.getfield 9, 3) := by decide +kernel
theorem dX5_lastOf_21 : decode cX5_lastOf 21 = .ok (.iload_n 1, 1) := by decide +kernel
theorem dX5_lastOf_22 : decode cX5_lastOf 22 = .ok (.iaload, 1) := by decide +kernel
theorem dX5_lastOf_23 : decode cX5_lastOf 23 = .ok (.iadd, 1) := by decide +kernel
theorem dX5_lastOf_24 : decode cX5_lastOf 24 = .ok (.ireturn, 1) := by decide +kernel
theorem dX5_isMade_0 : decode cX5_isMade 0 = .ok (.iload_n 1, 1) := by decide +kernel
theorem dX5_isMade_1 : decode cX5_isMade 1 = .ok (.invokestatic 55, 3) := by decide +kernel
theorem dX5_isMade_4 : decode cX5_isMade 4 = .ok (.aload_n 0, 1) := by decide +kernel
theorem dX5_isMade_5 : decode cX5_isMade 5 = .ok (.getfield 9, 3) := by decide +kernel
theorem dX5_isMade_8 : decode cX5_isMade 8 = .ok (.iload_n 1, 1) := by decide +kernel
theorem dX5_isMade_9 : decode cX5_isMade 9 = .ok (.invokestatic 59, 3) := by decide +kernel
theorem dX5_isMade_12 : decode cX5_isMade 12 = .ok (.iaload, 1) := by decide +kernel
theorem dX5_isMade_13 : decode cX5_isMade 13 = .ok (.if_icmp .gt 7, 3) := by decide +kernel
theorem dX5_isMade_16 : decode cX5_isMade 16 = .ok (.iconst 1, 1) := by decide +kernel
theorem dX5_isMade_17 : decode cX5_isMade 17 = .ok (.goto 4, 3) := by decide +kernel
theorem dX5_isMade_20 : decode cX5_isMade 20 = .ok (.iconst 0, 1) := by decide +kernel
theorem dX5_isMade_21 : decode cX5_isMade 21 = .ok (.ireturn, 1) := by decide +kernel
theorem dX5_timeOf_0 : decode cX5_timeOf 0 = .ok (.aload_n 0, 1) := by decide +kernel
theorem dX5_timeOf_1 : decode cX5_timeOf 1 = .ok (.getfield 18, 3) := by decide +kernel
theorem dX5_timeOf_4 : decode cX5_timeOf 4 = .ok (.iload_n 1, 1) := by decide +kernel
theorem dX5_timeOf_5 : decode cX5_timeOf 5 = .ok (.iaload, 1) := by decide +kernel
theorem dX5_timeOf_6 : decode cX5_timeOf 6 = .ok (.bipush 8, 2) := by decide +kernel
theorem dX5_timeOf_8 : decode cX5_timeOf 8 = .ok (.idiv, 1) := by decide +kernel
theorem dX5_timeOf_9 : decode cX5_timeOf 9 = .ok (.ireturn, 1) := by decide +kernel
theorem dX5_isNeeded_0 : decode cX5_isNeeded 0 = .ok (.iload_n 1, 1) := by decide +kernel
theorem dX5_isNeeded_1 : decode cX5_isNeeded 1 = .ok (.invokestatic 55, 3) := by decide +kernel
theorem dX5_isNeeded_4 : decode cX5_isNeeded 4 = .ok (.aload_n 0, 1) := by decide +kernel
theorem dX5_isNeeded_5 : decode cX5_isNeeded 5 = .ok (.getfield 30, 3) := by decide +kernel
theorem dX5_isNeeded_8 : decode cX5_isNeeded 8 = .ok (.iload_n 2, 1) := by decide +kernel
theorem dX5_isNeeded_9 : decode cX5_isNeeded 9 = .ok (.iconst 5, 1) := by decide +kernel
theorem dX5_isNeeded_10 : decode cX5_isNeeded 10 = .ok (.imul, 1) := by decide +kernel
theorem dX5_isNeeded_11 : decode cX5_isNeeded 11 = .ok (.iload_n 1, 1) := by decide +kernel
theorem dX5_isNeeded_12 : decode cX5_isNeeded 12 = .ok (.invokestatic 59, 3) := by decide +kernel
theorem dX5_isNeeded_15 : decode cX5_isNeeded 15 = .ok (.iadd, 1) := by decide +kernel
theorem dX5_isNeeded_16 : decode cX5_isNeeded 16 = .ok (.iaload, 1) := by decide +kernel
theorem dX5_isNeeded_17 : decode cX5_isNeeded 17 = .ok (.if_icmp .gt 7, 3) := by decide +kernel
theorem dX5_isNeeded_20 : decode cX5_isNeeded 20 = .ok (.iconst 1, 1) := by decide +kernel
theorem dX5_isNeeded_21 : decode cX5_isNeeded 21 = .ok (.goto 4, 3) := by decide +kernel
theorem dX5_isNeeded_24 : decode cX5_isNeeded 24 = .ok (.iconst 0, 1) := by decide +kernel
theorem dX5_isNeeded_25 : decode cX5_isNeeded 25 = .ok (.ireturn, 1) := by decide +kernel
theorem dX5_open_0 : decode cX5_open 0 = .ok (.aload_n 0, 1) := by decide +kernel
theorem dX5_open_1 : decode cX5_open 1 = .ok (.getfield 9, 3) := by decide +kernel
theorem dX5_open_4 : decode cX5_open 4 = .ok (.iload_n 1, 1) := by decide +kernel
theorem dX5_open_5 : decode cX5_open 5 = .ok (.iaload, 1) := by decide +kernel
theorem dX5_open_6 : decode cX5_open 6 = .ok (.bipush 40, 2) := by decide +kernel
theorem dX5_open_8 : decode cX5_open 8 = .ok (.if_icmp .ge 13, 3) := by decide +kernel
theorem dX5_open_11 : decode cX5_open 11 = .ok (.aload_n 0, 1) := by decide +kernel
theorem dX5_open_12 : decode cX5_open 12 = .ok (.getfield 40, 3) := by decide +kernel
theorem dX5_open_15 : decode cX5_open 15 = .ok (.sipush 201, 3) := by decide +kernel
theorem dX5_open_18 : decode cX5_open 18 = .ok (.if_icmp .lt 5, 3) := by decide +kernel
theorem dX5_open_21 : decode cX5_open 21 = .ok (.iconst 0, 1) := by decide +kernel
theorem dX5_open_22 : decode cX5_open 22 = .ok (.ireturn, 1) := by decide +kernel
theorem dX5_open_23 : decode cX5_open 23 = .ok (.aload_n 0, 1) := by decide +kernel
theorem dX5_open_24 : decode cX5_open 24 = .ok (.getfield 9, 3) := by decide +kernel
theorem dX5_open_27 : decode cX5_open 27 = .ok (.iload_n 1, 1) := by decide +kernel
theorem dX5_open_28 : decode cX5_open 28 = .ok (.dup2, 1) := by decide +kernel
theorem dX5_open_29 : decode cX5_open 29 = .ok (.iaload, 1) := by decide +kernel
theorem dX5_open_30 : decode cX5_open 30 = .ok (.iconst 1, 1) := by decide +kernel
theorem dX5_open_31 : decode cX5_open 31 = .ok (.iadd, 1) := by decide +kernel
theorem dX5_open_32 : decode cX5_open 32 = .ok (.iastore, 1) := by decide +kernel
theorem dX5_open_33 : decode cX5_open 33 = .ok (.iload_n 1, 1) := by decide +kernel
theorem dX5_open_34 : decode cX5_open 34 = .ok (.bipush 40, 2) := by decide +kernel
theorem dX5_open_36 : decode cX5_open 36 = .ok (.imul, 1) := by decide +kernel
theorem dX5_open_37 : decode cX5_open 37 = .ok (.aload_n 0, 1) := by decide +kernel
theorem dX5_open_38 : decode cX5_open 38 = .ok (.getfield 9, 3) := by decide +kernel
theorem dX5_open_41 : decode cX5_open 41 = .ok (.iload_n 1, 1) := by decide +kernel
theorem dX5_open_42 : decode cX5_open 42 = .ok (.iaload, 1) := by decide +kernel
theorem dX5_open_43 : decode cX5_open 43 = .ok (.iadd, 1) := by decide +kernel
theorem dX5_open_44 : decode cX5_open 44 = .ok (.istore 4, 2) := by decide +kernel
theorem dX5_open_46 : decode cX5_open 46 = .ok (.aload_n 3, 1) := by decide +kernel
theorem dX5_open_47 : decode cX5_open 47 = .ok (.iconst 0, 1) := by decide +kernel
theorem dX5_open_48 : decode cX5_open 48 = .ok (.aload_n 0, 1) := by decide +kernel
theorem dX5_open_49 : decode cX5_open 49 = .ok (.getfield 30, 3) := by decide +kernel
theorem dX5_open_52 : decode cX5_open 52 = .ok (.iload 4, 2) := by decide +kernel
theorem dX5_open_54 : decode cX5_open 54 = .ok (.iconst 5, 1) := by decide +kernel
theorem dX5_open_55 : decode cX5_open 55 = .ok (.imul, 1) := by decide +kernel
theorem dX5_open_56 : decode cX5_open 56 = .ok (.iconst 5, 1) := by decide +kernel
theorem dX5_open_57 : decode cX5_open 57 = .ok (.invokestatic 49, 3) := by decide +kernel
theorem dX5_open_60 : decode cX5_open 60 = .ok (.aload_n 0, 1) := by decide +kernel
theorem dX5_open_61 : decode cX5_open 61 = .ok (.getfield 18, 3) := by decide +kernel
theorem dX5_open_64 : decode cX5_open 64 = .ok (.iload 4, 2) := by decide +kernel
theorem dX5_open_66 : decode cX5_open 66 = .ok (.iload_n 2, 1) := by decide +kernel
theorem dX5_open_67 : decode cX5_open 67 = .ok (.bipush 8, 2) := by decide +kernel
theorem dX5_open_69 : decode cX5_open 69 = .ok (.imul, 1) := by decide +kernel
theorem dX5_open_70 : decode cX5_open 70 = .ok (.iload_n 1, 1) := by decide +kernel
theorem dX5_open_71 : decode cX5_open 71 = .ok (.iadd, 1) := by decide +kernel
theorem dX5_open_72 : decode cX5_open 72 = .ok (.iastore, 1) := by decide +kernel
theorem dX5_open_73 : decode cX5_open 73 = .ok (.aload_n 0, 1) := by decide +kernel
theorem dX5_open_74 : decode cX5_open 74 = .ok (.getfield 40, 3) := by decide +kernel
theorem dX5_open_77 : decode cX5_open 77 = .ok (.istore 5, 2) := by decide +kernel
theorem dX5_open_79 : decode cX5_open 79 = .ok (.iload 5, 2) := by decide +kernel
theorem dX5_open_81 : decode cX5_open 81 = .ok (.ifCond .le 49, 3) := by decide +kernel
theorem dX5_open_84 : decode cX5_open 84 = .ok (.aload_n 0, 1) := by decide +kernel
theorem dX5_open_85 : decode cX5_open 85 = .ok (.getfield 18, 3) := by decide +kernel
theorem dX5_open_88 : decode cX5_open 88 = .ok (.aload_n 0, 1) := by decide +kernel
theorem dX5_open_89 : decode cX5_open 89 = .ok (.getfield 33, 3) := by decide +kernel
theorem dX5_open_92 : decode cX5_open 92 = .ok (.iload 5, 2) := by decide +kernel
theorem dX5_open_94 : decode cX5_open 94 = .ok (.iconst 1, 1) := by decide +kernel
theorem dX5_open_95 : decode cX5_open 95 = .ok (.isub, 1) := by decide +kernel
theorem dX5_open_96 : decode cX5_open 96 = .ok (.iaload, 1) := by decide +kernel
theorem dX5_open_97 : decode cX5_open 97 = .ok (.iaload, 1) := by decide +kernel
theorem dX5_open_98 : decode cX5_open 98 = .ok (.aload_n 0, 1) := by decide +kernel
theorem dX5_open_99 : decode cX5_open 99 = .ok (.getfield 18, 3) := by decide +kernel
theorem dX5_open_102 : decode cX5_open 102 = .ok (.iload 4, 2) := by decide +kernel
theorem dX5_open_104 : decode cX5_open 104 = .ok (.iaload, 1) := by decide +kernel
theorem dX5_open_105 : decode cX5_open 105 = .ok (.if_icmp .le 25, 3) := by decide +kernel
theorem dX5_open_108 : decode cX5_open 108 = .ok (.aload_n 0, 1) := by decide +kernel
theorem dX5_open_109 : decode cX5_open 109 = .ok (.getfield 33, 3) := by decide +kernel
theorem dX5_open_112 : decode cX5_open 112 = .ok (.iload 5, 2) := by decide +kernel
theorem dX5_open_114 : decode cX5_open 114 = .ok (.aload_n 0, 1) := by decide +kernel
theorem dX5_open_115 : decode cX5_open 115 = .ok (.getfield 33, 3) := by decide +kernel
theorem dX5_open_118 : decode cX5_open 118 = .ok (.iload 5, 2) := by decide +kernel
theorem dX5_open_120 : decode cX5_open 120 = .ok (.iconst 1, 1) := by decide +kernel
theorem dX5_open_121 : decode cX5_open 121 = .ok (.isub, 1) := by decide +kernel
theorem dX5_open_122 : decode cX5_open 122 = .ok (.iaload, 1) := by decide +kernel
theorem dX5_open_123 : decode cX5_open 123 = .ok (.iastore, 1) := by decide +kernel
theorem dX5_open_124 : decode cX5_open 124 = .ok (.iinc 5 (-1), 3) := by decide +kernel
theorem dX5_open_127 : decode cX5_open 127 = .ok (.goto (-48), 3) := by decide +kernel
theorem dX5_open_130 : decode cX5_open 130 = .ok (.aload_n 0, 1) := by decide +kernel
theorem dX5_open_131 : decode cX5_open 131 = .ok (.getfield 33, 3) := by decide +kernel
theorem dX5_open_134 : decode cX5_open 134 = .ok (.iload 5, 2) := by decide +kernel
theorem dX5_open_136 : decode cX5_open 136 = .ok (.iload 4, 2) := by decide +kernel
theorem dX5_open_138 : decode cX5_open 138 = .ok (.iastore, 1) := by decide +kernel
theorem dX5_open_139 : decode cX5_open 139 = .ok (.aload_n 0, 1) := by decide +kernel
theorem dX5_open_140 : decode cX5_open 140 = .ok (.dup, 1) := by decide +kernel
theorem dX5_open_141 : decode cX5_open 141 = .ok (.getfield 40, 3) := by decide +kernel
theorem dX5_open_144 : decode cX5_open 144 = .ok (.iconst 1, 1) := by decide +kernel
theorem dX5_open_145 : decode cX5_open 145 = .ok (.iadd, 1) := by decide +kernel
theorem dX5_open_146 : decode cX5_open 146 = .ok (.putfield 40, 3) := by decide +kernel
theorem dX5_open_149 : decode cX5_open 149 = .ok (.iload 4, 2) := by decide +kernel
theorem dX5_open_151 : decode cX5_open 151 = .ok (.ireturn, 1) := by decide +kernel
theorem dX6_init_0 : decode cX6_init 0 = .ok (.aload_n 0, 1) := by decide +kernel
theorem dX6_init_1 : decode cX6_init 1 = .ok (.invokespecial 1, 3) := by decide +kernel
theorem dX6_init_4 : decode cX6_init 4 = .ok (.aload_n 0, 1) := by decide +kernel
theorem dX6_init_5 : decode cX6_init 5 = .ok (.iload_n 1, 1) := by decide +kernel
theorem dX6_init_6 : decode cX6_init 6 = .ok (.newarray .int, 2) := by decide +kernel
theorem dX6_init_8 : decode cX6_init 8 = .ok (.putfield 7, 3) := by decide +kernel
theorem dX6_init_11 : decode cX6_init 11 = .ok (.return_, 1) := by decide +kernel
theorem dX6_copy_0 : decode cX6_copy 0 = .ok (.aload_n 1, 1) := by decide +kernel
theorem dX6_copy_1 : decode cX6_copy 1 = .ok (.getfield 7, 3) := by decide +kernel
theorem dX6_copy_4 : decode cX6_copy 4 = .ok (.iconst 0, 1) := by decide +kernel
theorem dX6_copy_5 : decode cX6_copy 5 = .ok (.aload_n 0, 1) := by decide +kernel
theorem dX6_copy_6 : decode cX6_copy 6 = .ok (.getfield 7, 3) := by decide +kernel
theorem dX6_copy_9 : decode cX6_copy 9 = .ok (.iconst 0, 1) := by decide +kernel
theorem dX6_copy_10 : decode cX6_copy 10 = .ok (.aload_n 1, 1) := by decide +kernel
theorem dX6_copy_11 : decode cX6_copy 11 = .ok (.getfield 7, 3) := by decide +kernel
theorem dX6_copy_14 : decode cX6_copy 14 = .ok (.arraylength, 1) := by decide +kernel
theorem dX6_copy_15 : decode cX6_copy 15 = .ok (.aload_n 0, 1) := by decide +kernel
theorem dX6_copy_16 : decode cX6_copy 16 = .ok (.getfield 7, 3) := by decide +kernel
theorem dX6_copy_19 : decode cX6_copy 19 = .ok (.arraylength, 1) := by decide +kernel
theorem dX6_copy_20 : decode cX6_copy 20 = .ok (.invokestatic 13, 3) := by decide +kernel
theorem dX6_copy_23 : decode cX6_copy 23 = .ok (.invokestatic 19, 3) := by decide +kernel
theorem dX6_copy_26 : decode cX6_copy 26 = .ok (.aload_n 0, 1) := by decide +kernel
theorem dX6_copy_27 : decode cX6_copy 27 = .ok (.aload_n 1, 1) := by decide +kernel
theorem dX6_copy_28 : decode cX6_copy 28 = .ok (.getfield 25, 3) := by decide +kernel
theorem dX6_copy_31 : decode cX6_copy 31 = .ok (.putfield 25, 3) := by decide +kernel
theorem dX6_copy_34 : decode cX6_copy 34 = .ok (.return_, 1) := by decide +kernel
theorem dX6_add_0 : decode cX6_add 0 = .ok (.aload_n 0, 1) := by decide +kernel
theorem dX6_add_1 : decode cX6_add 1 = .ok (.getfield 25, 3) := by decide +kernel
theorem dX6_add_4 : decode cX6_add 4 = .ok (.aload_n 0, 1) := by decide +kernel
theorem dX6_add_5 : decode cX6_add 5 = .ok (.getfield 7, 3) := by decide +kernel
theorem dX6_add_8 : decode cX6_add 8 = .ok (.arraylength, 1) := by decide +kernel
theorem dX6_add_9 : decode cX6_add 9 = .ok (.if_icmp .lt 5, 3) := by decide +kernel
theorem dX6_add_12 : decode cX6_add 12 = .ok (.iconst 0, 1) := by decide +kernel
theorem dX6_add_13 : decode cX6_add 13 = .ok (.ireturn, 1) := by decide +kernel
theorem dX6_add_14 : decode cX6_add 14 = .ok (.aload_n 0, 1) := by decide +kernel
theorem dX6_add_15 : decode cX6_add 15 = .ok (.getfield 7, 3) := by decide +kernel
theorem dX6_add_18 : decode cX6_add 18 = .ok (.aload_n 0, 1) := by decide +kernel
theorem dX6_add_19 : decode cX6_add 19 = .ok (.getfield 25, 3) := by decide +kernel
theorem dX6_add_22 : decode cX6_add 22 = .ok (.iload_n 1, 1) := by decide +kernel
theorem dX6_add_23 : decode cX6_add 23 = .ok (.iastore, 1) := by decide +kernel
theorem dX6_add_24 : decode cX6_add 24 = .ok (.aload_n 0, 1) := by decide +kernel
theorem dX6_add_25 : decode cX6_add 25 = .ok (.dup, 1) := by decide +kernel
theorem dX6_add_26 : decode cX6_add 26 = .ok (.getfield 25, 3) := by decide +kernel
theorem dX6_add_29 : decode cX6_add 29 = .ok (.iconst 1, 1) := by decide +kernel
theorem dX6_add_30 : decode cX6_add 30 = .ok (.iadd, 1) := by decide +kernel
theorem dX6_add_31 : decode cX6_add 31 = .ok (.putfield 25, 3) := by decide +kernel
theorem dX6_add_34 : decode cX6_add 34 = .ok (.iconst 1, 1) := by decide +kernel
theorem dX6_add_35 : decode cX6_add 35 = .ok (.ireturn, 1) := by decide +kernel
theorem dX6_removeAt_0 : decode cX6_removeAt 0 = .ok (.iload_n 1, 1) := by decide +kernel
theorem dX6_removeAt_1 : decode cX6_removeAt 1 = .ok (.ifCond .lt 44, 3) := by decide +kernel
theorem dX6_removeAt_4 : decode cX6_removeAt 4 = .ok (.iload_n 1, 1) := by decide +kernel
theorem dX6_removeAt_5 : decode cX6_removeAt 5 = .ok (.aload_n 0, 1) := by decide +kernel
theorem dX6_removeAt_6 : decode cX6_removeAt 6 = .ok (.getfield 25, 3) := by decide +kernel
theorem dX6_removeAt_9 : decode cX6_removeAt 9 = .ok (.if_icmp .ge 36, 3) := by decide +kernel
theorem dX6_removeAt_12 : decode cX6_removeAt 12 = .ok (.aload_n 0, 1) := by decide +kernel
theorem dX6_removeAt_13 : decode cX6_removeAt 13 = .ok (.getfield 7, 3) := by decide +kernel
theorem dX6_removeAt_16 : decode cX6_removeAt 16 = .ok (.iload_n 1, 1) := by decide +kernel
theorem dX6_removeAt_17 : decode cX6_removeAt 17 = .ok (.iconst 1, 1) := by decide +kernel
theorem dX6_removeAt_18 : decode cX6_removeAt 18 = .ok (.iadd, 1) := by decide +kernel
theorem dX6_removeAt_19 : decode cX6_removeAt 19 = .ok (.aload_n 0, 1) := by decide +kernel
theorem dX6_removeAt_20 : decode cX6_removeAt 20 = .ok (.getfield 7, 3) := by decide +kernel
theorem dX6_removeAt_23 : decode cX6_removeAt 23 = .ok (.iload_n 1, 1) := by decide +kernel
theorem dX6_removeAt_24 : decode cX6_removeAt 24 = .ok (.aload_n 0, 1) := by decide +kernel
theorem dX6_removeAt_25 : decode cX6_removeAt 25 = .ok (.getfield 25, 3) := by decide +kernel
theorem dX6_removeAt_28 : decode cX6_removeAt 28 = .ok (.iload_n 1, 1) := by decide +kernel
theorem dX6_removeAt_29 : decode cX6_removeAt 29 = .ok (.isub, 1) := by decide +kernel
theorem dX6_removeAt_30 : decode cX6_removeAt 30 = .ok (.iconst 1, 1) := by decide +kernel
theorem dX6_removeAt_31 : decode cX6_removeAt 31 = .ok (.isub, 1) := by decide +kernel
theorem dX6_removeAt_32 : decode cX6_removeAt 32 = .ok (.invokestatic 19, 3) := by decide +kernel
theorem dX6_removeAt_35 : decode cX6_removeAt 35 = .ok (.aload_n 0, 1) := by decide +kernel
theorem dX6_removeAt_36 : decode cX6_removeAt 36 = .ok (.dup, 1) := by decide +kernel
theorem dX6_removeAt_37 : decode cX6_removeAt 37 = .ok (.getfield 25, 3) := by decide +kernel
theorem dX6_removeAt_40 : decode cX6_removeAt 40 = .ok (.iconst 1, 1) := by decide +kernel
theorem dX6_removeAt_41 : decode cX6_removeAt 41 = .ok (.isub, 1) := by decide +kernel
theorem dX6_removeAt_42 : decode cX6_removeAt 42 = .ok (.putfield 25, 3) := by decide +kernel
theorem dX6_removeAt_45 : decode cX6_removeAt 45 = .ok (.return_, 1) := by decide +kernel
theorem dX7_init_0 : decode cX7_init 0 = .ok (.aload_n 0, 1) := by decide +kernel
theorem dX7_init_1 : decode cX7_init 1 = .ok (.invokespecial 3, 3) := by decide +kernel
theorem dX7_init_4 : decode cX7_init 4 = .ok (.aload_n 0, 1) := by decide +kernel
theorem dX7_init_5 : decode cX7_init 5 = .ok (.sipush 400, 3) := by decide +kernel
theorem dX7_init_8 : decode cX7_init 8 = .ok (.newarray .int, 2) := by decide +kernel
theorem dX7_init_10 : decode cX7_init 10 = .ok (.putfield 9, 3) := by decide +kernel
theorem dX7_init_13 : decode cX7_init 13 = .ok (.aload_n 0, 1) := by decide +kernel
theorem dX7_init_14 : decode cX7_init 14 = .ok (.iconst 0, 1) := by decide +kernel
theorem dX7_init_15 : decode cX7_init 15 = .ok (.newarray .byte, 2) := by decide +kernel
theorem dX7_init_17 : decode cX7_init 17 = .ok (.putfield 15, 3) := by decide +kernel
theorem dX7_init_20 : decode cX7_init 20 = .ok (.return_, 1) := by decide +kernel
theorem dX7_read_0 : decode cX7_read 0 = .ok (.aload_n 0, 1) := by decide +kernel
theorem dX7_read_1 : decode cX7_read 1 = .ok (.aload_n 1, 1) := by decide +kernel
theorem dX7_read_2 : decode cX7_read 2 = .ok (.putfield 15, 3) := by decide +kernel
theorem dX7_read_5 : decode cX7_read 5 = .ok (.aload_n 0, 1) := by decide +kernel
theorem dX7_read_6 : decode cX7_read 6 = .ok (.iload_n 2, 1) := by decide +kernel
theorem dX7_read_7 : decode cX7_read 7 = .ok (.aload_n 1, 1) := by decide +kernel
theorem dX7_read_8 : decode cX7_read 8 = .ok (.arraylength, 1) := by decide +kernel
theorem dX7_read_9 : decode cX7_read 9 = .ok (.invokestatic 19, 3) := by decide +kernel
theorem dX7_read_12 : decode cX7_read 12 = .ok (.putfield 25, 3) := by decide +kernel
theorem dX7_read_15 : decode cX7_read 15 = .ok (.aload_n 0, 1) := by decide +kernel
theorem dX7_read_16 : decode cX7_read 16 = .ok (.iconst 0, 1) := by decide +kernel
theorem dX7_read_17 : decode cX7_read 17 = .ok (.putfield 29, 3) := by decide +kernel
theorem dX7_read_20 : decode cX7_read 20 = .ok (.aload_n 0, 1) := by decide +kernel
theorem dX7_read_21 : decode cX7_read 21 = .ok (.iconst 0, 1) := by decide +kernel
theorem dX7_read_22 : decode cX7_read 22 = .ok (.putfield 32, 3) := by decide +kernel
theorem dX7_read_25 : decode cX7_read 25 = .ok (.aload_n 0, 1) := by decide +kernel
theorem dX7_read_26 : decode cX7_read 26 = .ok (.invokevirtual 35, 3) := by decide +kernel
theorem dX7_read_29 : decode cX7_read 29 = .ok (.iconst 0, 1) := by decide +kernel
theorem dX7_read_30 : decode cX7_read 30 = .ok (.istore_n 3, 1) := by decide +kernel
theorem dX7_read_31 : decode cX7_read 31 = .ok (.iload_n 3, 1) := by decide +kernel
theorem dX7_read_32 : decode cX7_read 32 = .ok (.aload_n 0, 1) := by decide +kernel
theorem dX7_read_33 : decode cX7_read 33 = .ok (.getfield 25, 3) := by decide +kernel
theorem dX7_read_36 : decode cX7_read 36 = .ok (.if_icmp .ge 33, 3) := by decide +kernel
theorem dX7_read_39 : decode cX7_read 39 = .ok (.aload_n 0, 1) := by decide +kernel
theorem dX7_read_40 : decode cX7_read 40 = .ok (.getfield 29, 3) := by decide +kernel
theorem dX7_read_43 : decode cX7_read 43 = .ok (.aload_n 0, 1) := by decide +kernel
theorem dX7_read_44 : decode cX7_read 44 = .ok (.getfield 25, 3) := by decide +kernel
theorem dX7_read_47 : decode cX7_read 47 = .ok (.if_icmp .ge 22, 3) := by decide +kernel
theorem dX7_read_50 : decode cX7_read 50 = .ok (.aload_n 0, 1) := by decide +kernel
theorem dX7_read_51 : decode cX7_read 51 = .ok (.invokevirtual 38, 3) := by decide +kernel
theorem dX7_read_54 : decode cX7_read 54 = .ok (.ifCond .ne 5, 3) := by decide +kernel
theorem dX7_read_57 : decode cX7_read 57 = .ok (.iconst 0, 1) := by decide +kernel
theorem dX7_read_58 : decode cX7_read 58 = .ok (.ireturn, 1) := by decide +kernel
theorem dX7_read_59 : decode cX7_read 59 = .ok (.aload_n 0, 1) := by decide +kernel
theorem dX7_read_60 : decode cX7_read 60 = .ok (.invokevirtual 35, 3) := by decide +kernel
theorem dX7_read_63 : decode cX7_read 63 = .ok (.iinc 3 1, 3) := by decide +kernel
theorem dX7_read_66 : decode cX7_read 66 = .ok (.goto (-35), 3) := by decide +kernel
theorem dX7_read_69 : decode cX7_read 69 = .ok (.iconst 1, 1) := by decide +kernel
theorem dX7_read_70 : decode cX7_read 70 = .ok (.ireturn, 1) := by decide +kernel
theorem dX7_readDeed_0 : decode cX7_readDeed 0 = .ok (.aload_n 0, 1) := by decide +kernel
theorem dX7_readDeed_1 : decode cX7_readDeed 1 = .ok (.getfield 29, 3) := by decide +kernel
theorem dX7_readDeed_4 : decode cX7_readDeed 4 = .ok (.istore_n 1, 1) := by decide +kernel
theorem dX7_readDeed_5 : decode cX7_readDeed 5 = .ok (.aload_n 0, 1) := by decide +kernel
theorem dX7_readDeed_6 : decode cX7_readDeed 6 = .ok (.invokevirtual 42, 3) := by decide +kernel
theorem dX7_readDeed_9 : decode cX7_readDeed 9 = .ok (.aload_n 0, 1) := by decide +kernel
theorem dX7_readDeed_10 : decode cX7_readDeed 10 = .ok (.iload_n 1, 1) := by decide +kernel
theorem dX7_readDeed_11 : decode cX7_readDeed 11 = .ok (.invokevirtual 45, 3) := by decide +kernel
theorem dX7_readDeed_14 : decode cX7_readDeed 14 = .ok (.istore_n 2, 1) := by decide +kernel
theorem dX7_readDeed_15 : decode cX7_readDeed 15 = .ok (.aload_n 0, 1) := by decide +kernel
theorem dX7_readDeed_16 : decode cX7_readDeed 16 = .ok (.getfield 32, 3) := by decide +kernel
theorem dX7_readDeed_19 : decode cX7_readDeed 19 = .ok (.iconst 4, 1) := by decide +kernel
theorem dX7_readDeed_20 : decode cX7_readDeed 20 = .ok (.imul, 1) := by decide +kernel
theorem dX7_readDeed_21 : decode cX7_readDeed 21 = .ok (.istore_n 3, 1) := by decide +kernel
theorem dX7_readDeed_22 : decode cX7_readDeed 22 = .ok (.iload_n 2, 1) := by decide +kernel
theorem dX7_readDeed_23 : decode cX7_readDeed 23 = .ok (.iconst (-1), 1) := by decide +kernel
theorem dX7_readDeed_24 : decode cX7_readDeed 24 = .ok (.if_icmp .eq 14, 3) := by decide +kernel
theorem dX7_readDeed_27 : decode cX7_readDeed 27 = .ok (.iload_n 3, 1) := by decide +kernel
theorem dX7_readDeed_28 : decode cX7_readDeed 28 = .ok (.iconst 4, 1) := by decide +kernel
theorem dX7_readDeed_29 : decode cX7_readDeed 29 = .ok (.iadd, 1) := by decide +kernel
theorem dX7_readDeed_30 : decode cX7_readDeed 30 = .ok (.aload_n 0, 1) := by decide +kernel
theorem dX7_readDeed_31 : decode cX7_readDeed 31 = .ok (.getfield 9, 3) := by decide +kernel
theorem dX7_readDeed_34 : decode cX7_readDeed 34 = .ok (.arraylength, 1) := by decide +kernel
theorem dX7_readDeed_35 : decode cX7_readDeed 35 = .ok (.if_icmp .le 10, 3) := by decide +kernel
theorem dX7_readDeed_38 : decode cX7_readDeed 38 = .ok (.aload_n 0, 1) := by decide +kernel
theorem dX7_readDeed_39 : decode cX7_readDeed 39 = .ok (.iload_n 1, 1) := by decide +kernel
theorem dX7_readDeed_40 : decode cX7_readDeed 40 = .ok (.iconst 1, 1) := by decide +kernel
theorem dX7_readDeed_41 : decode cX7_readDeed 41 = .ok (.invokevirtual 49, 3) := by decide +kernel
theorem dX7_readDeed_44 : decode cX7_readDeed 44 = .ok (.ireturn, 1) := by decide +kernel
theorem dX7_readDeed_45 : decode cX7_readDeed 45 = .ok (.aload_n 0, 1) := by decide +kernel
theorem dX7_readDeed_46 : decode cX7_readDeed 46 = .ok (.getfield 9, 3) := by decide +kernel
theorem dX7_readDeed_49 : decode cX7_readDeed 49 = .ok (.iload_n 3, 1) := by decide +kernel
theorem dX7_readDeed_50 : decode cX7_readDeed 50 = .ok (.iload_n 2, 1) := by decide +kernel
theorem dX7_readDeed_51 : decode cX7_readDeed 51 = .ok (.iastore, 1) := by decide +kernel
theorem dX7_readDeed_52 : decode cX7_readDeed 52 = .ok (.getstatic 53, 3) := by decide +kernel
theorem dX7_readDeed_55 : decode cX7_readDeed 55 = .ok (.iload_n 2, 1) := by decide +kernel
theorem dX7_readDeed_56 : decode cX7_readDeed 56 = .ok (.aaload, 1) := by decide +kernel
theorem dX7_readDeed_57 : decode cX7_readDeed 57 = .ok (.getfield 57, 3) := by decide +kernel
theorem dX7_readDeed_60 : decode cX7_readDeed 60 = .ok (.istore 4, 2) := by decide +kernel
theorem dX7_readDeed_62 : decode cX7_readDeed 62 = .ok (.iconst 1, 1) := by decide +kernel
theorem dX7_readDeed_63 : decode cX7_readDeed 63 = .ok (.istore 5, 2) := by decide +kernel
theorem dX7_readDeed_65 : decode cX7_readDeed 65 = .ok (.iload 5, 2) := by decide +kernel
theorem dX7_readDeed_67 : decode cX7_readDeed 67 = .ok (.iload 4, 2) := by decide +kernel
theorem dX7_readDeed_69 : decode cX7_readDeed 69 = .ok (.if_icmp .gt 22, 3) := by decide +kernel
theorem dX7_readDeed_72 : decode cX7_readDeed 72 = .ok (.aload_n 0, 1) := by decide +kernel
theorem dX7_readDeed_73 : decode cX7_readDeed 73 = .ok (.iload_n 3, 1) := by decide +kernel
theorem dX7_readDeed_74 : decode cX7_readDeed 74 = .ok (.iload 5, 2) := by decide +kernel
theorem dX7_readDeed_76 : decode cX7_readDeed 76 = .ok (.iadd, 1) := by decide +kernel
theorem dX7_readDeed_77 : decode cX7_readDeed 77 = .ok (.invokevirtual 62, 3) := by decide +kernel
theorem dX7_readDeed_80 : decode cX7_readDeed 80 = .ok (.ifCond .ne 5, 3) := by decide +kernel
theorem dX7_readDeed_83 : decode cX7_readDeed 83 = .ok (.iconst 0, 1) := by decide +kernel
theorem dX7_readDeed_84 : decode cX7_readDeed 84 = .ok (.ireturn, 1) := by decide +kernel
theorem dX7_readDeed_85 : decode cX7_readDeed 85 = .ok (.iinc 5 1, 3) := by decide +kernel
theorem dX7_readDeed_88 : decode cX7_readDeed 88 = .ok (.goto (-23), 3) := by decide +kernel
theorem dX7_readDeed_91 : decode cX7_readDeed 91 = .ok (.getstatic 53, 3) := by decide +kernel
theorem dX7_readDeed_94 : decode cX7_readDeed 94 = .ok (.iload_n 2, 1) := by decide +kernel
theorem dX7_readDeed_95 : decode cX7_readDeed 95 = .ok (.aaload, 1) := by decide +kernel
theorem dX7_readDeed_96 : decode cX7_readDeed 96 = .ok (.getfield 66, 3) := by decide +kernel
theorem dX7_readDeed_99 : decode cX7_readDeed 99 = .ok (.ifCond .eq 18, 3) := by decide +kernel
theorem dX7_readDeed_102 : decode cX7_readDeed 102 = .ok (.aload_n 0, 1) := by decide +kernel
theorem dX7_readDeed_103 : decode cX7_readDeed 103 = .ok (.iload_n 3, 1) := by decide +kernel
theorem dX7_readDeed_104 : decode cX7_readDeed 104 = .ok (.iload 4, 2) := by decide +kernel
theorem dX7_readDeed_106 : decode cX7_readDeed 106 = .ok (.iadd, 1) := by decide +kernel
theorem dX7_readDeed_107 : decode cX7_readDeed 107 = .ok (.iconst 1, 1) := by decide +kernel
theorem dX7_readDeed_108 : decode cX7_readDeed 108 = .ok (.iadd, 1) := by decide +kernel
theorem dX7_readDeed_109 : decode cX7_readDeed 109 = .ok (.invokevirtual 70, 3) := by decide +kernel
theorem dX7_readDeed_112 : decode cX7_readDeed 112 = .ok (.ifCond .ne 5, 3) := by decide +kernel
theorem dX7_readDeed_115 : decode cX7_readDeed 115 = .ok (.iconst 0, 1) := by decide +kernel
theorem dX7_readDeed_116 : decode cX7_readDeed 116 = .ok (.ireturn, 1) := by decide +kernel
theorem dX7_readDeed_117 : decode cX7_readDeed 117 = .ok (.aload_n 0, 1) := by decide +kernel
theorem dX7_readDeed_118 : decode cX7_readDeed 118 = .ok (.invokevirtual 35, 3) := by decide +kernel
theorem dX7_readDeed_121 : decode cX7_readDeed 121 = .ok (.aload_n 0, 1) := by decide +kernel
theorem dX7_readDeed_122 : decode cX7_readDeed 122 = .ok (.aload_n 0, 1) := by decide +kernel
theorem dX7_readDeed_123 : decode cX7_readDeed 123 = .ok (.getfield 29, 3) := by decide +kernel
theorem dX7_readDeed_126 : decode cX7_readDeed 126 = .ok (.invokevirtual 73, 3) := by decide +kernel
theorem dX7_readDeed_129 : decode cX7_readDeed 129 = .ok (.bipush 59, 2) := by decide +kernel
theorem dX7_readDeed_131 : decode cX7_readDeed 131 = .ok (.if_icmp .eq 13, 3) := by decide +kernel
theorem dX7_readDeed_134 : decode cX7_readDeed 134 = .ok (.aload_n 0, 1) := by decide +kernel
theorem dX7_readDeed_135 : decode cX7_readDeed 135 = .ok (.aload_n 0, 1) := by decide +kernel
theorem dX7_readDeed_136 : decode cX7_readDeed 136 = .ok (.getfield 29, 3) := by decide +kernel
theorem dX7_readDeed_139 : decode cX7_readDeed 139 = .ok (.iconst 1, 1) := by decide +kernel
theorem dX7_readDeed_140 : decode cX7_readDeed 140 = .ok (.invokevirtual 49, 3) := by decide +kernel
theorem dX7_readDeed_143 : decode cX7_readDeed 143 = .ok (.ireturn, 1) := by decide +kernel
theorem dX7_readDeed_144 : decode cX7_readDeed 144 = .ok (.aload_n 0, 1) := by decide +kernel
theorem dX7_readDeed_145 : decode cX7_readDeed 145 = .ok (.dup, 1) := by decide +kernel
theorem dX7_readDeed_146 : decode cX7_readDeed 146 = .ok (.getfield 29, 3) := by decide +kernel
theorem dX7_readDeed_149 : decode cX7_readDeed 149 = .ok (.iconst 1, 1) := by decide +kernel
theorem dX7_readDeed_150 : decode cX7_readDeed 150 = .ok (.iadd, 1) := by decide +kernel
theorem dX7_readDeed_151 : decode cX7_readDeed 151 = .ok (.putfield 29, 3) := by decide +kernel
theorem dX7_readDeed_154 : decode cX7_readDeed 154 = .ok (.aload_n 0, 1) := by decide +kernel
theorem dX7_readDeed_155 : decode cX7_readDeed 155 = .ok (.dup, 1) := by decide +kernel
theorem dX7_readDeed_156 : decode cX7_readDeed 156 = .ok (.getfield 32, 3) := by decide +kernel
theorem dX7_readDeed_159 : decode cX7_readDeed 159 = .ok (.iconst 1, 1) := by decide +kernel
theorem dX7_readDeed_160 : decode cX7_readDeed 160 = .ok (.iadd, 1) := by decide +kernel
theorem dX7_readDeed_161 : decode cX7_readDeed 161 = .ok (.putfield 32, 3) := by decide +kernel
theorem dX7_readDeed_164 : decode cX7_readDeed 164 = .ok (.iconst 1, 1) := by decide +kernel
theorem dX7_readDeed_165 : decode cX7_readDeed 165 = .ok (.ireturn, 1) := by decide +kernel
theorem dX7_readNumber_0 : decode cX7_readNumber 0 = .ok (.aload_n 0, 1) := by decide +kernel
theorem dX7_readNumber_1 : decode cX7_readNumber 1 = .ok (.invokevirtual 35, 3) := by decide +kernel
theorem dX7_readNumber_4 : decode cX7_readNumber 4 = .ok (.aload_n 0, 1) := by decide +kernel
theorem dX7_readNumber_5 : decode cX7_readNumber 5 = .ok (.getfield 29, 3) := by decide +kernel
theorem dX7_readNumber_8 : decode cX7_readNumber 8 = .ok (.istore_n 2, 1) := by decide +kernel
theorem dX7_readNumber_9 : decode cX7_readNumber 9 = .ok (.iconst 0, 1) := by decide +kernel
theorem dX7_readNumber_10 : decode cX7_readNumber 10 = .ok (.istore_n 3, 1) := by decide +kernel
theorem dX7_readNumber_11 : decode cX7_readNumber 11 = .ok (.aload_n 0, 1) := by decide +kernel
theorem dX7_readNumber_12 : decode cX7_readNumber 12 = .ok (.getfield 29, 3) := by decide +kernel
theorem dX7_readNumber_15 : decode cX7_readNumber 15 = .ok (.aload_n 0, 1) := by decide +kernel
theorem dX7_readNumber_16 : decode cX7_readNumber 16 = .ok (.getfield 25, 3) := by decide +kernel
theorem dX7_readNumber_19 : decode cX7_readNumber 19 = .ok (.if_icmp .ge 47, 3) := by decide +kernel
theorem dX7_readNumber_22 : decode cX7_readNumber 22 = .ok (.aload_n 0, 1) := by decide +kernel
theorem dX7_readNumber_23 : decode cX7_readNumber 23 = .ok (.aload_n 0, 1) := by decide +kernel
theorem dX7_readNumber_24 : decode cX7_readNumber 24 = .ok (.getfield 29, 3) := by decide +kernel
theorem dX7_readNumber_27 : decode cX7_readNumber 27 = .ok (.invokevirtual 73, 3) := by decide +kernel
theorem dX7_readNumber_30 : decode cX7_readNumber 30 = .ok (.invokestatic 76, 3) := by decide +kernel
theorem dX7_readNumber_33 : decode cX7_readNumber 33 = .ok (.ifCond .eq 33, 3) := by decide +kernel
theorem dX7_readNumber_36 : decode cX7_readNumber 36 = .ok (.iload_n 3, 1) := by decide +kernel
theorem dX7_readNumber_37 : decode cX7_readNumber 37 = .ok (.bipush 10, 2) := by decide +kernel
theorem dX7_readNumber_39 : decode cX7_readNumber 39 = .ok (.imul, 1) := by decide +kernel
theorem dX7_readNumber_40 : decode cX7_readNumber 40 = .ok (.aload_n 0, 1) := by decide +kernel
theorem dX7_readNumber_41 : decode cX7_readNumber 41 = .ok (.aload_n 0, 1) := by decide +kernel
theorem dX7_readNumber_42 : decode cX7_readNumber 42 = .ok (.getfield 29, 3) := by decide +kernel
theorem dX7_readNumber_45 : decode cX7_readNumber 45 = .ok (.invokevirtual 73, 3) := by decide +kernel
theorem dX7_readNumber_48 : decode cX7_readNumber 48 = .ok (.bipush 48, 2) := by decide +kernel
theorem dX7_readNumber_50 : decode cX7_readNumber 50 = .ok (.isub, 1) := by decide +kernel
theorem dX7_readNumber_51 : decode cX7_readNumber 51 = .ok (.iadd, 1) := by decide +kernel
theorem dX7_readNumber_52 : decode cX7_readNumber 52 = .ok (.istore_n 3, 1) := by decide +kernel
theorem dX7_readNumber_53 : decode cX7_readNumber 53 = .ok (.aload_n 0, 1) := by decide +kernel
theorem dX7_readNumber_54 : decode cX7_readNumber 54 = .ok (.dup, 1) := by decide +kernel
theorem dX7_readNumber_55 : decode cX7_readNumber 55 = .ok (.getfield 29, 3) := by decide +kernel
theorem dX7_readNumber_58 : decode cX7_readNumber 58 = .ok (.iconst 1, 1) := by decide +kernel
theorem dX7_readNumber_59 : decode cX7_readNumber 59 = .ok (.iadd, 1) := by decide +kernel
theorem dX7_readNumber_60 : decode cX7_readNumber 60 = .ok (.putfield 29, 3) := by decide +kernel
theorem dX7_readNumber_63 : decode cX7_readNumber 63 = .ok (.goto (-52), 3) := by decide +kernel
theorem dX7_readNumber_66 : decode cX7_readNumber 66 = .ok (.aload_n 0, 1) := by decide +kernel
theorem dX7_readNumber_67 : decode cX7_readNumber 67 = .ok (.getfield 29, 3) := by decide +kernel
theorem dX7_readNumber_70 : decode cX7_readNumber 70 = .ok (.iload_n 2, 1) := by decide +kernel
theorem dX7_readNumber_71 : decode cX7_readNumber 71 = .ok (.if_icmp .ne 10, 3) := by decide +kernel
theorem dX7_readNumber_74 : decode cX7_readNumber 74 = .ok (.aload_n 0, 1) := by decide +kernel
theorem dX7_readNumber_75 : decode cX7_readNumber 75 = .ok (.iload_n 2, 1) := by decide +kernel
theorem dX7_readNumber_76 : decode cX7_readNumber 76 = .ok (.iconst 1, 1) := by decide +kernel
theorem dX7_readNumber_77 : decode cX7_readNumber 77 = .ok (.invokevirtual 49, 3) := by decide +kernel
theorem dX7_readNumber_80 : decode cX7_readNumber 80 = .ok (.ireturn, 1) := by decide +kernel
theorem dX7_readNumber_81 : decode cX7_readNumber 81 = .ok (.aload_n 0, 1) := by decide +kernel
theorem dX7_readNumber_82 : decode cX7_readNumber 82 = .ok (.getfield 29, 3) := by decide +kernel
theorem dX7_readNumber_85 : decode cX7_readNumber 85 = .ok (.iload_n 2, 1) := by decide +kernel
theorem dX7_readNumber_86 : decode cX7_readNumber 86 = .ok (.isub, 1) := by decide +kernel
theorem dX7_readNumber_87 : decode cX7_readNumber 87 = .ok (.iconst 3, 1) := by decide +kernel
theorem dX7_readNumber_88 : decode cX7_readNumber 88 = .ok (.if_icmp .le 10, 3) := by decide +kernel
theorem dX7_readNumber_91 : decode cX7_readNumber 91 = .ok (.aload_n 0, 1) := by decide +kernel
theorem dX7_readNumber_92 : decode cX7_readNumber 92 = .ok (.iload_n 2, 1) := by decide +kernel
theorem dX7_readNumber_93 : decode cX7_readNumber 93 = .ok (.iconst 2, 1) := by decide +kernel
theorem dX7_readNumber_94 : decode cX7_readNumber 94 = .ok (.invokevirtual 49, 3) := by decide +kernel
theorem dX7_readNumber_97 : decode cX7_readNumber 97 = .ok (.ireturn, 1) := by decide +kernel
theorem dX7_readNumber_98 : decode cX7_readNumber 98 = .ok (.aload_n 0, 1) := by decide +kernel
theorem dX7_readNumber_99 : decode cX7_readNumber 99 = .ok (.getfield 9, 3) := by decide +kernel
theorem dX7_readNumber_102 : decode cX7_readNumber 102 = .ok (.iload_n 1, 1) := by decide +kernel
theorem dX7_readNumber_103 : decode cX7_readNumber 103 = .ok (.iload_n 3, 1) := by decide +kernel
theorem dX7_readNumber_104 : decode cX7_readNumber 104 = .ok (.iastore, 1) := by decide +kernel
theorem dX7_readNumber_105 : decode cX7_readNumber 105 = .ok (.iconst 1, 1) := by decide +kernel
theorem dX7_readNumber_106 : decode cX7_readNumber 106 = .ok (.ireturn, 1) := by decide +kernel
theorem dX7_readLetter_0 : decode cX7_readLetter 0 = .ok (.aload_n 0, 1) := by decide +kernel
theorem dX7_readLetter_1 : decode cX7_readLetter 1 = .ok (.invokevirtual 35, 3) := by decide +kernel
theorem dX7_readLetter_4 : decode cX7_readLetter 4 = .ok (.aload_n 0, 1) := by decide +kernel
theorem dX7_readLetter_5 : decode cX7_readLetter 5 = .ok (.getfield 29, 3) := by decide +kernel
theorem dX7_readLetter_8 : decode cX7_readLetter 8 = .ok (.istore_n 2, 1) := by decide +kernel
theorem dX7_readLetter_9 : decode cX7_readLetter 9 = .ok (.aload_n 0, 1) := by decide +kernel
theorem dX7_readLetter_10 : decode cX7_readLetter 10 = .ok (.invokevirtual 42, 3) := by decide +kernel
theorem dX7_readLetter_13 : decode cX7_readLetter 13 = .ok (.aload_n 0, 1) := by decide +kernel
theorem dX7_readLetter_14 : decode cX7_readLetter 14 = .ok (.getfield 29, 3) := by decide +kernel
theorem dX7_readLetter_17 : decode cX7_readLetter 17 = .ok (.iload_n 2, 1) := by decide +kernel
theorem dX7_readLetter_18 : decode cX7_readLetter 18 = .ok (.if_icmp .ne 10, 3) := by decide +kernel
theorem dX7_readLetter_21 : decode cX7_readLetter 21 = .ok (.aload_n 0, 1) := by decide +kernel
theorem dX7_readLetter_22 : decode cX7_readLetter 22 = .ok (.iload_n 2, 1) := by decide +kernel
theorem dX7_readLetter_23 : decode cX7_readLetter 23 = .ok (.iconst 1, 1) := by decide +kernel
theorem dX7_readLetter_24 : decode cX7_readLetter 24 = .ok (.invokevirtual 49, 3) := by decide +kernel
theorem dX7_readLetter_27 : decode cX7_readLetter 27 = .ok (.ireturn, 1) := by decide +kernel
theorem dX7_readLetter_28 : decode cX7_readLetter 28 = .ok (.aload_n 0, 1) := by decide +kernel
theorem dX7_readLetter_29 : decode cX7_readLetter 29 = .ok (.getfield 29, 3) := by decide +kernel
theorem dX7_readLetter_32 : decode cX7_readLetter 32 = .ok (.iload_n 2, 1) := by decide +kernel
theorem dX7_readLetter_33 : decode cX7_readLetter 33 = .ok (.isub, 1) := by decide +kernel
theorem dX7_readLetter_34 : decode cX7_readLetter 34 = .ok (.iconst 1, 1) := by decide +kernel
theorem dX7_readLetter_35 : decode cX7_readLetter 35 = .ok (.if_icmp .le 10, 3) := by decide +kernel
theorem dX7_readLetter_38 : decode cX7_readLetter 38 = .ok (.aload_n 0, 1) := by decide +kernel
theorem dX7_readLetter_39 : decode cX7_readLetter 39 = .ok (.iload_n 2, 1) := by decide +kernel
theorem dX7_readLetter_40 : decode cX7_readLetter 40 = .ok (.iconst 2, 1) := by decide +kernel
theorem dX7_readLetter_41 : decode cX7_readLetter 41 = .ok (.invokevirtual 49, 3) := by decide +kernel
theorem dX7_readLetter_44 : decode cX7_readLetter 44 = .ok (.ireturn, 1) := by decide +kernel
theorem dX7_readLetter_45 : decode cX7_readLetter 45 = .ok (.aload_n 0, 1) := by decide +kernel
theorem dX7_readLetter_46 : decode cX7_readLetter 46 = .ok (.getfield 9, 3) := by decide +kernel
theorem dX7_readLetter_49 : decode cX7_readLetter 49 = .ok (.iload_n 1, 1) := by decide +kernel
theorem dX7_readLetter_50 : decode cX7_readLetter 50 = .ok (.aload_n 0, 1) := by decide +kernel
theorem dX7_readLetter_51 : decode cX7_readLetter 51 = .ok (.iload_n 2, 1) := by decide +kernel
theorem dX7_readLetter_52 : decode cX7_readLetter 52 = .ok (.invokevirtual 73, 3) := by decide +kernel
theorem dX7_readLetter_55 : decode cX7_readLetter 55 = .ok (.bipush 97, 2) := by decide +kernel
theorem dX7_readLetter_57 : decode cX7_readLetter 57 = .ok (.isub, 1) := by decide +kernel
theorem dX7_readLetter_58 : decode cX7_readLetter 58 = .ok (.iastore, 1) := by decide +kernel
theorem dX7_readLetter_59 : decode cX7_readLetter 59 = .ok (.iconst 1, 1) := by decide +kernel
theorem dX7_readLetter_60 : decode cX7_readLetter 60 = .ok (.ireturn, 1) := by decide +kernel
theorem dX7_deedOf_0 : decode cX7_deedOf 0 = .ok (.iconst 0, 1) := by decide +kernel
theorem dX7_deedOf_1 : decode cX7_deedOf 1 = .ok (.istore_n 2, 1) := by decide +kernel
theorem dX7_deedOf_2 : decode cX7_deedOf 2 = .ok (.iload_n 2, 1) := by decide +kernel
theorem dX7_deedOf_3 : decode cX7_deedOf 3 = .ok (.getstatic 53, 3) := by decide +kernel
theorem dX7_deedOf_6 : decode cX7_deedOf 6 = .ok (.arraylength, 1) := by decide +kernel
theorem dX7_deedOf_7 : decode cX7_deedOf 7 = .ok (.if_icmp .ge 27, 3) := by decide +kernel
theorem dX7_deedOf_10 : decode cX7_deedOf 10 = .ok (.aload_n 0, 1) := by decide +kernel
theorem dX7_deedOf_11 : decode cX7_deedOf 11 = .ok (.getstatic 53, 3) := by decide +kernel
theorem dX7_deedOf_14 : decode cX7_deedOf 14 = .ok (.iload_n 2, 1) := by decide +kernel
theorem dX7_deedOf_15 : decode cX7_deedOf 15 = .ok (.aaload, 1) := by decide +kernel
theorem dX7_deedOf_16 : decode cX7_deedOf 16 = .ok (.getfield 79, 3) := by decide +kernel
theorem dX7_deedOf_19 : decode cX7_deedOf 19 = .ok (.iload_n 1, 1) := by decide +kernel
theorem dX7_deedOf_20 : decode cX7_deedOf 20 = .ok (.invokevirtual 83, 3) := by decide +kernel
theorem dX7_deedOf_23 : decode cX7_deedOf 23 = .ok (.ifCond .eq 5, 3) := by decide +kernel
theorem dX7_deedOf_26 : decode cX7_deedOf 26 = .ok (.iload_n 2, 1) := by decide +kernel
theorem dX7_deedOf_27 : decode cX7_deedOf 27 = .ok (.ireturn, 1) := by decide +kernel
theorem dX7_deedOf_28 : decode cX7_deedOf 28 = .ok (.iinc 2 1, 3) := by decide +kernel
theorem dX7_deedOf_31 : decode cX7_deedOf 31 = .ok (.goto (-29), 3) := by decide +kernel
theorem dX7_deedOf_34 : decode cX7_deedOf 34 = .ok (.iconst (-1), 1) := by decide +kernel
theorem dX7_deedOf_35 : decode cX7_deedOf 35 = .ok (.ireturn, 1) := by decide +kernel
theorem dX7_isWord_0 : decode cX7_isWord 0 = .ok (.aload_n 0, 1) := by decide +kernel
theorem dX7_isWord_1 : decode cX7_isWord 1 = .ok (.getfield 29, 3) := by decide +kernel
theorem dX7_isWord_4 : decode cX7_isWord 4 = .ok (.iload_n 2, 1) := by decide +kernel
theorem dX7_isWord_5 : decode cX7_isWord 5 = .ok (.isub, 1) := by decide +kernel
theorem dX7_isWord_6 : decode cX7_isWord 6 = .ok (.aload_n 1, 1) := by decide +kernel
theorem dX7_isWord_7 : decode cX7_isWord 7 = .ok (.invokevirtual 87, 3) := by decide +kernel
theorem dX7_isWord_10 : decode cX7_isWord 10 = .ok (.if_icmp .eq 5, 3) := by decide +kernel
theorem dX7_isWord_13 : decode cX7_isWord 13 = .ok (.iconst 0, 1) := by decide +kernel
theorem dX7_isWord_14 : decode cX7_isWord 14 = .ok (.ireturn, 1) := by decide +kernel
theorem dX7_isWord_15 : decode cX7_isWord 15 = .ok (.iconst 0, 1) := by decide +kernel
theorem dX7_isWord_16 : decode cX7_isWord 16 = .ok (.istore_n 3, 1) := by decide +kernel
theorem dX7_isWord_17 : decode cX7_isWord 17 = .ok (.iload_n 3, 1) := by decide +kernel
theorem dX7_isWord_18 : decode cX7_isWord 18 = .ok (.aload_n 1, 1) := by decide +kernel
theorem dX7_isWord_19 : decode cX7_isWord 19 = .ok (.invokevirtual 87, 3) := by decide +kernel
theorem dX7_isWord_22 : decode cX7_isWord 22 = .ok (.if_icmp .ge 26, 3) := by decide +kernel
theorem dX7_isWord_25 : decode cX7_isWord 25 = .ok (.aload_n 0, 1) := by decide +kernel
theorem dX7_isWord_26 : decode cX7_isWord 26 = .ok (.iload_n 2, 1) := by decide +kernel
theorem dX7_isWord_27 : decode cX7_isWord 27 = .ok (.iload_n 3, 1) := by decide +kernel
theorem dX7_isWord_28 : decode cX7_isWord 28 = .ok (.iadd, 1) := by decide +kernel
theorem dX7_isWord_29 : decode cX7_isWord 29 = .ok (.invokevirtual 73, 3) := by decide +kernel
theorem dX7_isWord_32 : decode cX7_isWord 32 = .ok (.aload_n 1, 1) := by decide +kernel
theorem dX7_isWord_33 : decode cX7_isWord 33 = .ok (.iload_n 3, 1) := by decide +kernel
theorem dX7_isWord_34 : decode cX7_isWord 34 = .ok (.invokevirtual 93, 3) := by decide +kernel
theorem dX7_isWord_37 : decode cX7_isWord 37 = .ok (.if_icmp .eq 5, 3) := by decide +kernel
theorem dX7_isWord_40 : decode cX7_isWord 40 = .ok (.iconst 0, 1) := by decide +kernel
theorem dX7_isWord_41 : decode cX7_isWord 41 = .ok (.ireturn, 1) := by decide +kernel
theorem dX7_isWord_42 : decode cX7_isWord 42 = .ok (.iinc 3 1, 3) := by decide +kernel
theorem dX7_isWord_45 : decode cX7_isWord 45 = .ok (.goto (-28), 3) := by decide +kernel
theorem dX7_isWord_48 : decode cX7_isWord 48 = .ok (.iconst 1, 1) := by decide +kernel
theorem dX7_isWord_49 : decode cX7_isWord 49 = .ok (.ireturn, 1) := by decide +kernel
theorem dX7_skipBlanks_0 : decode cX7_skipBlanks 0 = .ok (.aload_n 0, 1) := by decide +kernel
theorem dX7_skipBlanks_1 : decode cX7_skipBlanks 1 = .ok (.getfield 29, 3) := by decide +kernel
theorem dX7_skipBlanks_4 : decode cX7_skipBlanks 4 = .ok (.aload_n 0, 1) := by decide +kernel
theorem dX7_skipBlanks_5 : decode cX7_skipBlanks 5 = .ok (.getfield 25, 3) := by decide +kernel
theorem dX7_skipBlanks_8 : decode cX7_skipBlanks 8 = .ok (.if_icmp .ge 42, 3) := by decide +kernel
theorem dX7_skipBlanks_11 : decode cX7_skipBlanks 11 = .ok (.aload_n 0, 1) := by decide +kernel
theorem dX7_skipBlanks_12 : decode cX7_skipBlanks 12 = .ok (.aload_n 0, 1) := by decide +kernel
theorem dX7_skipBlanks_13 : decode cX7_skipBlanks 13 = .ok (.getfield 29, 3) := by decide +kernel
theorem dX7_skipBlanks_16 : decode cX7_skipBlanks 16 = .ok (.invokevirtual 73, 3) := by decide +kernel
theorem dX7_skipBlanks_19 : decode cX7_skipBlanks 19 = .ok (.bipush 32, 2) := by decide +kernel
theorem dX7_skipBlanks_21 : decode cX7_skipBlanks 21 = .ok (.if_icmp .eq 16, 3) := by decide +kernel
theorem dX7_skipBlanks_24 : decode cX7_skipBlanks 24 = .ok (.aload_n 0, 1) := by decide +kernel
theorem dX7_skipBlanks_25 : decode cX7_skipBlanks 25 = .ok (.aload_n 0, 1) := by decide +kernel
theorem dX7_skipBlanks_26 : decode cX7_skipBlanks 26 = .ok (.getfield 29, 3) := by decide +kernel
theorem dX7_skipBlanks_29 : decode cX7_skipBlanks 29 = .ok (.invokevirtual 73, 3) := by decide +kernel
theorem dX7_skipBlanks_32 : decode cX7_skipBlanks 32 = .ok (.bipush 10, 2) := by decide +kernel
theorem dX7_skipBlanks_34 : decode cX7_skipBlanks 34 = .ok (.if_icmp .ne 16, 3) := by decide +kernel
theorem dX7_skipBlanks_37 : decode cX7_skipBlanks 37 = .ok (.aload_n 0, 1) := by decide +kernel
theorem dX7_skipBlanks_38 : decode cX7_skipBlanks 38 = .ok (.dup, 1) := by decide +kernel
theorem dX7_skipBlanks_39 : decode cX7_skipBlanks 39 = .ok (.getfield 29, 3) := by decide +kernel
theorem dX7_skipBlanks_42 : decode cX7_skipBlanks 42 = .ok (.iconst 1, 1) := by decide +kernel
theorem dX7_skipBlanks_43 : decode cX7_skipBlanks 43 = .ok (.iadd, 1) := by decide +kernel
theorem dX7_skipBlanks_44 : decode cX7_skipBlanks 44 = .ok (.putfield 29, 3) := by decide +kernel
theorem dX7_skipBlanks_47 : decode cX7_skipBlanks 47 = .ok (.goto (-47), 3) := by decide +kernel
theorem dX7_skipBlanks_50 : decode cX7_skipBlanks 50 = .ok (.return_, 1) := by decide +kernel
theorem dX7_skipWord_0 : decode cX7_skipWord 0 = .ok (.aload_n 0, 1) := by decide +kernel
theorem dX7_skipWord_1 : decode cX7_skipWord 1 = .ok (.getfield 29, 3) := by decide +kernel
theorem dX7_skipWord_4 : decode cX7_skipWord 4 = .ok (.aload_n 0, 1) := by decide +kernel
theorem dX7_skipWord_5 : decode cX7_skipWord 5 = .ok (.getfield 25, 3) := by decide +kernel
theorem dX7_skipWord_8 : decode cX7_skipWord 8 = .ok (.if_icmp .ge 30, 3) := by decide +kernel
theorem dX7_skipWord_11 : decode cX7_skipWord 11 = .ok (.aload_n 0, 1) := by decide +kernel
theorem dX7_skipWord_12 : decode cX7_skipWord 12 = .ok (.aload_n 0, 1) := by decide +kernel
theorem dX7_skipWord_13 : decode cX7_skipWord 13 = .ok (.getfield 29, 3) := by decide +kernel
theorem dX7_skipWord_16 : decode cX7_skipWord 16 = .ok (.invokevirtual 73, 3) := by decide +kernel
theorem dX7_skipWord_19 : decode cX7_skipWord 19 = .ok (.invokestatic 97, 3) := by decide +kernel
theorem dX7_skipWord_22 : decode cX7_skipWord 22 = .ok (.ifCond .eq 16, 3) := by decide +kernel
theorem dX7_skipWord_25 : decode cX7_skipWord 25 = .ok (.aload_n 0, 1) := by decide +kernel
theorem dX7_skipWord_26 : decode cX7_skipWord 26 = .ok (.dup, 1) := by decide +kernel
theorem dX7_skipWord_27 : decode cX7_skipWord 27 = .ok (.getfield 29, 3) := by decide +kernel
theorem dX7_skipWord_30 : decode cX7_skipWord 30 = .ok (.iconst 1, 1) := by decide +kernel
theorem dX7_skipWord_31 : decode cX7_skipWord 31 = .ok (.iadd, 1) := by decide +kernel
theorem dX7_skipWord_32 : decode cX7_skipWord 32 = .ok (.putfield 29, 3) := by decide +kernel
theorem dX7_skipWord_35 : decode cX7_skipWord 35 = .ok (.goto (-35), 3) := by decide +kernel
theorem dX7_skipWord_38 : decode cX7_skipWord 38 = .ok (.return_, 1) := by decide +kernel
theorem dX7_byteAt_0 : decode cX7_byteAt 0 = .ok (.iload_n 1, 1) := by decide +kernel
theorem dX7_byteAt_1 : decode cX7_byteAt 1 = .ok (.ifCond .lt 11, 3) := by decide +kernel
theorem dX7_byteAt_4 : decode cX7_byteAt 4 = .ok (.iload_n 1, 1) := by decide +kernel
theorem dX7_byteAt_5 : decode cX7_byteAt 5 = .ok (.aload_n 0, 1) := by decide +kernel
theorem dX7_byteAt_6 : decode cX7_byteAt 6 = .ok (.getfield 25, 3) := by decide +kernel
theorem dX7_byteAt_9 : decode cX7_byteAt 9 = .ok (.if_icmp .lt 7, 3) := by decide +kernel
theorem dX7_byteAt_12 : decode cX7_byteAt 12 = .ok (.iconst (-1), 1) := by decide +kernel
theorem dX7_byteAt_13 : decode cX7_byteAt 13 = .ok (.goto 13, 3) := by decide +kernel
theorem dX7_byteAt_16 : decode cX7_byteAt 16 = .ok (.aload_n 0, 1) := by decide +kernel
theorem dX7_byteAt_17 : decode cX7_byteAt 17 = .ok (.getfield 15, 3) := by decide +kernel
theorem dX7_byteAt_20 : decode cX7_byteAt 20 = .ok (.iload_n 1, 1) := by decide +kernel
theorem dX7_byteAt_21 : decode cX7_byteAt 21 = .ok (.baload, 1) := by decide +kernel
theorem dX7_byteAt_22 : decode cX7_byteAt 22 = .ok (.sipush 255, 3) := by decide +kernel
theorem dX7_byteAt_25 : decode cX7_byteAt 25 = .ok (.iand, 1) := by decide +kernel
theorem dX7_byteAt_26 : decode cX7_byteAt 26 = .ok (.ireturn, 1) := by decide +kernel
theorem dX7_isDigit_0 : decode cX7_isDigit 0 = .ok (.iload_n 0, 1) := by decide +kernel
theorem dX7_isDigit_1 : decode cX7_isDigit 1 = .ok (.bipush 48, 2) := by decide +kernel
theorem dX7_isDigit_3 : decode cX7_isDigit 3 = .ok (.if_icmp .lt 13, 3) := by decide +kernel
theorem dX7_isDigit_6 : decode cX7_isDigit 6 = .ok (.iload_n 0, 1) := by decide +kernel
theorem dX7_isDigit_7 : decode cX7_isDigit 7 = .ok (.bipush 57, 2) := by decide +kernel
theorem dX7_isDigit_9 : decode cX7_isDigit 9 = .ok (.if_icmp .gt 7, 3) := by decide +kernel
theorem dX7_isDigit_12 : decode cX7_isDigit 12 = .ok (.iconst 1, 1) := by decide +kernel
theorem dX7_isDigit_13 : decode cX7_isDigit 13 = .ok (.goto 4, 3) := by decide +kernel
theorem dX7_isDigit_16 : decode cX7_isDigit 16 = .ok (.iconst 0, 1) := by decide +kernel
theorem dX7_isDigit_17 : decode cX7_isDigit 17 = .ok (.ireturn, 1) := by decide +kernel
theorem dX7_isSmallLetter_0 : decode cX7_isSmallLetter 0 = .ok (.iload_n 0, 1) := by decide +kernel
theorem dX7_isSmallLetter_1 : decode cX7_isSmallLetter 1 = .ok (.bipush 97, 2) := by decide +kernel
theorem dX7_isSmallLetter_3 : decode cX7_isSmallLetter 3 = .ok (.if_icmp .lt 13, 3) := by decide +kernel
theorem dX7_isSmallLetter_6 : decode cX7_isSmallLetter 6 = .ok (.iload_n 0, 1) := by decide +kernel
theorem dX7_isSmallLetter_7 : decode cX7_isSmallLetter 7 = .ok (.bipush 122, 2) := by decide +kernel
theorem dX7_isSmallLetter_9 : decode cX7_isSmallLetter 9 = .ok (.if_icmp .gt 7, 3) := by decide +kernel
theorem dX7_isSmallLetter_12 : decode cX7_isSmallLetter 12 = .ok (.iconst 1, 1) := by decide +kernel
theorem dX7_isSmallLetter_13 : decode cX7_isSmallLetter 13 = .ok (.goto 4, 3) := by decide +kernel
theorem dX7_isSmallLetter_16 : decode cX7_isSmallLetter 16 = .ok (.iconst 0, 1) := by decide +kernel
theorem dX7_isSmallLetter_17 : decode cX7_isSmallLetter 17 = .ok (.ireturn, 1) := by decide +kernel
theorem dX7_fail_0 : decode cX7_fail 0 = .ok (.aload_n 0, 1) := by decide +kernel
theorem dX7_fail_1 : decode cX7_fail 1 = .ok (.bipush 8, 2) := by decide +kernel
theorem dX7_fail_3 : decode cX7_fail 3 = .ok (.iload_n 1, 1) := by decide +kernel
theorem dX7_fail_4 : decode cX7_fail 4 = .ok (.imul, 1) := by decide +kernel
theorem dX7_fail_5 : decode cX7_fail 5 = .ok (.iload_n 2, 1) := by decide +kernel
theorem dX7_fail_6 : decode cX7_fail 6 = .ok (.iadd, 1) := by decide +kernel
theorem dX7_fail_7 : decode cX7_fail 7 = .ok (.putfield 100, 3) := by decide +kernel
theorem dX7_fail_10 : decode cX7_fail 10 = .ok (.iconst 0, 1) := by decide +kernel
theorem dX7_fail_11 : decode cX7_fail 11 = .ok (.ireturn, 1) := by decide +kernel
theorem dX8_init_0 : decode cX8_init 0 = .ok (.aload_n 0, 1) := by decide +kernel
theorem dX8_init_1 : decode cX8_init 1 = .ok (.invokespecial 3, 3) := by decide +kernel
theorem dX8_init_4 : decode cX8_init 4 = .ok (.aload_n 0, 1) := by decide +kernel
theorem dX8_init_5 : decode cX8_init 5 = .ok (.iconst 5, 1) := by decide +kernel
theorem dX8_init_6 : decode cX8_init 6 = .ok (.newarray .int, 2) := by decide +kernel
theorem dX8_init_8 : decode cX8_init 8 = .ok (.putfield 9, 3) := by decide +kernel
theorem dX8_init_11 : decode cX8_init 11 = .ok (.aload_n 0, 1) := by decide +kernel
theorem dX8_init_12 : decode cX8_init 12 = .ok (.bipush 25, 2) := by decide +kernel
theorem dX8_init_14 : decode cX8_init 14 = .ok (.newarray .int, 2) := by decide +kernel
theorem dX8_init_16 : decode cX8_init 16 = .ok (.putfield 15, 3) := by decide +kernel
theorem dX8_init_19 : decode cX8_init 19 = .ok (.aload_n 0, 1) := by decide +kernel
theorem dX8_init_20 : decode cX8_init 20 = .ok (.new 18, 3) := by decide +kernel
theorem dX8_init_23 : decode cX8_init 23 = .ok (.dup, 1) := by decide +kernel
theorem dX8_init_24 : decode cX8_init 24 = .ok (.bipush 60, 2) := by decide +kernel
theorem dX8_init_26 : decode cX8_init 26 = .ok (.invokespecial 20, 3) := by decide +kernel
theorem dX8_init_29 : decode cX8_init 29 = .ok (.putfield 23, 3) := by decide +kernel
theorem dX8_init_32 : decode cX8_init 32 = .ok (.aload_n 0, 1) := by decide +kernel
theorem dX8_init_33 : decode cX8_init 33 = .ok (.new 18, 3) := by decide +kernel
theorem dX8_init_36 : decode cX8_init 36 = .ok (.dup, 1) := by decide +kernel
theorem dX8_init_37 : decode cX8_init 37 = .ok (.sipush 201, 3) := by decide +kernel
theorem dX8_init_40 : decode cX8_init 40 = .ok (.invokespecial 20, 3) := by decide +kernel
theorem dX8_init_43 : decode cX8_init 43 = .ok (.putfield 27, 3) := by decide +kernel
theorem dX8_init_46 : decode cX8_init 46 = .ok (.aload_n 0, 1) := by decide +kernel
theorem dX8_init_47 : decode cX8_init 47 = .ok (.new 30, 3) := by decide +kernel
theorem dX8_init_50 : decode cX8_init 50 = .ok (.dup, 1) := by decide +kernel
theorem dX8_init_51 : decode cX8_init 51 = .ok (.invokespecial 32, 3) := by decide +kernel
theorem dX8_init_54 : decode cX8_init 54 = .ok (.putfield 33, 3) := by decide +kernel
theorem dX8_init_57 : decode cX8_init 57 = .ok (.return_, 1) := by decide +kernel
theorem dX8_clear_0 : decode cX8_clear 0 = .ok (.aload_n 0, 1) := by decide +kernel
theorem dX8_clear_1 : decode cX8_clear 1 = .ok (.getfield 9, 3) := by decide +kernel
theorem dX8_clear_4 : decode cX8_clear 4 = .ok (.iconst 0, 1) := by decide +kernel
theorem dX8_clear_5 : decode cX8_clear 5 = .ok (.invokestatic 37, 3) := by decide +kernel
theorem dX8_clear_8 : decode cX8_clear 8 = .ok (.aload_n 0, 1) := by decide +kernel
theorem dX8_clear_9 : decode cX8_clear 9 = .ok (.getfield 15, 3) := by decide +kernel
theorem dX8_clear_12 : decode cX8_clear 12 = .ok (.iconst 0, 1) := by decide +kernel
theorem dX8_clear_13 : decode cX8_clear 13 = .ok (.invokestatic 37, 3) := by decide +kernel
theorem dX8_clear_16 : decode cX8_clear 16 = .ok (.aload_n 0, 1) := by decide +kernel
theorem dX8_clear_17 : decode cX8_clear 17 = .ok (.getfield 23, 3) := by decide +kernel
theorem dX8_clear_20 : decode cX8_clear 20 = .ok (.iconst 0, 1) := by decide +kernel
theorem dX8_clear_21 : decode cX8_clear 21 = .ok (.putfield 43, 3) := by decide +kernel
theorem dX8_clear_24 : decode cX8_clear 24 = .ok (.aload_n 0, 1) := by decide +kernel
theorem dX8_clear_25 : decode cX8_clear 25 = .ok (.getfield 27, 3) := by decide +kernel
theorem dX8_clear_28 : decode cX8_clear 28 = .ok (.iconst 0, 1) := by decide +kernel
theorem dX8_clear_29 : decode cX8_clear 29 = .ok (.putfield 43, 3) := by decide +kernel
theorem dX8_clear_32 : decode cX8_clear 32 = .ok (.aload_n 0, 1) := by decide +kernel
theorem dX8_clear_33 : decode cX8_clear 33 = .ok (.getfield 33, 3) := by decide +kernel
theorem dX8_clear_36 : decode cX8_clear 36 = .ok (.invokevirtual 47, 3) := by decide +kernel
theorem dX8_clear_39 : decode cX8_clear 39 = .ok (.aload_n 0, 1) := by decide +kernel
theorem dX8_clear_40 : decode cX8_clear 40 = .ok (.iconst 0, 1) := by decide +kernel
theorem dX8_clear_41 : decode cX8_clear 41 = .ok (.putfield 50, 3) := by decide +kernel
theorem dX8_clear_44 : decode cX8_clear 44 = .ok (.return_, 1) := by decide +kernel
theorem dX8_copy_0 : decode cX8_copy 0 = .ok (.aload_n 1, 1) := by decide +kernel
theorem dX8_copy_1 : decode cX8_copy 1 = .ok (.getfield 9, 3) := by decide +kernel
theorem dX8_copy_4 : decode cX8_copy 4 = .ok (.iconst 0, 1) := by decide +kernel
theorem dX8_copy_5 : decode cX8_copy 5 = .ok (.aload_n 0, 1) := by decide +kernel
theorem dX8_copy_6 : decode cX8_copy 6 = .ok (.getfield 9, 3) := by decide +kernel
theorem dX8_copy_9 : decode cX8_copy 9 = .ok (.iconst 0, 1) := by decide +kernel
theorem dX8_copy_10 : decode cX8_copy 10 = .ok (.iconst 5, 1) := by decide +kernel
theorem dX8_copy_11 : decode cX8_copy 11 = .ok (.invokestatic 53, 3) := by decide +kernel
theorem dX8_copy_14 : decode cX8_copy 14 = .ok (.aload_n 1, 1) := by decide +kernel
theorem dX8_copy_15 : decode cX8_copy 15 = .ok (.getfield 15, 3) := by decide +kernel
theorem dX8_copy_18 : decode cX8_copy 18 = .ok (.iconst 0, 1) := by decide +kernel
theorem dX8_copy_19 : decode cX8_copy 19 = .ok (.aload_n 0, 1) := by decide +kernel
theorem dX8_copy_20 : decode cX8_copy 20 = .ok (.getfield 15, 3) := by decide +kernel
theorem dX8_copy_23 : decode cX8_copy 23 = .ok (.iconst 0, 1) := by decide +kernel
theorem dX8_copy_24 : decode cX8_copy 24 = .ok (.bipush 25, 2) := by decide +kernel
theorem dX8_copy_26 : decode cX8_copy 26 = .ok (.invokestatic 53, 3) := by decide +kernel
theorem dX8_copy_29 : decode cX8_copy 29 = .ok (.aload_n 0, 1) := by decide +kernel
theorem dX8_copy_30 : decode cX8_copy 30 = .ok (.getfield 23, 3) := by decide +kernel
theorem dX8_copy_33 : decode cX8_copy 33 = .ok (.aload_n 1, 1) := by decide +kernel
theorem dX8_copy_34 : decode cX8_copy 34 = .ok (.getfield 23, 3) := by decide +kernel
theorem dX8_copy_37 : decode cX8_copy 37 = .ok (.invokevirtual 59, 3) := by decide +kernel
theorem dX8_copy_40 : decode cX8_copy 40 = .ok (.aload_n 0, 1) := by decide +kernel
theorem dX8_copy_41 : decode cX8_copy 41 = .ok (.getfield 27, 3) := by decide +kernel
theorem dX8_copy_44 : decode cX8_copy 44 = .ok (.aload_n 1, 1) := by decide +kernel
theorem dX8_copy_45 : decode cX8_copy 45 = .ok (.getfield 27, 3) := by decide +kernel
theorem dX8_copy_48 : decode cX8_copy 48 = .ok (.invokevirtual 59, 3) := by decide +kernel
theorem dX8_copy_51 : decode cX8_copy 51 = .ok (.aload_n 0, 1) := by decide +kernel
theorem dX8_copy_52 : decode cX8_copy 52 = .ok (.getfield 33, 3) := by decide +kernel
theorem dX8_copy_55 : decode cX8_copy 55 = .ok (.aload_n 1, 1) := by decide +kernel
theorem dX8_copy_56 : decode cX8_copy 56 = .ok (.getfield 33, 3) := by decide +kernel
theorem dX8_copy_59 : decode cX8_copy 59 = .ok (.invokevirtual 63, 3) := by decide +kernel
theorem dX8_copy_62 : decode cX8_copy 62 = .ok (.aload_n 0, 1) := by decide +kernel
theorem dX8_copy_63 : decode cX8_copy 63 = .ok (.aload_n 1, 1) := by decide +kernel
theorem dX8_copy_64 : decode cX8_copy 64 = .ok (.getfield 50, 3) := by decide +kernel
theorem dX8_copy_67 : decode cX8_copy 67 = .ok (.putfield 50, 3) := by decide +kernel
theorem dX8_copy_70 : decode cX8_copy 70 = .ok (.return_, 1) := by decide +kernel
theorem dX8_hasDone_0 : decode cX8_hasDone 0 = .ok (.iload_n 1, 1) := by decide +kernel
theorem dX8_hasDone_1 : decode cX8_hasDone 1 = .ok (.ifCond .eq 23, 3) := by decide +kernel
theorem dX8_hasDone_4 : decode cX8_hasDone 4 = .ok (.iload_n 1, 1) := by decide +kernel
theorem dX8_hasDone_5 : decode cX8_hasDone 5 = .ok (.invokestatic 66, 3) := by decide +kernel
theorem dX8_hasDone_8 : decode cX8_hasDone 8 = .ok (.aload_n 0, 1) := by decide +kernel
theorem dX8_hasDone_9 : decode cX8_hasDone 9 = .ok (.getfield 9, 3) := by decide +kernel
theorem dX8_hasDone_12 : decode cX8_hasDone 12 = .ok (.iload_n 1, 1) := by decide +kernel
theorem dX8_hasDone_13 : decode cX8_hasDone 13 = .ok (.invokestatic 70, 3) := by decide +kernel
theorem dX8_hasDone_16 : decode cX8_hasDone 16 = .ok (.iaload, 1) := by decide +kernel
theorem dX8_hasDone_17 : decode cX8_hasDone 17 = .ok (.if_icmp .gt 7, 3) := by decide +kernel
theorem dX8_hasDone_20 : decode cX8_hasDone 20 = .ok (.iconst 1, 1) := by decide +kernel
theorem dX8_hasDone_21 : decode cX8_hasDone 21 = .ok (.goto 4, 3) := by decide +kernel
theorem dX8_hasDone_24 : decode cX8_hasDone 24 = .ok (.iconst 0, 1) := by decide +kernel
theorem dX8_hasDone_25 : decode cX8_hasDone 25 = .ok (.ireturn, 1) := by decide +kernel
theorem dX8_learn_0 : decode cX8_learn 0 = .ok (.aload_n 2, 1) := by decide +kernel
theorem dX8_learn_1 : decode cX8_learn 1 = .ok (.iconst 0, 1) := by decide +kernel
theorem dX8_learn_2 : decode cX8_learn 2 = .ok (.aload_n 0, 1) := by decide +kernel
theorem dX8_learn_3 : decode cX8_learn 3 = .ok (.getfield 15, 3) := by decide +kernel
theorem dX8_learn_6 : decode cX8_learn 6 = .ok (.iload_n 1, 1) := by decide +kernel
theorem dX8_learn_7 : decode cX8_learn 7 = .ok (.iconst 5, 1) := by decide +kernel
theorem dX8_learn_8 : decode cX8_learn 8 = .ok (.imul, 1) := by decide +kernel
theorem dX8_learn_9 : decode cX8_learn 9 = .ok (.iconst 5, 1) := by decide +kernel
theorem dX8_learn_10 : decode cX8_learn 10 = .ok (.invokestatic 53, 3) := by decide +kernel
theorem dX8_learn_13 : decode cX8_learn 13 = .ok (.return_, 1) := by decide +kernel
theorem dX8_perform_0 : decode cX8_perform 0 = .ok (.aload_n 0, 1) := by decide +kernel
theorem dX8_perform_1 : decode cX8_perform 1 = .ok (.getfield 9, 3) := by decide +kernel
theorem dX8_perform_4 : decode cX8_perform 4 = .ok (.iload_n 2, 1) := by decide +kernel
theorem dX8_perform_5 : decode cX8_perform 5 = .ok (.invokestatic 70, 3) := by decide +kernel
theorem dX8_perform_8 : decode cX8_perform 8 = .ok (.dup2, 1) := by decide +kernel
theorem dX8_perform_9 : decode cX8_perform 9 = .ok (.iaload, 1) := by decide +kernel
theorem dX8_perform_10 : decode cX8_perform 10 = .ok (.iconst 1, 1) := by decide +kernel
theorem dX8_perform_11 : decode cX8_perform 11 = .ok (.iadd, 1) := by decide +kernel
theorem dX8_perform_12 : decode cX8_perform 12 = .ok (.iastore, 1) := by decide +kernel
theorem dX8_perform_13 : decode cX8_perform 13 = .ok (.aload_n 0, 1) := by decide +kernel
theorem dX8_perform_14 : decode cX8_perform 14 = .ok (.aload_n 0, 1) := by decide +kernel
theorem dX8_perform_15 : decode cX8_perform 15 = .ok (.getfield 50, 3) := by decide +kernel
theorem dX8_perform_18 : decode cX8_perform 18 = .ok (.aload_n 1, 1) := by decide +kernel
theorem dX8_perform_19 : decode cX8_perform 19 = .ok (.iload_n 2, 1) := by decide +kernel
theorem dX8_perform_20 : decode cX8_perform 20 = .ok (.invokevirtual 73, 3) := by decide +kernel
theorem dX8_perform_23 : decode cX8_perform 23 = .ok (.invokestatic 78, 3) := by decide +kernel
theorem dX8_perform_26 : decode cX8_perform 26 = .ok (.putfield 50, 3) := by decide +kernel
theorem dX8_perform_29 : decode cX8_perform 29 = .ok (.aload_n 0, 1) := by decide +kernel
theorem dX8_perform_30 : decode cX8_perform 30 = .ok (.getfield 33, 3) := by decide +kernel
theorem dX8_perform_33 : decode cX8_perform 33 = .ok (.aload_n 1, 1) := by decide +kernel
theorem dX8_perform_34 : decode cX8_perform 34 = .ok (.iload_n 2, 1) := by decide +kernel
theorem dX8_perform_35 : decode cX8_perform 35 = .ok (.invokevirtual 84, 3) := by decide +kernel
theorem dX8_perform_38 : decode cX8_perform 38 = .ok (.return_, 1) := by decide +kernel
theorem dX8_isReady_0 : decode cX8_isReady 0 = .ok (.iconst 0, 1) := by decide +kernel
theorem dX8_isReady_1 : decode cX8_isReady 1 = .ok (.istore_n 3, 1) := by decide +kernel
theorem dX8_isReady_2 : decode cX8_isReady 2 = .ok (.iload_n 3, 1) := by decide +kernel
theorem dX8_isReady_3 : decode cX8_isReady 3 = .ok (.iconst 5, 1) := by decide +kernel
theorem dX8_isReady_4 : decode cX8_isReady 4 = .ok (.if_icmp .ge 30, 3) := by decide +kernel
theorem dX8_isReady_7 : decode cX8_isReady 7 = .ok (.aload_n 0, 1) := by decide +kernel
theorem dX8_isReady_8 : decode cX8_isReady 8 = .ok (.getfield 9, 3) := by decide +kernel
theorem dX8_isReady_11 : decode cX8_isReady 11 = .ok (.iload_n 3, 1) := by decide +kernel
theorem dX8_isReady_12 : decode cX8_isReady 12 = .ok (.iaload, 1) := by decide +kernel
theorem dX8_isReady_13 : decode cX8_isReady 13 = .ok (.aload_n 1, 1) := by decide +kernel
theorem dX8_isReady_14 : decode cX8_isReady 14 = .ok (.getfield 88, 3) := by decide +kernel
theorem dX8_isReady_17 : decode cX8_isReady 17 = .ok (.iload_n 2, 1) := by decide +kernel
theorem dX8_isReady_18 : decode cX8_isReady 18 = .ok (.iconst 5, 1) := by decide +kernel
theorem dX8_isReady_19 : decode cX8_isReady 19 = .ok (.imul, 1) := by decide +kernel
theorem dX8_isReady_20 : decode cX8_isReady 20 = .ok (.iload_n 3, 1) := by decide +kernel
theorem dX8_isReady_21 : decode cX8_isReady 21 = .ok (.iadd, 1) := by decide +kernel
theorem dX8_isReady_22 : decode cX8_isReady 22 = .ok (.iaload, 1) := by decide +kernel
theorem dX8_isReady_23 : decode cX8_isReady 23 = .ok (.if_icmp .ge 5, 3) := by decide +kernel
theorem dX8_isReady_26 : decode cX8_isReady 26 = .ok (.iconst 0, 1) := by decide +kernel
theorem dX8_isReady_27 : decode cX8_isReady 27 = .ok (.ireturn, 1) := by decide +kernel
theorem dX8_isReady_28 : decode cX8_isReady 28 = .ok (.iinc 3 1, 3) := by decide +kernel
theorem dX8_isReady_31 : decode cX8_isReady 31 = .ok (.goto (-29), 3) := by decide +kernel
theorem dX8_isReady_34 : decode cX8_isReady 34 = .ok (.iconst 1, 1) := by decide +kernel
theorem dX8_isReady_35 : decode cX8_isReady 35 = .ok (.ireturn, 1) := by decide +kernel
theorem dX8_receive_0 : decode cX8_receive 0 = .ok (.aload_n 0, 1) := by decide +kernel
theorem dX8_receive_1 : decode cX8_receive 1 = .ok (.iload_n 2, 1) := by decide +kernel
theorem dX8_receive_2 : decode cX8_receive 2 = .ok (.invokevirtual 91, 3) := by decide +kernel
theorem dX8_receive_5 : decode cX8_receive 5 = .ok (.ifCond .ne 25, 3) := by decide +kernel
theorem dX8_receive_8 : decode cX8_receive 8 = .ok (.iload_n 2, 1) := by decide +kernel
theorem dX8_receive_9 : decode cX8_receive 9 = .ok (.aload_n 0, 1) := by decide +kernel
theorem dX8_receive_10 : decode cX8_receive 10 = .ok (.getfield 27, 3) := by decide +kernel
theorem dX8_receive_13 : decode cX8_receive 13 = .ok (.getfield 95, 3) := by decide +kernel
theorem dX8_receive_16 : decode cX8_receive 16 = .ok (.aload_n 0, 1) := by decide +kernel
theorem dX8_receive_17 : decode cX8_receive 17 = .ok (.getfield 27, 3) := by decide +kernel
theorem dX8_receive_20 : decode cX8_receive 20 = .ok (.getfield 43, 3) := by decide +kernel
theorem dX8_receive_23 : decode cX8_receive 23 = .ok (.invokestatic 98, 3) := by decide +kernel
theorem dX8_receive_26 : decode cX8_receive 26 = .ok (.iconst (-1), 1) := by decide +kernel
theorem dX8_receive_27 : decode cX8_receive 27 = .ok (.if_icmp .eq 5, 3) := by decide +kernel
theorem dX8_receive_30 : decode cX8_receive 30 = .ok (.iconst 0, 1) := by decide +kernel
theorem dX8_receive_31 : decode cX8_receive 31 = .ok (.ireturn, 1) := by decide +kernel
theorem dX8_receive_32 : decode cX8_receive 32 = .ok (.aload_n 0, 1) := by decide +kernel
theorem dX8_receive_33 : decode cX8_receive 33 = .ok (.aload_n 1, 1) := by decide +kernel
theorem dX8_receive_34 : decode cX8_receive 34 = .ok (.iload_n 2, 1) := by decide +kernel
theorem dX8_receive_35 : decode cX8_receive 35 = .ok (.invokevirtual 102, 3) := by decide +kernel
theorem dX8_receive_38 : decode cX8_receive 38 = .ok (.ifCond .ne 14, 3) := by decide +kernel
theorem dX8_receive_41 : decode cX8_receive 41 = .ok (.aload_n 0, 1) := by decide +kernel
theorem dX8_receive_42 : decode cX8_receive 42 = .ok (.getfield 27, 3) := by decide +kernel
theorem dX8_receive_45 : decode cX8_receive 45 = .ok (.iload_n 2, 1) := by decide +kernel
theorem dX8_receive_46 : decode cX8_receive 46 = .ok (.invokevirtual 106, 3) := by decide +kernel
theorem dX8_receive_49 : decode cX8_receive 49 = .ok (.pop, 1) := by decide +kernel
theorem dX8_receive_50 : decode cX8_receive 50 = .ok (.iconst 0, 1) := by decide +kernel
theorem dX8_receive_51 : decode cX8_receive 51 = .ok (.ireturn, 1) := by decide +kernel
theorem dX8_receive_52 : decode cX8_receive 52 = .ok (.aload_n 0, 1) := by decide +kernel
theorem dX8_receive_53 : decode cX8_receive 53 = .ok (.aload_n 1, 1) := by decide +kernel
theorem dX8_receive_54 : decode cX8_receive 54 = .ok (.iload_n 2, 1) := by decide +kernel
theorem dX8_receive_55 : decode cX8_receive 55 = .ok (.invokevirtual 109, 3) := by decide +kernel
theorem dX8_receive_58 : decode cX8_receive 58 = .ok (.iconst 1, 1) := by decide +kernel
theorem dX8_receive_59 : decode cX8_receive 59 = .ok (.aload_n 0, 1) := by decide +kernel
theorem dX8_receive_60 : decode cX8_receive 60 = .ok (.aload_n 1, 1) := by decide +kernel
theorem dX8_receive_61 : decode cX8_receive 61 = .ok (.invokevirtual 112, 3) := by decide +kernel
theorem dX8_receive_64 : decode cX8_receive 64 = .ok (.iadd, 1) := by decide +kernel
theorem dX8_receive_65 : decode cX8_receive 65 = .ok (.ireturn, 1) := by decide +kernel
theorem dX8_catchUp_0 : decode cX8_catchUp 0 = .ok (.iconst 0, 1) := by decide +kernel
theorem dX8_catchUp_1 : decode cX8_catchUp 1 = .ok (.istore_n 3, 1) := by decide +kernel
theorem dX8_catchUp_2 : decode cX8_catchUp 2 = .ok (.iconst 0, 1) := by decide +kernel
theorem dX8_catchUp_3 : decode cX8_catchUp 3 = .ok (.istore 4, 2) := by decide +kernel
theorem dX8_catchUp_5 : decode cX8_catchUp 5 = .ok (.iload 4, 2) := by decide +kernel
theorem dX8_catchUp_7 : decode cX8_catchUp 7 = .ok (.aload_n 1, 1) := by decide +kernel
theorem dX8_catchUp_8 : decode cX8_catchUp 8 = .ok (.getfield 116, 3) := by decide +kernel
theorem dX8_catchUp_11 : decode cX8_catchUp 11 = .ok (.if_icmp .ge 72, 3) := by decide +kernel
theorem dX8_catchUp_14 : decode cX8_catchUp 14 = .ok (.aload_n 1, 1) := by decide +kernel
theorem dX8_catchUp_15 : decode cX8_catchUp 15 = .ok (.getfield 119, 3) := by decide +kernel
theorem dX8_catchUp_18 : decode cX8_catchUp 18 = .ok (.iload 4, 2) := by decide +kernel
theorem dX8_catchUp_20 : decode cX8_catchUp 20 = .ok (.iaload, 1) := by decide +kernel
theorem dX8_catchUp_21 : decode cX8_catchUp 21 = .ok (.istore 5, 2) := by decide +kernel
theorem dX8_catchUp_23 : decode cX8_catchUp 23 = .ok (.aload_n 2, 1) := by decide +kernel
theorem dX8_catchUp_24 : decode cX8_catchUp 24 = .ok (.iload 5, 2) := by decide +kernel
theorem dX8_catchUp_26 : decode cX8_catchUp 26 = .ok (.invokevirtual 91, 3) := by decide +kernel
theorem dX8_catchUp_29 : decode cX8_catchUp 29 = .ok (.ifCond .eq 48, 3) := by decide +kernel
theorem dX8_catchUp_32 : decode cX8_catchUp 32 = .ok (.aload_n 0, 1) := by decide +kernel
theorem dX8_catchUp_33 : decode cX8_catchUp 33 = .ok (.iload 5, 2) := by decide +kernel
theorem dX8_catchUp_35 : decode cX8_catchUp 35 = .ok (.invokevirtual 91, 3) := by decide +kernel
theorem dX8_catchUp_38 : decode cX8_catchUp 38 = .ok (.ifCond .ne 39, 3) := by decide +kernel
theorem dX8_catchUp_41 : decode cX8_catchUp 41 = .ok (.aload_n 0, 1) := by decide +kernel
theorem dX8_catchUp_42 : decode cX8_catchUp 42 = .ok (.getfield 27, 3) := by decide +kernel
theorem dX8_catchUp_45 : decode cX8_catchUp 45 = .ok (.iload 5, 2) := by decide +kernel
theorem dX8_catchUp_47 : decode cX8_catchUp 47 = .ok (.aload_n 0, 1) := by decide +kernel
theorem dX8_catchUp_48 : decode cX8_catchUp 48 = .ok (.getfield 27, 3) := by decide +kernel
theorem dX8_catchUp_51 : decode cX8_catchUp 51 = .ok (.getfield 95, 3) := by decide +kernel
theorem dX8_catchUp_54 : decode cX8_catchUp 54 = .ok (.aload_n 0, 1) := by decide +kernel
theorem dX8_catchUp_55 : decode cX8_catchUp 55 = .ok (.getfield 27, 3) := by decide +kernel
theorem dX8_catchUp_58 : decode cX8_catchUp 58 = .ok (.getfield 43, 3) := by decide +kernel
theorem dX8_catchUp_61 : decode cX8_catchUp 61 = .ok (.invokestatic 98, 3) := by decide +kernel
theorem dX8_catchUp_64 : decode cX8_catchUp 64 = .ok (.invokevirtual 122, 3) := by decide +kernel
theorem dX8_catchUp_67 : decode cX8_catchUp 67 = .ok (.aload_n 0, 1) := by decide +kernel
theorem dX8_catchUp_68 : decode cX8_catchUp 68 = .ok (.aload_n 1, 1) := by decide +kernel
theorem dX8_catchUp_69 : decode cX8_catchUp 69 = .ok (.iload 5, 2) := by decide +kernel
theorem dX8_catchUp_71 : decode cX8_catchUp 71 = .ok (.invokevirtual 109, 3) := by decide +kernel
theorem dX8_catchUp_74 : decode cX8_catchUp 74 = .ok (.iinc 3 1, 3) := by decide +kernel
theorem dX8_catchUp_77 : decode cX8_catchUp 77 = .ok (.iinc 4 1, 3) := by decide +kernel
theorem dX8_catchUp_80 : decode cX8_catchUp 80 = .ok (.goto (-75), 3) := by decide +kernel
theorem dX8_catchUp_83 : decode cX8_catchUp 83 = .ok (.iload_n 3, 1) := by decide +kernel
theorem dX8_catchUp_84 : decode cX8_catchUp 84 = .ok (.aload_n 0, 1) := by decide +kernel
theorem dX8_catchUp_85 : decode cX8_catchUp 85 = .ok (.aload_n 1, 1) := by decide +kernel
theorem dX8_catchUp_86 : decode cX8_catchUp 86 = .ok (.invokevirtual 112, 3) := by decide +kernel
theorem dX8_catchUp_89 : decode cX8_catchUp 89 = .ok (.iadd, 1) := by decide +kernel
theorem dX8_catchUp_90 : decode cX8_catchUp 90 = .ok (.ireturn, 1) := by decide +kernel
