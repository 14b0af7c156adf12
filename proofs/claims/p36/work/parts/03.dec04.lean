theorem dX9_countElements_0 : decode cX9_countElements 0 = .ok (.aload_n 0, 1) := by decide +kernel
theorem dX9_countElements_1 : decode cX9_countElements 1 = .ok (.aload_n 1, 1) := by decide +kernel
theorem dX9_countElements_2 : decode cX9_countElements 2 = .ok (.invokevirtual 366, 3) := by decide +kernel
theorem dX9_countElements_5 : decode cX9_countElements 5 = .ok (.iconst 0, 1) := by decide +kernel
theorem dX9_countElements_6 : decode cX9_countElements 6 = .ok (.istore_n 3, 1) := by decide +kernel
theorem dX9_countElements_7 : decode cX9_countElements 7 = .ok (.iconst 1, 1) := by decide +kernel
theorem dX9_countElements_8 : decode cX9_countElements 8 = .ok (.istore 4, 2) := by decide +kernel
theorem dX9_countElements_10 : decode cX9_countElements 10 = .ok (.iload 4, 2) := by decide +kernel
theorem dX9_countElements_12 : decode cX9_countElements 12 = .ok (.sipush 201, 3) := by decide +kernel
theorem dX9_countElements_15 : decode cX9_countElements 15 = .ok (.if_icmp .ge 41, 3) := by decide +kernel
theorem dX9_countElements_18 : decode cX9_countElements 18 = .ok (.aload_n 0, 1) := by decide +kernel
theorem dX9_countElements_19 : decode cX9_countElements 19 = .ok (.getfield 56, 3) := by decide +kernel
theorem dX9_countElements_22 : decode cX9_countElements 22 = .ok (.iload 4, 2) := by decide +kernel
theorem dX9_countElements_24 : decode cX9_countElements 24 = .ok (.iaload, 1) := by decide +kernel
theorem dX9_countElements_25 : decode cX9_countElements 25 = .ok (.iconst 1, 1) := by decide +kernel
theorem dX9_countElements_26 : decode cX9_countElements 26 = .ok (.if_icmp .ne 24, 3) := by decide +kernel
theorem dX9_countElements_29 : decode cX9_countElements 29 = .ok (.iload_n 2, 1) := by decide +kernel
theorem dX9_countElements_30 : decode cX9_countElements 30 = .ok (.ifCond .eq 17, 3) := by decide +kernel
theorem dX9_countElements_33 : decode cX9_countElements 33 = .ok (.aload_n 1, 1) := by decide +kernel
theorem dX9_countElements_34 : decode cX9_countElements 34 = .ok (.getfield 105, 3) := by decide +kernel
theorem dX9_countElements_37 : decode cX9_countElements 37 = .ok (.getfield 370, 3) := by decide +kernel
theorem dX9_countElements_40 : decode cX9_countElements 40 = .ok (.iload 4, 2) := by decide +kernel
theorem dX9_countElements_42 : decode cX9_countElements 42 = .ok (.iaload, 1) := by decide +kernel
theorem dX9_countElements_43 : decode cX9_countElements 43 = .ok (.iconst 1, 1) := by decide +kernel
theorem dX9_countElements_44 : decode cX9_countElements 44 = .ok (.if_icmp .ne 6, 3) := by decide +kernel
theorem dX9_countElements_47 : decode cX9_countElements 47 = .ok (.iinc 3 1, 3) := by decide +kernel
theorem dX9_countElements_50 : decode cX9_countElements 50 = .ok (.iinc 4 1, 3) := by decide +kernel
theorem dX9_countElements_53 : decode cX9_countElements 53 = .ok (.goto (-43), 3) := by decide +kernel
theorem dX9_countElements_56 : decode cX9_countElements 56 = .ok (.iload_n 3, 1) := by decide +kernel
theorem dX9_countElements_57 : decode cX9_countElements 57 = .ok (.ireturn, 1) := by decide +kernel
theorem dX9_countPastMoves_0 : decode cX9_countPastMoves 0 = .ok (.aload_n 0, 1) := by decide +kernel
theorem dX9_countPastMoves_1 : decode cX9_countPastMoves 1 = .ok (.getfield 12, 3) := by decide +kernel
theorem dX9_countPastMoves_4 : decode cX9_countPastMoves 4 = .ok (.getfield 85, 3) := by decide +kernel
theorem dX9_countPastMoves_7 : decode cX9_countPastMoves 7 = .ok (.astore_n 2, 1) := by decide +kernel
theorem dX9_countPastMoves_8 : decode cX9_countPastMoves 8 = .ok (.aload_n 0, 1) := by decide +kernel
theorem dX9_countPastMoves_9 : decode cX9_countPastMoves 9 = .ok (.aload_n 1, 1) := by decide +kernel
theorem dX9_countPastMoves_10 : decode cX9_countPastMoves 10 = .ok (.invokevirtual 366, 3) := by decide +kernel
theorem dX9_countPastMoves_13 : decode cX9_countPastMoves 13 = .ok (.iconst 0, 1) := by decide +kernel
theorem dX9_countPastMoves_14 : decode cX9_countPastMoves 14 = .ok (.istore_n 3, 1) := by decide +kernel
theorem dX9_countPastMoves_15 : decode cX9_countPastMoves 15 = .ok (.iconst 0, 1) := by decide +kernel
theorem dX9_countPastMoves_16 : decode cX9_countPastMoves 16 = .ok (.istore 4, 2) := by decide +kernel
theorem dX9_countPastMoves_18 : decode cX9_countPastMoves 18 = .ok (.iload 4, 2) := by decide +kernel
theorem dX9_countPastMoves_20 : decode cX9_countPastMoves 20 = .ok (.aload_n 2, 1) := by decide +kernel
theorem dX9_countPastMoves_21 : decode cX9_countPastMoves 21 = .ok (.getfield 283, 3) := by decide +kernel
theorem dX9_countPastMoves_24 : decode cX9_countPastMoves 24 = .ok (.if_icmp .ge 76, 3) := by decide +kernel
theorem dX9_countPastMoves_27 : decode cX9_countPastMoves 27 = .ok (.aload_n 2, 1) := by decide +kernel
theorem dX9_countPastMoves_28 : decode cX9_countPastMoves 28 = .ok (.getfield 360, 3) := by decide +kernel
theorem dX9_countPastMoves_31 : decode cX9_countPastMoves 31 = .ok (.iload 4, 2) := by decide +kernel
theorem dX9_countPastMoves_33 : decode cX9_countPastMoves 33 = .ok (.iaload, 1) := by decide +kernel
theorem dX9_countPastMoves_34 : decode cX9_countPastMoves 34 = .ok (.istore 5, 2) := by decide +kernel
theorem dX9_countPastMoves_36 : decode cX9_countPastMoves 36 = .ok (.aload_n 2, 1) := by decide +kernel
theorem dX9_countPastMoves_37 : decode cX9_countPastMoves 37 = .ok (.getfield 98, 3) := by decide +kernel
theorem dX9_countPastMoves_40 : decode cX9_countPastMoves 40 = .ok (.iload 5, 2) := by decide +kernel
theorem dX9_countPastMoves_42 : decode cX9_countPastMoves 42 = .ok (.iaload, 1) := by decide +kernel
theorem dX9_countPastMoves_43 : decode cX9_countPastMoves 43 = .ok (.istore 6, 2) := by decide +kernel
theorem dX9_countPastMoves_45 : decode cX9_countPastMoves 45 = .ok (.aload_n 2, 1) := by decide +kernel
theorem dX9_countPastMoves_46 : decode cX9_countPastMoves 46 = .ok (.getfield 95, 3) := by decide +kernel
theorem dX9_countPastMoves_49 : decode cX9_countPastMoves 49 = .ok (.iload 5, 2) := by decide +kernel
theorem dX9_countPastMoves_51 : decode cX9_countPastMoves 51 = .ok (.iaload, 1) := by decide +kernel
theorem dX9_countPastMoves_52 : decode cX9_countPastMoves 52 = .ok (.iconst 1, 1) := by decide +kernel
theorem dX9_countPastMoves_53 : decode cX9_countPastMoves 53 = .ok (.if_icmp .ne 41, 3) := by decide +kernel
theorem dX9_countPastMoves_56 : decode cX9_countPastMoves 56 = .ok (.aload_n 1, 1) := by decide +kernel
theorem dX9_countPastMoves_57 : decode cX9_countPastMoves 57 = .ok (.iload 5, 2) := by decide +kernel
theorem dX9_countPastMoves_59 : decode cX9_countPastMoves 59 = .ok (.invokevirtual 244, 3) := by decide +kernel
theorem dX9_countPastMoves_62 : decode cX9_countPastMoves 62 = .ok (.ifCond .eq 32, 3) := by decide +kernel
theorem dX9_countPastMoves_65 : decode cX9_countPastMoves 65 = .ok (.aload_n 0, 1) := by decide +kernel
theorem dX9_countPastMoves_66 : decode cX9_countPastMoves 66 = .ok (.getfield 56, 3) := by decide +kernel
theorem dX9_countPastMoves_69 : decode cX9_countPastMoves 69 = .ok (.iload 6, 2) := by decide +kernel
theorem dX9_countPastMoves_71 : decode cX9_countPastMoves 71 = .ok (.iaload, 1) := by decide +kernel
theorem dX9_countPastMoves_72 : decode cX9_countPastMoves 72 = .ok (.iconst 1, 1) := by decide +kernel
theorem dX9_countPastMoves_73 : decode cX9_countPastMoves 73 = .ok (.if_icmp .ne 21, 3) := by decide +kernel
theorem dX9_countPastMoves_76 : decode cX9_countPastMoves 76 = .ok (.aload_n 1, 1) := by decide +kernel
theorem dX9_countPastMoves_77 : decode cX9_countPastMoves 77 = .ok (.getfield 105, 3) := by decide +kernel
theorem dX9_countPastMoves_80 : decode cX9_countPastMoves 80 = .ok (.getfield 187, 3) := by decide +kernel
theorem dX9_countPastMoves_83 : decode cX9_countPastMoves 83 = .ok (.iload 6, 2) := by decide +kernel
theorem dX9_countPastMoves_85 : decode cX9_countPastMoves 85 = .ok (.iaload, 1) := by decide +kernel
theorem dX9_countPastMoves_86 : decode cX9_countPastMoves 86 = .ok (.iload 5, 2) := by decide +kernel
theorem dX9_countPastMoves_88 : decode cX9_countPastMoves 88 = .ok (.if_icmp .eq 6, 3) := by decide +kernel
theorem dX9_countPastMoves_91 : decode cX9_countPastMoves 91 = .ok (.iinc 3 1, 3) := by decide +kernel
theorem dX9_countPastMoves_94 : decode cX9_countPastMoves 94 = .ok (.iinc 4 1, 3) := by decide +kernel
theorem dX9_countPastMoves_97 : decode cX9_countPastMoves 97 = .ok (.goto (-79), 3) := by decide +kernel
theorem dX9_countPastMoves_100 : decode cX9_countPastMoves 100 = .ok (.iload_n 3, 1) := by decide +kernel
theorem dX9_countPastMoves_101 : decode cX9_countPastMoves 101 = .ok (.ireturn, 1) := by decide +kernel
theorem dX9_deepest_0 : decode cX9_deepest 0 = .ok (.aload_n 0, 1) := by decide +kernel
theorem dX9_deepest_1 : decode cX9_deepest 1 = .ok (.getfield 12, 3) := by decide +kernel
theorem dX9_deepest_4 : decode cX9_deepest 4 = .ok (.getfield 85, 3) := by decide +kernel
theorem dX9_deepest_7 : decode cX9_deepest 7 = .ok (.astore_n 2, 1) := by decide +kernel
theorem dX9_deepest_8 : decode cX9_deepest 8 = .ok (.aload_n 0, 1) := by decide +kernel
theorem dX9_deepest_9 : decode cX9_deepest 9 = .ok (.getfield 56, 3) := by decide +kernel
theorem dX9_deepest_12 : decode cX9_deepest 12 = .ok (.iconst 0, 1) := by decide +kernel
theorem dX9_deepest_13 : decode cX9_deepest 13 = .ok (.invokestatic 354, 3) := by decide +kernel
theorem dX9_deepest_16 : decode cX9_deepest 16 = .ok (.iconst 0, 1) := by decide +kernel
theorem dX9_deepest_17 : decode cX9_deepest 17 = .ok (.istore_n 3, 1) := by decide +kernel
theorem dX9_deepest_18 : decode cX9_deepest 18 = .ok (.iconst 0, 1) := by decide +kernel
theorem dX9_deepest_19 : decode cX9_deepest 19 = .ok (.istore 4, 2) := by decide +kernel
theorem dX9_deepest_21 : decode cX9_deepest 21 = .ok (.iload 4, 2) := by decide +kernel
theorem dX9_deepest_23 : decode cX9_deepest 23 = .ok (.aload_n 2, 1) := by decide +kernel
theorem dX9_deepest_24 : decode cX9_deepest 24 = .ok (.getfield 283, 3) := by decide +kernel
theorem dX9_deepest_27 : decode cX9_deepest 27 = .ok (.if_icmp .ge 60, 3) := by decide +kernel
theorem dX9_deepest_30 : decode cX9_deepest 30 = .ok (.aload_n 2, 1) := by decide +kernel
theorem dX9_deepest_31 : decode cX9_deepest 31 = .ok (.getfield 360, 3) := by decide +kernel
theorem dX9_deepest_34 : decode cX9_deepest 34 = .ok (.iload 4, 2) := by decide +kernel
theorem dX9_deepest_36 : decode cX9_deepest 36 = .ok (.iaload, 1) := by decide +kernel
theorem dX9_deepest_37 : decode cX9_deepest 37 = .ok (.istore 5, 2) := by decide +kernel
theorem dX9_deepest_39 : decode cX9_deepest 39 = .ok (.aload_n 1, 1) := by decide +kernel
theorem dX9_deepest_40 : decode cX9_deepest 40 = .ok (.iload 5, 2) := by decide +kernel
theorem dX9_deepest_42 : decode cX9_deepest 42 = .ok (.invokevirtual 363, 3) := by decide +kernel
theorem dX9_deepest_45 : decode cX9_deepest 45 = .ok (.ifCond .eq 36, 3) := by decide +kernel
theorem dX9_deepest_48 : decode cX9_deepest 48 = .ok (.aload_n 0, 1) := by decide +kernel
theorem dX9_deepest_49 : decode cX9_deepest 49 = .ok (.getfield 56, 3) := by decide +kernel
theorem dX9_deepest_52 : decode cX9_deepest 52 = .ok (.iload 5, 2) := by decide +kernel
theorem dX9_deepest_54 : decode cX9_deepest 54 = .ok (.aload_n 0, 1) := by decide +kernel
theorem dX9_deepest_55 : decode cX9_deepest 55 = .ok (.getfield 56, 3) := by decide +kernel
theorem dX9_deepest_58 : decode cX9_deepest 58 = .ok (.aload_n 2, 1) := by decide +kernel
theorem dX9_deepest_59 : decode cX9_deepest 59 = .ok (.getfield 224, 3) := by decide +kernel
theorem dX9_deepest_62 : decode cX9_deepest 62 = .ok (.iload 5, 2) := by decide +kernel
theorem dX9_deepest_64 : decode cX9_deepest 64 = .ok (.iaload, 1) := by decide +kernel
theorem dX9_deepest_65 : decode cX9_deepest 65 = .ok (.iaload, 1) := by decide +kernel
theorem dX9_deepest_66 : decode cX9_deepest 66 = .ok (.iconst 1, 1) := by decide +kernel
theorem dX9_deepest_67 : decode cX9_deepest 67 = .ok (.iadd, 1) := by decide +kernel
theorem dX9_deepest_68 : decode cX9_deepest 68 = .ok (.iastore, 1) := by decide +kernel
theorem dX9_deepest_69 : decode cX9_deepest 69 = .ok (.iload_n 3, 1) := by decide +kernel
theorem dX9_deepest_70 : decode cX9_deepest 70 = .ok (.aload_n 0, 1) := by decide +kernel
theorem dX9_deepest_71 : decode cX9_deepest 71 = .ok (.getfield 56, 3) := by decide +kernel
theorem dX9_deepest_74 : decode cX9_deepest 74 = .ok (.iload 5, 2) := by decide +kernel
theorem dX9_deepest_76 : decode cX9_deepest 76 = .ok (.iaload, 1) := by decide +kernel
theorem dX9_deepest_77 : decode cX9_deepest 77 = .ok (.invokestatic 266, 3) := by decide +kernel
theorem dX9_deepest_80 : decode cX9_deepest 80 = .ok (.istore_n 3, 1) := by decide +kernel
theorem dX9_deepest_81 : decode cX9_deepest 81 = .ok (.iinc 4 1, 3) := by decide +kernel
theorem dX9_deepest_84 : decode cX9_deepest 84 = .ok (.goto (-63), 3) := by decide +kernel
theorem dX9_deepest_87 : decode cX9_deepest 87 = .ok (.iload_n 3, 1) := by decide +kernel
theorem dX9_deepest_88 : decode cX9_deepest 88 = .ok (.ireturn, 1) := by decide +kernel
theorem dX9_longestCommon_0 : decode cX9_longestCommon 0 = .ok (.aload_n 0, 1) := by decide +kernel
theorem dX9_longestCommon_1 : decode cX9_longestCommon 1 = .ok (.getfield 56, 3) := by decide +kernel
theorem dX9_longestCommon_4 : decode cX9_longestCommon 4 = .ok (.iconst 0, 1) := by decide +kernel
theorem dX9_longestCommon_5 : decode cX9_longestCommon 5 = .ok (.invokestatic 354, 3) := by decide +kernel
theorem dX9_longestCommon_8 : decode cX9_longestCommon 8 = .ok (.iconst 0, 1) := by decide +kernel
theorem dX9_longestCommon_9 : decode cX9_longestCommon 9 = .ok (.istore_n 3, 1) := by decide +kernel
theorem dX9_longestCommon_10 : decode cX9_longestCommon 10 = .ok (.iload_n 3, 1) := by decide +kernel
theorem dX9_longestCommon_11 : decode cX9_longestCommon 11 = .ok (.iload_n 2, 1) := by decide +kernel
theorem dX9_longestCommon_12 : decode cX9_longestCommon 12 = .ok (.if_icmp .ge 23, 3) := by decide +kernel
theorem dX9_longestCommon_15 : decode cX9_longestCommon 15 = .ok (.aload_n 0, 1) := by decide +kernel
theorem dX9_longestCommon_16 : decode cX9_longestCommon 16 = .ok (.getfield 56, 3) := by decide +kernel
theorem dX9_longestCommon_19 : decode cX9_longestCommon 19 = .ok (.aload_n 0, 1) := by decide +kernel
theorem dX9_longestCommon_20 : decode cX9_longestCommon 20 = .ok (.getfield 53, 3) := by decide +kernel
theorem dX9_longestCommon_23 : decode cX9_longestCommon 23 = .ok (.iload_n 3, 1) := by decide +kernel
theorem dX9_longestCommon_24 : decode cX9_longestCommon 24 = .ok (.iaload, 1) := by decide +kernel
theorem dX9_longestCommon_25 : decode cX9_longestCommon 25 = .ok (.iload_n 3, 1) := by decide +kernel
theorem dX9_longestCommon_26 : decode cX9_longestCommon 26 = .ok (.iconst 1, 1) := by decide +kernel
theorem dX9_longestCommon_27 : decode cX9_longestCommon 27 = .ok (.iadd, 1) := by decide +kernel
theorem dX9_longestCommon_28 : decode cX9_longestCommon 28 = .ok (.iastore, 1) := by decide +kernel
theorem dX9_longestCommon_29 : decode cX9_longestCommon 29 = .ok (.iinc 3 1, 3) := by decide +kernel
theorem dX9_longestCommon_32 : decode cX9_longestCommon 32 = .ok (.goto (-22), 3) := by decide +kernel
theorem dX9_longestCommon_35 : decode cX9_longestCommon 35 = .ok (.iconst 0, 1) := by decide +kernel
theorem dX9_longestCommon_36 : decode cX9_longestCommon 36 = .ok (.istore_n 3, 1) := by decide +kernel
theorem dX9_longestCommon_37 : decode cX9_longestCommon 37 = .ok (.iconst 0, 1) := by decide +kernel
theorem dX9_longestCommon_38 : decode cX9_longestCommon 38 = .ok (.istore 4, 2) := by decide +kernel
theorem dX9_longestCommon_40 : decode cX9_longestCommon 40 = .ok (.iload 4, 2) := by decide +kernel
theorem dX9_longestCommon_42 : decode cX9_longestCommon 42 = .ok (.iload_n 1, 1) := by decide +kernel
theorem dX9_longestCommon_43 : decode cX9_longestCommon 43 = .ok (.if_icmp .ge 73, 3) := by decide +kernel
theorem dX9_longestCommon_46 : decode cX9_longestCommon 46 = .ok (.aload_n 0, 1) := by decide +kernel
theorem dX9_longestCommon_47 : decode cX9_longestCommon 47 = .ok (.getfield 56, 3) := by decide +kernel
theorem dX9_longestCommon_50 : decode cX9_longestCommon 50 = .ok (.aload_n 0, 1) := by decide +kernel
theorem dX9_longestCommon_51 : decode cX9_longestCommon 51 = .ok (.getfield 49, 3) := by decide +kernel
theorem dX9_longestCommon_54 : decode cX9_longestCommon 54 = .ok (.iload 4, 2) := by decide +kernel
theorem dX9_longestCommon_56 : decode cX9_longestCommon 56 = .ok (.iaload, 1) := by decide +kernel
theorem dX9_longestCommon_57 : decode cX9_longestCommon 57 = .ok (.iaload, 1) := by decide +kernel
theorem dX9_longestCommon_58 : decode cX9_longestCommon 58 = .ok (.istore 5, 2) := by decide +kernel
theorem dX9_longestCommon_60 : decode cX9_longestCommon 60 = .ok (.iload 5, 2) := by decide +kernel
theorem dX9_longestCommon_62 : decode cX9_longestCommon 62 = .ok (.ifCond .le 48, 3) := by decide +kernel
theorem dX9_longestCommon_65 : decode cX9_longestCommon 65 = .ok (.iconst 0, 1) := by decide +kernel
theorem dX9_longestCommon_66 : decode cX9_longestCommon 66 = .ok (.istore 6, 2) := by decide +kernel
theorem dX9_longestCommon_68 : decode cX9_longestCommon 68 = .ok (.iload 6, 2) := by decide +kernel
theorem dX9_longestCommon_70 : decode cX9_longestCommon 70 = .ok (.iload_n 3, 1) := by decide +kernel
theorem dX9_longestCommon_71 : decode cX9_longestCommon 71 = .ok (.if_icmp .ge 21, 3) := by decide +kernel
theorem dX9_longestCommon_74 : decode cX9_longestCommon 74 = .ok (.aload_n 0, 1) := by decide +kernel
theorem dX9_longestCommon_75 : decode cX9_longestCommon 75 = .ok (.getfield 53, 3) := by decide +kernel
theorem dX9_longestCommon_78 : decode cX9_longestCommon 78 = .ok (.iload 6, 2) := by decide +kernel
theorem dX9_longestCommon_80 : decode cX9_longestCommon 80 = .ok (.iaload, 1) := by decide +kernel
theorem dX9_longestCommon_81 : decode cX9_longestCommon 81 = .ok (.iload 5, 2) := by decide +kernel
theorem dX9_longestCommon_83 : decode cX9_longestCommon 83 = .ok (.if_icmp .ge 9, 3) := by decide +kernel
theorem dX9_longestCommon_86 : decode cX9_longestCommon 86 = .ok (.iinc 6 1, 3) := by decide +kernel
theorem dX9_longestCommon_89 : decode cX9_longestCommon 89 = .ok (.goto (-21), 3) := by decide +kernel
theorem dX9_longestCommon_92 : decode cX9_longestCommon 92 = .ok (.aload_n 0, 1) := by decide +kernel
theorem dX9_longestCommon_93 : decode cX9_longestCommon 93 = .ok (.getfield 53, 3) := by decide +kernel
theorem dX9_longestCommon_96 : decode cX9_longestCommon 96 = .ok (.iload 6, 2) := by decide +kernel
theorem dX9_longestCommon_98 : decode cX9_longestCommon 98 = .ok (.iload 5, 2) := by decide +kernel
theorem dX9_longestCommon_100 : decode cX9_longestCommon 100 = .ok (.iastore, 1) := by decide +kernel
theorem dX9_longestCommon_101 : decode cX9_longestCommon 101 = .ok (.iload_n 3, 1) := by decide +kernel
theorem dX9_longestCommon_102 : decode cX9_longestCommon 102 = .ok (.iload 6, 2) := by decide +kernel
theorem dX9_longestCommon_104 : decode cX9_longestCommon 104 = .ok (.iconst 1, 1) := by decide +kernel
theorem dX9_longestCommon_105 : decode cX9_longestCommon 105 = .ok (.iadd, 1) := by decide +kernel
theorem dX9_longestCommon_106 : decode cX9_longestCommon 106 = .ok (.invokestatic 266, 3) := by decide +kernel
theorem dX9_longestCommon_109 : decode cX9_longestCommon 109 = .ok (.istore_n 3, 1) := by decide +kernel
theorem dX9_longestCommon_110 : decode cX9_longestCommon 110 = .ok (.iinc 4 1, 3) := by decide +kernel
theorem dX9_longestCommon_113 : decode cX9_longestCommon 113 = .ok (.goto (-73), 3) := by decide +kernel
theorem dX9_longestCommon_116 : decode cX9_longestCommon 116 = .ok (.iload_n 3, 1) := by decide +kernel
theorem dX9_longestCommon_117 : decode cX9_longestCommon 117 = .ok (.ireturn, 1) := by decide +kernel
theorem dX9_countWaiting_0 : decode cX9_countWaiting 0 = .ok (.iconst 0, 1) := by decide +kernel
theorem dX9_countWaiting_1 : decode cX9_countWaiting 1 = .ok (.istore_n 1, 1) := by decide +kernel
theorem dX9_countWaiting_2 : decode cX9_countWaiting 2 = .ok (.iconst 0, 1) := by decide +kernel
theorem dX9_countWaiting_3 : decode cX9_countWaiting 3 = .ok (.istore_n 2, 1) := by decide +kernel
theorem dX9_countWaiting_4 : decode cX9_countWaiting 4 = .ok (.iload_n 2, 1) := by decide +kernel
theorem dX9_countWaiting_5 : decode cX9_countWaiting 5 = .ok (.aload_n 0, 1) := by decide +kernel
theorem dX9_countWaiting_6 : decode cX9_countWaiting 6 = .ok (.getfield 12, 3) := by decide +kernel
theorem dX9_countWaiting_9 : decode cX9_countWaiting 9 = .ok (.getfield 85, 3) := by decide +kernel
theorem dX9_countWaiting_12 : decode cX9_countWaiting 12 = .ok (.getfield 281, 3) := by decide +kernel
theorem dX9_countWaiting_15 : decode cX9_countWaiting 15 = .ok (.if_icmp .ge 27, 3) := by decide +kernel
theorem dX9_countWaiting_18 : decode cX9_countWaiting 18 = .ok (.iload_n 1, 1) := by decide +kernel
theorem dX9_countWaiting_19 : decode cX9_countWaiting 19 = .ok (.aload_n 0, 1) := by decide +kernel
theorem dX9_countWaiting_20 : decode cX9_countWaiting 20 = .ok (.getfield 12, 3) := by decide +kernel
theorem dX9_countWaiting_23 : decode cX9_countWaiting 23 = .ok (.getfield 101, 3) := by decide +kernel
theorem dX9_countWaiting_26 : decode cX9_countWaiting 26 = .ok (.iload_n 2, 1) := by decide +kernel
theorem dX9_countWaiting_27 : decode cX9_countWaiting 27 = .ok (.aaload, 1) := by decide +kernel
theorem dX9_countWaiting_28 : decode cX9_countWaiting 28 = .ok (.getfield 134, 3) := by decide +kernel
theorem dX9_countWaiting_31 : decode cX9_countWaiting 31 = .ok (.getfield 214, 3) := by decide +kernel
theorem dX9_countWaiting_34 : decode cX9_countWaiting 34 = .ok (.iadd, 1) := by decide +kernel
theorem dX9_countWaiting_35 : decode cX9_countWaiting 35 = .ok (.istore_n 1, 1) := by decide +kernel
theorem dX9_countWaiting_36 : decode cX9_countWaiting 36 = .ok (.iinc 2 1, 3) := by decide +kernel
theorem dX9_countWaiting_39 : decode cX9_countWaiting 39 = .ok (.goto (-35), 3) := by decide +kernel
theorem dX9_countWaiting_42 : decode cX9_countWaiting 42 = .ok (.iload_n 1, 1) := by decide +kernel
theorem dX9_countWaiting_43 : decode cX9_countWaiting 43 = .ok (.ireturn, 1) := by decide +kernel
theorem dX9_countHeld_0 : decode cX9_countHeld 0 = .ok (.iconst 0, 1) := by decide +kernel
theorem dX9_countHeld_1 : decode cX9_countHeld 1 = .ok (.istore_n 1, 1) := by decide +kernel
theorem dX9_countHeld_2 : decode cX9_countHeld 2 = .ok (.iconst 0, 1) := by decide +kernel
theorem dX9_countHeld_3 : decode cX9_countHeld 3 = .ok (.istore_n 2, 1) := by decide +kernel
theorem dX9_countHeld_4 : decode cX9_countHeld 4 = .ok (.iload_n 2, 1) := by decide +kernel
theorem dX9_countHeld_5 : decode cX9_countHeld 5 = .ok (.aload_n 0, 1) := by decide +kernel
theorem dX9_countHeld_6 : decode cX9_countHeld 6 = .ok (.getfield 12, 3) := by decide +kernel
theorem dX9_countHeld_9 : decode cX9_countHeld 9 = .ok (.getfield 85, 3) := by decide +kernel
theorem dX9_countHeld_12 : decode cX9_countHeld 12 = .ok (.getfield 281, 3) := by decide +kernel
theorem dX9_countHeld_15 : decode cX9_countHeld 15 = .ok (.if_icmp .ge 27, 3) := by decide +kernel
theorem dX9_countHeld_18 : decode cX9_countHeld 18 = .ok (.iload_n 1, 1) := by decide +kernel
theorem dX9_countHeld_19 : decode cX9_countHeld 19 = .ok (.aload_n 0, 1) := by decide +kernel
theorem dX9_countHeld_20 : decode cX9_countHeld 20 = .ok (.getfield 12, 3) := by decide +kernel
theorem dX9_countHeld_23 : decode cX9_countHeld 23 = .ok (.getfield 101, 3) := by decide +kernel
theorem dX9_countHeld_26 : decode cX9_countHeld 26 = .ok (.iload_n 2, 1) := by decide +kernel
theorem dX9_countHeld_27 : decode cX9_countHeld 27 = .ok (.aaload, 1) := by decide +kernel
theorem dX9_countHeld_28 : decode cX9_countHeld 28 = .ok (.getfield 208, 3) := by decide +kernel
theorem dX9_countHeld_31 : decode cX9_countHeld 31 = .ok (.getfield 214, 3) := by decide +kernel
theorem dX9_countHeld_34 : decode cX9_countHeld 34 = .ok (.iadd, 1) := by decide +kernel
theorem dX9_countHeld_35 : decode cX9_countHeld 35 = .ok (.istore_n 1, 1) := by decide +kernel
theorem dX9_countHeld_36 : decode cX9_countHeld 36 = .ok (.iinc 2 1, 3) := by decide +kernel
theorem dX9_countHeld_39 : decode cX9_countHeld 39 = .ok (.goto (-35), 3) := by decide +kernel
theorem dX9_countHeld_42 : decode cX9_countHeld 42 = .ok (.iload_n 1, 1) := by decide +kernel
theorem dX9_countHeld_43 : decode cX9_countHeld 43 = .ok (.ireturn, 1) := by decide +kernel
theorem dX9_countUnfinished_0 : decode cX9_countUnfinished 0 = .ok (.iconst 0, 1) := by decide +kernel
theorem dX9_countUnfinished_1 : decode cX9_countUnfinished 1 = .ok (.istore_n 1, 1) := by decide +kernel
theorem dX9_countUnfinished_2 : decode cX9_countUnfinished 2 = .ok (.iconst 0, 1) := by decide +kernel
theorem dX9_countUnfinished_3 : decode cX9_countUnfinished 3 = .ok (.istore_n 2, 1) := by decide +kernel
theorem dX9_countUnfinished_4 : decode cX9_countUnfinished 4 = .ok (.iload_n 2, 1) := by decide +kernel
theorem dX9_countUnfinished_5 : decode cX9_countUnfinished 5 = .ok (.aload_n 0, 1) := by decide +kernel
theorem dX9_countUnfinished_6 : decode cX9_countUnfinished 6 = .ok (.getfield 12, 3) := by decide +kernel
theorem dX9_countUnfinished_9 : decode cX9_countUnfinished 9 = .ok (.getfield 85, 3) := by decide +kernel
theorem dX9_countUnfinished_12 : decode cX9_countUnfinished 12 = .ok (.getfield 281, 3) := by decide +kernel
theorem dX9_countUnfinished_15 : decode cX9_countUnfinished 15 = .ok (.if_icmp .ge 83, 3) := by decide +kernel
theorem dX9_countUnfinished_18 : decode cX9_countUnfinished 18 = .ok (.aload_n 0, 1) := by decide +kernel
theorem dX9_countUnfinished_19 : decode cX9_countUnfinished 19 = .ok (.getfield 12, 3) := by decide +kernel
theorem dX9_countUnfinished_22 : decode cX9_countUnfinished 22 = .ok (.getfield 85, 3) := by decide +kernel
theorem dX9_countUnfinished_25 : decode cX9_countUnfinished 25 = .ok (.getfield 162, 3) := by decide +kernel
theorem dX9_countUnfinished_28 : decode cX9_countUnfinished 28 = .ok (.iload_n 2, 1) := by decide +kernel
theorem dX9_countUnfinished_29 : decode cX9_countUnfinished 29 = .ok (.iaload, 1) := by decide +kernel
theorem dX9_countUnfinished_30 : decode cX9_countUnfinished 30 = .ok (.istore_n 3, 1) := by decide +kernel
theorem dX9_countUnfinished_31 : decode cX9_countUnfinished 31 = .ok (.iconst 0, 1) := by decide +kernel
theorem dX9_countUnfinished_32 : decode cX9_countUnfinished 32 = .ok (.istore 4, 2) := by decide +kernel
theorem dX9_countUnfinished_34 : decode cX9_countUnfinished 34 = .ok (.iload 4, 2) := by decide +kernel
theorem dX9_countUnfinished_36 : decode cX9_countUnfinished 36 = .ok (.aload_n 0, 1) := by decide +kernel
theorem dX9_countUnfinished_37 : decode cX9_countUnfinished 37 = .ok (.getfield 12, 3) := by decide +kernel
theorem dX9_countUnfinished_40 : decode cX9_countUnfinished 40 = .ok (.getfield 85, 3) := by decide +kernel
theorem dX9_countUnfinished_43 : decode cX9_countUnfinished 43 = .ok (.getfield 281, 3) := by decide +kernel
theorem dX9_countUnfinished_46 : decode cX9_countUnfinished 46 = .ok (.if_icmp .ge 29, 3) := by decide +kernel
theorem dX9_countUnfinished_49 : decode cX9_countUnfinished 49 = .ok (.iload_n 3, 1) := by decide +kernel
theorem dX9_countUnfinished_50 : decode cX9_countUnfinished 50 = .ok (.aload_n 0, 1) := by decide +kernel
theorem dX9_countUnfinished_51 : decode cX9_countUnfinished 51 = .ok (.getfield 12, 3) := by decide +kernel
theorem dX9_countUnfinished_54 : decode cX9_countUnfinished 54 = .ok (.getfield 101, 3) := by decide +kernel
theorem dX9_countUnfinished_57 : decode cX9_countUnfinished 57 = .ok (.iload 4, 2) := by decide +kernel
theorem dX9_countUnfinished_59 : decode cX9_countUnfinished 59 = .ok (.aaload, 1) := by decide +kernel
theorem dX9_countUnfinished_60 : decode cX9_countUnfinished 60 = .ok (.getfield 159, 3) := by decide +kernel
theorem dX9_countUnfinished_63 : decode cX9_countUnfinished 63 = .ok (.iload_n 2, 1) := by decide +kernel
theorem dX9_countUnfinished_64 : decode cX9_countUnfinished 64 = .ok (.iaload, 1) := by decide +kernel
theorem dX9_countUnfinished_65 : decode cX9_countUnfinished 65 = .ok (.invokestatic 271, 3) := by decide +kernel
theorem dX9_countUnfinished_68 : decode cX9_countUnfinished 68 = .ok (.istore_n 3, 1) := by decide +kernel
theorem dX9_countUnfinished_69 : decode cX9_countUnfinished 69 = .ok (.iinc 4 1, 3) := by decide +kernel
theorem dX9_countUnfinished_72 : decode cX9_countUnfinished 72 = .ok (.goto (-38), 3) := by decide +kernel
theorem dX9_countUnfinished_75 : decode cX9_countUnfinished 75 = .ok (.iload_n 1, 1) := by decide +kernel
theorem dX9_countUnfinished_76 : decode cX9_countUnfinished 76 = .ok (.aload_n 0, 1) := by decide +kernel
theorem dX9_countUnfinished_77 : decode cX9_countUnfinished 77 = .ok (.getfield 12, 3) := by decide +kernel
theorem dX9_countUnfinished_80 : decode cX9_countUnfinished 80 = .ok (.getfield 85, 3) := by decide +kernel
theorem dX9_countUnfinished_83 : decode cX9_countUnfinished 83 = .ok (.getfield 162, 3) := by decide +kernel
theorem dX9_countUnfinished_86 : decode cX9_countUnfinished 86 = .ok (.iload_n 2, 1) := by decide +kernel
theorem dX9_countUnfinished_87 : decode cX9_countUnfinished 87 = .ok (.iaload, 1) := by decide +kernel
theorem dX9_countUnfinished_88 : decode cX9_countUnfinished 88 = .ok (.iload_n 3, 1) := by decide +kernel
theorem dX9_countUnfinished_89 : decode cX9_countUnfinished 89 = .ok (.isub, 1) := by decide +kernel
theorem dX9_countUnfinished_90 : decode cX9_countUnfinished 90 = .ok (.iadd, 1) := by decide +kernel
theorem dX9_countUnfinished_91 : decode cX9_countUnfinished 91 = .ok (.istore_n 1, 1) := by decide +kernel
theorem dX9_countUnfinished_92 : decode cX9_countUnfinished 92 = .ok (.iinc 2 1, 3) := by decide +kernel
theorem dX9_countUnfinished_95 : decode cX9_countUnfinished 95 = .ok (.goto (-91), 3) := by decide +kernel
theorem dX9_countUnfinished_98 : decode cX9_countUnfinished 98 = .ok (.iload_n 1, 1) := by decide +kernel
theorem dX9_countUnfinished_99 : decode cX9_countUnfinished 99 = .ok (.ireturn, 1) := by decide +kernel
theorem dX9_allShowOneList_0 : decode cX9_allShowOneList 0 = .ok (.aload_n 0, 1) := by decide +kernel
theorem dX9_allShowOneList_1 : decode cX9_allShowOneList 1 = .ok (.iconst 0, 1) := by decide +kernel
theorem dX9_allShowOneList_2 : decode cX9_allShowOneList 2 = .ok (.aload_n 0, 1) := by decide +kernel
theorem dX9_allShowOneList_3 : decode cX9_allShowOneList 3 = .ok (.getfield 49, 3) := by decide +kernel
theorem dX9_allShowOneList_6 : decode cX9_allShowOneList 6 = .ok (.invokevirtual 70, 3) := by decide +kernel
theorem dX9_allShowOneList_9 : decode cX9_allShowOneList 9 = .ok (.istore_n 1, 1) := by decide +kernel
theorem dX9_allShowOneList_10 : decode cX9_allShowOneList 10 = .ok (.iconst 1, 1) := by decide +kernel
theorem dX9_allShowOneList_11 : decode cX9_allShowOneList 11 = .ok (.istore_n 2, 1) := by decide +kernel
theorem dX9_allShowOneList_12 : decode cX9_allShowOneList 12 = .ok (.iload_n 2, 1) := by decide +kernel
theorem dX9_allShowOneList_13 : decode cX9_allShowOneList 13 = .ok (.aload_n 0, 1) := by decide +kernel
theorem dX9_allShowOneList_14 : decode cX9_allShowOneList 14 = .ok (.getfield 12, 3) := by decide +kernel
theorem dX9_allShowOneList_17 : decode cX9_allShowOneList 17 = .ok (.getfield 85, 3) := by decide +kernel
theorem dX9_allShowOneList_20 : decode cX9_allShowOneList 20 = .ok (.getfield 281, 3) := by decide +kernel
theorem dX9_allShowOneList_23 : decode cX9_allShowOneList 23 = .ok (.if_icmp .ge 33, 3) := by decide +kernel
theorem dX9_allShowOneList_26 : decode cX9_allShowOneList 26 = .ok (.aload_n 0, 1) := by decide +kernel
theorem dX9_allShowOneList_27 : decode cX9_allShowOneList 27 = .ok (.iload_n 2, 1) := by decide +kernel
theorem dX9_allShowOneList_28 : decode cX9_allShowOneList 28 = .ok (.aload_n 0, 1) := by decide +kernel
theorem dX9_allShowOneList_29 : decode cX9_allShowOneList 29 = .ok (.getfield 53, 3) := by decide +kernel
theorem dX9_allShowOneList_32 : decode cX9_allShowOneList 32 = .ok (.invokevirtual 70, 3) := by decide +kernel
theorem dX9_allShowOneList_35 : decode cX9_allShowOneList 35 = .ok (.iload_n 1, 1) := by decide +kernel
theorem dX9_allShowOneList_36 : decode cX9_allShowOneList 36 = .ok (.if_icmp .ne 12, 3) := by decide +kernel
theorem dX9_allShowOneList_39 : decode cX9_allShowOneList 39 = .ok (.aload_n 0, 1) := by decide +kernel
theorem dX9_allShowOneList_40 : decode cX9_allShowOneList 40 = .ok (.iload_n 2, 1) := by decide +kernel
theorem dX9_allShowOneList_41 : decode cX9_allShowOneList 41 = .ok (.iload_n 1, 1) := by decide +kernel
theorem dX9_allShowOneList_42 : decode cX9_allShowOneList 42 = .ok (.invokevirtual 373, 3) := by decide +kernel
theorem dX9_allShowOneList_45 : decode cX9_allShowOneList 45 = .ok (.ifCond .ne 5, 3) := by decide +kernel
theorem dX9_allShowOneList_48 : decode cX9_allShowOneList 48 = .ok (.iconst 0, 1) := by decide +kernel
theorem dX9_allShowOneList_49 : decode cX9_allShowOneList 49 = .ok (.ireturn, 1) := by decide +kernel
theorem dX9_allShowOneList_50 : decode cX9_allShowOneList 50 = .ok (.iinc 2 1, 3) := by decide +kernel
theorem dX9_allShowOneList_53 : decode cX9_allShowOneList 53 = .ok (.goto (-41), 3) := by decide +kernel
theorem dX9_allShowOneList_56 : decode cX9_allShowOneList 56 = .ok (.iconst 1, 1) := by decide +kernel
theorem dX9_allShowOneList_57 : decode cX9_allShowOneList 57 = .ok (.ireturn, 1) := by decide +kernel
theorem dX9_showsSame_0 : decode cX9_showsSame 0 = .ok (.aload_n 0, 1) := by decide +kernel
theorem dX9_showsSame_1 : decode cX9_showsSame 1 = .ok (.getfield 12, 3) := by decide +kernel
theorem dX9_showsSame_4 : decode cX9_showsSame 4 = .ok (.getfield 101, 3) := by decide +kernel
theorem dX9_showsSame_7 : decode cX9_showsSame 7 = .ok (.iconst 0, 1) := by decide +kernel
theorem dX9_showsSame_8 : decode cX9_showsSame 8 = .ok (.aaload, 1) := by decide +kernel
theorem dX9_showsSame_9 : decode cX9_showsSame 9 = .ok (.getfield 105, 3) := by decide +kernel
theorem dX9_showsSame_12 : decode cX9_showsSame 12 = .ok (.astore_n 3, 1) := by decide +kernel
theorem dX9_showsSame_13 : decode cX9_showsSame 13 = .ok (.aload_n 0, 1) := by decide +kernel
theorem dX9_showsSame_14 : decode cX9_showsSame 14 = .ok (.getfield 12, 3) := by decide +kernel
theorem dX9_showsSame_17 : decode cX9_showsSame 17 = .ok (.getfield 101, 3) := by decide +kernel
theorem dX9_showsSame_20 : decode cX9_showsSame 20 = .ok (.iload_n 1, 1) := by decide +kernel
theorem dX9_showsSame_21 : decode cX9_showsSame 21 = .ok (.aaload, 1) := by decide +kernel
theorem dX9_showsSame_22 : decode cX9_showsSame 22 = .ok (.getfield 105, 3) := by decide +kernel
theorem dX9_showsSame_25 : decode cX9_showsSame 25 = .ok (.astore 4, 2) := by decide +kernel
theorem dX9_showsSame_27 : decode cX9_showsSame 27 = .ok (.iconst 0, 1) := by decide +kernel
theorem dX9_showsSame_28 : decode cX9_showsSame 28 = .ok (.istore 5, 2) := by decide +kernel
theorem dX9_showsSame_30 : decode cX9_showsSame 30 = .ok (.iload 5, 2) := by decide +kernel
theorem dX9_showsSame_32 : decode cX9_showsSame 32 = .ok (.iload_n 2, 1) := by decide +kernel
theorem dX9_showsSame_33 : decode cX9_showsSame 33 = .ok (.if_icmp .ge 62, 3) := by decide +kernel
theorem dX9_showsSame_36 : decode cX9_showsSame 36 = .ok (.aload_n 0, 1) := by decide +kernel
theorem dX9_showsSame_37 : decode cX9_showsSame 37 = .ok (.getfield 49, 3) := by decide +kernel
theorem dX9_showsSame_40 : decode cX9_showsSame 40 = .ok (.iload 5, 2) := by decide +kernel
theorem dX9_showsSame_42 : decode cX9_showsSame 42 = .ok (.iaload, 1) := by decide +kernel
theorem dX9_showsSame_43 : decode cX9_showsSame 43 = .ok (.istore 6, 2) := by decide +kernel
theorem dX9_showsSame_45 : decode cX9_showsSame 45 = .ok (.iload 6, 2) := by decide +kernel
theorem dX9_showsSame_47 : decode cX9_showsSame 47 = .ok (.aload_n 0, 1) := by decide +kernel
theorem dX9_showsSame_48 : decode cX9_showsSame 48 = .ok (.getfield 53, 3) := by decide +kernel
theorem dX9_showsSame_51 : decode cX9_showsSame 51 = .ok (.iload 5, 2) := by decide +kernel
theorem dX9_showsSame_53 : decode cX9_showsSame 53 = .ok (.iaload, 1) := by decide +kernel
theorem dX9_showsSame_54 : decode cX9_showsSame 54 = .ok (.if_icmp .ne 33, 3) := by decide +kernel
theorem dX9_showsSame_57 : decode cX9_showsSame 57 = .ok (.aload_n 3, 1) := by decide +kernel
theorem dX9_showsSame_58 : decode cX9_showsSame 58 = .ok (.aload_n 0, 1) := by decide +kernel
theorem dX9_showsSame_59 : decode cX9_showsSame 59 = .ok (.getfield 12, 3) := by decide +kernel
theorem dX9_showsSame_62 : decode cX9_showsSame 62 = .ok (.getfield 85, 3) := by decide +kernel
theorem dX9_showsSame_65 : decode cX9_showsSame 65 = .ok (.iload 6, 2) := by decide +kernel
theorem dX9_showsSame_67 : decode cX9_showsSame 67 = .ok (.invokevirtual 116, 3) := by decide +kernel
theorem dX9_showsSame_70 : decode cX9_showsSame 70 = .ok (.aload 4, 2) := by decide +kernel
theorem dX9_showsSame_72 : decode cX9_showsSame 72 = .ok (.aload_n 0, 1) := by decide +kernel
theorem dX9_showsSame_73 : decode cX9_showsSame 73 = .ok (.getfield 12, 3) := by decide +kernel
theorem dX9_showsSame_76 : decode cX9_showsSame 76 = .ok (.getfield 85, 3) := by decide +kernel
theorem dX9_showsSame_79 : decode cX9_showsSame 79 = .ok (.iload 6, 2) := by decide +kernel
theorem dX9_showsSame_81 : decode cX9_showsSame 81 = .ok (.invokevirtual 116, 3) := by decide +kernel
theorem dX9_showsSame_84 : decode cX9_showsSame 84 = .ok (.if_icmp .eq 5, 3) := by decide +kernel
theorem dX9_showsSame_87 : decode cX9_showsSame 87 = .ok (.iconst 0, 1) := by decide +kernel
theorem dX9_showsSame_88 : decode cX9_showsSame 88 = .ok (.ireturn, 1) := by decide +kernel
theorem dX9_showsSame_89 : decode cX9_showsSame 89 = .ok (.iinc 5 1, 3) := by decide +kernel
theorem dX9_showsSame_92 : decode cX9_showsSame 92 = .ok (.goto (-62), 3) := by decide +kernel
theorem dX9_showsSame_95 : decode cX9_showsSame 95 = .ok (.iconst 1, 1) := by decide +kernel
theorem dX9_showsSame_96 : decode cX9_showsSame 96 = .ok (.ireturn, 1) := by decide +kernel
theorem dX9_feedNumber_0 : decode cX9_feedNumber 0 = .ok (.bipush 24, 2) := by decide +kernel
theorem dX9_feedNumber_2 : decode cX9_feedNumber 2 = .ok (.istore_n 2, 1) := by decide +kernel
theorem dX9_feedNumber_3 : decode cX9_feedNumber 3 = .ok (.iload_n 2, 1) := by decide +kernel
theorem dX9_feedNumber_4 : decode cX9_feedNumber 4 = .ok (.ifCond .lt 42, 3) := by decide +kernel
theorem dX9_feedNumber_7 : decode cX9_feedNumber 7 = .ok (.aload_n 0, 1) := by decide +kernel
theorem dX9_feedNumber_8 : decode cX9_feedNumber 8 = .ok (.getfield 292, 3) := by decide +kernel
theorem dX9_feedNumber_11 : decode cX9_feedNumber 11 = .ok (.sipush 400, 3) := by decide +kernel
theorem dX9_feedNumber_14 : decode cX9_feedNumber 14 = .ok (.if_icmp .ge 32, 3) := by decide +kernel
theorem dX9_feedNumber_17 : decode cX9_feedNumber 17 = .ok (.aload_n 0, 1) := by decide +kernel
theorem dX9_feedNumber_18 : decode cX9_feedNumber 18 = .ok (.getfield 45, 3) := by decide +kernel
theorem dX9_feedNumber_21 : decode cX9_feedNumber 21 = .ok (.aload_n 0, 1) := by decide +kernel
theorem dX9_feedNumber_22 : decode cX9_feedNumber 22 = .ok (.getfield 292, 3) := by decide +kernel
theorem dX9_feedNumber_25 : decode cX9_feedNumber 25 = .ok (.iload_n 1, 1) := by decide +kernel
theorem dX9_feedNumber_26 : decode cX9_feedNumber 26 = .ok (.iload_n 2, 1) := by decide +kernel
theorem dX9_feedNumber_27 : decode cX9_feedNumber 27 = .ok (.ishr, 1) := by decide +kernel
theorem dX9_feedNumber_28 : decode cX9_feedNumber 28 = .ok (.i2b, 1) := by decide +kernel
theorem dX9_feedNumber_29 : decode cX9_feedNumber 29 = .ok (.bastore, 1) := by decide +kernel
theorem dX9_feedNumber_30 : decode cX9_feedNumber 30 = .ok (.aload_n 0, 1) := by decide +kernel
theorem dX9_feedNumber_31 : decode cX9_feedNumber 31 = .ok (.dup, 1) := by decide +kernel
theorem dX9_feedNumber_32 : decode cX9_feedNumber 32 = .ok (.getfield 292, 3) := by decide +kernel
theorem dX9_feedNumber_35 : decode cX9_feedNumber 35 = .ok (.iconst 1, 1) := by decide +kernel
theorem dX9_feedNumber_36 : decode cX9_feedNumber 36 = .ok (.iadd, 1) := by decide +kernel
theorem dX9_feedNumber_37 : decode cX9_feedNumber 37 = .ok (.putfield 292, 3) := by decide +kernel
theorem dX9_feedNumber_40 : decode cX9_feedNumber 40 = .ok (.iinc 2 (-8), 3) := by decide +kernel
theorem dX9_feedNumber_43 : decode cX9_feedNumber 43 = .ok (.goto (-40), 3) := by decide +kernel
theorem dX9_feedNumber_46 : decode cX9_feedNumber 46 = .ok (.return_, 1) := by decide +kernel
theorem dX9_doDeed_0 : decode cX9_doDeed 0 = .ok (.aload_n 0, 1) := by decide +kernel
theorem dX9_doDeed_1 : decode cX9_doDeed 1 = .ok (.getfield 41, 3) := by decide +kernel
theorem dX9_doDeed_4 : decode cX9_doDeed 4 = .ok (.getfield 376, 3) := by decide +kernel
theorem dX9_doDeed_7 : decode cX9_doDeed 7 = .ok (.iload_n 1, 1) := by decide +kernel
theorem dX9_doDeed_8 : decode cX9_doDeed 8 = .ok (.iconst 1, 1) := by decide +kernel
theorem dX9_doDeed_9 : decode cX9_doDeed 9 = .ok (.iadd, 1) := by decide +kernel
theorem dX9_doDeed_10 : decode cX9_doDeed 10 = .ok (.iaload, 1) := by decide +kernel
theorem dX9_doDeed_11 : decode cX9_doDeed 11 = .ok (.istore_n 2, 1) := by decide +kernel
theorem dX9_doDeed_12 : decode cX9_doDeed 12 = .ok (.aload_n 0, 1) := by decide +kernel
theorem dX9_doDeed_13 : decode cX9_doDeed 13 = .ok (.getfield 41, 3) := by decide +kernel
theorem dX9_doDeed_16 : decode cX9_doDeed 16 = .ok (.getfield 376, 3) := by decide +kernel
theorem dX9_doDeed_19 : decode cX9_doDeed 19 = .ok (.iload_n 1, 1) := by decide +kernel
theorem dX9_doDeed_20 : decode cX9_doDeed 20 = .ok (.iconst 2, 1) := by decide +kernel
theorem dX9_doDeed_21 : decode cX9_doDeed 21 = .ok (.iadd, 1) := by decide +kernel
theorem dX9_doDeed_22 : decode cX9_doDeed 22 = .ok (.iaload, 1) := by decide +kernel
theorem dX9_doDeed_23 : decode cX9_doDeed 23 = .ok (.istore_n 3, 1) := by decide +kernel
theorem dX9_doDeed_24 : decode cX9_doDeed 24 = .ok (.aload_n 0, 1) := by decide +kernel
theorem dX9_doDeed_25 : decode cX9_doDeed 25 = .ok (.getfield 41, 3) := by decide +kernel
theorem dX9_doDeed_28 : decode cX9_doDeed 28 = .ok (.getfield 376, 3) := by decide +kernel
theorem dX9_doDeed_31 : decode cX9_doDeed 31 = .ok (.iload_n 1, 1) := by decide +kernel
theorem dX9_doDeed_32 : decode cX9_doDeed 32 = .ok (.iconst 3, 1) := by decide +kernel
theorem dX9_doDeed_33 : decode cX9_doDeed 33 = .ok (.iadd, 1) := by decide +kernel
theorem dX9_doDeed_34 : decode cX9_doDeed 34 = .ok (.iaload, 1) := by decide +kernel
theorem dX9_doDeed_35 : decode cX9_doDeed 35 = .ok (.istore 4, 2) := by decide +kernel
theorem dX9_doDeed_37 : decode cX9_doDeed 37 = .ok (.getstatic 379, 3) := by decide +kernel
theorem dX9_doDeed_40 : decode cX9_doDeed 40 = .ok (.getstatic 384, 3) := by decide +kernel
theorem dX9_doDeed_43 : decode cX9_doDeed 43 = .ok (.aload_n 0, 1) := by decide +kernel
theorem dX9_doDeed_44 : decode cX9_doDeed 44 = .ok (.getfield 41, 3) := by decide +kernel
theorem dX9_doDeed_47 : decode cX9_doDeed 47 = .ok (.getfield 376, 3) := by decide +kernel
theorem dX9_doDeed_50 : decode cX9_doDeed 50 = .ok (.iload_n 1, 1) := by decide +kernel
theorem dX9_doDeed_51 : decode cX9_doDeed 51 = .ok (.iaload, 1) := by decide +kernel
theorem dX9_doDeed_52 : decode cX9_doDeed 52 = .ok (.aaload, 1) := by decide +kernel
theorem dX9_doDeed_53 : decode cX9_doDeed 53 = .ok (.invokevirtual 388, 3) := by decide +kernel
theorem dX9_doDeed_56 : decode cX9_doDeed 56 = .ok (.iaload, 1) := by decide +kernel
theorem dX9_doDeed_57 : decode cX9_doDeed 57 = .ok (.tableswitch 211 1 10 #[55, 73, 91, 107, 125, 141, 157, 173, 189, 196], 55) := by decide +kernel
theorem dX9_doDeed_112 : decode cX9_doDeed 112 = .ok (.aload_n 0, 1) := by decide +kernel
theorem dX9_doDeed_113 : decode cX9_doDeed 113 = .ok (.iload_n 2, 1) := by decide +kernel
theorem dX9_doDeed_114 : decode cX9_doDeed 114 = .ok (.iload_n 3, 1) := by decide +kernel
theorem dX9_doDeed_115 : decode cX9_doDeed 115 = .ok (.iload 4, 2) := by decide +kernel
theorem dX9_doDeed_117 : decode cX9_doDeed 117 = .ok (.invokevirtual 335, 3) := by decide +kernel
theorem dX9_doDeed_120 : decode cX9_doDeed 120 = .ok (.iconst (-1), 1) := by decide +kernel
theorem dX9_doDeed_121 : decode cX9_doDeed 121 = .ok (.if_icmp .eq 7, 3) := by decide +kernel
theorem dX9_doDeed_124 : decode cX9_doDeed 124 = .ok (.iconst 1, 1) := by decide +kernel
theorem dX9_doDeed_125 : decode cX9_doDeed 125 = .ok (.goto 4, 3) := by decide +kernel
theorem dX9_doDeed_128 : decode cX9_doDeed 128 = .ok (.iconst 0, 1) := by decide +kernel
theorem dX9_doDeed_129 : decode cX9_doDeed 129 = .ok (.ireturn, 1) := by decide +kernel
theorem dX9_doDeed_130 : decode cX9_doDeed 130 = .ok (.aload_n 0, 1) := by decide +kernel
theorem dX9_doDeed_131 : decode cX9_doDeed 131 = .ok (.iload_n 2, 1) := by decide +kernel
theorem dX9_doDeed_132 : decode cX9_doDeed 132 = .ok (.iload_n 3, 1) := by decide +kernel
theorem dX9_doDeed_133 : decode cX9_doDeed 133 = .ok (.iload 4, 2) := by decide +kernel
theorem dX9_doDeed_135 : decode cX9_doDeed 135 = .ok (.invokevirtual 339, 3) := by decide +kernel
theorem dX9_doDeed_138 : decode cX9_doDeed 138 = .ok (.iconst (-1), 1) := by decide +kernel
theorem dX9_doDeed_139 : decode cX9_doDeed 139 = .ok (.if_icmp .eq 7, 3) := by decide +kernel
theorem dX9_doDeed_142 : decode cX9_doDeed 142 = .ok (.iconst 1, 1) := by decide +kernel
theorem dX9_doDeed_143 : decode cX9_doDeed 143 = .ok (.goto 4, 3) := by decide +kernel
theorem dX9_doDeed_146 : decode cX9_doDeed 146 = .ok (.iconst 0, 1) := by decide +kernel
theorem dX9_doDeed_147 : decode cX9_doDeed 147 = .ok (.ireturn, 1) := by decide +kernel
theorem dX9_doDeed_148 : decode cX9_doDeed 148 = .ok (.aload_n 0, 1) := by decide +kernel
theorem dX9_doDeed_149 : decode cX9_doDeed 149 = .ok (.iload_n 2, 1) := by decide +kernel
theorem dX9_doDeed_150 : decode cX9_doDeed 150 = .ok (.iload_n 3, 1) := by decide +kernel
theorem dX9_doDeed_151 : decode cX9_doDeed 151 = .ok (.invokevirtual 342, 3) := by decide +kernel
theorem dX9_doDeed_154 : decode cX9_doDeed 154 = .ok (.iconst (-1), 1) := by decide +kernel
theorem dX9_doDeed_155 : decode cX9_doDeed 155 = .ok (.if_icmp .eq 7, 3) := by decide +kernel
theorem dX9_doDeed_158 : decode cX9_doDeed 158 = .ok (.iconst 1, 1) := by decide +kernel
theorem dX9_doDeed_159 : decode cX9_doDeed 159 = .ok (.goto 4, 3) := by decide +kernel
theorem dX9_doDeed_162 : decode cX9_doDeed 162 = .ok (.iconst 0, 1) := by decide +kernel
theorem dX9_doDeed_163 : decode cX9_doDeed 163 = .ok (.ireturn, 1) := by decide +kernel
theorem dX9_doDeed_164 : decode cX9_doDeed 164 = .ok (.aload_n 0, 1) := by decide +kernel
theorem dX9_doDeed_165 : decode cX9_doDeed 165 = .ok (.iload_n 2, 1) := by decide +kernel
theorem dX9_doDeed_166 : decode cX9_doDeed 166 = .ok (.iload_n 3, 1) := by decide +kernel
theorem dX9_doDeed_167 : decode cX9_doDeed 167 = .ok (.iload 4, 2) := by decide +kernel
theorem dX9_doDeed_169 : decode cX9_doDeed 169 = .ok (.invokevirtual 345, 3) := by decide +kernel
theorem dX9_doDeed_172 : decode cX9_doDeed 172 = .ok (.iconst (-1), 1) := by decide +kernel
theorem dX9_doDeed_173 : decode cX9_doDeed 173 = .ok (.if_icmp .eq 7, 3) := by decide +kernel
theorem dX9_doDeed_176 : decode cX9_doDeed 176 = .ok (.iconst 1, 1) := by decide +kernel
theorem dX9_doDeed_177 : decode cX9_doDeed 177 = .ok (.goto 4, 3) := by decide +kernel
theorem dX9_doDeed_180 : decode cX9_doDeed 180 = .ok (.iconst 0, 1) := by decide +kernel
theorem dX9_doDeed_181 : decode cX9_doDeed 181 = .ok (.ireturn, 1) := by decide +kernel
theorem dX9_doDeed_182 : decode cX9_doDeed 182 = .ok (.aload_n 0, 1) := by decide +kernel
theorem dX9_doDeed_183 : decode cX9_doDeed 183 = .ok (.iload_n 2, 1) := by decide +kernel
theorem dX9_doDeed_184 : decode cX9_doDeed 184 = .ok (.iload_n 3, 1) := by decide +kernel
theorem dX9_doDeed_185 : decode cX9_doDeed 185 = .ok (.invokevirtual 348, 3) := by decide +kernel
theorem dX9_doDeed_188 : decode cX9_doDeed 188 = .ok (.iconst (-1), 1) := by decide +kernel
theorem dX9_doDeed_189 : decode cX9_doDeed 189 = .ok (.if_icmp .eq 7, 3) := by decide +kernel
theorem dX9_doDeed_192 : decode cX9_doDeed 192 = .ok (.iconst 1, 1) := by decide +kernel
theorem dX9_doDeed_193 : decode cX9_doDeed 193 = .ok (.goto 4, 3) := by decide +kernel
theorem dX9_doDeed_196 : decode cX9_doDeed 196 = .ok (.iconst 0, 1) := by decide +kernel
theorem dX9_doDeed_197 : decode cX9_doDeed 197 = .ok (.ireturn, 1) := by decide +kernel
theorem dX9_doDeed_198 : decode cX9_doDeed 198 = .ok (.aload_n 0, 1) := by decide +kernel
theorem dX9_doDeed_199 : decode cX9_doDeed 199 = .ok (.iload_n 2, 1) := by decide +kernel
theorem dX9_doDeed_200 : decode cX9_doDeed 200 = .ok (.iload_n 3, 1) := by decide +kernel
theorem dX9_doDeed_201 : decode cX9_doDeed 201 = .ok (.invokevirtual 393, 3) := by decide +kernel
theorem dX9_doDeed_204 : decode cX9_doDeed 204 = .ok (.iconst (-1), 1) := by decide +kernel
theorem dX9_doDeed_205 : decode cX9_doDeed 205 = .ok (.if_icmp .eq 7, 3) := by decide +kernel
theorem dX9_doDeed_208 : decode cX9_doDeed 208 = .ok (.iconst 1, 1) := by decide +kernel
theorem dX9_doDeed_209 : decode cX9_doDeed 209 = .ok (.goto 4, 3) := by decide +kernel
theorem dX9_doDeed_212 : decode cX9_doDeed 212 = .ok (.iconst 0, 1) := by decide +kernel
theorem dX9_doDeed_213 : decode cX9_doDeed 213 = .ok (.ireturn, 1) := by decide +kernel
theorem dX9_doDeed_214 : decode cX9_doDeed 214 = .ok (.aload_n 0, 1) := by decide +kernel
theorem dX9_doDeed_215 : decode cX9_doDeed 215 = .ok (.iload_n 2, 1) := by decide +kernel
theorem dX9_doDeed_216 : decode cX9_doDeed 216 = .ok (.iload_n 3, 1) := by decide +kernel
theorem dX9_doDeed_217 : decode cX9_doDeed 217 = .ok (.invokevirtual 396, 3) := by decide +kernel
theorem dX9_doDeed_220 : decode cX9_doDeed 220 = .ok (.iconst (-1), 1) := by decide +kernel
theorem dX9_doDeed_221 : decode cX9_doDeed 221 = .ok (.if_icmp .eq 7, 3) := by decide +kernel
theorem dX9_doDeed_224 : decode cX9_doDeed 224 = .ok (.iconst 1, 1) := by decide +kernel
theorem dX9_doDeed_225 : decode cX9_doDeed 225 = .ok (.goto 4, 3) := by decide +kernel
theorem dX9_doDeed_228 : decode cX9_doDeed 228 = .ok (.iconst 0, 1) := by decide +kernel
theorem dX9_doDeed_229 : decode cX9_doDeed 229 = .ok (.ireturn, 1) := by decide +kernel
theorem dX9_doDeed_230 : decode cX9_doDeed 230 = .ok (.aload_n 0, 1) := by decide +kernel
theorem dX9_doDeed_231 : decode cX9_doDeed 231 = .ok (.iload_n 2, 1) := by decide +kernel
theorem dX9_doDeed_232 : decode cX9_doDeed 232 = .ok (.iload_n 3, 1) := by decide +kernel
theorem dX9_doDeed_233 : decode cX9_doDeed 233 = .ok (.invokevirtual 332, 3) := by decide +kernel
theorem dX9_doDeed_236 : decode cX9_doDeed 236 = .ok (.iconst (-1), 1) := by decide +kernel
theorem dX9_doDeed_237 : decode cX9_doDeed 237 = .ok (.if_icmp .eq 7, 3) := by decide +kernel
theorem dX9_doDeed_240 : decode cX9_doDeed 240 = .ok (.iconst 1, 1) := by decide +kernel
theorem dX9_doDeed_241 : decode cX9_doDeed 241 = .ok (.goto 4, 3) := by decide +kernel
theorem dX9_doDeed_244 : decode cX9_doDeed 244 = .ok (.iconst 0, 1) := by decide +kernel
theorem dX9_doDeed_245 : decode cX9_doDeed 245 = .ok (.ireturn, 1) := by decide +kernel
theorem dX9_doDeed_246 : decode cX9_doDeed 246 = .ok (.aload_n 0, 1) := by decide +kernel
theorem dX9_doDeed_247 : decode cX9_doDeed 247 = .ok (.iload_n 2, 1) := by decide +kernel
theorem dX9_doDeed_248 : decode cX9_doDeed 248 = .ok (.iload_n 3, 1) := by decide +kernel
theorem dX9_doDeed_249 : decode cX9_doDeed 249 = .ok (.invokevirtual 399, 3) := by decide +kernel
theorem dX9_doDeed_252 : decode cX9_doDeed 252 = .ok (.ireturn, 1) := by decide +kernel
theorem dX9_doDeed_253 : decode cX9_doDeed 253 = .ok (.aload_n 0, 1) := by decide +kernel
theorem dX9_doDeed_254 : decode cX9_doDeed 254 = .ok (.iload_n 2, 1) := by decide +kernel
theorem dX9_doDeed_255 : decode cX9_doDeed 255 = .ok (.invokevirtual 402, 3) := by decide +kernel
theorem dX9_doDeed_258 : decode cX9_doDeed 258 = .ok (.iconst (-1), 1) := by decide +kernel
theorem dX9_doDeed_259 : decode cX9_doDeed 259 = .ok (.if_icmp .eq 7, 3) := by decide +kernel
theorem dX9_doDeed_262 : decode cX9_doDeed 262 = .ok (.iconst 1, 1) := by decide +kernel
theorem dX9_doDeed_263 : decode cX9_doDeed 263 = .ok (.goto 4, 3) := by decide +kernel
theorem dX9_doDeed_266 : decode cX9_doDeed 266 = .ok (.iconst 0, 1) := by decide +kernel
theorem dX9_doDeed_267 : decode cX9_doDeed 267 = .ok (.ireturn, 1) := by decide +kernel
theorem dX9_doDeed_268 : decode cX9_doDeed 268 = .ok (.aload_n 0, 1) := by decide +kernel
theorem dX9_doDeed_269 : decode cX9_doDeed 269 = .ok (.invokevirtual 405, 3) := by decide +kernel
theorem dX9_doDeed_272 : decode cX9_doDeed 272 = .ok (.iconst 1, 1) := by decide +kernel
theorem dX9_doDeed_273 : decode cX9_doDeed 273 = .ok (.ireturn, 1) := by decide +kernel
theorem dX9_deliverAll_0 : decode cX9_deliverAll 0 = .ok (.iconst 0, 1) := by decide +kernel
theorem dX9_deliverAll_1 : decode cX9_deliverAll 1 = .ok (.istore_n 1, 1) := by decide +kernel
theorem dX9_deliverAll_2 : decode cX9_deliverAll 2 = .ok (.iload_n 1, 1) := by decide +kernel
theorem dX9_deliverAll_3 : decode cX9_deliverAll 3 = .ok (.aload_n 0, 1) := by decide +kernel
theorem dX9_deliverAll_4 : decode cX9_deliverAll 4 = .ok (.getfield 12, 3) := by decide +kernel
theorem dX9_deliverAll_7 : decode cX9_deliverAll 7 = .ok (.getfield 85, 3) := by decide +kernel
theorem dX9_deliverAll_10 : decode cX9_deliverAll 10 = .ok (.getfield 281, 3) := by decide +kernel
theorem dX9_deliverAll_13 : decode cX9_deliverAll 13 = .ok (.if_icmp .ge 70, 3) := by decide +kernel
theorem dX9_deliverAll_16 : decode cX9_deliverAll 16 = .ok (.aload_n 0, 1) := by decide +kernel
theorem dX9_deliverAll_17 : decode cX9_deliverAll 17 = .ok (.getfield 12, 3) := by decide +kernel
theorem dX9_deliverAll_20 : decode cX9_deliverAll 20 = .ok (.getfield 101, 3) := by decide +kernel
theorem dX9_deliverAll_23 : decode cX9_deliverAll 23 = .ok (.iload_n 1, 1) := by decide +kernel
theorem dX9_deliverAll_24 : decode cX9_deliverAll 24 = .ok (.aaload, 1) := by decide +kernel
theorem dX9_deliverAll_25 : decode cX9_deliverAll 25 = .ok (.astore_n 2, 1) := by decide +kernel
theorem dX9_deliverAll_26 : decode cX9_deliverAll 26 = .ok (.aload_n 2, 1) := by decide +kernel
theorem dX9_deliverAll_27 : decode cX9_deliverAll 27 = .ok (.getfield 134, 3) := by decide +kernel
theorem dX9_deliverAll_30 : decode cX9_deliverAll 30 = .ok (.getfield 214, 3) := by decide +kernel
theorem dX9_deliverAll_33 : decode cX9_deliverAll 33 = .ok (.istore_n 3, 1) := by decide +kernel
theorem dX9_deliverAll_34 : decode cX9_deliverAll 34 = .ok (.iload_n 3, 1) := by decide +kernel
theorem dX9_deliverAll_35 : decode cX9_deliverAll 35 = .ok (.ifCond .le 42, 3) := by decide +kernel
theorem dX9_deliverAll_38 : decode cX9_deliverAll 38 = .ok (.aload_n 2, 1) := by decide +kernel
theorem dX9_deliverAll_39 : decode cX9_deliverAll 39 = .ok (.getfield 134, 3) := by decide +kernel
theorem dX9_deliverAll_42 : decode cX9_deliverAll 42 = .ok (.getfield 211, 3) := by decide +kernel
theorem dX9_deliverAll_45 : decode cX9_deliverAll 45 = .ok (.iconst 0, 1) := by decide +kernel
theorem dX9_deliverAll_46 : decode cX9_deliverAll 46 = .ok (.iaload, 1) := by decide +kernel
theorem dX9_deliverAll_47 : decode cX9_deliverAll 47 = .ok (.istore 4, 2) := by decide +kernel
theorem dX9_deliverAll_49 : decode cX9_deliverAll 49 = .ok (.aload_n 2, 1) := by decide +kernel
theorem dX9_deliverAll_50 : decode cX9_deliverAll 50 = .ok (.getfield 134, 3) := by decide +kernel
theorem dX9_deliverAll_53 : decode cX9_deliverAll 53 = .ok (.iconst 0, 1) := by decide +kernel
theorem dX9_deliverAll_54 : decode cX9_deliverAll 54 = .ok (.invokevirtual 138, 3) := by decide +kernel
theorem dX9_deliverAll_57 : decode cX9_deliverAll 57 = .ok (.aload_n 2, 1) := by decide +kernel
theorem dX9_deliverAll_58 : decode cX9_deliverAll 58 = .ok (.aload_n 0, 1) := by decide +kernel
theorem dX9_deliverAll_59 : decode cX9_deliverAll 59 = .ok (.getfield 12, 3) := by decide +kernel
theorem dX9_deliverAll_62 : decode cX9_deliverAll 62 = .ok (.getfield 85, 3) := by decide +kernel
theorem dX9_deliverAll_65 : decode cX9_deliverAll 65 = .ok (.iload 4, 2) := by decide +kernel
theorem dX9_deliverAll_67 : decode cX9_deliverAll 67 = .ok (.invokevirtual 143, 3) := by decide +kernel
theorem dX9_deliverAll_70 : decode cX9_deliverAll 70 = .ok (.pop, 1) := by decide +kernel
theorem dX9_deliverAll_71 : decode cX9_deliverAll 71 = .ok (.iinc 3 (-1), 3) := by decide +kernel
theorem dX9_deliverAll_74 : decode cX9_deliverAll 74 = .ok (.goto (-40), 3) := by decide +kernel
theorem dX9_deliverAll_77 : decode cX9_deliverAll 77 = .ok (.iinc 1 1, 3) := by decide +kernel
theorem dX9_deliverAll_80 : decode cX9_deliverAll 80 = .ok (.goto (-78), 3) := by decide +kernel
theorem dX9_deliverAll_83 : decode cX9_deliverAll 83 = .ok (.return_, 1) := by decide +kernel
theorem dX10_init_0 : decode cX10_init 0 = .ok (.aload_n 0, 1) := by decide +kernel
theorem dX10_init_1 : decode cX10_init 1 = .ok (.invokespecial 7, 3) := by decide +kernel
theorem dX10_init_4 : decode cX10_init 4 = .ok (.aload_n 0, 1) := by decide +kernel
theorem dX10_init_5 : decode cX10_init 5 = .ok (.sipush 4504, 3) := by decide +kernel
theorem dX10_init_8 : decode cX10_init 8 = .ok (.newarray .int, 2) := by decide +kernel
theorem dX10_init_10 : decode cX10_init 10 = .ok (.putfield 13, 3) := by decide +kernel
theorem dX10_init_13 : decode cX10_init 13 = .ok (.aload_n 0, 1) := by decide +kernel
theorem dX10_init_14 : decode cX10_init 14 = .ok (.sipush 9008, 3) := by decide +kernel
theorem dX10_init_17 : decode cX10_init 17 = .ok (.newarray .int, 2) := by decide +kernel
theorem dX10_init_19 : decode cX10_init 19 = .ok (.putfield 17, 3) := by decide +kernel
theorem dX10_init_22 : decode cX10_init 22 = .ok (.aload_n 0, 1) := by decide +kernel
theorem dX10_init_23 : decode cX10_init 23 = .ok (.sipush 200, 3) := by decide +kernel
theorem dX10_init_26 : decode cX10_init 26 = .ok (.newarray .int, 2) := by decide +kernel
theorem dX10_init_28 : decode cX10_init 28 = .ok (.putfield 20, 3) := by decide +kernel
theorem dX10_init_31 : decode cX10_init 31 = .ok (.aload_n 0, 1) := by decide +kernel
theorem dX10_init_32 : decode cX10_init 32 = .ok (.sipush 200, 3) := by decide +kernel
theorem dX10_init_35 : decode cX10_init 35 = .ok (.newarray .int, 2) := by decide +kernel
theorem dX10_init_37 : decode cX10_init 37 = .ok (.putfield 23, 3) := by decide +kernel
theorem dX10_init_40 : decode cX10_init 40 = .ok (.aload_n 0, 1) := by decide +kernel
theorem dX10_init_41 : decode cX10_init 41 = .ok (.sipush 200, 3) := by decide +kernel
theorem dX10_init_44 : decode cX10_init 44 = .ok (.newarray .int, 2) := by decide +kernel
theorem dX10_init_46 : decode cX10_init 46 = .ok (.putfield 26, 3) := by decide +kernel
theorem dX10_init_49 : decode cX10_init 49 = .ok (.aload_n 0, 1) := by decide +kernel
theorem dX10_init_50 : decode cX10_init 50 = .ok (.sipush 200, 3) := by decide +kernel
theorem dX10_init_53 : decode cX10_init 53 = .ok (.newarray .int, 2) := by decide +kernel
theorem dX10_init_55 : decode cX10_init 55 = .ok (.putfield 29, 3) := by decide +kernel
theorem dX10_init_58 : decode cX10_init 58 = .ok (.aload_n 0, 1) := by decide +kernel
theorem dX10_init_59 : decode cX10_init 59 = .ok (.sipush 200, 3) := by decide +kernel
theorem dX10_init_62 : decode cX10_init 62 = .ok (.newarray .int, 2) := by decide +kernel
theorem dX10_init_64 : decode cX10_init 64 = .ok (.putfield 32, 3) := by decide +kernel
theorem dX10_init_67 : decode cX10_init 67 = .ok (.aload_n 0, 1) := by decide +kernel
theorem dX10_init_68 : decode cX10_init 68 = .ok (.sipush 200, 3) := by decide +kernel
theorem dX10_init_71 : decode cX10_init 71 = .ok (.newarray .int, 2) := by decide +kernel
theorem dX10_init_73 : decode cX10_init 73 = .ok (.putfield 35, 3) := by decide +kernel
theorem dX10_init_76 : decode cX10_init 76 = .ok (.aload_n 0, 1) := by decide +kernel
theorem dX10_init_77 : decode cX10_init 77 = .ok (.sipush 201, 3) := by decide +kernel
theorem dX10_init_80 : decode cX10_init 80 = .ok (.newarray .int, 2) := by decide +kernel
theorem dX10_init_82 : decode cX10_init 82 = .ok (.putfield 38, 3) := by decide +kernel
theorem dX10_init_85 : decode cX10_init 85 = .ok (.aload_n 0, 1) := by decide +kernel
theorem dX10_init_86 : decode cX10_init 86 = .ok (.sipush 400, 3) := by decide +kernel
theorem dX10_init_89 : decode cX10_init 89 = .ok (.newarray .byte, 2) := by decide +kernel
theorem dX10_init_91 : decode cX10_init 91 = .ok (.putfield 41, 3) := by decide +kernel
theorem dX10_init_94 : decode cX10_init 94 = .ok (.aload_n 0, 1) := by decide +kernel
theorem dX10_init_95 : decode cX10_init 95 = .ok (.sipush 800, 3) := by decide +kernel
theorem dX10_init_98 : decode cX10_init 98 = .ok (.newarray .int, 2) := by decide +kernel
theorem dX10_init_100 : decode cX10_init 100 = .ok (.putfield 45, 3) := by decide +kernel
theorem dX10_init_103 : decode cX10_init 103 = .ok (.aload_n 0, 1) := by decide +kernel
theorem dX10_init_104 : decode cX10_init 104 = .ok (.iconst 3, 1) := by decide +kernel
theorem dX10_init_105 : decode cX10_init 105 = .ok (.invokevirtual 48, 3) := by decide +kernel
theorem dX10_init_108 : decode cX10_init 108 = .ok (.return_, 1) := by decide +kernel
theorem dX10_within_0 : decode cX10_within 0 = .ok (.iload_n 0, 1) := by decide +kernel
theorem dX10_within_1 : decode cX10_within 1 = .ok (.iload_n 1, 1) := by decide +kernel
theorem dX10_within_2 : decode cX10_within 2 = .ok (.if_icmp .lt 12, 3) := by decide +kernel
theorem dX10_within_5 : decode cX10_within 5 = .ok (.iload_n 0, 1) := by decide +kernel
theorem dX10_within_6 : decode cX10_within 6 = .ok (.iload_n 2, 1) := by decide +kernel
theorem dX10_within_7 : decode cX10_within 7 = .ok (.if_icmp .gt 7, 3) := by decide +kernel
theorem dX10_within_10 : decode cX10_within 10 = .ok (.iconst 1, 1) := by decide +kernel
theorem dX10_within_11 : decode cX10_within 11 = .ok (.goto 4, 3) := by decide +kernel
theorem dX10_within_14 : decode cX10_within 14 = .ok (.iconst 0, 1) := by decide +kernel
theorem dX10_within_15 : decode cX10_within 15 = .ok (.ireturn, 1) := by decide +kernel
theorem dX10_begins_0 : decode cX10_begins 0 = .ok (.iconst 0, 1) := by decide +kernel
theorem dX10_begins_1 : decode cX10_begins 1 = .ok (.istore_n 2, 1) := by decide +kernel
theorem dX10_begins_2 : decode cX10_begins 2 = .ok (.iload_n 2, 1) := by decide +kernel
theorem dX10_begins_3 : decode cX10_begins 3 = .ok (.sipush 4504, 3) := by decide +kernel
theorem dX10_begins_6 : decode cX10_begins 6 = .ok (.if_icmp .ge 16, 3) := by decide +kernel
theorem dX10_begins_9 : decode cX10_begins 9 = .ok (.aload_n 0, 1) := by decide +kernel
theorem dX10_begins_10 : decode cX10_begins 10 = .ok (.getfield 13, 3) := by decide +kernel
theorem dX10_begins_13 : decode cX10_begins 13 = .ok (.iload_n 2, 1) := by decide +kernel
theorem dX10_begins_14 : decode cX10_begins 14 = .ok (.iconst 0, 1) := by decide +kernel
theorem dX10_begins_15 : decode cX10_begins 15 = .ok (.iastore, 1) := by decide +kernel
theorem dX10_begins_16 : decode cX10_begins 16 = .ok (.iinc 2 1, 3) := by decide +kernel
theorem dX10_begins_19 : decode cX10_begins 19 = .ok (.goto (-17), 3) := by decide +kernel
theorem dX10_begins_22 : decode cX10_begins 22 = .ok (.aload_n 0, 1) := by decide +kernel
theorem dX10_begins_23 : decode cX10_begins 23 = .ok (.getfield 13, 3) := by decide +kernel
theorem dX10_begins_26 : decode cX10_begins 26 = .ok (.iconst 0, 1) := by decide +kernel
theorem dX10_begins_27 : decode cX10_begins 27 = .ok (.iload_n 1, 1) := by decide +kernel
theorem dX10_begins_28 : decode cX10_begins 28 = .ok (.iastore, 1) := by decide +kernel
theorem dX10_begins_29 : decode cX10_begins 29 = .ok (.aload_n 0, 1) := by decide +kernel
theorem dX10_begins_30 : decode cX10_begins 30 = .ok (.iconst 0, 1) := by decide +kernel
theorem dX10_begins_31 : decode cX10_begins 31 = .ok (.putfield 52, 3) := by decide +kernel
theorem dX10_begins_34 : decode cX10_begins 34 = .ok (.return_, 1) := by decide +kernel
theorem dX10_sites_0 : decode cX10_sites 0 = .ok (.aload_n 0, 1) := by decide +kernel
theorem dX10_sites_1 : decode cX10_sites 1 = .ok (.iconst 0, 1) := by decide +kernel
theorem dX10_sites_2 : decode cX10_sites 2 = .ok (.putfield 1, 3) := by decide +kernel
theorem dX10_sites_5 : decode cX10_sites 5 = .ok (.iload_n 1, 1) := by decide +kernel
theorem dX10_sites_6 : decode cX10_sites 6 = .ok (.iconst 2, 1) := by decide +kernel
theorem dX10_sites_7 : decode cX10_sites 7 = .ok (.iconst 5, 1) := by decide +kernel
theorem dX10_sites_8 : decode cX10_sites 8 = .ok (.invokestatic 55, 3) := by decide +kernel
theorem dX10_sites_11 : decode cX10_sites 11 = .ok (.ifCond .ne 5, 3) := by decide +kernel
theorem dX10_sites_14 : decode cX10_sites 14 = .ok (.iconst 0, 1) := by decide +kernel
theorem dX10_sites_15 : decode cX10_sites 15 = .ok (.ireturn, 1) := by decide +kernel
theorem dX10_sites_16 : decode cX10_sites 16 = .ok (.aload_n 0, 1) := by decide +kernel
theorem dX10_sites_17 : decode cX10_sites 17 = .ok (.iload_n 1, 1) := by decide +kernel
theorem dX10_sites_18 : decode cX10_sites 18 = .ok (.invokevirtual 48, 3) := by decide +kernel
theorem dX10_sites_21 : decode cX10_sites 21 = .ok (.iconst 1, 1) := by decide +kernel
theorem dX10_sites_22 : decode cX10_sites 22 = .ok (.ireturn, 1) := by decide +kernel
theorem dX10_isSite_0 : decode cX10_isSite 0 = .ok (.iload_n 1, 1) := by decide +kernel
theorem dX10_isSite_1 : decode cX10_isSite 1 = .ok (.iconst 0, 1) := by decide +kernel
theorem dX10_isSite_2 : decode cX10_isSite 2 = .ok (.aload_n 0, 1) := by decide +kernel
theorem dX10_isSite_3 : decode cX10_isSite 3 = .ok (.getfield 13, 3) := by decide +kernel
theorem dX10_isSite_6 : decode cX10_isSite 6 = .ok (.iconst 0, 1) := by decide +kernel
theorem dX10_isSite_7 : decode cX10_isSite 7 = .ok (.iaload, 1) := by decide +kernel
theorem dX10_isSite_8 : decode cX10_isSite 8 = .ok (.iconst 1, 1) := by decide +kernel
theorem dX10_isSite_9 : decode cX10_isSite 9 = .ok (.isub, 1) := by decide +kernel
theorem dX10_isSite_10 : decode cX10_isSite 10 = .ok (.invokestatic 55, 3) := by decide +kernel
theorem dX10_isSite_13 : decode cX10_isSite 13 = .ok (.ireturn, 1) := by decide +kernel
theorem dX10_at_0 : decode cX10_at 0 = .ok (.sipush 2008, 3) := by decide +kernel
theorem dX10_at_3 : decode cX10_at 3 = .ok (.sipush 499, 3) := by decide +kernel
theorem dX10_at_6 : decode cX10_at 6 = .ok (.iload_n 1, 1) := by decide +kernel
theorem dX10_at_7 : decode cX10_at 7 = .ok (.imul, 1) := by decide +kernel
theorem dX10_at_8 : decode cX10_at 8 = .ok (.iadd, 1) := by decide +kernel
theorem dX10_at_9 : decode cX10_at 9 = .ok (.iload_n 2, 1) := by decide +kernel
theorem dX10_at_10 : decode cX10_at 10 = .ok (.iadd, 1) := by decide +kernel
theorem dX10_at_11 : decode cX10_at 11 = .ok (.ireturn, 1) := by decide +kernel
theorem dX10_of_0 : decode cX10_of 0 = .ok (.aload_n 0, 1) := by decide +kernel
theorem dX10_of_1 : decode cX10_of 1 = .ok (.getfield 13, 3) := by decide +kernel
theorem dX10_of_4 : decode cX10_of 4 = .ok (.aload_n 0, 1) := by decide +kernel
theorem dX10_of_5 : decode cX10_of 5 = .ok (.iload_n 1, 1) := by decide +kernel
theorem dX10_of_6 : decode cX10_of 6 = .ok (.iload_n 2, 1) := by decide +kernel
theorem dX10_of_7 : decode cX10_of 7 = .ok (.invokevirtual 59, 3) := by decide +kernel
theorem dX10_of_10 : decode cX10_of 10 = .ok (.iaload, 1) := by decide +kernel
theorem dX10_of_11 : decode cX10_of 11 = .ok (.ireturn, 1) := by decide +kernel
theorem dX10_nameOf_0 : decode cX10_nameOf 0 = .ok (.bipush 100, 2) := by decide +kernel
theorem dX10_nameOf_2 : decode cX10_nameOf 2 = .ok (.iload_n 0, 1) := by decide +kernel
theorem dX10_nameOf_3 : decode cX10_nameOf 3 = .ok (.bipush 40, 2) := by decide +kernel
theorem dX10_nameOf_5 : decode cX10_nameOf 5 = .ok (.idiv, 1) := by decide +kernel
theorem dX10_nameOf_6 : decode cX10_nameOf 6 = .ok (.imul, 1) := by decide +kernel
theorem dX10_nameOf_7 : decode cX10_nameOf 7 = .ok (.iload_n 0, 1) := by decide +kernel
theorem dX10_nameOf_8 : decode cX10_nameOf 8 = .ok (.bipush 40, 2) := by decide +kernel
theorem dX10_nameOf_10 : decode cX10_nameOf 10 = .ok (.irem, 1) := by decide +kernel
theorem dX10_nameOf_11 : decode cX10_nameOf 11 = .ok (.iadd, 1) := by decide +kernel
theorem dX10_nameOf_12 : decode cX10_nameOf 12 = .ok (.iconst 1, 1) := by decide +kernel
theorem dX10_nameOf_13 : decode cX10_nameOf 13 = .ok (.iadd, 1) := by decide +kernel
theorem dX10_nameOf_14 : decode cX10_nameOf 14 = .ok (.ireturn, 1) := by decide +kernel
theorem dX10_opOf_0 : decode cX10_opOf 0 = .ok (.iload_n 1, 1) := by decide +kernel
theorem dX10_opOf_1 : decode cX10_opOf 1 = .ok (.bipush 100, 2) := by decide +kernel
theorem dX10_opOf_3 : decode cX10_opOf 3 = .ok (.idiv, 1) := by decide +kernel
theorem dX10_opOf_4 : decode cX10_opOf 4 = .ok (.istore_n 2, 1) := by decide +kernel
theorem dX10_opOf_5 : decode cX10_opOf 5 = .ok (.iload_n 1, 1) := by decide +kernel
theorem dX10_opOf_6 : decode cX10_opOf 6 = .ok (.bipush 100, 2) := by decide +kernel
theorem dX10_opOf_8 : decode cX10_opOf 8 = .ok (.irem, 1) := by decide +kernel
theorem dX10_opOf_9 : decode cX10_opOf 9 = .ok (.istore_n 3, 1) := by decide +kernel
theorem dX10_opOf_10 : decode cX10_opOf 10 = .ok (.iload_n 1, 1) := by decide +kernel
theorem dX10_opOf_11 : decode cX10_opOf 11 = .ok (.ifCond .le 38, 3) := by decide +kernel
theorem dX10_opOf_14 : decode cX10_opOf 14 = .ok (.aload_n 0, 1) := by decide +kernel
theorem dX10_opOf_15 : decode cX10_opOf 15 = .ok (.iload_n 2, 1) := by decide +kernel
theorem dX10_opOf_16 : decode cX10_opOf 16 = .ok (.invokevirtual 63, 3) := by decide +kernel
theorem dX10_opOf_19 : decode cX10_opOf 19 = .ok (.ifCond .eq 30, 3) := by decide +kernel
theorem dX10_opOf_22 : decode cX10_opOf 22 = .ok (.iload_n 3, 1) := by decide +kernel
theorem dX10_opOf_23 : decode cX10_opOf 23 = .ok (.iconst 1, 1) := by decide +kernel
theorem dX10_opOf_24 : decode cX10_opOf 24 = .ok (.aload_n 0, 1) := by decide +kernel
theorem dX10_opOf_25 : decode cX10_opOf 25 = .ok (.getfield 13, 3) := by decide +kernel
theorem dX10_opOf_28 : decode cX10_opOf 28 = .ok (.iconst 2, 1) := by decide +kernel
theorem dX10_opOf_29 : decode cX10_opOf 29 = .ok (.iload_n 2, 1) := by decide +kernel
theorem dX10_opOf_30 : decode cX10_opOf 30 = .ok (.iadd, 1) := by decide +kernel
theorem dX10_opOf_31 : decode cX10_opOf 31 = .ok (.iaload, 1) := by decide +kernel
theorem dX10_opOf_32 : decode cX10_opOf 32 = .ok (.invokestatic 55, 3) := by decide +kernel
theorem dX10_opOf_35 : decode cX10_opOf 35 = .ok (.ifCond .eq 14, 3) := by decide +kernel
theorem dX10_opOf_38 : decode cX10_opOf 38 = .ok (.bipush 40, 2) := by decide +kernel
theorem dX10_opOf_40 : decode cX10_opOf 40 = .ok (.iload_n 2, 1) := by decide +kernel
theorem dX10_opOf_41 : decode cX10_opOf 41 = .ok (.imul, 1) := by decide +kernel
theorem dX10_opOf_42 : decode cX10_opOf 42 = .ok (.iload_n 3, 1) := by decide +kernel
theorem dX10_opOf_43 : decode cX10_opOf 43 = .ok (.iadd, 1) := by decide +kernel
theorem dX10_opOf_44 : decode cX10_opOf 44 = .ok (.iconst 1, 1) := by decide +kernel
theorem dX10_opOf_45 : decode cX10_opOf 45 = .ok (.isub, 1) := by decide +kernel
theorem dX10_opOf_46 : decode cX10_opOf 46 = .ok (.goto 4, 3) := by decide +kernel
theorem dX10_opOf_49 : decode cX10_opOf 49 = .ok (.iconst (-1), 1) := by decide +kernel
theorem dX10_opOf_50 : decode cX10_opOf 50 = .ok (.ireturn, 1) := by decide +kernel
theorem dX10_told_0 : decode cX10_told 0 = .ok (.aload_n 0, 1) := by decide +kernel
theorem dX10_told_1 : decode cX10_told 1 = .ok (.getfield 13, 3) := by decide +kernel
theorem dX10_told_4 : decode cX10_told 4 = .ok (.bipush 8, 2) := by decide +kernel
theorem dX10_told_6 : decode cX10_told 6 = .ok (.bipush 10, 2) := by decide +kernel
theorem dX10_told_8 : decode cX10_told 8 = .ok (.iload_n 1, 1) := by decide +kernel
theorem dX10_told_9 : decode cX10_told 9 = .ok (.imul, 1) := by decide +kernel
theorem dX10_told_10 : decode cX10_told 10 = .ok (.iadd, 1) := by decide +kernel
theorem dX10_told_11 : decode cX10_told 11 = .ok (.iload_n 2, 1) := by decide +kernel
theorem dX10_told_12 : decode cX10_told 12 = .ok (.iadd, 1) := by decide +kernel
theorem dX10_told_13 : decode cX10_told 13 = .ok (.iaload, 1) := by decide +kernel
theorem dX10_told_14 : decode cX10_told 14 = .ok (.ireturn, 1) := by decide +kernel
theorem dX10_siteOf_0 : decode cX10_siteOf 0 = .ok (.iload_n 0, 1) := by decide +kernel
theorem dX10_siteOf_1 : decode cX10_siteOf 1 = .ok (.bipush 40, 2) := by decide +kernel
theorem dX10_siteOf_3 : decode cX10_siteOf 3 = .ok (.idiv, 1) := by decide +kernel
theorem dX10_siteOf_4 : decode cX10_siteOf 4 = .ok (.ireturn, 1) := by decide +kernel
theorem dX10_isMade_0 : decode cX10_isMade 0 = .ok (.iload_n 1, 1) := by decide +kernel
theorem dX10_isMade_1 : decode cX10_isMade 1 = .ok (.bipush 40, 2) := by decide +kernel
theorem dX10_isMade_3 : decode cX10_isMade 3 = .ok (.irem, 1) := by decide +kernel
theorem dX10_isMade_4 : decode cX10_isMade 4 = .ok (.aload_n 0, 1) := by decide +kernel
theorem dX10_isMade_5 : decode cX10_isMade 5 = .ok (.getfield 13, 3) := by decide +kernel
theorem dX10_isMade_8 : decode cX10_isMade 8 = .ok (.iconst 2, 1) := by decide +kernel
theorem dX10_isMade_9 : decode cX10_isMade 9 = .ok (.iload_n 1, 1) := by decide +kernel
theorem dX10_isMade_10 : decode cX10_isMade 10 = .ok (.invokestatic 67, 3) := by decide +kernel
theorem dX10_isMade_13 : decode cX10_isMade 13 = .ok (.iadd, 1) := by decide +kernel
theorem dX10_isMade_14 : decode cX10_isMade 14 = .ok (.iaload, 1) := by decide +kernel
theorem dX10_isMade_15 : decode cX10_isMade 15 = .ok (.if_icmp .ge 7, 3) := by decide +kernel
theorem dX10_isMade_18 : decode cX10_isMade 18 = .ok (.iconst 1, 1) := by decide +kernel
theorem dX10_isMade_19 : decode cX10_isMade 19 = .ok (.goto 4, 3) := by decide +kernel
theorem dX10_isMade_22 : decode cX10_isMade 22 = .ok (.iconst 0, 1) := by decide +kernel
theorem dX10_isMade_23 : decode cX10_isMade 23 = .ok (.ireturn, 1) := by decide +kernel
theorem dX10_isDone_0 : decode cX10_isDone 0 = .ok (.iload_n 1, 1) := by decide +kernel
theorem dX10_isDone_1 : decode cX10_isDone 1 = .ok (.bipush 6, 2) := by decide +kernel
theorem dX10_isDone_3 : decode cX10_isDone 3 = .ok (.if_icmp .ne 13, 3) := by decide +kernel
theorem dX10_isDone_6 : decode cX10_isDone 6 = .ok (.aload_n 0, 1) := by decide +kernel
theorem dX10_isDone_7 : decode cX10_isDone 7 = .ok (.iload_n 2, 1) := by decide +kernel
theorem dX10_isDone_8 : decode cX10_isDone 8 = .ok (.aload_n 0, 1) := by decide +kernel
theorem dX10_isDone_9 : decode cX10_isDone 9 = .ok (.getfield 71, 3) := by decide +kernel
theorem dX10_isDone_12 : decode cX10_isDone 12 = .ok (.invokevirtual 74, 3) := by decide +kernel
theorem dX10_isDone_15 : decode cX10_isDone 15 = .ok (.ireturn, 1) := by decide +kernel
theorem dX10_isDone_16 : decode cX10_isDone 16 = .ok (.iload_n 1, 1) := by decide +kernel
theorem dX10_isDone_17 : decode cX10_isDone 17 = .ok (.iconst 5, 1) := by decide +kernel
theorem dX10_isDone_18 : decode cX10_isDone 18 = .ok (.if_icmp .ne 11, 3) := by decide +kernel
theorem dX10_isDone_21 : decode cX10_isDone 21 = .ok (.aload_n 0, 1) := by decide +kernel
theorem dX10_isDone_22 : decode cX10_isDone 22 = .ok (.iload_n 2, 1) := by decide +kernel
theorem dX10_isDone_23 : decode cX10_isDone 23 = .ok (.invokevirtual 78, 3) := by decide +kernel
theorem dX10_isDone_26 : decode cX10_isDone 26 = .ok (.goto 26, 3) := by decide +kernel
theorem dX10_isDone_29 : decode cX10_isDone 29 = .ok (.iload_n 2, 1) := by decide +kernel
theorem dX10_isDone_30 : decode cX10_isDone 30 = .ok (.bipush 40, 2) := by decide +kernel
theorem dX10_isDone_32 : decode cX10_isDone 32 = .ok (.irem, 1) := by decide +kernel
theorem dX10_isDone_33 : decode cX10_isDone 33 = .ok (.aload_n 0, 1) := by decide +kernel
theorem dX10_isDone_34 : decode cX10_isDone 34 = .ok (.iload_n 1, 1) := by decide +kernel
theorem dX10_isDone_35 : decode cX10_isDone 35 = .ok (.iconst 0, 1) := by decide +kernel
theorem dX10_isDone_36 : decode cX10_isDone 36 = .ok (.iload_n 2, 1) := by decide +kernel
theorem dX10_isDone_37 : decode cX10_isDone 37 = .ok (.invokestatic 67, 3) := by decide +kernel
theorem dX10_isDone_40 : decode cX10_isDone 40 = .ok (.iadd, 1) := by decide +kernel
theorem dX10_isDone_41 : decode cX10_isDone 41 = .ok (.invokevirtual 81, 3) := by decide +kernel
theorem dX10_isDone_44 : decode cX10_isDone 44 = .ok (.if_icmp .ge 7, 3) := by decide +kernel
theorem dX10_isDone_47 : decode cX10_isDone 47 = .ok (.iconst 1, 1) := by decide +kernel
theorem dX10_isDone_48 : decode cX10_isDone 48 = .ok (.goto 4, 3) := by decide +kernel
theorem dX10_isDone_51 : decode cX10_isDone 51 = .ok (.iconst 0, 1) := by decide +kernel
theorem dX10_isDone_52 : decode cX10_isDone 52 = .ok (.ireturn, 1) := by decide +kernel
theorem dX10_isLater_0 : decode cX10_isLater 0 = .ok (.aload_n 0, 1) := by decide +kernel
theorem dX10_isLater_1 : decode cX10_isLater 1 = .ok (.iload_n 1, 1) := by decide +kernel
theorem dX10_isLater_2 : decode cX10_isLater 2 = .ok (.iconst 1, 1) := by decide +kernel
theorem dX10_isLater_3 : decode cX10_isLater 3 = .ok (.invokevirtual 84, 3) := by decide +kernel
theorem dX10_isLater_6 : decode cX10_isLater 6 = .ok (.aload_n 0, 1) := by decide +kernel
theorem dX10_isLater_7 : decode cX10_isLater 7 = .ok (.iload_n 2, 1) := by decide +kernel
theorem dX10_isLater_8 : decode cX10_isLater 8 = .ok (.iconst 1, 1) := by decide +kernel
theorem dX10_isLater_9 : decode cX10_isLater 9 = .ok (.invokevirtual 84, 3) := by decide +kernel
theorem dX10_isLater_12 : decode cX10_isLater 12 = .ok (.if_icmp .eq 26, 3) := by decide +kernel
theorem dX10_isLater_15 : decode cX10_isLater 15 = .ok (.aload_n 0, 1) := by decide +kernel
theorem dX10_isLater_16 : decode cX10_isLater 16 = .ok (.iload_n 1, 1) := by decide +kernel
theorem dX10_isLater_17 : decode cX10_isLater 17 = .ok (.iconst 1, 1) := by decide +kernel
theorem dX10_isLater_18 : decode cX10_isLater 18 = .ok (.invokevirtual 84, 3) := by decide +kernel
theorem dX10_isLater_21 : decode cX10_isLater 21 = .ok (.aload_n 0, 1) := by decide +kernel
theorem dX10_isLater_22 : decode cX10_isLater 22 = .ok (.iload_n 2, 1) := by decide +kernel
theorem dX10_isLater_23 : decode cX10_isLater 23 = .ok (.iconst 1, 1) := by decide +kernel
theorem dX10_isLater_24 : decode cX10_isLater 24 = .ok (.invokevirtual 84, 3) := by decide +kernel
theorem dX10_isLater_27 : decode cX10_isLater 27 = .ok (.if_icmp .le 7, 3) := by decide +kernel
theorem dX10_isLater_30 : decode cX10_isLater 30 = .ok (.iconst 1, 1) := by decide +kernel
theorem dX10_isLater_31 : decode cX10_isLater 31 = .ok (.goto 23, 3) := by decide +kernel
theorem dX10_isLater_34 : decode cX10_isLater 34 = .ok (.iconst 0, 1) := by decide +kernel
theorem dX10_isLater_35 : decode cX10_isLater 35 = .ok (.goto 19, 3) := by decide +kernel
theorem dX10_isLater_38 : decode cX10_isLater 38 = .ok (.iload_n 1, 1) := by decide +kernel
theorem dX10_isLater_39 : decode cX10_isLater 39 = .ok (.invokestatic 67, 3) := by decide +kernel
theorem dX10_isLater_42 : decode cX10_isLater 42 = .ok (.iload_n 2, 1) := by decide +kernel
theorem dX10_isLater_43 : decode cX10_isLater 43 = .ok (.invokestatic 67, 3) := by decide +kernel
theorem dX10_isLater_46 : decode cX10_isLater 46 = .ok (.if_icmp .le 7, 3) := by decide +kernel
theorem dX10_isLater_49 : decode cX10_isLater 49 = .ok (.iconst 1, 1) := by decide +kernel
theorem dX10_isLater_50 : decode cX10_isLater 50 = .ok (.goto 4, 3) := by decide +kernel
theorem dX10_isLater_53 : decode cX10_isLater 53 = .ok (.iconst 0, 1) := by decide +kernel
theorem dX10_isLater_54 : decode cX10_isLater 54 = .ok (.ireturn, 1) := by decide +kernel
theorem dX10_latest_0 : decode cX10_latest 0 = .ok (.iconst (-1), 1) := by decide +kernel
theorem dX10_latest_1 : decode cX10_latest 1 = .ok (.istore 5, 2) := by decide +kernel
theorem dX10_latest_3 : decode cX10_latest 3 = .ok (.iconst 0, 1) := by decide +kernel
theorem dX10_latest_4 : decode cX10_latest 4 = .ok (.istore 6, 2) := by decide +kernel
theorem dX10_latest_6 : decode cX10_latest 6 = .ok (.iload 6, 2) := by decide +kernel
theorem dX10_latest_8 : decode cX10_latest 8 = .ok (.sipush 200, 3) := by decide +kernel
theorem dX10_latest_11 : decode cX10_latest 11 = .ok (.if_icmp .ge 90, 3) := by decide +kernel
theorem dX10_latest_14 : decode cX10_latest 14 = .ok (.aload_n 0, 1) := by decide +kernel
theorem dX10_latest_15 : decode cX10_latest 15 = .ok (.iload_n 1, 1) := by decide +kernel
theorem dX10_latest_16 : decode cX10_latest 16 = .ok (.iload 6, 2) := by decide +kernel
theorem dX10_latest_18 : decode cX10_latest 18 = .ok (.invokevirtual 87, 3) := by decide +kernel
theorem dX10_latest_21 : decode cX10_latest 21 = .ok (.ifCond .eq 41, 3) := by decide +kernel
theorem dX10_latest_24 : decode cX10_latest 24 = .ok (.aload_n 0, 1) := by decide +kernel
theorem dX10_latest_25 : decode cX10_latest 25 = .ok (.iload 6, 2) := by decide +kernel
theorem dX10_latest_27 : decode cX10_latest 27 = .ok (.iconst 2, 1) := by decide +kernel
theorem dX10_latest_28 : decode cX10_latest 28 = .ok (.invokevirtual 84, 3) := by decide +kernel
theorem dX10_latest_31 : decode cX10_latest 31 = .ok (.iload_n 2, 1) := by decide +kernel
theorem dX10_latest_32 : decode cX10_latest 32 = .ok (.if_icmp .ne 30, 3) := by decide +kernel
theorem dX10_latest_35 : decode cX10_latest 35 = .ok (.aload_n 0, 1) := by decide +kernel
theorem dX10_latest_36 : decode cX10_latest 36 = .ok (.iload 6, 2) := by decide +kernel
theorem dX10_latest_38 : decode cX10_latest 38 = .ok (.iconst 0, 1) := by decide +kernel
theorem dX10_latest_39 : decode cX10_latest 39 = .ok (.invokevirtual 84, 3) := by decide +kernel
theorem dX10_latest_42 : decode cX10_latest 42 = .ok (.iload_n 3, 1) := by decide +kernel
theorem dX10_latest_43 : decode cX10_latest 43 = .ok (.if_icmp .eq 15, 3) := by decide +kernel
theorem dX10_latest_46 : decode cX10_latest 46 = .ok (.aload_n 0, 1) := by decide +kernel
theorem dX10_latest_47 : decode cX10_latest 47 = .ok (.iload 6, 2) := by decide +kernel
theorem dX10_latest_49 : decode cX10_latest 49 = .ok (.iconst 0, 1) := by decide +kernel
theorem dX10_latest_50 : decode cX10_latest 50 = .ok (.invokevirtual 84, 3) := by decide +kernel
theorem dX10_latest_53 : decode cX10_latest 53 = .ok (.iload 4, 2) := by decide +kernel
theorem dX10_latest_55 : decode cX10_latest 55 = .ok (.if_icmp .ne 7, 3) := by decide +kernel
theorem dX10_latest_58 : decode cX10_latest 58 = .ok (.iconst 1, 1) := by decide +kernel
theorem dX10_latest_59 : decode cX10_latest 59 = .ok (.goto 4, 3) := by decide +kernel
theorem dX10_latest_62 : decode cX10_latest 62 = .ok (.iconst 0, 1) := by decide +kernel
theorem dX10_latest_63 : decode cX10_latest 63 = .ok (.istore 7, 2) := by decide +kernel
theorem dX10_latest_65 : decode cX10_latest 65 = .ok (.iload 7, 2) := by decide +kernel
theorem dX10_latest_67 : decode cX10_latest 67 = .ok (.ifCond .eq 24, 3) := by decide +kernel
theorem dX10_latest_70 : decode cX10_latest 70 = .ok (.iload 5, 2) := by decide +kernel
theorem dX10_latest_72 : decode cX10_latest 72 = .ok (.ifCond .lt 14, 3) := by decide +kernel
theorem dX10_latest_75 : decode cX10_latest 75 = .ok (.aload_n 0, 1) := by decide +kernel
theorem dX10_latest_76 : decode cX10_latest 76 = .ok (.iload 6, 2) := by decide +kernel
theorem dX10_latest_78 : decode cX10_latest 78 = .ok (.iload 5, 2) := by decide +kernel
theorem dX10_latest_80 : decode cX10_latest 80 = .ok (.invokevirtual 90, 3) := by decide +kernel
theorem dX10_latest_83 : decode cX10_latest 83 = .ok (.ifCond .eq 8, 3) := by decide +kernel
theorem dX10_latest_86 : decode cX10_latest 86 = .ok (.iload 6, 2) := by decide +kernel
theorem dX10_latest_88 : decode cX10_latest 88 = .ok (.goto 5, 3) := by decide +kernel
theorem dX10_latest_91 : decode cX10_latest 91 = .ok (.iload 5, 2) := by decide +kernel
theorem dX10_latest_93 : decode cX10_latest 93 = .ok (.istore 5, 2) := by decide +kernel
theorem dX10_latest_95 : decode cX10_latest 95 = .ok (.iinc 6 1, 3) := by decide +kernel
theorem dX10_latest_98 : decode cX10_latest 98 = .ok (.goto (-92), 3) := by decide +kernel
theorem dX10_latest_101 : decode cX10_latest 101 = .ok (.iload 5, 2) := by decide +kernel
theorem dX10_latest_103 : decode cX10_latest 103 = .ok (.ireturn, 1) := by decide +kernel
