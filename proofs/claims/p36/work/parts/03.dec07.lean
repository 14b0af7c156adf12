theorem dX10_elements_0 : decode cX10_elements 0 = .ok (.iconst 0, 1) := by decide +kernel
theorem dX10_elements_1 : decode cX10_elements 1 = .ok (.istore_n 3, 1) := by decide +kernel
theorem dX10_elements_2 : decode cX10_elements 2 = .ok (.iconst 0, 1) := by decide +kernel
theorem dX10_elements_3 : decode cX10_elements 3 = .ok (.istore 4, 2) := by decide +kernel
theorem dX10_elements_5 : decode cX10_elements 5 = .ok (.iload 4, 2) := by decide +kernel
theorem dX10_elements_7 : decode cX10_elements 7 = .ok (.sipush 200, 3) := by decide +kernel
theorem dX10_elements_10 : decode cX10_elements 10 = .ok (.if_icmp .ge 79, 3) := by decide +kernel
theorem dX10_elements_13 : decode cX10_elements 13 = .ok (.aload_n 0, 1) := by decide +kernel
theorem dX10_elements_14 : decode cX10_elements 14 = .ok (.iload_n 1, 1) := by decide +kernel
theorem dX10_elements_15 : decode cX10_elements 15 = .ok (.iload 4, 2) := by decide +kernel
theorem dX10_elements_17 : decode cX10_elements 17 = .ok (.invokevirtual 87, 3) := by decide +kernel
theorem dX10_elements_20 : decode cX10_elements 20 = .ok (.ifCond .eq 30, 3) := by decide +kernel
theorem dX10_elements_23 : decode cX10_elements 23 = .ok (.aload_n 0, 1) := by decide +kernel
theorem dX10_elements_24 : decode cX10_elements 24 = .ok (.iload 4, 2) := by decide +kernel
theorem dX10_elements_26 : decode cX10_elements 26 = .ok (.iconst 0, 1) := by decide +kernel
theorem dX10_elements_27 : decode cX10_elements 27 = .ok (.invokevirtual 84, 3) := by decide +kernel
theorem dX10_elements_30 : decode cX10_elements 30 = .ok (.ifCond .ne 20, 3) := by decide +kernel
theorem dX10_elements_33 : decode cX10_elements 33 = .ok (.aload_n 0, 1) := by decide +kernel
theorem dX10_elements_34 : decode cX10_elements 34 = .ok (.iload_n 1, 1) := by decide +kernel
theorem dX10_elements_35 : decode cX10_elements 35 = .ok (.iload 4, 2) := by decide +kernel
theorem dX10_elements_37 : decode cX10_elements 37 = .ok (.invokestatic 128, 3) := by decide +kernel
theorem dX10_elements_40 : decode cX10_elements 40 = .ok (.invokevirtual 204, 3) := by decide +kernel
theorem dX10_elements_43 : decode cX10_elements 43 = .ok (.ifCond .ne 7, 3) := by decide +kernel
theorem dX10_elements_46 : decode cX10_elements 46 = .ok (.iconst 1, 1) := by decide +kernel
theorem dX10_elements_47 : decode cX10_elements 47 = .ok (.goto 4, 3) := by decide +kernel
theorem dX10_elements_50 : decode cX10_elements 50 = .ok (.iconst 0, 1) := by decide +kernel
theorem dX10_elements_51 : decode cX10_elements 51 = .ok (.istore 5, 2) := by decide +kernel
theorem dX10_elements_53 : decode cX10_elements 53 = .ok (.iload_n 3, 1) := by decide +kernel
theorem dX10_elements_54 : decode cX10_elements 54 = .ok (.iload 5, 2) := by decide +kernel
theorem dX10_elements_56 : decode cX10_elements 56 = .ok (.ifCond .eq 24, 3) := by decide +kernel
theorem dX10_elements_59 : decode cX10_elements 59 = .ok (.iload_n 2, 1) := by decide +kernel
theorem dX10_elements_60 : decode cX10_elements 60 = .ok (.ifCond .eq 16, 3) := by decide +kernel
theorem dX10_elements_63 : decode cX10_elements 63 = .ok (.aload_n 0, 1) := by decide +kernel
theorem dX10_elements_64 : decode cX10_elements 64 = .ok (.iload_n 1, 1) := by decide +kernel
theorem dX10_elements_65 : decode cX10_elements 65 = .ok (.iload 4, 2) := by decide +kernel
theorem dX10_elements_67 : decode cX10_elements 67 = .ok (.invokestatic 128, 3) := by decide +kernel
theorem dX10_elements_70 : decode cX10_elements 70 = .ok (.invokevirtual 125, 3) := by decide +kernel
theorem dX10_elements_73 : decode cX10_elements 73 = .ok (.ifCond .eq 7, 3) := by decide +kernel
theorem dX10_elements_76 : decode cX10_elements 76 = .ok (.iconst 1, 1) := by decide +kernel
theorem dX10_elements_77 : decode cX10_elements 77 = .ok (.goto 4, 3) := by decide +kernel
theorem dX10_elements_80 : decode cX10_elements 80 = .ok (.iconst 0, 1) := by decide +kernel
theorem dX10_elements_81 : decode cX10_elements 81 = .ok (.iadd, 1) := by decide +kernel
theorem dX10_elements_82 : decode cX10_elements 82 = .ok (.istore_n 3, 1) := by decide +kernel
theorem dX10_elements_83 : decode cX10_elements 83 = .ok (.iinc 4 1, 3) := by decide +kernel
theorem dX10_elements_86 : decode cX10_elements 86 = .ok (.goto (-81), 3) := by decide +kernel
theorem dX10_elements_89 : decode cX10_elements 89 = .ok (.iload_n 3, 1) := by decide +kernel
theorem dX10_elements_90 : decode cX10_elements 90 = .ok (.ireturn, 1) := by decide +kernel
theorem dX10_idle_0 : decode cX10_idle 0 = .ok (.iconst 0, 1) := by decide +kernel
theorem dX10_idle_1 : decode cX10_idle 1 = .ok (.istore_n 2, 1) := by decide +kernel
theorem dX10_idle_2 : decode cX10_idle 2 = .ok (.iconst 0, 1) := by decide +kernel
theorem dX10_idle_3 : decode cX10_idle 3 = .ok (.istore_n 3, 1) := by decide +kernel
theorem dX10_idle_4 : decode cX10_idle 4 = .ok (.iload_n 3, 1) := by decide +kernel
theorem dX10_idle_5 : decode cX10_idle 5 = .ok (.sipush 200, 3) := by decide +kernel
theorem dX10_idle_8 : decode cX10_idle 8 = .ok (.if_icmp .ge 77, 3) := by decide +kernel
theorem dX10_idle_11 : decode cX10_idle 11 = .ok (.aload_n 0, 1) := by decide +kernel
theorem dX10_idle_12 : decode cX10_idle 12 = .ok (.iload_n 1, 1) := by decide +kernel
theorem dX10_idle_13 : decode cX10_idle 13 = .ok (.iload_n 3, 1) := by decide +kernel
theorem dX10_idle_14 : decode cX10_idle 14 = .ok (.invokevirtual 87, 3) := by decide +kernel
theorem dX10_idle_17 : decode cX10_idle 17 = .ok (.ifCond .eq 17, 3) := by decide +kernel
theorem dX10_idle_20 : decode cX10_idle 20 = .ok (.aload_n 0, 1) := by decide +kernel
theorem dX10_idle_21 : decode cX10_idle 21 = .ok (.iload_n 3, 1) := by decide +kernel
theorem dX10_idle_22 : decode cX10_idle 22 = .ok (.iconst 0, 1) := by decide +kernel
theorem dX10_idle_23 : decode cX10_idle 23 = .ok (.invokevirtual 84, 3) := by decide +kernel
theorem dX10_idle_26 : decode cX10_idle 26 = .ok (.iconst 1, 1) := by decide +kernel
theorem dX10_idle_27 : decode cX10_idle 27 = .ok (.if_icmp .ne 7, 3) := by decide +kernel
theorem dX10_idle_30 : decode cX10_idle 30 = .ok (.iconst 1, 1) := by decide +kernel
theorem dX10_idle_31 : decode cX10_idle 31 = .ok (.goto 4, 3) := by decide +kernel
theorem dX10_idle_34 : decode cX10_idle 34 = .ok (.iconst 0, 1) := by decide +kernel
theorem dX10_idle_35 : decode cX10_idle 35 = .ok (.istore 4, 2) := by decide +kernel
theorem dX10_idle_37 : decode cX10_idle 37 = .ok (.iload_n 2, 1) := by decide +kernel
theorem dX10_idle_38 : decode cX10_idle 38 = .ok (.iload 4, 2) := by decide +kernel
theorem dX10_idle_40 : decode cX10_idle 40 = .ok (.ifCond .eq 36, 3) := by decide +kernel
theorem dX10_idle_43 : decode cX10_idle 43 = .ok (.aload_n 0, 1) := by decide +kernel
theorem dX10_idle_44 : decode cX10_idle 44 = .ok (.iload_n 1, 1) := by decide +kernel
theorem dX10_idle_45 : decode cX10_idle 45 = .ok (.aload_n 0, 1) := by decide +kernel
theorem dX10_idle_46 : decode cX10_idle 46 = .ok (.iload_n 3, 1) := by decide +kernel
theorem dX10_idle_47 : decode cX10_idle 47 = .ok (.iconst 2, 1) := by decide +kernel
theorem dX10_idle_48 : decode cX10_idle 48 = .ok (.invokevirtual 84, 3) := by decide +kernel
theorem dX10_idle_51 : decode cX10_idle 51 = .ok (.invokevirtual 122, 3) := by decide +kernel
theorem dX10_idle_54 : decode cX10_idle 54 = .ok (.iload_n 3, 1) := by decide +kernel
theorem dX10_idle_55 : decode cX10_idle 55 = .ok (.if_icmp .eq 21, 3) := by decide +kernel
theorem dX10_idle_58 : decode cX10_idle 58 = .ok (.aload_n 0, 1) := by decide +kernel
theorem dX10_idle_59 : decode cX10_idle 59 = .ok (.iload_n 1, 1) := by decide +kernel
theorem dX10_idle_60 : decode cX10_idle 60 = .ok (.aload_n 0, 1) := by decide +kernel
theorem dX10_idle_61 : decode cX10_idle 61 = .ok (.iload_n 3, 1) := by decide +kernel
theorem dX10_idle_62 : decode cX10_idle 62 = .ok (.iconst 2, 1) := by decide +kernel
theorem dX10_idle_63 : decode cX10_idle 63 = .ok (.invokevirtual 84, 3) := by decide +kernel
theorem dX10_idle_66 : decode cX10_idle 66 = .ok (.invokevirtual 204, 3) := by decide +kernel
theorem dX10_idle_69 : decode cX10_idle 69 = .ok (.ifCond .ne 7, 3) := by decide +kernel
theorem dX10_idle_72 : decode cX10_idle 72 = .ok (.iconst 1, 1) := by decide +kernel
theorem dX10_idle_73 : decode cX10_idle 73 = .ok (.goto 4, 3) := by decide +kernel
theorem dX10_idle_76 : decode cX10_idle 76 = .ok (.iconst 0, 1) := by decide +kernel
theorem dX10_idle_77 : decode cX10_idle 77 = .ok (.iadd, 1) := by decide +kernel
theorem dX10_idle_78 : decode cX10_idle 78 = .ok (.istore_n 2, 1) := by decide +kernel
theorem dX10_idle_79 : decode cX10_idle 79 = .ok (.iinc 3 1, 3) := by decide +kernel
theorem dX10_idle_82 : decode cX10_idle 82 = .ok (.goto (-78), 3) := by decide +kernel
theorem dX10_idle_85 : decode cX10_idle 85 = .ok (.iload_n 2, 1) := by decide +kernel
theorem dX10_idle_86 : decode cX10_idle 86 = .ok (.ireturn, 1) := by decide +kernel
theorem dX10_deepest_0 : decode cX10_deepest 0 = .ok (.iconst 0, 1) := by decide +kernel
theorem dX10_deepest_1 : decode cX10_deepest 1 = .ok (.istore_n 1, 1) := by decide +kernel
theorem dX10_deepest_2 : decode cX10_deepest 2 = .ok (.iconst 0, 1) := by decide +kernel
theorem dX10_deepest_3 : decode cX10_deepest 3 = .ok (.istore_n 2, 1) := by decide +kernel
theorem dX10_deepest_4 : decode cX10_deepest 4 = .ok (.iload_n 2, 1) := by decide +kernel
theorem dX10_deepest_5 : decode cX10_deepest 5 = .ok (.aload_n 0, 1) := by decide +kernel
theorem dX10_deepest_6 : decode cX10_deepest 6 = .ok (.getfield 109, 3) := by decide +kernel
theorem dX10_deepest_9 : decode cX10_deepest 9 = .ok (.if_icmp .ge 30, 3) := by decide +kernel
theorem dX10_deepest_12 : decode cX10_deepest 12 = .ok (.aload_n 0, 1) := by decide +kernel
theorem dX10_deepest_13 : decode cX10_deepest 13 = .ok (.getfield 23, 3) := by decide +kernel
theorem dX10_deepest_16 : decode cX10_deepest 16 = .ok (.iload_n 2, 1) := by decide +kernel
theorem dX10_deepest_17 : decode cX10_deepest 17 = .ok (.iaload, 1) := by decide +kernel
theorem dX10_deepest_18 : decode cX10_deepest 18 = .ok (.iload_n 1, 1) := by decide +kernel
theorem dX10_deepest_19 : decode cX10_deepest 19 = .ok (.if_icmp .le 12, 3) := by decide +kernel
theorem dX10_deepest_22 : decode cX10_deepest 22 = .ok (.aload_n 0, 1) := by decide +kernel
theorem dX10_deepest_23 : decode cX10_deepest 23 = .ok (.getfield 23, 3) := by decide +kernel
theorem dX10_deepest_26 : decode cX10_deepest 26 = .ok (.iload_n 2, 1) := by decide +kernel
theorem dX10_deepest_27 : decode cX10_deepest 27 = .ok (.iaload, 1) := by decide +kernel
theorem dX10_deepest_28 : decode cX10_deepest 28 = .ok (.goto 4, 3) := by decide +kernel
theorem dX10_deepest_31 : decode cX10_deepest 31 = .ok (.iload_n 1, 1) := by decide +kernel
theorem dX10_deepest_32 : decode cX10_deepest 32 = .ok (.istore_n 1, 1) := by decide +kernel
theorem dX10_deepest_33 : decode cX10_deepest 33 = .ok (.iinc 2 1, 3) := by decide +kernel
theorem dX10_deepest_36 : decode cX10_deepest 36 = .ok (.goto (-32), 3) := by decide +kernel
theorem dX10_deepest_39 : decode cX10_deepest 39 = .ok (.iload_n 1, 1) := by decide +kernel
theorem dX10_deepest_40 : decode cX10_deepest 40 = .ok (.ireturn, 1) := by decide +kernel
theorem dX10_count_0 : decode cX10_count 0 = .ok (.aload_n 0, 1) := by decide +kernel
theorem dX10_count_1 : decode cX10_count 1 = .ok (.iconst 0, 1) := by decide +kernel
theorem dX10_count_2 : decode cX10_count 2 = .ok (.putfield 1, 3) := by decide +kernel
theorem dX10_count_5 : decode cX10_count 5 = .ok (.aload_n 0, 1) := by decide +kernel
theorem dX10_count_6 : decode cX10_count 6 = .ok (.iload_n 1, 1) := by decide +kernel
theorem dX10_count_7 : decode cX10_count 7 = .ok (.invokevirtual 63, 3) := by decide +kernel
theorem dX10_count_10 : decode cX10_count 10 = .ok (.ifCond .ne 5, 3) := by decide +kernel
theorem dX10_count_13 : decode cX10_count 13 = .ok (.iconst (-1), 1) := by decide +kernel
theorem dX10_count_14 : decode cX10_count 14 = .ok (.ireturn, 1) := by decide +kernel
theorem dX10_count_15 : decode cX10_count 15 = .ok (.aload_n 0, 1) := by decide +kernel
theorem dX10_count_16 : decode cX10_count 16 = .ok (.iload_n 1, 1) := by decide +kernel
theorem dX10_count_17 : decode cX10_count 17 = .ok (.invokevirtual 116, 3) := by decide +kernel
theorem dX10_count_20 : decode cX10_count 20 = .ok (.iload_n 2, 1) := by decide +kernel
theorem dX10_count_21 : decode cX10_count 21 = .ok (.tableswitch 102 0 7 #[47, 54, 61, 68, 74, 82, 91, 97], 47) := by decide +kernel
theorem dX10_count_68 : decode cX10_count 68 = .ok (.aload_n 0, 1) := by decide +kernel
theorem dX10_count_69 : decode cX10_count 69 = .ok (.getfield 109, 3) := by decide +kernel
theorem dX10_count_72 : decode cX10_count 72 = .ok (.iconst 1, 1) := by decide +kernel
theorem dX10_count_73 : decode cX10_count 73 = .ok (.iadd, 1) := by decide +kernel
theorem dX10_count_74 : decode cX10_count 74 = .ok (.ireturn, 1) := by decide +kernel
theorem dX10_count_75 : decode cX10_count 75 = .ok (.aload_n 0, 1) := by decide +kernel
theorem dX10_count_76 : decode cX10_count 76 = .ok (.iload_n 1, 1) := by decide +kernel
theorem dX10_count_77 : decode cX10_count 77 = .ok (.iconst 0, 1) := by decide +kernel
theorem dX10_count_78 : decode cX10_count 78 = .ok (.invokevirtual 207, 3) := by decide +kernel
theorem dX10_count_81 : decode cX10_count 81 = .ok (.ireturn, 1) := by decide +kernel
theorem dX10_count_82 : decode cX10_count 82 = .ok (.aload_n 0, 1) := by decide +kernel
theorem dX10_count_83 : decode cX10_count 83 = .ok (.iload_n 1, 1) := by decide +kernel
theorem dX10_count_84 : decode cX10_count 84 = .ok (.iconst 1, 1) := by decide +kernel
theorem dX10_count_85 : decode cX10_count 85 = .ok (.invokevirtual 207, 3) := by decide +kernel
theorem dX10_count_88 : decode cX10_count 88 = .ok (.ireturn, 1) := by decide +kernel
theorem dX10_count_89 : decode cX10_count 89 = .ok (.aload_n 0, 1) := by decide +kernel
theorem dX10_count_90 : decode cX10_count 90 = .ok (.iload_n 1, 1) := by decide +kernel
theorem dX10_count_91 : decode cX10_count 91 = .ok (.invokevirtual 211, 3) := by decide +kernel
theorem dX10_count_94 : decode cX10_count 94 = .ok (.ireturn, 1) := by decide +kernel
theorem dX10_count_95 : decode cX10_count 95 = .ok (.aload_n 0, 1) := by decide +kernel
theorem dX10_count_96 : decode cX10_count 96 = .ok (.iload_n 1, 1) := by decide +kernel
theorem dX10_count_97 : decode cX10_count 97 = .ok (.bipush 6, 2) := by decide +kernel
theorem dX10_count_99 : decode cX10_count 99 = .ok (.invokevirtual 81, 3) := by decide +kernel
theorem dX10_count_102 : decode cX10_count 102 = .ok (.ireturn, 1) := by decide +kernel
theorem dX10_count_103 : decode cX10_count 103 = .ok (.aload_n 0, 1) := by decide +kernel
theorem dX10_count_104 : decode cX10_count 104 = .ok (.getfield 13, 3) := by decide +kernel
theorem dX10_count_107 : decode cX10_count 107 = .ok (.iconst 2, 1) := by decide +kernel
theorem dX10_count_108 : decode cX10_count 108 = .ok (.iload_n 1, 1) := by decide +kernel
theorem dX10_count_109 : decode cX10_count 109 = .ok (.iadd, 1) := by decide +kernel
theorem dX10_count_110 : decode cX10_count 110 = .ok (.iaload, 1) := by decide +kernel
theorem dX10_count_111 : decode cX10_count 111 = .ok (.ireturn, 1) := by decide +kernel
theorem dX10_count_112 : decode cX10_count 112 = .ok (.aload_n 0, 1) := by decide +kernel
theorem dX10_count_113 : decode cX10_count 113 = .ok (.iload_n 1, 1) := by decide +kernel
theorem dX10_count_114 : decode cX10_count 114 = .ok (.invokevirtual 214, 3) := by decide +kernel
theorem dX10_count_117 : decode cX10_count 117 = .ok (.ireturn, 1) := by decide +kernel
theorem dX10_count_118 : decode cX10_count 118 = .ok (.aload_n 0, 1) := by decide +kernel
theorem dX10_count_119 : decode cX10_count 119 = .ok (.invokevirtual 217, 3) := by decide +kernel
theorem dX10_count_122 : decode cX10_count 122 = .ok (.ireturn, 1) := by decide +kernel
theorem dX10_count_123 : decode cX10_count 123 = .ok (.iconst (-1), 1) := by decide +kernel
theorem dX10_count_124 : decode cX10_count 124 = .ok (.ireturn, 1) := by decide +kernel
theorem dX10_place_0 : decode cX10_place 0 = .ok (.aload_n 0, 1) := by decide +kernel
theorem dX10_place_1 : decode cX10_place 1 = .ok (.iconst 0, 1) := by decide +kernel
theorem dX10_place_2 : decode cX10_place 2 = .ok (.putfield 1, 3) := by decide +kernel
theorem dX10_place_5 : decode cX10_place 5 = .ok (.aload_n 0, 1) := by decide +kernel
theorem dX10_place_6 : decode cX10_place 6 = .ok (.iload_n 1, 1) := by decide +kernel
theorem dX10_place_7 : decode cX10_place 7 = .ok (.invokevirtual 63, 3) := by decide +kernel
theorem dX10_place_10 : decode cX10_place 10 = .ok (.ifCond .ne 5, 3) := by decide +kernel
theorem dX10_place_13 : decode cX10_place 13 = .ok (.iconst (-1), 1) := by decide +kernel
theorem dX10_place_14 : decode cX10_place 14 = .ok (.ireturn, 1) := by decide +kernel
theorem dX10_place_15 : decode cX10_place 15 = .ok (.aload_n 0, 1) := by decide +kernel
theorem dX10_place_16 : decode cX10_place 16 = .ok (.iload_n 1, 1) := by decide +kernel
theorem dX10_place_17 : decode cX10_place 17 = .ok (.invokevirtual 116, 3) := by decide +kernel
theorem dX10_place_20 : decode cX10_place 20 = .ok (.iload_n 2, 1) := by decide +kernel
theorem dX10_place_21 : decode cX10_place 21 = .ok (.ifCond .ne 7, 3) := by decide +kernel
theorem dX10_place_24 : decode cX10_place 24 = .ok (.iconst 0, 1) := by decide +kernel
theorem dX10_place_25 : decode cX10_place 25 = .ok (.goto 30, 3) := by decide +kernel
theorem dX10_place_28 : decode cX10_place 28 = .ok (.iload_n 2, 1) := by decide +kernel
theorem dX10_place_29 : decode cX10_place 29 = .ok (.iconst 1, 1) := by decide +kernel
theorem dX10_place_30 : decode cX10_place 30 = .ok (.aload_n 0, 1) := by decide +kernel
theorem dX10_place_31 : decode cX10_place 31 = .ok (.getfield 109, 3) := by decide +kernel
theorem dX10_place_34 : decode cX10_place 34 = .ok (.invokestatic 55, 3) := by decide +kernel
theorem dX10_place_37 : decode cX10_place 37 = .ok (.ifCond .eq 17, 3) := by decide +kernel
theorem dX10_place_40 : decode cX10_place 40 = .ok (.aload_n 0, 1) := by decide +kernel
theorem dX10_place_41 : decode cX10_place 41 = .ok (.getfield 20, 3) := by decide +kernel
theorem dX10_place_44 : decode cX10_place 44 = .ok (.iload_n 2, 1) := by decide +kernel
theorem dX10_place_45 : decode cX10_place 45 = .ok (.iconst 1, 1) := by decide +kernel
theorem dX10_place_46 : decode cX10_place 46 = .ok (.isub, 1) := by decide +kernel
theorem dX10_place_47 : decode cX10_place 47 = .ok (.iaload, 1) := by decide +kernel
theorem dX10_place_48 : decode cX10_place 48 = .ok (.invokestatic 128, 3) := by decide +kernel
theorem dX10_place_51 : decode cX10_place 51 = .ok (.goto 4, 3) := by decide +kernel
theorem dX10_place_54 : decode cX10_place 54 = .ok (.iconst (-1), 1) := by decide +kernel
theorem dX10_place_55 : decode cX10_place 55 = .ok (.ireturn, 1) := by decide +kernel
theorem dX10_laysNames_0 : decode cX10_laysNames 0 = .ok (.aload_n 0, 1) := by decide +kernel
theorem dX10_laysNames_1 : decode cX10_laysNames 1 = .ok (.iload_n 1, 1) := by decide +kernel
theorem dX10_laysNames_2 : decode cX10_laysNames 2 = .ok (.invokevirtual 138, 3) := by decide +kernel
theorem dX10_laysNames_5 : decode cX10_laysNames 5 = .ok (.aload_n 0, 1) := by decide +kernel
theorem dX10_laysNames_6 : decode cX10_laysNames 6 = .ok (.aload_n 0, 1) := by decide +kernel
theorem dX10_laysNames_7 : decode cX10_laysNames 7 = .ok (.getfield 119, 3) := by decide +kernel
theorem dX10_laysNames_10 : decode cX10_laysNames 10 = .ok (.putfield 221, 3) := by decide +kernel
theorem dX10_laysNames_13 : decode cX10_laysNames 13 = .ok (.iconst 0, 1) := by decide +kernel
theorem dX10_laysNames_14 : decode cX10_laysNames 14 = .ok (.istore_n 2, 1) := by decide +kernel
theorem dX10_laysNames_15 : decode cX10_laysNames 15 = .ok (.iload_n 2, 1) := by decide +kernel
theorem dX10_laysNames_16 : decode cX10_laysNames 16 = .ok (.aload_n 0, 1) := by decide +kernel
theorem dX10_laysNames_17 : decode cX10_laysNames 17 = .ok (.getfield 119, 3) := by decide +kernel
theorem dX10_laysNames_20 : decode cX10_laysNames 20 = .ok (.if_icmp .ge 36, 3) := by decide +kernel
theorem dX10_laysNames_23 : decode cX10_laysNames 23 = .ok (.aload_n 0, 1) := by decide +kernel
theorem dX10_laysNames_24 : decode cX10_laysNames 24 = .ok (.getfield 32, 3) := by decide +kernel
theorem dX10_laysNames_27 : decode cX10_laysNames 27 = .ok (.iload_n 2, 1) := by decide +kernel
theorem dX10_laysNames_28 : decode cX10_laysNames 28 = .ok (.aload_n 0, 1) := by decide +kernel
theorem dX10_laysNames_29 : decode cX10_laysNames 29 = .ok (.iload_n 2, 1) := by decide +kernel
theorem dX10_laysNames_30 : decode cX10_laysNames 30 = .ok (.invokevirtual 148, 3) := by decide +kernel
theorem dX10_laysNames_33 : decode cX10_laysNames 33 = .ok (.iastore, 1) := by decide +kernel
theorem dX10_laysNames_34 : decode cX10_laysNames 34 = .ok (.aload_n 0, 1) := by decide +kernel
theorem dX10_laysNames_35 : decode cX10_laysNames 35 = .ok (.getfield 35, 3) := by decide +kernel
theorem dX10_laysNames_38 : decode cX10_laysNames 38 = .ok (.iload_n 2, 1) := by decide +kernel
theorem dX10_laysNames_39 : decode cX10_laysNames 39 = .ok (.aload_n 0, 1) := by decide +kernel
theorem dX10_laysNames_40 : decode cX10_laysNames 40 = .ok (.iload_n 1, 1) := by decide +kernel
theorem dX10_laysNames_41 : decode cX10_laysNames 41 = .ok (.aload_n 0, 1) := by decide +kernel
theorem dX10_laysNames_42 : decode cX10_laysNames 42 = .ok (.iload_n 2, 1) := by decide +kernel
theorem dX10_laysNames_43 : decode cX10_laysNames 43 = .ok (.invokevirtual 148, 3) := by decide +kernel
theorem dX10_laysNames_46 : decode cX10_laysNames 46 = .ok (.invokevirtual 198, 3) := by decide +kernel
theorem dX10_laysNames_49 : decode cX10_laysNames 49 = .ok (.iastore, 1) := by decide +kernel
theorem dX10_laysNames_50 : decode cX10_laysNames 50 = .ok (.iinc 2 1, 3) := by decide +kernel
theorem dX10_laysNames_53 : decode cX10_laysNames 53 = .ok (.goto (-38), 3) := by decide +kernel
theorem dX10_laysNames_56 : decode cX10_laysNames 56 = .ok (.return_, 1) := by decide +kernel
theorem dX10_unlike_0 : decode cX10_unlike 0 = .ok (.aload_n 0, 1) := by decide +kernel
theorem dX10_unlike_1 : decode cX10_unlike 1 = .ok (.iconst 0, 1) := by decide +kernel
theorem dX10_unlike_2 : decode cX10_unlike 2 = .ok (.putfield 1, 3) := by decide +kernel
theorem dX10_unlike_5 : decode cX10_unlike 5 = .ok (.aload_n 0, 1) := by decide +kernel
theorem dX10_unlike_6 : decode cX10_unlike 6 = .ok (.iload_n 1, 1) := by decide +kernel
theorem dX10_unlike_7 : decode cX10_unlike 7 = .ok (.invokevirtual 63, 3) := by decide +kernel
theorem dX10_unlike_10 : decode cX10_unlike 10 = .ok (.ifCond .eq 11, 3) := by decide +kernel
theorem dX10_unlike_13 : decode cX10_unlike 13 = .ok (.aload_n 0, 1) := by decide +kernel
theorem dX10_unlike_14 : decode cX10_unlike 14 = .ok (.iload_n 2, 1) := by decide +kernel
theorem dX10_unlike_15 : decode cX10_unlike 15 = .ok (.invokevirtual 63, 3) := by decide +kernel
theorem dX10_unlike_18 : decode cX10_unlike 18 = .ok (.ifCond .ne 5, 3) := by decide +kernel
theorem dX10_unlike_21 : decode cX10_unlike 21 = .ok (.iconst (-1), 1) := by decide +kernel
theorem dX10_unlike_22 : decode cX10_unlike 22 = .ok (.ireturn, 1) := by decide +kernel
theorem dX10_unlike_23 : decode cX10_unlike 23 = .ok (.aload_n 0, 1) := by decide +kernel
theorem dX10_unlike_24 : decode cX10_unlike 24 = .ok (.iload_n 1, 1) := by decide +kernel
theorem dX10_unlike_25 : decode cX10_unlike 25 = .ok (.invokevirtual 224, 3) := by decide +kernel
theorem dX10_unlike_28 : decode cX10_unlike 28 = .ok (.aload_n 0, 1) := by decide +kernel
theorem dX10_unlike_29 : decode cX10_unlike 29 = .ok (.iload_n 2, 1) := by decide +kernel
theorem dX10_unlike_30 : decode cX10_unlike 30 = .ok (.invokevirtual 138, 3) := by decide +kernel
theorem dX10_unlike_33 : decode cX10_unlike 33 = .ok (.iconst 0, 1) := by decide +kernel
theorem dX10_unlike_34 : decode cX10_unlike 34 = .ok (.istore_n 3, 1) := by decide +kernel
theorem dX10_unlike_35 : decode cX10_unlike 35 = .ok (.aload_n 0, 1) := by decide +kernel
theorem dX10_unlike_36 : decode cX10_unlike 36 = .ok (.getfield 221, 3) := by decide +kernel
theorem dX10_unlike_39 : decode cX10_unlike 39 = .ok (.aload_n 0, 1) := by decide +kernel
theorem dX10_unlike_40 : decode cX10_unlike 40 = .ok (.getfield 119, 3) := by decide +kernel
theorem dX10_unlike_43 : decode cX10_unlike 43 = .ok (.if_icmp .le 10, 3) := by decide +kernel
theorem dX10_unlike_46 : decode cX10_unlike 46 = .ok (.aload_n 0, 1) := by decide +kernel
theorem dX10_unlike_47 : decode cX10_unlike 47 = .ok (.getfield 221, 3) := by decide +kernel
theorem dX10_unlike_50 : decode cX10_unlike 50 = .ok (.goto 7, 3) := by decide +kernel
theorem dX10_unlike_53 : decode cX10_unlike 53 = .ok (.aload_n 0, 1) := by decide +kernel
theorem dX10_unlike_54 : decode cX10_unlike 54 = .ok (.getfield 119, 3) := by decide +kernel
theorem dX10_unlike_57 : decode cX10_unlike 57 = .ok (.istore 4, 2) := by decide +kernel
theorem dX10_unlike_59 : decode cX10_unlike 59 = .ok (.iconst 0, 1) := by decide +kernel
theorem dX10_unlike_60 : decode cX10_unlike 60 = .ok (.istore 5, 2) := by decide +kernel
theorem dX10_unlike_62 : decode cX10_unlike 62 = .ok (.iload 5, 2) := by decide +kernel
theorem dX10_unlike_64 : decode cX10_unlike 64 = .ok (.iload 4, 2) := by decide +kernel
theorem dX10_unlike_66 : decode cX10_unlike 66 = .ok (.if_icmp .ge 51, 3) := by decide +kernel
theorem dX10_unlike_69 : decode cX10_unlike 69 = .ok (.iload_n 3, 1) := by decide +kernel
theorem dX10_unlike_70 : decode cX10_unlike 70 = .ok (.iload 5, 2) := by decide +kernel
theorem dX10_unlike_72 : decode cX10_unlike 72 = .ok (.aload_n 0, 1) := by decide +kernel
theorem dX10_unlike_73 : decode cX10_unlike 73 = .ok (.getfield 221, 3) := by decide +kernel
theorem dX10_unlike_76 : decode cX10_unlike 76 = .ok (.if_icmp .ge 28, 3) := by decide +kernel
theorem dX10_unlike_79 : decode cX10_unlike 79 = .ok (.iload 5, 2) := by decide +kernel
theorem dX10_unlike_81 : decode cX10_unlike 81 = .ok (.aload_n 0, 1) := by decide +kernel
theorem dX10_unlike_82 : decode cX10_unlike 82 = .ok (.getfield 119, 3) := by decide +kernel
theorem dX10_unlike_85 : decode cX10_unlike 85 = .ok (.if_icmp .ge 19, 3) := by decide +kernel
theorem dX10_unlike_88 : decode cX10_unlike 88 = .ok (.aload_n 0, 1) := by decide +kernel
theorem dX10_unlike_89 : decode cX10_unlike 89 = .ok (.getfield 32, 3) := by decide +kernel
theorem dX10_unlike_92 : decode cX10_unlike 92 = .ok (.iload 5, 2) := by decide +kernel
theorem dX10_unlike_94 : decode cX10_unlike 94 = .ok (.iaload, 1) := by decide +kernel
theorem dX10_unlike_95 : decode cX10_unlike 95 = .ok (.aload_n 0, 1) := by decide +kernel
theorem dX10_unlike_96 : decode cX10_unlike 96 = .ok (.iload 5, 2) := by decide +kernel
theorem dX10_unlike_98 : decode cX10_unlike 98 = .ok (.invokevirtual 148, 3) := by decide +kernel
theorem dX10_unlike_101 : decode cX10_unlike 101 = .ok (.if_icmp .eq 7, 3) := by decide +kernel
theorem dX10_unlike_104 : decode cX10_unlike 104 = .ok (.iconst 1, 1) := by decide +kernel
theorem dX10_unlike_105 : decode cX10_unlike 105 = .ok (.goto 4, 3) := by decide +kernel
theorem dX10_unlike_108 : decode cX10_unlike 108 = .ok (.iconst 0, 1) := by decide +kernel
theorem dX10_unlike_109 : decode cX10_unlike 109 = .ok (.iadd, 1) := by decide +kernel
theorem dX10_unlike_110 : decode cX10_unlike 110 = .ok (.istore_n 3, 1) := by decide +kernel
theorem dX10_unlike_111 : decode cX10_unlike 111 = .ok (.iinc 5 1, 3) := by decide +kernel
theorem dX10_unlike_114 : decode cX10_unlike 114 = .ok (.goto (-52), 3) := by decide +kernel
theorem dX10_unlike_117 : decode cX10_unlike 117 = .ok (.iload_n 3, 1) := by decide +kernel
theorem dX10_unlike_118 : decode cX10_unlike 118 = .ok (.ireturn, 1) := by decide +kernel
theorem dX10_settled_0 : decode cX10_settled 0 = .ok (.aload_n 0, 1) := by decide +kernel
theorem dX10_settled_1 : decode cX10_settled 1 = .ok (.iconst 0, 1) := by decide +kernel
theorem dX10_settled_2 : decode cX10_settled 2 = .ok (.putfield 1, 3) := by decide +kernel
theorem dX10_settled_5 : decode cX10_settled 5 = .ok (.iload_n 1, 1) := by decide +kernel
theorem dX10_settled_6 : decode cX10_settled 6 = .ok (.iconst (-1), 1) := by decide +kernel
theorem dX10_settled_7 : decode cX10_settled 7 = .ok (.if_icmp .lt 12, 3) := by decide +kernel
theorem dX10_settled_10 : decode cX10_settled 10 = .ok (.iload_n 2, 1) := by decide +kernel
theorem dX10_settled_11 : decode cX10_settled 11 = .ok (.iconst 0, 1) := by decide +kernel
theorem dX10_settled_12 : decode cX10_settled 12 = .ok (.iconst 1, 1) := by decide +kernel
theorem dX10_settled_13 : decode cX10_settled 13 = .ok (.invokestatic 55, 3) := by decide +kernel
theorem dX10_settled_16 : decode cX10_settled 16 = .ok (.ifCond .ne 5, 3) := by decide +kernel
theorem dX10_settled_19 : decode cX10_settled 19 = .ok (.iconst (-1), 1) := by decide +kernel
theorem dX10_settled_20 : decode cX10_settled 20 = .ok (.ireturn, 1) := by decide +kernel
theorem dX10_settled_21 : decode cX10_settled 21 = .ok (.aload_n 0, 1) := by decide +kernel
theorem dX10_settled_22 : decode cX10_settled 22 = .ok (.iconst 5, 1) := by decide +kernel
theorem dX10_settled_23 : decode cX10_settled 23 = .ok (.invokevirtual 224, 3) := by decide +kernel
theorem dX10_settled_26 : decode cX10_settled 26 = .ok (.iload_n 1, 1) := by decide +kernel
theorem dX10_settled_27 : decode cX10_settled 27 = .ok (.iconst (-1), 1) := by decide +kernel
theorem dX10_settled_28 : decode cX10_settled 28 = .ok (.if_icmp .ne 8, 3) := by decide +kernel
theorem dX10_settled_31 : decode cX10_settled 31 = .ok (.aload_n 0, 1) := by decide +kernel
theorem dX10_settled_32 : decode cX10_settled 32 = .ok (.getfield 221, 3) := by decide +kernel
theorem dX10_settled_35 : decode cX10_settled 35 = .ok (.ireturn, 1) := by decide +kernel
theorem dX10_settled_36 : decode cX10_settled 36 = .ok (.iload_n 1, 1) := by decide +kernel
theorem dX10_settled_37 : decode cX10_settled 37 = .ok (.aload_n 0, 1) := by decide +kernel
theorem dX10_settled_38 : decode cX10_settled 38 = .ok (.getfield 221, 3) := by decide +kernel
theorem dX10_settled_41 : decode cX10_settled 41 = .ok (.if_icmp .ge 25, 3) := by decide +kernel
theorem dX10_settled_44 : decode cX10_settled 44 = .ok (.iload_n 2, 1) := by decide +kernel
theorem dX10_settled_45 : decode cX10_settled 45 = .ok (.ifCond .ne 12, 3) := by decide +kernel
theorem dX10_settled_48 : decode cX10_settled 48 = .ok (.aload_n 0, 1) := by decide +kernel
theorem dX10_settled_49 : decode cX10_settled 49 = .ok (.getfield 32, 3) := by decide +kernel
theorem dX10_settled_52 : decode cX10_settled 52 = .ok (.iload_n 1, 1) := by decide +kernel
theorem dX10_settled_53 : decode cX10_settled 53 = .ok (.iaload, 1) := by decide +kernel
theorem dX10_settled_54 : decode cX10_settled 54 = .ok (.goto 13, 3) := by decide +kernel
theorem dX10_settled_57 : decode cX10_settled 57 = .ok (.aload_n 0, 1) := by decide +kernel
theorem dX10_settled_58 : decode cX10_settled 58 = .ok (.getfield 35, 3) := by decide +kernel
theorem dX10_settled_61 : decode cX10_settled 61 = .ok (.iload_n 1, 1) := by decide +kernel
theorem dX10_settled_62 : decode cX10_settled 62 = .ok (.iaload, 1) := by decide +kernel
theorem dX10_settled_63 : decode cX10_settled 63 = .ok (.goto 4, 3) := by decide +kernel
theorem dX10_settled_66 : decode cX10_settled 66 = .ok (.iconst (-1), 1) := by decide +kernel
theorem dX10_settled_67 : decode cX10_settled 67 = .ok (.ireturn, 1) := by decide +kernel
theorem dX10_laysFound_0 : decode cX10_laysFound 0 = .ok (.aload_n 0, 1) := by decide +kernel
theorem dX10_laysFound_1 : decode cX10_laysFound 1 = .ok (.iload_n 1, 1) := by decide +kernel
theorem dX10_laysFound_2 : decode cX10_laysFound 2 = .ok (.putfield 71, 3) := by decide +kernel
theorem dX10_laysFound_5 : decode cX10_laysFound 5 = .ok (.aload_n 0, 1) := by decide +kernel
theorem dX10_laysFound_6 : decode cX10_laysFound 6 = .ok (.bipush 6, 2) := by decide +kernel
theorem dX10_laysFound_8 : decode cX10_laysFound 8 = .ok (.invokevirtual 138, 3) := by decide +kernel
theorem dX10_laysFound_11 : decode cX10_laysFound 11 = .ok (.return_, 1) := by decide +kernel
theorem dX10_found_0 : decode cX10_found 0 = .ok (.aload_n 0, 1) := by decide +kernel
theorem dX10_found_1 : decode cX10_found 1 = .ok (.iconst 0, 1) := by decide +kernel
theorem dX10_found_2 : decode cX10_found 2 = .ok (.putfield 1, 3) := by decide +kernel
theorem dX10_found_5 : decode cX10_found 5 = .ok (.aload_n 0, 1) := by decide +kernel
theorem dX10_found_6 : decode cX10_found 6 = .ok (.iload_n 1, 1) := by decide +kernel
theorem dX10_found_7 : decode cX10_found 7 = .ok (.invokevirtual 100, 3) := by decide +kernel
theorem dX10_found_10 : decode cX10_found 10 = .ok (.istore_n 3, 1) := by decide +kernel
theorem dX10_found_11 : decode cX10_found 11 = .ok (.iload_n 3, 1) := by decide +kernel
theorem dX10_found_12 : decode cX10_found 12 = .ok (.ifCond .lt 8, 3) := by decide +kernel
theorem dX10_found_15 : decode cX10_found 15 = .ok (.iload_n 2, 1) := by decide +kernel
theorem dX10_found_16 : decode cX10_found 16 = .ok (.iconst (-1), 1) := by decide +kernel
theorem dX10_found_17 : decode cX10_found 17 = .ok (.if_icmp .ge 5, 3) := by decide +kernel
theorem dX10_found_20 : decode cX10_found 20 = .ok (.iconst (-1), 1) := by decide +kernel
theorem dX10_found_21 : decode cX10_found 21 = .ok (.ireturn, 1) := by decide +kernel
theorem dX10_found_22 : decode cX10_found 22 = .ok (.aload_n 0, 1) := by decide +kernel
theorem dX10_found_23 : decode cX10_found 23 = .ok (.iload_n 3, 1) := by decide +kernel
theorem dX10_found_24 : decode cX10_found 24 = .ok (.invokevirtual 227, 3) := by decide +kernel
theorem dX10_found_27 : decode cX10_found 27 = .ok (.iload_n 2, 1) := by decide +kernel
theorem dX10_found_28 : decode cX10_found 28 = .ok (.iconst (-1), 1) := by decide +kernel
theorem dX10_found_29 : decode cX10_found 29 = .ok (.if_icmp .ne 10, 3) := by decide +kernel
theorem dX10_found_32 : decode cX10_found 32 = .ok (.aload_n 0, 1) := by decide +kernel
theorem dX10_found_33 : decode cX10_found 33 = .ok (.getfield 119, 3) := by decide +kernel
theorem dX10_found_36 : decode cX10_found 36 = .ok (.goto 20, 3) := by decide +kernel
theorem dX10_found_39 : decode cX10_found 39 = .ok (.iload_n 2, 1) := by decide +kernel
theorem dX10_found_40 : decode cX10_found 40 = .ok (.aload_n 0, 1) := by decide +kernel
theorem dX10_found_41 : decode cX10_found 41 = .ok (.getfield 119, 3) := by decide +kernel
theorem dX10_found_44 : decode cX10_found 44 = .ok (.if_icmp .ge 11, 3) := by decide +kernel
theorem dX10_found_47 : decode cX10_found 47 = .ok (.aload_n 0, 1) := by decide +kernel
theorem dX10_found_48 : decode cX10_found 48 = .ok (.iload_n 2, 1) := by decide +kernel
theorem dX10_found_49 : decode cX10_found 49 = .ok (.invokevirtual 148, 3) := by decide +kernel
theorem dX10_found_52 : decode cX10_found 52 = .ok (.goto 4, 3) := by decide +kernel
theorem dX10_found_55 : decode cX10_found 55 = .ok (.iconst (-1), 1) := by decide +kernel
theorem dX10_found_56 : decode cX10_found 56 = .ok (.ireturn, 1) := by decide +kernel
theorem dX10_rivals_0 : decode cX10_rivals 0 = .ok (.aload_n 0, 1) := by decide +kernel
theorem dX10_rivals_1 : decode cX10_rivals 1 = .ok (.iconst 0, 1) := by decide +kernel
theorem dX10_rivals_2 : decode cX10_rivals 2 = .ok (.putfield 1, 3) := by decide +kernel
theorem dX10_rivals_5 : decode cX10_rivals 5 = .ok (.aload_n 0, 1) := by decide +kernel
theorem dX10_rivals_6 : decode cX10_rivals 6 = .ok (.iload_n 1, 1) := by decide +kernel
theorem dX10_rivals_7 : decode cX10_rivals 7 = .ok (.invokevirtual 100, 3) := by decide +kernel
theorem dX10_rivals_10 : decode cX10_rivals 10 = .ok (.istore_n 3, 1) := by decide +kernel
theorem dX10_rivals_11 : decode cX10_rivals 11 = .ok (.iload_n 3, 1) := by decide +kernel
theorem dX10_rivals_12 : decode cX10_rivals 12 = .ok (.ifCond .lt 8, 3) := by decide +kernel
theorem dX10_rivals_15 : decode cX10_rivals 15 = .ok (.iload_n 2, 1) := by decide +kernel
theorem dX10_rivals_16 : decode cX10_rivals 16 = .ok (.iconst (-1), 1) := by decide +kernel
theorem dX10_rivals_17 : decode cX10_rivals 17 = .ok (.if_icmp .ge 5, 3) := by decide +kernel
theorem dX10_rivals_20 : decode cX10_rivals 20 = .ok (.iconst (-1), 1) := by decide +kernel
theorem dX10_rivals_21 : decode cX10_rivals 21 = .ok (.ireturn, 1) := by decide +kernel
theorem dX10_rivals_22 : decode cX10_rivals 22 = .ok (.iconst 0, 1) := by decide +kernel
theorem dX10_rivals_23 : decode cX10_rivals 23 = .ok (.istore 4, 2) := by decide +kernel
theorem dX10_rivals_25 : decode cX10_rivals 25 = .ok (.iconst 0, 1) := by decide +kernel
theorem dX10_rivals_26 : decode cX10_rivals 26 = .ok (.istore 5, 2) := by decide +kernel
theorem dX10_rivals_28 : decode cX10_rivals 28 = .ok (.iload 5, 2) := by decide +kernel
theorem dX10_rivals_30 : decode cX10_rivals 30 = .ok (.sipush 200, 3) := by decide +kernel
theorem dX10_rivals_33 : decode cX10_rivals 33 = .ok (.if_icmp .ge 75, 3) := by decide +kernel
theorem dX10_rivals_36 : decode cX10_rivals 36 = .ok (.aload_n 0, 1) := by decide +kernel
theorem dX10_rivals_37 : decode cX10_rivals 37 = .ok (.iload 5, 2) := by decide +kernel
theorem dX10_rivals_39 : decode cX10_rivals 39 = .ok (.invokevirtual 78, 3) := by decide +kernel
theorem dX10_rivals_42 : decode cX10_rivals 42 = .ok (.ifCond .eq 60, 3) := by decide +kernel
theorem dX10_rivals_45 : decode cX10_rivals 45 = .ok (.iload 5, 2) := by decide +kernel
theorem dX10_rivals_47 : decode cX10_rivals 47 = .ok (.iload_n 3, 1) := by decide +kernel
theorem dX10_rivals_48 : decode cX10_rivals 48 = .ok (.if_icmp .eq 54, 3) := by decide +kernel
theorem dX10_rivals_51 : decode cX10_rivals 51 = .ok (.aload_n 0, 1) := by decide +kernel
theorem dX10_rivals_52 : decode cX10_rivals 52 = .ok (.iload 5, 2) := by decide +kernel
theorem dX10_rivals_54 : decode cX10_rivals 54 = .ok (.iconst 2, 1) := by decide +kernel
theorem dX10_rivals_55 : decode cX10_rivals 55 = .ok (.invokevirtual 84, 3) := by decide +kernel
theorem dX10_rivals_58 : decode cX10_rivals 58 = .ok (.aload_n 0, 1) := by decide +kernel
theorem dX10_rivals_59 : decode cX10_rivals 59 = .ok (.iload_n 3, 1) := by decide +kernel
theorem dX10_rivals_60 : decode cX10_rivals 60 = .ok (.iconst 2, 1) := by decide +kernel
theorem dX10_rivals_61 : decode cX10_rivals 61 = .ok (.invokevirtual 84, 3) := by decide +kernel
theorem dX10_rivals_64 : decode cX10_rivals 64 = .ok (.if_icmp .ne 38, 3) := by decide +kernel
theorem dX10_rivals_67 : decode cX10_rivals 67 = .ok (.aload_n 0, 1) := by decide +kernel
theorem dX10_rivals_68 : decode cX10_rivals 68 = .ok (.iload 5, 2) := by decide +kernel
theorem dX10_rivals_70 : decode cX10_rivals 70 = .ok (.iload_n 3, 1) := by decide +kernel
theorem dX10_rivals_71 : decode cX10_rivals 71 = .ok (.invokevirtual 74, 3) := by decide +kernel
theorem dX10_rivals_74 : decode cX10_rivals 74 = .ok (.ifCond .ne 28, 3) := by decide +kernel
theorem dX10_rivals_77 : decode cX10_rivals 77 = .ok (.aload_n 0, 1) := by decide +kernel
theorem dX10_rivals_78 : decode cX10_rivals 78 = .ok (.iload_n 3, 1) := by decide +kernel
theorem dX10_rivals_79 : decode cX10_rivals 79 = .ok (.iload 5, 2) := by decide +kernel
theorem dX10_rivals_81 : decode cX10_rivals 81 = .ok (.invokevirtual 74, 3) := by decide +kernel
theorem dX10_rivals_84 : decode cX10_rivals 84 = .ok (.ifCond .ne 18, 3) := by decide +kernel
theorem dX10_rivals_87 : decode cX10_rivals 87 = .ok (.iload 4, 2) := by decide +kernel
theorem dX10_rivals_89 : decode cX10_rivals 89 = .ok (.iload_n 2, 1) := by decide +kernel
theorem dX10_rivals_90 : decode cX10_rivals 90 = .ok (.if_icmp .ne 9, 3) := by decide +kernel
theorem dX10_rivals_93 : decode cX10_rivals 93 = .ok (.iload 5, 2) := by decide +kernel
theorem dX10_rivals_95 : decode cX10_rivals 95 = .ok (.invokestatic 128, 3) := by decide +kernel
theorem dX10_rivals_98 : decode cX10_rivals 98 = .ok (.ireturn, 1) := by decide +kernel
theorem dX10_rivals_99 : decode cX10_rivals 99 = .ok (.iinc 4 1, 3) := by decide +kernel
theorem dX10_rivals_102 : decode cX10_rivals 102 = .ok (.iinc 5 1, 3) := by decide +kernel
theorem dX10_rivals_105 : decode cX10_rivals 105 = .ok (.goto (-77), 3) := by decide +kernel
theorem dX10_rivals_108 : decode cX10_rivals 108 = .ok (.iload_n 2, 1) := by decide +kernel
theorem dX10_rivals_109 : decode cX10_rivals 109 = .ok (.iconst (-1), 1) := by decide +kernel
theorem dX10_rivals_110 : decode cX10_rivals 110 = .ok (.if_icmp .ne 8, 3) := by decide +kernel
theorem dX10_rivals_113 : decode cX10_rivals 113 = .ok (.iload 4, 2) := by decide +kernel
theorem dX10_rivals_115 : decode cX10_rivals 115 = .ok (.goto 4, 3) := by decide +kernel
theorem dX10_rivals_118 : decode cX10_rivals 118 = .ok (.iconst (-1), 1) := by decide +kernel
theorem dX10_rivals_119 : decode cX10_rivals 119 = .ok (.ireturn, 1) := by decide +kernel
theorem dX10_placeFound_0 : decode cX10_placeFound 0 = .ok (.aload_n 0, 1) := by decide +kernel
theorem dX10_placeFound_1 : decode cX10_placeFound 1 = .ok (.iload_n 2, 1) := by decide +kernel
theorem dX10_placeFound_2 : decode cX10_placeFound 2 = .ok (.invokevirtual 227, 3) := by decide +kernel
theorem dX10_placeFound_5 : decode cX10_placeFound 5 = .ok (.iconst 0, 1) := by decide +kernel
theorem dX10_placeFound_6 : decode cX10_placeFound 6 = .ok (.istore_n 3, 1) := by decide +kernel
theorem dX10_placeFound_7 : decode cX10_placeFound 7 = .ok (.iconst 1, 1) := by decide +kernel
theorem dX10_placeFound_8 : decode cX10_placeFound 8 = .ok (.istore 4, 2) := by decide +kernel
theorem dX10_placeFound_10 : decode cX10_placeFound 10 = .ok (.iload 4, 2) := by decide +kernel
theorem dX10_placeFound_12 : decode cX10_placeFound 12 = .ok (.aload_n 0, 1) := by decide +kernel
theorem dX10_placeFound_13 : decode cX10_placeFound 13 = .ok (.getfield 119, 3) := by decide +kernel
theorem dX10_placeFound_16 : decode cX10_placeFound 16 = .ok (.if_icmp .ge 37, 3) := by decide +kernel
theorem dX10_placeFound_19 : decode cX10_placeFound 19 = .ok (.aload_n 0, 1) := by decide +kernel
theorem dX10_placeFound_20 : decode cX10_placeFound 20 = .ok (.iload 4, 2) := by decide +kernel
theorem dX10_placeFound_22 : decode cX10_placeFound 22 = .ok (.invokevirtual 148, 3) := by decide +kernel
theorem dX10_placeFound_25 : decode cX10_placeFound 25 = .ok (.aload_n 0, 1) := by decide +kernel
theorem dX10_placeFound_26 : decode cX10_placeFound 26 = .ok (.iload_n 2, 1) := by decide +kernel
theorem dX10_placeFound_27 : decode cX10_placeFound 27 = .ok (.iconst 2, 1) := by decide +kernel
theorem dX10_placeFound_28 : decode cX10_placeFound 28 = .ok (.invokevirtual 84, 3) := by decide +kernel
theorem dX10_placeFound_31 : decode cX10_placeFound 31 = .ok (.if_icmp .ne 14, 3) := by decide +kernel
theorem dX10_placeFound_34 : decode cX10_placeFound 34 = .ok (.aload_n 0, 1) := by decide +kernel
theorem dX10_placeFound_35 : decode cX10_placeFound 35 = .ok (.iload 4, 2) := by decide +kernel
theorem dX10_placeFound_37 : decode cX10_placeFound 37 = .ok (.iconst 1, 1) := by decide +kernel
theorem dX10_placeFound_38 : decode cX10_placeFound 38 = .ok (.isub, 1) := by decide +kernel
theorem dX10_placeFound_39 : decode cX10_placeFound 39 = .ok (.invokevirtual 148, 3) := by decide +kernel
theorem dX10_placeFound_42 : decode cX10_placeFound 42 = .ok (.goto 4, 3) := by decide +kernel
theorem dX10_placeFound_45 : decode cX10_placeFound 45 = .ok (.iload_n 3, 1) := by decide +kernel
theorem dX10_placeFound_46 : decode cX10_placeFound 46 = .ok (.istore_n 3, 1) := by decide +kernel
theorem dX10_placeFound_47 : decode cX10_placeFound 47 = .ok (.iinc 4 1, 3) := by decide +kernel
theorem dX10_placeFound_50 : decode cX10_placeFound 50 = .ok (.goto (-40), 3) := by decide +kernel
theorem dX10_placeFound_53 : decode cX10_placeFound 53 = .ok (.iload_n 3, 1) := by decide +kernel
theorem dX10_placeFound_54 : decode cX10_placeFound 54 = .ok (.ifCond .le 24, 3) := by decide +kernel
theorem dX10_placeFound_57 : decode cX10_placeFound 57 = .ok (.aload_n 0, 1) := by decide +kernel
theorem dX10_placeFound_58 : decode cX10_placeFound 58 = .ok (.iload_n 1, 1) := by decide +kernel
theorem dX10_placeFound_59 : decode cX10_placeFound 59 = .ok (.iload_n 3, 1) := by decide +kernel
theorem dX10_placeFound_60 : decode cX10_placeFound 60 = .ok (.invokevirtual 230, 3) := by decide +kernel
theorem dX10_placeFound_63 : decode cX10_placeFound 63 = .ok (.ifCond .eq 15, 3) := by decide +kernel
theorem dX10_placeFound_66 : decode cX10_placeFound 66 = .ok (.aload_n 0, 1) := by decide +kernel
theorem dX10_placeFound_67 : decode cX10_placeFound 67 = .ok (.iload_n 1, 1) := by decide +kernel
theorem dX10_placeFound_68 : decode cX10_placeFound 68 = .ok (.iload_n 3, 1) := by decide +kernel
theorem dX10_placeFound_69 : decode cX10_placeFound 69 = .ok (.invokevirtual 122, 3) := by decide +kernel
theorem dX10_placeFound_72 : decode cX10_placeFound 72 = .ok (.invokestatic 128, 3) := by decide +kernel
theorem dX10_placeFound_75 : decode cX10_placeFound 75 = .ok (.goto 4, 3) := by decide +kernel
theorem dX10_placeFound_78 : decode cX10_placeFound 78 = .ok (.iconst 0, 1) := by decide +kernel
theorem dX10_placeFound_79 : decode cX10_placeFound 79 = .ok (.ireturn, 1) := by decide +kernel
theorem dX10_isListed_0 : decode cX10_isListed 0 = .ok (.aload_n 0, 1) := by decide +kernel
theorem dX10_isListed_1 : decode cX10_isListed 1 = .ok (.iload_n 1, 1) := by decide +kernel
theorem dX10_isListed_2 : decode cX10_isListed 2 = .ok (.invokevirtual 138, 3) := by decide +kernel
theorem dX10_isListed_5 : decode cX10_isListed 5 = .ok (.iconst 0, 1) := by decide +kernel
theorem dX10_isListed_6 : decode cX10_isListed 6 = .ok (.istore_n 3, 1) := by decide +kernel
theorem dX10_isListed_7 : decode cX10_isListed 7 = .ok (.iconst 0, 1) := by decide +kernel
theorem dX10_isListed_8 : decode cX10_isListed 8 = .ok (.istore 4, 2) := by decide +kernel
theorem dX10_isListed_10 : decode cX10_isListed 10 = .ok (.iload 4, 2) := by decide +kernel
theorem dX10_isListed_12 : decode cX10_isListed 12 = .ok (.aload_n 0, 1) := by decide +kernel
theorem dX10_isListed_13 : decode cX10_isListed 13 = .ok (.getfield 119, 3) := by decide +kernel
theorem dX10_isListed_16 : decode cX10_isListed 16 = .ok (.if_icmp .ge 29, 3) := by decide +kernel
theorem dX10_isListed_19 : decode cX10_isListed 19 = .ok (.iload_n 3, 1) := by decide +kernel
theorem dX10_isListed_20 : decode cX10_isListed 20 = .ok (.ifCond .ne 13, 3) := by decide +kernel
theorem dX10_isListed_23 : decode cX10_isListed 23 = .ok (.aload_n 0, 1) := by decide +kernel
theorem dX10_isListed_24 : decode cX10_isListed 24 = .ok (.iload 4, 2) := by decide +kernel
theorem dX10_isListed_26 : decode cX10_isListed 26 = .ok (.invokevirtual 148, 3) := by decide +kernel
theorem dX10_isListed_29 : decode cX10_isListed 29 = .ok (.iload_n 2, 1) := by decide +kernel
theorem dX10_isListed_30 : decode cX10_isListed 30 = .ok (.if_icmp .ne 7, 3) := by decide +kernel
theorem dX10_isListed_33 : decode cX10_isListed 33 = .ok (.iconst 1, 1) := by decide +kernel
theorem dX10_isListed_34 : decode cX10_isListed 34 = .ok (.goto 4, 3) := by decide +kernel
theorem dX10_isListed_37 : decode cX10_isListed 37 = .ok (.iconst 0, 1) := by decide +kernel
theorem dX10_isListed_38 : decode cX10_isListed 38 = .ok (.istore_n 3, 1) := by decide +kernel
theorem dX10_isListed_39 : decode cX10_isListed 39 = .ok (.iinc 4 1, 3) := by decide +kernel
theorem dX10_isListed_42 : decode cX10_isListed 42 = .ok (.goto (-32), 3) := by decide +kernel
theorem dX10_isListed_45 : decode cX10_isListed 45 = .ok (.iload_n 3, 1) := by decide +kernel
theorem dX10_isListed_46 : decode cX10_isListed 46 = .ok (.ireturn, 1) := by decide +kernel
theorem dX10_revert_0 : decode cX10_revert 0 = .ok (.aload_n 0, 1) := by decide +kernel
theorem dX10_revert_1 : decode cX10_revert 1 = .ok (.iconst 0, 1) := by decide +kernel
theorem dX10_revert_2 : decode cX10_revert 2 = .ok (.putfield 1, 3) := by decide +kernel
theorem dX10_revert_5 : decode cX10_revert 5 = .ok (.aload_n 0, 1) := by decide +kernel
theorem dX10_revert_6 : decode cX10_revert 6 = .ok (.iload_n 1, 1) := by decide +kernel
theorem dX10_revert_7 : decode cX10_revert 7 = .ok (.invokevirtual 135, 3) := by decide +kernel
theorem dX10_revert_10 : decode cX10_revert 10 = .ok (.ifCond .eq 14, 3) := by decide +kernel
theorem dX10_revert_13 : decode cX10_revert 13 = .ok (.aload_n 0, 1) := by decide +kernel
theorem dX10_revert_14 : decode cX10_revert 14 = .ok (.getfield 13, 3) := by decide +kernel
theorem dX10_revert_17 : decode cX10_revert 17 = .ok (.iconst 2, 1) := by decide +kernel
theorem dX10_revert_18 : decode cX10_revert 18 = .ok (.iload_n 1, 1) := by decide +kernel
theorem dX10_revert_19 : decode cX10_revert 19 = .ok (.iadd, 1) := by decide +kernel
theorem dX10_revert_20 : decode cX10_revert 20 = .ok (.iaload, 1) := by decide +kernel
theorem dX10_revert_21 : decode cX10_revert 21 = .ok (.ifCond .ne 5, 3) := by decide +kernel
theorem dX10_revert_24 : decode cX10_revert 24 = .ok (.iconst (-1), 1) := by decide +kernel
theorem dX10_revert_25 : decode cX10_revert 25 = .ok (.ireturn, 1) := by decide +kernel
theorem dX10_revert_26 : decode cX10_revert 26 = .ok (.bipush 40, 2) := by decide +kernel
theorem dX10_revert_28 : decode cX10_revert 28 = .ok (.iload_n 1, 1) := by decide +kernel
theorem dX10_revert_29 : decode cX10_revert 29 = .ok (.imul, 1) := by decide +kernel
theorem dX10_revert_30 : decode cX10_revert 30 = .ok (.aload_n 0, 1) := by decide +kernel
theorem dX10_revert_31 : decode cX10_revert 31 = .ok (.getfield 13, 3) := by decide +kernel
theorem dX10_revert_34 : decode cX10_revert 34 = .ok (.iconst 2, 1) := by decide +kernel
theorem dX10_revert_35 : decode cX10_revert 35 = .ok (.iload_n 1, 1) := by decide +kernel
theorem dX10_revert_36 : decode cX10_revert 36 = .ok (.iadd, 1) := by decide +kernel
theorem dX10_revert_37 : decode cX10_revert 37 = .ok (.iaload, 1) := by decide +kernel
theorem dX10_revert_38 : decode cX10_revert 38 = .ok (.iadd, 1) := by decide +kernel
theorem dX10_revert_39 : decode cX10_revert 39 = .ok (.iconst 1, 1) := by decide +kernel
theorem dX10_revert_40 : decode cX10_revert 40 = .ok (.isub, 1) := by decide +kernel
theorem dX10_revert_41 : decode cX10_revert 41 = .ok (.istore_n 2, 1) := by decide +kernel
theorem dX10_revert_42 : decode cX10_revert 42 = .ok (.aload_n 0, 1) := by decide +kernel
theorem dX10_revert_43 : decode cX10_revert 43 = .ok (.iload_n 2, 1) := by decide +kernel
theorem dX10_revert_44 : decode cX10_revert 44 = .ok (.iconst 0, 1) := by decide +kernel
theorem dX10_revert_45 : decode cX10_revert 45 = .ok (.invokevirtual 84, 3) := by decide +kernel
theorem dX10_revert_48 : decode cX10_revert 48 = .ok (.istore_n 3, 1) := by decide +kernel
theorem dX10_revert_49 : decode cX10_revert 49 = .ok (.aload_n 0, 1) := by decide +kernel
theorem dX10_revert_50 : decode cX10_revert 50 = .ok (.iload_n 2, 1) := by decide +kernel
theorem dX10_revert_51 : decode cX10_revert 51 = .ok (.iconst 2, 1) := by decide +kernel
theorem dX10_revert_52 : decode cX10_revert 52 = .ok (.invokevirtual 84, 3) := by decide +kernel
theorem dX10_revert_55 : decode cX10_revert 55 = .ok (.istore 4, 2) := by decide +kernel
theorem dX10_revert_57 : decode cX10_revert 57 = .ok (.iload_n 3, 1) := by decide +kernel
theorem dX10_revert_58 : decode cX10_revert 58 = .ok (.iconst 2, 1) := by decide +kernel
theorem dX10_revert_59 : decode cX10_revert 59 = .ok (.if_icmp .eq 15, 3) := by decide +kernel
theorem dX10_revert_62 : decode cX10_revert 62 = .ok (.aload_n 0, 1) := by decide +kernel
theorem dX10_revert_63 : decode cX10_revert 63 = .ok (.iload_n 1, 1) := by decide +kernel
theorem dX10_revert_64 : decode cX10_revert 64 = .ok (.iload 4, 2) := by decide +kernel
theorem dX10_revert_66 : decode cX10_revert 66 = .ok (.invokevirtual 230, 3) := by decide +kernel
theorem dX10_revert_69 : decode cX10_revert 69 = .ok (.ifCond .ne 5, 3) := by decide +kernel
theorem dX10_revert_72 : decode cX10_revert 72 = .ok (.iconst (-1), 1) := by decide +kernel
theorem dX10_revert_73 : decode cX10_revert 73 = .ok (.ireturn, 1) := by decide +kernel
theorem dX10_revert_74 : decode cX10_revert 74 = .ok (.aload_n 0, 1) := by decide +kernel
theorem dX10_revert_75 : decode cX10_revert 75 = .ok (.iload_n 2, 1) := by decide +kernel
theorem dX10_revert_76 : decode cX10_revert 76 = .ok (.putfield 71, 3) := by decide +kernel
theorem dX10_revert_79 : decode cX10_revert 79 = .ok (.iload_n 3, 1) := by decide +kernel
theorem dX10_revert_80 : decode cX10_revert 80 = .ok (.tableswitch 77 0 3 #[32, 61, 77, 43], 32) := by decide +kernel
theorem dX10_revert_112 : decode cX10_revert 112 = .ok (.aload_n 0, 1) := by decide +kernel
theorem dX10_revert_113 : decode cX10_revert 113 = .ok (.iload_n 1, 1) := by decide +kernel
theorem dX10_revert_114 : decode cX10_revert 114 = .ok (.iconst 2, 1) := by decide +kernel
theorem dX10_revert_115 : decode cX10_revert 115 = .ok (.iload 4, 2) := by decide +kernel
theorem dX10_revert_117 : decode cX10_revert 117 = .ok (.iconst (-1), 1) := by decide +kernel
theorem dX10_revert_118 : decode cX10_revert 118 = .ok (.iconst (-1), 1) := by decide +kernel
theorem dX10_revert_119 : decode cX10_revert 119 = .ok (.invokevirtual 144, 3) := by decide +kernel
theorem dX10_revert_122 : decode cX10_revert 122 = .ok (.ireturn, 1) := by decide +kernel
theorem dX10_revert_123 : decode cX10_revert 123 = .ok (.aload_n 0, 1) := by decide +kernel
theorem dX10_revert_124 : decode cX10_revert 124 = .ok (.iload_n 1, 1) := by decide +kernel
theorem dX10_revert_125 : decode cX10_revert 125 = .ok (.iconst 3, 1) := by decide +kernel
theorem dX10_revert_126 : decode cX10_revert 126 = .ok (.iload 4, 2) := by decide +kernel
theorem dX10_revert_128 : decode cX10_revert 128 = .ok (.iconst (-1), 1) := by decide +kernel
theorem dX10_revert_129 : decode cX10_revert 129 = .ok (.aload_n 0, 1) := by decide +kernel
theorem dX10_revert_130 : decode cX10_revert 130 = .ok (.bipush 6, 2) := by decide +kernel
theorem dX10_revert_132 : decode cX10_revert 132 = .ok (.iload 4, 2) := by decide +kernel
theorem dX10_revert_134 : decode cX10_revert 134 = .ok (.invokevirtual 198, 3) := by decide +kernel
theorem dX10_revert_137 : decode cX10_revert 137 = .ok (.invokevirtual 144, 3) := by decide +kernel
theorem dX10_revert_140 : decode cX10_revert 140 = .ok (.ireturn, 1) := by decide +kernel
theorem dX10_revert_141 : decode cX10_revert 141 = .ok (.aload_n 0, 1) := by decide +kernel
theorem dX10_revert_142 : decode cX10_revert 142 = .ok (.iload_n 1, 1) := by decide +kernel
theorem dX10_revert_143 : decode cX10_revert 143 = .ok (.iconst 1, 1) := by decide +kernel
theorem dX10_revert_144 : decode cX10_revert 144 = .ok (.iload 4, 2) := by decide +kernel
theorem dX10_revert_146 : decode cX10_revert 146 = .ok (.aload_n 0, 1) := by decide +kernel
theorem dX10_revert_147 : decode cX10_revert 147 = .ok (.iload_n 1, 1) := by decide +kernel
theorem dX10_revert_148 : decode cX10_revert 148 = .ok (.iload_n 2, 1) := by decide +kernel
theorem dX10_revert_149 : decode cX10_revert 149 = .ok (.invokevirtual 233, 3) := by decide +kernel
theorem dX10_revert_152 : decode cX10_revert 152 = .ok (.iconst (-1), 1) := by decide +kernel
theorem dX10_revert_153 : decode cX10_revert 153 = .ok (.invokevirtual 144, 3) := by decide +kernel
theorem dX10_revert_156 : decode cX10_revert 156 = .ok (.ireturn, 1) := by decide +kernel
theorem dX10_revert_157 : decode cX10_revert 157 = .ok (.aload_n 0, 1) := by decide +kernel
theorem dX10_revert_158 : decode cX10_revert 158 = .ok (.bipush 6, 2) := by decide +kernel
theorem dX10_revert_160 : decode cX10_revert 160 = .ok (.iload 4, 2) := by decide +kernel
theorem dX10_revert_162 : decode cX10_revert 162 = .ok (.invokevirtual 198, 3) := by decide +kernel
theorem dX10_revert_165 : decode cX10_revert 165 = .ok (.istore 5, 2) := by decide +kernel
theorem dX10_revert_167 : decode cX10_revert 167 = .ok (.aload_n 0, 1) := by decide +kernel
theorem dX10_revert_168 : decode cX10_revert 168 = .ok (.iload_n 1, 1) := by decide +kernel
theorem dX10_revert_169 : decode cX10_revert 169 = .ok (.iconst 0, 1) := by decide +kernel
theorem dX10_revert_170 : decode cX10_revert 170 = .ok (.iconst 0, 1) := by decide +kernel
theorem dX10_revert_171 : decode cX10_revert 171 = .ok (.aload_n 0, 1) := by decide +kernel
theorem dX10_revert_172 : decode cX10_revert 172 = .ok (.iload_n 1, 1) := by decide +kernel
theorem dX10_revert_173 : decode cX10_revert 173 = .ok (.iload_n 2, 1) := by decide +kernel
theorem dX10_revert_174 : decode cX10_revert 174 = .ok (.invokevirtual 233, 3) := by decide +kernel
theorem dX10_revert_177 : decode cX10_revert 177 = .ok (.iload 5, 2) := by decide +kernel
theorem dX10_revert_179 : decode cX10_revert 179 = .ok (.invokevirtual 144, 3) := by decide +kernel
theorem dX10_revert_182 : decode cX10_revert 182 = .ok (.ireturn, 1) := by decide +kernel
theorem dX10_draw_0 : decode cX10_draw 0 = .ok (.aload_n 0, 1) := by decide +kernel
theorem dX10_draw_1 : decode cX10_draw 1 = .ok (.aload_n 0, 1) := by decide +kernel
theorem dX10_draw_2 : decode cX10_draw 2 = .ok (.getfield 236, 3) := by decide +kernel
theorem dX10_draw_5 : decode cX10_draw 5 = .ok (.ldc 239, 2) := by decide +kernel
theorem dX10_draw_7 : decode cX10_draw 7 = .ok (.imul, 1) := by decide +kernel
theorem dX10_draw_8 : decode cX10_draw 8 = .ok (.sipush 12345, 3) := by decide +kernel
theorem dX10_draw_11 : decode cX10_draw 11 = .ok (.iadd, 1) := by decide +kernel
theorem dX10_draw_12 : decode cX10_draw 12 = .ok (.putfield 236, 3) := by decide +kernel
theorem dX10_draw_15 : decode cX10_draw 15 = .ok (.aload_n 0, 1) := by decide +kernel
theorem dX10_draw_16 : decode cX10_draw 16 = .ok (.getfield 236, 3) := by decide +kernel
theorem dX10_draw_19 : decode cX10_draw 19 = .ok (.bipush 8, 2) := by decide +kernel
theorem dX10_draw_21 : decode cX10_draw 21 = .ok (.iushr, 1) := by decide +kernel
theorem dX10_draw_22 : decode cX10_draw 22 = .ok (.iload_n 1, 1) := by decide +kernel
theorem dX10_draw_23 : decode cX10_draw 23 = .ok (.irem, 1) := by decide +kernel
theorem dX10_draw_24 : decode cX10_draw 24 = .ok (.ireturn, 1) := by decide +kernel
theorem dX10_chances_0 : decode cX10_chances 0 = .ok (.aload_n 0, 1) := by decide +kernel
theorem dX10_chances_1 : decode cX10_chances 1 = .ok (.aload_n 0, 1) := by decide +kernel
theorem dX10_chances_2 : decode cX10_chances 2 = .ok (.getfield 13, 3) := by decide +kernel
theorem dX10_chances_5 : decode cX10_chances 5 = .ok (.iconst 0, 1) := by decide +kernel
theorem dX10_chances_6 : decode cX10_chances 6 = .ok (.iaload, 1) := by decide +kernel
theorem dX10_chances_7 : decode cX10_chances 7 = .ok (.invokevirtual 240, 3) := by decide +kernel
theorem dX10_chances_10 : decode cX10_chances 10 = .ok (.istore_n 1, 1) := by decide +kernel
theorem dX10_chances_11 : decode cX10_chances 11 = .ok (.aload_n 0, 1) := by decide +kernel
theorem dX10_chances_12 : decode cX10_chances 12 = .ok (.bipush 8, 2) := by decide +kernel
theorem dX10_chances_14 : decode cX10_chances 14 = .ok (.invokevirtual 240, 3) := by decide +kernel
theorem dX10_chances_17 : decode cX10_chances 17 = .ok (.istore_n 2, 1) := by decide +kernel
theorem dX10_chances_18 : decode cX10_chances 18 = .ok (.aload_n 0, 1) := by decide +kernel
theorem dX10_chances_19 : decode cX10_chances 19 = .ok (.iload_n 1, 1) := by decide +kernel
theorem dX10_chances_20 : decode cX10_chances 20 = .ok (.invokevirtual 138, 3) := by decide +kernel
theorem dX10_chances_23 : decode cX10_chances 23 = .ok (.aload_n 0, 1) := by decide +kernel
theorem dX10_chances_24 : decode cX10_chances 24 = .ok (.getfield 119, 3) := by decide +kernel
theorem dX10_chances_27 : decode cX10_chances 27 = .ok (.istore_n 3, 1) := by decide +kernel
theorem dX10_chances_28 : decode cX10_chances 28 = .ok (.iload_n 2, 1) := by decide +kernel
theorem dX10_chances_29 : decode cX10_chances 29 = .ok (.iconst 3, 1) := by decide +kernel
theorem dX10_chances_30 : decode cX10_chances 30 = .ok (.if_icmp .ge 34, 3) := by decide +kernel
theorem dX10_chances_33 : decode cX10_chances 33 = .ok (.aload_n 0, 1) := by decide +kernel
theorem dX10_chances_34 : decode cX10_chances 34 = .ok (.iload_n 3, 1) := by decide +kernel
theorem dX10_chances_35 : decode cX10_chances 35 = .ok (.iconst 1, 1) := by decide +kernel
theorem dX10_chances_36 : decode cX10_chances 36 = .ok (.iadd, 1) := by decide +kernel
theorem dX10_chances_37 : decode cX10_chances 37 = .ok (.invokevirtual 240, 3) := by decide +kernel
theorem dX10_chances_40 : decode cX10_chances 40 = .ok (.istore 4, 2) := by decide +kernel
theorem dX10_chances_42 : decode cX10_chances 42 = .ok (.aload_n 0, 1) := by decide +kernel
theorem dX10_chances_43 : decode cX10_chances 43 = .ok (.iload_n 1, 1) := by decide +kernel
theorem dX10_chances_44 : decode cX10_chances 44 = .ok (.iload 4, 2) := by decide +kernel
theorem dX10_chances_46 : decode cX10_chances 46 = .ok (.aload_n 0, 1) := by decide +kernel
theorem dX10_chances_47 : decode cX10_chances 47 = .ok (.bipush 26, 2) := by decide +kernel
theorem dX10_chances_49 : decode cX10_chances 49 = .ok (.invokevirtual 240, 3) := by decide +kernel
theorem dX10_chances_52 : decode cX10_chances 52 = .ok (.invokevirtual 243, 3) := by decide +kernel
theorem dX10_chances_55 : decode cX10_chances 55 = .ok (.ifCond .lt 7, 3) := by decide +kernel
theorem dX10_chances_58 : decode cX10_chances 58 = .ok (.iconst 1, 1) := by decide +kernel
theorem dX10_chances_59 : decode cX10_chances 59 = .ok (.goto 4, 3) := by decide +kernel
theorem dX10_chances_62 : decode cX10_chances 62 = .ok (.iconst 0, 1) := by decide +kernel
theorem dX10_chances_63 : decode cX10_chances 63 = .ok (.ireturn, 1) := by decide +kernel
theorem dX10_chances_64 : decode cX10_chances 64 = .ok (.iload_n 2, 1) := by decide +kernel
theorem dX10_chances_65 : decode cX10_chances 65 = .ok (.bipush 6, 2) := by decide +kernel
theorem dX10_chances_67 : decode cX10_chances 67 = .ok (.if_icmp .ge 9, 3) := by decide +kernel
theorem dX10_chances_70 : decode cX10_chances 70 = .ok (.iload_n 3, 1) := by decide +kernel
theorem dX10_chances_71 : decode cX10_chances 71 = .ok (.ifCond .ne 5, 3) := by decide +kernel
theorem dX10_chances_74 : decode cX10_chances 74 = .ok (.iconst 0, 1) := by decide +kernel
theorem dX10_chances_75 : decode cX10_chances 75 = .ok (.ireturn, 1) := by decide +kernel
theorem dX10_chances_76 : decode cX10_chances 76 = .ok (.iload_n 2, 1) := by decide +kernel
theorem dX10_chances_77 : decode cX10_chances 77 = .ok (.iconst 3, 1) := by decide +kernel
theorem dX10_chances_78 : decode cX10_chances 78 = .ok (.if_icmp .ne 31, 3) := by decide +kernel
theorem dX10_chances_81 : decode cX10_chances 81 = .ok (.aload_n 0, 1) := by decide +kernel
theorem dX10_chances_82 : decode cX10_chances 82 = .ok (.iload_n 3, 1) := by decide +kernel
theorem dX10_chances_83 : decode cX10_chances 83 = .ok (.invokevirtual 240, 3) := by decide +kernel
theorem dX10_chances_86 : decode cX10_chances 86 = .ok (.istore 4, 2) := by decide +kernel
theorem dX10_chances_88 : decode cX10_chances 88 = .ok (.aload_n 0, 1) := by decide +kernel
theorem dX10_chances_89 : decode cX10_chances 89 = .ok (.iload_n 1, 1) := by decide +kernel
theorem dX10_chances_90 : decode cX10_chances 90 = .ok (.iload 4, 2) := by decide +kernel
theorem dX10_chances_92 : decode cX10_chances 92 = .ok (.aload_n 0, 1) := by decide +kernel
theorem dX10_chances_93 : decode cX10_chances 93 = .ok (.iload_n 3, 1) := by decide +kernel
theorem dX10_chances_94 : decode cX10_chances 94 = .ok (.invokevirtual 240, 3) := by decide +kernel
theorem dX10_chances_97 : decode cX10_chances 97 = .ok (.invokevirtual 246, 3) := by decide +kernel
theorem dX10_chances_100 : decode cX10_chances 100 = .ok (.ifCond .lt 7, 3) := by decide +kernel
theorem dX10_chances_103 : decode cX10_chances 103 = .ok (.iconst 1, 1) := by decide +kernel
theorem dX10_chances_104 : decode cX10_chances 104 = .ok (.goto 4, 3) := by decide +kernel
theorem dX10_chances_107 : decode cX10_chances 107 = .ok (.iconst 0, 1) := by decide +kernel
theorem dX10_chances_108 : decode cX10_chances 108 = .ok (.ireturn, 1) := by decide +kernel
theorem dX10_chances_109 : decode cX10_chances 109 = .ok (.iload_n 2, 1) := by decide +kernel
theorem dX10_chances_110 : decode cX10_chances 110 = .ok (.iconst 4, 1) := by decide +kernel
theorem dX10_chances_111 : decode cX10_chances 111 = .ok (.if_icmp .ne 22, 3) := by decide +kernel
theorem dX10_chances_114 : decode cX10_chances 114 = .ok (.aload_n 0, 1) := by decide +kernel
theorem dX10_chances_115 : decode cX10_chances 115 = .ok (.iload_n 1, 1) := by decide +kernel
theorem dX10_chances_116 : decode cX10_chances 116 = .ok (.aload_n 0, 1) := by decide +kernel
theorem dX10_chances_117 : decode cX10_chances 117 = .ok (.iload_n 3, 1) := by decide +kernel
theorem dX10_chances_118 : decode cX10_chances 118 = .ok (.invokevirtual 240, 3) := by decide +kernel
theorem dX10_chances_121 : decode cX10_chances 121 = .ok (.invokevirtual 249, 3) := by decide +kernel
theorem dX10_chances_124 : decode cX10_chances 124 = .ok (.ifCond .lt 7, 3) := by decide +kernel
theorem dX10_chances_127 : decode cX10_chances 127 = .ok (.iconst 1, 1) := by decide +kernel
theorem dX10_chances_128 : decode cX10_chances 128 = .ok (.goto 4, 3) := by decide +kernel
theorem dX10_chances_131 : decode cX10_chances 131 = .ok (.iconst 0, 1) := by decide +kernel
theorem dX10_chances_132 : decode cX10_chances 132 = .ok (.ireturn, 1) := by decide +kernel
theorem dX10_chances_133 : decode cX10_chances 133 = .ok (.iload_n 2, 1) := by decide +kernel
theorem dX10_chances_134 : decode cX10_chances 134 = .ok (.iconst 5, 1) := by decide +kernel
theorem dX10_chances_135 : decode cX10_chances 135 = .ok (.if_icmp .ne 32, 3) := by decide +kernel
theorem dX10_chances_138 : decode cX10_chances 138 = .ok (.aload_n 0, 1) := by decide +kernel
theorem dX10_chances_139 : decode cX10_chances 139 = .ok (.iload_n 3, 1) := by decide +kernel
theorem dX10_chances_140 : decode cX10_chances 140 = .ok (.invokevirtual 240, 3) := by decide +kernel
theorem dX10_chances_143 : decode cX10_chances 143 = .ok (.istore 4, 2) := by decide +kernel
theorem dX10_chances_145 : decode cX10_chances 145 = .ok (.aload_n 0, 1) := by decide +kernel
theorem dX10_chances_146 : decode cX10_chances 146 = .ok (.iload_n 1, 1) := by decide +kernel
theorem dX10_chances_147 : decode cX10_chances 147 = .ok (.iload 4, 2) := by decide +kernel
theorem dX10_chances_149 : decode cX10_chances 149 = .ok (.aload_n 0, 1) := by decide +kernel
theorem dX10_chances_150 : decode cX10_chances 150 = .ok (.bipush 26, 2) := by decide +kernel
theorem dX10_chances_152 : decode cX10_chances 152 = .ok (.invokevirtual 240, 3) := by decide +kernel
theorem dX10_chances_155 : decode cX10_chances 155 = .ok (.invokevirtual 252, 3) := by decide +kernel
theorem dX10_chances_158 : decode cX10_chances 158 = .ok (.ifCond .lt 7, 3) := by decide +kernel
theorem dX10_chances_161 : decode cX10_chances 161 = .ok (.iconst 1, 1) := by decide +kernel
theorem dX10_chances_162 : decode cX10_chances 162 = .ok (.goto 4, 3) := by decide +kernel
theorem dX10_chances_165 : decode cX10_chances 165 = .ok (.iconst 0, 1) := by decide +kernel
theorem dX10_chances_166 : decode cX10_chances 166 = .ok (.ireturn, 1) := by decide +kernel
theorem dX10_chances_167 : decode cX10_chances 167 = .ok (.iload_n 2, 1) := by decide +kernel
theorem dX10_chances_168 : decode cX10_chances 168 = .ok (.bipush 6, 2) := by decide +kernel
theorem dX10_chances_170 : decode cX10_chances 170 = .ok (.if_icmp .ne 38, 3) := by decide +kernel
theorem dX10_chances_173 : decode cX10_chances 173 = .ok (.aload_n 0, 1) := by decide +kernel
theorem dX10_chances_174 : decode cX10_chances 174 = .ok (.iload_n 1, 1) := by decide +kernel
theorem dX10_chances_175 : decode cX10_chances 175 = .ok (.bipush 7, 2) := by decide +kernel
theorem dX10_chances_177 : decode cX10_chances 177 = .ok (.invokevirtual 81, 3) := by decide +kernel
theorem dX10_chances_180 : decode cX10_chances 180 = .ok (.ifCond .le 26, 3) := by decide +kernel
theorem dX10_chances_183 : decode cX10_chances 183 = .ok (.aload_n 0, 1) := by decide +kernel
theorem dX10_chances_184 : decode cX10_chances 184 = .ok (.iload_n 1, 1) := by decide +kernel
theorem dX10_chances_185 : decode cX10_chances 185 = .ok (.aload_n 0, 1) := by decide +kernel
theorem dX10_chances_186 : decode cX10_chances 186 = .ok (.aload_n 0, 1) := by decide +kernel
theorem dX10_chances_187 : decode cX10_chances 187 = .ok (.iload_n 1, 1) := by decide +kernel
theorem dX10_chances_188 : decode cX10_chances 188 = .ok (.bipush 7, 2) := by decide +kernel
theorem dX10_chances_190 : decode cX10_chances 190 = .ok (.invokevirtual 81, 3) := by decide +kernel
theorem dX10_chances_193 : decode cX10_chances 193 = .ok (.invokevirtual 240, 3) := by decide +kernel
theorem dX10_chances_196 : decode cX10_chances 196 = .ok (.invokevirtual 255, 3) := by decide +kernel
theorem dX10_chances_199 : decode cX10_chances 199 = .ok (.ifCond .lt 7, 3) := by decide +kernel
theorem dX10_chances_202 : decode cX10_chances 202 = .ok (.iconst 1, 1) := by decide +kernel
theorem dX10_chances_203 : decode cX10_chances 203 = .ok (.goto 4, 3) := by decide +kernel
theorem dX10_chances_206 : decode cX10_chances 206 = .ok (.iconst 0, 1) := by decide +kernel
theorem dX10_chances_207 : decode cX10_chances 207 = .ok (.ireturn, 1) := by decide +kernel
theorem dX10_chances_208 : decode cX10_chances 208 = .ok (.aload_n 0, 1) := by decide +kernel
theorem dX10_chances_209 : decode cX10_chances 209 = .ok (.aload_n 0, 1) := by decide +kernel
theorem dX10_chances_210 : decode cX10_chances 210 = .ok (.aload_n 0, 1) := by decide +kernel
theorem dX10_chances_211 : decode cX10_chances 211 = .ok (.getfield 13, 3) := by decide +kernel
theorem dX10_chances_214 : decode cX10_chances 214 = .ok (.iconst 0, 1) := by decide +kernel
theorem dX10_chances_215 : decode cX10_chances 215 = .ok (.iaload, 1) := by decide +kernel
theorem dX10_chances_216 : decode cX10_chances 216 = .ok (.invokevirtual 240, 3) := by decide +kernel
theorem dX10_chances_219 : decode cX10_chances 219 = .ok (.iload_n 1, 1) := by decide +kernel
theorem dX10_chances_220 : decode cX10_chances 220 = .ok (.invokevirtual 258, 3) := by decide +kernel
theorem dX10_chances_223 : decode cX10_chances 223 = .ok (.ifCond .lt 7, 3) := by decide +kernel
theorem dX10_chances_226 : decode cX10_chances 226 = .ok (.iconst 1, 1) := by decide +kernel
theorem dX10_chances_227 : decode cX10_chances 227 = .ok (.goto 4, 3) := by decide +kernel
theorem dX10_chances_230 : decode cX10_chances 230 = .ok (.iconst 0, 1) := by decide +kernel
theorem dX10_chances_231 : decode cX10_chances 231 = .ok (.ireturn, 1) := by decide +kernel
theorem dX10_chance_0 : decode cX10_chance 0 = .ok (.aload_n 0, 1) := by decide +kernel
theorem dX10_chance_1 : decode cX10_chance 1 = .ok (.iconst 0, 1) := by decide +kernel
theorem dX10_chance_2 : decode cX10_chance 2 = .ok (.putfield 1, 3) := by decide +kernel
theorem dX10_chance_5 : decode cX10_chance 5 = .ok (.iload_n 1, 1) := by decide +kernel
theorem dX10_chance_6 : decode cX10_chance 6 = .ok (.iconst 1, 1) := by decide +kernel
theorem dX10_chance_7 : decode cX10_chance 7 = .ok (.bipush 60, 2) := by decide +kernel
theorem dX10_chance_9 : decode cX10_chance 9 = .ok (.invokestatic 55, 3) := by decide +kernel
theorem dX10_chance_12 : decode cX10_chance 12 = .ok (.ifCond .ne 5, 3) := by decide +kernel
theorem dX10_chance_15 : decode cX10_chance 15 = .ok (.iconst (-1), 1) := by decide +kernel
theorem dX10_chance_16 : decode cX10_chance 16 = .ok (.ireturn, 1) := by decide +kernel
theorem dX10_chance_17 : decode cX10_chance 17 = .ok (.aload_n 0, 1) := by decide +kernel
theorem dX10_chance_18 : decode cX10_chance 18 = .ok (.iload_n 2, 1) := by decide +kernel
theorem dX10_chance_19 : decode cX10_chance 19 = .ok (.putfield 236, 3) := by decide +kernel
theorem dX10_chance_22 : decode cX10_chance 22 = .ok (.iconst 0, 1) := by decide +kernel
theorem dX10_chance_23 : decode cX10_chance 23 = .ok (.istore_n 3, 1) := by decide +kernel
theorem dX10_chance_24 : decode cX10_chance 24 = .ok (.iconst 0, 1) := by decide +kernel
theorem dX10_chance_25 : decode cX10_chance 25 = .ok (.istore 4, 2) := by decide +kernel
theorem dX10_chance_27 : decode cX10_chance 27 = .ok (.iload 4, 2) := by decide +kernel
theorem dX10_chance_29 : decode cX10_chance 29 = .ok (.iload_n 1, 1) := by decide +kernel
theorem dX10_chance_30 : decode cX10_chance 30 = .ok (.if_icmp .ge 24, 3) := by decide +kernel
theorem dX10_chance_33 : decode cX10_chance 33 = .ok (.iload_n 3, 1) := by decide +kernel
theorem dX10_chance_34 : decode cX10_chance 34 = .ok (.aload_n 0, 1) := by decide +kernel
theorem dX10_chance_35 : decode cX10_chance 35 = .ok (.invokevirtual 261, 3) := by decide +kernel
theorem dX10_chance_38 : decode cX10_chance 38 = .ok (.ifCond .eq 7, 3) := by decide +kernel
theorem dX10_chance_41 : decode cX10_chance 41 = .ok (.iconst 1, 1) := by decide +kernel
theorem dX10_chance_42 : decode cX10_chance 42 = .ok (.goto 4, 3) := by decide +kernel
theorem dX10_chance_45 : decode cX10_chance 45 = .ok (.iconst 0, 1) := by decide +kernel
theorem dX10_chance_46 : decode cX10_chance 46 = .ok (.iadd, 1) := by decide +kernel
theorem dX10_chance_47 : decode cX10_chance 47 = .ok (.istore_n 3, 1) := by decide +kernel
theorem dX10_chance_48 : decode cX10_chance 48 = .ok (.iinc 4 1, 3) := by decide +kernel
theorem dX10_chance_51 : decode cX10_chance 51 = .ok (.goto (-24), 3) := by decide +kernel
theorem dX10_chance_54 : decode cX10_chance 54 = .ok (.iload_n 3, 1) := by decide +kernel
theorem dX10_chance_55 : decode cX10_chance 55 = .ok (.ireturn, 1) := by decide +kernel
