theorem dX9_found_0 : decode cX9_found 0 = .ok (.aload_n 0, 1) := by decide +kernel
theorem dX9_found_1 : decode cX9_found 1 = .ok (.getfield 12, 3) := by decide +kernel
theorem dX9_found_4 : decode cX9_found 4 = .ok (.getfield 85, 3) := by decide +kernel
theorem dX9_found_7 : decode cX9_found 7 = .ok (.iload_n 1, 1) := by decide +kernel
theorem dX9_found_8 : decode cX9_found 8 = .ok (.invokevirtual 195, 3) := by decide +kernel
theorem dX9_found_11 : decode cX9_found 11 = .ok (.istore_n 3, 1) := by decide +kernel
theorem dX9_found_12 : decode cX9_found 12 = .ok (.iload_n 3, 1) := by decide +kernel
theorem dX9_found_13 : decode cX9_found 13 = .ok (.ifCond .ne 5, 3) := by decide +kernel
theorem dX9_found_16 : decode cX9_found 16 = .ok (.iconst (-1), 1) := by decide +kernel
theorem dX9_found_17 : decode cX9_found 17 = .ok (.ireturn, 1) := by decide +kernel
theorem dX9_found_18 : decode cX9_found 18 = .ok (.aload_n 0, 1) := by decide +kernel
theorem dX9_found_19 : decode cX9_found 19 = .ok (.iload_n 3, 1) := by decide +kernel
theorem dX9_found_20 : decode cX9_found 20 = .ok (.invokevirtual 113, 3) := by decide +kernel
theorem dX9_found_23 : decode cX9_found 23 = .ok (.aload_n 0, 1) := by decide +kernel
theorem dX9_found_24 : decode cX9_found 24 = .ok (.getfield 49, 3) := by decide +kernel
theorem dX9_found_27 : decode cX9_found 27 = .ok (.aload_n 0, 1) := by decide +kernel
theorem dX9_found_28 : decode cX9_found 28 = .ok (.getfield 27, 3) := by decide +kernel
theorem dX9_found_31 : decode cX9_found 31 = .ok (.aload_n 0, 1) := by decide +kernel
theorem dX9_found_32 : decode cX9_found 32 = .ok (.getfield 12, 3) := by decide +kernel
theorem dX9_found_35 : decode cX9_found 35 = .ok (.getfield 85, 3) := by decide +kernel
theorem dX9_found_38 : decode cX9_found 38 = .ok (.aload_n 0, 1) := by decide +kernel
theorem dX9_found_39 : decode cX9_found 39 = .ok (.getfield 49, 3) := by decide +kernel
theorem dX9_found_42 : decode cX9_found 42 = .ok (.invokevirtual 237, 3) := by decide +kernel
theorem dX9_found_45 : decode cX9_found 45 = .ok (.iload_n 2, 1) := by decide +kernel
theorem dX9_found_46 : decode cX9_found 46 = .ok (.invokestatic 217, 3) := by decide +kernel
theorem dX9_found_49 : decode cX9_found 49 = .ok (.ireturn, 1) := by decide +kernel
theorem dX9_rivals_0 : decode cX9_rivals 0 = .ok (.aload_n 0, 1) := by decide +kernel
theorem dX9_rivals_1 : decode cX9_rivals 1 = .ok (.getfield 12, 3) := by decide +kernel
theorem dX9_rivals_4 : decode cX9_rivals 4 = .ok (.getfield 85, 3) := by decide +kernel
theorem dX9_rivals_7 : decode cX9_rivals 7 = .ok (.iload_n 1, 1) := by decide +kernel
theorem dX9_rivals_8 : decode cX9_rivals 8 = .ok (.invokevirtual 195, 3) := by decide +kernel
theorem dX9_rivals_11 : decode cX9_rivals 11 = .ok (.istore_n 3, 1) := by decide +kernel
theorem dX9_rivals_12 : decode cX9_rivals 12 = .ok (.iload_n 3, 1) := by decide +kernel
theorem dX9_rivals_13 : decode cX9_rivals 13 = .ok (.ifCond .ne 5, 3) := by decide +kernel
theorem dX9_rivals_16 : decode cX9_rivals 16 = .ok (.iconst (-1), 1) := by decide +kernel
theorem dX9_rivals_17 : decode cX9_rivals 17 = .ok (.ireturn, 1) := by decide +kernel
theorem dX9_rivals_18 : decode cX9_rivals 18 = .ok (.aload_n 0, 1) := by decide +kernel
theorem dX9_rivals_19 : decode cX9_rivals 19 = .ok (.getfield 49, 3) := by decide +kernel
theorem dX9_rivals_22 : decode cX9_rivals 22 = .ok (.aload_n 0, 1) := by decide +kernel
theorem dX9_rivals_23 : decode cX9_rivals 23 = .ok (.iload_n 3, 1) := by decide +kernel
theorem dX9_rivals_24 : decode cX9_rivals 24 = .ok (.aload_n 0, 1) := by decide +kernel
theorem dX9_rivals_25 : decode cX9_rivals 25 = .ok (.getfield 49, 3) := by decide +kernel
theorem dX9_rivals_28 : decode cX9_rivals 28 = .ok (.invokevirtual 241, 3) := by decide +kernel
theorem dX9_rivals_31 : decode cX9_rivals 31 = .ok (.iload_n 2, 1) := by decide +kernel
theorem dX9_rivals_32 : decode cX9_rivals 32 = .ok (.invokestatic 217, 3) := by decide +kernel
theorem dX9_rivals_35 : decode cX9_rivals 35 = .ok (.ireturn, 1) := by decide +kernel
theorem dX9_has_0 : decode cX9_has 0 = .ok (.aload_n 0, 1) := by decide +kernel
theorem dX9_has_1 : decode cX9_has 1 = .ok (.getfield 12, 3) := by decide +kernel
theorem dX9_has_4 : decode cX9_has 4 = .ok (.iload_n 1, 1) := by decide +kernel
theorem dX9_has_5 : decode cX9_has 5 = .ok (.invokevirtual 63, 3) := by decide +kernel
theorem dX9_has_8 : decode cX9_has 8 = .ok (.ifCond .eq 33, 3) := by decide +kernel
theorem dX9_has_11 : decode cX9_has 11 = .ok (.aload_n 0, 1) := by decide +kernel
theorem dX9_has_12 : decode cX9_has 12 = .ok (.getfield 12, 3) := by decide +kernel
theorem dX9_has_15 : decode cX9_has 15 = .ok (.getfield 101, 3) := by decide +kernel
theorem dX9_has_18 : decode cX9_has 18 = .ok (.iload_n 1, 1) := by decide +kernel
theorem dX9_has_19 : decode cX9_has 19 = .ok (.aaload, 1) := by decide +kernel
theorem dX9_has_20 : decode cX9_has 20 = .ok (.aload_n 0, 1) := by decide +kernel
theorem dX9_has_21 : decode cX9_has 21 = .ok (.getfield 12, 3) := by decide +kernel
theorem dX9_has_24 : decode cX9_has 24 = .ok (.getfield 85, 3) := by decide +kernel
theorem dX9_has_27 : decode cX9_has 27 = .ok (.iload_n 2, 1) := by decide +kernel
theorem dX9_has_28 : decode cX9_has 28 = .ok (.invokevirtual 195, 3) := by decide +kernel
theorem dX9_has_31 : decode cX9_has 31 = .ok (.invokevirtual 244, 3) := by decide +kernel
theorem dX9_has_34 : decode cX9_has 34 = .ok (.ifCond .eq 7, 3) := by decide +kernel
theorem dX9_has_37 : decode cX9_has 37 = .ok (.iconst 1, 1) := by decide +kernel
theorem dX9_has_38 : decode cX9_has 38 = .ok (.goto 4, 3) := by decide +kernel
theorem dX9_has_41 : decode cX9_has 41 = .ok (.iconst 0, 1) := by decide +kernel
theorem dX9_has_42 : decode cX9_has 42 = .ok (.ireturn, 1) := by decide +kernel
theorem dX9_count_0 : decode cX9_count 0 = .ok (.aload_n 0, 1) := by decide +kernel
theorem dX9_count_1 : decode cX9_count 1 = .ok (.getfield 12, 3) := by decide +kernel
theorem dX9_count_4 : decode cX9_count 4 = .ok (.iload_n 1, 1) := by decide +kernel
theorem dX9_count_5 : decode cX9_count 5 = .ok (.invokevirtual 63, 3) := by decide +kernel
theorem dX9_count_8 : decode cX9_count 8 = .ok (.ifCond .ne 5, 3) := by decide +kernel
theorem dX9_count_11 : decode cX9_count 11 = .ok (.iconst (-1), 1) := by decide +kernel
theorem dX9_count_12 : decode cX9_count 12 = .ok (.ireturn, 1) := by decide +kernel
theorem dX9_count_13 : decode cX9_count 13 = .ok (.iload_n 2, 1) := by decide +kernel
theorem dX9_count_14 : decode cX9_count 14 = .ok (.tableswitch 166 0 7 #[46, 66, 81, 96, 109, 122, 135, 149], 46) := by decide +kernel
theorem dX9_count_60 : decode cX9_count 60 = .ok (.aload_n 0, 1) := by decide +kernel
theorem dX9_count_61 : decode cX9_count 61 = .ok (.getfield 12, 3) := by decide +kernel
theorem dX9_count_64 : decode cX9_count 64 = .ok (.getfield 101, 3) := by decide +kernel
theorem dX9_count_67 : decode cX9_count 67 = .ok (.iload_n 1, 1) := by decide +kernel
theorem dX9_count_68 : decode cX9_count 68 = .ok (.aaload, 1) := by decide +kernel
theorem dX9_count_69 : decode cX9_count 69 = .ok (.getfield 105, 3) := by decide +kernel
theorem dX9_count_72 : decode cX9_count 72 = .ok (.aload_n 0, 1) := by decide +kernel
theorem dX9_count_73 : decode cX9_count 73 = .ok (.getfield 49, 3) := by decide +kernel
theorem dX9_count_76 : decode cX9_count 76 = .ok (.invokevirtual 247, 3) := by decide +kernel
theorem dX9_count_79 : decode cX9_count 79 = .ok (.ireturn, 1) := by decide +kernel
theorem dX9_count_80 : decode cX9_count 80 = .ok (.aload_n 0, 1) := by decide +kernel
theorem dX9_count_81 : decode cX9_count 81 = .ok (.aload_n 0, 1) := by decide +kernel
theorem dX9_count_82 : decode cX9_count 82 = .ok (.getfield 12, 3) := by decide +kernel
theorem dX9_count_85 : decode cX9_count 85 = .ok (.getfield 101, 3) := by decide +kernel
theorem dX9_count_88 : decode cX9_count 88 = .ok (.iload_n 1, 1) := by decide +kernel
theorem dX9_count_89 : decode cX9_count 89 = .ok (.aaload, 1) := by decide +kernel
theorem dX9_count_90 : decode cX9_count 90 = .ok (.iconst 0, 1) := by decide +kernel
theorem dX9_count_91 : decode cX9_count 91 = .ok (.invokevirtual 251, 3) := by decide +kernel
theorem dX9_count_94 : decode cX9_count 94 = .ok (.ireturn, 1) := by decide +kernel
theorem dX9_count_95 : decode cX9_count 95 = .ok (.aload_n 0, 1) := by decide +kernel
theorem dX9_count_96 : decode cX9_count 96 = .ok (.aload_n 0, 1) := by decide +kernel
theorem dX9_count_97 : decode cX9_count 97 = .ok (.getfield 12, 3) := by decide +kernel
theorem dX9_count_100 : decode cX9_count 100 = .ok (.getfield 101, 3) := by decide +kernel
theorem dX9_count_103 : decode cX9_count 103 = .ok (.iload_n 1, 1) := by decide +kernel
theorem dX9_count_104 : decode cX9_count 104 = .ok (.aaload, 1) := by decide +kernel
theorem dX9_count_105 : decode cX9_count 105 = .ok (.iconst 1, 1) := by decide +kernel
theorem dX9_count_106 : decode cX9_count 106 = .ok (.invokevirtual 251, 3) := by decide +kernel
theorem dX9_count_109 : decode cX9_count 109 = .ok (.ireturn, 1) := by decide +kernel
theorem dX9_count_110 : decode cX9_count 110 = .ok (.aload_n 0, 1) := by decide +kernel
theorem dX9_count_111 : decode cX9_count 111 = .ok (.getfield 34, 3) := by decide +kernel
theorem dX9_count_114 : decode cX9_count 114 = .ok (.aload_n 0, 1) := by decide +kernel
theorem dX9_count_115 : decode cX9_count 115 = .ok (.getfield 12, 3) := by decide +kernel
theorem dX9_count_118 : decode cX9_count 118 = .ok (.iload_n 1, 1) := by decide +kernel
theorem dX9_count_119 : decode cX9_count 119 = .ok (.invokevirtual 169, 3) := by decide +kernel
theorem dX9_count_122 : decode cX9_count 122 = .ok (.ireturn, 1) := by decide +kernel
theorem dX9_count_123 : decode cX9_count 123 = .ok (.aload_n 0, 1) := by decide +kernel
theorem dX9_count_124 : decode cX9_count 124 = .ok (.getfield 12, 3) := by decide +kernel
theorem dX9_count_127 : decode cX9_count 127 = .ok (.getfield 101, 3) := by decide +kernel
theorem dX9_count_130 : decode cX9_count 130 = .ok (.iload_n 1, 1) := by decide +kernel
theorem dX9_count_131 : decode cX9_count 131 = .ok (.aaload, 1) := by decide +kernel
theorem dX9_count_132 : decode cX9_count 132 = .ok (.getfield 255, 3) := by decide +kernel
theorem dX9_count_135 : decode cX9_count 135 = .ok (.ireturn, 1) := by decide +kernel
theorem dX9_count_136 : decode cX9_count 136 = .ok (.aload_n 0, 1) := by decide +kernel
theorem dX9_count_137 : decode cX9_count 137 = .ok (.getfield 12, 3) := by decide +kernel
theorem dX9_count_140 : decode cX9_count 140 = .ok (.getfield 85, 3) := by decide +kernel
theorem dX9_count_143 : decode cX9_count 143 = .ok (.getfield 162, 3) := by decide +kernel
theorem dX9_count_146 : decode cX9_count 146 = .ok (.iload_n 1, 1) := by decide +kernel
theorem dX9_count_147 : decode cX9_count 147 = .ok (.iaload, 1) := by decide +kernel
theorem dX9_count_148 : decode cX9_count 148 = .ok (.ireturn, 1) := by decide +kernel
theorem dX9_count_149 : decode cX9_count 149 = .ok (.aload_n 0, 1) := by decide +kernel
theorem dX9_count_150 : decode cX9_count 150 = .ok (.aload_n 0, 1) := by decide +kernel
theorem dX9_count_151 : decode cX9_count 151 = .ok (.getfield 12, 3) := by decide +kernel
theorem dX9_count_154 : decode cX9_count 154 = .ok (.getfield 101, 3) := by decide +kernel
theorem dX9_count_157 : decode cX9_count 157 = .ok (.iload_n 1, 1) := by decide +kernel
theorem dX9_count_158 : decode cX9_count 158 = .ok (.aaload, 1) := by decide +kernel
theorem dX9_count_159 : decode cX9_count 159 = .ok (.invokevirtual 258, 3) := by decide +kernel
theorem dX9_count_162 : decode cX9_count 162 = .ok (.ireturn, 1) := by decide +kernel
theorem dX9_count_163 : decode cX9_count 163 = .ok (.aload_n 0, 1) := by decide +kernel
theorem dX9_count_164 : decode cX9_count 164 = .ok (.aload_n 0, 1) := by decide +kernel
theorem dX9_count_165 : decode cX9_count 165 = .ok (.getfield 12, 3) := by decide +kernel
theorem dX9_count_168 : decode cX9_count 168 = .ok (.getfield 101, 3) := by decide +kernel
theorem dX9_count_171 : decode cX9_count 171 = .ok (.iload_n 1, 1) := by decide +kernel
theorem dX9_count_172 : decode cX9_count 172 = .ok (.aaload, 1) := by decide +kernel
theorem dX9_count_173 : decode cX9_count 173 = .ok (.getfield 105, 3) := by decide +kernel
theorem dX9_count_176 : decode cX9_count 176 = .ok (.invokevirtual 262, 3) := by decide +kernel
theorem dX9_count_179 : decode cX9_count 179 = .ok (.ireturn, 1) := by decide +kernel
theorem dX9_count_180 : decode cX9_count 180 = .ok (.iconst (-1), 1) := by decide +kernel
theorem dX9_count_181 : decode cX9_count 181 = .ok (.ireturn, 1) := by decide +kernel
theorem dX9_place_0 : decode cX9_place 0 = .ok (.aload_n 0, 1) := by decide +kernel
theorem dX9_place_1 : decode cX9_place 1 = .ok (.getfield 12, 3) := by decide +kernel
theorem dX9_place_4 : decode cX9_place 4 = .ok (.iload_n 1, 1) := by decide +kernel
theorem dX9_place_5 : decode cX9_place 5 = .ok (.invokevirtual 63, 3) := by decide +kernel
theorem dX9_place_8 : decode cX9_place 8 = .ok (.ifCond .ne 5, 3) := by decide +kernel
theorem dX9_place_11 : decode cX9_place 11 = .ok (.iconst (-1), 1) := by decide +kernel
theorem dX9_place_12 : decode cX9_place 12 = .ok (.ireturn, 1) := by decide +kernel
theorem dX9_place_13 : decode cX9_place 13 = .ok (.aload_n 0, 1) := by decide +kernel
theorem dX9_place_14 : decode cX9_place 14 = .ok (.getfield 12, 3) := by decide +kernel
theorem dX9_place_17 : decode cX9_place 17 = .ok (.getfield 101, 3) := by decide +kernel
theorem dX9_place_20 : decode cX9_place 20 = .ok (.iload_n 1, 1) := by decide +kernel
theorem dX9_place_21 : decode cX9_place 21 = .ok (.aaload, 1) := by decide +kernel
theorem dX9_place_22 : decode cX9_place 22 = .ok (.getfield 105, 3) := by decide +kernel
theorem dX9_place_25 : decode cX9_place 25 = .ok (.aload_n 0, 1) := by decide +kernel
theorem dX9_place_26 : decode cX9_place 26 = .ok (.getfield 49, 3) := by decide +kernel
theorem dX9_place_29 : decode cX9_place 29 = .ok (.invokevirtual 247, 3) := by decide +kernel
theorem dX9_place_32 : decode cX9_place 32 = .ok (.istore_n 3, 1) := by decide +kernel
theorem dX9_place_33 : decode cX9_place 33 = .ok (.iload_n 2, 1) := by decide +kernel
theorem dX9_place_34 : decode cX9_place 34 = .ok (.ifCond .lt 8, 3) := by decide +kernel
theorem dX9_place_37 : decode cX9_place 37 = .ok (.iload_n 2, 1) := by decide +kernel
theorem dX9_place_38 : decode cX9_place 38 = .ok (.iload_n 3, 1) := by decide +kernel
theorem dX9_place_39 : decode cX9_place 39 = .ok (.if_icmp .lt 7, 3) := by decide +kernel
theorem dX9_place_42 : decode cX9_place 42 = .ok (.iconst (-1), 1) := by decide +kernel
theorem dX9_place_43 : decode cX9_place 43 = .ok (.goto 12, 3) := by decide +kernel
theorem dX9_place_46 : decode cX9_place 46 = .ok (.aload_n 0, 1) := by decide +kernel
theorem dX9_place_47 : decode cX9_place 47 = .ok (.getfield 49, 3) := by decide +kernel
theorem dX9_place_50 : decode cX9_place 50 = .ok (.iload_n 2, 1) := by decide +kernel
theorem dX9_place_51 : decode cX9_place 51 = .ok (.iaload, 1) := by decide +kernel
theorem dX9_place_52 : decode cX9_place 52 = .ok (.invokestatic 149, 3) := by decide +kernel
theorem dX9_place_55 : decode cX9_place 55 = .ok (.ireturn, 1) := by decide +kernel
theorem dX9_unlike_0 : decode cX9_unlike 0 = .ok (.aload_n 0, 1) := by decide +kernel
theorem dX9_unlike_1 : decode cX9_unlike 1 = .ok (.getfield 12, 3) := by decide +kernel
theorem dX9_unlike_4 : decode cX9_unlike 4 = .ok (.iload_n 1, 1) := by decide +kernel
theorem dX9_unlike_5 : decode cX9_unlike 5 = .ok (.invokevirtual 63, 3) := by decide +kernel
theorem dX9_unlike_8 : decode cX9_unlike 8 = .ok (.ifCond .eq 14, 3) := by decide +kernel
theorem dX9_unlike_11 : decode cX9_unlike 11 = .ok (.aload_n 0, 1) := by decide +kernel
theorem dX9_unlike_12 : decode cX9_unlike 12 = .ok (.getfield 12, 3) := by decide +kernel
theorem dX9_unlike_15 : decode cX9_unlike 15 = .ok (.iload_n 2, 1) := by decide +kernel
theorem dX9_unlike_16 : decode cX9_unlike 16 = .ok (.invokevirtual 63, 3) := by decide +kernel
theorem dX9_unlike_19 : decode cX9_unlike 19 = .ok (.ifCond .ne 5, 3) := by decide +kernel
theorem dX9_unlike_22 : decode cX9_unlike 22 = .ok (.iconst (-1), 1) := by decide +kernel
theorem dX9_unlike_23 : decode cX9_unlike 23 = .ok (.ireturn, 1) := by decide +kernel
theorem dX9_unlike_24 : decode cX9_unlike 24 = .ok (.aload_n 0, 1) := by decide +kernel
theorem dX9_unlike_25 : decode cX9_unlike 25 = .ok (.iload_n 1, 1) := by decide +kernel
theorem dX9_unlike_26 : decode cX9_unlike 26 = .ok (.aload_n 0, 1) := by decide +kernel
theorem dX9_unlike_27 : decode cX9_unlike 27 = .ok (.getfield 49, 3) := by decide +kernel
theorem dX9_unlike_30 : decode cX9_unlike 30 = .ok (.invokevirtual 70, 3) := by decide +kernel
theorem dX9_unlike_33 : decode cX9_unlike 33 = .ok (.istore_n 3, 1) := by decide +kernel
theorem dX9_unlike_34 : decode cX9_unlike 34 = .ok (.aload_n 0, 1) := by decide +kernel
theorem dX9_unlike_35 : decode cX9_unlike 35 = .ok (.iload_n 2, 1) := by decide +kernel
theorem dX9_unlike_36 : decode cX9_unlike 36 = .ok (.aload_n 0, 1) := by decide +kernel
theorem dX9_unlike_37 : decode cX9_unlike 37 = .ok (.getfield 53, 3) := by decide +kernel
theorem dX9_unlike_40 : decode cX9_unlike 40 = .ok (.invokevirtual 70, 3) := by decide +kernel
theorem dX9_unlike_43 : decode cX9_unlike 43 = .ok (.istore 4, 2) := by decide +kernel
theorem dX9_unlike_45 : decode cX9_unlike 45 = .ok (.iload_n 3, 1) := by decide +kernel
theorem dX9_unlike_46 : decode cX9_unlike 46 = .ok (.iload 4, 2) := by decide +kernel
theorem dX9_unlike_48 : decode cX9_unlike 48 = .ok (.invokestatic 266, 3) := by decide +kernel
theorem dX9_unlike_51 : decode cX9_unlike 51 = .ok (.iload_n 3, 1) := by decide +kernel
theorem dX9_unlike_52 : decode cX9_unlike 52 = .ok (.iload 4, 2) := by decide +kernel
theorem dX9_unlike_54 : decode cX9_unlike 54 = .ok (.invokestatic 271, 3) := by decide +kernel
theorem dX9_unlike_57 : decode cX9_unlike 57 = .ok (.isub, 1) := by decide +kernel
theorem dX9_unlike_58 : decode cX9_unlike 58 = .ok (.istore 5, 2) := by decide +kernel
theorem dX9_unlike_60 : decode cX9_unlike 60 = .ok (.iconst 0, 1) := by decide +kernel
theorem dX9_unlike_61 : decode cX9_unlike 61 = .ok (.istore 6, 2) := by decide +kernel
theorem dX9_unlike_63 : decode cX9_unlike 63 = .ok (.iload 6, 2) := by decide +kernel
theorem dX9_unlike_65 : decode cX9_unlike 65 = .ok (.iload_n 3, 1) := by decide +kernel
theorem dX9_unlike_66 : decode cX9_unlike 66 = .ok (.if_icmp .ge 36, 3) := by decide +kernel
theorem dX9_unlike_69 : decode cX9_unlike 69 = .ok (.iload 6, 2) := by decide +kernel
theorem dX9_unlike_71 : decode cX9_unlike 71 = .ok (.iload 4, 2) := by decide +kernel
theorem dX9_unlike_73 : decode cX9_unlike 73 = .ok (.if_icmp .ge 29, 3) := by decide +kernel
theorem dX9_unlike_76 : decode cX9_unlike 76 = .ok (.aload_n 0, 1) := by decide +kernel
theorem dX9_unlike_77 : decode cX9_unlike 77 = .ok (.getfield 49, 3) := by decide +kernel
theorem dX9_unlike_80 : decode cX9_unlike 80 = .ok (.iload 6, 2) := by decide +kernel
theorem dX9_unlike_82 : decode cX9_unlike 82 = .ok (.iaload, 1) := by decide +kernel
theorem dX9_unlike_83 : decode cX9_unlike 83 = .ok (.aload_n 0, 1) := by decide +kernel
theorem dX9_unlike_84 : decode cX9_unlike 84 = .ok (.getfield 53, 3) := by decide +kernel
theorem dX9_unlike_87 : decode cX9_unlike 87 = .ok (.iload 6, 2) := by decide +kernel
theorem dX9_unlike_89 : decode cX9_unlike 89 = .ok (.iaload, 1) := by decide +kernel
theorem dX9_unlike_90 : decode cX9_unlike 90 = .ok (.if_icmp .eq 6, 3) := by decide +kernel
theorem dX9_unlike_93 : decode cX9_unlike 93 = .ok (.iinc 5 1, 3) := by decide +kernel
theorem dX9_unlike_96 : decode cX9_unlike 96 = .ok (.iinc 6 1, 3) := by decide +kernel
theorem dX9_unlike_99 : decode cX9_unlike 99 = .ok (.goto (-36), 3) := by decide +kernel
theorem dX9_unlike_102 : decode cX9_unlike 102 = .ok (.iload 5, 2) := by decide +kernel
theorem dX9_unlike_104 : decode cX9_unlike 104 = .ok (.ireturn, 1) := by decide +kernel
theorem dX9_edits_0 : decode cX9_edits 0 = .ok (.aload_n 0, 1) := by decide +kernel
theorem dX9_edits_1 : decode cX9_edits 1 = .ok (.getfield 12, 3) := by decide +kernel
theorem dX9_edits_4 : decode cX9_edits 4 = .ok (.iload_n 1, 1) := by decide +kernel
theorem dX9_edits_5 : decode cX9_edits 5 = .ok (.invokevirtual 63, 3) := by decide +kernel
theorem dX9_edits_8 : decode cX9_edits 8 = .ok (.ifCond .eq 14, 3) := by decide +kernel
theorem dX9_edits_11 : decode cX9_edits 11 = .ok (.aload_n 0, 1) := by decide +kernel
theorem dX9_edits_12 : decode cX9_edits 12 = .ok (.getfield 12, 3) := by decide +kernel
theorem dX9_edits_15 : decode cX9_edits 15 = .ok (.iload_n 2, 1) := by decide +kernel
theorem dX9_edits_16 : decode cX9_edits 16 = .ok (.invokevirtual 63, 3) := by decide +kernel
theorem dX9_edits_19 : decode cX9_edits 19 = .ok (.ifCond .ne 5, 3) := by decide +kernel
theorem dX9_edits_22 : decode cX9_edits 22 = .ok (.iconst (-1), 1) := by decide +kernel
theorem dX9_edits_23 : decode cX9_edits 23 = .ok (.ireturn, 1) := by decide +kernel
theorem dX9_edits_24 : decode cX9_edits 24 = .ok (.aload_n 0, 1) := by decide +kernel
theorem dX9_edits_25 : decode cX9_edits 25 = .ok (.iload_n 1, 1) := by decide +kernel
theorem dX9_edits_26 : decode cX9_edits 26 = .ok (.aload_n 0, 1) := by decide +kernel
theorem dX9_edits_27 : decode cX9_edits 27 = .ok (.getfield 49, 3) := by decide +kernel
theorem dX9_edits_30 : decode cX9_edits 30 = .ok (.invokevirtual 70, 3) := by decide +kernel
theorem dX9_edits_33 : decode cX9_edits 33 = .ok (.istore_n 3, 1) := by decide +kernel
theorem dX9_edits_34 : decode cX9_edits 34 = .ok (.aload_n 0, 1) := by decide +kernel
theorem dX9_edits_35 : decode cX9_edits 35 = .ok (.iload_n 2, 1) := by decide +kernel
theorem dX9_edits_36 : decode cX9_edits 36 = .ok (.aload_n 0, 1) := by decide +kernel
theorem dX9_edits_37 : decode cX9_edits 37 = .ok (.getfield 53, 3) := by decide +kernel
theorem dX9_edits_40 : decode cX9_edits 40 = .ok (.invokevirtual 70, 3) := by decide +kernel
theorem dX9_edits_43 : decode cX9_edits 43 = .ok (.istore 4, 2) := by decide +kernel
theorem dX9_edits_45 : decode cX9_edits 45 = .ok (.iload_n 3, 1) := by decide +kernel
theorem dX9_edits_46 : decode cX9_edits 46 = .ok (.iload 4, 2) := by decide +kernel
theorem dX9_edits_48 : decode cX9_edits 48 = .ok (.iadd, 1) := by decide +kernel
theorem dX9_edits_49 : decode cX9_edits 49 = .ok (.iconst 2, 1) := by decide +kernel
theorem dX9_edits_50 : decode cX9_edits 50 = .ok (.aload_n 0, 1) := by decide +kernel
theorem dX9_edits_51 : decode cX9_edits 51 = .ok (.iload_n 3, 1) := by decide +kernel
theorem dX9_edits_52 : decode cX9_edits 52 = .ok (.iload 4, 2) := by decide +kernel
theorem dX9_edits_54 : decode cX9_edits 54 = .ok (.invokevirtual 274, 3) := by decide +kernel
theorem dX9_edits_57 : decode cX9_edits 57 = .ok (.imul, 1) := by decide +kernel
theorem dX9_edits_58 : decode cX9_edits 58 = .ok (.isub, 1) := by decide +kernel
theorem dX9_edits_59 : decode cX9_edits 59 = .ok (.ireturn, 1) := by decide +kernel
theorem dX9_settled_0 : decode cX9_settled 0 = .ok (.iload_n 2, 1) := by decide +kernel
theorem dX9_settled_1 : decode cX9_settled 1 = .ok (.ifCond .lt 8, 3) := by decide +kernel
theorem dX9_settled_4 : decode cX9_settled 4 = .ok (.iload_n 2, 1) := by decide +kernel
theorem dX9_settled_5 : decode cX9_settled 5 = .ok (.iconst 1, 1) := by decide +kernel
theorem dX9_settled_6 : decode cX9_settled 6 = .ok (.if_icmp .le 5, 3) := by decide +kernel
theorem dX9_settled_9 : decode cX9_settled 9 = .ok (.iconst (-1), 1) := by decide +kernel
theorem dX9_settled_10 : decode cX9_settled 10 = .ok (.ireturn, 1) := by decide +kernel
theorem dX9_settled_11 : decode cX9_settled 11 = .ok (.aload_n 0, 1) := by decide +kernel
theorem dX9_settled_12 : decode cX9_settled 12 = .ok (.getfield 27, 3) := by decide +kernel
theorem dX9_settled_15 : decode cX9_settled 15 = .ok (.aload_n 0, 1) := by decide +kernel
theorem dX9_settled_16 : decode cX9_settled 16 = .ok (.getfield 12, 3) := by decide +kernel
theorem dX9_settled_19 : decode cX9_settled 19 = .ok (.getfield 85, 3) := by decide +kernel
theorem dX9_settled_22 : decode cX9_settled 22 = .ok (.aload_n 0, 1) := by decide +kernel
theorem dX9_settled_23 : decode cX9_settled 23 = .ok (.getfield 12, 3) := by decide +kernel
theorem dX9_settled_26 : decode cX9_settled 26 = .ok (.getfield 85, 3) := by decide +kernel
theorem dX9_settled_29 : decode cX9_settled 29 = .ok (.getfield 162, 3) := by decide +kernel
theorem dX9_settled_32 : decode cX9_settled 32 = .ok (.iconst 0, 1) := by decide +kernel
theorem dX9_settled_33 : decode cX9_settled 33 = .ok (.invokevirtual 277, 3) := by decide +kernel
theorem dX9_settled_36 : decode cX9_settled 36 = .ok (.aload_n 0, 1) := by decide +kernel
theorem dX9_settled_37 : decode cX9_settled 37 = .ok (.getfield 27, 3) := by decide +kernel
theorem dX9_settled_40 : decode cX9_settled 40 = .ok (.aload_n 0, 1) := by decide +kernel
theorem dX9_settled_41 : decode cX9_settled 41 = .ok (.getfield 12, 3) := by decide +kernel
theorem dX9_settled_44 : decode cX9_settled 44 = .ok (.getfield 85, 3) := by decide +kernel
theorem dX9_settled_47 : decode cX9_settled 47 = .ok (.aload_n 0, 1) := by decide +kernel
theorem dX9_settled_48 : decode cX9_settled 48 = .ok (.getfield 49, 3) := by decide +kernel
theorem dX9_settled_51 : decode cX9_settled 51 = .ok (.invokevirtual 237, 3) := by decide +kernel
theorem dX9_settled_54 : decode cX9_settled 54 = .ok (.istore_n 3, 1) := by decide +kernel
theorem dX9_settled_55 : decode cX9_settled 55 = .ok (.iload_n 2, 1) := by decide +kernel
theorem dX9_settled_56 : decode cX9_settled 56 = .ok (.ifCond .eq 12, 3) := by decide +kernel
theorem dX9_settled_59 : decode cX9_settled 59 = .ok (.iload_n 1, 1) := by decide +kernel
theorem dX9_settled_60 : decode cX9_settled 60 = .ok (.ifCond .lt 8, 3) := by decide +kernel
theorem dX9_settled_63 : decode cX9_settled 63 = .ok (.iload_n 1, 1) := by decide +kernel
theorem dX9_settled_64 : decode cX9_settled 64 = .ok (.iload_n 3, 1) := by decide +kernel
theorem dX9_settled_65 : decode cX9_settled 65 = .ok (.if_icmp .lt 13, 3) := by decide +kernel
theorem dX9_settled_68 : decode cX9_settled 68 = .ok (.aload_n 0, 1) := by decide +kernel
theorem dX9_settled_69 : decode cX9_settled 69 = .ok (.getfield 49, 3) := by decide +kernel
theorem dX9_settled_72 : decode cX9_settled 72 = .ok (.iload_n 3, 1) := by decide +kernel
theorem dX9_settled_73 : decode cX9_settled 73 = .ok (.iload_n 1, 1) := by decide +kernel
theorem dX9_settled_74 : decode cX9_settled 74 = .ok (.invokestatic 217, 3) := by decide +kernel
theorem dX9_settled_77 : decode cX9_settled 77 = .ok (.ireturn, 1) := by decide +kernel
theorem dX9_settled_78 : decode cX9_settled 78 = .ok (.aload_n 0, 1) := by decide +kernel
theorem dX9_settled_79 : decode cX9_settled 79 = .ok (.getfield 27, 3) := by decide +kernel
theorem dX9_settled_82 : decode cX9_settled 82 = .ok (.aload_n 0, 1) := by decide +kernel
theorem dX9_settled_83 : decode cX9_settled 83 = .ok (.getfield 12, 3) := by decide +kernel
theorem dX9_settled_86 : decode cX9_settled 86 = .ok (.getfield 85, 3) := by decide +kernel
theorem dX9_settled_89 : decode cX9_settled 89 = .ok (.aload_n 0, 1) := by decide +kernel
theorem dX9_settled_90 : decode cX9_settled 90 = .ok (.getfield 49, 3) := by decide +kernel
theorem dX9_settled_93 : decode cX9_settled 93 = .ok (.iload_n 1, 1) := by decide +kernel
theorem dX9_settled_94 : decode cX9_settled 94 = .ok (.iaload, 1) := by decide +kernel
theorem dX9_settled_95 : decode cX9_settled 95 = .ok (.invokevirtual 116, 3) := by decide +kernel
theorem dX9_settled_98 : decode cX9_settled 98 = .ok (.ireturn, 1) := by decide +kernel
theorem dX9_all_0 : decode cX9_all 0 = .ok (.iload_n 1, 1) := by decide +kernel
theorem dX9_all_1 : decode cX9_all 1 = .ok (.tableswitch 110 0 7 #[47, 58, 69, 74, 79, 87, 92, 105], 47) := by decide +kernel
theorem dX9_all_48 : decode cX9_all 48 = .ok (.aload_n 0, 1) := by decide +kernel
theorem dX9_all_49 : decode cX9_all 49 = .ok (.getfield 12, 3) := by decide +kernel
theorem dX9_all_52 : decode cX9_all 52 = .ok (.getfield 85, 3) := by decide +kernel
theorem dX9_all_55 : decode cX9_all 55 = .ok (.getfield 281, 3) := by decide +kernel
theorem dX9_all_58 : decode cX9_all 58 = .ok (.ireturn, 1) := by decide +kernel
theorem dX9_all_59 : decode cX9_all 59 = .ok (.aload_n 0, 1) := by decide +kernel
theorem dX9_all_60 : decode cX9_all 60 = .ok (.getfield 12, 3) := by decide +kernel
theorem dX9_all_63 : decode cX9_all 63 = .ok (.getfield 85, 3) := by decide +kernel
theorem dX9_all_66 : decode cX9_all 66 = .ok (.getfield 283, 3) := by decide +kernel
theorem dX9_all_69 : decode cX9_all 69 = .ok (.ireturn, 1) := by decide +kernel
theorem dX9_all_70 : decode cX9_all 70 = .ok (.aload_n 0, 1) := by decide +kernel
theorem dX9_all_71 : decode cX9_all 71 = .ok (.invokevirtual 286, 3) := by decide +kernel
theorem dX9_all_74 : decode cX9_all 74 = .ok (.ireturn, 1) := by decide +kernel
theorem dX9_all_75 : decode cX9_all 75 = .ok (.aload_n 0, 1) := by decide +kernel
theorem dX9_all_76 : decode cX9_all 76 = .ok (.invokevirtual 289, 3) := by decide +kernel
theorem dX9_all_79 : decode cX9_all 79 = .ok (.ireturn, 1) := by decide +kernel
theorem dX9_all_80 : decode cX9_all 80 = .ok (.aload_n 0, 1) := by decide +kernel
theorem dX9_all_81 : decode cX9_all 81 = .ok (.getfield 12, 3) := by decide +kernel
theorem dX9_all_84 : decode cX9_all 84 = .ok (.getfield 146, 3) := by decide +kernel
theorem dX9_all_87 : decode cX9_all 87 = .ok (.ireturn, 1) := by decide +kernel
theorem dX9_all_88 : decode cX9_all 88 = .ok (.aload_n 0, 1) := by decide +kernel
theorem dX9_all_89 : decode cX9_all 89 = .ok (.getfield 292, 3) := by decide +kernel
theorem dX9_all_92 : decode cX9_all 92 = .ok (.ireturn, 1) := by decide +kernel
theorem dX9_all_93 : decode cX9_all 93 = .ok (.aload_n 0, 1) := by decide +kernel
theorem dX9_all_94 : decode cX9_all 94 = .ok (.invokevirtual 295, 3) := by decide +kernel
theorem dX9_all_97 : decode cX9_all 97 = .ok (.ifCond .eq 7, 3) := by decide +kernel
theorem dX9_all_100 : decode cX9_all 100 = .ok (.iconst 1, 1) := by decide +kernel
theorem dX9_all_101 : decode cX9_all 101 = .ok (.goto 4, 3) := by decide +kernel
theorem dX9_all_104 : decode cX9_all 104 = .ok (.iconst 0, 1) := by decide +kernel
theorem dX9_all_105 : decode cX9_all 105 = .ok (.ireturn, 1) := by decide +kernel
theorem dX9_all_106 : decode cX9_all 106 = .ok (.aload_n 0, 1) := by decide +kernel
theorem dX9_all_107 : decode cX9_all 107 = .ok (.invokevirtual 299, 3) := by decide +kernel
theorem dX9_all_110 : decode cX9_all 110 = .ok (.ireturn, 1) := by decide +kernel
theorem dX9_all_111 : decode cX9_all 111 = .ok (.iconst (-1), 1) := by decide +kernel
theorem dX9_all_112 : decode cX9_all 112 = .ok (.ireturn, 1) := by decide +kernel
theorem dX9_feed_0 : decode cX9_feed 0 = .ok (.aload_n 0, 1) := by decide +kernel
theorem dX9_feed_1 : decode cX9_feed 1 = .ok (.getfield 292, 3) := by decide +kernel
theorem dX9_feed_4 : decode cX9_feed 4 = .ok (.bipush 20, 2) := by decide +kernel
theorem dX9_feed_6 : decode cX9_feed 6 = .ok (.iadd, 1) := by decide +kernel
theorem dX9_feed_7 : decode cX9_feed 7 = .ok (.sipush 400, 3) := by decide +kernel
theorem dX9_feed_10 : decode cX9_feed 10 = .ok (.if_icmp .le 5, 3) := by decide +kernel
theorem dX9_feed_13 : decode cX9_feed 13 = .ok (.iconst (-1), 1) := by decide +kernel
theorem dX9_feed_14 : decode cX9_feed 14 = .ok (.ireturn, 1) := by decide +kernel
theorem dX9_feed_15 : decode cX9_feed 15 = .ok (.aload_n 0, 1) := by decide +kernel
theorem dX9_feed_16 : decode cX9_feed 16 = .ok (.iload_n 1, 1) := by decide +kernel
theorem dX9_feed_17 : decode cX9_feed 17 = .ok (.invokevirtual 302, 3) := by decide +kernel
theorem dX9_feed_20 : decode cX9_feed 20 = .ok (.aload_n 0, 1) := by decide +kernel
theorem dX9_feed_21 : decode cX9_feed 21 = .ok (.iload_n 2, 1) := by decide +kernel
theorem dX9_feed_22 : decode cX9_feed 22 = .ok (.invokevirtual 302, 3) := by decide +kernel
theorem dX9_feed_25 : decode cX9_feed 25 = .ok (.aload_n 0, 1) := by decide +kernel
theorem dX9_feed_26 : decode cX9_feed 26 = .ok (.iload_n 3, 1) := by decide +kernel
theorem dX9_feed_27 : decode cX9_feed 27 = .ok (.invokevirtual 302, 3) := by decide +kernel
theorem dX9_feed_30 : decode cX9_feed 30 = .ok (.aload_n 0, 1) := by decide +kernel
theorem dX9_feed_31 : decode cX9_feed 31 = .ok (.iload 4, 2) := by decide +kernel
theorem dX9_feed_33 : decode cX9_feed 33 = .ok (.invokevirtual 302, 3) := by decide +kernel
theorem dX9_feed_36 : decode cX9_feed 36 = .ok (.aload_n 0, 1) := by decide +kernel
theorem dX9_feed_37 : decode cX9_feed 37 = .ok (.iload 5, 2) := by decide +kernel
theorem dX9_feed_39 : decode cX9_feed 39 = .ok (.invokevirtual 302, 3) := by decide +kernel
theorem dX9_feed_42 : decode cX9_feed 42 = .ok (.aload_n 0, 1) := by decide +kernel
theorem dX9_feed_43 : decode cX9_feed 43 = .ok (.getfield 292, 3) := by decide +kernel
theorem dX9_feed_46 : decode cX9_feed 46 = .ok (.ireturn, 1) := by decide +kernel
theorem dX9_script_0 : decode cX9_script 0 = .ok (.iload_n 1, 1) := by decide +kernel
theorem dX9_script_1 : decode cX9_script 1 = .ok (.ifCond .lt 11, 3) := by decide +kernel
theorem dX9_script_4 : decode cX9_script 4 = .ok (.iload_n 1, 1) := by decide +kernel
theorem dX9_script_5 : decode cX9_script 5 = .ok (.aload_n 0, 1) := by decide +kernel
theorem dX9_script_6 : decode cX9_script 6 = .ok (.getfield 292, 3) := by decide +kernel
theorem dX9_script_9 : decode cX9_script 9 = .ok (.if_icmp .le 5, 3) := by decide +kernel
theorem dX9_script_12 : decode cX9_script 12 = .ok (.iconst (-1), 1) := by decide +kernel
theorem dX9_script_13 : decode cX9_script 13 = .ok (.ireturn, 1) := by decide +kernel
theorem dX9_script_14 : decode cX9_script 14 = .ok (.aload_n 0, 1) := by decide +kernel
theorem dX9_script_15 : decode cX9_script 15 = .ok (.iconst 0, 1) := by decide +kernel
theorem dX9_script_16 : decode cX9_script 16 = .ok (.putfield 292, 3) := by decide +kernel
theorem dX9_script_19 : decode cX9_script 19 = .ok (.aload_n 0, 1) := by decide +kernel
theorem dX9_script_20 : decode cX9_script 20 = .ok (.getfield 41, 3) := by decide +kernel
theorem dX9_script_23 : decode cX9_script 23 = .ok (.aload_n 0, 1) := by decide +kernel
theorem dX9_script_24 : decode cX9_script 24 = .ok (.getfield 45, 3) := by decide +kernel
theorem dX9_script_27 : decode cX9_script 27 = .ok (.iload_n 1, 1) := by decide +kernel
theorem dX9_script_28 : decode cX9_script 28 = .ok (.invokevirtual 305, 3) := by decide +kernel
theorem dX9_script_31 : decode cX9_script 31 = .ok (.ifCond .ne 14, 3) := by decide +kernel
theorem dX9_script_34 : decode cX9_script 34 = .ok (.bipush (-2), 2) := by decide +kernel
theorem dX9_script_36 : decode cX9_script 36 = .ok (.aload_n 0, 1) := by decide +kernel
theorem dX9_script_37 : decode cX9_script 37 = .ok (.getfield 41, 3) := by decide +kernel
theorem dX9_script_40 : decode cX9_script 40 = .ok (.getfield 309, 3) := by decide +kernel
theorem dX9_script_43 : decode cX9_script 43 = .ok (.isub, 1) := by decide +kernel
theorem dX9_script_44 : decode cX9_script 44 = .ok (.ireturn, 1) := by decide +kernel
theorem dX9_script_45 : decode cX9_script 45 = .ok (.iconst 0, 1) := by decide +kernel
theorem dX9_script_46 : decode cX9_script 46 = .ok (.istore_n 2, 1) := by decide +kernel
theorem dX9_script_47 : decode cX9_script 47 = .ok (.iload_n 2, 1) := by decide +kernel
theorem dX9_script_48 : decode cX9_script 48 = .ok (.aload_n 0, 1) := by decide +kernel
theorem dX9_script_49 : decode cX9_script 49 = .ok (.getfield 41, 3) := by decide +kernel
theorem dX9_script_52 : decode cX9_script 52 = .ok (.getfield 312, 3) := by decide +kernel
theorem dX9_script_55 : decode cX9_script 55 = .ok (.if_icmp .ge 21, 3) := by decide +kernel
theorem dX9_script_58 : decode cX9_script 58 = .ok (.aload_n 0, 1) := by decide +kernel
theorem dX9_script_59 : decode cX9_script 59 = .ok (.iload_n 2, 1) := by decide +kernel
theorem dX9_script_60 : decode cX9_script 60 = .ok (.iconst 4, 1) := by decide +kernel
theorem dX9_script_61 : decode cX9_script 61 = .ok (.imul, 1) := by decide +kernel
theorem dX9_script_62 : decode cX9_script 62 = .ok (.invokevirtual 315, 3) := by decide +kernel
theorem dX9_script_65 : decode cX9_script 65 = .ok (.ifCond .ne 5, 3) := by decide +kernel
theorem dX9_script_68 : decode cX9_script 68 = .ok (.iload_n 2, 1) := by decide +kernel
theorem dX9_script_69 : decode cX9_script 69 = .ok (.ireturn, 1) := by decide +kernel
theorem dX9_script_70 : decode cX9_script 70 = .ok (.iinc 2 1, 3) := by decide +kernel
theorem dX9_script_73 : decode cX9_script 73 = .ok (.goto (-26), 3) := by decide +kernel
theorem dX9_script_76 : decode cX9_script 76 = .ok (.aload_n 0, 1) := by decide +kernel
theorem dX9_script_77 : decode cX9_script 77 = .ok (.getfield 41, 3) := by decide +kernel
theorem dX9_script_80 : decode cX9_script 80 = .ok (.getfield 312, 3) := by decide +kernel
theorem dX9_script_83 : decode cX9_script 83 = .ok (.ireturn, 1) := by decide +kernel
theorem dX9_image_0 : decode cX9_image 0 = .ok (.iload_n 1, 1) := by decide +kernel
theorem dX9_image_1 : decode cX9_image 1 = .ok (.ifCond .lt 8, 3) := by decide +kernel
theorem dX9_image_4 : decode cX9_image 4 = .ok (.iload_n 1, 1) := by decide +kernel
theorem dX9_image_5 : decode cX9_image 5 = .ok (.iconst 2, 1) := by decide +kernel
theorem dX9_image_6 : decode cX9_image 6 = .ok (.if_icmp .lt 5, 3) := by decide +kernel
theorem dX9_image_9 : decode cX9_image 9 = .ok (.iconst 0, 1) := by decide +kernel
theorem dX9_image_10 : decode cX9_image 10 = .ok (.ireturn, 1) := by decide +kernel
theorem dX9_image_11 : decode cX9_image 11 = .ok (.aload_n 0, 1) := by decide +kernel
theorem dX9_image_12 : decode cX9_image 12 = .ok (.getfield 16, 3) := by decide +kernel
theorem dX9_image_15 : decode cX9_image 15 = .ok (.iload_n 1, 1) := by decide +kernel
theorem dX9_image_16 : decode cX9_image 16 = .ok (.aaload, 1) := by decide +kernel
theorem dX9_image_17 : decode cX9_image 17 = .ok (.ifnonnull 16, 3) := by decide +kernel
theorem dX9_image_20 : decode cX9_image 20 = .ok (.aload_n 0, 1) := by decide +kernel
theorem dX9_image_21 : decode cX9_image 21 = .ok (.getfield 16, 3) := by decide +kernel
theorem dX9_image_24 : decode cX9_image 24 = .ok (.iload_n 1, 1) := by decide +kernel
theorem dX9_image_25 : decode cX9_image 25 = .ok (.new 9, 3) := by decide +kernel
theorem dX9_image_28 : decode cX9_image 28 = .ok (.dup, 1) := by decide +kernel
theorem dX9_image_29 : decode cX9_image 29 = .ok (.invokespecial 11, 3) := by decide +kernel
theorem dX9_image_32 : decode cX9_image 32 = .ok (.aastore, 1) := by decide +kernel
theorem dX9_image_33 : decode cX9_image 33 = .ok (.aload_n 0, 1) := by decide +kernel
theorem dX9_image_34 : decode cX9_image 34 = .ok (.getfield 16, 3) := by decide +kernel
theorem dX9_image_37 : decode cX9_image 37 = .ok (.iload_n 1, 1) := by decide +kernel
theorem dX9_image_38 : decode cX9_image 38 = .ok (.aaload, 1) := by decide +kernel
theorem dX9_image_39 : decode cX9_image 39 = .ok (.aload_n 0, 1) := by decide +kernel
theorem dX9_image_40 : decode cX9_image 40 = .ok (.getfield 12, 3) := by decide +kernel
theorem dX9_image_43 : decode cX9_image 43 = .ok (.invokevirtual 318, 3) := by decide +kernel
theorem dX9_image_46 : decode cX9_image 46 = .ok (.aload_n 0, 1) := by decide +kernel
theorem dX9_image_47 : decode cX9_image 47 = .ok (.getfield 20, 3) := by decide +kernel
theorem dX9_image_50 : decode cX9_image 50 = .ok (.iload_n 1, 1) := by decide +kernel
theorem dX9_image_51 : decode cX9_image 51 = .ok (.iconst 1, 1) := by decide +kernel
theorem dX9_image_52 : decode cX9_image 52 = .ok (.bastore, 1) := by decide +kernel
theorem dX9_image_53 : decode cX9_image 53 = .ok (.iconst 1, 1) := by decide +kernel
theorem dX9_image_54 : decode cX9_image 54 = .ok (.ireturn, 1) := by decide +kernel
theorem dX9_back_0 : decode cX9_back 0 = .ok (.iload_n 1, 1) := by decide +kernel
theorem dX9_back_1 : decode cX9_back 1 = .ok (.ifCond .lt 26, 3) := by decide +kernel
theorem dX9_back_4 : decode cX9_back 4 = .ok (.iload_n 1, 1) := by decide +kernel
theorem dX9_back_5 : decode cX9_back 5 = .ok (.iconst 2, 1) := by decide +kernel
theorem dX9_back_6 : decode cX9_back 6 = .ok (.if_icmp .ge 21, 3) := by decide +kernel
theorem dX9_back_9 : decode cX9_back 9 = .ok (.aload_n 0, 1) := by decide +kernel
theorem dX9_back_10 : decode cX9_back 10 = .ok (.getfield 20, 3) := by decide +kernel
theorem dX9_back_13 : decode cX9_back 13 = .ok (.iload_n 1, 1) := by decide +kernel
theorem dX9_back_14 : decode cX9_back 14 = .ok (.baload, 1) := by decide +kernel
theorem dX9_back_15 : decode cX9_back 15 = .ok (.ifCond .eq 12, 3) := by decide +kernel
theorem dX9_back_18 : decode cX9_back 18 = .ok (.aload_n 0, 1) := by decide +kernel
theorem dX9_back_19 : decode cX9_back 19 = .ok (.getfield 16, 3) := by decide +kernel
theorem dX9_back_22 : decode cX9_back 22 = .ok (.iload_n 1, 1) := by decide +kernel
theorem dX9_back_23 : decode cX9_back 23 = .ok (.aaload, 1) := by decide +kernel
theorem dX9_back_24 : decode cX9_back 24 = .ok (.ifnonnull 5, 3) := by decide +kernel
theorem dX9_back_27 : decode cX9_back 27 = .ok (.iconst 0, 1) := by decide +kernel
theorem dX9_back_28 : decode cX9_back 28 = .ok (.ireturn, 1) := by decide +kernel
theorem dX9_back_29 : decode cX9_back 29 = .ok (.aload_n 0, 1) := by decide +kernel
theorem dX9_back_30 : decode cX9_back 30 = .ok (.getfield 12, 3) := by decide +kernel
theorem dX9_back_33 : decode cX9_back 33 = .ok (.aload_n 0, 1) := by decide +kernel
theorem dX9_back_34 : decode cX9_back 34 = .ok (.getfield 16, 3) := by decide +kernel
theorem dX9_back_37 : decode cX9_back 37 = .ok (.iload_n 1, 1) := by decide +kernel
theorem dX9_back_38 : decode cX9_back 38 = .ok (.aaload, 1) := by decide +kernel
theorem dX9_back_39 : decode cX9_back 39 = .ok (.invokevirtual 318, 3) := by decide +kernel
theorem dX9_back_42 : decode cX9_back 42 = .ok (.iconst 1, 1) := by decide +kernel
theorem dX9_back_43 : decode cX9_back 43 = .ok (.ireturn, 1) := by decide +kernel
theorem dX9_isLetter_0 : decode cX9_isLetter 0 = .ok (.iload_n 0, 1) := by decide +kernel
theorem dX9_isLetter_1 : decode cX9_isLetter 1 = .ok (.ifCond .lt 13, 3) := by decide +kernel
theorem dX9_isLetter_4 : decode cX9_isLetter 4 = .ok (.iload_n 0, 1) := by decide +kernel
theorem dX9_isLetter_5 : decode cX9_isLetter 5 = .ok (.bipush 26, 2) := by decide +kernel
theorem dX9_isLetter_7 : decode cX9_isLetter 7 = .ok (.if_icmp .ge 7, 3) := by decide +kernel
theorem dX9_isLetter_10 : decode cX9_isLetter 10 = .ok (.iconst 1, 1) := by decide +kernel
theorem dX9_isLetter_11 : decode cX9_isLetter 11 = .ok (.goto 4, 3) := by decide +kernel
theorem dX9_isLetter_14 : decode cX9_isLetter 14 = .ok (.iconst 0, 1) := by decide +kernel
theorem dX9_isLetter_15 : decode cX9_isLetter 15 = .ok (.ireturn, 1) := by decide +kernel
theorem dX9_siteOf_0 : decode cX9_siteOf 0 = .ok (.iload_n 0, 1) := by decide +kernel
theorem dX9_siteOf_1 : decode cX9_siteOf 1 = .ok (.iconst 1, 1) := by decide +kernel
theorem dX9_siteOf_2 : decode cX9_siteOf 2 = .ok (.isub, 1) := by decide +kernel
theorem dX9_siteOf_3 : decode cX9_siteOf 3 = .ok (.bipush 40, 2) := by decide +kernel
theorem dX9_siteOf_5 : decode cX9_siteOf 5 = .ok (.idiv, 1) := by decide +kernel
theorem dX9_siteOf_6 : decode cX9_siteOf 6 = .ok (.ireturn, 1) := by decide +kernel
theorem dX9_numberOf_0 : decode cX9_numberOf 0 = .ok (.iload_n 0, 1) := by decide +kernel
theorem dX9_numberOf_1 : decode cX9_numberOf 1 = .ok (.ifCond .ne 7, 3) := by decide +kernel
theorem dX9_numberOf_4 : decode cX9_numberOf 4 = .ok (.iconst 0, 1) := by decide +kernel
theorem dX9_numberOf_5 : decode cX9_numberOf 5 = .ok (.goto 11, 3) := by decide +kernel
theorem dX9_numberOf_8 : decode cX9_numberOf 8 = .ok (.iload_n 0, 1) := by decide +kernel
theorem dX9_numberOf_9 : decode cX9_numberOf 9 = .ok (.iconst 1, 1) := by decide +kernel
theorem dX9_numberOf_10 : decode cX9_numberOf 10 = .ok (.isub, 1) := by decide +kernel
theorem dX9_numberOf_11 : decode cX9_numberOf 11 = .ok (.bipush 40, 2) := by decide +kernel
theorem dX9_numberOf_13 : decode cX9_numberOf 13 = .ok (.irem, 1) := by decide +kernel
theorem dX9_numberOf_14 : decode cX9_numberOf 14 = .ok (.iconst 1, 1) := by decide +kernel
theorem dX9_numberOf_15 : decode cX9_numberOf 15 = .ok (.iadd, 1) := by decide +kernel
theorem dX9_numberOf_16 : decode cX9_numberOf 16 = .ok (.ireturn, 1) := by decide +kernel
theorem dX9_nameOf_0 : decode cX9_nameOf 0 = .ok (.iload_n 0, 1) := by decide +kernel
theorem dX9_nameOf_1 : decode cX9_nameOf 1 = .ok (.invokestatic 322, 3) := by decide +kernel
theorem dX9_nameOf_4 : decode cX9_nameOf 4 = .ok (.bipush 100, 2) := by decide +kernel
theorem dX9_nameOf_6 : decode cX9_nameOf 6 = .ok (.imul, 1) := by decide +kernel
theorem dX9_nameOf_7 : decode cX9_nameOf 7 = .ok (.iload_n 0, 1) := by decide +kernel
theorem dX9_nameOf_8 : decode cX9_nameOf 8 = .ok (.invokestatic 325, 3) := by decide +kernel
theorem dX9_nameOf_11 : decode cX9_nameOf 11 = .ok (.iadd, 1) := by decide +kernel
theorem dX9_nameOf_12 : decode cX9_nameOf 12 = .ok (.ireturn, 1) := by decide +kernel
theorem dX9_nameInRow_0 : decode cX9_nameInRow 0 = .ok (.iload_n 2, 1) := by decide +kernel
theorem dX9_nameInRow_1 : decode cX9_nameInRow 1 = .ok (.iconst (-1), 1) := by decide +kernel
theorem dX9_nameInRow_2 : decode cX9_nameInRow 2 = .ok (.if_icmp .ne 5, 3) := by decide +kernel
theorem dX9_nameInRow_5 : decode cX9_nameInRow 5 = .ok (.iload_n 1, 1) := by decide +kernel
theorem dX9_nameInRow_6 : decode cX9_nameInRow 6 = .ok (.ireturn, 1) := by decide +kernel
theorem dX9_nameInRow_7 : decode cX9_nameInRow 7 = .ok (.iload_n 2, 1) := by decide +kernel
theorem dX9_nameInRow_8 : decode cX9_nameInRow 8 = .ok (.ifCond .lt 8, 3) := by decide +kernel
theorem dX9_nameInRow_11 : decode cX9_nameInRow 11 = .ok (.iload_n 2, 1) := by decide +kernel
theorem dX9_nameInRow_12 : decode cX9_nameInRow 12 = .ok (.iload_n 1, 1) := by decide +kernel
theorem dX9_nameInRow_13 : decode cX9_nameInRow 13 = .ok (.if_icmp .lt 7, 3) := by decide +kernel
theorem dX9_nameInRow_16 : decode cX9_nameInRow 16 = .ok (.iconst (-1), 1) := by decide +kernel
theorem dX9_nameInRow_17 : decode cX9_nameInRow 17 = .ok (.goto 9, 3) := by decide +kernel
theorem dX9_nameInRow_20 : decode cX9_nameInRow 20 = .ok (.aload_n 0, 1) := by decide +kernel
theorem dX9_nameInRow_21 : decode cX9_nameInRow 21 = .ok (.iload_n 2, 1) := by decide +kernel
theorem dX9_nameInRow_22 : decode cX9_nameInRow 22 = .ok (.iaload, 1) := by decide +kernel
theorem dX9_nameInRow_23 : decode cX9_nameInRow 23 = .ok (.invokestatic 149, 3) := by decide +kernel
theorem dX9_nameInRow_26 : decode cX9_nameInRow 26 = .ok (.ireturn, 1) := by decide +kernel
theorem dX9_find_0 : decode cX9_find 0 = .ok (.iconst 0, 1) := by decide +kernel
theorem dX9_find_1 : decode cX9_find 1 = .ok (.istore_n 3, 1) := by decide +kernel
theorem dX9_find_2 : decode cX9_find 2 = .ok (.iload_n 3, 1) := by decide +kernel
theorem dX9_find_3 : decode cX9_find 3 = .ok (.iload_n 2, 1) := by decide +kernel
theorem dX9_find_4 : decode cX9_find 4 = .ok (.if_icmp .ge 18, 3) := by decide +kernel
theorem dX9_find_7 : decode cX9_find 7 = .ok (.aload_n 1, 1) := by decide +kernel
theorem dX9_find_8 : decode cX9_find 8 = .ok (.iload_n 3, 1) := by decide +kernel
theorem dX9_find_9 : decode cX9_find 9 = .ok (.iaload, 1) := by decide +kernel
theorem dX9_find_10 : decode cX9_find 10 = .ok (.iload_n 0, 1) := by decide +kernel
theorem dX9_find_11 : decode cX9_find 11 = .ok (.if_icmp .ne 5, 3) := by decide +kernel
theorem dX9_find_14 : decode cX9_find 14 = .ok (.iload_n 3, 1) := by decide +kernel
theorem dX9_find_15 : decode cX9_find 15 = .ok (.ireturn, 1) := by decide +kernel
theorem dX9_find_16 : decode cX9_find 16 = .ok (.iinc 3 1, 3) := by decide +kernel
theorem dX9_find_19 : decode cX9_find 19 = .ok (.goto (-17), 3) := by decide +kernel
theorem dX9_find_22 : decode cX9_find 22 = .ok (.iconst (-1), 1) := by decide +kernel
theorem dX9_find_23 : decode cX9_find 23 = .ok (.ireturn, 1) := by decide +kernel
theorem dX9_showList_0 : decode cX9_showList 0 = .ok (.aload_n 0, 1) := by decide +kernel
theorem dX9_showList_1 : decode cX9_showList 1 = .ok (.getfield 12, 3) := by decide +kernel
theorem dX9_showList_4 : decode cX9_showList 4 = .ok (.getfield 101, 3) := by decide +kernel
theorem dX9_showList_7 : decode cX9_showList 7 = .ok (.iload_n 1, 1) := by decide +kernel
theorem dX9_showList_8 : decode cX9_showList 8 = .ok (.aaload, 1) := by decide +kernel
theorem dX9_showList_9 : decode cX9_showList 9 = .ok (.getfield 105, 3) := by decide +kernel
theorem dX9_showList_12 : decode cX9_showList 12 = .ok (.aload_n 0, 1) := by decide +kernel
theorem dX9_showList_13 : decode cX9_showList 13 = .ok (.getfield 12, 3) := by decide +kernel
theorem dX9_showList_16 : decode cX9_showList 16 = .ok (.getfield 85, 3) := by decide +kernel
theorem dX9_showList_19 : decode cX9_showList 19 = .ok (.aload_n 2, 1) := by decide +kernel
theorem dX9_showList_20 : decode cX9_showList 20 = .ok (.invokevirtual 237, 3) := by decide +kernel
theorem dX9_showList_23 : decode cX9_showList 23 = .ok (.ireturn, 1) := by decide +kernel
theorem dX9_spotOf_0 : decode cX9_spotOf 0 = .ok (.aload_n 0, 1) := by decide +kernel
theorem dX9_spotOf_1 : decode cX9_spotOf 1 = .ok (.getfield 12, 3) := by decide +kernel
theorem dX9_spotOf_4 : decode cX9_spotOf 4 = .ok (.getfield 101, 3) := by decide +kernel
theorem dX9_spotOf_7 : decode cX9_spotOf 7 = .ok (.iload_n 1, 1) := by decide +kernel
theorem dX9_spotOf_8 : decode cX9_spotOf 8 = .ok (.aaload, 1) := by decide +kernel
theorem dX9_spotOf_9 : decode cX9_spotOf 9 = .ok (.getfield 105, 3) := by decide +kernel
theorem dX9_spotOf_12 : decode cX9_spotOf 12 = .ok (.getfield 187, 3) := by decide +kernel
theorem dX9_spotOf_15 : decode cX9_spotOf 15 = .ok (.iload_n 2, 1) := by decide +kernel
theorem dX9_spotOf_16 : decode cX9_spotOf 16 = .ok (.iaload, 1) := by decide +kernel
theorem dX9_spotOf_17 : decode cX9_spotOf 17 = .ok (.ireturn, 1) := by decide +kernel
theorem dX9_elementAt_0 : decode cX9_elementAt 0 = .ok (.aload_n 0, 1) := by decide +kernel
theorem dX9_elementAt_1 : decode cX9_elementAt 1 = .ok (.getfield 12, 3) := by decide +kernel
theorem dX9_elementAt_4 : decode cX9_elementAt 4 = .ok (.iload_n 1, 1) := by decide +kernel
theorem dX9_elementAt_5 : decode cX9_elementAt 5 = .ok (.invokevirtual 63, 3) := by decide +kernel
theorem dX9_elementAt_8 : decode cX9_elementAt 8 = .ok (.ifCond .ne 5, 3) := by decide +kernel
theorem dX9_elementAt_11 : decode cX9_elementAt 11 = .ok (.iconst 0, 1) := by decide +kernel
theorem dX9_elementAt_12 : decode cX9_elementAt 12 = .ok (.ireturn, 1) := by decide +kernel
theorem dX9_elementAt_13 : decode cX9_elementAt 13 = .ok (.aload_n 0, 1) := by decide +kernel
theorem dX9_elementAt_14 : decode cX9_elementAt 14 = .ok (.iload_n 1, 1) := by decide +kernel
theorem dX9_elementAt_15 : decode cX9_elementAt 15 = .ok (.aload_n 0, 1) := by decide +kernel
theorem dX9_elementAt_16 : decode cX9_elementAt 16 = .ok (.getfield 49, 3) := by decide +kernel
theorem dX9_elementAt_19 : decode cX9_elementAt 19 = .ok (.invokevirtual 70, 3) := by decide +kernel
theorem dX9_elementAt_22 : decode cX9_elementAt 22 = .ok (.istore_n 3, 1) := by decide +kernel
theorem dX9_elementAt_23 : decode cX9_elementAt 23 = .ok (.iload_n 2, 1) := by decide +kernel
theorem dX9_elementAt_24 : decode cX9_elementAt 24 = .ok (.ifCond .lt 8, 3) := by decide +kernel
theorem dX9_elementAt_27 : decode cX9_elementAt 27 = .ok (.iload_n 2, 1) := by decide +kernel
theorem dX9_elementAt_28 : decode cX9_elementAt 28 = .ok (.iload_n 3, 1) := by decide +kernel
theorem dX9_elementAt_29 : decode cX9_elementAt 29 = .ok (.if_icmp .lt 7, 3) := by decide +kernel
theorem dX9_elementAt_32 : decode cX9_elementAt 32 = .ok (.iconst 0, 1) := by decide +kernel
theorem dX9_elementAt_33 : decode cX9_elementAt 33 = .ok (.goto 9, 3) := by decide +kernel
theorem dX9_elementAt_36 : decode cX9_elementAt 36 = .ok (.aload_n 0, 1) := by decide +kernel
theorem dX9_elementAt_37 : decode cX9_elementAt 37 = .ok (.getfield 49, 3) := by decide +kernel
theorem dX9_elementAt_40 : decode cX9_elementAt 40 = .ok (.iload_n 2, 1) := by decide +kernel
theorem dX9_elementAt_41 : decode cX9_elementAt 41 = .ok (.iaload, 1) := by decide +kernel
theorem dX9_elementAt_42 : decode cX9_elementAt 42 = .ok (.ireturn, 1) := by decide +kernel
theorem dX9_waitingAt_0 : decode cX9_waitingAt 0 = .ok (.aload_n 0, 1) := by decide +kernel
theorem dX9_waitingAt_1 : decode cX9_waitingAt 1 = .ok (.getfield 12, 3) := by decide +kernel
theorem dX9_waitingAt_4 : decode cX9_waitingAt 4 = .ok (.iload_n 1, 1) := by decide +kernel
theorem dX9_waitingAt_5 : decode cX9_waitingAt 5 = .ok (.invokevirtual 63, 3) := by decide +kernel
theorem dX9_waitingAt_8 : decode cX9_waitingAt 8 = .ok (.ifCond .ne 5, 3) := by decide +kernel
theorem dX9_waitingAt_11 : decode cX9_waitingAt 11 = .ok (.iconst 0, 1) := by decide +kernel
theorem dX9_waitingAt_12 : decode cX9_waitingAt 12 = .ok (.ireturn, 1) := by decide +kernel
theorem dX9_waitingAt_13 : decode cX9_waitingAt 13 = .ok (.aload_n 0, 1) := by decide +kernel
theorem dX9_waitingAt_14 : decode cX9_waitingAt 14 = .ok (.getfield 12, 3) := by decide +kernel
theorem dX9_waitingAt_17 : decode cX9_waitingAt 17 = .ok (.getfield 101, 3) := by decide +kernel
theorem dX9_waitingAt_20 : decode cX9_waitingAt 20 = .ok (.iload_n 1, 1) := by decide +kernel
theorem dX9_waitingAt_21 : decode cX9_waitingAt 21 = .ok (.aaload, 1) := by decide +kernel
theorem dX9_waitingAt_22 : decode cX9_waitingAt 22 = .ok (.getfield 134, 3) := by decide +kernel
theorem dX9_waitingAt_25 : decode cX9_waitingAt 25 = .ok (.astore_n 3, 1) := by decide +kernel
theorem dX9_waitingAt_26 : decode cX9_waitingAt 26 = .ok (.iload_n 2, 1) := by decide +kernel
theorem dX9_waitingAt_27 : decode cX9_waitingAt 27 = .ok (.ifCond .lt 11, 3) := by decide +kernel
theorem dX9_waitingAt_30 : decode cX9_waitingAt 30 = .ok (.iload_n 2, 1) := by decide +kernel
theorem dX9_waitingAt_31 : decode cX9_waitingAt 31 = .ok (.aload_n 3, 1) := by decide +kernel
theorem dX9_waitingAt_32 : decode cX9_waitingAt 32 = .ok (.getfield 214, 3) := by decide +kernel
theorem dX9_waitingAt_35 : decode cX9_waitingAt 35 = .ok (.if_icmp .lt 7, 3) := by decide +kernel
theorem dX9_waitingAt_38 : decode cX9_waitingAt 38 = .ok (.iconst 0, 1) := by decide +kernel
theorem dX9_waitingAt_39 : decode cX9_waitingAt 39 = .ok (.goto 9, 3) := by decide +kernel
theorem dX9_waitingAt_42 : decode cX9_waitingAt 42 = .ok (.aload_n 3, 1) := by decide +kernel
theorem dX9_waitingAt_43 : decode cX9_waitingAt 43 = .ok (.getfield 211, 3) := by decide +kernel
theorem dX9_waitingAt_46 : decode cX9_waitingAt 46 = .ok (.iload_n 2, 1) := by decide +kernel
theorem dX9_waitingAt_47 : decode cX9_waitingAt 47 = .ok (.iaload, 1) := by decide +kernel
theorem dX9_waitingAt_48 : decode cX9_waitingAt 48 = .ok (.ireturn, 1) := by decide +kernel
theorem dX9_showFound_0 : decode cX9_showFound 0 = .ok (.aload_n 0, 1) := by decide +kernel
theorem dX9_showFound_1 : decode cX9_showFound 1 = .ok (.getfield 27, 3) := by decide +kernel
theorem dX9_showFound_4 : decode cX9_showFound 4 = .ok (.aload_n 0, 1) := by decide +kernel
theorem dX9_showFound_5 : decode cX9_showFound 5 = .ok (.getfield 12, 3) := by decide +kernel
theorem dX9_showFound_8 : decode cX9_showFound 8 = .ok (.getfield 85, 3) := by decide +kernel
theorem dX9_showFound_11 : decode cX9_showFound 11 = .ok (.aload_n 0, 1) := by decide +kernel
theorem dX9_showFound_12 : decode cX9_showFound 12 = .ok (.getfield 12, 3) := by decide +kernel
theorem dX9_showFound_15 : decode cX9_showFound 15 = .ok (.getfield 85, 3) := by decide +kernel
theorem dX9_showFound_18 : decode cX9_showFound 18 = .ok (.getfield 230, 3) := by decide +kernel
theorem dX9_showFound_21 : decode cX9_showFound 21 = .ok (.iload_n 1, 1) := by decide +kernel
theorem dX9_showFound_22 : decode cX9_showFound 22 = .ok (.iconst 5, 1) := by decide +kernel
theorem dX9_showFound_23 : decode cX9_showFound 23 = .ok (.imul, 1) := by decide +kernel
theorem dX9_showFound_24 : decode cX9_showFound 24 = .ok (.invokevirtual 277, 3) := by decide +kernel
theorem dX9_showFound_27 : decode cX9_showFound 27 = .ok (.return_, 1) := by decide +kernel
theorem dX9_placeFoundAhead_0 : decode cX9_placeFoundAhead 0 = .ok (.iload_n 2, 1) := by decide +kernel
theorem dX9_placeFoundAhead_1 : decode cX9_placeFoundAhead 1 = .ok (.aload_n 0, 1) := by decide +kernel
theorem dX9_placeFoundAhead_2 : decode cX9_placeFoundAhead 2 = .ok (.getfield 49, 3) := by decide +kernel
theorem dX9_placeFoundAhead_5 : decode cX9_placeFoundAhead 5 = .ok (.aload_n 0, 1) := by decide +kernel
theorem dX9_placeFoundAhead_6 : decode cX9_placeFoundAhead 6 = .ok (.getfield 27, 3) := by decide +kernel
theorem dX9_placeFoundAhead_9 : decode cX9_placeFoundAhead 9 = .ok (.aload_n 0, 1) := by decide +kernel
theorem dX9_placeFoundAhead_10 : decode cX9_placeFoundAhead 10 = .ok (.getfield 12, 3) := by decide +kernel
theorem dX9_placeFoundAhead_13 : decode cX9_placeFoundAhead 13 = .ok (.getfield 85, 3) := by decide +kernel
theorem dX9_placeFoundAhead_16 : decode cX9_placeFoundAhead 16 = .ok (.aload_n 0, 1) := by decide +kernel
theorem dX9_placeFoundAhead_17 : decode cX9_placeFoundAhead 17 = .ok (.getfield 49, 3) := by decide +kernel
theorem dX9_placeFoundAhead_20 : decode cX9_placeFoundAhead 20 = .ok (.invokevirtual 237, 3) := by decide +kernel
theorem dX9_placeFoundAhead_23 : decode cX9_placeFoundAhead 23 = .ok (.invokestatic 198, 3) := by decide +kernel
theorem dX9_placeFoundAhead_26 : decode cX9_placeFoundAhead 26 = .ok (.istore_n 3, 1) := by decide +kernel
theorem dX9_placeFoundAhead_27 : decode cX9_placeFoundAhead 27 = .ok (.iload_n 3, 1) := by decide +kernel
theorem dX9_placeFoundAhead_28 : decode cX9_placeFoundAhead 28 = .ok (.iconst 1, 1) := by decide +kernel
theorem dX9_placeFoundAhead_29 : decode cX9_placeFoundAhead 29 = .ok (.if_icmp .ge 5, 3) := by decide +kernel
theorem dX9_placeFoundAhead_32 : decode cX9_placeFoundAhead 32 = .ok (.iconst 0, 1) := by decide +kernel
theorem dX9_placeFoundAhead_33 : decode cX9_placeFoundAhead 33 = .ok (.ireturn, 1) := by decide +kernel
theorem dX9_placeFoundAhead_34 : decode cX9_placeFoundAhead 34 = .ok (.aload_n 0, 1) := by decide +kernel
theorem dX9_placeFoundAhead_35 : decode cX9_placeFoundAhead 35 = .ok (.getfield 49, 3) := by decide +kernel
theorem dX9_placeFoundAhead_38 : decode cX9_placeFoundAhead 38 = .ok (.iload_n 3, 1) := by decide +kernel
theorem dX9_placeFoundAhead_39 : decode cX9_placeFoundAhead 39 = .ok (.iconst 1, 1) := by decide +kernel
theorem dX9_placeFoundAhead_40 : decode cX9_placeFoundAhead 40 = .ok (.isub, 1) := by decide +kernel
theorem dX9_placeFoundAhead_41 : decode cX9_placeFoundAhead 41 = .ok (.iaload, 1) := by decide +kernel
theorem dX9_placeFoundAhead_42 : decode cX9_placeFoundAhead 42 = .ok (.istore 4, 2) := by decide +kernel
theorem dX9_placeFoundAhead_44 : decode cX9_placeFoundAhead 44 = .ok (.aload_n 0, 1) := by decide +kernel
theorem dX9_placeFoundAhead_45 : decode cX9_placeFoundAhead 45 = .ok (.getfield 12, 3) := by decide +kernel
theorem dX9_placeFoundAhead_48 : decode cX9_placeFoundAhead 48 = .ok (.getfield 101, 3) := by decide +kernel
theorem dX9_placeFoundAhead_51 : decode cX9_placeFoundAhead 51 = .ok (.iload_n 1, 1) := by decide +kernel
theorem dX9_placeFoundAhead_52 : decode cX9_placeFoundAhead 52 = .ok (.aaload, 1) := by decide +kernel
theorem dX9_placeFoundAhead_53 : decode cX9_placeFoundAhead 53 = .ok (.getfield 105, 3) := by decide +kernel
theorem dX9_placeFoundAhead_56 : decode cX9_placeFoundAhead 56 = .ok (.iload 4, 2) := by decide +kernel
theorem dX9_placeFoundAhead_58 : decode cX9_placeFoundAhead 58 = .ok (.invokevirtual 110, 3) := by decide +kernel
theorem dX9_placeFoundAhead_61 : decode cX9_placeFoundAhead 61 = .ok (.ifCond .eq 13, 3) := by decide +kernel
theorem dX9_placeFoundAhead_64 : decode cX9_placeFoundAhead 64 = .ok (.aload_n 0, 1) := by decide +kernel
theorem dX9_placeFoundAhead_65 : decode cX9_placeFoundAhead 65 = .ok (.iload_n 1, 1) := by decide +kernel
theorem dX9_placeFoundAhead_66 : decode cX9_placeFoundAhead 66 = .ok (.iload 4, 2) := by decide +kernel
theorem dX9_placeFoundAhead_68 : decode cX9_placeFoundAhead 68 = .ok (.invokevirtual 74, 3) := by decide +kernel
theorem dX9_placeFoundAhead_71 : decode cX9_placeFoundAhead 71 = .ok (.goto 4, 3) := by decide +kernel
theorem dX9_placeFoundAhead_74 : decode cX9_placeFoundAhead 74 = .ok (.iconst 0, 1) := by decide +kernel
theorem dX9_placeFoundAhead_75 : decode cX9_placeFoundAhead 75 = .ok (.ireturn, 1) := by decide +kernel
theorem dX9_draw_0 : decode cX9_draw 0 = .ok (.aload_n 0, 1) := by decide +kernel
theorem dX9_draw_1 : decode cX9_draw 1 = .ok (.aload_n 0, 1) := by decide +kernel
theorem dX9_draw_2 : decode cX9_draw 2 = .ok (.getfield 123, 3) := by decide +kernel
theorem dX9_draw_5 : decode cX9_draw 5 = .ok (.ldc_w 328, 3) := by decide +kernel
theorem dX9_draw_8 : decode cX9_draw 8 = .ok (.imul, 1) := by decide +kernel
theorem dX9_draw_9 : decode cX9_draw 9 = .ok (.sipush 12345, 3) := by decide +kernel
theorem dX9_draw_12 : decode cX9_draw 12 = .ok (.iadd, 1) := by decide +kernel
theorem dX9_draw_13 : decode cX9_draw 13 = .ok (.putfield 123, 3) := by decide +kernel
theorem dX9_draw_16 : decode cX9_draw 16 = .ok (.iload_n 1, 1) := by decide +kernel
theorem dX9_draw_17 : decode cX9_draw 17 = .ok (.iconst 1, 1) := by decide +kernel
theorem dX9_draw_18 : decode cX9_draw 18 = .ok (.if_icmp .ge 7, 3) := by decide +kernel
theorem dX9_draw_21 : decode cX9_draw 21 = .ok (.iconst 0, 1) := by decide +kernel
theorem dX9_draw_22 : decode cX9_draw 22 = .ok (.goto 12, 3) := by decide +kernel
theorem dX9_draw_25 : decode cX9_draw 25 = .ok (.aload_n 0, 1) := by decide +kernel
theorem dX9_draw_26 : decode cX9_draw 26 = .ok (.getfield 123, 3) := by decide +kernel
theorem dX9_draw_29 : decode cX9_draw 29 = .ok (.bipush 8, 2) := by decide +kernel
theorem dX9_draw_31 : decode cX9_draw 31 = .ok (.iushr, 1) := by decide +kernel
theorem dX9_draw_32 : decode cX9_draw 32 = .ok (.iload_n 1, 1) := by decide +kernel
theorem dX9_draw_33 : decode cX9_draw 33 = .ok (.irem, 1) := by decide +kernel
theorem dX9_draw_34 : decode cX9_draw 34 = .ok (.ireturn, 1) := by decide +kernel
theorem dX9_takeChance_0 : decode cX9_takeChance 0 = .ok (.aload_n 0, 1) := by decide +kernel
theorem dX9_takeChance_1 : decode cX9_takeChance 1 = .ok (.aload_n 0, 1) := by decide +kernel
theorem dX9_takeChance_2 : decode cX9_takeChance 2 = .ok (.getfield 12, 3) := by decide +kernel
theorem dX9_takeChance_5 : decode cX9_takeChance 5 = .ok (.getfield 85, 3) := by decide +kernel
theorem dX9_takeChance_8 : decode cX9_takeChance 8 = .ok (.getfield 281, 3) := by decide +kernel
theorem dX9_takeChance_11 : decode cX9_takeChance 11 = .ok (.invokevirtual 329, 3) := by decide +kernel
theorem dX9_takeChance_14 : decode cX9_takeChance 14 = .ok (.istore_n 1, 1) := by decide +kernel
theorem dX9_takeChance_15 : decode cX9_takeChance 15 = .ok (.aload_n 0, 1) := by decide +kernel
theorem dX9_takeChance_16 : decode cX9_takeChance 16 = .ok (.bipush 8, 2) := by decide +kernel
theorem dX9_takeChance_18 : decode cX9_takeChance 18 = .ok (.invokevirtual 329, 3) := by decide +kernel
theorem dX9_takeChance_21 : decode cX9_takeChance 21 = .ok (.istore_n 2, 1) := by decide +kernel
theorem dX9_takeChance_22 : decode cX9_takeChance 22 = .ok (.iload_n 2, 1) := by decide +kernel
theorem dX9_takeChance_23 : decode cX9_takeChance 23 = .ok (.bipush 6, 2) := by decide +kernel
theorem dX9_takeChance_25 : decode cX9_takeChance 25 = .ok (.if_icmp .ne 21, 3) := by decide +kernel
theorem dX9_takeChance_28 : decode cX9_takeChance 28 = .ok (.aload_n 0, 1) := by decide +kernel
theorem dX9_takeChance_29 : decode cX9_takeChance 29 = .ok (.getfield 12, 3) := by decide +kernel
theorem dX9_takeChance_32 : decode cX9_takeChance 32 = .ok (.getfield 101, 3) := by decide +kernel
theorem dX9_takeChance_35 : decode cX9_takeChance 35 = .ok (.iload_n 1, 1) := by decide +kernel
theorem dX9_takeChance_36 : decode cX9_takeChance 36 = .ok (.aaload, 1) := by decide +kernel
theorem dX9_takeChance_37 : decode cX9_takeChance 37 = .ok (.getfield 134, 3) := by decide +kernel
theorem dX9_takeChance_40 : decode cX9_takeChance 40 = .ok (.getfield 214, 3) := by decide +kernel
theorem dX9_takeChance_43 : decode cX9_takeChance 43 = .ok (.goto 12, 3) := by decide +kernel
theorem dX9_takeChance_46 : decode cX9_takeChance 46 = .ok (.aload_n 0, 1) := by decide +kernel
theorem dX9_takeChance_47 : decode cX9_takeChance 47 = .ok (.iload_n 1, 1) := by decide +kernel
theorem dX9_takeChance_48 : decode cX9_takeChance 48 = .ok (.aload_n 0, 1) := by decide +kernel
theorem dX9_takeChance_49 : decode cX9_takeChance 49 = .ok (.getfield 49, 3) := by decide +kernel
theorem dX9_takeChance_52 : decode cX9_takeChance 52 = .ok (.invokevirtual 70, 3) := by decide +kernel
theorem dX9_takeChance_55 : decode cX9_takeChance 55 = .ok (.istore_n 3, 1) := by decide +kernel
theorem dX9_takeChance_56 : decode cX9_takeChance 56 = .ok (.iload_n 2, 1) := by decide +kernel
theorem dX9_takeChance_57 : decode cX9_takeChance 57 = .ok (.bipush 7, 2) := by decide +kernel
theorem dX9_takeChance_59 : decode cX9_takeChance 59 = .ok (.if_icmp .ne 23, 3) := by decide +kernel
theorem dX9_takeChance_62 : decode cX9_takeChance 62 = .ok (.aload_n 0, 1) := by decide +kernel
theorem dX9_takeChance_63 : decode cX9_takeChance 63 = .ok (.aload_n 0, 1) := by decide +kernel
theorem dX9_takeChance_64 : decode cX9_takeChance 64 = .ok (.aload_n 0, 1) := by decide +kernel
theorem dX9_takeChance_65 : decode cX9_takeChance 65 = .ok (.getfield 12, 3) := by decide +kernel
theorem dX9_takeChance_68 : decode cX9_takeChance 68 = .ok (.getfield 85, 3) := by decide +kernel
theorem dX9_takeChance_71 : decode cX9_takeChance 71 = .ok (.getfield 281, 3) := by decide +kernel
theorem dX9_takeChance_74 : decode cX9_takeChance 74 = .ok (.invokevirtual 329, 3) := by decide +kernel
theorem dX9_takeChance_77 : decode cX9_takeChance 77 = .ok (.iload_n 1, 1) := by decide +kernel
theorem dX9_takeChance_78 : decode cX9_takeChance 78 = .ok (.invokevirtual 332, 3) := by decide +kernel
theorem dX9_takeChance_81 : decode cX9_takeChance 81 = .ok (.ireturn, 1) := by decide +kernel
theorem dX9_takeChance_82 : decode cX9_takeChance 82 = .ok (.iload_n 2, 1) := by decide +kernel
theorem dX9_takeChance_83 : decode cX9_takeChance 83 = .ok (.iconst 3, 1) := by decide +kernel
theorem dX9_takeChance_84 : decode cX9_takeChance 84 = .ok (.if_icmp .ge 26, 3) := by decide +kernel
theorem dX9_takeChance_87 : decode cX9_takeChance 87 = .ok (.aload_n 0, 1) := by decide +kernel
theorem dX9_takeChance_88 : decode cX9_takeChance 88 = .ok (.iload_n 3, 1) := by decide +kernel
theorem dX9_takeChance_89 : decode cX9_takeChance 89 = .ok (.iconst 1, 1) := by decide +kernel
theorem dX9_takeChance_90 : decode cX9_takeChance 90 = .ok (.iadd, 1) := by decide +kernel
theorem dX9_takeChance_91 : decode cX9_takeChance 91 = .ok (.invokevirtual 329, 3) := by decide +kernel
theorem dX9_takeChance_94 : decode cX9_takeChance 94 = .ok (.istore 4, 2) := by decide +kernel
theorem dX9_takeChance_96 : decode cX9_takeChance 96 = .ok (.aload_n 0, 1) := by decide +kernel
theorem dX9_takeChance_97 : decode cX9_takeChance 97 = .ok (.iload_n 1, 1) := by decide +kernel
theorem dX9_takeChance_98 : decode cX9_takeChance 98 = .ok (.iload 4, 2) := by decide +kernel
theorem dX9_takeChance_100 : decode cX9_takeChance 100 = .ok (.aload_n 0, 1) := by decide +kernel
theorem dX9_takeChance_101 : decode cX9_takeChance 101 = .ok (.bipush 26, 2) := by decide +kernel
theorem dX9_takeChance_103 : decode cX9_takeChance 103 = .ok (.invokevirtual 329, 3) := by decide +kernel
theorem dX9_takeChance_106 : decode cX9_takeChance 106 = .ok (.invokevirtual 335, 3) := by decide +kernel
theorem dX9_takeChance_109 : decode cX9_takeChance 109 = .ok (.ireturn, 1) := by decide +kernel
theorem dX9_takeChance_110 : decode cX9_takeChance 110 = .ok (.iload_n 3, 1) := by decide +kernel
theorem dX9_takeChance_111 : decode cX9_takeChance 111 = .ok (.ifCond .ne 5, 3) := by decide +kernel
theorem dX9_takeChance_114 : decode cX9_takeChance 114 = .ok (.iconst (-1), 1) := by decide +kernel
theorem dX9_takeChance_115 : decode cX9_takeChance 115 = .ok (.ireturn, 1) := by decide +kernel
theorem dX9_takeChance_116 : decode cX9_takeChance 116 = .ok (.aload_n 0, 1) := by decide +kernel
theorem dX9_takeChance_117 : decode cX9_takeChance 117 = .ok (.iload_n 3, 1) := by decide +kernel
theorem dX9_takeChance_118 : decode cX9_takeChance 118 = .ok (.invokevirtual 329, 3) := by decide +kernel
theorem dX9_takeChance_121 : decode cX9_takeChance 121 = .ok (.istore 4, 2) := by decide +kernel
theorem dX9_takeChance_123 : decode cX9_takeChance 123 = .ok (.iload_n 2, 1) := by decide +kernel
theorem dX9_takeChance_124 : decode cX9_takeChance 124 = .ok (.tableswitch 63 3 5 #[28, 41, 49], 28) := by decide +kernel
theorem dX9_takeChance_152 : decode cX9_takeChance 152 = .ok (.aload_n 0, 1) := by decide +kernel
theorem dX9_takeChance_153 : decode cX9_takeChance 153 = .ok (.iload_n 1, 1) := by decide +kernel
theorem dX9_takeChance_154 : decode cX9_takeChance 154 = .ok (.iload 4, 2) := by decide +kernel
theorem dX9_takeChance_156 : decode cX9_takeChance 156 = .ok (.aload_n 0, 1) := by decide +kernel
theorem dX9_takeChance_157 : decode cX9_takeChance 157 = .ok (.iload_n 3, 1) := by decide +kernel
theorem dX9_takeChance_158 : decode cX9_takeChance 158 = .ok (.invokevirtual 329, 3) := by decide +kernel
theorem dX9_takeChance_161 : decode cX9_takeChance 161 = .ok (.invokevirtual 339, 3) := by decide +kernel
theorem dX9_takeChance_164 : decode cX9_takeChance 164 = .ok (.ireturn, 1) := by decide +kernel
theorem dX9_takeChance_165 : decode cX9_takeChance 165 = .ok (.aload_n 0, 1) := by decide +kernel
theorem dX9_takeChance_166 : decode cX9_takeChance 166 = .ok (.iload_n 1, 1) := by decide +kernel
theorem dX9_takeChance_167 : decode cX9_takeChance 167 = .ok (.iload 4, 2) := by decide +kernel
theorem dX9_takeChance_169 : decode cX9_takeChance 169 = .ok (.invokevirtual 342, 3) := by decide +kernel
theorem dX9_takeChance_172 : decode cX9_takeChance 172 = .ok (.ireturn, 1) := by decide +kernel
theorem dX9_takeChance_173 : decode cX9_takeChance 173 = .ok (.aload_n 0, 1) := by decide +kernel
theorem dX9_takeChance_174 : decode cX9_takeChance 174 = .ok (.iload_n 1, 1) := by decide +kernel
theorem dX9_takeChance_175 : decode cX9_takeChance 175 = .ok (.iload 4, 2) := by decide +kernel
theorem dX9_takeChance_177 : decode cX9_takeChance 177 = .ok (.aload_n 0, 1) := by decide +kernel
theorem dX9_takeChance_178 : decode cX9_takeChance 178 = .ok (.bipush 26, 2) := by decide +kernel
theorem dX9_takeChance_180 : decode cX9_takeChance 180 = .ok (.invokevirtual 329, 3) := by decide +kernel
theorem dX9_takeChance_183 : decode cX9_takeChance 183 = .ok (.invokevirtual 345, 3) := by decide +kernel
theorem dX9_takeChance_186 : decode cX9_takeChance 186 = .ok (.ireturn, 1) := by decide +kernel
theorem dX9_takeChance_187 : decode cX9_takeChance 187 = .ok (.aload_n 0, 1) := by decide +kernel
theorem dX9_takeChance_188 : decode cX9_takeChance 188 = .ok (.iload_n 1, 1) := by decide +kernel
theorem dX9_takeChance_189 : decode cX9_takeChance 189 = .ok (.iload 4, 2) := by decide +kernel
theorem dX9_takeChance_191 : decode cX9_takeChance 191 = .ok (.invokevirtual 348, 3) := by decide +kernel
theorem dX9_takeChance_194 : decode cX9_takeChance 194 = .ok (.ireturn, 1) := by decide +kernel
theorem dX9_gatherRivals_0 : decode cX9_gatherRivals 0 = .ok (.aload_n 0, 1) := by decide +kernel
theorem dX9_gatherRivals_1 : decode cX9_gatherRivals 1 = .ok (.getfield 12, 3) := by decide +kernel
theorem dX9_gatherRivals_4 : decode cX9_gatherRivals 4 = .ok (.getfield 85, 3) := by decide +kernel
theorem dX9_gatherRivals_7 : decode cX9_gatherRivals 7 = .ok (.astore_n 3, 1) := by decide +kernel
theorem dX9_gatherRivals_8 : decode cX9_gatherRivals 8 = .ok (.iconst 0, 1) := by decide +kernel
theorem dX9_gatherRivals_9 : decode cX9_gatherRivals 9 = .ok (.istore 4, 2) := by decide +kernel
theorem dX9_gatherRivals_11 : decode cX9_gatherRivals 11 = .ok (.iconst 1, 1) := by decide +kernel
theorem dX9_gatherRivals_12 : decode cX9_gatherRivals 12 = .ok (.istore 5, 2) := by decide +kernel
theorem dX9_gatherRivals_14 : decode cX9_gatherRivals 14 = .ok (.iload 5, 2) := by decide +kernel
theorem dX9_gatherRivals_16 : decode cX9_gatherRivals 16 = .ok (.sipush 201, 3) := by decide +kernel
theorem dX9_gatherRivals_19 : decode cX9_gatherRivals 19 = .ok (.if_icmp .ge 69, 3) := by decide +kernel
theorem dX9_gatherRivals_22 : decode cX9_gatherRivals 22 = .ok (.iload 5, 2) := by decide +kernel
theorem dX9_gatherRivals_24 : decode cX9_gatherRivals 24 = .ok (.iload_n 1, 1) := by decide +kernel
theorem dX9_gatherRivals_25 : decode cX9_gatherRivals 25 = .ok (.if_icmp .eq 57, 3) := by decide +kernel
theorem dX9_gatherRivals_28 : decode cX9_gatherRivals 28 = .ok (.aload_n 3, 1) := by decide +kernel
theorem dX9_gatherRivals_29 : decode cX9_gatherRivals 29 = .ok (.iload 5, 2) := by decide +kernel
theorem dX9_gatherRivals_31 : decode cX9_gatherRivals 31 = .ok (.invokevirtual 351, 3) := by decide +kernel
theorem dX9_gatherRivals_34 : decode cX9_gatherRivals 34 = .ok (.ifCond .eq 48, 3) := by decide +kernel
theorem dX9_gatherRivals_37 : decode cX9_gatherRivals 37 = .ok (.aload_n 3, 1) := by decide +kernel
theorem dX9_gatherRivals_38 : decode cX9_gatherRivals 38 = .ok (.getfield 98, 3) := by decide +kernel
theorem dX9_gatherRivals_41 : decode cX9_gatherRivals 41 = .ok (.iload 5, 2) := by decide +kernel
theorem dX9_gatherRivals_43 : decode cX9_gatherRivals 43 = .ok (.iaload, 1) := by decide +kernel
theorem dX9_gatherRivals_44 : decode cX9_gatherRivals 44 = .ok (.aload_n 3, 1) := by decide +kernel
theorem dX9_gatherRivals_45 : decode cX9_gatherRivals 45 = .ok (.getfield 98, 3) := by decide +kernel
theorem dX9_gatherRivals_48 : decode cX9_gatherRivals 48 = .ok (.iload_n 1, 1) := by decide +kernel
theorem dX9_gatherRivals_49 : decode cX9_gatherRivals 49 = .ok (.iaload, 1) := by decide +kernel
theorem dX9_gatherRivals_50 : decode cX9_gatherRivals 50 = .ok (.if_icmp .ne 32, 3) := by decide +kernel
theorem dX9_gatherRivals_53 : decode cX9_gatherRivals 53 = .ok (.aload_n 3, 1) := by decide +kernel
theorem dX9_gatherRivals_54 : decode cX9_gatherRivals 54 = .ok (.iload 5, 2) := by decide +kernel
theorem dX9_gatherRivals_56 : decode cX9_gatherRivals 56 = .ok (.iload_n 1, 1) := by decide +kernel
theorem dX9_gatherRivals_57 : decode cX9_gatherRivals 57 = .ok (.invokevirtual 233, 3) := by decide +kernel
theorem dX9_gatherRivals_60 : decode cX9_gatherRivals 60 = .ok (.ifCond .ne 22, 3) := by decide +kernel
theorem dX9_gatherRivals_63 : decode cX9_gatherRivals 63 = .ok (.aload_n 3, 1) := by decide +kernel
theorem dX9_gatherRivals_64 : decode cX9_gatherRivals 64 = .ok (.iload_n 1, 1) := by decide +kernel
theorem dX9_gatherRivals_65 : decode cX9_gatherRivals 65 = .ok (.iload 5, 2) := by decide +kernel
theorem dX9_gatherRivals_67 : decode cX9_gatherRivals 67 = .ok (.invokevirtual 233, 3) := by decide +kernel
theorem dX9_gatherRivals_70 : decode cX9_gatherRivals 70 = .ok (.ifCond .ne 12, 3) := by decide +kernel
theorem dX9_gatherRivals_73 : decode cX9_gatherRivals 73 = .ok (.aload_n 2, 1) := by decide +kernel
theorem dX9_gatherRivals_74 : decode cX9_gatherRivals 74 = .ok (.iload 4, 2) := by decide +kernel
theorem dX9_gatherRivals_76 : decode cX9_gatherRivals 76 = .ok (.iload 5, 2) := by decide +kernel
theorem dX9_gatherRivals_78 : decode cX9_gatherRivals 78 = .ok (.iastore, 1) := by decide +kernel
theorem dX9_gatherRivals_79 : decode cX9_gatherRivals 79 = .ok (.iinc 4 1, 3) := by decide +kernel
theorem dX9_gatherRivals_82 : decode cX9_gatherRivals 82 = .ok (.iinc 5 1, 3) := by decide +kernel
theorem dX9_gatherRivals_85 : decode cX9_gatherRivals 85 = .ok (.goto (-71), 3) := by decide +kernel
theorem dX9_gatherRivals_88 : decode cX9_gatherRivals 88 = .ok (.iload 4, 2) := by decide +kernel
theorem dX9_gatherRivals_90 : decode cX9_gatherRivals 90 = .ok (.ireturn, 1) := by decide +kernel
theorem dX9_markUnforgotten_0 : decode cX9_markUnforgotten 0 = .ok (.aload_n 0, 1) := by decide +kernel
theorem dX9_markUnforgotten_1 : decode cX9_markUnforgotten 1 = .ok (.getfield 12, 3) := by decide +kernel
theorem dX9_markUnforgotten_4 : decode cX9_markUnforgotten 4 = .ok (.getfield 85, 3) := by decide +kernel
theorem dX9_markUnforgotten_7 : decode cX9_markUnforgotten 7 = .ok (.astore_n 2, 1) := by decide +kernel
theorem dX9_markUnforgotten_8 : decode cX9_markUnforgotten 8 = .ok (.aload_n 0, 1) := by decide +kernel
theorem dX9_markUnforgotten_9 : decode cX9_markUnforgotten 9 = .ok (.getfield 56, 3) := by decide +kernel
theorem dX9_markUnforgotten_12 : decode cX9_markUnforgotten 12 = .ok (.iconst 0, 1) := by decide +kernel
theorem dX9_markUnforgotten_13 : decode cX9_markUnforgotten 13 = .ok (.invokestatic 354, 3) := by decide +kernel
theorem dX9_markUnforgotten_16 : decode cX9_markUnforgotten 16 = .ok (.iconst 0, 1) := by decide +kernel
theorem dX9_markUnforgotten_17 : decode cX9_markUnforgotten 17 = .ok (.istore_n 3, 1) := by decide +kernel
theorem dX9_markUnforgotten_18 : decode cX9_markUnforgotten 18 = .ok (.iload_n 3, 1) := by decide +kernel
theorem dX9_markUnforgotten_19 : decode cX9_markUnforgotten 19 = .ok (.aload_n 2, 1) := by decide +kernel
theorem dX9_markUnforgotten_20 : decode cX9_markUnforgotten 20 = .ok (.getfield 283, 3) := by decide +kernel
theorem dX9_markUnforgotten_23 : decode cX9_markUnforgotten 23 = .ok (.if_icmp .ge 58, 3) := by decide +kernel
theorem dX9_markUnforgotten_26 : decode cX9_markUnforgotten 26 = .ok (.aload_n 2, 1) := by decide +kernel
theorem dX9_markUnforgotten_27 : decode cX9_markUnforgotten 27 = .ok (.getfield 360, 3) := by decide +kernel
theorem dX9_markUnforgotten_30 : decode cX9_markUnforgotten 30 = .ok (.iload_n 3, 1) := by decide +kernel
theorem dX9_markUnforgotten_31 : decode cX9_markUnforgotten 31 = .ok (.iaload, 1) := by decide +kernel
theorem dX9_markUnforgotten_32 : decode cX9_markUnforgotten 32 = .ok (.istore 4, 2) := by decide +kernel
theorem dX9_markUnforgotten_34 : decode cX9_markUnforgotten 34 = .ok (.aload_n 2, 1) := by decide +kernel
theorem dX9_markUnforgotten_35 : decode cX9_markUnforgotten 35 = .ok (.getfield 98, 3) := by decide +kernel
theorem dX9_markUnforgotten_38 : decode cX9_markUnforgotten 38 = .ok (.iload 4, 2) := by decide +kernel
theorem dX9_markUnforgotten_40 : decode cX9_markUnforgotten 40 = .ok (.iaload, 1) := by decide +kernel
theorem dX9_markUnforgotten_41 : decode cX9_markUnforgotten 41 = .ok (.istore 5, 2) := by decide +kernel
theorem dX9_markUnforgotten_43 : decode cX9_markUnforgotten 43 = .ok (.aload_n 1, 1) := by decide +kernel
theorem dX9_markUnforgotten_44 : decode cX9_markUnforgotten 44 = .ok (.getfield 105, 3) := by decide +kernel
theorem dX9_markUnforgotten_47 : decode cX9_markUnforgotten 47 = .ok (.iload 4, 2) := by decide +kernel
theorem dX9_markUnforgotten_49 : decode cX9_markUnforgotten 49 = .ok (.invokevirtual 363, 3) := by decide +kernel
theorem dX9_markUnforgotten_52 : decode cX9_markUnforgotten 52 = .ok (.ifCond .ne 15, 3) := by decide +kernel
theorem dX9_markUnforgotten_55 : decode cX9_markUnforgotten 55 = .ok (.aload_n 1, 1) := by decide +kernel
theorem dX9_markUnforgotten_56 : decode cX9_markUnforgotten 56 = .ok (.getfield 105, 3) := by decide +kernel
theorem dX9_markUnforgotten_59 : decode cX9_markUnforgotten 59 = .ok (.iload 5, 2) := by decide +kernel
theorem dX9_markUnforgotten_61 : decode cX9_markUnforgotten 61 = .ok (.invokevirtual 110, 3) := by decide +kernel
theorem dX9_markUnforgotten_64 : decode cX9_markUnforgotten 64 = .ok (.ifCond .eq 11, 3) := by decide +kernel
theorem dX9_markUnforgotten_67 : decode cX9_markUnforgotten 67 = .ok (.aload_n 0, 1) := by decide +kernel
theorem dX9_markUnforgotten_68 : decode cX9_markUnforgotten 68 = .ok (.getfield 56, 3) := by decide +kernel
theorem dX9_markUnforgotten_71 : decode cX9_markUnforgotten 71 = .ok (.iload 5, 2) := by decide +kernel
theorem dX9_markUnforgotten_73 : decode cX9_markUnforgotten 73 = .ok (.iconst 1, 1) := by decide +kernel
theorem dX9_markUnforgotten_74 : decode cX9_markUnforgotten 74 = .ok (.iastore, 1) := by decide +kernel
theorem dX9_markUnforgotten_75 : decode cX9_markUnforgotten 75 = .ok (.iinc 3 1, 3) := by decide +kernel
theorem dX9_markUnforgotten_78 : decode cX9_markUnforgotten 78 = .ok (.goto (-60), 3) := by decide +kernel
theorem dX9_markUnforgotten_81 : decode cX9_markUnforgotten 81 = .ok (.return_, 1) := by decide +kernel
