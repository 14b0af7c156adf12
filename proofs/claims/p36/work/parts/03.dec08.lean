theorem dX10_edits_0 : decode cX10_edits 0 = .ok (.aload_n 0, 1) := by decide +kernel
theorem dX10_edits_1 : decode cX10_edits 1 = .ok (.iconst 0, 1) := by decide +kernel
theorem dX10_edits_2 : decode cX10_edits 2 = .ok (.putfield 1, 3) := by decide +kernel
theorem dX10_edits_5 : decode cX10_edits 5 = .ok (.aload_n 0, 1) := by decide +kernel
theorem dX10_edits_6 : decode cX10_edits 6 = .ok (.iload_n 1, 1) := by decide +kernel
theorem dX10_edits_7 : decode cX10_edits 7 = .ok (.invokevirtual 63, 3) := by decide +kernel
theorem dX10_edits_10 : decode cX10_edits 10 = .ok (.ifCond .eq 11, 3) := by decide +kernel
theorem dX10_edits_13 : decode cX10_edits 13 = .ok (.aload_n 0, 1) := by decide +kernel
theorem dX10_edits_14 : decode cX10_edits 14 = .ok (.iload_n 2, 1) := by decide +kernel
theorem dX10_edits_15 : decode cX10_edits 15 = .ok (.invokevirtual 63, 3) := by decide +kernel
theorem dX10_edits_18 : decode cX10_edits 18 = .ok (.ifCond .ne 5, 3) := by decide +kernel
theorem dX10_edits_21 : decode cX10_edits 21 = .ok (.iconst (-1), 1) := by decide +kernel
theorem dX10_edits_22 : decode cX10_edits 22 = .ok (.ireturn, 1) := by decide +kernel
theorem dX10_edits_23 : decode cX10_edits 23 = .ok (.aload_n 0, 1) := by decide +kernel
theorem dX10_edits_24 : decode cX10_edits 24 = .ok (.iload_n 1, 1) := by decide +kernel
theorem dX10_edits_25 : decode cX10_edits 25 = .ok (.invokevirtual 224, 3) := by decide +kernel
theorem dX10_edits_28 : decode cX10_edits 28 = .ok (.aload_n 0, 1) := by decide +kernel
theorem dX10_edits_29 : decode cX10_edits 29 = .ok (.iload_n 2, 1) := by decide +kernel
theorem dX10_edits_30 : decode cX10_edits 30 = .ok (.invokevirtual 138, 3) := by decide +kernel
theorem dX10_edits_33 : decode cX10_edits 33 = .ok (.iconst 0, 1) := by decide +kernel
theorem dX10_edits_34 : decode cX10_edits 34 = .ok (.istore_n 3, 1) := by decide +kernel
theorem dX10_edits_35 : decode cX10_edits 35 = .ok (.iload_n 3, 1) := by decide +kernel
theorem dX10_edits_36 : decode cX10_edits 36 = .ok (.aload_n 0, 1) := by decide +kernel
theorem dX10_edits_37 : decode cX10_edits 37 = .ok (.getfield 119, 3) := by decide +kernel
theorem dX10_edits_40 : decode cX10_edits 40 = .ok (.if_icmp .gt 16, 3) := by decide +kernel
theorem dX10_edits_43 : decode cX10_edits 43 = .ok (.aload_n 0, 1) := by decide +kernel
theorem dX10_edits_44 : decode cX10_edits 44 = .ok (.getfield 38, 3) := by decide +kernel
theorem dX10_edits_47 : decode cX10_edits 47 = .ok (.iload_n 3, 1) := by decide +kernel
theorem dX10_edits_48 : decode cX10_edits 48 = .ok (.iconst 0, 1) := by decide +kernel
theorem dX10_edits_49 : decode cX10_edits 49 = .ok (.iastore, 1) := by decide +kernel
theorem dX10_edits_50 : decode cX10_edits 50 = .ok (.iinc 3 1, 3) := by decide +kernel
theorem dX10_edits_53 : decode cX10_edits 53 = .ok (.goto (-18), 3) := by decide +kernel
theorem dX10_edits_56 : decode cX10_edits 56 = .ok (.iconst 0, 1) := by decide +kernel
theorem dX10_edits_57 : decode cX10_edits 57 = .ok (.istore_n 3, 1) := by decide +kernel
theorem dX10_edits_58 : decode cX10_edits 58 = .ok (.iload_n 3, 1) := by decide +kernel
theorem dX10_edits_59 : decode cX10_edits 59 = .ok (.aload_n 0, 1) := by decide +kernel
theorem dX10_edits_60 : decode cX10_edits 60 = .ok (.getfield 221, 3) := by decide +kernel
theorem dX10_edits_63 : decode cX10_edits 63 = .ok (.if_icmp .ge 106, 3) := by decide +kernel
theorem dX10_edits_66 : decode cX10_edits 66 = .ok (.iconst 0, 1) := by decide +kernel
theorem dX10_edits_67 : decode cX10_edits 67 = .ok (.istore 4, 2) := by decide +kernel
theorem dX10_edits_69 : decode cX10_edits 69 = .ok (.iconst 1, 1) := by decide +kernel
theorem dX10_edits_70 : decode cX10_edits 70 = .ok (.istore 5, 2) := by decide +kernel
theorem dX10_edits_72 : decode cX10_edits 72 = .ok (.iload 5, 2) := by decide +kernel
theorem dX10_edits_74 : decode cX10_edits 74 = .ok (.aload_n 0, 1) := by decide +kernel
theorem dX10_edits_75 : decode cX10_edits 75 = .ok (.getfield 119, 3) := by decide +kernel
theorem dX10_edits_78 : decode cX10_edits 78 = .ok (.if_icmp .gt 85, 3) := by decide +kernel
theorem dX10_edits_81 : decode cX10_edits 81 = .ok (.aload_n 0, 1) := by decide +kernel
theorem dX10_edits_82 : decode cX10_edits 82 = .ok (.getfield 38, 3) := by decide +kernel
theorem dX10_edits_85 : decode cX10_edits 85 = .ok (.iload 5, 2) := by decide +kernel
theorem dX10_edits_87 : decode cX10_edits 87 = .ok (.iaload, 1) := by decide +kernel
theorem dX10_edits_88 : decode cX10_edits 88 = .ok (.istore 6, 2) := by decide +kernel
theorem dX10_edits_90 : decode cX10_edits 90 = .ok (.iload 6, 2) := by decide +kernel
theorem dX10_edits_92 : decode cX10_edits 92 = .ok (.aload_n 0, 1) := by decide +kernel
theorem dX10_edits_93 : decode cX10_edits 93 = .ok (.getfield 38, 3) := by decide +kernel
theorem dX10_edits_96 : decode cX10_edits 96 = .ok (.iload 5, 2) := by decide +kernel
theorem dX10_edits_98 : decode cX10_edits 98 = .ok (.iconst 1, 1) := by decide +kernel
theorem dX10_edits_99 : decode cX10_edits 99 = .ok (.isub, 1) := by decide +kernel
theorem dX10_edits_100 : decode cX10_edits 100 = .ok (.iaload, 1) := by decide +kernel
theorem dX10_edits_101 : decode cX10_edits 101 = .ok (.if_icmp .le 8, 3) := by decide +kernel
theorem dX10_edits_104 : decode cX10_edits 104 = .ok (.iload 6, 2) := by decide +kernel
theorem dX10_edits_106 : decode cX10_edits 106 = .ok (.goto 12, 3) := by decide +kernel
theorem dX10_edits_109 : decode cX10_edits 109 = .ok (.aload_n 0, 1) := by decide +kernel
theorem dX10_edits_110 : decode cX10_edits 110 = .ok (.getfield 38, 3) := by decide +kernel
theorem dX10_edits_113 : decode cX10_edits 113 = .ok (.iload 5, 2) := by decide +kernel
theorem dX10_edits_115 : decode cX10_edits 115 = .ok (.iconst 1, 1) := by decide +kernel
theorem dX10_edits_116 : decode cX10_edits 116 = .ok (.isub, 1) := by decide +kernel
theorem dX10_edits_117 : decode cX10_edits 117 = .ok (.iaload, 1) := by decide +kernel
theorem dX10_edits_118 : decode cX10_edits 118 = .ok (.istore 7, 2) := by decide +kernel
theorem dX10_edits_120 : decode cX10_edits 120 = .ok (.aload_n 0, 1) := by decide +kernel
theorem dX10_edits_121 : decode cX10_edits 121 = .ok (.getfield 38, 3) := by decide +kernel
theorem dX10_edits_124 : decode cX10_edits 124 = .ok (.iload 5, 2) := by decide +kernel
theorem dX10_edits_126 : decode cX10_edits 126 = .ok (.aload_n 0, 1) := by decide +kernel
theorem dX10_edits_127 : decode cX10_edits 127 = .ok (.getfield 32, 3) := by decide +kernel
theorem dX10_edits_130 : decode cX10_edits 130 = .ok (.iload_n 3, 1) := by decide +kernel
theorem dX10_edits_131 : decode cX10_edits 131 = .ok (.iaload, 1) := by decide +kernel
theorem dX10_edits_132 : decode cX10_edits 132 = .ok (.aload_n 0, 1) := by decide +kernel
theorem dX10_edits_133 : decode cX10_edits 133 = .ok (.iload 5, 2) := by decide +kernel
theorem dX10_edits_135 : decode cX10_edits 135 = .ok (.iconst 1, 1) := by decide +kernel
theorem dX10_edits_136 : decode cX10_edits 136 = .ok (.isub, 1) := by decide +kernel
theorem dX10_edits_137 : decode cX10_edits 137 = .ok (.invokevirtual 148, 3) := by decide +kernel
theorem dX10_edits_140 : decode cX10_edits 140 = .ok (.if_icmp .ne 10, 3) := by decide +kernel
theorem dX10_edits_143 : decode cX10_edits 143 = .ok (.iload 4, 2) := by decide +kernel
theorem dX10_edits_145 : decode cX10_edits 145 = .ok (.iconst 1, 1) := by decide +kernel
theorem dX10_edits_146 : decode cX10_edits 146 = .ok (.iadd, 1) := by decide +kernel
theorem dX10_edits_147 : decode cX10_edits 147 = .ok (.goto 5, 3) := by decide +kernel
theorem dX10_edits_150 : decode cX10_edits 150 = .ok (.iload 7, 2) := by decide +kernel
theorem dX10_edits_152 : decode cX10_edits 152 = .ok (.iastore, 1) := by decide +kernel
theorem dX10_edits_153 : decode cX10_edits 153 = .ok (.iload 6, 2) := by decide +kernel
theorem dX10_edits_155 : decode cX10_edits 155 = .ok (.istore 4, 2) := by decide +kernel
theorem dX10_edits_157 : decode cX10_edits 157 = .ok (.iinc 5 1, 3) := by decide +kernel
theorem dX10_edits_160 : decode cX10_edits 160 = .ok (.goto (-88), 3) := by decide +kernel
theorem dX10_edits_163 : decode cX10_edits 163 = .ok (.iinc 3 1, 3) := by decide +kernel
theorem dX10_edits_166 : decode cX10_edits 166 = .ok (.goto (-108), 3) := by decide +kernel
theorem dX10_edits_169 : decode cX10_edits 169 = .ok (.aload_n 0, 1) := by decide +kernel
theorem dX10_edits_170 : decode cX10_edits 170 = .ok (.getfield 221, 3) := by decide +kernel
theorem dX10_edits_173 : decode cX10_edits 173 = .ok (.aload_n 0, 1) := by decide +kernel
theorem dX10_edits_174 : decode cX10_edits 174 = .ok (.getfield 119, 3) := by decide +kernel
theorem dX10_edits_177 : decode cX10_edits 177 = .ok (.iadd, 1) := by decide +kernel
theorem dX10_edits_178 : decode cX10_edits 178 = .ok (.iconst 2, 1) := by decide +kernel
theorem dX10_edits_179 : decode cX10_edits 179 = .ok (.aload_n 0, 1) := by decide +kernel
theorem dX10_edits_180 : decode cX10_edits 180 = .ok (.getfield 38, 3) := by decide +kernel
theorem dX10_edits_183 : decode cX10_edits 183 = .ok (.aload_n 0, 1) := by decide +kernel
theorem dX10_edits_184 : decode cX10_edits 184 = .ok (.getfield 119, 3) := by decide +kernel
theorem dX10_edits_187 : decode cX10_edits 187 = .ok (.iaload, 1) := by decide +kernel
theorem dX10_edits_188 : decode cX10_edits 188 = .ok (.imul, 1) := by decide +kernel
theorem dX10_edits_189 : decode cX10_edits 189 = .ok (.isub, 1) := by decide +kernel
theorem dX10_edits_190 : decode cX10_edits 190 = .ok (.ireturn, 1) := by decide +kernel
theorem dX10_feed_0 : decode cX10_feed 0 = .ok (.aload_n 0, 1) := by decide +kernel
theorem dX10_feed_1 : decode cX10_feed 1 = .ok (.iconst 0, 1) := by decide +kernel
theorem dX10_feed_2 : decode cX10_feed 2 = .ok (.putfield 1, 3) := by decide +kernel
theorem dX10_feed_5 : decode cX10_feed 5 = .ok (.aload_n 0, 1) := by decide +kernel
theorem dX10_feed_6 : decode cX10_feed 6 = .ok (.getfield 265, 3) := by decide +kernel
theorem dX10_feed_9 : decode cX10_feed 9 = .ok (.bipush 20, 2) := by decide +kernel
theorem dX10_feed_11 : decode cX10_feed 11 = .ok (.iadd, 1) := by decide +kernel
theorem dX10_feed_12 : decode cX10_feed 12 = .ok (.sipush 400, 3) := by decide +kernel
theorem dX10_feed_15 : decode cX10_feed 15 = .ok (.if_icmp .le 5, 3) := by decide +kernel
theorem dX10_feed_18 : decode cX10_feed 18 = .ok (.iconst (-1), 1) := by decide +kernel
theorem dX10_feed_19 : decode cX10_feed 19 = .ok (.ireturn, 1) := by decide +kernel
theorem dX10_feed_20 : decode cX10_feed 20 = .ok (.aload_n 0, 1) := by decide +kernel
theorem dX10_feed_21 : decode cX10_feed 21 = .ok (.iload_n 1, 1) := by decide +kernel
theorem dX10_feed_22 : decode cX10_feed 22 = .ok (.invokevirtual 268, 3) := by decide +kernel
theorem dX10_feed_25 : decode cX10_feed 25 = .ok (.aload_n 0, 1) := by decide +kernel
theorem dX10_feed_26 : decode cX10_feed 26 = .ok (.iload_n 2, 1) := by decide +kernel
theorem dX10_feed_27 : decode cX10_feed 27 = .ok (.invokevirtual 268, 3) := by decide +kernel
theorem dX10_feed_30 : decode cX10_feed 30 = .ok (.aload_n 0, 1) := by decide +kernel
theorem dX10_feed_31 : decode cX10_feed 31 = .ok (.iload_n 3, 1) := by decide +kernel
theorem dX10_feed_32 : decode cX10_feed 32 = .ok (.invokevirtual 268, 3) := by decide +kernel
theorem dX10_feed_35 : decode cX10_feed 35 = .ok (.aload_n 0, 1) := by decide +kernel
theorem dX10_feed_36 : decode cX10_feed 36 = .ok (.iload 4, 2) := by decide +kernel
theorem dX10_feed_38 : decode cX10_feed 38 = .ok (.invokevirtual 268, 3) := by decide +kernel
theorem dX10_feed_41 : decode cX10_feed 41 = .ok (.aload_n 0, 1) := by decide +kernel
theorem dX10_feed_42 : decode cX10_feed 42 = .ok (.iload 5, 2) := by decide +kernel
theorem dX10_feed_44 : decode cX10_feed 44 = .ok (.invokevirtual 268, 3) := by decide +kernel
theorem dX10_feed_47 : decode cX10_feed 47 = .ok (.aload_n 0, 1) := by decide +kernel
theorem dX10_feed_48 : decode cX10_feed 48 = .ok (.getfield 265, 3) := by decide +kernel
theorem dX10_feed_51 : decode cX10_feed 51 = .ok (.ireturn, 1) := by decide +kernel
theorem dX10_puts_0 : decode cX10_puts 0 = .ok (.bipush 24, 2) := by decide +kernel
theorem dX10_puts_2 : decode cX10_puts 2 = .ok (.istore_n 2, 1) := by decide +kernel
theorem dX10_puts_3 : decode cX10_puts 3 = .ok (.iload_n 2, 1) := by decide +kernel
theorem dX10_puts_4 : decode cX10_puts 4 = .ok (.ifCond .lt 32, 3) := by decide +kernel
theorem dX10_puts_7 : decode cX10_puts 7 = .ok (.aload_n 0, 1) := by decide +kernel
theorem dX10_puts_8 : decode cX10_puts 8 = .ok (.getfield 41, 3) := by decide +kernel
theorem dX10_puts_11 : decode cX10_puts 11 = .ok (.aload_n 0, 1) := by decide +kernel
theorem dX10_puts_12 : decode cX10_puts 12 = .ok (.getfield 265, 3) := by decide +kernel
theorem dX10_puts_15 : decode cX10_puts 15 = .ok (.iload_n 1, 1) := by decide +kernel
theorem dX10_puts_16 : decode cX10_puts 16 = .ok (.iload_n 2, 1) := by decide +kernel
theorem dX10_puts_17 : decode cX10_puts 17 = .ok (.ishr, 1) := by decide +kernel
theorem dX10_puts_18 : decode cX10_puts 18 = .ok (.i2b, 1) := by decide +kernel
theorem dX10_puts_19 : decode cX10_puts 19 = .ok (.bastore, 1) := by decide +kernel
theorem dX10_puts_20 : decode cX10_puts 20 = .ok (.aload_n 0, 1) := by decide +kernel
theorem dX10_puts_21 : decode cX10_puts 21 = .ok (.dup, 1) := by decide +kernel
theorem dX10_puts_22 : decode cX10_puts 22 = .ok (.getfield 265, 3) := by decide +kernel
theorem dX10_puts_25 : decode cX10_puts 25 = .ok (.iconst 1, 1) := by decide +kernel
theorem dX10_puts_26 : decode cX10_puts 26 = .ok (.iadd, 1) := by decide +kernel
theorem dX10_puts_27 : decode cX10_puts 27 = .ok (.putfield 265, 3) := by decide +kernel
theorem dX10_puts_30 : decode cX10_puts 30 = .ok (.iinc 2 (-8), 3) := by decide +kernel
theorem dX10_puts_33 : decode cX10_puts 33 = .ok (.goto (-30), 3) := by decide +kernel
theorem dX10_puts_36 : decode cX10_puts 36 = .ok (.return_, 1) := by decide +kernel
theorem dX10_here_0 : decode cX10_here 0 = .ok (.aload_n 0, 1) := by decide +kernel
theorem dX10_here_1 : decode cX10_here 1 = .ok (.getfield 271, 3) := by decide +kernel
theorem dX10_here_4 : decode cX10_here 4 = .ok (.aload_n 0, 1) := by decide +kernel
theorem dX10_here_5 : decode cX10_here 5 = .ok (.getfield 274, 3) := by decide +kernel
theorem dX10_here_8 : decode cX10_here 8 = .ok (.if_icmp .ge 44, 3) := by decide +kernel
theorem dX10_here_11 : decode cX10_here 11 = .ok (.aload_n 0, 1) := by decide +kernel
theorem dX10_here_12 : decode cX10_here 12 = .ok (.getfield 41, 3) := by decide +kernel
theorem dX10_here_15 : decode cX10_here 15 = .ok (.aload_n 0, 1) := by decide +kernel
theorem dX10_here_16 : decode cX10_here 16 = .ok (.getfield 271, 3) := by decide +kernel
theorem dX10_here_19 : decode cX10_here 19 = .ok (.baload, 1) := by decide +kernel
theorem dX10_here_20 : decode cX10_here 20 = .ok (.bipush 32, 2) := by decide +kernel
theorem dX10_here_22 : decode cX10_here 22 = .ok (.if_icmp .eq 17, 3) := by decide +kernel
theorem dX10_here_25 : decode cX10_here 25 = .ok (.aload_n 0, 1) := by decide +kernel
theorem dX10_here_26 : decode cX10_here 26 = .ok (.getfield 41, 3) := by decide +kernel
theorem dX10_here_29 : decode cX10_here 29 = .ok (.aload_n 0, 1) := by decide +kernel
theorem dX10_here_30 : decode cX10_here 30 = .ok (.getfield 271, 3) := by decide +kernel
theorem dX10_here_33 : decode cX10_here 33 = .ok (.baload, 1) := by decide +kernel
theorem dX10_here_34 : decode cX10_here 34 = .ok (.bipush 10, 2) := by decide +kernel
theorem dX10_here_36 : decode cX10_here 36 = .ok (.if_icmp .ne 16, 3) := by decide +kernel
theorem dX10_here_39 : decode cX10_here 39 = .ok (.aload_n 0, 1) := by decide +kernel
theorem dX10_here_40 : decode cX10_here 40 = .ok (.dup, 1) := by decide +kernel
theorem dX10_here_41 : decode cX10_here 41 = .ok (.getfield 271, 3) := by decide +kernel
theorem dX10_here_44 : decode cX10_here 44 = .ok (.iconst 1, 1) := by decide +kernel
theorem dX10_here_45 : decode cX10_here 45 = .ok (.iadd, 1) := by decide +kernel
theorem dX10_here_46 : decode cX10_here 46 = .ok (.putfield 271, 3) := by decide +kernel
theorem dX10_here_49 : decode cX10_here 49 = .ok (.goto (-49), 3) := by decide +kernel
theorem dX10_here_52 : decode cX10_here 52 = .ok (.aload_n 0, 1) := by decide +kernel
theorem dX10_here_53 : decode cX10_here 53 = .ok (.getfield 271, 3) := by decide +kernel
theorem dX10_here_56 : decode cX10_here 56 = .ok (.aload_n 0, 1) := by decide +kernel
theorem dX10_here_57 : decode cX10_here 57 = .ok (.getfield 274, 3) := by decide +kernel
theorem dX10_here_60 : decode cX10_here 60 = .ok (.if_icmp .ge 19, 3) := by decide +kernel
theorem dX10_here_63 : decode cX10_here 63 = .ok (.aload_n 0, 1) := by decide +kernel
theorem dX10_here_64 : decode cX10_here 64 = .ok (.getfield 41, 3) := by decide +kernel
theorem dX10_here_67 : decode cX10_here 67 = .ok (.aload_n 0, 1) := by decide +kernel
theorem dX10_here_68 : decode cX10_here 68 = .ok (.getfield 271, 3) := by decide +kernel
theorem dX10_here_71 : decode cX10_here 71 = .ok (.baload, 1) := by decide +kernel
theorem dX10_here_72 : decode cX10_here 72 = .ok (.sipush 255, 3) := by decide +kernel
theorem dX10_here_75 : decode cX10_here 75 = .ok (.iand, 1) := by decide +kernel
theorem dX10_here_76 : decode cX10_here 76 = .ok (.goto 4, 3) := by decide +kernel
theorem dX10_here_79 : decode cX10_here 79 = .ok (.iconst (-1), 1) := by decide +kernel
theorem dX10_here_80 : decode cX10_here 80 = .ok (.ireturn, 1) := by decide +kernel
theorem dX10_wrong_0 : decode cX10_wrong 0 = .ok (.aload_n 0, 1) := by decide +kernel
theorem dX10_wrong_1 : decode cX10_wrong 1 = .ok (.aload_n 0, 1) := by decide +kernel
theorem dX10_wrong_2 : decode cX10_wrong 2 = .ok (.getfield 277, 3) := by decide +kernel
theorem dX10_wrong_5 : decode cX10_wrong 5 = .ok (.ifCond .ne 12, 3) := by decide +kernel
theorem dX10_wrong_8 : decode cX10_wrong 8 = .ok (.bipush 8, 2) := by decide +kernel
theorem dX10_wrong_10 : decode cX10_wrong 10 = .ok (.iload_n 1, 1) := by decide +kernel
theorem dX10_wrong_11 : decode cX10_wrong 11 = .ok (.imul, 1) := by decide +kernel
theorem dX10_wrong_12 : decode cX10_wrong 12 = .ok (.iload_n 2, 1) := by decide +kernel
theorem dX10_wrong_13 : decode cX10_wrong 13 = .ok (.iadd, 1) := by decide +kernel
theorem dX10_wrong_14 : decode cX10_wrong 14 = .ok (.goto 7, 3) := by decide +kernel
theorem dX10_wrong_17 : decode cX10_wrong 17 = .ok (.aload_n 0, 1) := by decide +kernel
theorem dX10_wrong_18 : decode cX10_wrong 18 = .ok (.getfield 277, 3) := by decide +kernel
theorem dX10_wrong_21 : decode cX10_wrong 21 = .ok (.putfield 277, 3) := by decide +kernel
theorem dX10_wrong_24 : decode cX10_wrong 24 = .ok (.iconst 0, 1) := by decide +kernel
theorem dX10_wrong_25 : decode cX10_wrong 25 = .ok (.ireturn, 1) := by decide +kernel
theorem dX10_isSmall_0 : decode cX10_isSmall 0 = .ok (.iload_n 1, 1) := by decide +kernel
theorem dX10_isSmall_1 : decode cX10_isSmall 1 = .ok (.aload_n 0, 1) := by decide +kernel
theorem dX10_isSmall_2 : decode cX10_isSmall 2 = .ok (.getfield 274, 3) := by decide +kernel
theorem dX10_isSmall_5 : decode cX10_isSmall 5 = .ok (.if_icmp .ge 23, 3) := by decide +kernel
theorem dX10_isSmall_8 : decode cX10_isSmall 8 = .ok (.aload_n 0, 1) := by decide +kernel
theorem dX10_isSmall_9 : decode cX10_isSmall 9 = .ok (.getfield 41, 3) := by decide +kernel
theorem dX10_isSmall_12 : decode cX10_isSmall 12 = .ok (.iload_n 1, 1) := by decide +kernel
theorem dX10_isSmall_13 : decode cX10_isSmall 13 = .ok (.baload, 1) := by decide +kernel
theorem dX10_isSmall_14 : decode cX10_isSmall 14 = .ok (.bipush 97, 2) := by decide +kernel
theorem dX10_isSmall_16 : decode cX10_isSmall 16 = .ok (.bipush 122, 2) := by decide +kernel
theorem dX10_isSmall_18 : decode cX10_isSmall 18 = .ok (.invokestatic 55, 3) := by decide +kernel
theorem dX10_isSmall_21 : decode cX10_isSmall 21 = .ok (.ifCond .eq 7, 3) := by decide +kernel
theorem dX10_isSmall_24 : decode cX10_isSmall 24 = .ok (.iconst 1, 1) := by decide +kernel
theorem dX10_isSmall_25 : decode cX10_isSmall 25 = .ok (.goto 4, 3) := by decide +kernel
theorem dX10_isSmall_28 : decode cX10_isSmall 28 = .ok (.iconst 0, 1) := by decide +kernel
theorem dX10_isSmall_29 : decode cX10_isSmall 29 = .ok (.ireturn, 1) := by decide +kernel
theorem dX10_wordEnd_0 : decode cX10_wordEnd 0 = .ok (.aload_n 0, 1) := by decide +kernel
theorem dX10_wordEnd_1 : decode cX10_wordEnd 1 = .ok (.getfield 271, 3) := by decide +kernel
theorem dX10_wordEnd_4 : decode cX10_wordEnd 4 = .ok (.istore_n 1, 1) := by decide +kernel
theorem dX10_wordEnd_5 : decode cX10_wordEnd 5 = .ok (.aload_n 0, 1) := by decide +kernel
theorem dX10_wordEnd_6 : decode cX10_wordEnd 6 = .ok (.iload_n 1, 1) := by decide +kernel
theorem dX10_wordEnd_7 : decode cX10_wordEnd 7 = .ok (.invokevirtual 280, 3) := by decide +kernel
theorem dX10_wordEnd_10 : decode cX10_wordEnd 10 = .ok (.ifCond .eq 9, 3) := by decide +kernel
theorem dX10_wordEnd_13 : decode cX10_wordEnd 13 = .ok (.iinc 1 1, 3) := by decide +kernel
theorem dX10_wordEnd_16 : decode cX10_wordEnd 16 = .ok (.goto (-11), 3) := by decide +kernel
theorem dX10_wordEnd_19 : decode cX10_wordEnd 19 = .ok (.iload_n 1, 1) := by decide +kernel
theorem dX10_wordEnd_20 : decode cX10_wordEnd 20 = .ok (.ireturn, 1) := by decide +kernel
theorem dX10_isWord_0 : decode cX10_isWord 0 = .ok (.bipush 7, 2) := by decide +kernel
theorem dX10_isWord_2 : decode cX10_isWord 2 = .ok (.newarray .int, 2) := by decide +kernel
theorem dX10_isWord_4 : decode cX10_isWord 4 = .ok (.dup, 1) := by decide +kernel
theorem dX10_isWord_5 : decode cX10_isWord 5 = .ok (.iconst 0, 1) := by decide +kernel
theorem dX10_isWord_6 : decode cX10_isWord 6 = .ok (.iload_n 1, 1) := by decide +kernel
theorem dX10_isWord_7 : decode cX10_isWord 7 = .ok (.iastore, 1) := by decide +kernel
theorem dX10_isWord_8 : decode cX10_isWord 8 = .ok (.dup, 1) := by decide +kernel
theorem dX10_isWord_9 : decode cX10_isWord 9 = .ok (.iconst 1, 1) := by decide +kernel
theorem dX10_isWord_10 : decode cX10_isWord 10 = .ok (.iload_n 2, 1) := by decide +kernel
theorem dX10_isWord_11 : decode cX10_isWord 11 = .ok (.iastore, 1) := by decide +kernel
theorem dX10_isWord_12 : decode cX10_isWord 12 = .ok (.dup, 1) := by decide +kernel
theorem dX10_isWord_13 : decode cX10_isWord 13 = .ok (.iconst 2, 1) := by decide +kernel
theorem dX10_isWord_14 : decode cX10_isWord 14 = .ok (.iload_n 3, 1) := by decide +kernel
theorem dX10_isWord_15 : decode cX10_isWord 15 = .ok (.iastore, 1) := by decide +kernel
theorem dX10_isWord_16 : decode cX10_isWord 16 = .ok (.dup, 1) := by decide +kernel
theorem dX10_isWord_17 : decode cX10_isWord 17 = .ok (.iconst 3, 1) := by decide +kernel
theorem dX10_isWord_18 : decode cX10_isWord 18 = .ok (.iload 4, 2) := by decide +kernel
theorem dX10_isWord_20 : decode cX10_isWord 20 = .ok (.iastore, 1) := by decide +kernel
theorem dX10_isWord_21 : decode cX10_isWord 21 = .ok (.dup, 1) := by decide +kernel
theorem dX10_isWord_22 : decode cX10_isWord 22 = .ok (.iconst 4, 1) := by decide +kernel
theorem dX10_isWord_23 : decode cX10_isWord 23 = .ok (.iload 5, 2) := by decide +kernel
theorem dX10_isWord_25 : decode cX10_isWord 25 = .ok (.iastore, 1) := by decide +kernel
theorem dX10_isWord_26 : decode cX10_isWord 26 = .ok (.dup, 1) := by decide +kernel
theorem dX10_isWord_27 : decode cX10_isWord 27 = .ok (.iconst 5, 1) := by decide +kernel
theorem dX10_isWord_28 : decode cX10_isWord 28 = .ok (.iload 6, 2) := by decide +kernel
theorem dX10_isWord_30 : decode cX10_isWord 30 = .ok (.iastore, 1) := by decide +kernel
theorem dX10_isWord_31 : decode cX10_isWord 31 = .ok (.dup, 1) := by decide +kernel
theorem dX10_isWord_32 : decode cX10_isWord 32 = .ok (.bipush 6, 2) := by decide +kernel
theorem dX10_isWord_34 : decode cX10_isWord 34 = .ok (.iload 7, 2) := by decide +kernel
theorem dX10_isWord_36 : decode cX10_isWord 36 = .ok (.iastore, 1) := by decide +kernel
theorem dX10_isWord_37 : decode cX10_isWord 37 = .ok (.astore 8, 2) := by decide +kernel
theorem dX10_isWord_39 : decode cX10_isWord 39 = .ok (.aload_n 0, 1) := by decide +kernel
theorem dX10_isWord_40 : decode cX10_isWord 40 = .ok (.invokevirtual 283, 3) := by decide +kernel
theorem dX10_isWord_43 : decode cX10_isWord 43 = .ok (.aload_n 0, 1) := by decide +kernel
theorem dX10_isWord_44 : decode cX10_isWord 44 = .ok (.getfield 271, 3) := by decide +kernel
theorem dX10_isWord_47 : decode cX10_isWord 47 = .ok (.isub, 1) := by decide +kernel
theorem dX10_isWord_48 : decode cX10_isWord 48 = .ok (.istore 9, 2) := by decide +kernel
theorem dX10_isWord_50 : decode cX10_isWord 50 = .ok (.iload 9, 2) := by decide +kernel
theorem dX10_isWord_52 : decode cX10_isWord 52 = .ok (.ifCond .le 14, 3) := by decide +kernel
theorem dX10_isWord_55 : decode cX10_isWord 55 = .ok (.iload 9, 2) := by decide +kernel
theorem dX10_isWord_57 : decode cX10_isWord 57 = .ok (.bipush 8, 2) := by decide +kernel
theorem dX10_isWord_59 : decode cX10_isWord 59 = .ok (.if_icmp .ge 7, 3) := by decide +kernel
theorem dX10_isWord_62 : decode cX10_isWord 62 = .ok (.iconst 1, 1) := by decide +kernel
theorem dX10_isWord_63 : decode cX10_isWord 63 = .ok (.goto 4, 3) := by decide +kernel
theorem dX10_isWord_66 : decode cX10_isWord 66 = .ok (.iconst 0, 1) := by decide +kernel
theorem dX10_isWord_67 : decode cX10_isWord 67 = .ok (.istore 10, 2) := by decide +kernel
theorem dX10_isWord_69 : decode cX10_isWord 69 = .ok (.iconst 0, 1) := by decide +kernel
theorem dX10_isWord_70 : decode cX10_isWord 70 = .ok (.istore 11, 2) := by decide +kernel
theorem dX10_isWord_72 : decode cX10_isWord 72 = .ok (.iload 11, 2) := by decide +kernel
theorem dX10_isWord_74 : decode cX10_isWord 74 = .ok (.bipush 7, 2) := by decide +kernel
theorem dX10_isWord_76 : decode cX10_isWord 76 = .ok (.if_icmp .ge 64, 3) := by decide +kernel
theorem dX10_isWord_79 : decode cX10_isWord 79 = .ok (.iload 10, 2) := by decide +kernel
theorem dX10_isWord_81 : decode cX10_isWord 81 = .ok (.ifCond .eq 59, 3) := by decide +kernel
theorem dX10_isWord_84 : decode cX10_isWord 84 = .ok (.iload 11, 2) := by decide +kernel
theorem dX10_isWord_86 : decode cX10_isWord 86 = .ok (.iload 9, 2) := by decide +kernel
theorem dX10_isWord_88 : decode cX10_isWord 88 = .ok (.if_icmp .ge 31, 3) := by decide +kernel
theorem dX10_isWord_91 : decode cX10_isWord 91 = .ok (.aload_n 0, 1) := by decide +kernel
theorem dX10_isWord_92 : decode cX10_isWord 92 = .ok (.getfield 41, 3) := by decide +kernel
theorem dX10_isWord_95 : decode cX10_isWord 95 = .ok (.aload_n 0, 1) := by decide +kernel
theorem dX10_isWord_96 : decode cX10_isWord 96 = .ok (.getfield 271, 3) := by decide +kernel
theorem dX10_isWord_99 : decode cX10_isWord 99 = .ok (.iload 11, 2) := by decide +kernel
theorem dX10_isWord_101 : decode cX10_isWord 101 = .ok (.iadd, 1) := by decide +kernel
theorem dX10_isWord_102 : decode cX10_isWord 102 = .ok (.baload, 1) := by decide +kernel
theorem dX10_isWord_103 : decode cX10_isWord 103 = .ok (.aload 8, 2) := by decide +kernel
theorem dX10_isWord_105 : decode cX10_isWord 105 = .ok (.iload 11, 2) := by decide +kernel
theorem dX10_isWord_107 : decode cX10_isWord 107 = .ok (.iaload, 1) := by decide +kernel
theorem dX10_isWord_108 : decode cX10_isWord 108 = .ok (.if_icmp .ne 7, 3) := by decide +kernel
theorem dX10_isWord_111 : decode cX10_isWord 111 = .ok (.iconst 1, 1) := by decide +kernel
theorem dX10_isWord_112 : decode cX10_isWord 112 = .ok (.goto 20, 3) := by decide +kernel
theorem dX10_isWord_115 : decode cX10_isWord 115 = .ok (.iconst 0, 1) := by decide +kernel
theorem dX10_isWord_116 : decode cX10_isWord 116 = .ok (.goto 16, 3) := by decide +kernel
theorem dX10_isWord_119 : decode cX10_isWord 119 = .ok (.aload 8, 2) := by decide +kernel
theorem dX10_isWord_121 : decode cX10_isWord 121 = .ok (.iload 11, 2) := by decide +kernel
theorem dX10_isWord_123 : decode cX10_isWord 123 = .ok (.iaload, 1) := by decide +kernel
theorem dX10_isWord_124 : decode cX10_isWord 124 = .ok (.ifCond .ne 7, 3) := by decide +kernel
theorem dX10_isWord_127 : decode cX10_isWord 127 = .ok (.iconst 1, 1) := by decide +kernel
theorem dX10_isWord_128 : decode cX10_isWord 128 = .ok (.goto 4, 3) := by decide +kernel
theorem dX10_isWord_131 : decode cX10_isWord 131 = .ok (.iconst 0, 1) := by decide +kernel
theorem dX10_isWord_132 : decode cX10_isWord 132 = .ok (.istore 10, 2) := by decide +kernel
theorem dX10_isWord_134 : decode cX10_isWord 134 = .ok (.iinc 11 1, 3) := by decide +kernel
theorem dX10_isWord_137 : decode cX10_isWord 137 = .ok (.goto (-65), 3) := by decide +kernel
theorem dX10_isWord_140 : decode cX10_isWord 140 = .ok (.iload 10, 2) := by decide +kernel
theorem dX10_isWord_142 : decode cX10_isWord 142 = .ok (.ireturn, 1) := by decide +kernel
theorem dX10_whichHere_0 : decode cX10_whichHere 0 = .ok (.aload_n 0, 1) := by decide +kernel
theorem dX10_whichHere_1 : decode cX10_whichHere 1 = .ok (.invokevirtual 286, 3) := by decide +kernel
theorem dX10_whichHere_4 : decode cX10_whichHere 4 = .ok (.istore_n 1, 1) := by decide +kernel
theorem dX10_whichHere_5 : decode cX10_whichHere 5 = .ok (.iload_n 1, 1) := by decide +kernel
theorem dX10_whichHere_6 : decode cX10_whichHere 6 = .ok (.ifCond .ge 5, 3) := by decide +kernel
theorem dX10_whichHere_9 : decode cX10_whichHere 9 = .ok (.iconst (-1), 1) := by decide +kernel
theorem dX10_whichHere_10 : decode cX10_whichHere 10 = .ok (.ireturn, 1) := by decide +kernel
theorem dX10_whichHere_11 : decode cX10_whichHere 11 = .ok (.aload_n 0, 1) := by decide +kernel
theorem dX10_whichHere_12 : decode cX10_whichHere 12 = .ok (.bipush 105, 2) := by decide +kernel
theorem dX10_whichHere_14 : decode cX10_whichHere 14 = .ok (.bipush 110, 2) := by decide +kernel
theorem dX10_whichHere_16 : decode cX10_whichHere 16 = .ok (.bipush 115, 2) := by decide +kernel
theorem dX10_whichHere_18 : decode cX10_whichHere 18 = .ok (.bipush 101, 2) := by decide +kernel
theorem dX10_whichHere_20 : decode cX10_whichHere 20 = .ok (.bipush 114, 2) := by decide +kernel
theorem dX10_whichHere_22 : decode cX10_whichHere 22 = .ok (.bipush 116, 2) := by decide +kernel
theorem dX10_whichHere_24 : decode cX10_whichHere 24 = .ok (.iconst 0, 1) := by decide +kernel
theorem dX10_whichHere_25 : decode cX10_whichHere 25 = .ok (.invokevirtual 289, 3) := by decide +kernel
theorem dX10_whichHere_28 : decode cX10_whichHere 28 = .ok (.ifCond .eq 5, 3) := by decide +kernel
theorem dX10_whichHere_31 : decode cX10_whichHere 31 = .ok (.iconst 0, 1) := by decide +kernel
theorem dX10_whichHere_32 : decode cX10_whichHere 32 = .ok (.ireturn, 1) := by decide +kernel
theorem dX10_whichHere_33 : decode cX10_whichHere 33 = .ok (.aload_n 0, 1) := by decide +kernel
theorem dX10_whichHere_34 : decode cX10_whichHere 34 = .ok (.bipush 109, 2) := by decide +kernel
theorem dX10_whichHere_36 : decode cX10_whichHere 36 = .ok (.bipush 111, 2) := by decide +kernel
theorem dX10_whichHere_38 : decode cX10_whichHere 38 = .ok (.bipush 118, 2) := by decide +kernel
theorem dX10_whichHere_40 : decode cX10_whichHere 40 = .ok (.bipush 101, 2) := by decide +kernel
theorem dX10_whichHere_42 : decode cX10_whichHere 42 = .ok (.iconst 0, 1) := by decide +kernel
theorem dX10_whichHere_43 : decode cX10_whichHere 43 = .ok (.iconst 0, 1) := by decide +kernel
theorem dX10_whichHere_44 : decode cX10_whichHere 44 = .ok (.iconst 0, 1) := by decide +kernel
theorem dX10_whichHere_45 : decode cX10_whichHere 45 = .ok (.invokevirtual 289, 3) := by decide +kernel
theorem dX10_whichHere_48 : decode cX10_whichHere 48 = .ok (.ifCond .eq 5, 3) := by decide +kernel
theorem dX10_whichHere_51 : decode cX10_whichHere 51 = .ok (.iconst 1, 1) := by decide +kernel
theorem dX10_whichHere_52 : decode cX10_whichHere 52 = .ok (.ireturn, 1) := by decide +kernel
theorem dX10_whichHere_53 : decode cX10_whichHere 53 = .ok (.aload_n 0, 1) := by decide +kernel
theorem dX10_whichHere_54 : decode cX10_whichHere 54 = .ok (.bipush 100, 2) := by decide +kernel
theorem dX10_whichHere_56 : decode cX10_whichHere 56 = .ok (.bipush 114, 2) := by decide +kernel
theorem dX10_whichHere_58 : decode cX10_whichHere 58 = .ok (.bipush 111, 2) := by decide +kernel
theorem dX10_whichHere_60 : decode cX10_whichHere 60 = .ok (.bipush 112, 2) := by decide +kernel
theorem dX10_whichHere_62 : decode cX10_whichHere 62 = .ok (.iconst 0, 1) := by decide +kernel
theorem dX10_whichHere_63 : decode cX10_whichHere 63 = .ok (.iconst 0, 1) := by decide +kernel
theorem dX10_whichHere_64 : decode cX10_whichHere 64 = .ok (.iconst 0, 1) := by decide +kernel
theorem dX10_whichHere_65 : decode cX10_whichHere 65 = .ok (.invokevirtual 289, 3) := by decide +kernel
theorem dX10_whichHere_68 : decode cX10_whichHere 68 = .ok (.ifCond .eq 5, 3) := by decide +kernel
theorem dX10_whichHere_71 : decode cX10_whichHere 71 = .ok (.iconst 2, 1) := by decide +kernel
theorem dX10_whichHere_72 : decode cX10_whichHere 72 = .ok (.ireturn, 1) := by decide +kernel
theorem dX10_whichHere_73 : decode cX10_whichHere 73 = .ok (.aload_n 0, 1) := by decide +kernel
theorem dX10_whichHere_74 : decode cX10_whichHere 74 = .ok (.bipush 99, 2) := by decide +kernel
theorem dX10_whichHere_76 : decode cX10_whichHere 76 = .ok (.bipush 104, 2) := by decide +kernel
theorem dX10_whichHere_78 : decode cX10_whichHere 78 = .ok (.bipush 97, 2) := by decide +kernel
theorem dX10_whichHere_80 : decode cX10_whichHere 80 = .ok (.bipush 110, 2) := by decide +kernel
theorem dX10_whichHere_82 : decode cX10_whichHere 82 = .ok (.bipush 103, 2) := by decide +kernel
theorem dX10_whichHere_84 : decode cX10_whichHere 84 = .ok (.bipush 101, 2) := by decide +kernel
theorem dX10_whichHere_86 : decode cX10_whichHere 86 = .ok (.iconst 0, 1) := by decide +kernel
theorem dX10_whichHere_87 : decode cX10_whichHere 87 = .ok (.invokevirtual 289, 3) := by decide +kernel
theorem dX10_whichHere_90 : decode cX10_whichHere 90 = .ok (.ifCond .eq 5, 3) := by decide +kernel
theorem dX10_whichHere_93 : decode cX10_whichHere 93 = .ok (.iconst 3, 1) := by decide +kernel
theorem dX10_whichHere_94 : decode cX10_whichHere 94 = .ok (.ireturn, 1) := by decide +kernel
theorem dX10_whichHere_95 : decode cX10_whichHere 95 = .ok (.aload_n 0, 1) := by decide +kernel
theorem dX10_whichHere_96 : decode cX10_whichHere 96 = .ok (.bipush 100, 2) := by decide +kernel
theorem dX10_whichHere_98 : decode cX10_whichHere 98 = .ok (.bipush 101, 2) := by decide +kernel
theorem dX10_whichHere_100 : decode cX10_whichHere 100 = .ok (.bipush 108, 2) := by decide +kernel
theorem dX10_whichHere_102 : decode cX10_whichHere 102 = .ok (.bipush 105, 2) := by decide +kernel
theorem dX10_whichHere_104 : decode cX10_whichHere 104 = .ok (.bipush 118, 2) := by decide +kernel
theorem dX10_whichHere_106 : decode cX10_whichHere 106 = .ok (.bipush 101, 2) := by decide +kernel
theorem dX10_whichHere_108 : decode cX10_whichHere 108 = .ok (.bipush 114, 2) := by decide +kernel
theorem dX10_whichHere_110 : decode cX10_whichHere 110 = .ok (.invokevirtual 289, 3) := by decide +kernel
theorem dX10_whichHere_113 : decode cX10_whichHere 113 = .ok (.ifCond .eq 5, 3) := by decide +kernel
theorem dX10_whichHere_116 : decode cX10_whichHere 116 = .ok (.iconst 4, 1) := by decide +kernel
theorem dX10_whichHere_117 : decode cX10_whichHere 117 = .ok (.ireturn, 1) := by decide +kernel
theorem dX10_whichHere_118 : decode cX10_whichHere 118 = .ok (.aload_n 0, 1) := by decide +kernel
theorem dX10_whichHere_119 : decode cX10_whichHere 119 = .ok (.bipush 108, 2) := by decide +kernel
theorem dX10_whichHere_121 : decode cX10_whichHere 121 = .ok (.bipush 111, 2) := by decide +kernel
theorem dX10_whichHere_123 : decode cX10_whichHere 123 = .ok (.bipush 115, 2) := by decide +kernel
theorem dX10_whichHere_125 : decode cX10_whichHere 125 = .ok (.bipush 101, 2) := by decide +kernel
theorem dX10_whichHere_127 : decode cX10_whichHere 127 = .ok (.iconst 0, 1) := by decide +kernel
theorem dX10_whichHere_128 : decode cX10_whichHere 128 = .ok (.iconst 0, 1) := by decide +kernel
theorem dX10_whichHere_129 : decode cX10_whichHere 129 = .ok (.iconst 0, 1) := by decide +kernel
theorem dX10_whichHere_130 : decode cX10_whichHere 130 = .ok (.invokevirtual 289, 3) := by decide +kernel
theorem dX10_whichHere_133 : decode cX10_whichHere 133 = .ok (.ifCond .eq 5, 3) := by decide +kernel
theorem dX10_whichHere_136 : decode cX10_whichHere 136 = .ok (.iconst 5, 1) := by decide +kernel
theorem dX10_whichHere_137 : decode cX10_whichHere 137 = .ok (.ireturn, 1) := by decide +kernel
theorem dX10_whichHere_138 : decode cX10_whichHere 138 = .ok (.aload_n 0, 1) := by decide +kernel
theorem dX10_whichHere_139 : decode cX10_whichHere 139 = .ok (.bipush 116, 2) := by decide +kernel
theorem dX10_whichHere_141 : decode cX10_whichHere 141 = .ok (.bipush 119, 2) := by decide +kernel
theorem dX10_whichHere_143 : decode cX10_whichHere 143 = .ok (.bipush 105, 2) := by decide +kernel
theorem dX10_whichHere_145 : decode cX10_whichHere 145 = .ok (.bipush 99, 2) := by decide +kernel
theorem dX10_whichHere_147 : decode cX10_whichHere 147 = .ok (.bipush 101, 2) := by decide +kernel
theorem dX10_whichHere_149 : decode cX10_whichHere 149 = .ok (.iconst 0, 1) := by decide +kernel
theorem dX10_whichHere_150 : decode cX10_whichHere 150 = .ok (.iconst 0, 1) := by decide +kernel
theorem dX10_whichHere_151 : decode cX10_whichHere 151 = .ok (.invokevirtual 289, 3) := by decide +kernel
theorem dX10_whichHere_154 : decode cX10_whichHere 154 = .ok (.ifCond .eq 6, 3) := by decide +kernel
theorem dX10_whichHere_157 : decode cX10_whichHere 157 = .ok (.bipush 6, 2) := by decide +kernel
theorem dX10_whichHere_159 : decode cX10_whichHere 159 = .ok (.ireturn, 1) := by decide +kernel
theorem dX10_whichHere_160 : decode cX10_whichHere 160 = .ok (.aload_n 0, 1) := by decide +kernel
theorem dX10_whichHere_161 : decode cX10_whichHere 161 = .ok (.bipush 115, 2) := by decide +kernel
theorem dX10_whichHere_163 : decode cX10_whichHere 163 = .ok (.bipush 121, 2) := by decide +kernel
theorem dX10_whichHere_165 : decode cX10_whichHere 165 = .ok (.bipush 110, 2) := by decide +kernel
theorem dX10_whichHere_167 : decode cX10_whichHere 167 = .ok (.bipush 99, 2) := by decide +kernel
theorem dX10_whichHere_169 : decode cX10_whichHere 169 = .ok (.iconst 0, 1) := by decide +kernel
theorem dX10_whichHere_170 : decode cX10_whichHere 170 = .ok (.iconst 0, 1) := by decide +kernel
theorem dX10_whichHere_171 : decode cX10_whichHere 171 = .ok (.iconst 0, 1) := by decide +kernel
theorem dX10_whichHere_172 : decode cX10_whichHere 172 = .ok (.invokevirtual 289, 3) := by decide +kernel
theorem dX10_whichHere_175 : decode cX10_whichHere 175 = .ok (.ifCond .eq 6, 3) := by decide +kernel
theorem dX10_whichHere_178 : decode cX10_whichHere 178 = .ok (.bipush 7, 2) := by decide +kernel
theorem dX10_whichHere_180 : decode cX10_whichHere 180 = .ok (.ireturn, 1) := by decide +kernel
theorem dX10_whichHere_181 : decode cX10_whichHere 181 = .ok (.aload_n 0, 1) := by decide +kernel
theorem dX10_whichHere_182 : decode cX10_whichHere 182 = .ok (.bipush 116, 2) := by decide +kernel
theorem dX10_whichHere_184 : decode cX10_whichHere 184 = .ok (.bipush 101, 2) := by decide +kernel
theorem dX10_whichHere_186 : decode cX10_whichHere 186 = .ok (.bipush 108, 2) := by decide +kernel
theorem dX10_whichHere_188 : decode cX10_whichHere 188 = .ok (.bipush 108, 2) := by decide +kernel
theorem dX10_whichHere_190 : decode cX10_whichHere 190 = .ok (.iconst 0, 1) := by decide +kernel
theorem dX10_whichHere_191 : decode cX10_whichHere 191 = .ok (.iconst 0, 1) := by decide +kernel
theorem dX10_whichHere_192 : decode cX10_whichHere 192 = .ok (.iconst 0, 1) := by decide +kernel
theorem dX10_whichHere_193 : decode cX10_whichHere 193 = .ok (.invokevirtual 289, 3) := by decide +kernel
theorem dX10_whichHere_196 : decode cX10_whichHere 196 = .ok (.ifCond .eq 6, 3) := by decide +kernel
theorem dX10_whichHere_199 : decode cX10_whichHere 199 = .ok (.bipush 8, 2) := by decide +kernel
theorem dX10_whichHere_201 : decode cX10_whichHere 201 = .ok (.ireturn, 1) := by decide +kernel
theorem dX10_whichHere_202 : decode cX10_whichHere 202 = .ok (.aload_n 0, 1) := by decide +kernel
theorem dX10_whichHere_203 : decode cX10_whichHere 203 = .ok (.bipush 115, 2) := by decide +kernel
theorem dX10_whichHere_205 : decode cX10_whichHere 205 = .ok (.bipush 119, 2) := by decide +kernel
theorem dX10_whichHere_207 : decode cX10_whichHere 207 = .ok (.bipush 101, 2) := by decide +kernel
theorem dX10_whichHere_209 : decode cX10_whichHere 209 = .ok (.bipush 101, 2) := by decide +kernel
theorem dX10_whichHere_211 : decode cX10_whichHere 211 = .ok (.bipush 112, 2) := by decide +kernel
theorem dX10_whichHere_213 : decode cX10_whichHere 213 = .ok (.iconst 0, 1) := by decide +kernel
theorem dX10_whichHere_214 : decode cX10_whichHere 214 = .ok (.iconst 0, 1) := by decide +kernel
theorem dX10_whichHere_215 : decode cX10_whichHere 215 = .ok (.invokevirtual 289, 3) := by decide +kernel
theorem dX10_whichHere_218 : decode cX10_whichHere 218 = .ok (.ifCond .eq 6, 3) := by decide +kernel
theorem dX10_whichHere_221 : decode cX10_whichHere 221 = .ok (.bipush 9, 2) := by decide +kernel
theorem dX10_whichHere_223 : decode cX10_whichHere 223 = .ok (.ireturn, 1) := by decide +kernel
theorem dX10_whichHere_224 : decode cX10_whichHere 224 = .ok (.aload_n 0, 1) := by decide +kernel
theorem dX10_whichHere_225 : decode cX10_whichHere 225 = .ok (.bipush 97, 2) := by decide +kernel
theorem dX10_whichHere_227 : decode cX10_whichHere 227 = .ok (.bipush 108, 2) := by decide +kernel
theorem dX10_whichHere_229 : decode cX10_whichHere 229 = .ok (.bipush 108, 2) := by decide +kernel
theorem dX10_whichHere_231 : decode cX10_whichHere 231 = .ok (.iconst 0, 1) := by decide +kernel
theorem dX10_whichHere_232 : decode cX10_whichHere 232 = .ok (.iconst 0, 1) := by decide +kernel
theorem dX10_whichHere_233 : decode cX10_whichHere 233 = .ok (.iconst 0, 1) := by decide +kernel
theorem dX10_whichHere_234 : decode cX10_whichHere 234 = .ok (.iconst 0, 1) := by decide +kernel
theorem dX10_whichHere_235 : decode cX10_whichHere 235 = .ok (.invokevirtual 289, 3) := by decide +kernel
theorem dX10_whichHere_238 : decode cX10_whichHere 238 = .ok (.ifCond .eq 8, 3) := by decide +kernel
theorem dX10_whichHere_241 : decode cX10_whichHere 241 = .ok (.bipush 10, 2) := by decide +kernel
theorem dX10_whichHere_243 : decode cX10_whichHere 243 = .ok (.goto 4, 3) := by decide +kernel
theorem dX10_whichHere_246 : decode cX10_whichHere 246 = .ok (.iconst (-1), 1) := by decide +kernel
theorem dX10_whichHere_247 : decode cX10_whichHere 247 = .ok (.ireturn, 1) := by decide +kernel
theorem dX10_number_0 : decode cX10_number 0 = .ok (.aload_n 0, 1) := by decide +kernel
theorem dX10_number_1 : decode cX10_number 1 = .ok (.invokevirtual 286, 3) := by decide +kernel
theorem dX10_number_4 : decode cX10_number 4 = .ok (.bipush 48, 2) := by decide +kernel
theorem dX10_number_6 : decode cX10_number 6 = .ok (.bipush 57, 2) := by decide +kernel
theorem dX10_number_8 : decode cX10_number 8 = .ok (.invokestatic 55, 3) := by decide +kernel
theorem dX10_number_11 : decode cX10_number 11 = .ok (.ifCond .ne 13, 3) := by decide +kernel
theorem dX10_number_14 : decode cX10_number 14 = .ok (.aload_n 0, 1) := by decide +kernel
theorem dX10_number_15 : decode cX10_number 15 = .ok (.aload_n 0, 1) := by decide +kernel
theorem dX10_number_16 : decode cX10_number 16 = .ok (.getfield 271, 3) := by decide +kernel
theorem dX10_number_19 : decode cX10_number 19 = .ok (.iconst 1, 1) := by decide +kernel
theorem dX10_number_20 : decode cX10_number 20 = .ok (.invokevirtual 293, 3) := by decide +kernel
theorem dX10_number_23 : decode cX10_number 23 = .ok (.ireturn, 1) := by decide +kernel
theorem dX10_number_24 : decode cX10_number 24 = .ok (.aload_n 0, 1) := by decide +kernel
theorem dX10_number_25 : decode cX10_number 25 = .ok (.getfield 271, 3) := by decide +kernel
theorem dX10_number_28 : decode cX10_number 28 = .ok (.istore_n 2, 1) := by decide +kernel
theorem dX10_number_29 : decode cX10_number 29 = .ok (.iconst 0, 1) := by decide +kernel
theorem dX10_number_30 : decode cX10_number 30 = .ok (.istore_n 3, 1) := by decide +kernel
theorem dX10_number_31 : decode cX10_number 31 = .ok (.aload_n 0, 1) := by decide +kernel
theorem dX10_number_32 : decode cX10_number 32 = .ok (.getfield 271, 3) := by decide +kernel
theorem dX10_number_35 : decode cX10_number 35 = .ok (.aload_n 0, 1) := by decide +kernel
theorem dX10_number_36 : decode cX10_number 36 = .ok (.getfield 274, 3) := by decide +kernel
theorem dX10_number_39 : decode cX10_number 39 = .ok (.if_icmp .ge 67, 3) := by decide +kernel
theorem dX10_number_42 : decode cX10_number 42 = .ok (.aload_n 0, 1) := by decide +kernel
theorem dX10_number_43 : decode cX10_number 43 = .ok (.getfield 41, 3) := by decide +kernel
theorem dX10_number_46 : decode cX10_number 46 = .ok (.aload_n 0, 1) := by decide +kernel
theorem dX10_number_47 : decode cX10_number 47 = .ok (.getfield 271, 3) := by decide +kernel
theorem dX10_number_50 : decode cX10_number 50 = .ok (.baload, 1) := by decide +kernel
theorem dX10_number_51 : decode cX10_number 51 = .ok (.bipush 48, 2) := by decide +kernel
theorem dX10_number_53 : decode cX10_number 53 = .ok (.bipush 57, 2) := by decide +kernel
theorem dX10_number_55 : decode cX10_number 55 = .ok (.invokestatic 55, 3) := by decide +kernel
theorem dX10_number_58 : decode cX10_number 58 = .ok (.ifCond .eq 48, 3) := by decide +kernel
theorem dX10_number_61 : decode cX10_number 61 = .ok (.aload_n 0, 1) := by decide +kernel
theorem dX10_number_62 : decode cX10_number 62 = .ok (.getfield 271, 3) := by decide +kernel
theorem dX10_number_65 : decode cX10_number 65 = .ok (.iload_n 2, 1) := by decide +kernel
theorem dX10_number_66 : decode cX10_number 66 = .ok (.isub, 1) := by decide +kernel
theorem dX10_number_67 : decode cX10_number 67 = .ok (.iconst 3, 1) := by decide +kernel
theorem dX10_number_68 : decode cX10_number 68 = .ok (.if_icmp .ge 23, 3) := by decide +kernel
theorem dX10_number_71 : decode cX10_number 71 = .ok (.bipush 10, 2) := by decide +kernel
theorem dX10_number_73 : decode cX10_number 73 = .ok (.iload_n 3, 1) := by decide +kernel
theorem dX10_number_74 : decode cX10_number 74 = .ok (.imul, 1) := by decide +kernel
theorem dX10_number_75 : decode cX10_number 75 = .ok (.aload_n 0, 1) := by decide +kernel
theorem dX10_number_76 : decode cX10_number 76 = .ok (.getfield 41, 3) := by decide +kernel
theorem dX10_number_79 : decode cX10_number 79 = .ok (.aload_n 0, 1) := by decide +kernel
theorem dX10_number_80 : decode cX10_number 80 = .ok (.getfield 271, 3) := by decide +kernel
theorem dX10_number_83 : decode cX10_number 83 = .ok (.baload, 1) := by decide +kernel
theorem dX10_number_84 : decode cX10_number 84 = .ok (.iadd, 1) := by decide +kernel
theorem dX10_number_85 : decode cX10_number 85 = .ok (.bipush 48, 2) := by decide +kernel
theorem dX10_number_87 : decode cX10_number 87 = .ok (.isub, 1) := by decide +kernel
theorem dX10_number_88 : decode cX10_number 88 = .ok (.goto 4, 3) := by decide +kernel
theorem dX10_number_91 : decode cX10_number 91 = .ok (.iload_n 3, 1) := by decide +kernel
theorem dX10_number_92 : decode cX10_number 92 = .ok (.istore_n 3, 1) := by decide +kernel
theorem dX10_number_93 : decode cX10_number 93 = .ok (.aload_n 0, 1) := by decide +kernel
theorem dX10_number_94 : decode cX10_number 94 = .ok (.dup, 1) := by decide +kernel
theorem dX10_number_95 : decode cX10_number 95 = .ok (.getfield 271, 3) := by decide +kernel
theorem dX10_number_98 : decode cX10_number 98 = .ok (.iconst 1, 1) := by decide +kernel
theorem dX10_number_99 : decode cX10_number 99 = .ok (.iadd, 1) := by decide +kernel
theorem dX10_number_100 : decode cX10_number 100 = .ok (.putfield 271, 3) := by decide +kernel
theorem dX10_number_103 : decode cX10_number 103 = .ok (.goto (-72), 3) := by decide +kernel
theorem dX10_number_106 : decode cX10_number 106 = .ok (.aload_n 0, 1) := by decide +kernel
theorem dX10_number_107 : decode cX10_number 107 = .ok (.getfield 271, 3) := by decide +kernel
theorem dX10_number_110 : decode cX10_number 110 = .ok (.iload_n 2, 1) := by decide +kernel
theorem dX10_number_111 : decode cX10_number 111 = .ok (.isub, 1) := by decide +kernel
theorem dX10_number_112 : decode cX10_number 112 = .ok (.iconst 3, 1) := by decide +kernel
theorem dX10_number_113 : decode cX10_number 113 = .ok (.if_icmp .le 10, 3) := by decide +kernel
theorem dX10_number_116 : decode cX10_number 116 = .ok (.aload_n 0, 1) := by decide +kernel
theorem dX10_number_117 : decode cX10_number 117 = .ok (.iload_n 2, 1) := by decide +kernel
theorem dX10_number_118 : decode cX10_number 118 = .ok (.iconst 2, 1) := by decide +kernel
theorem dX10_number_119 : decode cX10_number 119 = .ok (.invokevirtual 293, 3) := by decide +kernel
theorem dX10_number_122 : decode cX10_number 122 = .ok (.ireturn, 1) := by decide +kernel
theorem dX10_number_123 : decode cX10_number 123 = .ok (.aload_n 0, 1) := by decide +kernel
theorem dX10_number_124 : decode cX10_number 124 = .ok (.getfield 45, 3) := by decide +kernel
theorem dX10_number_127 : decode cX10_number 127 = .ok (.iconst 4, 1) := by decide +kernel
theorem dX10_number_128 : decode cX10_number 128 = .ok (.aload_n 0, 1) := by decide +kernel
theorem dX10_number_129 : decode cX10_number 129 = .ok (.getfield 296, 3) := by decide +kernel
theorem dX10_number_132 : decode cX10_number 132 = .ok (.imul, 1) := by decide +kernel
theorem dX10_number_133 : decode cX10_number 133 = .ok (.iload_n 1, 1) := by decide +kernel
theorem dX10_number_134 : decode cX10_number 134 = .ok (.iadd, 1) := by decide +kernel
theorem dX10_number_135 : decode cX10_number 135 = .ok (.iload_n 3, 1) := by decide +kernel
theorem dX10_number_136 : decode cX10_number 136 = .ok (.iastore, 1) := by decide +kernel
theorem dX10_number_137 : decode cX10_number 137 = .ok (.iconst 1, 1) := by decide +kernel
theorem dX10_number_138 : decode cX10_number 138 = .ok (.ireturn, 1) := by decide +kernel
theorem dX10_letter_0 : decode cX10_letter 0 = .ok (.aload_n 0, 1) := by decide +kernel
theorem dX10_letter_1 : decode cX10_letter 1 = .ok (.invokevirtual 286, 3) := by decide +kernel
theorem dX10_letter_4 : decode cX10_letter 4 = .ok (.bipush 97, 2) := by decide +kernel
theorem dX10_letter_6 : decode cX10_letter 6 = .ok (.bipush 122, 2) := by decide +kernel
theorem dX10_letter_8 : decode cX10_letter 8 = .ok (.invokestatic 55, 3) := by decide +kernel
theorem dX10_letter_11 : decode cX10_letter 11 = .ok (.ifCond .ne 13, 3) := by decide +kernel
theorem dX10_letter_14 : decode cX10_letter 14 = .ok (.aload_n 0, 1) := by decide +kernel
theorem dX10_letter_15 : decode cX10_letter 15 = .ok (.aload_n 0, 1) := by decide +kernel
theorem dX10_letter_16 : decode cX10_letter 16 = .ok (.getfield 271, 3) := by decide +kernel
theorem dX10_letter_19 : decode cX10_letter 19 = .ok (.iconst 1, 1) := by decide +kernel
theorem dX10_letter_20 : decode cX10_letter 20 = .ok (.invokevirtual 293, 3) := by decide +kernel
theorem dX10_letter_23 : decode cX10_letter 23 = .ok (.ireturn, 1) := by decide +kernel
theorem dX10_letter_24 : decode cX10_letter 24 = .ok (.aload_n 0, 1) := by decide +kernel
theorem dX10_letter_25 : decode cX10_letter 25 = .ok (.invokevirtual 283, 3) := by decide +kernel
theorem dX10_letter_28 : decode cX10_letter 28 = .ok (.aload_n 0, 1) := by decide +kernel
theorem dX10_letter_29 : decode cX10_letter 29 = .ok (.getfield 271, 3) := by decide +kernel
theorem dX10_letter_32 : decode cX10_letter 32 = .ok (.isub, 1) := by decide +kernel
theorem dX10_letter_33 : decode cX10_letter 33 = .ok (.iconst 1, 1) := by decide +kernel
theorem dX10_letter_34 : decode cX10_letter 34 = .ok (.if_icmp .le 13, 3) := by decide +kernel
theorem dX10_letter_37 : decode cX10_letter 37 = .ok (.aload_n 0, 1) := by decide +kernel
theorem dX10_letter_38 : decode cX10_letter 38 = .ok (.aload_n 0, 1) := by decide +kernel
theorem dX10_letter_39 : decode cX10_letter 39 = .ok (.getfield 271, 3) := by decide +kernel
theorem dX10_letter_42 : decode cX10_letter 42 = .ok (.iconst 2, 1) := by decide +kernel
theorem dX10_letter_43 : decode cX10_letter 43 = .ok (.invokevirtual 293, 3) := by decide +kernel
theorem dX10_letter_46 : decode cX10_letter 46 = .ok (.ireturn, 1) := by decide +kernel
theorem dX10_letter_47 : decode cX10_letter 47 = .ok (.aload_n 0, 1) := by decide +kernel
theorem dX10_letter_48 : decode cX10_letter 48 = .ok (.getfield 45, 3) := by decide +kernel
theorem dX10_letter_51 : decode cX10_letter 51 = .ok (.iconst 4, 1) := by decide +kernel
theorem dX10_letter_52 : decode cX10_letter 52 = .ok (.aload_n 0, 1) := by decide +kernel
theorem dX10_letter_53 : decode cX10_letter 53 = .ok (.getfield 296, 3) := by decide +kernel
theorem dX10_letter_56 : decode cX10_letter 56 = .ok (.imul, 1) := by decide +kernel
theorem dX10_letter_57 : decode cX10_letter 57 = .ok (.iload_n 1, 1) := by decide +kernel
theorem dX10_letter_58 : decode cX10_letter 58 = .ok (.iadd, 1) := by decide +kernel
theorem dX10_letter_59 : decode cX10_letter 59 = .ok (.aload_n 0, 1) := by decide +kernel
theorem dX10_letter_60 : decode cX10_letter 60 = .ok (.getfield 41, 3) := by decide +kernel
theorem dX10_letter_63 : decode cX10_letter 63 = .ok (.aload_n 0, 1) := by decide +kernel
theorem dX10_letter_64 : decode cX10_letter 64 = .ok (.getfield 271, 3) := by decide +kernel
theorem dX10_letter_67 : decode cX10_letter 67 = .ok (.baload, 1) := by decide +kernel
theorem dX10_letter_68 : decode cX10_letter 68 = .ok (.bipush 97, 2) := by decide +kernel
theorem dX10_letter_70 : decode cX10_letter 70 = .ok (.isub, 1) := by decide +kernel
theorem dX10_letter_71 : decode cX10_letter 71 = .ok (.iastore, 1) := by decide +kernel
theorem dX10_letter_72 : decode cX10_letter 72 = .ok (.aload_n 0, 1) := by decide +kernel
theorem dX10_letter_73 : decode cX10_letter 73 = .ok (.dup, 1) := by decide +kernel
theorem dX10_letter_74 : decode cX10_letter 74 = .ok (.getfield 271, 3) := by decide +kernel
theorem dX10_letter_77 : decode cX10_letter 77 = .ok (.iconst 1, 1) := by decide +kernel
theorem dX10_letter_78 : decode cX10_letter 78 = .ok (.iadd, 1) := by decide +kernel
theorem dX10_letter_79 : decode cX10_letter 79 = .ok (.putfield 271, 3) := by decide +kernel
theorem dX10_letter_82 : decode cX10_letter 82 = .ok (.iconst 1, 1) := by decide +kernel
theorem dX10_letter_83 : decode cX10_letter 83 = .ok (.ireturn, 1) := by decide +kernel
theorem dX10_rest_0 : decode cX10_rest 0 = .ok (.iload_n 1, 1) := by decide +kernel
theorem dX10_rest_1 : decode cX10_rest 1 = .ok (.tableswitch 127 0 10 #[59, 89, 127, 59, 127, 127, 127, 127, 127, 119, 125], 59) := by decide +kernel
theorem dX10_rest_60 : decode cX10_rest 60 = .ok (.aload_n 0, 1) := by decide +kernel
theorem dX10_rest_61 : decode cX10_rest 61 = .ok (.iconst 1, 1) := by decide +kernel
theorem dX10_rest_62 : decode cX10_rest 62 = .ok (.invokevirtual 299, 3) := by decide +kernel
theorem dX10_rest_65 : decode cX10_rest 65 = .ok (.ifCond .eq 23, 3) := by decide +kernel
theorem dX10_rest_68 : decode cX10_rest 68 = .ok (.aload_n 0, 1) := by decide +kernel
theorem dX10_rest_69 : decode cX10_rest 69 = .ok (.iconst 2, 1) := by decide +kernel
theorem dX10_rest_70 : decode cX10_rest 70 = .ok (.invokevirtual 299, 3) := by decide +kernel
theorem dX10_rest_73 : decode cX10_rest 73 = .ok (.ifCond .eq 15, 3) := by decide +kernel
theorem dX10_rest_76 : decode cX10_rest 76 = .ok (.aload_n 0, 1) := by decide +kernel
theorem dX10_rest_77 : decode cX10_rest 77 = .ok (.iconst 3, 1) := by decide +kernel
theorem dX10_rest_78 : decode cX10_rest 78 = .ok (.invokevirtual 302, 3) := by decide +kernel
theorem dX10_rest_81 : decode cX10_rest 81 = .ok (.ifCond .eq 7, 3) := by decide +kernel
theorem dX10_rest_84 : decode cX10_rest 84 = .ok (.iconst 1, 1) := by decide +kernel
theorem dX10_rest_85 : decode cX10_rest 85 = .ok (.goto 4, 3) := by decide +kernel
theorem dX10_rest_88 : decode cX10_rest 88 = .ok (.iconst 0, 1) := by decide +kernel
theorem dX10_rest_89 : decode cX10_rest 89 = .ok (.ireturn, 1) := by decide +kernel
theorem dX10_rest_90 : decode cX10_rest 90 = .ok (.aload_n 0, 1) := by decide +kernel
theorem dX10_rest_91 : decode cX10_rest 91 = .ok (.iconst 1, 1) := by decide +kernel
theorem dX10_rest_92 : decode cX10_rest 92 = .ok (.invokevirtual 299, 3) := by decide +kernel
theorem dX10_rest_95 : decode cX10_rest 95 = .ok (.ifCond .eq 23, 3) := by decide +kernel
theorem dX10_rest_98 : decode cX10_rest 98 = .ok (.aload_n 0, 1) := by decide +kernel
theorem dX10_rest_99 : decode cX10_rest 99 = .ok (.iconst 2, 1) := by decide +kernel
theorem dX10_rest_100 : decode cX10_rest 100 = .ok (.invokevirtual 299, 3) := by decide +kernel
theorem dX10_rest_103 : decode cX10_rest 103 = .ok (.ifCond .eq 15, 3) := by decide +kernel
theorem dX10_rest_106 : decode cX10_rest 106 = .ok (.aload_n 0, 1) := by decide +kernel
theorem dX10_rest_107 : decode cX10_rest 107 = .ok (.iconst 3, 1) := by decide +kernel
theorem dX10_rest_108 : decode cX10_rest 108 = .ok (.invokevirtual 299, 3) := by decide +kernel
theorem dX10_rest_111 : decode cX10_rest 111 = .ok (.ifCond .eq 7, 3) := by decide +kernel
theorem dX10_rest_114 : decode cX10_rest 114 = .ok (.iconst 1, 1) := by decide +kernel
theorem dX10_rest_115 : decode cX10_rest 115 = .ok (.goto 4, 3) := by decide +kernel
theorem dX10_rest_118 : decode cX10_rest 118 = .ok (.iconst 0, 1) := by decide +kernel
theorem dX10_rest_119 : decode cX10_rest 119 = .ok (.ireturn, 1) := by decide +kernel
theorem dX10_rest_120 : decode cX10_rest 120 = .ok (.aload_n 0, 1) := by decide +kernel
theorem dX10_rest_121 : decode cX10_rest 121 = .ok (.iconst 1, 1) := by decide +kernel
theorem dX10_rest_122 : decode cX10_rest 122 = .ok (.invokevirtual 299, 3) := by decide +kernel
theorem dX10_rest_125 : decode cX10_rest 125 = .ok (.ireturn, 1) := by decide +kernel
theorem dX10_rest_126 : decode cX10_rest 126 = .ok (.iconst 1, 1) := by decide +kernel
theorem dX10_rest_127 : decode cX10_rest 127 = .ok (.ireturn, 1) := by decide +kernel
theorem dX10_rest_128 : decode cX10_rest 128 = .ok (.aload_n 0, 1) := by decide +kernel
theorem dX10_rest_129 : decode cX10_rest 129 = .ok (.iconst 1, 1) := by decide +kernel
theorem dX10_rest_130 : decode cX10_rest 130 = .ok (.invokevirtual 299, 3) := by decide +kernel
theorem dX10_rest_133 : decode cX10_rest 133 = .ok (.ifCond .eq 15, 3) := by decide +kernel
theorem dX10_rest_136 : decode cX10_rest 136 = .ok (.aload_n 0, 1) := by decide +kernel
theorem dX10_rest_137 : decode cX10_rest 137 = .ok (.iconst 2, 1) := by decide +kernel
theorem dX10_rest_138 : decode cX10_rest 138 = .ok (.invokevirtual 299, 3) := by decide +kernel
theorem dX10_rest_141 : decode cX10_rest 141 = .ok (.ifCond .eq 7, 3) := by decide +kernel
theorem dX10_rest_144 : decode cX10_rest 144 = .ok (.iconst 1, 1) := by decide +kernel
theorem dX10_rest_145 : decode cX10_rest 145 = .ok (.goto 4, 3) := by decide +kernel
theorem dX10_rest_148 : decode cX10_rest 148 = .ok (.iconst 0, 1) := by decide +kernel
theorem dX10_rest_149 : decode cX10_rest 149 = .ok (.ireturn, 1) := by decide +kernel
theorem dX10_line_0 : decode cX10_line 0 = .ok (.aload_n 0, 1) := by decide +kernel
theorem dX10_line_1 : decode cX10_line 1 = .ok (.invokevirtual 305, 3) := by decide +kernel
theorem dX10_line_4 : decode cX10_line 4 = .ok (.istore_n 1, 1) := by decide +kernel
theorem dX10_line_5 : decode cX10_line 5 = .ok (.iload_n 1, 1) := by decide +kernel
theorem dX10_line_6 : decode cX10_line 6 = .ok (.ifCond .ge 13, 3) := by decide +kernel
theorem dX10_line_9 : decode cX10_line 9 = .ok (.aload_n 0, 1) := by decide +kernel
theorem dX10_line_10 : decode cX10_line 10 = .ok (.aload_n 0, 1) := by decide +kernel
theorem dX10_line_11 : decode cX10_line 11 = .ok (.getfield 271, 3) := by decide +kernel
theorem dX10_line_14 : decode cX10_line 14 = .ok (.iconst 1, 1) := by decide +kernel
theorem dX10_line_15 : decode cX10_line 15 = .ok (.invokevirtual 293, 3) := by decide +kernel
theorem dX10_line_18 : decode cX10_line 18 = .ok (.ireturn, 1) := by decide +kernel
theorem dX10_line_19 : decode cX10_line 19 = .ok (.aload_n 0, 1) := by decide +kernel
theorem dX10_line_20 : decode cX10_line 20 = .ok (.aload_n 0, 1) := by decide +kernel
theorem dX10_line_21 : decode cX10_line 21 = .ok (.invokevirtual 283, 3) := by decide +kernel
theorem dX10_line_24 : decode cX10_line 24 = .ok (.putfield 271, 3) := by decide +kernel
theorem dX10_line_27 : decode cX10_line 27 = .ok (.aload_n 0, 1) := by decide +kernel
theorem dX10_line_28 : decode cX10_line 28 = .ok (.getfield 45, 3) := by decide +kernel
theorem dX10_line_31 : decode cX10_line 31 = .ok (.iconst 4, 1) := by decide +kernel
theorem dX10_line_32 : decode cX10_line 32 = .ok (.aload_n 0, 1) := by decide +kernel
theorem dX10_line_33 : decode cX10_line 33 = .ok (.getfield 296, 3) := by decide +kernel
theorem dX10_line_36 : decode cX10_line 36 = .ok (.imul, 1) := by decide +kernel
theorem dX10_line_37 : decode cX10_line 37 = .ok (.iload_n 1, 1) := by decide +kernel
theorem dX10_line_38 : decode cX10_line 38 = .ok (.iastore, 1) := by decide +kernel
theorem dX10_line_39 : decode cX10_line 39 = .ok (.aload_n 0, 1) := by decide +kernel
theorem dX10_line_40 : decode cX10_line 40 = .ok (.iload_n 1, 1) := by decide +kernel
theorem dX10_line_41 : decode cX10_line 41 = .ok (.invokevirtual 308, 3) := by decide +kernel
theorem dX10_line_44 : decode cX10_line 44 = .ok (.ifCond .ne 5, 3) := by decide +kernel
theorem dX10_line_47 : decode cX10_line 47 = .ok (.iconst 0, 1) := by decide +kernel
theorem dX10_line_48 : decode cX10_line 48 = .ok (.ireturn, 1) := by decide +kernel
theorem dX10_line_49 : decode cX10_line 49 = .ok (.aload_n 0, 1) := by decide +kernel
theorem dX10_line_50 : decode cX10_line 50 = .ok (.invokevirtual 286, 3) := by decide +kernel
theorem dX10_line_53 : decode cX10_line 53 = .ok (.bipush 59, 2) := by decide +kernel
theorem dX10_line_55 : decode cX10_line 55 = .ok (.if_icmp .eq 13, 3) := by decide +kernel
theorem dX10_line_58 : decode cX10_line 58 = .ok (.aload_n 0, 1) := by decide +kernel
theorem dX10_line_59 : decode cX10_line 59 = .ok (.aload_n 0, 1) := by decide +kernel
theorem dX10_line_60 : decode cX10_line 60 = .ok (.getfield 271, 3) := by decide +kernel
theorem dX10_line_63 : decode cX10_line 63 = .ok (.iconst 1, 1) := by decide +kernel
theorem dX10_line_64 : decode cX10_line 64 = .ok (.invokevirtual 293, 3) := by decide +kernel
theorem dX10_line_67 : decode cX10_line 67 = .ok (.ireturn, 1) := by decide +kernel
theorem dX10_line_68 : decode cX10_line 68 = .ok (.aload_n 0, 1) := by decide +kernel
theorem dX10_line_69 : decode cX10_line 69 = .ok (.dup, 1) := by decide +kernel
theorem dX10_line_70 : decode cX10_line 70 = .ok (.getfield 271, 3) := by decide +kernel
theorem dX10_line_73 : decode cX10_line 73 = .ok (.iconst 1, 1) := by decide +kernel
theorem dX10_line_74 : decode cX10_line 74 = .ok (.iadd, 1) := by decide +kernel
theorem dX10_line_75 : decode cX10_line 75 = .ok (.putfield 271, 3) := by decide +kernel
theorem dX10_line_78 : decode cX10_line 78 = .ok (.aload_n 0, 1) := by decide +kernel
theorem dX10_line_79 : decode cX10_line 79 = .ok (.dup, 1) := by decide +kernel
theorem dX10_line_80 : decode cX10_line 80 = .ok (.getfield 296, 3) := by decide +kernel
theorem dX10_line_83 : decode cX10_line 83 = .ok (.iconst 1, 1) := by decide +kernel
theorem dX10_line_84 : decode cX10_line 84 = .ok (.iadd, 1) := by decide +kernel
theorem dX10_line_85 : decode cX10_line 85 = .ok (.putfield 296, 3) := by decide +kernel
theorem dX10_line_88 : decode cX10_line 88 = .ok (.iconst 1, 1) := by decide +kernel
theorem dX10_line_89 : decode cX10_line 89 = .ok (.ireturn, 1) := by decide +kernel
theorem dX10_all_0 : decode cX10_all 0 = .ok (.iconst 0, 1) := by decide +kernel
theorem dX10_all_1 : decode cX10_all 1 = .ok (.istore_n 1, 1) := by decide +kernel
theorem dX10_all_2 : decode cX10_all 2 = .ok (.iload_n 1, 1) := by decide +kernel
theorem dX10_all_3 : decode cX10_all 3 = .ok (.aload_n 0, 1) := by decide +kernel
theorem dX10_all_4 : decode cX10_all 4 = .ok (.getfield 13, 3) := by decide +kernel
theorem dX10_all_7 : decode cX10_all 7 = .ok (.iconst 0, 1) := by decide +kernel
theorem dX10_all_8 : decode cX10_all 8 = .ok (.iaload, 1) := by decide +kernel
theorem dX10_all_9 : decode cX10_all 9 = .ok (.if_icmp .ge 29, 3) := by decide +kernel
theorem dX10_all_12 : decode cX10_all 12 = .ok (.aload_n 0, 1) := by decide +kernel
theorem dX10_all_13 : decode cX10_all 13 = .ok (.iload_n 1, 1) := by decide +kernel
theorem dX10_all_14 : decode cX10_all 14 = .ok (.bipush 7, 2) := by decide +kernel
theorem dX10_all_16 : decode cX10_all 16 = .ok (.invokevirtual 81, 3) := by decide +kernel
theorem dX10_all_19 : decode cX10_all 19 = .ok (.ifCond .le 13, 3) := by decide +kernel
theorem dX10_all_22 : decode cX10_all 22 = .ok (.aload_n 0, 1) := by decide +kernel
theorem dX10_all_23 : decode cX10_all 23 = .ok (.iload_n 1, 1) := by decide +kernel
theorem dX10_all_24 : decode cX10_all 24 = .ok (.iconst 0, 1) := by decide +kernel
theorem dX10_all_25 : decode cX10_all 25 = .ok (.invokevirtual 170, 3) := by decide +kernel
theorem dX10_all_28 : decode cX10_all 28 = .ok (.istore_n 2, 1) := by decide +kernel
theorem dX10_all_29 : decode cX10_all 29 = .ok (.goto (-17), 3) := by decide +kernel
theorem dX10_all_32 : decode cX10_all 32 = .ok (.iinc 1 1, 3) := by decide +kernel
theorem dX10_all_35 : decode cX10_all 35 = .ok (.goto (-33), 3) := by decide +kernel
theorem dX10_all_38 : decode cX10_all 38 = .ok (.iconst 1, 1) := by decide +kernel
theorem dX10_all_39 : decode cX10_all 39 = .ok (.ireturn, 1) := by decide +kernel
theorem dX10_does_0 : decode cX10_does 0 = .ok (.aload_n 0, 1) := by decide +kernel
theorem dX10_does_1 : decode cX10_does 1 = .ok (.getfield 45, 3) := by decide +kernel
theorem dX10_does_4 : decode cX10_does 4 = .ok (.iload_n 1, 1) := by decide +kernel
theorem dX10_does_5 : decode cX10_does 5 = .ok (.iconst 1, 1) := by decide +kernel
theorem dX10_does_6 : decode cX10_does 6 = .ok (.iadd, 1) := by decide +kernel
theorem dX10_does_7 : decode cX10_does 7 = .ok (.iaload, 1) := by decide +kernel
theorem dX10_does_8 : decode cX10_does 8 = .ok (.istore_n 2, 1) := by decide +kernel
theorem dX10_does_9 : decode cX10_does 9 = .ok (.aload_n 0, 1) := by decide +kernel
theorem dX10_does_10 : decode cX10_does 10 = .ok (.getfield 45, 3) := by decide +kernel
theorem dX10_does_13 : decode cX10_does 13 = .ok (.iload_n 1, 1) := by decide +kernel
theorem dX10_does_14 : decode cX10_does 14 = .ok (.iconst 2, 1) := by decide +kernel
theorem dX10_does_15 : decode cX10_does 15 = .ok (.iadd, 1) := by decide +kernel
theorem dX10_does_16 : decode cX10_does 16 = .ok (.iaload, 1) := by decide +kernel
theorem dX10_does_17 : decode cX10_does 17 = .ok (.istore_n 3, 1) := by decide +kernel
theorem dX10_does_18 : decode cX10_does 18 = .ok (.aload_n 0, 1) := by decide +kernel
theorem dX10_does_19 : decode cX10_does 19 = .ok (.getfield 45, 3) := by decide +kernel
theorem dX10_does_22 : decode cX10_does 22 = .ok (.iload_n 1, 1) := by decide +kernel
theorem dX10_does_23 : decode cX10_does 23 = .ok (.iconst 3, 1) := by decide +kernel
theorem dX10_does_24 : decode cX10_does 24 = .ok (.iadd, 1) := by decide +kernel
theorem dX10_does_25 : decode cX10_does 25 = .ok (.iaload, 1) := by decide +kernel
theorem dX10_does_26 : decode cX10_does 26 = .ok (.istore 4, 2) := by decide +kernel
theorem dX10_does_28 : decode cX10_does 28 = .ok (.aload_n 0, 1) := by decide +kernel
theorem dX10_does_29 : decode cX10_does 29 = .ok (.getfield 45, 3) := by decide +kernel
theorem dX10_does_32 : decode cX10_does 32 = .ok (.iload_n 1, 1) := by decide +kernel
theorem dX10_does_33 : decode cX10_does 33 = .ok (.iaload, 1) := by decide +kernel
theorem dX10_does_34 : decode cX10_does 34 = .ok (.tableswitch 201 0 9 #[54, 71, 88, 103, 120, 135, 150, 165, 180, 187], 54) := by decide +kernel
theorem dX10_does_88 : decode cX10_does 88 = .ok (.aload_n 0, 1) := by decide +kernel
theorem dX10_does_89 : decode cX10_does 89 = .ok (.iload_n 2, 1) := by decide +kernel
theorem dX10_does_90 : decode cX10_does 90 = .ok (.iload_n 3, 1) := by decide +kernel
theorem dX10_does_91 : decode cX10_does 91 = .ok (.iload 4, 2) := by decide +kernel
theorem dX10_does_93 : decode cX10_does 93 = .ok (.invokevirtual 243, 3) := by decide +kernel
theorem dX10_does_96 : decode cX10_does 96 = .ok (.ifCond .lt 7, 3) := by decide +kernel
theorem dX10_does_99 : decode cX10_does 99 = .ok (.iconst 1, 1) := by decide +kernel
theorem dX10_does_100 : decode cX10_does 100 = .ok (.goto 4, 3) := by decide +kernel
theorem dX10_does_103 : decode cX10_does 103 = .ok (.iconst 0, 1) := by decide +kernel
theorem dX10_does_104 : decode cX10_does 104 = .ok (.ireturn, 1) := by decide +kernel
theorem dX10_does_105 : decode cX10_does 105 = .ok (.aload_n 0, 1) := by decide +kernel
theorem dX10_does_106 : decode cX10_does 106 = .ok (.iload_n 2, 1) := by decide +kernel
theorem dX10_does_107 : decode cX10_does 107 = .ok (.iload_n 3, 1) := by decide +kernel
theorem dX10_does_108 : decode cX10_does 108 = .ok (.iload 4, 2) := by decide +kernel
theorem dX10_does_110 : decode cX10_does 110 = .ok (.invokevirtual 246, 3) := by decide +kernel
theorem dX10_does_113 : decode cX10_does 113 = .ok (.ifCond .lt 7, 3) := by decide +kernel
theorem dX10_does_116 : decode cX10_does 116 = .ok (.iconst 1, 1) := by decide +kernel
theorem dX10_does_117 : decode cX10_does 117 = .ok (.goto 4, 3) := by decide +kernel
theorem dX10_does_120 : decode cX10_does 120 = .ok (.iconst 0, 1) := by decide +kernel
theorem dX10_does_121 : decode cX10_does 121 = .ok (.ireturn, 1) := by decide +kernel
theorem dX10_does_122 : decode cX10_does 122 = .ok (.aload_n 0, 1) := by decide +kernel
theorem dX10_does_123 : decode cX10_does 123 = .ok (.iload_n 2, 1) := by decide +kernel
theorem dX10_does_124 : decode cX10_does 124 = .ok (.iload_n 3, 1) := by decide +kernel
theorem dX10_does_125 : decode cX10_does 125 = .ok (.invokevirtual 249, 3) := by decide +kernel
theorem dX10_does_128 : decode cX10_does 128 = .ok (.ifCond .lt 7, 3) := by decide +kernel
theorem dX10_does_131 : decode cX10_does 131 = .ok (.iconst 1, 1) := by decide +kernel
theorem dX10_does_132 : decode cX10_does 132 = .ok (.goto 4, 3) := by decide +kernel
theorem dX10_does_135 : decode cX10_does 135 = .ok (.iconst 0, 1) := by decide +kernel
theorem dX10_does_136 : decode cX10_does 136 = .ok (.ireturn, 1) := by decide +kernel
theorem dX10_does_137 : decode cX10_does 137 = .ok (.aload_n 0, 1) := by decide +kernel
theorem dX10_does_138 : decode cX10_does 138 = .ok (.iload_n 2, 1) := by decide +kernel
theorem dX10_does_139 : decode cX10_does 139 = .ok (.iload_n 3, 1) := by decide +kernel
theorem dX10_does_140 : decode cX10_does 140 = .ok (.iload 4, 2) := by decide +kernel
theorem dX10_does_142 : decode cX10_does 142 = .ok (.invokevirtual 252, 3) := by decide +kernel
theorem dX10_does_145 : decode cX10_does 145 = .ok (.ifCond .lt 7, 3) := by decide +kernel
theorem dX10_does_148 : decode cX10_does 148 = .ok (.iconst 1, 1) := by decide +kernel
theorem dX10_does_149 : decode cX10_does 149 = .ok (.goto 4, 3) := by decide +kernel
theorem dX10_does_152 : decode cX10_does 152 = .ok (.iconst 0, 1) := by decide +kernel
theorem dX10_does_153 : decode cX10_does 153 = .ok (.ireturn, 1) := by decide +kernel
theorem dX10_does_154 : decode cX10_does 154 = .ok (.aload_n 0, 1) := by decide +kernel
theorem dX10_does_155 : decode cX10_does 155 = .ok (.iload_n 2, 1) := by decide +kernel
theorem dX10_does_156 : decode cX10_does 156 = .ok (.iload_n 3, 1) := by decide +kernel
theorem dX10_does_157 : decode cX10_does 157 = .ok (.invokevirtual 255, 3) := by decide +kernel
theorem dX10_does_160 : decode cX10_does 160 = .ok (.ifCond .lt 7, 3) := by decide +kernel
theorem dX10_does_163 : decode cX10_does 163 = .ok (.iconst 1, 1) := by decide +kernel
theorem dX10_does_164 : decode cX10_does 164 = .ok (.goto 4, 3) := by decide +kernel
theorem dX10_does_167 : decode cX10_does 167 = .ok (.iconst 0, 1) := by decide +kernel
theorem dX10_does_168 : decode cX10_does 168 = .ok (.ireturn, 1) := by decide +kernel
theorem dX10_does_169 : decode cX10_does 169 = .ok (.aload_n 0, 1) := by decide +kernel
theorem dX10_does_170 : decode cX10_does 170 = .ok (.iload_n 2, 1) := by decide +kernel
theorem dX10_does_171 : decode cX10_does 171 = .ok (.iload_n 3, 1) := by decide +kernel
theorem dX10_does_172 : decode cX10_does 172 = .ok (.invokevirtual 311, 3) := by decide +kernel
theorem dX10_does_175 : decode cX10_does 175 = .ok (.ifCond .lt 7, 3) := by decide +kernel
theorem dX10_does_178 : decode cX10_does 178 = .ok (.iconst 1, 1) := by decide +kernel
theorem dX10_does_179 : decode cX10_does 179 = .ok (.goto 4, 3) := by decide +kernel
theorem dX10_does_182 : decode cX10_does 182 = .ok (.iconst 0, 1) := by decide +kernel
theorem dX10_does_183 : decode cX10_does 183 = .ok (.ireturn, 1) := by decide +kernel
theorem dX10_does_184 : decode cX10_does 184 = .ok (.aload_n 0, 1) := by decide +kernel
theorem dX10_does_185 : decode cX10_does 185 = .ok (.iload_n 2, 1) := by decide +kernel
theorem dX10_does_186 : decode cX10_does 186 = .ok (.iload_n 3, 1) := by decide +kernel
theorem dX10_does_187 : decode cX10_does 187 = .ok (.invokevirtual 314, 3) := by decide +kernel
theorem dX10_does_190 : decode cX10_does 190 = .ok (.ifCond .lt 7, 3) := by decide +kernel
theorem dX10_does_193 : decode cX10_does 193 = .ok (.iconst 1, 1) := by decide +kernel
theorem dX10_does_194 : decode cX10_does 194 = .ok (.goto 4, 3) := by decide +kernel
theorem dX10_does_197 : decode cX10_does 197 = .ok (.iconst 0, 1) := by decide +kernel
theorem dX10_does_198 : decode cX10_does 198 = .ok (.ireturn, 1) := by decide +kernel
theorem dX10_does_199 : decode cX10_does 199 = .ok (.aload_n 0, 1) := by decide +kernel
theorem dX10_does_200 : decode cX10_does 200 = .ok (.iload_n 2, 1) := by decide +kernel
theorem dX10_does_201 : decode cX10_does 201 = .ok (.iload_n 3, 1) := by decide +kernel
theorem dX10_does_202 : decode cX10_does 202 = .ok (.invokevirtual 258, 3) := by decide +kernel
theorem dX10_does_205 : decode cX10_does 205 = .ok (.ifCond .lt 7, 3) := by decide +kernel
theorem dX10_does_208 : decode cX10_does 208 = .ok (.iconst 1, 1) := by decide +kernel
theorem dX10_does_209 : decode cX10_does 209 = .ok (.goto 4, 3) := by decide +kernel
theorem dX10_does_212 : decode cX10_does 212 = .ok (.iconst 0, 1) := by decide +kernel
theorem dX10_does_213 : decode cX10_does 213 = .ok (.ireturn, 1) := by decide +kernel
theorem dX10_does_214 : decode cX10_does 214 = .ok (.aload_n 0, 1) := by decide +kernel
theorem dX10_does_215 : decode cX10_does 215 = .ok (.iload_n 2, 1) := by decide +kernel
theorem dX10_does_216 : decode cX10_does 216 = .ok (.iload_n 3, 1) := by decide +kernel
theorem dX10_does_217 : decode cX10_does 217 = .ok (.invokevirtual 317, 3) := by decide +kernel
theorem dX10_does_220 : decode cX10_does 220 = .ok (.ireturn, 1) := by decide +kernel
theorem dX10_does_221 : decode cX10_does 221 = .ok (.aload_n 0, 1) := by decide +kernel
theorem dX10_does_222 : decode cX10_does 222 = .ok (.iload_n 2, 1) := by decide +kernel
theorem dX10_does_223 : decode cX10_does 223 = .ok (.invokevirtual 320, 3) := by decide +kernel
theorem dX10_does_226 : decode cX10_does 226 = .ok (.ifCond .lt 7, 3) := by decide +kernel
theorem dX10_does_229 : decode cX10_does 229 = .ok (.iconst 1, 1) := by decide +kernel
theorem dX10_does_230 : decode cX10_does 230 = .ok (.goto 4, 3) := by decide +kernel
theorem dX10_does_233 : decode cX10_does 233 = .ok (.iconst 0, 1) := by decide +kernel
theorem dX10_does_234 : decode cX10_does 234 = .ok (.ireturn, 1) := by decide +kernel
theorem dX10_does_235 : decode cX10_does 235 = .ok (.aload_n 0, 1) := by decide +kernel
theorem dX10_does_236 : decode cX10_does 236 = .ok (.invokevirtual 323, 3) := by decide +kernel
theorem dX10_does_239 : decode cX10_does 239 = .ok (.ireturn, 1) := by decide +kernel
theorem dX10_script_0 : decode cX10_script 0 = .ok (.aload_n 0, 1) := by decide +kernel
theorem dX10_script_1 : decode cX10_script 1 = .ok (.iconst 0, 1) := by decide +kernel
theorem dX10_script_2 : decode cX10_script 2 = .ok (.putfield 1, 3) := by decide +kernel
theorem dX10_script_5 : decode cX10_script 5 = .ok (.iload_n 1, 1) := by decide +kernel
theorem dX10_script_6 : decode cX10_script 6 = .ok (.iconst 0, 1) := by decide +kernel
theorem dX10_script_7 : decode cX10_script 7 = .ok (.aload_n 0, 1) := by decide +kernel
theorem dX10_script_8 : decode cX10_script 8 = .ok (.getfield 265, 3) := by decide +kernel
theorem dX10_script_11 : decode cX10_script 11 = .ok (.invokestatic 55, 3) := by decide +kernel
theorem dX10_script_14 : decode cX10_script 14 = .ok (.ifCond .ne 5, 3) := by decide +kernel
theorem dX10_script_17 : decode cX10_script 17 = .ok (.iconst (-1), 1) := by decide +kernel
theorem dX10_script_18 : decode cX10_script 18 = .ok (.ireturn, 1) := by decide +kernel
theorem dX10_script_19 : decode cX10_script 19 = .ok (.aload_n 0, 1) := by decide +kernel
theorem dX10_script_20 : decode cX10_script 20 = .ok (.iload_n 1, 1) := by decide +kernel
theorem dX10_script_21 : decode cX10_script 21 = .ok (.putfield 274, 3) := by decide +kernel
theorem dX10_script_24 : decode cX10_script 24 = .ok (.aload_n 0, 1) := by decide +kernel
theorem dX10_script_25 : decode cX10_script 25 = .ok (.iconst 0, 1) := by decide +kernel
theorem dX10_script_26 : decode cX10_script 26 = .ok (.putfield 265, 3) := by decide +kernel
theorem dX10_script_29 : decode cX10_script 29 = .ok (.aload_n 0, 1) := by decide +kernel
theorem dX10_script_30 : decode cX10_script 30 = .ok (.iconst 0, 1) := by decide +kernel
theorem dX10_script_31 : decode cX10_script 31 = .ok (.putfield 271, 3) := by decide +kernel
theorem dX10_script_34 : decode cX10_script 34 = .ok (.aload_n 0, 1) := by decide +kernel
theorem dX10_script_35 : decode cX10_script 35 = .ok (.iconst 0, 1) := by decide +kernel
theorem dX10_script_36 : decode cX10_script 36 = .ok (.putfield 277, 3) := by decide +kernel
theorem dX10_script_39 : decode cX10_script 39 = .ok (.aload_n 0, 1) := by decide +kernel
theorem dX10_script_40 : decode cX10_script 40 = .ok (.iconst 0, 1) := by decide +kernel
theorem dX10_script_41 : decode cX10_script 41 = .ok (.putfield 296, 3) := by decide +kernel
theorem dX10_script_44 : decode cX10_script 44 = .ok (.iconst 1, 1) := by decide +kernel
theorem dX10_script_45 : decode cX10_script 45 = .ok (.istore_n 2, 1) := by decide +kernel
theorem dX10_script_46 : decode cX10_script 46 = .ok (.iload_n 2, 1) := by decide +kernel
theorem dX10_script_47 : decode cX10_script 47 = .ok (.ifCond .eq 18, 3) := by decide +kernel
theorem dX10_script_50 : decode cX10_script 50 = .ok (.aload_n 0, 1) := by decide +kernel
theorem dX10_script_51 : decode cX10_script 51 = .ok (.invokevirtual 286, 3) := by decide +kernel
theorem dX10_script_54 : decode cX10_script 54 = .ok (.ifCond .lt 11, 3) := by decide +kernel
theorem dX10_script_57 : decode cX10_script 57 = .ok (.aload_n 0, 1) := by decide +kernel
theorem dX10_script_58 : decode cX10_script 58 = .ok (.invokevirtual 326, 3) := by decide +kernel
theorem dX10_script_61 : decode cX10_script 61 = .ok (.istore_n 2, 1) := by decide +kernel
theorem dX10_script_62 : decode cX10_script 62 = .ok (.goto (-16), 3) := by decide +kernel
theorem dX10_script_65 : decode cX10_script 65 = .ok (.iload_n 2, 1) := by decide +kernel
theorem dX10_script_66 : decode cX10_script 66 = .ok (.ifCond .ne 11, 3) := by decide +kernel
theorem dX10_script_69 : decode cX10_script 69 = .ok (.bipush (-2), 2) := by decide +kernel
theorem dX10_script_71 : decode cX10_script 71 = .ok (.aload_n 0, 1) := by decide +kernel
theorem dX10_script_72 : decode cX10_script 72 = .ok (.getfield 277, 3) := by decide +kernel
theorem dX10_script_75 : decode cX10_script 75 = .ok (.isub, 1) := by decide +kernel
theorem dX10_script_76 : decode cX10_script 76 = .ok (.ireturn, 1) := by decide +kernel
theorem dX10_script_77 : decode cX10_script 77 = .ok (.iconst 0, 1) := by decide +kernel
theorem dX10_script_78 : decode cX10_script 78 = .ok (.istore_n 3, 1) := by decide +kernel
theorem dX10_script_79 : decode cX10_script 79 = .ok (.iload_n 3, 1) := by decide +kernel
theorem dX10_script_80 : decode cX10_script 80 = .ok (.aload_n 0, 1) := by decide +kernel
theorem dX10_script_81 : decode cX10_script 81 = .ok (.getfield 296, 3) := by decide +kernel
theorem dX10_script_84 : decode cX10_script 84 = .ok (.if_icmp .ge 19, 3) := by decide +kernel
theorem dX10_script_87 : decode cX10_script 87 = .ok (.aload_n 0, 1) := by decide +kernel
theorem dX10_script_88 : decode cX10_script 88 = .ok (.iconst 4, 1) := by decide +kernel
theorem dX10_script_89 : decode cX10_script 89 = .ok (.iload_n 3, 1) := by decide +kernel
theorem dX10_script_90 : decode cX10_script 90 = .ok (.imul, 1) := by decide +kernel
theorem dX10_script_91 : decode cX10_script 91 = .ok (.invokevirtual 329, 3) := by decide +kernel
theorem dX10_script_94 : decode cX10_script 94 = .ok (.ifCond .eq 9, 3) := by decide +kernel
theorem dX10_script_97 : decode cX10_script 97 = .ok (.iinc 3 1, 3) := by decide +kernel
theorem dX10_script_100 : decode cX10_script 100 = .ok (.goto (-21), 3) := by decide +kernel
theorem dX10_script_103 : decode cX10_script 103 = .ok (.iload_n 3, 1) := by decide +kernel
theorem dX10_script_104 : decode cX10_script 104 = .ok (.ireturn, 1) := by decide +kernel
