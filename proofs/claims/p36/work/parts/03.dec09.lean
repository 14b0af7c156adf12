theorem dX10_image_0 : decode cX10_image 0 = .ok (.aload_n 0, 1) := by decide +kernel
theorem dX10_image_1 : decode cX10_image 1 = .ok (.iconst 0, 1) := by decide +kernel
theorem dX10_image_2 : decode cX10_image 2 = .ok (.putfield 1, 3) := by decide +kernel
theorem dX10_image_5 : decode cX10_image 5 = .ok (.iload_n 1, 1) := by decide +kernel
theorem dX10_image_6 : decode cX10_image 6 = .ok (.iconst 0, 1) := by decide +kernel
theorem dX10_image_7 : decode cX10_image 7 = .ok (.iconst 1, 1) := by decide +kernel
theorem dX10_image_8 : decode cX10_image 8 = .ok (.invokestatic 55, 3) := by decide +kernel
theorem dX10_image_11 : decode cX10_image 11 = .ok (.ifCond .ne 5, 3) := by decide +kernel
theorem dX10_image_14 : decode cX10_image 14 = .ok (.iconst 0, 1) := by decide +kernel
theorem dX10_image_15 : decode cX10_image 15 = .ok (.ireturn, 1) := by decide +kernel
theorem dX10_image_16 : decode cX10_image 16 = .ok (.iconst 0, 1) := by decide +kernel
theorem dX10_image_17 : decode cX10_image 17 = .ok (.istore_n 2, 1) := by decide +kernel
theorem dX10_image_18 : decode cX10_image 18 = .ok (.iload_n 2, 1) := by decide +kernel
theorem dX10_image_19 : decode cX10_image 19 = .ok (.sipush 4504, 3) := by decide +kernel
theorem dX10_image_22 : decode cX10_image 22 = .ok (.if_icmp .ge 27, 3) := by decide +kernel
theorem dX10_image_25 : decode cX10_image 25 = .ok (.aload_n 0, 1) := by decide +kernel
theorem dX10_image_26 : decode cX10_image 26 = .ok (.getfield 17, 3) := by decide +kernel
theorem dX10_image_29 : decode cX10_image 29 = .ok (.sipush 4504, 3) := by decide +kernel
theorem dX10_image_32 : decode cX10_image 32 = .ok (.iload_n 1, 1) := by decide +kernel
theorem dX10_image_33 : decode cX10_image 33 = .ok (.imul, 1) := by decide +kernel
theorem dX10_image_34 : decode cX10_image 34 = .ok (.iload_n 2, 1) := by decide +kernel
theorem dX10_image_35 : decode cX10_image 35 = .ok (.iadd, 1) := by decide +kernel
theorem dX10_image_36 : decode cX10_image 36 = .ok (.aload_n 0, 1) := by decide +kernel
theorem dX10_image_37 : decode cX10_image 37 = .ok (.getfield 13, 3) := by decide +kernel
theorem dX10_image_40 : decode cX10_image 40 = .ok (.iload_n 2, 1) := by decide +kernel
theorem dX10_image_41 : decode cX10_image 41 = .ok (.iaload, 1) := by decide +kernel
theorem dX10_image_42 : decode cX10_image 42 = .ok (.iastore, 1) := by decide +kernel
theorem dX10_image_43 : decode cX10_image 43 = .ok (.iinc 2 1, 3) := by decide +kernel
theorem dX10_image_46 : decode cX10_image 46 = .ok (.goto (-28), 3) := by decide +kernel
theorem dX10_image_49 : decode cX10_image 49 = .ok (.aload_n 0, 1) := by decide +kernel
theorem dX10_image_50 : decode cX10_image 50 = .ok (.dup, 1) := by decide +kernel
theorem dX10_image_51 : decode cX10_image 51 = .ok (.getfield 52, 3) := by decide +kernel
theorem dX10_image_54 : decode cX10_image 54 = .ok (.iconst 1, 1) := by decide +kernel
theorem dX10_image_55 : decode cX10_image 55 = .ok (.iload_n 1, 1) := by decide +kernel
theorem dX10_image_56 : decode cX10_image 56 = .ok (.ishl, 1) := by decide +kernel
theorem dX10_image_57 : decode cX10_image 57 = .ok (.ior, 1) := by decide +kernel
theorem dX10_image_58 : decode cX10_image 58 = .ok (.putfield 52, 3) := by decide +kernel
theorem dX10_image_61 : decode cX10_image 61 = .ok (.iconst 1, 1) := by decide +kernel
theorem dX10_image_62 : decode cX10_image 62 = .ok (.ireturn, 1) := by decide +kernel
theorem dX10_back_0 : decode cX10_back 0 = .ok (.aload_n 0, 1) := by decide +kernel
theorem dX10_back_1 : decode cX10_back 1 = .ok (.iconst 0, 1) := by decide +kernel
theorem dX10_back_2 : decode cX10_back 2 = .ok (.putfield 1, 3) := by decide +kernel
theorem dX10_back_5 : decode cX10_back 5 = .ok (.iload_n 1, 1) := by decide +kernel
theorem dX10_back_6 : decode cX10_back 6 = .ok (.iconst 0, 1) := by decide +kernel
theorem dX10_back_7 : decode cX10_back 7 = .ok (.iconst 1, 1) := by decide +kernel
theorem dX10_back_8 : decode cX10_back 8 = .ok (.invokestatic 55, 3) := by decide +kernel
theorem dX10_back_11 : decode cX10_back 11 = .ok (.ifCond .eq 14, 3) := by decide +kernel
theorem dX10_back_14 : decode cX10_back 14 = .ok (.aload_n 0, 1) := by decide +kernel
theorem dX10_back_15 : decode cX10_back 15 = .ok (.getfield 52, 3) := by decide +kernel
theorem dX10_back_18 : decode cX10_back 18 = .ok (.iload_n 1, 1) := by decide +kernel
theorem dX10_back_19 : decode cX10_back 19 = .ok (.ishr, 1) := by decide +kernel
theorem dX10_back_20 : decode cX10_back 20 = .ok (.iconst 1, 1) := by decide +kernel
theorem dX10_back_21 : decode cX10_back 21 = .ok (.iand, 1) := by decide +kernel
theorem dX10_back_22 : decode cX10_back 22 = .ok (.ifCond .ne 5, 3) := by decide +kernel
theorem dX10_back_25 : decode cX10_back 25 = .ok (.iconst 0, 1) := by decide +kernel
theorem dX10_back_26 : decode cX10_back 26 = .ok (.ireturn, 1) := by decide +kernel
theorem dX10_back_27 : decode cX10_back 27 = .ok (.iconst 0, 1) := by decide +kernel
theorem dX10_back_28 : decode cX10_back 28 = .ok (.istore_n 2, 1) := by decide +kernel
theorem dX10_back_29 : decode cX10_back 29 = .ok (.iload_n 2, 1) := by decide +kernel
theorem dX10_back_30 : decode cX10_back 30 = .ok (.sipush 4504, 3) := by decide +kernel
theorem dX10_back_33 : decode cX10_back 33 = .ok (.if_icmp .ge 27, 3) := by decide +kernel
theorem dX10_back_36 : decode cX10_back 36 = .ok (.aload_n 0, 1) := by decide +kernel
theorem dX10_back_37 : decode cX10_back 37 = .ok (.getfield 13, 3) := by decide +kernel
theorem dX10_back_40 : decode cX10_back 40 = .ok (.iload_n 2, 1) := by decide +kernel
theorem dX10_back_41 : decode cX10_back 41 = .ok (.aload_n 0, 1) := by decide +kernel
theorem dX10_back_42 : decode cX10_back 42 = .ok (.getfield 17, 3) := by decide +kernel
theorem dX10_back_45 : decode cX10_back 45 = .ok (.sipush 4504, 3) := by decide +kernel
theorem dX10_back_48 : decode cX10_back 48 = .ok (.iload_n 1, 1) := by decide +kernel
theorem dX10_back_49 : decode cX10_back 49 = .ok (.imul, 1) := by decide +kernel
theorem dX10_back_50 : decode cX10_back 50 = .ok (.iload_n 2, 1) := by decide +kernel
theorem dX10_back_51 : decode cX10_back 51 = .ok (.iadd, 1) := by decide +kernel
theorem dX10_back_52 : decode cX10_back 52 = .ok (.iaload, 1) := by decide +kernel
theorem dX10_back_53 : decode cX10_back 53 = .ok (.iastore, 1) := by decide +kernel
theorem dX10_back_54 : decode cX10_back 54 = .ok (.iinc 2 1, 3) := by decide +kernel
theorem dX10_back_57 : decode cX10_back 57 = .ok (.goto (-28), 3) := by decide +kernel
theorem dX10_back_60 : decode cX10_back 60 = .ok (.iconst 1, 1) := by decide +kernel
theorem dX10_back_61 : decode cX10_back 61 = .ok (.ireturn, 1) := by decide +kernel
theorem dX10_inRows_0 : decode cX10_inRows 0 = .ok (.iconst 0, 1) := by decide +kernel
theorem dX10_inRows_1 : decode cX10_inRows 1 = .ok (.istore_n 2, 1) := by decide +kernel
theorem dX10_inRows_2 : decode cX10_inRows 2 = .ok (.iconst 0, 1) := by decide +kernel
theorem dX10_inRows_3 : decode cX10_inRows 3 = .ok (.istore_n 3, 1) := by decide +kernel
theorem dX10_inRows_4 : decode cX10_inRows 4 = .ok (.iload_n 3, 1) := by decide +kernel
theorem dX10_inRows_5 : decode cX10_inRows 5 = .ok (.aload_n 0, 1) := by decide +kernel
theorem dX10_inRows_6 : decode cX10_inRows 6 = .ok (.getfield 13, 3) := by decide +kernel
theorem dX10_inRows_9 : decode cX10_inRows 9 = .ok (.iconst 0, 1) := by decide +kernel
theorem dX10_inRows_10 : decode cX10_inRows 10 = .ok (.iaload, 1) := by decide +kernel
theorem dX10_inRows_11 : decode cX10_inRows 11 = .ok (.if_icmp .ge 18, 3) := by decide +kernel
theorem dX10_inRows_14 : decode cX10_inRows 14 = .ok (.iload_n 2, 1) := by decide +kernel
theorem dX10_inRows_15 : decode cX10_inRows 15 = .ok (.aload_n 0, 1) := by decide +kernel
theorem dX10_inRows_16 : decode cX10_inRows 16 = .ok (.iload_n 3, 1) := by decide +kernel
theorem dX10_inRows_17 : decode cX10_inRows 17 = .ok (.iload_n 1, 1) := by decide +kernel
theorem dX10_inRows_18 : decode cX10_inRows 18 = .ok (.invokevirtual 81, 3) := by decide +kernel
theorem dX10_inRows_21 : decode cX10_inRows 21 = .ok (.iadd, 1) := by decide +kernel
theorem dX10_inRows_22 : decode cX10_inRows 22 = .ok (.istore_n 2, 1) := by decide +kernel
theorem dX10_inRows_23 : decode cX10_inRows 23 = .ok (.iinc 3 1, 3) := by decide +kernel
theorem dX10_inRows_26 : decode cX10_inRows 26 = .ok (.goto (-22), 3) := by decide +kernel
theorem dX10_inRows_29 : decode cX10_inRows 29 = .ok (.iload_n 2, 1) := by decide +kernel
theorem dX10_inRows_30 : decode cX10_inRows 30 = .ok (.ireturn, 1) := by decide +kernel
theorem dX10_areOne_0 : decode cX10_areOne 0 = .ok (.iconst 1, 1) := by decide +kernel
theorem dX10_areOne_1 : decode cX10_areOne 1 = .ok (.istore_n 1, 1) := by decide +kernel
theorem dX10_areOne_2 : decode cX10_areOne 2 = .ok (.aload_n 0, 1) := by decide +kernel
theorem dX10_areOne_3 : decode cX10_areOne 3 = .ok (.iconst 0, 1) := by decide +kernel
theorem dX10_areOne_4 : decode cX10_areOne 4 = .ok (.invokevirtual 224, 3) := by decide +kernel
theorem dX10_areOne_7 : decode cX10_areOne 7 = .ok (.iconst 1, 1) := by decide +kernel
theorem dX10_areOne_8 : decode cX10_areOne 8 = .ok (.istore_n 2, 1) := by decide +kernel
theorem dX10_areOne_9 : decode cX10_areOne 9 = .ok (.iload_n 2, 1) := by decide +kernel
theorem dX10_areOne_10 : decode cX10_areOne 10 = .ok (.aload_n 0, 1) := by decide +kernel
theorem dX10_areOne_11 : decode cX10_areOne 11 = .ok (.getfield 13, 3) := by decide +kernel
theorem dX10_areOne_14 : decode cX10_areOne 14 = .ok (.iconst 0, 1) := by decide +kernel
theorem dX10_areOne_15 : decode cX10_areOne 15 = .ok (.iaload, 1) := by decide +kernel
theorem dX10_areOne_16 : decode cX10_areOne 16 = .ok (.if_icmp .ge 95, 3) := by decide +kernel
theorem dX10_areOne_19 : decode cX10_areOne 19 = .ok (.iload_n 1, 1) := by decide +kernel
theorem dX10_areOne_20 : decode cX10_areOne 20 = .ok (.ifCond .eq 91, 3) := by decide +kernel
theorem dX10_areOne_23 : decode cX10_areOne 23 = .ok (.aload_n 0, 1) := by decide +kernel
theorem dX10_areOne_24 : decode cX10_areOne 24 = .ok (.iload_n 2, 1) := by decide +kernel
theorem dX10_areOne_25 : decode cX10_areOne 25 = .ok (.invokevirtual 138, 3) := by decide +kernel
theorem dX10_areOne_28 : decode cX10_areOne 28 = .ok (.aload_n 0, 1) := by decide +kernel
theorem dX10_areOne_29 : decode cX10_areOne 29 = .ok (.getfield 119, 3) := by decide +kernel
theorem dX10_areOne_32 : decode cX10_areOne 32 = .ok (.aload_n 0, 1) := by decide +kernel
theorem dX10_areOne_33 : decode cX10_areOne 33 = .ok (.getfield 221, 3) := by decide +kernel
theorem dX10_areOne_36 : decode cX10_areOne 36 = .ok (.if_icmp .ne 7, 3) := by decide +kernel
theorem dX10_areOne_39 : decode cX10_areOne 39 = .ok (.iconst 1, 1) := by decide +kernel
theorem dX10_areOne_40 : decode cX10_areOne 40 = .ok (.goto 4, 3) := by decide +kernel
theorem dX10_areOne_43 : decode cX10_areOne 43 = .ok (.iconst 0, 1) := by decide +kernel
theorem dX10_areOne_44 : decode cX10_areOne 44 = .ok (.istore_n 1, 1) := by decide +kernel
theorem dX10_areOne_45 : decode cX10_areOne 45 = .ok (.iconst 0, 1) := by decide +kernel
theorem dX10_areOne_46 : decode cX10_areOne 46 = .ok (.istore_n 3, 1) := by decide +kernel
theorem dX10_areOne_47 : decode cX10_areOne 47 = .ok (.iload_n 3, 1) := by decide +kernel
theorem dX10_areOne_48 : decode cX10_areOne 48 = .ok (.aload_n 0, 1) := by decide +kernel
theorem dX10_areOne_49 : decode cX10_areOne 49 = .ok (.getfield 119, 3) := by decide +kernel
theorem dX10_areOne_52 : decode cX10_areOne 52 = .ok (.if_icmp .ge 53, 3) := by decide +kernel
theorem dX10_areOne_55 : decode cX10_areOne 55 = .ok (.iload_n 1, 1) := by decide +kernel
theorem dX10_areOne_56 : decode cX10_areOne 56 = .ok (.ifCond .eq 49, 3) := by decide +kernel
theorem dX10_areOne_59 : decode cX10_areOne 59 = .ok (.aload_n 0, 1) := by decide +kernel
theorem dX10_areOne_60 : decode cX10_areOne 60 = .ok (.getfield 32, 3) := by decide +kernel
theorem dX10_areOne_63 : decode cX10_areOne 63 = .ok (.iload_n 3, 1) := by decide +kernel
theorem dX10_areOne_64 : decode cX10_areOne 64 = .ok (.iaload, 1) := by decide +kernel
theorem dX10_areOne_65 : decode cX10_areOne 65 = .ok (.aload_n 0, 1) := by decide +kernel
theorem dX10_areOne_66 : decode cX10_areOne 66 = .ok (.iload_n 3, 1) := by decide +kernel
theorem dX10_areOne_67 : decode cX10_areOne 67 = .ok (.invokevirtual 148, 3) := by decide +kernel
theorem dX10_areOne_70 : decode cX10_areOne 70 = .ok (.if_icmp .ne 27, 3) := by decide +kernel
theorem dX10_areOne_73 : decode cX10_areOne 73 = .ok (.aload_n 0, 1) := by decide +kernel
theorem dX10_areOne_74 : decode cX10_areOne 74 = .ok (.getfield 35, 3) := by decide +kernel
theorem dX10_areOne_77 : decode cX10_areOne 77 = .ok (.iload_n 3, 1) := by decide +kernel
theorem dX10_areOne_78 : decode cX10_areOne 78 = .ok (.iaload, 1) := by decide +kernel
theorem dX10_areOne_79 : decode cX10_areOne 79 = .ok (.aload_n 0, 1) := by decide +kernel
theorem dX10_areOne_80 : decode cX10_areOne 80 = .ok (.iload_n 2, 1) := by decide +kernel
theorem dX10_areOne_81 : decode cX10_areOne 81 = .ok (.aload_n 0, 1) := by decide +kernel
theorem dX10_areOne_82 : decode cX10_areOne 82 = .ok (.getfield 32, 3) := by decide +kernel
theorem dX10_areOne_85 : decode cX10_areOne 85 = .ok (.iload_n 3, 1) := by decide +kernel
theorem dX10_areOne_86 : decode cX10_areOne 86 = .ok (.iaload, 1) := by decide +kernel
theorem dX10_areOne_87 : decode cX10_areOne 87 = .ok (.invokevirtual 198, 3) := by decide +kernel
theorem dX10_areOne_90 : decode cX10_areOne 90 = .ok (.if_icmp .ne 7, 3) := by decide +kernel
theorem dX10_areOne_93 : decode cX10_areOne 93 = .ok (.iconst 1, 1) := by decide +kernel
theorem dX10_areOne_94 : decode cX10_areOne 94 = .ok (.goto 4, 3) := by decide +kernel
theorem dX10_areOne_97 : decode cX10_areOne 97 = .ok (.iconst 0, 1) := by decide +kernel
theorem dX10_areOne_98 : decode cX10_areOne 98 = .ok (.istore_n 1, 1) := by decide +kernel
theorem dX10_areOne_99 : decode cX10_areOne 99 = .ok (.iinc 3 1, 3) := by decide +kernel
theorem dX10_areOne_102 : decode cX10_areOne 102 = .ok (.goto (-55), 3) := by decide +kernel
theorem dX10_areOne_105 : decode cX10_areOne 105 = .ok (.iinc 2 1, 3) := by decide +kernel
theorem dX10_areOne_108 : decode cX10_areOne 108 = .ok (.goto (-99), 3) := by decide +kernel
theorem dX10_areOne_111 : decode cX10_areOne 111 = .ok (.iload_n 1, 1) := by decide +kernel
theorem dX10_areOne_112 : decode cX10_areOne 112 = .ok (.ireturn, 1) := by decide +kernel
theorem dX10_missed_0 : decode cX10_missed 0 = .ok (.iconst 0, 1) := by decide +kernel
theorem dX10_missed_1 : decode cX10_missed 1 = .ok (.istore_n 1, 1) := by decide +kernel
theorem dX10_missed_2 : decode cX10_missed 2 = .ok (.iconst 0, 1) := by decide +kernel
theorem dX10_missed_3 : decode cX10_missed 3 = .ok (.istore_n 2, 1) := by decide +kernel
theorem dX10_missed_4 : decode cX10_missed 4 = .ok (.iload_n 2, 1) := by decide +kernel
theorem dX10_missed_5 : decode cX10_missed 5 = .ok (.sipush 200, 3) := by decide +kernel
theorem dX10_missed_8 : decode cX10_missed 8 = .ok (.if_icmp .ge 71, 3) := by decide +kernel
theorem dX10_missed_11 : decode cX10_missed 11 = .ok (.iconst 0, 1) := by decide +kernel
theorem dX10_missed_12 : decode cX10_missed 12 = .ok (.istore_n 3, 1) := by decide +kernel
theorem dX10_missed_13 : decode cX10_missed 13 = .ok (.iconst 0, 1) := by decide +kernel
theorem dX10_missed_14 : decode cX10_missed 14 = .ok (.istore 4, 2) := by decide +kernel
theorem dX10_missed_16 : decode cX10_missed 16 = .ok (.iload 4, 2) := by decide +kernel
theorem dX10_missed_18 : decode cX10_missed 18 = .ok (.aload_n 0, 1) := by decide +kernel
theorem dX10_missed_19 : decode cX10_missed 19 = .ok (.getfield 13, 3) := by decide +kernel
theorem dX10_missed_22 : decode cX10_missed 22 = .ok (.iconst 0, 1) := by decide +kernel
theorem dX10_missed_23 : decode cX10_missed 23 = .ok (.iaload, 1) := by decide +kernel
theorem dX10_missed_24 : decode cX10_missed 24 = .ok (.if_icmp .ge 37, 3) := by decide +kernel
theorem dX10_missed_27 : decode cX10_missed 27 = .ok (.iload_n 3, 1) := by decide +kernel
theorem dX10_missed_28 : decode cX10_missed 28 = .ok (.ifCond .ne 21, 3) := by decide +kernel
theorem dX10_missed_31 : decode cX10_missed 31 = .ok (.aload_n 0, 1) := by decide +kernel
theorem dX10_missed_32 : decode cX10_missed 32 = .ok (.iload_n 2, 1) := by decide +kernel
theorem dX10_missed_33 : decode cX10_missed 33 = .ok (.invokevirtual 78, 3) := by decide +kernel
theorem dX10_missed_36 : decode cX10_missed 36 = .ok (.ifCond .eq 17, 3) := by decide +kernel
theorem dX10_missed_39 : decode cX10_missed 39 = .ok (.aload_n 0, 1) := by decide +kernel
theorem dX10_missed_40 : decode cX10_missed 40 = .ok (.iload 4, 2) := by decide +kernel
theorem dX10_missed_42 : decode cX10_missed 42 = .ok (.iload_n 2, 1) := by decide +kernel
theorem dX10_missed_43 : decode cX10_missed 43 = .ok (.invokevirtual 87, 3) := by decide +kernel
theorem dX10_missed_46 : decode cX10_missed 46 = .ok (.ifCond .ne 7, 3) := by decide +kernel
theorem dX10_missed_49 : decode cX10_missed 49 = .ok (.iconst 1, 1) := by decide +kernel
theorem dX10_missed_50 : decode cX10_missed 50 = .ok (.goto 4, 3) := by decide +kernel
theorem dX10_missed_53 : decode cX10_missed 53 = .ok (.iconst 0, 1) := by decide +kernel
theorem dX10_missed_54 : decode cX10_missed 54 = .ok (.istore_n 3, 1) := by decide +kernel
theorem dX10_missed_55 : decode cX10_missed 55 = .ok (.iinc 4 1, 3) := by decide +kernel
theorem dX10_missed_58 : decode cX10_missed 58 = .ok (.goto (-42), 3) := by decide +kernel
theorem dX10_missed_61 : decode cX10_missed 61 = .ok (.iload_n 1, 1) := by decide +kernel
theorem dX10_missed_62 : decode cX10_missed 62 = .ok (.iload_n 3, 1) := by decide +kernel
theorem dX10_missed_63 : decode cX10_missed 63 = .ok (.ifCond .eq 7, 3) := by decide +kernel
theorem dX10_missed_66 : decode cX10_missed 66 = .ok (.iconst 1, 1) := by decide +kernel
theorem dX10_missed_67 : decode cX10_missed 67 = .ok (.goto 4, 3) := by decide +kernel
theorem dX10_missed_70 : decode cX10_missed 70 = .ok (.iconst 0, 1) := by decide +kernel
theorem dX10_missed_71 : decode cX10_missed 71 = .ok (.iadd, 1) := by decide +kernel
theorem dX10_missed_72 : decode cX10_missed 72 = .ok (.istore_n 1, 1) := by decide +kernel
theorem dX10_missed_73 : decode cX10_missed 73 = .ok (.iinc 2 1, 3) := by decide +kernel
theorem dX10_missed_76 : decode cX10_missed 76 = .ok (.goto (-72), 3) := by decide +kernel
theorem dX10_missed_79 : decode cX10_missed 79 = .ok (.iload_n 1, 1) := by decide +kernel
theorem dX10_missed_80 : decode cX10_missed 80 = .ok (.ireturn, 1) := by decide +kernel
theorem dX10_madeAll_0 : decode cX10_madeAll 0 = .ok (.iconst 0, 1) := by decide +kernel
theorem dX10_madeAll_1 : decode cX10_madeAll 1 = .ok (.istore_n 1, 1) := by decide +kernel
theorem dX10_madeAll_2 : decode cX10_madeAll 2 = .ok (.iconst 0, 1) := by decide +kernel
theorem dX10_madeAll_3 : decode cX10_madeAll 3 = .ok (.istore_n 2, 1) := by decide +kernel
theorem dX10_madeAll_4 : decode cX10_madeAll 4 = .ok (.iload_n 2, 1) := by decide +kernel
theorem dX10_madeAll_5 : decode cX10_madeAll 5 = .ok (.aload_n 0, 1) := by decide +kernel
theorem dX10_madeAll_6 : decode cX10_madeAll 6 = .ok (.getfield 13, 3) := by decide +kernel
theorem dX10_madeAll_9 : decode cX10_madeAll 9 = .ok (.iconst 0, 1) := by decide +kernel
theorem dX10_madeAll_10 : decode cX10_madeAll 10 = .ok (.iaload, 1) := by decide +kernel
theorem dX10_madeAll_11 : decode cX10_madeAll 11 = .ok (.if_icmp .ge 20, 3) := by decide +kernel
theorem dX10_madeAll_14 : decode cX10_madeAll 14 = .ok (.iload_n 1, 1) := by decide +kernel
theorem dX10_madeAll_15 : decode cX10_madeAll 15 = .ok (.aload_n 0, 1) := by decide +kernel
theorem dX10_madeAll_16 : decode cX10_madeAll 16 = .ok (.getfield 13, 3) := by decide +kernel
theorem dX10_madeAll_19 : decode cX10_madeAll 19 = .ok (.iconst 2, 1) := by decide +kernel
theorem dX10_madeAll_20 : decode cX10_madeAll 20 = .ok (.iload_n 2, 1) := by decide +kernel
theorem dX10_madeAll_21 : decode cX10_madeAll 21 = .ok (.iadd, 1) := by decide +kernel
theorem dX10_madeAll_22 : decode cX10_madeAll 22 = .ok (.iaload, 1) := by decide +kernel
theorem dX10_madeAll_23 : decode cX10_madeAll 23 = .ok (.iadd, 1) := by decide +kernel
theorem dX10_madeAll_24 : decode cX10_madeAll 24 = .ok (.istore_n 1, 1) := by decide +kernel
theorem dX10_madeAll_25 : decode cX10_madeAll 25 = .ok (.iinc 2 1, 3) := by decide +kernel
theorem dX10_madeAll_28 : decode cX10_madeAll 28 = .ok (.goto (-24), 3) := by decide +kernel
theorem dX10_madeAll_31 : decode cX10_madeAll 31 = .ok (.iload_n 1, 1) := by decide +kernel
theorem dX10_madeAll_32 : decode cX10_madeAll 32 = .ok (.ireturn, 1) := by decide +kernel
theorem dX10_all__0 : decode cX10_all_ 0 = .ok (.aload_n 0, 1) := by decide +kernel
theorem dX10_all__1 : decode cX10_all_ 1 = .ok (.iconst 0, 1) := by decide +kernel
theorem dX10_all__2 : decode cX10_all_ 2 = .ok (.putfield 1, 3) := by decide +kernel
theorem dX10_all__5 : decode cX10_all_ 5 = .ok (.iload_n 1, 1) := by decide +kernel
theorem dX10_all__6 : decode cX10_all_ 6 = .ok (.tableswitch 102 0 7 #[46, 53, 58, 65, 72, 79, 84, 97], 46) := by decide +kernel
theorem dX10_all__52 : decode cX10_all_ 52 = .ok (.aload_n 0, 1) := by decide +kernel
theorem dX10_all__53 : decode cX10_all_ 53 = .ok (.getfield 13, 3) := by decide +kernel
theorem dX10_all__56 : decode cX10_all_ 56 = .ok (.iconst 0, 1) := by decide +kernel
theorem dX10_all__57 : decode cX10_all_ 57 = .ok (.iaload, 1) := by decide +kernel
theorem dX10_all__58 : decode cX10_all_ 58 = .ok (.ireturn, 1) := by decide +kernel
theorem dX10_all__59 : decode cX10_all_ 59 = .ok (.aload_n 0, 1) := by decide +kernel
theorem dX10_all__60 : decode cX10_all_ 60 = .ok (.invokevirtual 332, 3) := by decide +kernel
theorem dX10_all__63 : decode cX10_all_ 63 = .ok (.ireturn, 1) := by decide +kernel
theorem dX10_all__64 : decode cX10_all_ 64 = .ok (.aload_n 0, 1) := by decide +kernel
theorem dX10_all__65 : decode cX10_all_ 65 = .ok (.bipush 7, 2) := by decide +kernel
theorem dX10_all__67 : decode cX10_all_ 67 = .ok (.invokevirtual 335, 3) := by decide +kernel
theorem dX10_all__70 : decode cX10_all_ 70 = .ok (.ireturn, 1) := by decide +kernel
theorem dX10_all__71 : decode cX10_all_ 71 = .ok (.aload_n 0, 1) := by decide +kernel
theorem dX10_all__72 : decode cX10_all_ 72 = .ok (.bipush 68, 2) := by decide +kernel
theorem dX10_all__74 : decode cX10_all_ 74 = .ok (.invokevirtual 335, 3) := by decide +kernel
theorem dX10_all__77 : decode cX10_all_ 77 = .ok (.ireturn, 1) := by decide +kernel
theorem dX10_all__78 : decode cX10_all_ 78 = .ok (.aload_n 0, 1) := by decide +kernel
theorem dX10_all__79 : decode cX10_all_ 79 = .ok (.getfield 13, 3) := by decide +kernel
theorem dX10_all__82 : decode cX10_all_ 82 = .ok (.iconst 1, 1) := by decide +kernel
theorem dX10_all__83 : decode cX10_all_ 83 = .ok (.iaload, 1) := by decide +kernel
theorem dX10_all__84 : decode cX10_all_ 84 = .ok (.ireturn, 1) := by decide +kernel
theorem dX10_all__85 : decode cX10_all_ 85 = .ok (.aload_n 0, 1) := by decide +kernel
theorem dX10_all__86 : decode cX10_all_ 86 = .ok (.getfield 265, 3) := by decide +kernel
theorem dX10_all__89 : decode cX10_all_ 89 = .ok (.ireturn, 1) := by decide +kernel
theorem dX10_all__90 : decode cX10_all_ 90 = .ok (.aload_n 0, 1) := by decide +kernel
theorem dX10_all__91 : decode cX10_all_ 91 = .ok (.invokevirtual 338, 3) := by decide +kernel
theorem dX10_all__94 : decode cX10_all_ 94 = .ok (.ifCond .eq 7, 3) := by decide +kernel
theorem dX10_all__97 : decode cX10_all_ 97 = .ok (.iconst 1, 1) := by decide +kernel
theorem dX10_all__98 : decode cX10_all_ 98 = .ok (.goto 4, 3) := by decide +kernel
theorem dX10_all__101 : decode cX10_all_ 101 = .ok (.iconst 0, 1) := by decide +kernel
theorem dX10_all__102 : decode cX10_all_ 102 = .ok (.ireturn, 1) := by decide +kernel
theorem dX10_all__103 : decode cX10_all_ 103 = .ok (.aload_n 0, 1) := by decide +kernel
theorem dX10_all__104 : decode cX10_all_ 104 = .ok (.invokevirtual 341, 3) := by decide +kernel
theorem dX10_all__107 : decode cX10_all_ 107 = .ok (.ireturn, 1) := by decide +kernel
theorem dX10_all__108 : decode cX10_all_ 108 = .ok (.iconst (-1), 1) := by decide +kernel
theorem dX10_all__109 : decode cX10_all_ 109 = .ok (.ireturn, 1) := by decide +kernel
theorem dJx29ce0_ordinal_8abf5_0 : decode cJx29ce0_ordinal_8abf5 0 = .ok (.aload_n 0, 1) := by decide +kernel
theorem dJx29ce0_ordinal_8abf5_1 : decode cJx29ce0_ordinal_8abf5 1 = .ok (.getfield 7, 3) := by decide +kernel
theorem dJx29ce0_ordinal_8abf5_4 : decode cJx29ce0_ordinal_8abf5 4 = .ok (.ireturn, 1) := by decide +kernel
theorem dJ9_max_7cf53_0 : decode cJ9_max_7cf53 0 = .ok (.iload_n 0, 1) := by decide +kernel
theorem dJ9_max_7cf53_1 : decode cJ9_max_7cf53 1 = .ok (.iload_n 1, 1) := by decide +kernel
theorem dJ9_max_7cf53_2 : decode cJ9_max_7cf53 2 = .ok (.if_icmp .lt 7, 3) := by decide +kernel
theorem dJ9_max_7cf53_5 : decode cJ9_max_7cf53 5 = .ok (.iload_n 0, 1) := by decide +kernel
theorem dJ9_max_7cf53_6 : decode cJ9_max_7cf53 6 = .ok (.goto 4, 3) := by decide +kernel
theorem dJ9_max_7cf53_9 : decode cJ9_max_7cf53 9 = .ok (.iload_n 1, 1) := by decide +kernel
theorem dJ9_max_7cf53_10 : decode cJ9_max_7cf53 10 = .ok (.ireturn, 1) := by decide +kernel
theorem dJ9_min_7cf53_0 : decode cJ9_min_7cf53 0 = .ok (.iload_n 0, 1) := by decide +kernel
theorem dJ9_min_7cf53_1 : decode cJ9_min_7cf53 1 = .ok (.iload_n 1, 1) := by decide +kernel
theorem dJ9_min_7cf53_2 : decode cJ9_min_7cf53 2 = .ok (.if_icmp .gt 7, 3) := by decide +kernel
theorem dJ9_min_7cf53_5 : decode cJ9_min_7cf53 5 = .ok (.iload_n 0, 1) := by decide +kernel
theorem dJ9_min_7cf53_6 : decode cJ9_min_7cf53 6 = .ok (.goto 4, 3) := by decide +kernel
theorem dJ9_min_7cf53_9 : decode cJ9_min_7cf53 9 = .ok (.iload_n 1, 1) := by decide +kernel
theorem dJ9_min_7cf53_10 : decode cJ9_min_7cf53 10 = .ok (.ireturn, 1) := by decide +kernel
theorem dJ0_length_8abf5_0 : decode cJ0_length_8abf5 0 = .ok (.aload_n 0, 1) := by decide +kernel
theorem dJ0_length_8abf5_1 : decode cJ0_length_8abf5 1 = .ok (.getfield 9, 3) := by decide +kernel
theorem dJ0_length_8abf5_4 : decode cJ0_length_8abf5 4 = .ok (.arraylength, 1) := by decide +kernel
theorem dJ0_length_8abf5_5 : decode cJ0_length_8abf5 5 = .ok (.aload_n 0, 1) := by decide +kernel
theorem dJ0_length_8abf5_6 : decode cJ0_length_8abf5 6 = .ok (.invokevirtual 335, 3) := by decide +kernel
theorem dJ0_length_8abf5_9 : decode cJ0_length_8abf5 9 = .ok (.ishr, 1) := by decide +kernel
theorem dJ0_length_8abf5_10 : decode cJ0_length_8abf5 10 = .ok (.ireturn, 1) := by decide +kernel
theorem dJ0_charAt_5068e_0 : decode cJ0_charAt_5068e 0 = .ok (.aload_n 0, 1) := by decide +kernel
theorem dJ0_charAt_5068e_1 : decode cJ0_charAt_5068e 1 = .ok (.invokevirtual 492, 3) := by decide +kernel
theorem dJ0_charAt_5068e_4 : decode cJ0_charAt_5068e 4 = .ok (.ifCond .eq 12, 3) := by decide +kernel
theorem dJ0_charAt_5068e_7 : decode cJ0_charAt_5068e 7 = .ok (.aload_n 0, 1) := by decide +kernel
theorem dJ0_charAt_5068e_8 : decode cJ0_charAt_5068e 8 = .ok (.getfield 9, 3) := by decide +kernel
theorem dJ0_charAt_5068e_11 : decode cJ0_charAt_5068e 11 = .ok (.iload_n 1, 1) := by decide +kernel
theorem dJ0_charAt_5068e_12 : decode cJ0_charAt_5068e 12 = .ok (.invokestatic 495, 3) := by decide +kernel
theorem dJ0_charAt_5068e_15 : decode cJ0_charAt_5068e 15 = .ok (.ireturn, 1) := by decide +kernel
theorem dJ0_charAt_5068e_16 : decode cJ0_charAt_5068e 16 = .ok (.aload_n 0, 1) := by decide +kernel
theorem dJ0_charAt_5068e_17 : decode cJ0_charAt_5068e 17 = .ok (.getfield 9, 3) := by decide +kernel
theorem dJ0_charAt_5068e_20 : decode cJ0_charAt_5068e 20 = .ok (.iload_n 1, 1) := by decide +kernel
theorem dJ0_charAt_5068e_21 : decode cJ0_charAt_5068e 21 = .ok (.invokestatic 498, 3) := by decide +kernel
theorem dJ0_charAt_5068e_24 : decode cJ0_charAt_5068e 24 = .ok (.ireturn, 1) := by decide +kernel
theorem dJ0_coder_7d493_0 : decode cJ0_coder_7d493 0 = .ok (.getstatic 38, 3) := by decide +kernel
theorem dJ0_coder_7d493_3 : decode cJ0_coder_7d493 3 = .ok (.ifCond .eq 10, 3) := by decide +kernel
theorem dJ0_coder_7d493_6 : decode cJ0_coder_7d493 6 = .ok (.aload_n 0, 1) := by decide +kernel
theorem dJ0_coder_7d493_7 : decode cJ0_coder_7d493 7 = .ok (.getfield 15, 3) := by decide +kernel
theorem dJ0_coder_7d493_10 : decode cJ0_coder_7d493 10 = .ok (.goto 4, 3) := by decide +kernel
theorem dJ0_coder_7d493_13 : decode cJ0_coder_7d493 13 = .ok (.iconst 1, 1) := by decide +kernel
theorem dJ0_coder_7d493_14 : decode cJ0_coder_7d493 14 = .ok (.ireturn, 1) := by decide +kernel
theorem dJ0_isLatin1_aae02_0 : decode cJ0_isLatin1_aae02 0 = .ok (.getstatic 38, 3) := by decide +kernel
theorem dJ0_isLatin1_aae02_3 : decode cJ0_isLatin1_aae02 3 = .ok (.ifCond .eq 14, 3) := by decide +kernel
theorem dJ0_isLatin1_aae02_6 : decode cJ0_isLatin1_aae02 6 = .ok (.aload_n 0, 1) := by decide +kernel
theorem dJ0_isLatin1_aae02_7 : decode cJ0_isLatin1_aae02 7 = .ok (.getfield 15, 3) := by decide +kernel
theorem dJ0_isLatin1_aae02_10 : decode cJ0_isLatin1_aae02 10 = .ok (.ifCond .ne 7, 3) := by decide +kernel
theorem dJ0_isLatin1_aae02_13 : decode cJ0_isLatin1_aae02 13 = .ok (.iconst 1, 1) := by decide +kernel
theorem dJ0_isLatin1_aae02_14 : decode cJ0_isLatin1_aae02 14 = .ok (.goto 4, 3) := by decide +kernel
theorem dJ0_isLatin1_aae02_17 : decode cJ0_isLatin1_aae02 17 = .ok (.iconst 0, 1) := by decide +kernel
theorem dJ0_isLatin1_aae02_18 : decode cJ0_isLatin1_aae02 18 = .ok (.ireturn, 1) := by decide +kernel
theorem dJ0_checkIndex_df160_0 : decode cJ0_checkIndex_df160 0 = .ok (.iload_n 0, 1) := by decide +kernel
theorem dJ0_checkIndex_df160_1 : decode cJ0_checkIndex_df160 1 = .ok (.iload_n 1, 1) := by decide +kernel
theorem dJ0_checkIndex_df160_2 : decode cJ0_checkIndex_df160 2 = .ok (.getstatic 1053, 3) := by decide +kernel
theorem dJ0_checkIndex_df160_5 : decode cJ0_checkIndex_df160 5 = .ok (.invokestatic 1059, 3) := by decide +kernel
theorem dJ0_checkIndex_df160_8 : decode cJ0_checkIndex_df160 8 = .ok (.pop, 1) := by decide +kernel
theorem dJ0_checkIndex_df160_9 : decode cJ0_checkIndex_df160 9 = .ok (.return_, 1) := by decide +kernel
theorem dJ1_charAt_3b067_0 : decode cJ1_charAt_3b067 0 = .ok (.iload_n 1, 1) := by decide +kernel
theorem dJ1_charAt_3b067_1 : decode cJ1_charAt_3b067 1 = .ok (.aload_n 0, 1) := by decide +kernel
theorem dJ1_charAt_3b067_2 : decode cJ1_charAt_3b067 2 = .ok (.arraylength, 1) := by decide +kernel
theorem dJ1_charAt_3b067_3 : decode cJ1_charAt_3b067 3 = .ok (.invokestatic 9, 3) := by decide +kernel
theorem dJ1_charAt_3b067_6 : decode cJ1_charAt_3b067 6 = .ok (.aload_n 0, 1) := by decide +kernel
theorem dJ1_charAt_3b067_7 : decode cJ1_charAt_3b067 7 = .ok (.iload_n 1, 1) := by decide +kernel
theorem dJ1_charAt_3b067_8 : decode cJ1_charAt_3b067 8 = .ok (.baload, 1) := by decide +kernel
theorem dJ1_charAt_3b067_9 : decode cJ1_charAt_3b067 9 = .ok (.sipush 255, 3) := by decide +kernel
theorem dJ1_charAt_3b067_12 : decode cJ1_charAt_3b067 12 = .ok (.iand, 1) := by decide +kernel
theorem dJ1_charAt_3b067_13 : decode cJ1_charAt_3b067 13 = .ok (.i2c, 1) := by decide +kernel
theorem dJ1_charAt_3b067_14 : decode cJ1_charAt_3b067 14 = .ok (.ireturn, 1) := by decide +kernel
theorem dJ2_getChar_3b067_0 : decode cJ2_getChar_3b067 0 = .ok (.getstatic 44, 3) := by decide +kernel
theorem dJ2_getChar_3b067_3 : decode cJ2_getChar_3b067 3 = .ok (.ifCond .ne 25, 3) := by decide +kernel
theorem dJ2_getChar_3b067_6 : decode cJ2_getChar_3b067 6 = .ok (.iload_n 1, 1) := by decide +kernel
theorem dJ2_getChar_3b067_7 : decode cJ2_getChar_3b067 7 = .ok (.ifCond .lt 11, 3) := by decide +kernel
theorem dJ2_getChar_3b067_10 : decode cJ2_getChar_3b067 10 = .ok (.iload_n 1, 1) := by decide +kernel
theorem dJ2_getChar_3b067_11 : decode cJ2_getChar_3b067 11 = .ok (.aload_n 0, 1) := by decide +kernel
theorem dJ2_getChar_3b067_12 : decode cJ2_getChar_3b067 12 = .ok (.invokestatic 48, 3) := by decide +kernel
theorem dJ2_getChar_3b067_15 : decode cJ2_getChar_3b067 15 = .ok (.if_icmp .lt 13, 3) := by decide +kernel
theorem dJ2_getChar_3b067_18 : decode cJ2_getChar_3b067 18 = .ok (.new 52, 3) := by decide +kernel
theorem dJ2_getChar_3b067_21 : decode cJ2_getChar_3b067 21 = .ok (.dup, 1) := by decide +kernel
theorem dJ2_getChar_3b067_22 : decode cJ2_getChar_3b067 22 = .ok (.ldc 54, 2) := by decide +kernel
theorem dJ2_getChar_3b067_24 : decode cJ2_getChar_3b067 24 = .ok (.invokespecial 56, 3) := by decide +kernel
theorem dJ2_getChar_3b067_27 : decode cJ2_getChar_3b067 27 = .ok (.athrow, 1) := by decide +kernel
theorem dJ2_getChar_3b067_28 : decode cJ2_getChar_3b067 28 = .ok (.iload_n 1, 1) := by decide +kernel
theorem dJ2_getChar_3b067_29 : decode cJ2_getChar_3b067 29 = .ok (.iconst 1, 1) := by decide +kernel
theorem dJ2_getChar_3b067_30 : decode cJ2_getChar_3b067 30 = .ok (.ishl, 1) := by decide +kernel
theorem dJ2_getChar_3b067_31 : decode cJ2_getChar_3b067 31 = .ok (.istore_n 1, 1) := by decide +kernel
theorem dJ2_getChar_3b067_32 : decode cJ2_getChar_3b067 32 = .ok (.aload_n 0, 1) := by decide +kernel
theorem dJ2_getChar_3b067_33 : decode cJ2_getChar_3b067 33 = .ok (.iload_n 1, 1) := by decide +kernel
theorem dJ2_getChar_3b067_34 : decode cJ2_getChar_3b067 34 = .ok (.iinc 1 1, 3) := by decide +kernel
theorem dJ2_getChar_3b067_37 : decode cJ2_getChar_3b067 37 = .ok (.baload, 1) := by decide +kernel
theorem dJ2_getChar_3b067_38 : decode cJ2_getChar_3b067 38 = .ok (.sipush 255, 3) := by decide +kernel
theorem dJ2_getChar_3b067_41 : decode cJ2_getChar_3b067 41 = .ok (.iand, 1) := by decide +kernel
theorem dJ2_getChar_3b067_42 : decode cJ2_getChar_3b067 42 = .ok (.getstatic 59, 3) := by decide +kernel
theorem dJ2_getChar_3b067_45 : decode cJ2_getChar_3b067 45 = .ok (.ishl, 1) := by decide +kernel
theorem dJ2_getChar_3b067_46 : decode cJ2_getChar_3b067 46 = .ok (.aload_n 0, 1) := by decide +kernel
theorem dJ2_getChar_3b067_47 : decode cJ2_getChar_3b067 47 = .ok (.iload_n 1, 1) := by decide +kernel
theorem dJ2_getChar_3b067_48 : decode cJ2_getChar_3b067 48 = .ok (.baload, 1) := by decide +kernel
theorem dJ2_getChar_3b067_49 : decode cJ2_getChar_3b067 49 = .ok (.sipush 255, 3) := by decide +kernel
theorem dJ2_getChar_3b067_52 : decode cJ2_getChar_3b067 52 = .ok (.iand, 1) := by decide +kernel
theorem dJ2_getChar_3b067_53 : decode cJ2_getChar_3b067 53 = .ok (.getstatic 63, 3) := by decide +kernel
theorem dJ2_getChar_3b067_56 : decode cJ2_getChar_3b067 56 = .ok (.ishl, 1) := by decide +kernel
theorem dJ2_getChar_3b067_57 : decode cJ2_getChar_3b067 57 = .ok (.ior, 1) := by decide +kernel
theorem dJ2_getChar_3b067_58 : decode cJ2_getChar_3b067 58 = .ok (.i2c, 1) := by decide +kernel
theorem dJ2_getChar_3b067_59 : decode cJ2_getChar_3b067 59 = .ok (.ireturn, 1) := by decide +kernel
theorem dJ2_length_9d52b_0 : decode cJ2_length_9d52b 0 = .ok (.aload_n 0, 1) := by decide +kernel
theorem dJ2_length_9d52b_1 : decode cJ2_length_9d52b 1 = .ok (.arraylength, 1) := by decide +kernel
theorem dJ2_length_9d52b_2 : decode cJ2_length_9d52b 2 = .ok (.iconst 1, 1) := by decide +kernel
theorem dJ2_length_9d52b_3 : decode cJ2_length_9d52b 3 = .ok (.ishr, 1) := by decide +kernel
theorem dJ2_length_9d52b_4 : decode cJ2_length_9d52b 4 = .ok (.ireturn, 1) := by decide +kernel
theorem dJ2_charAt_3b067_0 : decode cJ2_charAt_3b067 0 = .ok (.iload_n 1, 1) := by decide +kernel
theorem dJ2_charAt_3b067_1 : decode cJ2_charAt_3b067 1 = .ok (.aload_n 0, 1) := by decide +kernel
theorem dJ2_charAt_3b067_2 : decode cJ2_charAt_3b067 2 = .ok (.invokestatic 67, 3) := by decide +kernel
theorem dJ2_charAt_3b067_5 : decode cJ2_charAt_3b067 5 = .ok (.aload_n 0, 1) := by decide +kernel
theorem dJ2_charAt_3b067_6 : decode cJ2_charAt_3b067 6 = .ok (.iload_n 1, 1) := by decide +kernel
theorem dJ2_charAt_3b067_7 : decode cJ2_charAt_3b067 7 = .ok (.invokestatic 71, 3) := by decide +kernel
theorem dJ2_charAt_3b067_10 : decode cJ2_charAt_3b067 10 = .ok (.ireturn, 1) := by decide +kernel
theorem dJ2_checkIndex_2214a_0 : decode cJ2_checkIndex_2214a 0 = .ok (.iload_n 0, 1) := by decide +kernel
theorem dJ2_checkIndex_2214a_1 : decode cJ2_checkIndex_2214a 1 = .ok (.aload_n 1, 1) := by decide +kernel
theorem dJ2_checkIndex_2214a_2 : decode cJ2_checkIndex_2214a 2 = .ok (.invokestatic 48, 3) := by decide +kernel
theorem dJ2_checkIndex_2214a_5 : decode cJ2_checkIndex_2214a 5 = .ok (.invokestatic 414, 3) := by decide +kernel
theorem dJ2_checkIndex_2214a_8 : decode cJ2_checkIndex_2214a 8 = .ok (.return_, 1) := by decide +kernel
theorem dJ7_fill_53178_0 : decode cJ7_fill_53178 0 = .ok (.iconst 0, 1) := by decide +kernel
theorem dJ7_fill_53178_1 : decode cJ7_fill_53178 1 = .ok (.istore_n 2, 1) := by decide +kernel
theorem dJ7_fill_53178_2 : decode cJ7_fill_53178 2 = .ok (.aload_n 0, 1) := by decide +kernel
theorem dJ7_fill_53178_3 : decode cJ7_fill_53178 3 = .ok (.arraylength, 1) := by decide +kernel
theorem dJ7_fill_53178_4 : decode cJ7_fill_53178 4 = .ok (.istore_n 3, 1) := by decide +kernel
theorem dJ7_fill_53178_5 : decode cJ7_fill_53178 5 = .ok (.iload_n 2, 1) := by decide +kernel
theorem dJ7_fill_53178_6 : decode cJ7_fill_53178 6 = .ok (.iload_n 3, 1) := by decide +kernel
theorem dJ7_fill_53178_7 : decode cJ7_fill_53178 7 = .ok (.if_icmp .ge 13, 3) := by decide +kernel
theorem dJ7_fill_53178_10 : decode cJ7_fill_53178 10 = .ok (.aload_n 0, 1) := by decide +kernel
theorem dJ7_fill_53178_11 : decode cJ7_fill_53178 11 = .ok (.iload_n 2, 1) := by decide +kernel
theorem dJ7_fill_53178_12 : decode cJ7_fill_53178 12 = .ok (.iload_n 1, 1) := by decide +kernel
theorem dJ7_fill_53178_13 : decode cJ7_fill_53178 13 = .ok (.iastore, 1) := by decide +kernel
theorem dJ7_fill_53178_14 : decode cJ7_fill_53178 14 = .ok (.iinc 2 1, 3) := by decide +kernel
theorem dJ7_fill_53178_17 : decode cJ7_fill_53178 17 = .ok (.goto (-12), 3) := by decide +kernel
theorem dJ7_fill_53178_20 : decode cJ7_fill_53178 20 = .ok (.return_, 1) := by decide +kernel
theorem dJ3_checkIndex_8e157_0 : decode cJ3_checkIndex_8e157 0 = .ok (.iload_n 0, 1) := by decide +kernel
theorem dJ3_checkIndex_8e157_1 : decode cJ3_checkIndex_8e157 1 = .ok (.ifCond .lt 8, 3) := by decide +kernel
theorem dJ3_checkIndex_8e157_4 : decode cJ3_checkIndex_8e157 4 = .ok (.iload_n 0, 1) := by decide +kernel
theorem dJ3_checkIndex_8e157_5 : decode cJ3_checkIndex_8e157 5 = .ok (.iload_n 1, 1) := by decide +kernel
theorem dJ3_checkIndex_8e157_6 : decode cJ3_checkIndex_8e157 6 = .ok (.if_icmp .lt 10, 3) := by decide +kernel
theorem dJ3_checkIndex_8e157_9 : decode cJ3_checkIndex_8e157 9 = .ok (.aload_n 2, 1) := by decide +kernel
theorem dJ3_checkIndex_8e157_10 : decode cJ3_checkIndex_8e157 10 = .ok (.iload_n 0, 1) := by decide +kernel
theorem dJ3_checkIndex_8e157_11 : decode cJ3_checkIndex_8e157 11 = .ok (.iload_n 1, 1) := by decide +kernel
theorem dJ3_checkIndex_8e157_12 : decode cJ3_checkIndex_8e157 12 = .ok (.invokestatic 95, 3) := by decide +kernel
theorem dJ3_checkIndex_8e157_15 : decode cJ3_checkIndex_8e157 15 = .ok (.athrow, 1) := by decide +kernel
theorem dJ3_checkIndex_8e157_16 : decode cJ3_checkIndex_8e157 16 = .ok (.iload_n 0, 1) := by decide +kernel
theorem dJ3_checkIndex_8e157_17 : decode cJ3_checkIndex_8e157 17 = .ok (.ireturn, 1) := by decide +kernel
theorem dL_at_0 : decode cL_at 0 = .ok (.aload 4, 2) := by decide +kernel
theorem dL_at_2 : decode cL_at 2 = .ok (.iconst 0, 1) := by decide +kernel
theorem dL_at_3 : decode cL_at 3 = .ok (.aload_n 0, 1) := by decide +kernel
theorem dL_at_4 : decode cL_at 4 = .ok (.iload_n 1, 1) := by decide +kernel
theorem dL_at_5 : decode cL_at 5 = .ok (.iload_n 2, 1) := by decide +kernel
theorem dL_at_6 : decode cL_at 6 = .ok (.iload_n 3, 1) := by decide +kernel
theorem dL_at_7 : decode cL_at 7 = .ok (.invokevirtual 7, 3) := by decide +kernel
theorem dL_at_10 : decode cL_at 10 = .ok (.i2l, 1) := by decide +kernel
theorem dL_at_11 : decode cL_at 11 = .ok (.lastore, 1) := by decide +kernel
theorem dL_at_12 : decode cL_at 12 = .ok (.goto 7, 3) := by decide +kernel
theorem dL_at_15 : decode cL_at 15 = .ok (.astore 5, 2) := by decide +kernel
theorem dL_at_17 : decode cL_at 17 = .ok (.iconst 1, 1) := by decide +kernel
theorem dL_at_18 : decode cL_at 18 = .ok (.ireturn, 1) := by decide +kernel
theorem dL_at_19 : decode cL_at 19 = .ok (.iconst 0, 1) := by decide +kernel
theorem dL_at_20 : decode cL_at 20 = .ok (.ireturn, 1) := by decide +kernel
