theorem dX1_init_0 : decode cX1_init 0 = .ok (.aload_n 0, 1) := by decide +kernel
theorem dX1_init_1 : decode cX1_init 1 = .ok (.invokespecial 3, 3) := by decide +kernel
theorem dX1_init_4 : decode cX1_init 4 = .ok (.aload_n 0, 1) := by decide +kernel
theorem dX1_init_5 : decode cX1_init 5 = .ok (.iconst 5, 1) := by decide +kernel
theorem dX1_init_6 : decode cX1_init 6 = .ok (.newarray .int, 2) := by decide +kernel
theorem dX1_init_8 : decode cX1_init 8 = .ok (.putfield 9, 3) := by decide +kernel
theorem dX1_init_11 : decode cX1_init 11 = .ok (.aload_n 0, 1) := by decide +kernel
theorem dX1_init_12 : decode cX1_init 12 = .ok (.sipush 201, 3) := by decide +kernel
theorem dX1_init_15 : decode cX1_init 15 = .ok (.newarray .int, 2) := by decide +kernel
theorem dX1_init_17 : decode cX1_init 17 = .ok (.putfield 15, 3) := by decide +kernel
theorem dX1_init_20 : decode cX1_init 20 = .ok (.aload_n 0, 1) := by decide +kernel
theorem dX1_init_21 : decode cX1_init 21 = .ok (.sipush 201, 3) := by decide +kernel
theorem dX1_init_24 : decode cX1_init 24 = .ok (.newarray .int, 2) := by decide +kernel
theorem dX1_init_26 : decode cX1_init 26 = .ok (.putfield 18, 3) := by decide +kernel
theorem dX1_init_29 : decode cX1_init 29 = .ok (.aload_n 0, 1) := by decide +kernel
theorem dX1_init_30 : decode cX1_init 30 = .ok (.sipush 201, 3) := by decide +kernel
theorem dX1_init_33 : decode cX1_init 33 = .ok (.newarray .int, 2) := by decide +kernel
theorem dX1_init_35 : decode cX1_init 35 = .ok (.putfield 21, 3) := by decide +kernel
theorem dX1_init_38 : decode cX1_init 38 = .ok (.return_, 1) := by decide +kernel
theorem dX1_choose_0 : decode cX1_choose 0 = .ok (.aload_n 1, 1) := by decide +kernel
theorem dX1_choose_1 : decode cX1_choose 1 = .ok (.getfield 24, 3) := by decide +kernel
theorem dX1_choose_4 : decode cX1_choose 4 = .ok (.astore_n 3, 1) := by decide +kernel
theorem dX1_choose_5 : decode cX1_choose 5 = .ok (.aload_n 1, 1) := by decide +kernel
theorem dX1_choose_6 : decode cX1_choose 6 = .ok (.getfield 30, 3) := by decide +kernel
theorem dX1_choose_9 : decode cX1_choose 9 = .ok (.iload_n 2, 1) := by decide +kernel
theorem dX1_choose_10 : decode cX1_choose 10 = .ok (.aaload, 1) := by decide +kernel
theorem dX1_choose_11 : decode cX1_choose 11 = .ok (.getfield 34, 3) := by decide +kernel
theorem dX1_choose_14 : decode cX1_choose 14 = .ok (.astore 4, 2) := by decide +kernel
theorem dX1_choose_16 : decode cX1_choose 16 = .ok (.aload_n 0, 1) := by decide +kernel
theorem dX1_choose_17 : decode cX1_choose 17 = .ok (.aload_n 1, 1) := by decide +kernel
theorem dX1_choose_18 : decode cX1_choose 18 = .ok (.iload_n 2, 1) := by decide +kernel
theorem dX1_choose_19 : decode cX1_choose 19 = .ok (.invokevirtual 40, 3) := by decide +kernel
theorem dX1_choose_22 : decode cX1_choose 22 = .ok (.iconst 0, 1) := by decide +kernel
theorem dX1_choose_23 : decode cX1_choose 23 = .ok (.istore 5, 2) := by decide +kernel
theorem dX1_choose_25 : decode cX1_choose 25 = .ok (.aload_n 3, 1) := by decide +kernel
theorem dX1_choose_26 : decode cX1_choose 26 = .ok (.getfield 44, 3) := by decide +kernel
theorem dX1_choose_29 : decode cX1_choose 29 = .ok (.iconst 1, 1) := by decide +kernel
theorem dX1_choose_30 : decode cX1_choose 30 = .ok (.isub, 1) := by decide +kernel
theorem dX1_choose_31 : decode cX1_choose 31 = .ok (.istore 6, 2) := by decide +kernel
theorem dX1_choose_33 : decode cX1_choose 33 = .ok (.iload 6, 2) := by decide +kernel
theorem dX1_choose_35 : decode cX1_choose 35 = .ok (.ifCond .lt 77, 3) := by decide +kernel
theorem dX1_choose_38 : decode cX1_choose 38 = .ok (.aload_n 3, 1) := by decide +kernel
theorem dX1_choose_39 : decode cX1_choose 39 = .ok (.getfield 50, 3) := by decide +kernel
theorem dX1_choose_42 : decode cX1_choose 42 = .ok (.iload 6, 2) := by decide +kernel
theorem dX1_choose_44 : decode cX1_choose 44 = .ok (.iaload, 1) := by decide +kernel
theorem dX1_choose_45 : decode cX1_choose 45 = .ok (.istore 7, 2) := by decide +kernel
theorem dX1_choose_47 : decode cX1_choose 47 = .ok (.aload 4, 2) := by decide +kernel
theorem dX1_choose_49 : decode cX1_choose 49 = .ok (.iload 7, 2) := by decide +kernel
theorem dX1_choose_51 : decode cX1_choose 51 = .ok (.invokevirtual 53, 3) := by decide +kernel
theorem dX1_choose_54 : decode cX1_choose 54 = .ok (.ifCond .eq 52, 3) := by decide +kernel
theorem dX1_choose_57 : decode cX1_choose 57 = .ok (.aload_n 0, 1) := by decide +kernel
theorem dX1_choose_58 : decode cX1_choose 58 = .ok (.getfield 18, 3) := by decide +kernel
theorem dX1_choose_61 : decode cX1_choose 61 = .ok (.iload 7, 2) := by decide +kernel
theorem dX1_choose_63 : decode cX1_choose 63 = .ok (.iaload, 1) := by decide +kernel
theorem dX1_choose_64 : decode cX1_choose 64 = .ok (.ifCond .ne 29, 3) := by decide +kernel
theorem dX1_choose_67 : decode cX1_choose 67 = .ok (.aload_n 0, 1) := by decide +kernel
theorem dX1_choose_68 : decode cX1_choose 68 = .ok (.aload_n 3, 1) := by decide +kernel
theorem dX1_choose_69 : decode cX1_choose 69 = .ok (.aload 4, 2) := by decide +kernel
theorem dX1_choose_71 : decode cX1_choose 71 = .ok (.iload 7, 2) := by decide +kernel
theorem dX1_choose_73 : decode cX1_choose 73 = .ok (.invokevirtual 59, 3) := by decide +kernel
theorem dX1_choose_76 : decode cX1_choose 76 = .ok (.ifCond .eq 17, 3) := by decide +kernel
theorem dX1_choose_79 : decode cX1_choose 79 = .ok (.aload_n 0, 1) := by decide +kernel
theorem dX1_choose_80 : decode cX1_choose 80 = .ok (.getfield 21, 3) := by decide +kernel
theorem dX1_choose_83 : decode cX1_choose 83 = .ok (.iload 7, 2) := by decide +kernel
theorem dX1_choose_85 : decode cX1_choose 85 = .ok (.iconst 1, 1) := by decide +kernel
theorem dX1_choose_86 : decode cX1_choose 86 = .ok (.iastore, 1) := by decide +kernel
theorem dX1_choose_87 : decode cX1_choose 87 = .ok (.iinc 5 1, 3) := by decide +kernel
theorem dX1_choose_90 : decode cX1_choose 90 = .ok (.goto 16, 3) := by decide +kernel
theorem dX1_choose_93 : decode cX1_choose 93 = .ok (.aload_n 0, 1) := by decide +kernel
theorem dX1_choose_94 : decode cX1_choose 94 = .ok (.getfield 18, 3) := by decide +kernel
theorem dX1_choose_97 : decode cX1_choose 97 = .ok (.aload_n 3, 1) := by decide +kernel
theorem dX1_choose_98 : decode cX1_choose 98 = .ok (.getfield 63, 3) := by decide +kernel
theorem dX1_choose_101 : decode cX1_choose 101 = .ok (.iload 7, 2) := by decide +kernel
theorem dX1_choose_103 : decode cX1_choose 103 = .ok (.iaload, 1) := by decide +kernel
theorem dX1_choose_104 : decode cX1_choose 104 = .ok (.iconst 1, 1) := by decide +kernel
theorem dX1_choose_105 : decode cX1_choose 105 = .ok (.iastore, 1) := by decide +kernel
theorem dX1_choose_106 : decode cX1_choose 106 = .ok (.iinc 6 (-1), 3) := by decide +kernel
theorem dX1_choose_109 : decode cX1_choose 109 = .ok (.goto (-76), 3) := by decide +kernel
theorem dX1_choose_112 : decode cX1_choose 112 = .ok (.iload 5, 2) := by decide +kernel
theorem dX1_choose_114 : decode cX1_choose 114 = .ok (.ireturn, 1) := by decide +kernel
theorem dX1_prepare_0 : decode cX1_prepare 0 = .ok (.aload_n 1, 1) := by decide +kernel
theorem dX1_prepare_1 : decode cX1_prepare 1 = .ok (.getfield 24, 3) := by decide +kernel
theorem dX1_prepare_4 : decode cX1_prepare 4 = .ok (.astore_n 3, 1) := by decide +kernel
theorem dX1_prepare_5 : decode cX1_prepare 5 = .ok (.aload_n 0, 1) := by decide +kernel
theorem dX1_prepare_6 : decode cX1_prepare 6 = .ok (.getfield 15, 3) := by decide +kernel
theorem dX1_prepare_9 : decode cX1_prepare 9 = .ok (.iconst 0, 1) := by decide +kernel
theorem dX1_prepare_10 : decode cX1_prepare 10 = .ok (.invokestatic 66, 3) := by decide +kernel
theorem dX1_prepare_13 : decode cX1_prepare 13 = .ok (.aload_n 0, 1) := by decide +kernel
theorem dX1_prepare_14 : decode cX1_prepare 14 = .ok (.getfield 18, 3) := by decide +kernel
theorem dX1_prepare_17 : decode cX1_prepare 17 = .ok (.iconst 0, 1) := by decide +kernel
theorem dX1_prepare_18 : decode cX1_prepare 18 = .ok (.invokestatic 66, 3) := by decide +kernel
theorem dX1_prepare_21 : decode cX1_prepare 21 = .ok (.aload_n 0, 1) := by decide +kernel
theorem dX1_prepare_22 : decode cX1_prepare 22 = .ok (.getfield 21, 3) := by decide +kernel
theorem dX1_prepare_25 : decode cX1_prepare 25 = .ok (.iconst 0, 1) := by decide +kernel
theorem dX1_prepare_26 : decode cX1_prepare 26 = .ok (.invokestatic 66, 3) := by decide +kernel
theorem dX1_prepare_29 : decode cX1_prepare 29 = .ok (.iconst 0, 1) := by decide +kernel
theorem dX1_prepare_30 : decode cX1_prepare 30 = .ok (.istore 4, 2) := by decide +kernel
theorem dX1_prepare_32 : decode cX1_prepare 32 = .ok (.iload 4, 2) := by decide +kernel
theorem dX1_prepare_34 : decode cX1_prepare 34 = .ok (.aload_n 3, 1) := by decide +kernel
theorem dX1_prepare_35 : decode cX1_prepare 35 = .ok (.getfield 72, 3) := by decide +kernel
theorem dX1_prepare_38 : decode cX1_prepare 38 = .ok (.if_icmp .ge 23, 3) := by decide +kernel
theorem dX1_prepare_41 : decode cX1_prepare 41 = .ok (.aload_n 0, 1) := by decide +kernel
theorem dX1_prepare_42 : decode cX1_prepare 42 = .ok (.getfield 9, 3) := by decide +kernel
theorem dX1_prepare_45 : decode cX1_prepare 45 = .ok (.iload 4, 2) := by decide +kernel
theorem dX1_prepare_47 : decode cX1_prepare 47 = .ok (.aload_n 1, 1) := by decide +kernel
theorem dX1_prepare_48 : decode cX1_prepare 48 = .ok (.iload_n 2, 1) := by decide +kernel
theorem dX1_prepare_49 : decode cX1_prepare 49 = .ok (.iload 4, 2) := by decide +kernel
theorem dX1_prepare_51 : decode cX1_prepare 51 = .ok (.invokevirtual 74, 3) := by decide +kernel
theorem dX1_prepare_54 : decode cX1_prepare 54 = .ok (.iastore, 1) := by decide +kernel
theorem dX1_prepare_55 : decode cX1_prepare 55 = .ok (.iinc 4 1, 3) := by decide +kernel
theorem dX1_prepare_58 : decode cX1_prepare 58 = .ok (.goto (-26), 3) := by decide +kernel
theorem dX1_prepare_61 : decode cX1_prepare 61 = .ok (.iconst 0, 1) := by decide +kernel
theorem dX1_prepare_62 : decode cX1_prepare 62 = .ok (.istore 4, 2) := by decide +kernel
theorem dX1_prepare_64 : decode cX1_prepare 64 = .ok (.iload 4, 2) := by decide +kernel
theorem dX1_prepare_66 : decode cX1_prepare 66 = .ok (.aload_n 3, 1) := by decide +kernel
theorem dX1_prepare_67 : decode cX1_prepare 67 = .ok (.getfield 44, 3) := by decide +kernel
theorem dX1_prepare_70 : decode cX1_prepare 70 = .ok (.if_icmp .ge 51, 3) := by decide +kernel
theorem dX1_prepare_73 : decode cX1_prepare 73 = .ok (.aload_n 3, 1) := by decide +kernel
theorem dX1_prepare_74 : decode cX1_prepare 74 = .ok (.getfield 50, 3) := by decide +kernel
theorem dX1_prepare_77 : decode cX1_prepare 77 = .ok (.iload 4, 2) := by decide +kernel
theorem dX1_prepare_79 : decode cX1_prepare 79 = .ok (.iaload, 1) := by decide +kernel
theorem dX1_prepare_80 : decode cX1_prepare 80 = .ok (.istore 5, 2) := by decide +kernel
theorem dX1_prepare_82 : decode cX1_prepare 82 = .ok (.aload_n 3, 1) := by decide +kernel
theorem dX1_prepare_83 : decode cX1_prepare 83 = .ok (.getfield 78, 3) := by decide +kernel
theorem dX1_prepare_86 : decode cX1_prepare 86 = .ok (.iload 5, 2) := by decide +kernel
theorem dX1_prepare_88 : decode cX1_prepare 88 = .ok (.iaload, 1) := by decide +kernel
theorem dX1_prepare_89 : decode cX1_prepare 89 = .ok (.iconst 2, 1) := by decide +kernel
theorem dX1_prepare_90 : decode cX1_prepare 90 = .ok (.if_icmp .ne 25, 3) := by decide +kernel
theorem dX1_prepare_93 : decode cX1_prepare 93 = .ok (.aload_n 0, 1) := by decide +kernel
theorem dX1_prepare_94 : decode cX1_prepare 94 = .ok (.iload 5, 2) := by decide +kernel
theorem dX1_prepare_96 : decode cX1_prepare 96 = .ok (.invokevirtual 81, 3) := by decide +kernel
theorem dX1_prepare_99 : decode cX1_prepare 99 = .ok (.ifCond .eq 16, 3) := by decide +kernel
theorem dX1_prepare_102 : decode cX1_prepare 102 = .ok (.aload_n 0, 1) := by decide +kernel
theorem dX1_prepare_103 : decode cX1_prepare 103 = .ok (.getfield 15, 3) := by decide +kernel
theorem dX1_prepare_106 : decode cX1_prepare 106 = .ok (.aload_n 3, 1) := by decide +kernel
theorem dX1_prepare_107 : decode cX1_prepare 107 = .ok (.getfield 84, 3) := by decide +kernel
theorem dX1_prepare_110 : decode cX1_prepare 110 = .ok (.iload 5, 2) := by decide +kernel
theorem dX1_prepare_112 : decode cX1_prepare 112 = .ok (.iaload, 1) := by decide +kernel
theorem dX1_prepare_113 : decode cX1_prepare 113 = .ok (.iconst 1, 1) := by decide +kernel
theorem dX1_prepare_114 : decode cX1_prepare 114 = .ok (.iastore, 1) := by decide +kernel
theorem dX1_prepare_115 : decode cX1_prepare 115 = .ok (.iinc 4 1, 3) := by decide +kernel
theorem dX1_prepare_118 : decode cX1_prepare 118 = .ok (.goto (-54), 3) := by decide +kernel
theorem dX1_prepare_121 : decode cX1_prepare 121 = .ok (.return_, 1) := by decide +kernel
theorem dX1_isSeen_0 : decode cX1_isSeen 0 = .ok (.iload_n 1, 1) := by decide +kernel
theorem dX1_isSeen_1 : decode cX1_isSeen 1 = .ok (.invokestatic 87, 3) := by decide +kernel
theorem dX1_isSeen_4 : decode cX1_isSeen 4 = .ok (.aload_n 0, 1) := by decide +kernel
theorem dX1_isSeen_5 : decode cX1_isSeen 5 = .ok (.getfield 9, 3) := by decide +kernel
theorem dX1_isSeen_8 : decode cX1_isSeen 8 = .ok (.iload_n 1, 1) := by decide +kernel
theorem dX1_isSeen_9 : decode cX1_isSeen 9 = .ok (.invokestatic 91, 3) := by decide +kernel
theorem dX1_isSeen_12 : decode cX1_isSeen 12 = .ok (.iaload, 1) := by decide +kernel
theorem dX1_isSeen_13 : decode cX1_isSeen 13 = .ok (.if_icmp .gt 7, 3) := by decide +kernel
theorem dX1_isSeen_16 : decode cX1_isSeen 16 = .ok (.iconst 1, 1) := by decide +kernel
theorem dX1_isSeen_17 : decode cX1_isSeen 17 = .ok (.goto 4, 3) := by decide +kernel
theorem dX1_isSeen_20 : decode cX1_isSeen 20 = .ok (.iconst 0, 1) := by decide +kernel
theorem dX1_isSeen_21 : decode cX1_isSeen 21 = .ok (.ireturn, 1) := by decide +kernel
theorem dX1_canGo_0 : decode cX1_canGo 0 = .ok (.aload_n 1, 1) := by decide +kernel
theorem dX1_canGo_1 : decode cX1_canGo 1 = .ok (.getfield 84, 3) := by decide +kernel
theorem dX1_canGo_4 : decode cX1_canGo 4 = .ok (.iload_n 3, 1) := by decide +kernel
theorem dX1_canGo_5 : decode cX1_canGo 5 = .ok (.iaload, 1) := by decide +kernel
theorem dX1_canGo_6 : decode cX1_canGo 6 = .ok (.istore 4, 2) := by decide +kernel
theorem dX1_canGo_8 : decode cX1_canGo 8 = .ok (.aload_n 2, 1) := by decide +kernel
theorem dX1_canGo_9 : decode cX1_canGo 9 = .ok (.getfield 94, 3) := by decide +kernel
theorem dX1_canGo_12 : decode cX1_canGo 12 = .ok (.iload 4, 2) := by decide +kernel
theorem dX1_canGo_14 : decode cX1_canGo 14 = .ok (.iaload, 1) := by decide +kernel
theorem dX1_canGo_15 : decode cX1_canGo 15 = .ok (.istore 5, 2) := by decide +kernel
theorem dX1_canGo_17 : decode cX1_canGo 17 = .ok (.aload_n 0, 1) := by decide +kernel
theorem dX1_canGo_18 : decode cX1_canGo 18 = .ok (.iload_n 3, 1) := by decide +kernel
theorem dX1_canGo_19 : decode cX1_canGo 19 = .ok (.invokevirtual 81, 3) := by decide +kernel
theorem dX1_canGo_22 : decode cX1_canGo 22 = .ok (.ifCond .eq 33, 3) := by decide +kernel
theorem dX1_canGo_25 : decode cX1_canGo 25 = .ok (.aload_n 0, 1) := by decide +kernel
theorem dX1_canGo_26 : decode cX1_canGo 26 = .ok (.getfield 15, 3) := by decide +kernel
theorem dX1_canGo_29 : decode cX1_canGo 29 = .ok (.iload 4, 2) := by decide +kernel
theorem dX1_canGo_31 : decode cX1_canGo 31 = .ok (.iaload, 1) := by decide +kernel
theorem dX1_canGo_32 : decode cX1_canGo 32 = .ok (.iconst 1, 1) := by decide +kernel
theorem dX1_canGo_33 : decode cX1_canGo 33 = .ok (.if_icmp .eq 18, 3) := by decide +kernel
theorem dX1_canGo_36 : decode cX1_canGo 36 = .ok (.iload 5, 2) := by decide +kernel
theorem dX1_canGo_38 : decode cX1_canGo 38 = .ok (.iload_n 3, 1) := by decide +kernel
theorem dX1_canGo_39 : decode cX1_canGo 39 = .ok (.if_icmp .eq 16, 3) := by decide +kernel
theorem dX1_canGo_42 : decode cX1_canGo 42 = .ok (.aload_n 0, 1) := by decide +kernel
theorem dX1_canGo_43 : decode cX1_canGo 43 = .ok (.iload 5, 2) := by decide +kernel
theorem dX1_canGo_45 : decode cX1_canGo 45 = .ok (.invokevirtual 81, 3) := by decide +kernel
theorem dX1_canGo_48 : decode cX1_canGo 48 = .ok (.ifCond .eq 7, 3) := by decide +kernel
theorem dX1_canGo_51 : decode cX1_canGo 51 = .ok (.iconst 1, 1) := by decide +kernel
theorem dX1_canGo_52 : decode cX1_canGo 52 = .ok (.goto 4, 3) := by decide +kernel
theorem dX1_canGo_55 : decode cX1_canGo 55 = .ok (.iconst 0, 1) := by decide +kernel
theorem dX1_canGo_56 : decode cX1_canGo 56 = .ok (.ireturn, 1) := by decide +kernel
theorem dX3_init_0 : decode cX3_init 0 = .ok (.aload_n 0, 1) := by decide +kernel
theorem dX3_init_1 : decode cX3_init 1 = .ok (.invokespecial 3, 3) := by decide +kernel
theorem dX3_init_4 : decode cX3_init 4 = .ok (.aload_n 0, 1) := by decide +kernel
theorem dX3_init_5 : decode cX3_init 5 = .ok (.new 9, 3) := by decide +kernel
theorem dX3_init_8 : decode cX3_init 8 = .ok (.dup, 1) := by decide +kernel
theorem dX3_init_9 : decode cX3_init 9 = .ok (.invokespecial 11, 3) := by decide +kernel
theorem dX3_init_12 : decode cX3_init 12 = .ok (.putfield 12, 3) := by decide +kernel
theorem dX3_init_15 : decode cX3_init 15 = .ok (.aload_n 0, 1) := by decide +kernel
theorem dX3_init_16 : decode cX3_init 16 = .ok (.iconst 5, 1) := by decide +kernel
theorem dX3_init_17 : decode cX3_init 17 = .ok (.anewarray 18, 3) := by decide +kernel
theorem dX3_init_20 : decode cX3_init 20 = .ok (.putfield 20, 3) := by decide +kernel
theorem dX3_init_23 : decode cX3_init 23 = .ok (.iconst 0, 1) := by decide +kernel
theorem dX3_init_24 : decode cX3_init 24 = .ok (.istore_n 1, 1) := by decide +kernel
theorem dX3_init_25 : decode cX3_init 25 = .ok (.iload_n 1, 1) := by decide +kernel
theorem dX3_init_26 : decode cX3_init 26 = .ok (.iconst 5, 1) := by decide +kernel
theorem dX3_init_27 : decode cX3_init 27 = .ok (.if_icmp .ge 22, 3) := by decide +kernel
theorem dX3_init_30 : decode cX3_init 30 = .ok (.aload_n 0, 1) := by decide +kernel
theorem dX3_init_31 : decode cX3_init 31 = .ok (.getfield 20, 3) := by decide +kernel
theorem dX3_init_34 : decode cX3_init 34 = .ok (.iload_n 1, 1) := by decide +kernel
theorem dX3_init_35 : decode cX3_init 35 = .ok (.new 18, 3) := by decide +kernel
theorem dX3_init_38 : decode cX3_init 38 = .ok (.dup, 1) := by decide +kernel
theorem dX3_init_39 : decode cX3_init 39 = .ok (.invokespecial 24, 3) := by decide +kernel
theorem dX3_init_42 : decode cX3_init 42 = .ok (.aastore, 1) := by decide +kernel
theorem dX3_init_43 : decode cX3_init 43 = .ok (.iinc 1 1, 3) := by decide +kernel
theorem dX3_init_46 : decode cX3_init 46 = .ok (.goto (-21), 3) := by decide +kernel
theorem dX3_init_49 : decode cX3_init 49 = .ok (.return_, 1) := by decide +kernel
theorem dX3_clear_0 : decode cX3_clear 0 = .ok (.aload_n 0, 1) := by decide +kernel
theorem dX3_clear_1 : decode cX3_clear 1 = .ok (.getfield 12, 3) := by decide +kernel
theorem dX3_clear_4 : decode cX3_clear 4 = .ok (.iload_n 1, 1) := by decide +kernel
theorem dX3_clear_5 : decode cX3_clear 5 = .ok (.invokevirtual 25, 3) := by decide +kernel
theorem dX3_clear_8 : decode cX3_clear 8 = .ok (.aload_n 0, 1) := by decide +kernel
theorem dX3_clear_9 : decode cX3_clear 9 = .ok (.iconst 0, 1) := by decide +kernel
theorem dX3_clear_10 : decode cX3_clear 10 = .ok (.putfield 29, 3) := by decide +kernel
theorem dX3_clear_13 : decode cX3_clear 13 = .ok (.iconst 0, 1) := by decide +kernel
theorem dX3_clear_14 : decode cX3_clear 14 = .ok (.istore_n 2, 1) := by decide +kernel
theorem dX3_clear_15 : decode cX3_clear 15 = .ok (.iload_n 2, 1) := by decide +kernel
theorem dX3_clear_16 : decode cX3_clear 16 = .ok (.iconst 5, 1) := by decide +kernel
theorem dX3_clear_17 : decode cX3_clear 17 = .ok (.if_icmp .ge 18, 3) := by decide +kernel
theorem dX3_clear_20 : decode cX3_clear 20 = .ok (.aload_n 0, 1) := by decide +kernel
theorem dX3_clear_21 : decode cX3_clear 21 = .ok (.getfield 20, 3) := by decide +kernel
theorem dX3_clear_24 : decode cX3_clear 24 = .ok (.iload_n 2, 1) := by decide +kernel
theorem dX3_clear_25 : decode cX3_clear 25 = .ok (.aaload, 1) := by decide +kernel
theorem dX3_clear_26 : decode cX3_clear 26 = .ok (.invokevirtual 33, 3) := by decide +kernel
theorem dX3_clear_29 : decode cX3_clear 29 = .ok (.iinc 2 1, 3) := by decide +kernel
theorem dX3_clear_32 : decode cX3_clear 32 = .ok (.goto (-17), 3) := by decide +kernel
theorem dX3_clear_35 : decode cX3_clear 35 = .ok (.return_, 1) := by decide +kernel
theorem dX3_copy_0 : decode cX3_copy 0 = .ok (.aload_n 0, 1) := by decide +kernel
theorem dX3_copy_1 : decode cX3_copy 1 = .ok (.getfield 12, 3) := by decide +kernel
theorem dX3_copy_4 : decode cX3_copy 4 = .ok (.aload_n 1, 1) := by decide +kernel
theorem dX3_copy_5 : decode cX3_copy 5 = .ok (.getfield 12, 3) := by decide +kernel
theorem dX3_copy_8 : decode cX3_copy 8 = .ok (.invokevirtual 35, 3) := by decide +kernel
theorem dX3_copy_11 : decode cX3_copy 11 = .ok (.aload_n 0, 1) := by decide +kernel
theorem dX3_copy_12 : decode cX3_copy 12 = .ok (.aload_n 1, 1) := by decide +kernel
theorem dX3_copy_13 : decode cX3_copy 13 = .ok (.getfield 29, 3) := by decide +kernel
theorem dX3_copy_16 : decode cX3_copy 16 = .ok (.putfield 29, 3) := by decide +kernel
theorem dX3_copy_19 : decode cX3_copy 19 = .ok (.iconst 0, 1) := by decide +kernel
theorem dX3_copy_20 : decode cX3_copy 20 = .ok (.istore_n 2, 1) := by decide +kernel
theorem dX3_copy_21 : decode cX3_copy 21 = .ok (.iload_n 2, 1) := by decide +kernel
theorem dX3_copy_22 : decode cX3_copy 22 = .ok (.iconst 5, 1) := by decide +kernel
theorem dX3_copy_23 : decode cX3_copy 23 = .ok (.if_icmp .ge 24, 3) := by decide +kernel
theorem dX3_copy_26 : decode cX3_copy 26 = .ok (.aload_n 0, 1) := by decide +kernel
theorem dX3_copy_27 : decode cX3_copy 27 = .ok (.getfield 20, 3) := by decide +kernel
theorem dX3_copy_30 : decode cX3_copy 30 = .ok (.iload_n 2, 1) := by decide +kernel
theorem dX3_copy_31 : decode cX3_copy 31 = .ok (.aaload, 1) := by decide +kernel
theorem dX3_copy_32 : decode cX3_copy 32 = .ok (.aload_n 1, 1) := by decide +kernel
theorem dX3_copy_33 : decode cX3_copy 33 = .ok (.getfield 20, 3) := by decide +kernel
theorem dX3_copy_36 : decode cX3_copy 36 = .ok (.iload_n 2, 1) := by decide +kernel
theorem dX3_copy_37 : decode cX3_copy 37 = .ok (.aaload, 1) := by decide +kernel
theorem dX3_copy_38 : decode cX3_copy 38 = .ok (.invokevirtual 39, 3) := by decide +kernel
theorem dX3_copy_41 : decode cX3_copy 41 = .ok (.iinc 2 1, 3) := by decide +kernel
theorem dX3_copy_44 : decode cX3_copy 44 = .ok (.goto (-23), 3) := by decide +kernel
theorem dX3_copy_47 : decode cX3_copy 47 = .ok (.return_, 1) := by decide +kernel
theorem dX3_isSite_0 : decode cX3_isSite 0 = .ok (.iload_n 1, 1) := by decide +kernel
theorem dX3_isSite_1 : decode cX3_isSite 1 = .ok (.ifCond .lt 18, 3) := by decide +kernel
theorem dX3_isSite_4 : decode cX3_isSite 4 = .ok (.iload_n 1, 1) := by decide +kernel
theorem dX3_isSite_5 : decode cX3_isSite 5 = .ok (.aload_n 0, 1) := by decide +kernel
theorem dX3_isSite_6 : decode cX3_isSite 6 = .ok (.getfield 12, 3) := by decide +kernel
theorem dX3_isSite_9 : decode cX3_isSite 9 = .ok (.getfield 42, 3) := by decide +kernel
theorem dX3_isSite_12 : decode cX3_isSite 12 = .ok (.if_icmp .ge 7, 3) := by decide +kernel
theorem dX3_isSite_15 : decode cX3_isSite 15 = .ok (.iconst 1, 1) := by decide +kernel
theorem dX3_isSite_16 : decode cX3_isSite 16 = .ok (.goto 4, 3) := by decide +kernel
theorem dX3_isSite_19 : decode cX3_isSite 19 = .ok (.iconst 0, 1) := by decide +kernel
theorem dX3_isSite_20 : decode cX3_isSite 20 = .ok (.ireturn, 1) := by decide +kernel
theorem dX3_make_0 : decode cX3_make 0 = .ok (.aload_n 0, 1) := by decide +kernel
theorem dX3_make_1 : decode cX3_make 1 = .ok (.getfield 20, 3) := by decide +kernel
theorem dX3_make_4 : decode cX3_make 4 = .ok (.iload_n 1, 1) := by decide +kernel
theorem dX3_make_5 : decode cX3_make 5 = .ok (.aaload, 1) := by decide +kernel
theorem dX3_make_6 : decode cX3_make 6 = .ok (.astore 6, 2) := by decide +kernel
theorem dX3_make_8 : decode cX3_make 8 = .ok (.aload_n 0, 1) := by decide +kernel
theorem dX3_make_9 : decode cX3_make 9 = .ok (.getfield 12, 3) := by decide +kernel
theorem dX3_make_12 : decode cX3_make 12 = .ok (.iload_n 1, 1) := by decide +kernel
theorem dX3_make_13 : decode cX3_make 13 = .ok (.aload 6, 2) := by decide +kernel
theorem dX3_make_15 : decode cX3_make 15 = .ok (.getfield 44, 3) := by decide +kernel
theorem dX3_make_18 : decode cX3_make 18 = .ok (.iconst 1, 1) := by decide +kernel
theorem dX3_make_19 : decode cX3_make 19 = .ok (.iadd, 1) := by decide +kernel
theorem dX3_make_20 : decode cX3_make 20 = .ok (.aload 6, 2) := by decide +kernel
theorem dX3_make_22 : decode cX3_make 22 = .ok (.getfield 47, 3) := by decide +kernel
theorem dX3_make_25 : decode cX3_make 25 = .ok (.invokevirtual 51, 3) := by decide +kernel
theorem dX3_make_28 : decode cX3_make 28 = .ok (.istore 7, 2) := by decide +kernel
theorem dX3_make_30 : decode cX3_make 30 = .ok (.iload 7, 2) := by decide +kernel
theorem dX3_make_32 : decode cX3_make 32 = .ok (.ifCond .ne 5, 3) := by decide +kernel
theorem dX3_make_35 : decode cX3_make 35 = .ok (.iconst (-1), 1) := by decide +kernel
theorem dX3_make_36 : decode cX3_make 36 = .ok (.ireturn, 1) := by decide +kernel
theorem dX3_make_37 : decode cX3_make 37 = .ok (.aload_n 0, 1) := by decide +kernel
theorem dX3_make_38 : decode cX3_make 38 = .ok (.getfield 12, 3) := by decide +kernel
theorem dX3_make_41 : decode cX3_make 41 = .ok (.getfield 55, 3) := by decide +kernel
theorem dX3_make_44 : decode cX3_make 44 = .ok (.iload 7, 2) := by decide +kernel
theorem dX3_make_46 : decode cX3_make 46 = .ok (.iload_n 2, 1) := by decide +kernel
theorem dX3_make_47 : decode cX3_make 47 = .ok (.iastore, 1) := by decide +kernel
theorem dX3_make_48 : decode cX3_make 48 = .ok (.aload_n 0, 1) := by decide +kernel
theorem dX3_make_49 : decode cX3_make 49 = .ok (.getfield 12, 3) := by decide +kernel
theorem dX3_make_52 : decode cX3_make 52 = .ok (.getfield 58, 3) := by decide +kernel
theorem dX3_make_55 : decode cX3_make 55 = .ok (.iload 7, 2) := by decide +kernel
theorem dX3_make_57 : decode cX3_make 57 = .ok (.iload_n 2, 1) := by decide +kernel
theorem dX3_make_58 : decode cX3_make 58 = .ok (.ifCond .ne 8, 3) := by decide +kernel
theorem dX3_make_61 : decode cX3_make 61 = .ok (.iload 7, 2) := by decide +kernel
theorem dX3_make_63 : decode cX3_make 63 = .ok (.goto 4, 3) := by decide +kernel
theorem dX3_make_66 : decode cX3_make 66 = .ok (.iload_n 3, 1) := by decide +kernel
theorem dX3_make_67 : decode cX3_make 67 = .ok (.iastore, 1) := by decide +kernel
theorem dX3_make_68 : decode cX3_make 68 = .ok (.aload_n 0, 1) := by decide +kernel
theorem dX3_make_69 : decode cX3_make 69 = .ok (.getfield 12, 3) := by decide +kernel
theorem dX3_make_72 : decode cX3_make 72 = .ok (.getfield 61, 3) := by decide +kernel
theorem dX3_make_75 : decode cX3_make 75 = .ok (.iload 7, 2) := by decide +kernel
theorem dX3_make_77 : decode cX3_make 77 = .ok (.iload 4, 2) := by decide +kernel
theorem dX3_make_79 : decode cX3_make 79 = .ok (.iastore, 1) := by decide +kernel
theorem dX3_make_80 : decode cX3_make 80 = .ok (.aload_n 0, 1) := by decide +kernel
theorem dX3_make_81 : decode cX3_make 81 = .ok (.getfield 12, 3) := by decide +kernel
theorem dX3_make_84 : decode cX3_make 84 = .ok (.getfield 64, 3) := by decide +kernel
theorem dX3_make_87 : decode cX3_make 87 = .ok (.iload 7, 2) := by decide +kernel
theorem dX3_make_89 : decode cX3_make 89 = .ok (.iload 5, 2) := by decide +kernel
theorem dX3_make_91 : decode cX3_make 91 = .ok (.iastore, 1) := by decide +kernel
theorem dX3_make_92 : decode cX3_make 92 = .ok (.aload 6, 2) := by decide +kernel
theorem dX3_make_94 : decode cX3_make 94 = .ok (.aload_n 0, 1) := by decide +kernel
theorem dX3_make_95 : decode cX3_make 95 = .ok (.getfield 12, 3) := by decide +kernel
theorem dX3_make_98 : decode cX3_make 98 = .ok (.iload 7, 2) := by decide +kernel
theorem dX3_make_100 : decode cX3_make 100 = .ok (.invokevirtual 67, 3) := by decide +kernel
theorem dX3_make_103 : decode cX3_make 103 = .ok (.iconst 0, 1) := by decide +kernel
theorem dX3_make_104 : decode cX3_make 104 = .ok (.istore 8, 2) := by decide +kernel
theorem dX3_make_106 : decode cX3_make 106 = .ok (.iload 8, 2) := by decide +kernel
theorem dX3_make_108 : decode cX3_make 108 = .ok (.aload_n 0, 1) := by decide +kernel
theorem dX3_make_109 : decode cX3_make 109 = .ok (.getfield 12, 3) := by decide +kernel
theorem dX3_make_112 : decode cX3_make 112 = .ok (.getfield 42, 3) := by decide +kernel
theorem dX3_make_115 : decode cX3_make 115 = .ok (.if_icmp .ge 43, 3) := by decide +kernel
theorem dX3_make_118 : decode cX3_make 118 = .ok (.iload 8, 2) := by decide +kernel
theorem dX3_make_120 : decode cX3_make 120 = .ok (.iload_n 1, 1) := by decide +kernel
theorem dX3_make_121 : decode cX3_make 121 = .ok (.if_icmp .eq 31, 3) := by decide +kernel
theorem dX3_make_124 : decode cX3_make 124 = .ok (.aload_n 0, 1) := by decide +kernel
theorem dX3_make_125 : decode cX3_make 125 = .ok (.getfield 20, 3) := by decide +kernel
theorem dX3_make_128 : decode cX3_make 128 = .ok (.iload 8, 2) := by decide +kernel
theorem dX3_make_130 : decode cX3_make 130 = .ok (.aaload, 1) := by decide +kernel
theorem dX3_make_131 : decode cX3_make 131 = .ok (.getfield 71, 3) := by decide +kernel
theorem dX3_make_134 : decode cX3_make 134 = .ok (.iload 7, 2) := by decide +kernel
theorem dX3_make_136 : decode cX3_make 136 = .ok (.invokevirtual 75, 3) := by decide +kernel
theorem dX3_make_139 : decode cX3_make 139 = .ok (.ifCond .ne 13, 3) := by decide +kernel
theorem dX3_make_142 : decode cX3_make 142 = .ok (.aload_n 0, 1) := by decide +kernel
theorem dX3_make_143 : decode cX3_make 143 = .ok (.dup, 1) := by decide +kernel
theorem dX3_make_144 : decode cX3_make 144 = .ok (.getfield 29, 3) := by decide +kernel
theorem dX3_make_147 : decode cX3_make 147 = .ok (.iconst 1, 1) := by decide +kernel
theorem dX3_make_148 : decode cX3_make 148 = .ok (.iadd, 1) := by decide +kernel
theorem dX3_make_149 : decode cX3_make 149 = .ok (.putfield 29, 3) := by decide +kernel
theorem dX3_make_152 : decode cX3_make 152 = .ok (.iinc 8 1, 3) := by decide +kernel
theorem dX3_make_155 : decode cX3_make 155 = .ok (.goto (-49), 3) := by decide +kernel
theorem dX3_make_158 : decode cX3_make 158 = .ok (.iload 7, 2) := by decide +kernel
theorem dX3_make_160 : decode cX3_make 160 = .ok (.invokestatic 81, 3) := by decide +kernel
theorem dX3_make_163 : decode cX3_make 163 = .ok (.ireturn, 1) := by decide +kernel
theorem dX3_floorOf_0 : decode cX3_floorOf 0 = .ok (.aload_n 0, 1) := by decide +kernel
theorem dX3_floorOf_1 : decode cX3_floorOf 1 = .ok (.getfield 20, 3) := by decide +kernel
theorem dX3_floorOf_4 : decode cX3_floorOf 4 = .ok (.iload_n 1, 1) := by decide +kernel
theorem dX3_floorOf_5 : decode cX3_floorOf 5 = .ok (.aaload, 1) := by decide +kernel
theorem dX3_floorOf_6 : decode cX3_floorOf 6 = .ok (.getfield 47, 3) := by decide +kernel
theorem dX3_floorOf_9 : decode cX3_floorOf 9 = .ok (.iload_n 2, 1) := by decide +kernel
theorem dX3_floorOf_10 : decode cX3_floorOf 10 = .ok (.iaload, 1) := by decide +kernel
theorem dX3_floorOf_11 : decode cX3_floorOf 11 = .ok (.istore_n 3, 1) := by decide +kernel
theorem dX3_floorOf_12 : decode cX3_floorOf 12 = .ok (.iconst 0, 1) := by decide +kernel
theorem dX3_floorOf_13 : decode cX3_floorOf 13 = .ok (.istore 4, 2) := by decide +kernel
theorem dX3_floorOf_15 : decode cX3_floorOf 15 = .ok (.iload 4, 2) := by decide +kernel
theorem dX3_floorOf_17 : decode cX3_floorOf 17 = .ok (.aload_n 0, 1) := by decide +kernel
theorem dX3_floorOf_18 : decode cX3_floorOf 18 = .ok (.getfield 12, 3) := by decide +kernel
theorem dX3_floorOf_21 : decode cX3_floorOf 21 = .ok (.getfield 42, 3) := by decide +kernel
theorem dX3_floorOf_24 : decode cX3_floorOf 24 = .ok (.if_icmp .ge 36, 3) := by decide +kernel
theorem dX3_floorOf_27 : decode cX3_floorOf 27 = .ok (.iload 4, 2) := by decide +kernel
theorem dX3_floorOf_29 : decode cX3_floorOf 29 = .ok (.iload_n 1, 1) := by decide +kernel
theorem dX3_floorOf_30 : decode cX3_floorOf 30 = .ok (.if_icmp .eq 24, 3) := by decide +kernel
theorem dX3_floorOf_33 : decode cX3_floorOf 33 = .ok (.iload_n 3, 1) := by decide +kernel
theorem dX3_floorOf_34 : decode cX3_floorOf 34 = .ok (.aload_n 0, 1) := by decide +kernel
theorem dX3_floorOf_35 : decode cX3_floorOf 35 = .ok (.getfield 20, 3) := by decide +kernel
theorem dX3_floorOf_38 : decode cX3_floorOf 38 = .ok (.iload_n 1, 1) := by decide +kernel
theorem dX3_floorOf_39 : decode cX3_floorOf 39 = .ok (.aaload, 1) := by decide +kernel
theorem dX3_floorOf_40 : decode cX3_floorOf 40 = .ok (.getfield 85, 3) := by decide +kernel
theorem dX3_floorOf_43 : decode cX3_floorOf 43 = .ok (.iload 4, 2) := by decide +kernel
theorem dX3_floorOf_45 : decode cX3_floorOf 45 = .ok (.iconst 5, 1) := by decide +kernel
theorem dX3_floorOf_46 : decode cX3_floorOf 46 = .ok (.imul, 1) := by decide +kernel
theorem dX3_floorOf_47 : decode cX3_floorOf 47 = .ok (.iload_n 2, 1) := by decide +kernel
theorem dX3_floorOf_48 : decode cX3_floorOf 48 = .ok (.iadd, 1) := by decide +kernel
theorem dX3_floorOf_49 : decode cX3_floorOf 49 = .ok (.iaload, 1) := by decide +kernel
theorem dX3_floorOf_50 : decode cX3_floorOf 50 = .ok (.invokestatic 88, 3) := by decide +kernel
theorem dX3_floorOf_53 : decode cX3_floorOf 53 = .ok (.istore_n 3, 1) := by decide +kernel
theorem dX3_floorOf_54 : decode cX3_floorOf 54 = .ok (.iinc 4 1, 3) := by decide +kernel
theorem dX3_floorOf_57 : decode cX3_floorOf 57 = .ok (.goto (-42), 3) := by decide +kernel
theorem dX3_floorOf_60 : decode cX3_floorOf 60 = .ok (.iload_n 3, 1) := by decide +kernel
theorem dX3_floorOf_61 : decode cX3_floorOf 61 = .ok (.ireturn, 1) := by decide +kernel
theorem dX4_init_0 : decode cX4_init 0 = .ok (.aload_n 0, 1) := by decide +kernel
theorem dX4_init_1 : decode cX4_init 1 = .ok (.invokespecial 3, 3) := by decide +kernel
theorem dX4_init_4 : decode cX4_init 4 = .ok (.aload_n 0, 1) := by decide +kernel
theorem dX4_init_5 : decode cX4_init 5 = .ok (.sipush 201, 3) := by decide +kernel
theorem dX4_init_8 : decode cX4_init 8 = .ok (.newarray .int, 2) := by decide +kernel
theorem dX4_init_10 : decode cX4_init 10 = .ok (.putfield 9, 3) := by decide +kernel
theorem dX4_init_13 : decode cX4_init 13 = .ok (.aload_n 0, 1) := by decide +kernel
theorem dX4_init_14 : decode cX4_init 14 = .ok (.sipush 201, 3) := by decide +kernel
theorem dX4_init_17 : decode cX4_init 17 = .ok (.newarray .int, 2) := by decide +kernel
theorem dX4_init_19 : decode cX4_init 19 = .ok (.putfield 15, 3) := by decide +kernel
theorem dX4_init_22 : decode cX4_init 22 = .ok (.aload_n 0, 1) := by decide +kernel
theorem dX4_init_23 : decode cX4_init 23 = .ok (.sipush 201, 3) := by decide +kernel
theorem dX4_init_26 : decode cX4_init 26 = .ok (.newarray .int, 2) := by decide +kernel
theorem dX4_init_28 : decode cX4_init 28 = .ok (.putfield 18, 3) := by decide +kernel
theorem dX4_init_31 : decode cX4_init 31 = .ok (.aload_n 0, 1) := by decide +kernel
theorem dX4_init_32 : decode cX4_init 32 = .ok (.sipush 201, 3) := by decide +kernel
theorem dX4_init_35 : decode cX4_init 35 = .ok (.newarray .int, 2) := by decide +kernel
theorem dX4_init_37 : decode cX4_init 37 = .ok (.putfield 21, 3) := by decide +kernel
theorem dX4_init_40 : decode cX4_init 40 = .ok (.aload_n 0, 1) := by decide +kernel
theorem dX4_init_41 : decode cX4_init 41 = .ok (.sipush 201, 3) := by decide +kernel
theorem dX4_init_44 : decode cX4_init 44 = .ok (.newarray .int, 2) := by decide +kernel
theorem dX4_init_46 : decode cX4_init 46 = .ok (.putfield 24, 3) := by decide +kernel
theorem dX4_init_49 : decode cX4_init 49 = .ok (.return_, 1) := by decide +kernel
theorem dX4_clear_0 : decode cX4_clear 0 = .ok (.aload_n 0, 1) := by decide +kernel
theorem dX4_clear_1 : decode cX4_clear 1 = .ok (.getfield 9, 3) := by decide +kernel
theorem dX4_clear_4 : decode cX4_clear 4 = .ok (.iconst (-1), 1) := by decide +kernel
theorem dX4_clear_5 : decode cX4_clear 5 = .ok (.invokestatic 27, 3) := by decide +kernel
theorem dX4_clear_8 : decode cX4_clear 8 = .ok (.aload_n 0, 1) := by decide +kernel
theorem dX4_clear_9 : decode cX4_clear 9 = .ok (.getfield 9, 3) := by decide +kernel
theorem dX4_clear_12 : decode cX4_clear 12 = .ok (.iconst 0, 1) := by decide +kernel
theorem dX4_clear_13 : decode cX4_clear 13 = .ok (.iconst 0, 1) := by decide +kernel
theorem dX4_clear_14 : decode cX4_clear 14 = .ok (.iastore, 1) := by decide +kernel
theorem dX4_clear_15 : decode cX4_clear 15 = .ok (.aload_n 0, 1) := by decide +kernel
theorem dX4_clear_16 : decode cX4_clear 16 = .ok (.getfield 15, 3) := by decide +kernel
theorem dX4_clear_19 : decode cX4_clear 19 = .ok (.iconst 0, 1) := by decide +kernel
theorem dX4_clear_20 : decode cX4_clear 20 = .ok (.invokestatic 27, 3) := by decide +kernel
theorem dX4_clear_23 : decode cX4_clear 23 = .ok (.aload_n 0, 1) := by decide +kernel
theorem dX4_clear_24 : decode cX4_clear 24 = .ok (.getfield 18, 3) := by decide +kernel
theorem dX4_clear_27 : decode cX4_clear 27 = .ok (.iconst 0, 1) := by decide +kernel
theorem dX4_clear_28 : decode cX4_clear 28 = .ok (.invokestatic 27, 3) := by decide +kernel
theorem dX4_clear_31 : decode cX4_clear 31 = .ok (.aload_n 0, 1) := by decide +kernel
theorem dX4_clear_32 : decode cX4_clear 32 = .ok (.getfield 21, 3) := by decide +kernel
theorem dX4_clear_35 : decode cX4_clear 35 = .ok (.iconst 0, 1) := by decide +kernel
theorem dX4_clear_36 : decode cX4_clear 36 = .ok (.invokestatic 27, 3) := by decide +kernel
theorem dX4_clear_39 : decode cX4_clear 39 = .ok (.aload_n 0, 1) := by decide +kernel
theorem dX4_clear_40 : decode cX4_clear 40 = .ok (.getfield 24, 3) := by decide +kernel
theorem dX4_clear_43 : decode cX4_clear 43 = .ok (.iconst 0, 1) := by decide +kernel
theorem dX4_clear_44 : decode cX4_clear 44 = .ok (.invokestatic 27, 3) := by decide +kernel
theorem dX4_clear_47 : decode cX4_clear 47 = .ok (.return_, 1) := by decide +kernel
theorem dX4_copy_0 : decode cX4_copy 0 = .ok (.aload_n 1, 1) := by decide +kernel
theorem dX4_copy_1 : decode cX4_copy 1 = .ok (.getfield 9, 3) := by decide +kernel
theorem dX4_copy_4 : decode cX4_copy 4 = .ok (.iconst 0, 1) := by decide +kernel
theorem dX4_copy_5 : decode cX4_copy 5 = .ok (.aload_n 0, 1) := by decide +kernel
theorem dX4_copy_6 : decode cX4_copy 6 = .ok (.getfield 9, 3) := by decide +kernel
theorem dX4_copy_9 : decode cX4_copy 9 = .ok (.iconst 0, 1) := by decide +kernel
theorem dX4_copy_10 : decode cX4_copy 10 = .ok (.sipush 201, 3) := by decide +kernel
theorem dX4_copy_13 : decode cX4_copy 13 = .ok (.invokestatic 33, 3) := by decide +kernel
theorem dX4_copy_16 : decode cX4_copy 16 = .ok (.aload_n 1, 1) := by decide +kernel
theorem dX4_copy_17 : decode cX4_copy 17 = .ok (.getfield 15, 3) := by decide +kernel
theorem dX4_copy_20 : decode cX4_copy 20 = .ok (.iconst 0, 1) := by decide +kernel
theorem dX4_copy_21 : decode cX4_copy 21 = .ok (.aload_n 0, 1) := by decide +kernel
theorem dX4_copy_22 : decode cX4_copy 22 = .ok (.getfield 15, 3) := by decide +kernel
theorem dX4_copy_25 : decode cX4_copy 25 = .ok (.iconst 0, 1) := by decide +kernel
theorem dX4_copy_26 : decode cX4_copy 26 = .ok (.sipush 201, 3) := by decide +kernel
theorem dX4_copy_29 : decode cX4_copy 29 = .ok (.invokestatic 33, 3) := by decide +kernel
theorem dX4_copy_32 : decode cX4_copy 32 = .ok (.aload_n 1, 1) := by decide +kernel
theorem dX4_copy_33 : decode cX4_copy 33 = .ok (.getfield 18, 3) := by decide +kernel
theorem dX4_copy_36 : decode cX4_copy 36 = .ok (.iconst 0, 1) := by decide +kernel
theorem dX4_copy_37 : decode cX4_copy 37 = .ok (.aload_n 0, 1) := by decide +kernel
theorem dX4_copy_38 : decode cX4_copy 38 = .ok (.getfield 18, 3) := by decide +kernel
theorem dX4_copy_41 : decode cX4_copy 41 = .ok (.iconst 0, 1) := by decide +kernel
theorem dX4_copy_42 : decode cX4_copy 42 = .ok (.sipush 201, 3) := by decide +kernel
theorem dX4_copy_45 : decode cX4_copy 45 = .ok (.invokestatic 33, 3) := by decide +kernel
theorem dX4_copy_48 : decode cX4_copy 48 = .ok (.aload_n 1, 1) := by decide +kernel
theorem dX4_copy_49 : decode cX4_copy 49 = .ok (.getfield 21, 3) := by decide +kernel
theorem dX4_copy_52 : decode cX4_copy 52 = .ok (.iconst 0, 1) := by decide +kernel
theorem dX4_copy_53 : decode cX4_copy 53 = .ok (.aload_n 0, 1) := by decide +kernel
theorem dX4_copy_54 : decode cX4_copy 54 = .ok (.getfield 21, 3) := by decide +kernel
theorem dX4_copy_57 : decode cX4_copy 57 = .ok (.iconst 0, 1) := by decide +kernel
theorem dX4_copy_58 : decode cX4_copy 58 = .ok (.sipush 201, 3) := by decide +kernel
theorem dX4_copy_61 : decode cX4_copy 61 = .ok (.invokestatic 33, 3) := by decide +kernel
theorem dX4_copy_64 : decode cX4_copy 64 = .ok (.aload_n 1, 1) := by decide +kernel
theorem dX4_copy_65 : decode cX4_copy 65 = .ok (.getfield 24, 3) := by decide +kernel
theorem dX4_copy_68 : decode cX4_copy 68 = .ok (.iconst 0, 1) := by decide +kernel
theorem dX4_copy_69 : decode cX4_copy 69 = .ok (.aload_n 0, 1) := by decide +kernel
theorem dX4_copy_70 : decode cX4_copy 70 = .ok (.getfield 24, 3) := by decide +kernel
theorem dX4_copy_73 : decode cX4_copy 73 = .ok (.iconst 0, 1) := by decide +kernel
theorem dX4_copy_74 : decode cX4_copy 74 = .ok (.sipush 201, 3) := by decide +kernel
theorem dX4_copy_77 : decode cX4_copy 77 = .ok (.invokestatic 33, 3) := by decide +kernel
theorem dX4_copy_80 : decode cX4_copy 80 = .ok (.return_, 1) := by decide +kernel
theorem dX4_build_0 : decode cX4_build 0 = .ok (.aload_n 0, 1) := by decide +kernel
theorem dX4_build_1 : decode cX4_build 1 = .ok (.invokevirtual 39, 3) := by decide +kernel
theorem dX4_build_4 : decode cX4_build 4 = .ok (.iconst 0, 1) := by decide +kernel
theorem dX4_build_5 : decode cX4_build 5 = .ok (.istore 4, 2) := by decide +kernel
theorem dX4_build_7 : decode cX4_build 7 = .ok (.iload 4, 2) := by decide +kernel
theorem dX4_build_9 : decode cX4_build 9 = .ok (.aload_n 1, 1) := by decide +kernel
theorem dX4_build_10 : decode cX4_build 10 = .ok (.getfield 42, 3) := by decide +kernel
theorem dX4_build_13 : decode cX4_build 13 = .ok (.if_icmp .ge 42, 3) := by decide +kernel
theorem dX4_build_16 : decode cX4_build 16 = .ok (.aload_n 1, 1) := by decide +kernel
theorem dX4_build_17 : decode cX4_build 17 = .ok (.getfield 48, 3) := by decide +kernel
theorem dX4_build_20 : decode cX4_build 20 = .ok (.iload 4, 2) := by decide +kernel
theorem dX4_build_22 : decode cX4_build 22 = .ok (.iaload, 1) := by decide +kernel
theorem dX4_build_23 : decode cX4_build 23 = .ok (.istore 5, 2) := by decide +kernel
theorem dX4_build_25 : decode cX4_build 25 = .ok (.iload 5, 2) := by decide +kernel
theorem dX4_build_27 : decode cX4_build 27 = .ok (.invokestatic 51, 3) := by decide +kernel
theorem dX4_build_30 : decode cX4_build 30 = .ok (.aload_n 2, 1) := by decide +kernel
theorem dX4_build_31 : decode cX4_build 31 = .ok (.iload_n 3, 1) := by decide +kernel
theorem dX4_build_32 : decode cX4_build 32 = .ok (.iload 5, 2) := by decide +kernel
theorem dX4_build_34 : decode cX4_build 34 = .ok (.invokestatic 55, 3) := by decide +kernel
theorem dX4_build_37 : decode cX4_build 37 = .ok (.iadd, 1) := by decide +kernel
theorem dX4_build_38 : decode cX4_build 38 = .ok (.iaload, 1) := by decide +kernel
theorem dX4_build_39 : decode cX4_build 39 = .ok (.if_icmp .gt 10, 3) := by decide +kernel
theorem dX4_build_42 : decode cX4_build 42 = .ok (.aload_n 0, 1) := by decide +kernel
theorem dX4_build_43 : decode cX4_build 43 = .ok (.aload_n 1, 1) := by decide +kernel
theorem dX4_build_44 : decode cX4_build 44 = .ok (.iload 5, 2) := by decide +kernel
theorem dX4_build_46 : decode cX4_build 46 = .ok (.invokevirtual 58, 3) := by decide +kernel
theorem dX4_build_49 : decode cX4_build 49 = .ok (.iinc 4 1, 3) := by decide +kernel
theorem dX4_build_52 : decode cX4_build 52 = .ok (.goto (-45), 3) := by decide +kernel
theorem dX4_build_55 : decode cX4_build 55 = .ok (.return_, 1) := by decide +kernel
theorem dX4_take_0 : decode cX4_take 0 = .ok (.aload_n 1, 1) := by decide +kernel
theorem dX4_take_1 : decode cX4_take 1 = .ok (.getfield 62, 3) := by decide +kernel
theorem dX4_take_4 : decode cX4_take 4 = .ok (.iload_n 2, 1) := by decide +kernel
theorem dX4_take_5 : decode cX4_take 5 = .ok (.iaload, 1) := by decide +kernel
theorem dX4_take_6 : decode cX4_take 6 = .ok (.istore_n 3, 1) := by decide +kernel
theorem dX4_take_7 : decode cX4_take 7 = .ok (.aload_n 1, 1) := by decide +kernel
theorem dX4_take_8 : decode cX4_take 8 = .ok (.getfield 65, 3) := by decide +kernel
theorem dX4_take_11 : decode cX4_take 11 = .ok (.iload_n 2, 1) := by decide +kernel
theorem dX4_take_12 : decode cX4_take 12 = .ok (.iaload, 1) := by decide +kernel
theorem dX4_take_13 : decode cX4_take 13 = .ok (.tableswitch 106 0 2 #[27, 50, 96], 27) := by decide +kernel
theorem dX4_take_40 : decode cX4_take 40 = .ok (.aload_n 0, 1) := by decide +kernel
theorem dX4_take_41 : decode cX4_take 41 = .ok (.getfield 15, 3) := by decide +kernel
theorem dX4_take_44 : decode cX4_take 44 = .ok (.iload_n 3, 1) := by decide +kernel
theorem dX4_take_45 : decode cX4_take 45 = .ok (.iload_n 2, 1) := by decide +kernel
theorem dX4_take_46 : decode cX4_take 46 = .ok (.iastore, 1) := by decide +kernel
theorem dX4_take_47 : decode cX4_take 47 = .ok (.aload_n 0, 1) := by decide +kernel
theorem dX4_take_48 : decode cX4_take 48 = .ok (.getfield 18, 3) := by decide +kernel
theorem dX4_take_51 : decode cX4_take 51 = .ok (.iload_n 3, 1) := by decide +kernel
theorem dX4_take_52 : decode cX4_take 52 = .ok (.iload_n 2, 1) := by decide +kernel
theorem dX4_take_53 : decode cX4_take 53 = .ok (.iastore, 1) := by decide +kernel
theorem dX4_take_54 : decode cX4_take 54 = .ok (.aload_n 0, 1) := by decide +kernel
theorem dX4_take_55 : decode cX4_take 55 = .ok (.aload_n 1, 1) := by decide +kernel
theorem dX4_take_56 : decode cX4_take 56 = .ok (.iload_n 2, 1) := by decide +kernel
theorem dX4_take_57 : decode cX4_take 57 = .ok (.invokevirtual 68, 3) := by decide +kernel
theorem dX4_take_60 : decode cX4_take 60 = .ok (.goto 86, 3) := by decide +kernel
theorem dX4_take_63 : decode cX4_take 63 = .ok (.aload_n 0, 1) := by decide +kernel
theorem dX4_take_64 : decode cX4_take 64 = .ok (.getfield 24, 3) := by decide +kernel
theorem dX4_take_67 : decode cX4_take 67 = .ok (.iload_n 3, 1) := by decide +kernel
theorem dX4_take_68 : decode cX4_take 68 = .ok (.dup2, 1) := by decide +kernel
theorem dX4_take_69 : decode cX4_take 69 = .ok (.iaload, 1) := by decide +kernel
theorem dX4_take_70 : decode cX4_take 70 = .ok (.iconst 1, 1) := by decide +kernel
theorem dX4_take_71 : decode cX4_take 71 = .ok (.iadd, 1) := by decide +kernel
theorem dX4_take_72 : decode cX4_take 72 = .ok (.iastore, 1) := by decide +kernel
theorem dX4_take_73 : decode cX4_take 73 = .ok (.aload_n 1, 1) := by decide +kernel
theorem dX4_take_74 : decode cX4_take 74 = .ok (.getfield 71, 3) := by decide +kernel
theorem dX4_take_77 : decode cX4_take 77 = .ok (.iload_n 2, 1) := by decide +kernel
theorem dX4_take_78 : decode cX4_take 78 = .ok (.iaload, 1) := by decide +kernel
theorem dX4_take_79 : decode cX4_take 79 = .ok (.aload_n 1, 1) := by decide +kernel
theorem dX4_take_80 : decode cX4_take 80 = .ok (.getfield 71, 3) := by decide +kernel
theorem dX4_take_83 : decode cX4_take 83 = .ok (.aload_n 0, 1) := by decide +kernel
theorem dX4_take_84 : decode cX4_take 84 = .ok (.getfield 15, 3) := by decide +kernel
theorem dX4_take_87 : decode cX4_take 87 = .ok (.iload_n 3, 1) := by decide +kernel
theorem dX4_take_88 : decode cX4_take 88 = .ok (.iaload, 1) := by decide +kernel
theorem dX4_take_89 : decode cX4_take 89 = .ok (.iaload, 1) := by decide +kernel
theorem dX4_take_90 : decode cX4_take 90 = .ok (.if_icmp .le 10, 3) := by decide +kernel
theorem dX4_take_93 : decode cX4_take 93 = .ok (.aload_n 0, 1) := by decide +kernel
theorem dX4_take_94 : decode cX4_take 94 = .ok (.getfield 15, 3) := by decide +kernel
theorem dX4_take_97 : decode cX4_take 97 = .ok (.iload_n 3, 1) := by decide +kernel
theorem dX4_take_98 : decode cX4_take 98 = .ok (.iload_n 2, 1) := by decide +kernel
theorem dX4_take_99 : decode cX4_take 99 = .ok (.iastore, 1) := by decide +kernel
theorem dX4_take_100 : decode cX4_take 100 = .ok (.aload_n 0, 1) := by decide +kernel
theorem dX4_take_101 : decode cX4_take 101 = .ok (.aload_n 1, 1) := by decide +kernel
theorem dX4_take_102 : decode cX4_take 102 = .ok (.iload_n 2, 1) := by decide +kernel
theorem dX4_take_103 : decode cX4_take 103 = .ok (.invokevirtual 68, 3) := by decide +kernel
theorem dX4_take_106 : decode cX4_take 106 = .ok (.goto 40, 3) := by decide +kernel
theorem dX4_take_109 : decode cX4_take 109 = .ok (.aload_n 0, 1) := by decide +kernel
theorem dX4_take_110 : decode cX4_take 110 = .ok (.getfield 21, 3) := by decide +kernel
theorem dX4_take_113 : decode cX4_take 113 = .ok (.iload_n 3, 1) := by decide +kernel
theorem dX4_take_114 : decode cX4_take 114 = .ok (.iconst 1, 1) := by decide +kernel
theorem dX4_take_115 : decode cX4_take 115 = .ok (.iastore, 1) := by decide +kernel
theorem dX4_take_116 : decode cX4_take 116 = .ok (.goto 30, 3) := by decide +kernel
theorem dX4_take_119 : decode cX4_take 119 = .ok (.aload_n 1, 1) := by decide +kernel
theorem dX4_take_120 : decode cX4_take 120 = .ok (.getfield 71, 3) := by decide +kernel
theorem dX4_take_123 : decode cX4_take 123 = .ok (.iload_n 2, 1) := by decide +kernel
theorem dX4_take_124 : decode cX4_take 124 = .ok (.iaload, 1) := by decide +kernel
theorem dX4_take_125 : decode cX4_take 125 = .ok (.aload_n 1, 1) := by decide +kernel
theorem dX4_take_126 : decode cX4_take 126 = .ok (.getfield 71, 3) := by decide +kernel
theorem dX4_take_129 : decode cX4_take 129 = .ok (.aload_n 0, 1) := by decide +kernel
theorem dX4_take_130 : decode cX4_take 130 = .ok (.getfield 18, 3) := by decide +kernel
theorem dX4_take_133 : decode cX4_take 133 = .ok (.iload_n 3, 1) := by decide +kernel
theorem dX4_take_134 : decode cX4_take 134 = .ok (.iaload, 1) := by decide +kernel
theorem dX4_take_135 : decode cX4_take 135 = .ok (.iaload, 1) := by decide +kernel
theorem dX4_take_136 : decode cX4_take 136 = .ok (.if_icmp .le 10, 3) := by decide +kernel
theorem dX4_take_139 : decode cX4_take 139 = .ok (.aload_n 0, 1) := by decide +kernel
theorem dX4_take_140 : decode cX4_take 140 = .ok (.getfield 18, 3) := by decide +kernel
theorem dX4_take_143 : decode cX4_take 143 = .ok (.iload_n 3, 1) := by decide +kernel
theorem dX4_take_144 : decode cX4_take 144 = .ok (.iload_n 2, 1) := by decide +kernel
theorem dX4_take_145 : decode cX4_take 145 = .ok (.iastore, 1) := by decide +kernel
theorem dX4_take_146 : decode cX4_take 146 = .ok (.return_, 1) := by decide +kernel
theorem dX4_link_0 : decode cX4_link 0 = .ok (.aload_n 1, 1) := by decide +kernel
theorem dX4_link_1 : decode cX4_link 1 = .ok (.getfield 74, 3) := by decide +kernel
theorem dX4_link_4 : decode cX4_link 4 = .ok (.iload_n 2, 1) := by decide +kernel
theorem dX4_link_5 : decode cX4_link 5 = .ok (.iaload, 1) := by decide +kernel
theorem dX4_link_6 : decode cX4_link 6 = .ok (.istore_n 3, 1) := by decide +kernel
theorem dX4_link_7 : decode cX4_link 7 = .ok (.iconst 0, 1) := by decide +kernel
theorem dX4_link_8 : decode cX4_link 8 = .ok (.istore 4, 2) := by decide +kernel
theorem dX4_link_10 : decode cX4_link 10 = .ok (.iload 4, 2) := by decide +kernel
theorem dX4_link_12 : decode cX4_link 12 = .ok (.sipush 201, 3) := by decide +kernel
theorem dX4_link_15 : decode cX4_link 15 = .ok (.if_icmp .ge 45, 3) := by decide +kernel
theorem dX4_link_18 : decode cX4_link 18 = .ok (.aload_n 0, 1) := by decide +kernel
theorem dX4_link_19 : decode cX4_link 19 = .ok (.getfield 9, 3) := by decide +kernel
theorem dX4_link_22 : decode cX4_link 22 = .ok (.iload_n 3, 1) := by decide +kernel
theorem dX4_link_23 : decode cX4_link 23 = .ok (.iaload, 1) := by decide +kernel
theorem dX4_link_24 : decode cX4_link 24 = .ok (.ifCond .le 36, 3) := by decide +kernel
theorem dX4_link_27 : decode cX4_link 27 = .ok (.aload_n 1, 1) := by decide +kernel
theorem dX4_link_28 : decode cX4_link 28 = .ok (.getfield 71, 3) := by decide +kernel
theorem dX4_link_31 : decode cX4_link 31 = .ok (.aload_n 0, 1) := by decide +kernel
theorem dX4_link_32 : decode cX4_link 32 = .ok (.getfield 9, 3) := by decide +kernel
theorem dX4_link_35 : decode cX4_link 35 = .ok (.iload_n 3, 1) := by decide +kernel
theorem dX4_link_36 : decode cX4_link 36 = .ok (.iaload, 1) := by decide +kernel
theorem dX4_link_37 : decode cX4_link 37 = .ok (.iaload, 1) := by decide +kernel
theorem dX4_link_38 : decode cX4_link 38 = .ok (.aload_n 1, 1) := by decide +kernel
theorem dX4_link_39 : decode cX4_link 39 = .ok (.getfield 71, 3) := by decide +kernel
theorem dX4_link_42 : decode cX4_link 42 = .ok (.iload_n 2, 1) := by decide +kernel
theorem dX4_link_43 : decode cX4_link 43 = .ok (.iaload, 1) := by decide +kernel
theorem dX4_link_44 : decode cX4_link 44 = .ok (.if_icmp .le 16, 3) := by decide +kernel
theorem dX4_link_47 : decode cX4_link 47 = .ok (.aload_n 0, 1) := by decide +kernel
theorem dX4_link_48 : decode cX4_link 48 = .ok (.getfield 9, 3) := by decide +kernel
theorem dX4_link_51 : decode cX4_link 51 = .ok (.iload_n 3, 1) := by decide +kernel
theorem dX4_link_52 : decode cX4_link 52 = .ok (.iaload, 1) := by decide +kernel
theorem dX4_link_53 : decode cX4_link 53 = .ok (.istore_n 3, 1) := by decide +kernel
theorem dX4_link_54 : decode cX4_link 54 = .ok (.iinc 4 1, 3) := by decide +kernel
theorem dX4_link_57 : decode cX4_link 57 = .ok (.goto (-47), 3) := by decide +kernel
theorem dX4_link_60 : decode cX4_link 60 = .ok (.aload_n 0, 1) := by decide +kernel
theorem dX4_link_61 : decode cX4_link 61 = .ok (.getfield 9, 3) := by decide +kernel
theorem dX4_link_64 : decode cX4_link 64 = .ok (.iload_n 2, 1) := by decide +kernel
theorem dX4_link_65 : decode cX4_link 65 = .ok (.aload_n 0, 1) := by decide +kernel
theorem dX4_link_66 : decode cX4_link 66 = .ok (.getfield 9, 3) := by decide +kernel
theorem dX4_link_69 : decode cX4_link 69 = .ok (.iload_n 3, 1) := by decide +kernel
theorem dX4_link_70 : decode cX4_link 70 = .ok (.iaload, 1) := by decide +kernel
theorem dX4_link_71 : decode cX4_link 71 = .ok (.iastore, 1) := by decide +kernel
theorem dX4_link_72 : decode cX4_link 72 = .ok (.aload_n 0, 1) := by decide +kernel
theorem dX4_link_73 : decode cX4_link 73 = .ok (.getfield 9, 3) := by decide +kernel
theorem dX4_link_76 : decode cX4_link 76 = .ok (.iload_n 3, 1) := by decide +kernel
theorem dX4_link_77 : decode cX4_link 77 = .ok (.iload_n 2, 1) := by decide +kernel
theorem dX4_link_78 : decode cX4_link 78 = .ok (.iastore, 1) := by decide +kernel
theorem dX4_link_79 : decode cX4_link 79 = .ok (.return_, 1) := by decide +kernel
theorem dX4_isThere_0 : decode cX4_isThere 0 = .ok (.aload_n 0, 1) := by decide +kernel
theorem dX4_isThere_1 : decode cX4_isThere 1 = .ok (.getfield 9, 3) := by decide +kernel
theorem dX4_isThere_4 : decode cX4_isThere 4 = .ok (.iload_n 1, 1) := by decide +kernel
theorem dX4_isThere_5 : decode cX4_isThere 5 = .ok (.iaload, 1) := by decide +kernel
theorem dX4_isThere_6 : decode cX4_isThere 6 = .ok (.iconst (-1), 1) := by decide +kernel
theorem dX4_isThere_7 : decode cX4_isThere 7 = .ok (.if_icmp .eq 7, 3) := by decide +kernel
theorem dX4_isThere_10 : decode cX4_isThere 10 = .ok (.iconst 1, 1) := by decide +kernel
theorem dX4_isThere_11 : decode cX4_isThere 11 = .ok (.goto 4, 3) := by decide +kernel
theorem dX4_isThere_14 : decode cX4_isThere 14 = .ok (.iconst 0, 1) := by decide +kernel
theorem dX4_isThere_15 : decode cX4_isThere 15 = .ok (.ireturn, 1) := by decide +kernel
theorem dX4_shows_0 : decode cX4_shows 0 = .ok (.aload_n 0, 1) := by decide +kernel
theorem dX4_shows_1 : decode cX4_shows 1 = .ok (.getfield 15, 3) := by decide +kernel
theorem dX4_shows_4 : decode cX4_shows 4 = .ok (.iload_n 1, 1) := by decide +kernel
theorem dX4_shows_5 : decode cX4_shows 5 = .ok (.iaload, 1) := by decide +kernel
theorem dX4_shows_6 : decode cX4_shows 6 = .ok (.ifCond .eq 16, 3) := by decide +kernel
theorem dX4_shows_9 : decode cX4_shows 9 = .ok (.aload_n 0, 1) := by decide +kernel
theorem dX4_shows_10 : decode cX4_shows 10 = .ok (.getfield 21, 3) := by decide +kernel
theorem dX4_shows_13 : decode cX4_shows 13 = .ok (.iload_n 1, 1) := by decide +kernel
theorem dX4_shows_14 : decode cX4_shows 14 = .ok (.iaload, 1) := by decide +kernel
theorem dX4_shows_15 : decode cX4_shows 15 = .ok (.ifCond .ne 7, 3) := by decide +kernel
theorem dX4_shows_18 : decode cX4_shows 18 = .ok (.iconst 1, 1) := by decide +kernel
theorem dX4_shows_19 : decode cX4_shows 19 = .ok (.goto 4, 3) := by decide +kernel
theorem dX4_shows_22 : decode cX4_shows 22 = .ok (.iconst 0, 1) := by decide +kernel
theorem dX4_shows_23 : decode cX4_shows 23 = .ok (.ireturn, 1) := by decide +kernel
theorem dX4_letterOf_0 : decode cX4_letterOf 0 = .ok (.aload_n 1, 1) := by decide +kernel
theorem dX4_letterOf_1 : decode cX4_letterOf 1 = .ok (.getfield 77, 3) := by decide +kernel
theorem dX4_letterOf_4 : decode cX4_letterOf 4 = .ok (.aload_n 0, 1) := by decide +kernel
theorem dX4_letterOf_5 : decode cX4_letterOf 5 = .ok (.getfield 18, 3) := by decide +kernel
theorem dX4_letterOf_8 : decode cX4_letterOf 8 = .ok (.iload_n 2, 1) := by decide +kernel
theorem dX4_letterOf_9 : decode cX4_letterOf 9 = .ok (.iaload, 1) := by decide +kernel
theorem dX4_letterOf_10 : decode cX4_letterOf 10 = .ok (.iaload, 1) := by decide +kernel
theorem dX4_letterOf_11 : decode cX4_letterOf 11 = .ok (.ireturn, 1) := by decide +kernel
theorem dX4_places_0 : decode cX4_places 0 = .ok (.aload_n 1, 1) := by decide +kernel
theorem dX4_places_1 : decode cX4_places 1 = .ok (.iconst 0, 1) := by decide +kernel
theorem dX4_places_2 : decode cX4_places 2 = .ok (.iconst 0, 1) := by decide +kernel
theorem dX4_places_3 : decode cX4_places 3 = .ok (.iastore, 1) := by decide +kernel
theorem dX4_places_4 : decode cX4_places 4 = .ok (.iconst 1, 1) := by decide +kernel
theorem dX4_places_5 : decode cX4_places 5 = .ok (.istore_n 2, 1) := by decide +kernel
theorem dX4_places_6 : decode cX4_places 6 = .ok (.aload_n 0, 1) := by decide +kernel
theorem dX4_places_7 : decode cX4_places 7 = .ok (.getfield 9, 3) := by decide +kernel
theorem dX4_places_10 : decode cX4_places 10 = .ok (.iconst 0, 1) := by decide +kernel
theorem dX4_places_11 : decode cX4_places 11 = .ok (.iaload, 1) := by decide +kernel
theorem dX4_places_12 : decode cX4_places 12 = .ok (.istore_n 3, 1) := by decide +kernel
theorem dX4_places_13 : decode cX4_places 13 = .ok (.iload_n 3, 1) := by decide +kernel
theorem dX4_places_14 : decode cX4_places 14 = .ok (.ifCond .le 27, 3) := by decide +kernel
theorem dX4_places_17 : decode cX4_places 17 = .ok (.iload_n 2, 1) := by decide +kernel
theorem dX4_places_18 : decode cX4_places 18 = .ok (.sipush 201, 3) := by decide +kernel
theorem dX4_places_21 : decode cX4_places 21 = .ok (.if_icmp .ge 20, 3) := by decide +kernel
theorem dX4_places_24 : decode cX4_places 24 = .ok (.aload_n 1, 1) := by decide +kernel
theorem dX4_places_25 : decode cX4_places 25 = .ok (.iload_n 2, 1) := by decide +kernel
theorem dX4_places_26 : decode cX4_places 26 = .ok (.iload_n 3, 1) := by decide +kernel
theorem dX4_places_27 : decode cX4_places 27 = .ok (.iastore, 1) := by decide +kernel
theorem dX4_places_28 : decode cX4_places 28 = .ok (.iinc 2 1, 3) := by decide +kernel
theorem dX4_places_31 : decode cX4_places 31 = .ok (.aload_n 0, 1) := by decide +kernel
theorem dX4_places_32 : decode cX4_places 32 = .ok (.getfield 9, 3) := by decide +kernel
theorem dX4_places_35 : decode cX4_places 35 = .ok (.iload_n 3, 1) := by decide +kernel
theorem dX4_places_36 : decode cX4_places 36 = .ok (.iaload, 1) := by decide +kernel
theorem dX4_places_37 : decode cX4_places 37 = .ok (.istore_n 3, 1) := by decide +kernel
theorem dX4_places_38 : decode cX4_places 38 = .ok (.goto (-25), 3) := by decide +kernel
theorem dX4_places_41 : decode cX4_places 41 = .ok (.iload_n 2, 1) := by decide +kernel
theorem dX4_places_42 : decode cX4_places 42 = .ok (.ireturn, 1) := by decide +kernel
theorem dX4_elements_0 : decode cX4_elements 0 = .ok (.iconst 0, 1) := by decide +kernel
theorem dX4_elements_1 : decode cX4_elements 1 = .ok (.istore_n 3, 1) := by decide +kernel
theorem dX4_elements_2 : decode cX4_elements 2 = .ok (.aload_n 0, 1) := by decide +kernel
theorem dX4_elements_3 : decode cX4_elements 3 = .ok (.getfield 9, 3) := by decide +kernel
theorem dX4_elements_6 : decode cX4_elements 6 = .ok (.iconst 0, 1) := by decide +kernel
theorem dX4_elements_7 : decode cX4_elements 7 = .ok (.iaload, 1) := by decide +kernel
theorem dX4_elements_8 : decode cX4_elements 8 = .ok (.istore 4, 2) := by decide +kernel
theorem dX4_elements_10 : decode cX4_elements 10 = .ok (.iconst 1, 1) := by decide +kernel
theorem dX4_elements_11 : decode cX4_elements 11 = .ok (.istore 5, 2) := by decide +kernel
theorem dX4_elements_13 : decode cX4_elements 13 = .ok (.iload 4, 2) := by decide +kernel
theorem dX4_elements_15 : decode cX4_elements 15 = .ok (.ifCond .le 65, 3) := by decide +kernel
theorem dX4_elements_18 : decode cX4_elements 18 = .ok (.iload 5, 2) := by decide +kernel
theorem dX4_elements_20 : decode cX4_elements 20 = .ok (.sipush 201, 3) := by decide +kernel
theorem dX4_elements_23 : decode cX4_elements 23 = .ok (.if_icmp .ge 57, 3) := by decide +kernel
theorem dX4_elements_26 : decode cX4_elements 26 = .ok (.aload_n 1, 1) := by decide +kernel
theorem dX4_elements_27 : decode cX4_elements 27 = .ok (.getfield 62, 3) := by decide +kernel
theorem dX4_elements_30 : decode cX4_elements 30 = .ok (.iload 4, 2) := by decide +kernel
theorem dX4_elements_32 : decode cX4_elements 32 = .ok (.iaload, 1) := by decide +kernel
theorem dX4_elements_33 : decode cX4_elements 33 = .ok (.istore 6, 2) := by decide +kernel
theorem dX4_elements_35 : decode cX4_elements 35 = .ok (.aload_n 0, 1) := by decide +kernel
theorem dX4_elements_36 : decode cX4_elements 36 = .ok (.getfield 15, 3) := by decide +kernel
theorem dX4_elements_39 : decode cX4_elements 39 = .ok (.iload 6, 2) := by decide +kernel
theorem dX4_elements_41 : decode cX4_elements 41 = .ok (.iaload, 1) := by decide +kernel
theorem dX4_elements_42 : decode cX4_elements 42 = .ok (.iload 4, 2) := by decide +kernel
theorem dX4_elements_44 : decode cX4_elements 44 = .ok (.if_icmp .ne 21, 3) := by decide +kernel
theorem dX4_elements_47 : decode cX4_elements 47 = .ok (.aload_n 0, 1) := by decide +kernel
theorem dX4_elements_48 : decode cX4_elements 48 = .ok (.getfield 21, 3) := by decide +kernel
theorem dX4_elements_51 : decode cX4_elements 51 = .ok (.iload 6, 2) := by decide +kernel
theorem dX4_elements_53 : decode cX4_elements 53 = .ok (.iaload, 1) := by decide +kernel
theorem dX4_elements_54 : decode cX4_elements 54 = .ok (.ifCond .ne 11, 3) := by decide +kernel
theorem dX4_elements_57 : decode cX4_elements 57 = .ok (.aload_n 2, 1) := by decide +kernel
theorem dX4_elements_58 : decode cX4_elements 58 = .ok (.iload_n 3, 1) := by decide +kernel
theorem dX4_elements_59 : decode cX4_elements 59 = .ok (.iload 6, 2) := by decide +kernel
theorem dX4_elements_61 : decode cX4_elements 61 = .ok (.iastore, 1) := by decide +kernel
theorem dX4_elements_62 : decode cX4_elements 62 = .ok (.iinc 3 1, 3) := by decide +kernel
theorem dX4_elements_65 : decode cX4_elements 65 = .ok (.aload_n 0, 1) := by decide +kernel
theorem dX4_elements_66 : decode cX4_elements 66 = .ok (.getfield 9, 3) := by decide +kernel
theorem dX4_elements_69 : decode cX4_elements 69 = .ok (.iload 4, 2) := by decide +kernel
theorem dX4_elements_71 : decode cX4_elements 71 = .ok (.iaload, 1) := by decide +kernel
theorem dX4_elements_72 : decode cX4_elements 72 = .ok (.istore 4, 2) := by decide +kernel
theorem dX4_elements_74 : decode cX4_elements 74 = .ok (.iinc 5 1, 3) := by decide +kernel
theorem dX4_elements_77 : decode cX4_elements 77 = .ok (.goto (-64), 3) := by decide +kernel
theorem dX4_elements_80 : decode cX4_elements 80 = .ok (.iload_n 3, 1) := by decide +kernel
theorem dX4_elements_81 : decode cX4_elements 81 = .ok (.ireturn, 1) := by decide +kernel
theorem dX4_removePlaces_0 : decode cX4_removePlaces 0 = .ok (.iconst 0, 1) := by decide +kernel
theorem dX4_removePlaces_1 : decode cX4_removePlaces 1 = .ok (.istore_n 2, 1) := by decide +kernel
theorem dX4_removePlaces_2 : decode cX4_removePlaces 2 = .ok (.iconst 1, 1) := by decide +kernel
theorem dX4_removePlaces_3 : decode cX4_removePlaces 3 = .ok (.istore_n 3, 1) := by decide +kernel
theorem dX4_removePlaces_4 : decode cX4_removePlaces 4 = .ok (.aload_n 0, 1) := by decide +kernel
theorem dX4_removePlaces_5 : decode cX4_removePlaces 5 = .ok (.getfield 9, 3) := by decide +kernel
theorem dX4_removePlaces_8 : decode cX4_removePlaces 8 = .ok (.iload_n 2, 1) := by decide +kernel
theorem dX4_removePlaces_9 : decode cX4_removePlaces 9 = .ok (.iaload, 1) := by decide +kernel
theorem dX4_removePlaces_10 : decode cX4_removePlaces 10 = .ok (.ifCond .le 59, 3) := by decide +kernel
theorem dX4_removePlaces_13 : decode cX4_removePlaces 13 = .ok (.iload_n 3, 1) := by decide +kernel
theorem dX4_removePlaces_14 : decode cX4_removePlaces 14 = .ok (.sipush 201, 3) := by decide +kernel
theorem dX4_removePlaces_17 : decode cX4_removePlaces 17 = .ok (.if_icmp .ge 52, 3) := by decide +kernel
theorem dX4_removePlaces_20 : decode cX4_removePlaces 20 = .ok (.aload_n 0, 1) := by decide +kernel
theorem dX4_removePlaces_21 : decode cX4_removePlaces 21 = .ok (.getfield 9, 3) := by decide +kernel
theorem dX4_removePlaces_24 : decode cX4_removePlaces 24 = .ok (.iload_n 2, 1) := by decide +kernel
theorem dX4_removePlaces_25 : decode cX4_removePlaces 25 = .ok (.iaload, 1) := by decide +kernel
theorem dX4_removePlaces_26 : decode cX4_removePlaces 26 = .ok (.istore 4, 2) := by decide +kernel
theorem dX4_removePlaces_28 : decode cX4_removePlaces 28 = .ok (.aload_n 1, 1) := by decide +kernel
theorem dX4_removePlaces_29 : decode cX4_removePlaces 29 = .ok (.iload 4, 2) := by decide +kernel
theorem dX4_removePlaces_31 : decode cX4_removePlaces 31 = .ok (.iaload, 1) := by decide +kernel
theorem dX4_removePlaces_32 : decode cX4_removePlaces 32 = .ok (.iconst 1, 1) := by decide +kernel
theorem dX4_removePlaces_33 : decode cX4_removePlaces 33 = .ok (.if_icmp .ne 27, 3) := by decide +kernel
theorem dX4_removePlaces_36 : decode cX4_removePlaces 36 = .ok (.aload_n 0, 1) := by decide +kernel
theorem dX4_removePlaces_37 : decode cX4_removePlaces 37 = .ok (.getfield 9, 3) := by decide +kernel
theorem dX4_removePlaces_40 : decode cX4_removePlaces 40 = .ok (.iload_n 2, 1) := by decide +kernel
theorem dX4_removePlaces_41 : decode cX4_removePlaces 41 = .ok (.aload_n 0, 1) := by decide +kernel
theorem dX4_removePlaces_42 : decode cX4_removePlaces 42 = .ok (.getfield 9, 3) := by decide +kernel
theorem dX4_removePlaces_45 : decode cX4_removePlaces 45 = .ok (.iload 4, 2) := by decide +kernel
theorem dX4_removePlaces_47 : decode cX4_removePlaces 47 = .ok (.iaload, 1) := by decide +kernel
theorem dX4_removePlaces_48 : decode cX4_removePlaces 48 = .ok (.iastore, 1) := by decide +kernel
theorem dX4_removePlaces_49 : decode cX4_removePlaces 49 = .ok (.aload_n 0, 1) := by decide +kernel
theorem dX4_removePlaces_50 : decode cX4_removePlaces 50 = .ok (.getfield 9, 3) := by decide +kernel
theorem dX4_removePlaces_53 : decode cX4_removePlaces 53 = .ok (.iload 4, 2) := by decide +kernel
theorem dX4_removePlaces_55 : decode cX4_removePlaces 55 = .ok (.iconst (-1), 1) := by decide +kernel
theorem dX4_removePlaces_56 : decode cX4_removePlaces 56 = .ok (.iastore, 1) := by decide +kernel
theorem dX4_removePlaces_57 : decode cX4_removePlaces 57 = .ok (.goto 6, 3) := by decide +kernel
theorem dX4_removePlaces_60 : decode cX4_removePlaces 60 = .ok (.iload 4, 2) := by decide +kernel
theorem dX4_removePlaces_62 : decode cX4_removePlaces 62 = .ok (.istore_n 2, 1) := by decide +kernel
theorem dX4_removePlaces_63 : decode cX4_removePlaces 63 = .ok (.iinc 3 1, 3) := by decide +kernel
theorem dX4_removePlaces_66 : decode cX4_removePlaces 66 = .ok (.goto (-62), 3) := by decide +kernel
theorem dX4_removePlaces_69 : decode cX4_removePlaces 69 = .ok (.return_, 1) := by decide +kernel
theorem dX5_init_0 : decode cX5_init 0 = .ok (.aload_n 0, 1) := by decide +kernel
theorem dX5_init_1 : decode cX5_init 1 = .ok (.invokespecial 3, 3) := by decide +kernel
theorem dX5_init_4 : decode cX5_init 4 = .ok (.aload_n 0, 1) := by decide +kernel
theorem dX5_init_5 : decode cX5_init 5 = .ok (.iconst 5, 1) := by decide +kernel
theorem dX5_init_6 : decode cX5_init 6 = .ok (.newarray .int, 2) := by decide +kernel
theorem dX5_init_8 : decode cX5_init 8 = .ok (.putfield 9, 3) := by decide +kernel
theorem dX5_init_11 : decode cX5_init 11 = .ok (.aload_n 0, 1) := by decide +kernel
theorem dX5_init_12 : decode cX5_init 12 = .ok (.sipush 201, 3) := by decide +kernel
theorem dX5_init_15 : decode cX5_init 15 = .ok (.newarray .int, 2) := by decide +kernel
theorem dX5_init_17 : decode cX5_init 17 = .ok (.putfield 15, 3) := by decide +kernel
theorem dX5_init_20 : decode cX5_init 20 = .ok (.aload_n 0, 1) := by decide +kernel
theorem dX5_init_21 : decode cX5_init 21 = .ok (.sipush 201, 3) := by decide +kernel
theorem dX5_init_24 : decode cX5_init 24 = .ok (.newarray .int, 2) := by decide +kernel
theorem dX5_init_26 : decode cX5_init 26 = .ok (.putfield 18, 3) := by decide +kernel
theorem dX5_init_29 : decode cX5_init 29 = .ok (.aload_n 0, 1) := by decide +kernel
theorem dX5_init_30 : decode cX5_init 30 = .ok (.sipush 201, 3) := by decide +kernel
theorem dX5_init_33 : decode cX5_init 33 = .ok (.newarray .int, 2) := by decide +kernel
theorem dX5_init_35 : decode cX5_init 35 = .ok (.putfield 21, 3) := by decide +kernel
theorem dX5_init_38 : decode cX5_init 38 = .ok (.aload_n 0, 1) := by decide +kernel
theorem dX5_init_39 : decode cX5_init 39 = .ok (.sipush 201, 3) := by decide +kernel
theorem dX5_init_42 : decode cX5_init 42 = .ok (.newarray .int, 2) := by decide +kernel
theorem dX5_init_44 : decode cX5_init 44 = .ok (.putfield 24, 3) := by decide +kernel
theorem dX5_init_47 : decode cX5_init 47 = .ok (.aload_n 0, 1) := by decide +kernel
theorem dX5_init_48 : decode cX5_init 48 = .ok (.sipush 201, 3) := by decide +kernel
theorem dX5_init_51 : decode cX5_init 51 = .ok (.newarray .int, 2) := by decide +kernel
theorem dX5_init_53 : decode cX5_init 53 = .ok (.putfield 27, 3) := by decide +kernel
theorem dX5_init_56 : decode cX5_init 56 = .ok (.aload_n 0, 1) := by decide +kernel
theorem dX5_init_57 : decode cX5_init 57 = .ok (.sipush 1005, 3) := by decide +kernel
theorem dX5_init_60 : decode cX5_init 60 = .ok (.newarray .int, 2) := by decide +kernel
theorem dX5_init_62 : decode cX5_init 62 = .ok (.putfield 30, 3) := by decide +kernel
theorem dX5_init_65 : decode cX5_init 65 = .ok (.aload_n 0, 1) := by decide +kernel
theorem dX5_init_66 : decode cX5_init 66 = .ok (.sipush 201, 3) := by decide +kernel
theorem dX5_init_69 : decode cX5_init 69 = .ok (.newarray .int, 2) := by decide +kernel
theorem dX5_init_71 : decode cX5_init 71 = .ok (.putfield 33, 3) := by decide +kernel
theorem dX5_init_74 : decode cX5_init 74 = .ok (.return_, 1) := by decide +kernel
theorem dX5_clear_0 : decode cX5_clear 0 = .ok (.aload_n 0, 1) := by decide +kernel
theorem dX5_clear_1 : decode cX5_clear 1 = .ok (.iload_n 1, 1) := by decide +kernel
theorem dX5_clear_2 : decode cX5_clear 2 = .ok (.putfield 36, 3) := by decide +kernel
theorem dX5_clear_5 : decode cX5_clear 5 = .ok (.aload_n 0, 1) := by decide +kernel
theorem dX5_clear_6 : decode cX5_clear 6 = .ok (.iconst 0, 1) := by decide +kernel
theorem dX5_clear_7 : decode cX5_clear 7 = .ok (.putfield 40, 3) := by decide +kernel
theorem dX5_clear_10 : decode cX5_clear 10 = .ok (.aload_n 0, 1) := by decide +kernel
theorem dX5_clear_11 : decode cX5_clear 11 = .ok (.getfield 9, 3) := by decide +kernel
theorem dX5_clear_14 : decode cX5_clear 14 = .ok (.iconst 0, 1) := by decide +kernel
theorem dX5_clear_15 : decode cX5_clear 15 = .ok (.invokestatic 43, 3) := by decide +kernel
theorem dX5_clear_18 : decode cX5_clear 18 = .ok (.return_, 1) := by decide +kernel
theorem dX5_copy_0 : decode cX5_copy 0 = .ok (.aload_n 0, 1) := by decide +kernel
theorem dX5_copy_1 : decode cX5_copy 1 = .ok (.aload_n 1, 1) := by decide +kernel
theorem dX5_copy_2 : decode cX5_copy 2 = .ok (.getfield 36, 3) := by decide +kernel
theorem dX5_copy_5 : decode cX5_copy 5 = .ok (.putfield 36, 3) := by decide +kernel
theorem dX5_copy_8 : decode cX5_copy 8 = .ok (.aload_n 0, 1) := by decide +kernel
theorem dX5_copy_9 : decode cX5_copy 9 = .ok (.aload_n 1, 1) := by decide +kernel
theorem dX5_copy_10 : decode cX5_copy 10 = .ok (.getfield 40, 3) := by decide +kernel
theorem dX5_copy_13 : decode cX5_copy 13 = .ok (.putfield 40, 3) := by decide +kernel
theorem dX5_copy_16 : decode cX5_copy 16 = .ok (.aload_n 1, 1) := by decide +kernel
theorem dX5_copy_17 : decode cX5_copy 17 = .ok (.getfield 9, 3) := by decide +kernel
theorem dX5_copy_20 : decode cX5_copy 20 = .ok (.iconst 0, 1) := by decide +kernel
theorem dX5_copy_21 : decode cX5_copy 21 = .ok (.aload_n 0, 1) := by decide +kernel
theorem dX5_copy_22 : decode cX5_copy 22 = .ok (.getfield 9, 3) := by decide +kernel
theorem dX5_copy_25 : decode cX5_copy 25 = .ok (.iconst 0, 1) := by decide +kernel
theorem dX5_copy_26 : decode cX5_copy 26 = .ok (.iconst 5, 1) := by decide +kernel
theorem dX5_copy_27 : decode cX5_copy 27 = .ok (.invokestatic 49, 3) := by decide +kernel
theorem dX5_copy_30 : decode cX5_copy 30 = .ok (.aload_n 1, 1) := by decide +kernel
theorem dX5_copy_31 : decode cX5_copy 31 = .ok (.getfield 15, 3) := by decide +kernel
theorem dX5_copy_34 : decode cX5_copy 34 = .ok (.iconst 0, 1) := by decide +kernel
theorem dX5_copy_35 : decode cX5_copy 35 = .ok (.aload_n 0, 1) := by decide +kernel
theorem dX5_copy_36 : decode cX5_copy 36 = .ok (.getfield 15, 3) := by decide +kernel
theorem dX5_copy_39 : decode cX5_copy 39 = .ok (.iconst 0, 1) := by decide +kernel
theorem dX5_copy_40 : decode cX5_copy 40 = .ok (.sipush 201, 3) := by decide +kernel
theorem dX5_copy_43 : decode cX5_copy 43 = .ok (.invokestatic 49, 3) := by decide +kernel
theorem dX5_copy_46 : decode cX5_copy 46 = .ok (.aload_n 1, 1) := by decide +kernel
theorem dX5_copy_47 : decode cX5_copy 47 = .ok (.getfield 18, 3) := by decide +kernel
theorem dX5_copy_50 : decode cX5_copy 50 = .ok (.iconst 0, 1) := by decide +kernel
theorem dX5_copy_51 : decode cX5_copy 51 = .ok (.aload_n 0, 1) := by decide +kernel
theorem dX5_copy_52 : decode cX5_copy 52 = .ok (.getfield 18, 3) := by decide +kernel
theorem dX5_copy_55 : decode cX5_copy 55 = .ok (.iconst 0, 1) := by decide +kernel
theorem dX5_copy_56 : decode cX5_copy 56 = .ok (.sipush 201, 3) := by decide +kernel
theorem dX5_copy_59 : decode cX5_copy 59 = .ok (.invokestatic 49, 3) := by decide +kernel
theorem dX5_copy_62 : decode cX5_copy 62 = .ok (.aload_n 1, 1) := by decide +kernel
theorem dX5_copy_63 : decode cX5_copy 63 = .ok (.getfield 21, 3) := by decide +kernel
theorem dX5_copy_66 : decode cX5_copy 66 = .ok (.iconst 0, 1) := by decide +kernel
theorem dX5_copy_67 : decode cX5_copy 67 = .ok (.aload_n 0, 1) := by decide +kernel
theorem dX5_copy_68 : decode cX5_copy 68 = .ok (.getfield 21, 3) := by decide +kernel
theorem dX5_copy_71 : decode cX5_copy 71 = .ok (.iconst 0, 1) := by decide +kernel
theorem dX5_copy_72 : decode cX5_copy 72 = .ok (.sipush 201, 3) := by decide +kernel
theorem dX5_copy_75 : decode cX5_copy 75 = .ok (.invokestatic 49, 3) := by decide +kernel
theorem dX5_copy_78 : decode cX5_copy 78 = .ok (.aload_n 1, 1) := by decide +kernel
theorem dX5_copy_79 : decode cX5_copy 79 = .ok (.getfield 24, 3) := by decide +kernel
theorem dX5_copy_82 : decode cX5_copy 82 = .ok (.iconst 0, 1) := by decide +kernel
theorem dX5_copy_83 : decode cX5_copy 83 = .ok (.aload_n 0, 1) := by decide +kernel
theorem dX5_copy_84 : decode cX5_copy 84 = .ok (.getfield 24, 3) := by decide +kernel
theorem dX5_copy_87 : decode cX5_copy 87 = .ok (.iconst 0, 1) := by decide +kernel
theorem dX5_copy_88 : decode cX5_copy 88 = .ok (.sipush 201, 3) := by decide +kernel
theorem dX5_copy_91 : decode cX5_copy 91 = .ok (.invokestatic 49, 3) := by decide +kernel
theorem dX5_copy_94 : decode cX5_copy 94 = .ok (.aload_n 1, 1) := by decide +kernel
theorem dX5_copy_95 : decode cX5_copy 95 = .ok (.getfield 27, 3) := by decide +kernel
theorem dX5_copy_98 : decode cX5_copy 98 = .ok (.iconst 0, 1) := by decide +kernel
theorem dX5_copy_99 : decode cX5_copy 99 = .ok (.aload_n 0, 1) := by decide +kernel
theorem dX5_copy_100 : decode cX5_copy 100 = .ok (.getfield 27, 3) := by decide +kernel
theorem dX5_copy_103 : decode cX5_copy 103 = .ok (.iconst 0, 1) := by decide +kernel
theorem dX5_copy_104 : decode cX5_copy 104 = .ok (.sipush 201, 3) := by decide +kernel
theorem dX5_copy_107 : decode cX5_copy 107 = .ok (.invokestatic 49, 3) := by decide +kernel
theorem dX5_copy_110 : decode cX5_copy 110 = .ok (.aload_n 1, 1) := by decide +kernel
theorem dX5_copy_111 : decode cX5_copy 111 = .ok (.getfield 30, 3) := by decide +kernel
theorem dX5_copy_114 : decode cX5_copy 114 = .ok (.iconst 0, 1) := by decide +kernel
theorem dX5_copy_115 : decode cX5_copy 115 = .ok (.aload_n 0, 1) := by decide +kernel
theorem dX5_copy_116 : decode cX5_copy 116 = .ok (.getfield 30, 3) := by decide +kernel
theorem dX5_copy_119 : decode cX5_copy 119 = .ok (.iconst 0, 1) := by decide +kernel
theorem dX5_copy_120 : decode cX5_copy 120 = .ok (.sipush 1005, 3) := by decide +kernel
theorem dX5_copy_123 : decode cX5_copy 123 = .ok (.invokestatic 49, 3) := by decide +kernel
theorem dX5_copy_126 : decode cX5_copy 126 = .ok (.aload_n 1, 1) := by decide +kernel
theorem dX5_copy_127 : decode cX5_copy 127 = .ok (.getfield 33, 3) := by decide +kernel
theorem dX5_copy_130 : decode cX5_copy 130 = .ok (.iconst 0, 1) := by decide +kernel
theorem dX5_copy_131 : decode cX5_copy 131 = .ok (.aload_n 0, 1) := by decide +kernel
theorem dX5_copy_132 : decode cX5_copy 132 = .ok (.getfield 33, 3) := by decide +kernel
theorem dX5_copy_135 : decode cX5_copy 135 = .ok (.iconst 0, 1) := by decide +kernel
theorem dX5_copy_136 : decode cX5_copy 136 = .ok (.sipush 201, 3) := by decide +kernel
theorem dX5_copy_139 : decode cX5_copy 139 = .ok (.invokestatic 49, 3) := by decide +kernel
theorem dX5_copy_142 : decode cX5_copy 142 = .ok (.return_, 1) := by decide +kernel
