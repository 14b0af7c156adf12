theorem dX8_performHeld_0 : decode cX8_performHeld 0 = .ok (.aload_n 0, 1) := by decide +kernel
theorem dX8_performHeld_1 : decode cX8_performHeld 1 = .ok (.getfield 27, 3) := by decide +kernel
theorem dX8_performHeld_4 : decode cX8_performHeld 4 = .ok (.getfield 43, 3) := by decide +kernel
theorem dX8_performHeld_7 : decode cX8_performHeld 7 = .ok (.istore_n 2, 1) := by decide +kernel
theorem dX8_performHeld_8 : decode cX8_performHeld 8 = .ok (.iconst 0, 1) := by decide +kernel
theorem dX8_performHeld_9 : decode cX8_performHeld 9 = .ok (.istore_n 3, 1) := by decide +kernel
theorem dX8_performHeld_10 : decode cX8_performHeld 10 = .ok (.iload_n 3, 1) := by decide +kernel
theorem dX8_performHeld_11 : decode cX8_performHeld 11 = .ok (.iload_n 2, 1) := by decide +kernel
theorem dX8_performHeld_12 : decode cX8_performHeld 12 = .ok (.if_icmp .ge 52, 3) := by decide +kernel
theorem dX8_performHeld_15 : decode cX8_performHeld 15 = .ok (.aload_n 0, 1) := by decide +kernel
theorem dX8_performHeld_16 : decode cX8_performHeld 16 = .ok (.aload_n 1, 1) := by decide +kernel
theorem dX8_performHeld_17 : decode cX8_performHeld 17 = .ok (.invokevirtual 125, 3) := by decide +kernel
theorem dX8_performHeld_20 : decode cX8_performHeld 20 = .ok (.istore 4, 2) := by decide +kernel
theorem dX8_performHeld_22 : decode cX8_performHeld 22 = .ok (.iload 4, 2) := by decide +kernel
theorem dX8_performHeld_24 : decode cX8_performHeld 24 = .ok (.iconst (-1), 1) := by decide +kernel
theorem dX8_performHeld_25 : decode cX8_performHeld 25 = .ok (.if_icmp .ne 5, 3) := by decide +kernel
theorem dX8_performHeld_28 : decode cX8_performHeld 28 = .ok (.iload_n 3, 1) := by decide +kernel
theorem dX8_performHeld_29 : decode cX8_performHeld 29 = .ok (.ireturn, 1) := by decide +kernel
theorem dX8_performHeld_30 : decode cX8_performHeld 30 = .ok (.aload_n 0, 1) := by decide +kernel
theorem dX8_performHeld_31 : decode cX8_performHeld 31 = .ok (.getfield 27, 3) := by decide +kernel
theorem dX8_performHeld_34 : decode cX8_performHeld 34 = .ok (.getfield 95, 3) := by decide +kernel
theorem dX8_performHeld_37 : decode cX8_performHeld 37 = .ok (.iload 4, 2) := by decide +kernel
theorem dX8_performHeld_39 : decode cX8_performHeld 39 = .ok (.iaload, 1) := by decide +kernel
theorem dX8_performHeld_40 : decode cX8_performHeld 40 = .ok (.istore 5, 2) := by decide +kernel
theorem dX8_performHeld_42 : decode cX8_performHeld 42 = .ok (.aload_n 0, 1) := by decide +kernel
theorem dX8_performHeld_43 : decode cX8_performHeld 43 = .ok (.getfield 27, 3) := by decide +kernel
theorem dX8_performHeld_46 : decode cX8_performHeld 46 = .ok (.iload 4, 2) := by decide +kernel
theorem dX8_performHeld_48 : decode cX8_performHeld 48 = .ok (.invokevirtual 122, 3) := by decide +kernel
theorem dX8_performHeld_51 : decode cX8_performHeld 51 = .ok (.aload_n 0, 1) := by decide +kernel
theorem dX8_performHeld_52 : decode cX8_performHeld 52 = .ok (.aload_n 1, 1) := by decide +kernel
theorem dX8_performHeld_53 : decode cX8_performHeld 53 = .ok (.iload 5, 2) := by decide +kernel
theorem dX8_performHeld_55 : decode cX8_performHeld 55 = .ok (.invokevirtual 109, 3) := by decide +kernel
theorem dX8_performHeld_58 : decode cX8_performHeld 58 = .ok (.iinc 3 1, 3) := by decide +kernel
theorem dX8_performHeld_61 : decode cX8_performHeld 61 = .ok (.goto (-51), 3) := by decide +kernel
theorem dX8_performHeld_64 : decode cX8_performHeld 64 = .ok (.iload_n 2, 1) := by decide +kernel
theorem dX8_performHeld_65 : decode cX8_performHeld 65 = .ok (.ireturn, 1) := by decide +kernel
theorem dX8_firstReady_0 : decode cX8_firstReady 0 = .ok (.iconst 0, 1) := by decide +kernel
theorem dX8_firstReady_1 : decode cX8_firstReady 1 = .ok (.istore_n 2, 1) := by decide +kernel
theorem dX8_firstReady_2 : decode cX8_firstReady 2 = .ok (.iload_n 2, 1) := by decide +kernel
theorem dX8_firstReady_3 : decode cX8_firstReady 3 = .ok (.aload_n 0, 1) := by decide +kernel
theorem dX8_firstReady_4 : decode cX8_firstReady 4 = .ok (.getfield 27, 3) := by decide +kernel
theorem dX8_firstReady_7 : decode cX8_firstReady 7 = .ok (.getfield 43, 3) := by decide +kernel
theorem dX8_firstReady_10 : decode cX8_firstReady 10 = .ok (.if_icmp .ge 28, 3) := by decide +kernel
theorem dX8_firstReady_13 : decode cX8_firstReady 13 = .ok (.aload_n 0, 1) := by decide +kernel
theorem dX8_firstReady_14 : decode cX8_firstReady 14 = .ok (.aload_n 1, 1) := by decide +kernel
theorem dX8_firstReady_15 : decode cX8_firstReady 15 = .ok (.aload_n 0, 1) := by decide +kernel
theorem dX8_firstReady_16 : decode cX8_firstReady 16 = .ok (.getfield 27, 3) := by decide +kernel
theorem dX8_firstReady_19 : decode cX8_firstReady 19 = .ok (.getfield 95, 3) := by decide +kernel
theorem dX8_firstReady_22 : decode cX8_firstReady 22 = .ok (.iload_n 2, 1) := by decide +kernel
theorem dX8_firstReady_23 : decode cX8_firstReady 23 = .ok (.iaload, 1) := by decide +kernel
theorem dX8_firstReady_24 : decode cX8_firstReady 24 = .ok (.invokevirtual 102, 3) := by decide +kernel
theorem dX8_firstReady_27 : decode cX8_firstReady 27 = .ok (.ifCond .eq 5, 3) := by decide +kernel
theorem dX8_firstReady_30 : decode cX8_firstReady 30 = .ok (.iload_n 2, 1) := by decide +kernel
theorem dX8_firstReady_31 : decode cX8_firstReady 31 = .ok (.ireturn, 1) := by decide +kernel
theorem dX8_firstReady_32 : decode cX8_firstReady 32 = .ok (.iinc 2 1, 3) := by decide +kernel
theorem dX8_firstReady_35 : decode cX8_firstReady 35 = .ok (.goto (-33), 3) := by decide +kernel
theorem dX8_firstReady_38 : decode cX8_firstReady 38 = .ok (.iconst (-1), 1) := by decide +kernel
theorem dX8_firstReady_39 : decode cX8_firstReady 39 = .ok (.ireturn, 1) := by decide +kernel
theorem dX9_init_0 : decode cX9_init 0 = .ok (.aload_n 0, 1) := by decide +kernel
theorem dX9_init_1 : decode cX9_init 1 = .ok (.invokespecial 3, 3) := by decide +kernel
theorem dX9_init_4 : decode cX9_init 4 = .ok (.aload_n 0, 1) := by decide +kernel
theorem dX9_init_5 : decode cX9_init 5 = .ok (.new 9, 3) := by decide +kernel
theorem dX9_init_8 : decode cX9_init 8 = .ok (.dup, 1) := by decide +kernel
theorem dX9_init_9 : decode cX9_init 9 = .ok (.invokespecial 11, 3) := by decide +kernel
theorem dX9_init_12 : decode cX9_init 12 = .ok (.putfield 12, 3) := by decide +kernel
theorem dX9_init_15 : decode cX9_init 15 = .ok (.aload_n 0, 1) := by decide +kernel
theorem dX9_init_16 : decode cX9_init 16 = .ok (.iconst 2, 1) := by decide +kernel
theorem dX9_init_17 : decode cX9_init 17 = .ok (.anewarray 9, 3) := by decide +kernel
theorem dX9_init_20 : decode cX9_init 20 = .ok (.putfield 16, 3) := by decide +kernel
theorem dX9_init_23 : decode cX9_init 23 = .ok (.aload_n 0, 1) := by decide +kernel
theorem dX9_init_24 : decode cX9_init 24 = .ok (.iconst 2, 1) := by decide +kernel
theorem dX9_init_25 : decode cX9_init 25 = .ok (.newarray .boolean, 2) := by decide +kernel
theorem dX9_init_27 : decode cX9_init 27 = .ok (.putfield 20, 3) := by decide +kernel
theorem dX9_init_30 : decode cX9_init 30 = .ok (.aload_n 0, 1) := by decide +kernel
theorem dX9_init_31 : decode cX9_init 31 = .ok (.new 24, 3) := by decide +kernel
theorem dX9_init_34 : decode cX9_init 34 = .ok (.dup, 1) := by decide +kernel
theorem dX9_init_35 : decode cX9_init 35 = .ok (.invokespecial 26, 3) := by decide +kernel
theorem dX9_init_38 : decode cX9_init 38 = .ok (.putfield 27, 3) := by decide +kernel
theorem dX9_init_41 : decode cX9_init 41 = .ok (.aload_n 0, 1) := by decide +kernel
theorem dX9_init_42 : decode cX9_init 42 = .ok (.new 31, 3) := by decide +kernel
theorem dX9_init_45 : decode cX9_init 45 = .ok (.dup, 1) := by decide +kernel
theorem dX9_init_46 : decode cX9_init 46 = .ok (.invokespecial 33, 3) := by decide +kernel
theorem dX9_init_49 : decode cX9_init 49 = .ok (.putfield 34, 3) := by decide +kernel
theorem dX9_init_52 : decode cX9_init 52 = .ok (.aload_n 0, 1) := by decide +kernel
theorem dX9_init_53 : decode cX9_init 53 = .ok (.new 38, 3) := by decide +kernel
theorem dX9_init_56 : decode cX9_init 56 = .ok (.dup, 1) := by decide +kernel
theorem dX9_init_57 : decode cX9_init 57 = .ok (.invokespecial 40, 3) := by decide +kernel
theorem dX9_init_60 : decode cX9_init 60 = .ok (.putfield 41, 3) := by decide +kernel
theorem dX9_init_63 : decode cX9_init 63 = .ok (.aload_n 0, 1) := by decide +kernel
theorem dX9_init_64 : decode cX9_init 64 = .ok (.sipush 400, 3) := by decide +kernel
theorem dX9_init_67 : decode cX9_init 67 = .ok (.newarray .byte, 2) := by decide +kernel
theorem dX9_init_69 : decode cX9_init 69 = .ok (.putfield 45, 3) := by decide +kernel
theorem dX9_init_72 : decode cX9_init 72 = .ok (.aload_n 0, 1) := by decide +kernel
theorem dX9_init_73 : decode cX9_init 73 = .ok (.sipush 201, 3) := by decide +kernel
theorem dX9_init_76 : decode cX9_init 76 = .ok (.newarray .int, 2) := by decide +kernel
theorem dX9_init_78 : decode cX9_init 78 = .ok (.putfield 49, 3) := by decide +kernel
theorem dX9_init_81 : decode cX9_init 81 = .ok (.aload_n 0, 1) := by decide +kernel
theorem dX9_init_82 : decode cX9_init 82 = .ok (.sipush 201, 3) := by decide +kernel
theorem dX9_init_85 : decode cX9_init 85 = .ok (.newarray .int, 2) := by decide +kernel
theorem dX9_init_87 : decode cX9_init 87 = .ok (.putfield 53, 3) := by decide +kernel
theorem dX9_init_90 : decode cX9_init 90 = .ok (.aload_n 0, 1) := by decide +kernel
theorem dX9_init_91 : decode cX9_init 91 = .ok (.sipush 201, 3) := by decide +kernel
theorem dX9_init_94 : decode cX9_init 94 = .ok (.newarray .int, 2) := by decide +kernel
theorem dX9_init_96 : decode cX9_init 96 = .ok (.putfield 56, 3) := by decide +kernel
theorem dX9_init_99 : decode cX9_init 99 = .ok (.aload_n 0, 1) := by decide +kernel
theorem dX9_init_100 : decode cX9_init 100 = .ok (.getfield 12, 3) := by decide +kernel
theorem dX9_init_103 : decode cX9_init 103 = .ok (.iconst 3, 1) := by decide +kernel
theorem dX9_init_104 : decode cX9_init 104 = .ok (.invokevirtual 59, 3) := by decide +kernel
theorem dX9_init_107 : decode cX9_init 107 = .ok (.return_, 1) := by decide +kernel
theorem dX9_sites_0 : decode cX9_sites 0 = .ok (.iload_n 1, 1) := by decide +kernel
theorem dX9_sites_1 : decode cX9_sites 1 = .ok (.iconst 2, 1) := by decide +kernel
theorem dX9_sites_2 : decode cX9_sites 2 = .ok (.if_icmp .lt 8, 3) := by decide +kernel
theorem dX9_sites_5 : decode cX9_sites 5 = .ok (.iload_n 1, 1) := by decide +kernel
theorem dX9_sites_6 : decode cX9_sites 6 = .ok (.iconst 5, 1) := by decide +kernel
theorem dX9_sites_7 : decode cX9_sites 7 = .ok (.if_icmp .le 5, 3) := by decide +kernel
theorem dX9_sites_10 : decode cX9_sites 10 = .ok (.iconst 0, 1) := by decide +kernel
theorem dX9_sites_11 : decode cX9_sites 11 = .ok (.ireturn, 1) := by decide +kernel
theorem dX9_sites_12 : decode cX9_sites 12 = .ok (.aload_n 0, 1) := by decide +kernel
theorem dX9_sites_13 : decode cX9_sites 13 = .ok (.getfield 12, 3) := by decide +kernel
theorem dX9_sites_16 : decode cX9_sites 16 = .ok (.iload_n 1, 1) := by decide +kernel
theorem dX9_sites_17 : decode cX9_sites 17 = .ok (.invokevirtual 59, 3) := by decide +kernel
theorem dX9_sites_20 : decode cX9_sites 20 = .ok (.iconst 0, 1) := by decide +kernel
theorem dX9_sites_21 : decode cX9_sites 21 = .ok (.istore_n 2, 1) := by decide +kernel
theorem dX9_sites_22 : decode cX9_sites 22 = .ok (.iload_n 2, 1) := by decide +kernel
theorem dX9_sites_23 : decode cX9_sites 23 = .ok (.iconst 2, 1) := by decide +kernel
theorem dX9_sites_24 : decode cX9_sites 24 = .ok (.if_icmp .ge 16, 3) := by decide +kernel
theorem dX9_sites_27 : decode cX9_sites 27 = .ok (.aload_n 0, 1) := by decide +kernel
theorem dX9_sites_28 : decode cX9_sites 28 = .ok (.getfield 20, 3) := by decide +kernel
theorem dX9_sites_31 : decode cX9_sites 31 = .ok (.iload_n 2, 1) := by decide +kernel
theorem dX9_sites_32 : decode cX9_sites 32 = .ok (.iconst 0, 1) := by decide +kernel
theorem dX9_sites_33 : decode cX9_sites 33 = .ok (.bastore, 1) := by decide +kernel
theorem dX9_sites_34 : decode cX9_sites 34 = .ok (.iinc 2 1, 3) := by decide +kernel
theorem dX9_sites_37 : decode cX9_sites 37 = .ok (.goto (-15), 3) := by decide +kernel
theorem dX9_sites_40 : decode cX9_sites 40 = .ok (.iconst 1, 1) := by decide +kernel
theorem dX9_sites_41 : decode cX9_sites 41 = .ok (.ireturn, 1) := by decide +kernel
theorem dX9_insert_0 : decode cX9_insert 0 = .ok (.aload_n 0, 1) := by decide +kernel
theorem dX9_insert_1 : decode cX9_insert 1 = .ok (.getfield 12, 3) := by decide +kernel
theorem dX9_insert_4 : decode cX9_insert 4 = .ok (.iload_n 1, 1) := by decide +kernel
theorem dX9_insert_5 : decode cX9_insert 5 = .ok (.invokevirtual 63, 3) := by decide +kernel
theorem dX9_insert_8 : decode cX9_insert 8 = .ok (.ifCond .eq 10, 3) := by decide +kernel
theorem dX9_insert_11 : decode cX9_insert 11 = .ok (.iload_n 3, 1) := by decide +kernel
theorem dX9_insert_12 : decode cX9_insert 12 = .ok (.invokestatic 67, 3) := by decide +kernel
theorem dX9_insert_15 : decode cX9_insert 15 = .ok (.ifCond .ne 5, 3) := by decide +kernel
theorem dX9_insert_18 : decode cX9_insert 18 = .ok (.iconst (-1), 1) := by decide +kernel
theorem dX9_insert_19 : decode cX9_insert 19 = .ok (.ireturn, 1) := by decide +kernel
theorem dX9_insert_20 : decode cX9_insert 20 = .ok (.aload_n 0, 1) := by decide +kernel
theorem dX9_insert_21 : decode cX9_insert 21 = .ok (.iload_n 1, 1) := by decide +kernel
theorem dX9_insert_22 : decode cX9_insert 22 = .ok (.aload_n 0, 1) := by decide +kernel
theorem dX9_insert_23 : decode cX9_insert 23 = .ok (.getfield 49, 3) := by decide +kernel
theorem dX9_insert_26 : decode cX9_insert 26 = .ok (.invokevirtual 70, 3) := by decide +kernel
theorem dX9_insert_29 : decode cX9_insert 29 = .ok (.istore 4, 2) := by decide +kernel
theorem dX9_insert_31 : decode cX9_insert 31 = .ok (.iload_n 2, 1) := by decide +kernel
theorem dX9_insert_32 : decode cX9_insert 32 = .ok (.ifCond .lt 9, 3) := by decide +kernel
theorem dX9_insert_35 : decode cX9_insert 35 = .ok (.iload_n 2, 1) := by decide +kernel
theorem dX9_insert_36 : decode cX9_insert 36 = .ok (.iload 4, 2) := by decide +kernel
theorem dX9_insert_38 : decode cX9_insert 38 = .ok (.if_icmp .le 5, 3) := by decide +kernel
theorem dX9_insert_41 : decode cX9_insert 41 = .ok (.iconst (-1), 1) := by decide +kernel
theorem dX9_insert_42 : decode cX9_insert 42 = .ok (.ireturn, 1) := by decide +kernel
theorem dX9_insert_43 : decode cX9_insert 43 = .ok (.iload_n 2, 1) := by decide +kernel
theorem dX9_insert_44 : decode cX9_insert 44 = .ok (.ifCond .ne 7, 3) := by decide +kernel
theorem dX9_insert_47 : decode cX9_insert 47 = .ok (.iconst 0, 1) := by decide +kernel
theorem dX9_insert_48 : decode cX9_insert 48 = .ok (.goto 16, 3) := by decide +kernel
theorem dX9_insert_51 : decode cX9_insert 51 = .ok (.aload_n 0, 1) := by decide +kernel
theorem dX9_insert_52 : decode cX9_insert 52 = .ok (.iload_n 1, 1) := by decide +kernel
theorem dX9_insert_53 : decode cX9_insert 53 = .ok (.aload_n 0, 1) := by decide +kernel
theorem dX9_insert_54 : decode cX9_insert 54 = .ok (.getfield 49, 3) := by decide +kernel
theorem dX9_insert_57 : decode cX9_insert 57 = .ok (.iload_n 2, 1) := by decide +kernel
theorem dX9_insert_58 : decode cX9_insert 58 = .ok (.iconst 1, 1) := by decide +kernel
theorem dX9_insert_59 : decode cX9_insert 59 = .ok (.isub, 1) := by decide +kernel
theorem dX9_insert_60 : decode cX9_insert 60 = .ok (.iaload, 1) := by decide +kernel
theorem dX9_insert_61 : decode cX9_insert 61 = .ok (.invokevirtual 74, 3) := by decide +kernel
theorem dX9_insert_64 : decode cX9_insert 64 = .ok (.istore 5, 2) := by decide +kernel
theorem dX9_insert_66 : decode cX9_insert 66 = .ok (.aload_n 0, 1) := by decide +kernel
theorem dX9_insert_67 : decode cX9_insert 67 = .ok (.getfield 12, 3) := by decide +kernel
theorem dX9_insert_70 : decode cX9_insert 70 = .ok (.iload_n 1, 1) := by decide +kernel
theorem dX9_insert_71 : decode cX9_insert 71 = .ok (.iconst 0, 1) := by decide +kernel
theorem dX9_insert_72 : decode cX9_insert 72 = .ok (.iconst 0, 1) := by decide +kernel
theorem dX9_insert_73 : decode cX9_insert 73 = .ok (.iload 5, 2) := by decide +kernel
theorem dX9_insert_75 : decode cX9_insert 75 = .ok (.iload_n 3, 1) := by decide +kernel
theorem dX9_insert_76 : decode cX9_insert 76 = .ok (.invokevirtual 78, 3) := by decide +kernel
theorem dX9_insert_79 : decode cX9_insert 79 = .ok (.ireturn, 1) := by decide +kernel
theorem dX9_move_0 : decode cX9_move 0 = .ok (.aload_n 0, 1) := by decide +kernel
theorem dX9_move_1 : decode cX9_move 1 = .ok (.getfield 12, 3) := by decide +kernel
theorem dX9_move_4 : decode cX9_move 4 = .ok (.iload_n 1, 1) := by decide +kernel
theorem dX9_move_5 : decode cX9_move 5 = .ok (.invokevirtual 63, 3) := by decide +kernel
theorem dX9_move_8 : decode cX9_move 8 = .ok (.ifCond .ne 5, 3) := by decide +kernel
theorem dX9_move_11 : decode cX9_move 11 = .ok (.iconst (-1), 1) := by decide +kernel
theorem dX9_move_12 : decode cX9_move 12 = .ok (.ireturn, 1) := by decide +kernel
theorem dX9_move_13 : decode cX9_move 13 = .ok (.aload_n 0, 1) := by decide +kernel
theorem dX9_move_14 : decode cX9_move 14 = .ok (.iload_n 1, 1) := by decide +kernel
theorem dX9_move_15 : decode cX9_move 15 = .ok (.aload_n 0, 1) := by decide +kernel
theorem dX9_move_16 : decode cX9_move 16 = .ok (.getfield 49, 3) := by decide +kernel
theorem dX9_move_19 : decode cX9_move 19 = .ok (.invokevirtual 70, 3) := by decide +kernel
theorem dX9_move_22 : decode cX9_move 22 = .ok (.istore 4, 2) := by decide +kernel
theorem dX9_move_24 : decode cX9_move 24 = .ok (.iload_n 2, 1) := by decide +kernel
theorem dX9_move_25 : decode cX9_move 25 = .ok (.ifCond .lt 19, 3) := by decide +kernel
theorem dX9_move_28 : decode cX9_move 28 = .ok (.iload_n 2, 1) := by decide +kernel
theorem dX9_move_29 : decode cX9_move 29 = .ok (.iload 4, 2) := by decide +kernel
theorem dX9_move_31 : decode cX9_move 31 = .ok (.if_icmp .ge 13, 3) := by decide +kernel
theorem dX9_move_34 : decode cX9_move 34 = .ok (.iload_n 3, 1) := by decide +kernel
theorem dX9_move_35 : decode cX9_move 35 = .ok (.ifCond .lt 9, 3) := by decide +kernel
theorem dX9_move_38 : decode cX9_move 38 = .ok (.iload_n 3, 1) := by decide +kernel
theorem dX9_move_39 : decode cX9_move 39 = .ok (.iload 4, 2) := by decide +kernel
theorem dX9_move_41 : decode cX9_move 41 = .ok (.if_icmp .lt 5, 3) := by decide +kernel
theorem dX9_move_44 : decode cX9_move 44 = .ok (.iconst (-1), 1) := by decide +kernel
theorem dX9_move_45 : decode cX9_move 45 = .ok (.ireturn, 1) := by decide +kernel
theorem dX9_move_46 : decode cX9_move 46 = .ok (.iload_n 3, 1) := by decide +kernel
theorem dX9_move_47 : decode cX9_move 47 = .ok (.iconst 1, 1) := by decide +kernel
theorem dX9_move_48 : decode cX9_move 48 = .ok (.isub, 1) := by decide +kernel
theorem dX9_move_49 : decode cX9_move 49 = .ok (.iload_n 2, 1) := by decide +kernel
theorem dX9_move_50 : decode cX9_move 50 = .ok (.if_icmp .ge 9, 3) := by decide +kernel
theorem dX9_move_53 : decode cX9_move 53 = .ok (.iload_n 3, 1) := by decide +kernel
theorem dX9_move_54 : decode cX9_move 54 = .ok (.iconst 1, 1) := by decide +kernel
theorem dX9_move_55 : decode cX9_move 55 = .ok (.isub, 1) := by decide +kernel
theorem dX9_move_56 : decode cX9_move 56 = .ok (.goto 4, 3) := by decide +kernel
theorem dX9_move_59 : decode cX9_move 59 = .ok (.iload_n 3, 1) := by decide +kernel
theorem dX9_move_60 : decode cX9_move 60 = .ok (.istore 5, 2) := by decide +kernel
theorem dX9_move_62 : decode cX9_move 62 = .ok (.iload_n 3, 1) := by decide +kernel
theorem dX9_move_63 : decode cX9_move 63 = .ok (.ifCond .ne 7, 3) := by decide +kernel
theorem dX9_move_66 : decode cX9_move 66 = .ok (.iconst 0, 1) := by decide +kernel
theorem dX9_move_67 : decode cX9_move 67 = .ok (.goto 15, 3) := by decide +kernel
theorem dX9_move_70 : decode cX9_move 70 = .ok (.aload_n 0, 1) := by decide +kernel
theorem dX9_move_71 : decode cX9_move 71 = .ok (.iload_n 1, 1) := by decide +kernel
theorem dX9_move_72 : decode cX9_move 72 = .ok (.aload_n 0, 1) := by decide +kernel
theorem dX9_move_73 : decode cX9_move 73 = .ok (.getfield 49, 3) := by decide +kernel
theorem dX9_move_76 : decode cX9_move 76 = .ok (.iload 5, 2) := by decide +kernel
theorem dX9_move_78 : decode cX9_move 78 = .ok (.iaload, 1) := by decide +kernel
theorem dX9_move_79 : decode cX9_move 79 = .ok (.invokevirtual 74, 3) := by decide +kernel
theorem dX9_move_82 : decode cX9_move 82 = .ok (.istore 6, 2) := by decide +kernel
theorem dX9_move_84 : decode cX9_move 84 = .ok (.aload_n 0, 1) := by decide +kernel
theorem dX9_move_85 : decode cX9_move 85 = .ok (.getfield 12, 3) := by decide +kernel
theorem dX9_move_88 : decode cX9_move 88 = .ok (.iload_n 1, 1) := by decide +kernel
theorem dX9_move_89 : decode cX9_move 89 = .ok (.iconst 1, 1) := by decide +kernel
theorem dX9_move_90 : decode cX9_move 90 = .ok (.aload_n 0, 1) := by decide +kernel
theorem dX9_move_91 : decode cX9_move 91 = .ok (.getfield 49, 3) := by decide +kernel
theorem dX9_move_94 : decode cX9_move 94 = .ok (.iload_n 2, 1) := by decide +kernel
theorem dX9_move_95 : decode cX9_move 95 = .ok (.iaload, 1) := by decide +kernel
theorem dX9_move_96 : decode cX9_move 96 = .ok (.iload 6, 2) := by decide +kernel
theorem dX9_move_98 : decode cX9_move 98 = .ok (.iconst (-1), 1) := by decide +kernel
theorem dX9_move_99 : decode cX9_move 99 = .ok (.invokevirtual 78, 3) := by decide +kernel
theorem dX9_move_102 : decode cX9_move 102 = .ok (.ireturn, 1) := by decide +kernel
theorem dX9_drop_0 : decode cX9_drop 0 = .ok (.aload_n 0, 1) := by decide +kernel
theorem dX9_drop_1 : decode cX9_drop 1 = .ok (.iload_n 1, 1) := by decide +kernel
theorem dX9_drop_2 : decode cX9_drop 2 = .ok (.iload_n 2, 1) := by decide +kernel
theorem dX9_drop_3 : decode cX9_drop 3 = .ok (.invokevirtual 82, 3) := by decide +kernel
theorem dX9_drop_6 : decode cX9_drop 6 = .ok (.istore_n 3, 1) := by decide +kernel
theorem dX9_drop_7 : decode cX9_drop 7 = .ok (.iload_n 3, 1) := by decide +kernel
theorem dX9_drop_8 : decode cX9_drop 8 = .ok (.ifCond .ne 5, 3) := by decide +kernel
theorem dX9_drop_11 : decode cX9_drop 11 = .ok (.iconst (-1), 1) := by decide +kernel
theorem dX9_drop_12 : decode cX9_drop 12 = .ok (.ireturn, 1) := by decide +kernel
theorem dX9_drop_13 : decode cX9_drop 13 = .ok (.aload_n 0, 1) := by decide +kernel
theorem dX9_drop_14 : decode cX9_drop 14 = .ok (.getfield 12, 3) := by decide +kernel
theorem dX9_drop_17 : decode cX9_drop 17 = .ok (.iload_n 1, 1) := by decide +kernel
theorem dX9_drop_18 : decode cX9_drop 18 = .ok (.iconst 2, 1) := by decide +kernel
theorem dX9_drop_19 : decode cX9_drop 19 = .ok (.iload_n 3, 1) := by decide +kernel
theorem dX9_drop_20 : decode cX9_drop 20 = .ok (.iconst (-1), 1) := by decide +kernel
theorem dX9_drop_21 : decode cX9_drop 21 = .ok (.iconst (-1), 1) := by decide +kernel
theorem dX9_drop_22 : decode cX9_drop 22 = .ok (.invokevirtual 78, 3) := by decide +kernel
theorem dX9_drop_25 : decode cX9_drop 25 = .ok (.ireturn, 1) := by decide +kernel
theorem dX9_change_0 : decode cX9_change 0 = .ok (.aload_n 0, 1) := by decide +kernel
theorem dX9_change_1 : decode cX9_change 1 = .ok (.iload_n 1, 1) := by decide +kernel
theorem dX9_change_2 : decode cX9_change 2 = .ok (.iload_n 2, 1) := by decide +kernel
theorem dX9_change_3 : decode cX9_change 3 = .ok (.invokevirtual 82, 3) := by decide +kernel
theorem dX9_change_6 : decode cX9_change 6 = .ok (.istore 4, 2) := by decide +kernel
theorem dX9_change_8 : decode cX9_change 8 = .ok (.iload 4, 2) := by decide +kernel
theorem dX9_change_10 : decode cX9_change 10 = .ok (.ifCond .eq 10, 3) := by decide +kernel
theorem dX9_change_13 : decode cX9_change 13 = .ok (.iload_n 3, 1) := by decide +kernel
theorem dX9_change_14 : decode cX9_change 14 = .ok (.invokestatic 67, 3) := by decide +kernel
theorem dX9_change_17 : decode cX9_change 17 = .ok (.ifCond .ne 5, 3) := by decide +kernel
theorem dX9_change_20 : decode cX9_change 20 = .ok (.iconst (-1), 1) := by decide +kernel
theorem dX9_change_21 : decode cX9_change 21 = .ok (.ireturn, 1) := by decide +kernel
theorem dX9_change_22 : decode cX9_change 22 = .ok (.aload_n 0, 1) := by decide +kernel
theorem dX9_change_23 : decode cX9_change 23 = .ok (.getfield 12, 3) := by decide +kernel
theorem dX9_change_26 : decode cX9_change 26 = .ok (.iload_n 1, 1) := by decide +kernel
theorem dX9_change_27 : decode cX9_change 27 = .ok (.iconst 3, 1) := by decide +kernel
theorem dX9_change_28 : decode cX9_change 28 = .ok (.iload 4, 2) := by decide +kernel
theorem dX9_change_30 : decode cX9_change 30 = .ok (.iconst (-1), 1) := by decide +kernel
theorem dX9_change_31 : decode cX9_change 31 = .ok (.iload_n 3, 1) := by decide +kernel
theorem dX9_change_32 : decode cX9_change 32 = .ok (.invokevirtual 78, 3) := by decide +kernel
theorem dX9_change_35 : decode cX9_change 35 = .ok (.ireturn, 1) := by decide +kernel
theorem dX9_revert_0 : decode cX9_revert 0 = .ok (.aload_n 0, 1) := by decide +kernel
theorem dX9_revert_1 : decode cX9_revert 1 = .ok (.getfield 12, 3) := by decide +kernel
theorem dX9_revert_4 : decode cX9_revert 4 = .ok (.iload_n 1, 1) := by decide +kernel
theorem dX9_revert_5 : decode cX9_revert 5 = .ok (.invokevirtual 63, 3) := by decide +kernel
theorem dX9_revert_8 : decode cX9_revert 8 = .ok (.ifCond .ne 5, 3) := by decide +kernel
theorem dX9_revert_11 : decode cX9_revert 11 = .ok (.iconst (-1), 1) := by decide +kernel
theorem dX9_revert_12 : decode cX9_revert 12 = .ok (.ireturn, 1) := by decide +kernel
theorem dX9_revert_13 : decode cX9_revert 13 = .ok (.aload_n 0, 1) := by decide +kernel
theorem dX9_revert_14 : decode cX9_revert 14 = .ok (.getfield 12, 3) := by decide +kernel
theorem dX9_revert_17 : decode cX9_revert 17 = .ok (.getfield 85, 3) := by decide +kernel
theorem dX9_revert_20 : decode cX9_revert 20 = .ok (.iload_n 1, 1) := by decide +kernel
theorem dX9_revert_21 : decode cX9_revert 21 = .ok (.invokevirtual 89, 3) := by decide +kernel
theorem dX9_revert_24 : decode cX9_revert 24 = .ok (.istore_n 2, 1) := by decide +kernel
theorem dX9_revert_25 : decode cX9_revert 25 = .ok (.iload_n 2, 1) := by decide +kernel
theorem dX9_revert_26 : decode cX9_revert 26 = .ok (.ifCond .ne 5, 3) := by decide +kernel
theorem dX9_revert_29 : decode cX9_revert 29 = .ok (.iconst (-1), 1) := by decide +kernel
theorem dX9_revert_30 : decode cX9_revert 30 = .ok (.ireturn, 1) := by decide +kernel
theorem dX9_revert_31 : decode cX9_revert 31 = .ok (.aload_n 0, 1) := by decide +kernel
theorem dX9_revert_32 : decode cX9_revert 32 = .ok (.getfield 12, 3) := by decide +kernel
theorem dX9_revert_35 : decode cX9_revert 35 = .ok (.getfield 85, 3) := by decide +kernel
theorem dX9_revert_38 : decode cX9_revert 38 = .ok (.getfield 95, 3) := by decide +kernel
theorem dX9_revert_41 : decode cX9_revert 41 = .ok (.iload_n 2, 1) := by decide +kernel
theorem dX9_revert_42 : decode cX9_revert 42 = .ok (.iaload, 1) := by decide +kernel
theorem dX9_revert_43 : decode cX9_revert 43 = .ok (.istore_n 3, 1) := by decide +kernel
theorem dX9_revert_44 : decode cX9_revert 44 = .ok (.aload_n 0, 1) := by decide +kernel
theorem dX9_revert_45 : decode cX9_revert 45 = .ok (.getfield 12, 3) := by decide +kernel
theorem dX9_revert_48 : decode cX9_revert 48 = .ok (.getfield 85, 3) := by decide +kernel
theorem dX9_revert_51 : decode cX9_revert 51 = .ok (.getfield 98, 3) := by decide +kernel
theorem dX9_revert_54 : decode cX9_revert 54 = .ok (.iload_n 2, 1) := by decide +kernel
theorem dX9_revert_55 : decode cX9_revert 55 = .ok (.iaload, 1) := by decide +kernel
theorem dX9_revert_56 : decode cX9_revert 56 = .ok (.istore 4, 2) := by decide +kernel
theorem dX9_revert_58 : decode cX9_revert 58 = .ok (.iload_n 3, 1) := by decide +kernel
theorem dX9_revert_59 : decode cX9_revert 59 = .ok (.iconst 2, 1) := by decide +kernel
theorem dX9_revert_60 : decode cX9_revert 60 = .ok (.if_icmp .eq 25, 3) := by decide +kernel
theorem dX9_revert_63 : decode cX9_revert 63 = .ok (.aload_n 0, 1) := by decide +kernel
theorem dX9_revert_64 : decode cX9_revert 64 = .ok (.getfield 12, 3) := by decide +kernel
theorem dX9_revert_67 : decode cX9_revert 67 = .ok (.getfield 101, 3) := by decide +kernel
theorem dX9_revert_70 : decode cX9_revert 70 = .ok (.iload_n 1, 1) := by decide +kernel
theorem dX9_revert_71 : decode cX9_revert 71 = .ok (.aaload, 1) := by decide +kernel
theorem dX9_revert_72 : decode cX9_revert 72 = .ok (.getfield 105, 3) := by decide +kernel
theorem dX9_revert_75 : decode cX9_revert 75 = .ok (.iload 4, 2) := by decide +kernel
theorem dX9_revert_77 : decode cX9_revert 77 = .ok (.invokevirtual 110, 3) := by decide +kernel
theorem dX9_revert_80 : decode cX9_revert 80 = .ok (.ifCond .ne 5, 3) := by decide +kernel
theorem dX9_revert_83 : decode cX9_revert 83 = .ok (.iconst (-1), 1) := by decide +kernel
theorem dX9_revert_84 : decode cX9_revert 84 = .ok (.ireturn, 1) := by decide +kernel
theorem dX9_revert_85 : decode cX9_revert 85 = .ok (.aload_n 0, 1) := by decide +kernel
theorem dX9_revert_86 : decode cX9_revert 86 = .ok (.iload_n 2, 1) := by decide +kernel
theorem dX9_revert_87 : decode cX9_revert 87 = .ok (.invokevirtual 113, 3) := by decide +kernel
theorem dX9_revert_90 : decode cX9_revert 90 = .ok (.aload_n 0, 1) := by decide +kernel
theorem dX9_revert_91 : decode cX9_revert 91 = .ok (.getfield 27, 3) := by decide +kernel
theorem dX9_revert_94 : decode cX9_revert 94 = .ok (.aload_n 0, 1) := by decide +kernel
theorem dX9_revert_95 : decode cX9_revert 95 = .ok (.getfield 12, 3) := by decide +kernel
theorem dX9_revert_98 : decode cX9_revert 98 = .ok (.getfield 85, 3) := by decide +kernel
theorem dX9_revert_101 : decode cX9_revert 101 = .ok (.iload 4, 2) := by decide +kernel
theorem dX9_revert_103 : decode cX9_revert 103 = .ok (.invokevirtual 116, 3) := by decide +kernel
theorem dX9_revert_106 : decode cX9_revert 106 = .ok (.istore 5, 2) := by decide +kernel
theorem dX9_revert_108 : decode cX9_revert 108 = .ok (.iload_n 3, 1) := by decide +kernel
theorem dX9_revert_109 : decode cX9_revert 109 = .ok (.tableswitch 81 0 2 #[27, 41, 61], 27) := by decide +kernel
theorem dX9_revert_136 : decode cX9_revert 136 = .ok (.aload_n 0, 1) := by decide +kernel
theorem dX9_revert_137 : decode cX9_revert 137 = .ok (.getfield 12, 3) := by decide +kernel
theorem dX9_revert_140 : decode cX9_revert 140 = .ok (.iload_n 1, 1) := by decide +kernel
theorem dX9_revert_141 : decode cX9_revert 141 = .ok (.iconst 2, 1) := by decide +kernel
theorem dX9_revert_142 : decode cX9_revert 142 = .ok (.iload 4, 2) := by decide +kernel
theorem dX9_revert_144 : decode cX9_revert 144 = .ok (.iconst (-1), 1) := by decide +kernel
theorem dX9_revert_145 : decode cX9_revert 145 = .ok (.iconst (-1), 1) := by decide +kernel
theorem dX9_revert_146 : decode cX9_revert 146 = .ok (.invokevirtual 78, 3) := by decide +kernel
theorem dX9_revert_149 : decode cX9_revert 149 = .ok (.ireturn, 1) := by decide +kernel
theorem dX9_revert_150 : decode cX9_revert 150 = .ok (.aload_n 0, 1) := by decide +kernel
theorem dX9_revert_151 : decode cX9_revert 151 = .ok (.getfield 12, 3) := by decide +kernel
theorem dX9_revert_154 : decode cX9_revert 154 = .ok (.iload_n 1, 1) := by decide +kernel
theorem dX9_revert_155 : decode cX9_revert 155 = .ok (.iconst 1, 1) := by decide +kernel
theorem dX9_revert_156 : decode cX9_revert 156 = .ok (.iload 4, 2) := by decide +kernel
theorem dX9_revert_158 : decode cX9_revert 158 = .ok (.aload_n 0, 1) := by decide +kernel
theorem dX9_revert_159 : decode cX9_revert 159 = .ok (.iload_n 1, 1) := by decide +kernel
theorem dX9_revert_160 : decode cX9_revert 160 = .ok (.iload 4, 2) := by decide +kernel
theorem dX9_revert_162 : decode cX9_revert 162 = .ok (.invokevirtual 120, 3) := by decide +kernel
theorem dX9_revert_165 : decode cX9_revert 165 = .ok (.iconst (-1), 1) := by decide +kernel
theorem dX9_revert_166 : decode cX9_revert 166 = .ok (.invokevirtual 78, 3) := by decide +kernel
theorem dX9_revert_169 : decode cX9_revert 169 = .ok (.ireturn, 1) := by decide +kernel
theorem dX9_revert_170 : decode cX9_revert 170 = .ok (.aload_n 0, 1) := by decide +kernel
theorem dX9_revert_171 : decode cX9_revert 171 = .ok (.getfield 12, 3) := by decide +kernel
theorem dX9_revert_174 : decode cX9_revert 174 = .ok (.iload_n 1, 1) := by decide +kernel
theorem dX9_revert_175 : decode cX9_revert 175 = .ok (.iconst 0, 1) := by decide +kernel
theorem dX9_revert_176 : decode cX9_revert 176 = .ok (.iconst 0, 1) := by decide +kernel
theorem dX9_revert_177 : decode cX9_revert 177 = .ok (.aload_n 0, 1) := by decide +kernel
theorem dX9_revert_178 : decode cX9_revert 178 = .ok (.iload_n 1, 1) := by decide +kernel
theorem dX9_revert_179 : decode cX9_revert 179 = .ok (.iload 4, 2) := by decide +kernel
theorem dX9_revert_181 : decode cX9_revert 181 = .ok (.invokevirtual 120, 3) := by decide +kernel
theorem dX9_revert_184 : decode cX9_revert 184 = .ok (.iload 5, 2) := by decide +kernel
theorem dX9_revert_186 : decode cX9_revert 186 = .ok (.invokevirtual 78, 3) := by decide +kernel
theorem dX9_revert_189 : decode cX9_revert 189 = .ok (.ireturn, 1) := by decide +kernel
theorem dX9_revert_190 : decode cX9_revert 190 = .ok (.aload_n 0, 1) := by decide +kernel
theorem dX9_revert_191 : decode cX9_revert 191 = .ok (.getfield 12, 3) := by decide +kernel
theorem dX9_revert_194 : decode cX9_revert 194 = .ok (.iload_n 1, 1) := by decide +kernel
theorem dX9_revert_195 : decode cX9_revert 195 = .ok (.iconst 3, 1) := by decide +kernel
theorem dX9_revert_196 : decode cX9_revert 196 = .ok (.iload 4, 2) := by decide +kernel
theorem dX9_revert_198 : decode cX9_revert 198 = .ok (.iconst (-1), 1) := by decide +kernel
theorem dX9_revert_199 : decode cX9_revert 199 = .ok (.iload 5, 2) := by decide +kernel
theorem dX9_revert_201 : decode cX9_revert 201 = .ok (.invokevirtual 78, 3) := by decide +kernel
theorem dX9_revert_204 : decode cX9_revert 204 = .ok (.ireturn, 1) := by decide +kernel
theorem dX9_chance_0 : decode cX9_chance 0 = .ok (.iload_n 1, 1) := by decide +kernel
theorem dX9_chance_1 : decode cX9_chance 1 = .ok (.iconst 1, 1) := by decide +kernel
theorem dX9_chance_2 : decode cX9_chance 2 = .ok (.if_icmp .lt 9, 3) := by decide +kernel
theorem dX9_chance_5 : decode cX9_chance 5 = .ok (.iload_n 1, 1) := by decide +kernel
theorem dX9_chance_6 : decode cX9_chance 6 = .ok (.bipush 60, 2) := by decide +kernel
theorem dX9_chance_8 : decode cX9_chance 8 = .ok (.if_icmp .le 5, 3) := by decide +kernel
theorem dX9_chance_11 : decode cX9_chance 11 = .ok (.iconst (-1), 1) := by decide +kernel
theorem dX9_chance_12 : decode cX9_chance 12 = .ok (.ireturn, 1) := by decide +kernel
theorem dX9_chance_13 : decode cX9_chance 13 = .ok (.aload_n 0, 1) := by decide +kernel
theorem dX9_chance_14 : decode cX9_chance 14 = .ok (.iload_n 2, 1) := by decide +kernel
theorem dX9_chance_15 : decode cX9_chance 15 = .ok (.putfield 123, 3) := by decide +kernel
theorem dX9_chance_18 : decode cX9_chance 18 = .ok (.iconst 0, 1) := by decide +kernel
theorem dX9_chance_19 : decode cX9_chance 19 = .ok (.istore_n 3, 1) := by decide +kernel
theorem dX9_chance_20 : decode cX9_chance 20 = .ok (.iconst 0, 1) := by decide +kernel
theorem dX9_chance_21 : decode cX9_chance 21 = .ok (.istore 4, 2) := by decide +kernel
theorem dX9_chance_23 : decode cX9_chance 23 = .ok (.iload 4, 2) := by decide +kernel
theorem dX9_chance_25 : decode cX9_chance 25 = .ok (.iload_n 1, 1) := by decide +kernel
theorem dX9_chance_26 : decode cX9_chance 26 = .ok (.if_icmp .ge 20, 3) := by decide +kernel
theorem dX9_chance_29 : decode cX9_chance 29 = .ok (.aload_n 0, 1) := by decide +kernel
theorem dX9_chance_30 : decode cX9_chance 30 = .ok (.invokevirtual 127, 3) := by decide +kernel
theorem dX9_chance_33 : decode cX9_chance 33 = .ok (.iconst (-1), 1) := by decide +kernel
theorem dX9_chance_34 : decode cX9_chance 34 = .ok (.if_icmp .eq 6, 3) := by decide +kernel
theorem dX9_chance_37 : decode cX9_chance 37 = .ok (.iinc 3 1, 3) := by decide +kernel
theorem dX9_chance_40 : decode cX9_chance 40 = .ok (.iinc 4 1, 3) := by decide +kernel
theorem dX9_chance_43 : decode cX9_chance 43 = .ok (.goto (-20), 3) := by decide +kernel
theorem dX9_chance_46 : decode cX9_chance 46 = .ok (.iload_n 3, 1) := by decide +kernel
theorem dX9_chance_47 : decode cX9_chance 47 = .ok (.ireturn, 1) := by decide +kernel
theorem dX9_deliver_0 : decode cX9_deliver 0 = .ok (.aload_n 0, 1) := by decide +kernel
theorem dX9_deliver_1 : decode cX9_deliver 1 = .ok (.iload_n 1, 1) := by decide +kernel
theorem dX9_deliver_2 : decode cX9_deliver 2 = .ok (.iload_n 2, 1) := by decide +kernel
theorem dX9_deliver_3 : decode cX9_deliver 3 = .ok (.invokevirtual 131, 3) := by decide +kernel
theorem dX9_deliver_6 : decode cX9_deliver 6 = .ok (.istore_n 3, 1) := by decide +kernel
theorem dX9_deliver_7 : decode cX9_deliver 7 = .ok (.iload_n 3, 1) := by decide +kernel
theorem dX9_deliver_8 : decode cX9_deliver 8 = .ok (.ifCond .ne 5, 3) := by decide +kernel
theorem dX9_deliver_11 : decode cX9_deliver 11 = .ok (.iconst (-1), 1) := by decide +kernel
theorem dX9_deliver_12 : decode cX9_deliver 12 = .ok (.ireturn, 1) := by decide +kernel
theorem dX9_deliver_13 : decode cX9_deliver 13 = .ok (.aload_n 0, 1) := by decide +kernel
theorem dX9_deliver_14 : decode cX9_deliver 14 = .ok (.getfield 12, 3) := by decide +kernel
theorem dX9_deliver_17 : decode cX9_deliver 17 = .ok (.getfield 101, 3) := by decide +kernel
theorem dX9_deliver_20 : decode cX9_deliver 20 = .ok (.iload_n 1, 1) := by decide +kernel
theorem dX9_deliver_21 : decode cX9_deliver 21 = .ok (.aaload, 1) := by decide +kernel
theorem dX9_deliver_22 : decode cX9_deliver 22 = .ok (.astore 4, 2) := by decide +kernel
theorem dX9_deliver_24 : decode cX9_deliver 24 = .ok (.aload 4, 2) := by decide +kernel
theorem dX9_deliver_26 : decode cX9_deliver 26 = .ok (.getfield 134, 3) := by decide +kernel
theorem dX9_deliver_29 : decode cX9_deliver 29 = .ok (.iload_n 2, 1) := by decide +kernel
theorem dX9_deliver_30 : decode cX9_deliver 30 = .ok (.invokevirtual 138, 3) := by decide +kernel
theorem dX9_deliver_33 : decode cX9_deliver 33 = .ok (.aload 4, 2) := by decide +kernel
theorem dX9_deliver_35 : decode cX9_deliver 35 = .ok (.aload_n 0, 1) := by decide +kernel
theorem dX9_deliver_36 : decode cX9_deliver 36 = .ok (.getfield 12, 3) := by decide +kernel
theorem dX9_deliver_39 : decode cX9_deliver 39 = .ok (.getfield 85, 3) := by decide +kernel
theorem dX9_deliver_42 : decode cX9_deliver 42 = .ok (.iload_n 3, 1) := by decide +kernel
theorem dX9_deliver_43 : decode cX9_deliver 43 = .ok (.invokevirtual 143, 3) := by decide +kernel
theorem dX9_deliver_46 : decode cX9_deliver 46 = .ok (.ireturn, 1) := by decide +kernel
theorem dX9_lose_0 : decode cX9_lose 0 = .ok (.aload_n 0, 1) := by decide +kernel
theorem dX9_lose_1 : decode cX9_lose 1 = .ok (.iload_n 1, 1) := by decide +kernel
theorem dX9_lose_2 : decode cX9_lose 2 = .ok (.iload_n 2, 1) := by decide +kernel
theorem dX9_lose_3 : decode cX9_lose 3 = .ok (.invokevirtual 131, 3) := by decide +kernel
theorem dX9_lose_6 : decode cX9_lose 6 = .ok (.istore_n 3, 1) := by decide +kernel
theorem dX9_lose_7 : decode cX9_lose 7 = .ok (.iload_n 3, 1) := by decide +kernel
theorem dX9_lose_8 : decode cX9_lose 8 = .ok (.ifCond .ne 5, 3) := by decide +kernel
theorem dX9_lose_11 : decode cX9_lose 11 = .ok (.iconst (-1), 1) := by decide +kernel
theorem dX9_lose_12 : decode cX9_lose 12 = .ok (.ireturn, 1) := by decide +kernel
theorem dX9_lose_13 : decode cX9_lose 13 = .ok (.aload_n 0, 1) := by decide +kernel
theorem dX9_lose_14 : decode cX9_lose 14 = .ok (.getfield 12, 3) := by decide +kernel
theorem dX9_lose_17 : decode cX9_lose 17 = .ok (.getfield 101, 3) := by decide +kernel
theorem dX9_lose_20 : decode cX9_lose 20 = .ok (.iload_n 1, 1) := by decide +kernel
theorem dX9_lose_21 : decode cX9_lose 21 = .ok (.aaload, 1) := by decide +kernel
theorem dX9_lose_22 : decode cX9_lose 22 = .ok (.getfield 134, 3) := by decide +kernel
theorem dX9_lose_25 : decode cX9_lose 25 = .ok (.iload_n 2, 1) := by decide +kernel
theorem dX9_lose_26 : decode cX9_lose 26 = .ok (.invokevirtual 138, 3) := by decide +kernel
theorem dX9_lose_29 : decode cX9_lose 29 = .ok (.aload_n 0, 1) := by decide +kernel
theorem dX9_lose_30 : decode cX9_lose 30 = .ok (.getfield 12, 3) := by decide +kernel
theorem dX9_lose_33 : decode cX9_lose 33 = .ok (.dup, 1) := by decide +kernel
theorem dX9_lose_34 : decode cX9_lose 34 = .ok (.getfield 146, 3) := by decide +kernel
theorem dX9_lose_37 : decode cX9_lose 37 = .ok (.iconst 1, 1) := by decide +kernel
theorem dX9_lose_38 : decode cX9_lose 38 = .ok (.iadd, 1) := by decide +kernel
theorem dX9_lose_39 : decode cX9_lose 39 = .ok (.putfield 146, 3) := by decide +kernel
theorem dX9_lose_42 : decode cX9_lose 42 = .ok (.iload_n 3, 1) := by decide +kernel
theorem dX9_lose_43 : decode cX9_lose 43 = .ok (.invokestatic 149, 3) := by decide +kernel
theorem dX9_lose_46 : decode cX9_lose 46 = .ok (.ireturn, 1) := by decide +kernel
theorem dX9_twice_0 : decode cX9_twice 0 = .ok (.aload_n 0, 1) := by decide +kernel
theorem dX9_twice_1 : decode cX9_twice 1 = .ok (.iload_n 1, 1) := by decide +kernel
theorem dX9_twice_2 : decode cX9_twice 2 = .ok (.iload_n 2, 1) := by decide +kernel
theorem dX9_twice_3 : decode cX9_twice 3 = .ok (.invokevirtual 131, 3) := by decide +kernel
theorem dX9_twice_6 : decode cX9_twice 6 = .ok (.istore_n 3, 1) := by decide +kernel
theorem dX9_twice_7 : decode cX9_twice 7 = .ok (.iload_n 3, 1) := by decide +kernel
theorem dX9_twice_8 : decode cX9_twice 8 = .ok (.ifCond .eq 22, 3) := by decide +kernel
theorem dX9_twice_11 : decode cX9_twice 11 = .ok (.aload_n 0, 1) := by decide +kernel
theorem dX9_twice_12 : decode cX9_twice 12 = .ok (.getfield 12, 3) := by decide +kernel
theorem dX9_twice_15 : decode cX9_twice 15 = .ok (.getfield 101, 3) := by decide +kernel
theorem dX9_twice_18 : decode cX9_twice 18 = .ok (.iload_n 1, 1) := by decide +kernel
theorem dX9_twice_19 : decode cX9_twice 19 = .ok (.aaload, 1) := by decide +kernel
theorem dX9_twice_20 : decode cX9_twice 20 = .ok (.getfield 134, 3) := by decide +kernel
theorem dX9_twice_23 : decode cX9_twice 23 = .ok (.iload_n 3, 1) := by decide +kernel
theorem dX9_twice_24 : decode cX9_twice 24 = .ok (.invokevirtual 152, 3) := by decide +kernel
theorem dX9_twice_27 : decode cX9_twice 27 = .ok (.ifCond .ne 5, 3) := by decide +kernel
theorem dX9_twice_30 : decode cX9_twice 30 = .ok (.iconst (-1), 1) := by decide +kernel
theorem dX9_twice_31 : decode cX9_twice 31 = .ok (.ireturn, 1) := by decide +kernel
theorem dX9_twice_32 : decode cX9_twice 32 = .ok (.iload_n 3, 1) := by decide +kernel
theorem dX9_twice_33 : decode cX9_twice 33 = .ok (.invokestatic 149, 3) := by decide +kernel
theorem dX9_twice_36 : decode cX9_twice 36 = .ok (.ireturn, 1) := by decide +kernel
theorem dX9_sync_0 : decode cX9_sync 0 = .ok (.aload_n 0, 1) := by decide +kernel
theorem dX9_sync_1 : decode cX9_sync 1 = .ok (.getfield 12, 3) := by decide +kernel
theorem dX9_sync_4 : decode cX9_sync 4 = .ok (.iload_n 1, 1) := by decide +kernel
theorem dX9_sync_5 : decode cX9_sync 5 = .ok (.invokevirtual 63, 3) := by decide +kernel
theorem dX9_sync_8 : decode cX9_sync 8 = .ok (.ifCond .eq 19, 3) := by decide +kernel
theorem dX9_sync_11 : decode cX9_sync 11 = .ok (.aload_n 0, 1) := by decide +kernel
theorem dX9_sync_12 : decode cX9_sync 12 = .ok (.getfield 12, 3) := by decide +kernel
theorem dX9_sync_15 : decode cX9_sync 15 = .ok (.iload_n 2, 1) := by decide +kernel
theorem dX9_sync_16 : decode cX9_sync 16 = .ok (.invokevirtual 63, 3) := by decide +kernel
theorem dX9_sync_19 : decode cX9_sync 19 = .ok (.ifCond .eq 8, 3) := by decide +kernel
theorem dX9_sync_22 : decode cX9_sync 22 = .ok (.iload_n 1, 1) := by decide +kernel
theorem dX9_sync_23 : decode cX9_sync 23 = .ok (.iload_n 2, 1) := by decide +kernel
theorem dX9_sync_24 : decode cX9_sync 24 = .ok (.if_icmp .ne 5, 3) := by decide +kernel
theorem dX9_sync_27 : decode cX9_sync 27 = .ok (.iconst (-1), 1) := by decide +kernel
theorem dX9_sync_28 : decode cX9_sync 28 = .ok (.ireturn, 1) := by decide +kernel
theorem dX9_sync_29 : decode cX9_sync 29 = .ok (.aload_n 0, 1) := by decide +kernel
theorem dX9_sync_30 : decode cX9_sync 30 = .ok (.getfield 12, 3) := by decide +kernel
theorem dX9_sync_33 : decode cX9_sync 33 = .ok (.getfield 101, 3) := by decide +kernel
theorem dX9_sync_36 : decode cX9_sync 36 = .ok (.iload_n 2, 1) := by decide +kernel
theorem dX9_sync_37 : decode cX9_sync 37 = .ok (.aaload, 1) := by decide +kernel
theorem dX9_sync_38 : decode cX9_sync 38 = .ok (.aload_n 0, 1) := by decide +kernel
theorem dX9_sync_39 : decode cX9_sync 39 = .ok (.getfield 12, 3) := by decide +kernel
theorem dX9_sync_42 : decode cX9_sync 42 = .ok (.getfield 85, 3) := by decide +kernel
theorem dX9_sync_45 : decode cX9_sync 45 = .ok (.aload_n 0, 1) := by decide +kernel
theorem dX9_sync_46 : decode cX9_sync 46 = .ok (.getfield 12, 3) := by decide +kernel
theorem dX9_sync_49 : decode cX9_sync 49 = .ok (.getfield 101, 3) := by decide +kernel
theorem dX9_sync_52 : decode cX9_sync 52 = .ok (.iload_n 1, 1) := by decide +kernel
theorem dX9_sync_53 : decode cX9_sync 53 = .ok (.aaload, 1) := by decide +kernel
theorem dX9_sync_54 : decode cX9_sync 54 = .ok (.invokevirtual 155, 3) := by decide +kernel
theorem dX9_sync_57 : decode cX9_sync 57 = .ok (.ireturn, 1) := by decide +kernel
theorem dX9_tell_0 : decode cX9_tell 0 = .ok (.aload_n 0, 1) := by decide +kernel
theorem dX9_tell_1 : decode cX9_tell 1 = .ok (.getfield 12, 3) := by decide +kernel
theorem dX9_tell_4 : decode cX9_tell 4 = .ok (.iload_n 1, 1) := by decide +kernel
theorem dX9_tell_5 : decode cX9_tell 5 = .ok (.invokevirtual 63, 3) := by decide +kernel
theorem dX9_tell_8 : decode cX9_tell 8 = .ok (.ifCond .eq 14, 3) := by decide +kernel
theorem dX9_tell_11 : decode cX9_tell 11 = .ok (.aload_n 0, 1) := by decide +kernel
theorem dX9_tell_12 : decode cX9_tell 12 = .ok (.getfield 12, 3) := by decide +kernel
theorem dX9_tell_15 : decode cX9_tell 15 = .ok (.iload_n 2, 1) := by decide +kernel
theorem dX9_tell_16 : decode cX9_tell 16 = .ok (.invokevirtual 63, 3) := by decide +kernel
theorem dX9_tell_19 : decode cX9_tell 19 = .ok (.ifCond .ne 5, 3) := by decide +kernel
theorem dX9_tell_22 : decode cX9_tell 22 = .ok (.iconst 0, 1) := by decide +kernel
theorem dX9_tell_23 : decode cX9_tell 23 = .ok (.ireturn, 1) := by decide +kernel
theorem dX9_tell_24 : decode cX9_tell 24 = .ok (.aload_n 0, 1) := by decide +kernel
theorem dX9_tell_25 : decode cX9_tell 25 = .ok (.getfield 12, 3) := by decide +kernel
theorem dX9_tell_28 : decode cX9_tell 28 = .ok (.getfield 101, 3) := by decide +kernel
theorem dX9_tell_31 : decode cX9_tell 31 = .ok (.iload_n 2, 1) := by decide +kernel
theorem dX9_tell_32 : decode cX9_tell 32 = .ok (.aaload, 1) := by decide +kernel
theorem dX9_tell_33 : decode cX9_tell 33 = .ok (.astore_n 3, 1) := by decide +kernel
theorem dX9_tell_34 : decode cX9_tell 34 = .ok (.aload_n 3, 1) := by decide +kernel
theorem dX9_tell_35 : decode cX9_tell 35 = .ok (.getfield 159, 3) := by decide +kernel
theorem dX9_tell_38 : decode cX9_tell 38 = .ok (.iload_n 1, 1) := by decide +kernel
theorem dX9_tell_39 : decode cX9_tell 39 = .ok (.iaload, 1) := by decide +kernel
theorem dX9_tell_40 : decode cX9_tell 40 = .ok (.aload_n 0, 1) := by decide +kernel
theorem dX9_tell_41 : decode cX9_tell 41 = .ok (.getfield 12, 3) := by decide +kernel
theorem dX9_tell_44 : decode cX9_tell 44 = .ok (.getfield 85, 3) := by decide +kernel
theorem dX9_tell_47 : decode cX9_tell 47 = .ok (.getfield 162, 3) := by decide +kernel
theorem dX9_tell_50 : decode cX9_tell 50 = .ok (.iload_n 1, 1) := by decide +kernel
theorem dX9_tell_51 : decode cX9_tell 51 = .ok (.iaload, 1) := by decide +kernel
theorem dX9_tell_52 : decode cX9_tell 52 = .ok (.if_icmp .ge 5, 3) := by decide +kernel
theorem dX9_tell_55 : decode cX9_tell 55 = .ok (.iconst 0, 1) := by decide +kernel
theorem dX9_tell_56 : decode cX9_tell 56 = .ok (.ireturn, 1) := by decide +kernel
theorem dX9_tell_57 : decode cX9_tell 57 = .ok (.aload_n 3, 1) := by decide +kernel
theorem dX9_tell_58 : decode cX9_tell 58 = .ok (.iload_n 1, 1) := by decide +kernel
theorem dX9_tell_59 : decode cX9_tell 59 = .ok (.aload_n 0, 1) := by decide +kernel
theorem dX9_tell_60 : decode cX9_tell 60 = .ok (.getfield 12, 3) := by decide +kernel
theorem dX9_tell_63 : decode cX9_tell 63 = .ok (.getfield 101, 3) := by decide +kernel
theorem dX9_tell_66 : decode cX9_tell 66 = .ok (.iload_n 1, 1) := by decide +kernel
theorem dX9_tell_67 : decode cX9_tell 67 = .ok (.aaload, 1) := by decide +kernel
theorem dX9_tell_68 : decode cX9_tell 68 = .ok (.getfield 159, 3) := by decide +kernel
theorem dX9_tell_71 : decode cX9_tell 71 = .ok (.invokevirtual 165, 3) := by decide +kernel
theorem dX9_tell_74 : decode cX9_tell 74 = .ok (.iconst 1, 1) := by decide +kernel
theorem dX9_tell_75 : decode cX9_tell 75 = .ok (.ireturn, 1) := by decide +kernel
theorem dX9_sweep_0 : decode cX9_sweep 0 = .ok (.aload_n 0, 1) := by decide +kernel
theorem dX9_sweep_1 : decode cX9_sweep 1 = .ok (.getfield 12, 3) := by decide +kernel
theorem dX9_sweep_4 : decode cX9_sweep 4 = .ok (.iload_n 1, 1) := by decide +kernel
theorem dX9_sweep_5 : decode cX9_sweep 5 = .ok (.invokevirtual 63, 3) := by decide +kernel
theorem dX9_sweep_8 : decode cX9_sweep 8 = .ok (.ifCond .ne 5, 3) := by decide +kernel
theorem dX9_sweep_11 : decode cX9_sweep 11 = .ok (.iconst (-1), 1) := by decide +kernel
theorem dX9_sweep_12 : decode cX9_sweep 12 = .ok (.ireturn, 1) := by decide +kernel
theorem dX9_sweep_13 : decode cX9_sweep 13 = .ok (.aload_n 0, 1) := by decide +kernel
theorem dX9_sweep_14 : decode cX9_sweep 14 = .ok (.getfield 34, 3) := by decide +kernel
theorem dX9_sweep_17 : decode cX9_sweep 17 = .ok (.aload_n 0, 1) := by decide +kernel
theorem dX9_sweep_18 : decode cX9_sweep 18 = .ok (.getfield 12, 3) := by decide +kernel
theorem dX9_sweep_21 : decode cX9_sweep 21 = .ok (.iload_n 1, 1) := by decide +kernel
theorem dX9_sweep_22 : decode cX9_sweep 22 = .ok (.invokevirtual 169, 3) := by decide +kernel
theorem dX9_sweep_25 : decode cX9_sweep 25 = .ok (.istore_n 2, 1) := by decide +kernel
theorem dX9_sweep_26 : decode cX9_sweep 26 = .ok (.aload_n 0, 1) := by decide +kernel
theorem dX9_sweep_27 : decode cX9_sweep 27 = .ok (.getfield 12, 3) := by decide +kernel
theorem dX9_sweep_30 : decode cX9_sweep 30 = .ok (.getfield 101, 3) := by decide +kernel
theorem dX9_sweep_33 : decode cX9_sweep 33 = .ok (.iload_n 1, 1) := by decide +kernel
theorem dX9_sweep_34 : decode cX9_sweep 34 = .ok (.aaload, 1) := by decide +kernel
theorem dX9_sweep_35 : decode cX9_sweep 35 = .ok (.getfield 105, 3) := by decide +kernel
theorem dX9_sweep_38 : decode cX9_sweep 38 = .ok (.aload_n 0, 1) := by decide +kernel
theorem dX9_sweep_39 : decode cX9_sweep 39 = .ok (.getfield 34, 3) := by decide +kernel
theorem dX9_sweep_42 : decode cX9_sweep 42 = .ok (.getfield 173, 3) := by decide +kernel
theorem dX9_sweep_45 : decode cX9_sweep 45 = .ok (.invokevirtual 176, 3) := by decide +kernel
theorem dX9_sweep_48 : decode cX9_sweep 48 = .ok (.iload_n 2, 1) := by decide +kernel
theorem dX9_sweep_49 : decode cX9_sweep 49 = .ok (.ireturn, 1) := by decide +kernel
theorem dX9_length_0 : decode cX9_length 0 = .ok (.aload_n 0, 1) := by decide +kernel
theorem dX9_length_1 : decode cX9_length 1 = .ok (.getfield 12, 3) := by decide +kernel
theorem dX9_length_4 : decode cX9_length 4 = .ok (.iload_n 1, 1) := by decide +kernel
theorem dX9_length_5 : decode cX9_length 5 = .ok (.invokevirtual 63, 3) := by decide +kernel
theorem dX9_length_8 : decode cX9_length 8 = .ok (.ifCond .eq 15, 3) := by decide +kernel
theorem dX9_length_11 : decode cX9_length 11 = .ok (.aload_n 0, 1) := by decide +kernel
theorem dX9_length_12 : decode cX9_length 12 = .ok (.iload_n 1, 1) := by decide +kernel
theorem dX9_length_13 : decode cX9_length 13 = .ok (.aload_n 0, 1) := by decide +kernel
theorem dX9_length_14 : decode cX9_length 14 = .ok (.getfield 49, 3) := by decide +kernel
theorem dX9_length_17 : decode cX9_length 17 = .ok (.invokevirtual 70, 3) := by decide +kernel
theorem dX9_length_20 : decode cX9_length 20 = .ok (.goto 4, 3) := by decide +kernel
theorem dX9_length_23 : decode cX9_length 23 = .ok (.iconst (-1), 1) := by decide +kernel
theorem dX9_length_24 : decode cX9_length 24 = .ok (.ireturn, 1) := by decide +kernel
theorem dX9_at_0 : decode cX9_at 0 = .ok (.aload_n 0, 1) := by decide +kernel
theorem dX9_at_1 : decode cX9_at 1 = .ok (.iload_n 1, 1) := by decide +kernel
theorem dX9_at_2 : decode cX9_at 2 = .ok (.iload_n 2, 1) := by decide +kernel
theorem dX9_at_3 : decode cX9_at 3 = .ok (.invokevirtual 82, 3) := by decide +kernel
theorem dX9_at_6 : decode cX9_at 6 = .ok (.istore 4, 2) := by decide +kernel
theorem dX9_at_8 : decode cX9_at 8 = .ok (.iload 4, 2) := by decide +kernel
theorem dX9_at_10 : decode cX9_at 10 = .ok (.ifCond .ne 13, 3) := by decide +kernel
theorem dX9_at_13 : decode cX9_at 13 = .ok (.new 180, 3) := by decide +kernel
theorem dX9_at_16 : decode cX9_at 16 = .ok (.dup, 1) := by decide +kernel
theorem dX9_at_17 : decode cX9_at 17 = .ok (.ldc 182, 2) := by decide +kernel
theorem dX9_at_19 : decode cX9_at 19 = .ok (.invokespecial 184, 3) := by decide +kernel
theorem dX9_at_22 : decode cX9_at 22 = .ok (.athrow, 1) := by decide +kernel
theorem dX9_at_23 : decode cX9_at 23 = .ok (.aload_n 0, 1) := by decide +kernel
theorem dX9_at_24 : decode cX9_at 24 = .ok (.getfield 12, 3) := by decide +kernel
theorem dX9_at_27 : decode cX9_at 27 = .ok (.getfield 101, 3) := by decide +kernel
theorem dX9_at_30 : decode cX9_at 30 = .ok (.iload_n 1, 1) := by decide +kernel
theorem dX9_at_31 : decode cX9_at 31 = .ok (.aaload, 1) := by decide +kernel
theorem dX9_at_32 : decode cX9_at 32 = .ok (.getfield 105, 3) := by decide +kernel
theorem dX9_at_35 : decode cX9_at 35 = .ok (.astore 5, 2) := by decide +kernel
theorem dX9_at_37 : decode cX9_at 37 = .ok (.iload_n 3, 1) := by decide +kernel
theorem dX9_at_38 : decode cX9_at 38 = .ok (.tableswitch 72 0 3 #[30, 36, 51, 63], 30) := by decide +kernel
theorem dX9_at_68 : decode cX9_at 68 = .ok (.iload 4, 2) := by decide +kernel
theorem dX9_at_70 : decode cX9_at 70 = .ok (.invokestatic 149, 3) := by decide +kernel
theorem dX9_at_73 : decode cX9_at 73 = .ok (.ireturn, 1) := by decide +kernel
theorem dX9_at_74 : decode cX9_at 74 = .ok (.aload 5, 2) := by decide +kernel
theorem dX9_at_76 : decode cX9_at 76 = .ok (.aload_n 0, 1) := by decide +kernel
theorem dX9_at_77 : decode cX9_at 77 = .ok (.getfield 12, 3) := by decide +kernel
theorem dX9_at_80 : decode cX9_at 80 = .ok (.getfield 85, 3) := by decide +kernel
theorem dX9_at_83 : decode cX9_at 83 = .ok (.iload 4, 2) := by decide +kernel
theorem dX9_at_85 : decode cX9_at 85 = .ok (.invokevirtual 116, 3) := by decide +kernel
theorem dX9_at_88 : decode cX9_at 88 = .ok (.ireturn, 1) := by decide +kernel
theorem dX9_at_89 : decode cX9_at 89 = .ok (.aload 5, 2) := by decide +kernel
theorem dX9_at_91 : decode cX9_at 91 = .ok (.getfield 187, 3) := by decide +kernel
theorem dX9_at_94 : decode cX9_at 94 = .ok (.iload 4, 2) := by decide +kernel
theorem dX9_at_96 : decode cX9_at 96 = .ok (.iaload, 1) := by decide +kernel
theorem dX9_at_97 : decode cX9_at 97 = .ok (.invokestatic 149, 3) := by decide +kernel
theorem dX9_at_100 : decode cX9_at 100 = .ok (.ireturn, 1) := by decide +kernel
theorem dX9_at_101 : decode cX9_at 101 = .ok (.aload 5, 2) := by decide +kernel
theorem dX9_at_103 : decode cX9_at 103 = .ok (.getfield 190, 3) := by decide +kernel
theorem dX9_at_106 : decode cX9_at 106 = .ok (.iload 4, 2) := by decide +kernel
theorem dX9_at_108 : decode cX9_at 108 = .ok (.iaload, 1) := by decide +kernel
theorem dX9_at_109 : decode cX9_at 109 = .ok (.ireturn, 1) := by decide +kernel
theorem dX9_at_110 : decode cX9_at 110 = .ok (.new 180, 3) := by decide +kernel
theorem dX9_at_113 : decode cX9_at 113 = .ok (.dup, 1) := by decide +kernel
theorem dX9_at_114 : decode cX9_at 114 = .ok (.ldc 193, 2) := by decide +kernel
theorem dX9_at_116 : decode cX9_at 116 = .ok (.invokespecial 184, 3) := by decide +kernel
theorem dX9_at_119 : decode cX9_at 119 = .ok (.athrow, 1) := by decide +kernel
theorem dX9_index_0 : decode cX9_index 0 = .ok (.aload_n 0, 1) := by decide +kernel
theorem dX9_index_1 : decode cX9_index 1 = .ok (.getfield 12, 3) := by decide +kernel
theorem dX9_index_4 : decode cX9_index 4 = .ok (.getfield 85, 3) := by decide +kernel
theorem dX9_index_7 : decode cX9_index 7 = .ok (.iload_n 2, 1) := by decide +kernel
theorem dX9_index_8 : decode cX9_index 8 = .ok (.invokevirtual 195, 3) := by decide +kernel
theorem dX9_index_11 : decode cX9_index 11 = .ok (.istore_n 3, 1) := by decide +kernel
theorem dX9_index_12 : decode cX9_index 12 = .ok (.aload_n 0, 1) := by decide +kernel
theorem dX9_index_13 : decode cX9_index 13 = .ok (.getfield 12, 3) := by decide +kernel
theorem dX9_index_16 : decode cX9_index 16 = .ok (.iload_n 1, 1) := by decide +kernel
theorem dX9_index_17 : decode cX9_index 17 = .ok (.invokevirtual 63, 3) := by decide +kernel
theorem dX9_index_20 : decode cX9_index 20 = .ok (.ifCond .eq 7, 3) := by decide +kernel
theorem dX9_index_23 : decode cX9_index 23 = .ok (.iload_n 3, 1) := by decide +kernel
theorem dX9_index_24 : decode cX9_index 24 = .ok (.ifCond .ne 5, 3) := by decide +kernel
theorem dX9_index_27 : decode cX9_index 27 = .ok (.iconst (-1), 1) := by decide +kernel
theorem dX9_index_28 : decode cX9_index 28 = .ok (.ireturn, 1) := by decide +kernel
theorem dX9_index_29 : decode cX9_index 29 = .ok (.iload_n 3, 1) := by decide +kernel
theorem dX9_index_30 : decode cX9_index 30 = .ok (.aload_n 0, 1) := by decide +kernel
theorem dX9_index_31 : decode cX9_index 31 = .ok (.getfield 49, 3) := by decide +kernel
theorem dX9_index_34 : decode cX9_index 34 = .ok (.aload_n 0, 1) := by decide +kernel
theorem dX9_index_35 : decode cX9_index 35 = .ok (.iload_n 1, 1) := by decide +kernel
theorem dX9_index_36 : decode cX9_index 36 = .ok (.aload_n 0, 1) := by decide +kernel
theorem dX9_index_37 : decode cX9_index 37 = .ok (.getfield 49, 3) := by decide +kernel
theorem dX9_index_40 : decode cX9_index 40 = .ok (.invokevirtual 70, 3) := by decide +kernel
theorem dX9_index_43 : decode cX9_index 43 = .ok (.invokestatic 198, 3) := by decide +kernel
theorem dX9_index_46 : decode cX9_index 46 = .ok (.ireturn, 1) := by decide +kernel
theorem dX9_vector_0 : decode cX9_vector 0 = .ok (.aload_n 0, 1) := by decide +kernel
theorem dX9_vector_1 : decode cX9_vector 1 = .ok (.getfield 12, 3) := by decide +kernel
theorem dX9_vector_4 : decode cX9_vector 4 = .ok (.iload_n 1, 1) := by decide +kernel
theorem dX9_vector_5 : decode cX9_vector 5 = .ok (.invokevirtual 63, 3) := by decide +kernel
theorem dX9_vector_8 : decode cX9_vector 8 = .ok (.ifCond .eq 14, 3) := by decide +kernel
theorem dX9_vector_11 : decode cX9_vector 11 = .ok (.aload_n 0, 1) := by decide +kernel
theorem dX9_vector_12 : decode cX9_vector 12 = .ok (.getfield 12, 3) := by decide +kernel
theorem dX9_vector_15 : decode cX9_vector 15 = .ok (.iload_n 2, 1) := by decide +kernel
theorem dX9_vector_16 : decode cX9_vector 16 = .ok (.invokevirtual 63, 3) := by decide +kernel
theorem dX9_vector_19 : decode cX9_vector 19 = .ok (.ifCond .ne 5, 3) := by decide +kernel
theorem dX9_vector_22 : decode cX9_vector 22 = .ok (.iconst (-1), 1) := by decide +kernel
theorem dX9_vector_23 : decode cX9_vector 23 = .ok (.ireturn, 1) := by decide +kernel
theorem dX9_vector_24 : decode cX9_vector 24 = .ok (.aload_n 0, 1) := by decide +kernel
theorem dX9_vector_25 : decode cX9_vector 25 = .ok (.getfield 12, 3) := by decide +kernel
theorem dX9_vector_28 : decode cX9_vector 28 = .ok (.getfield 101, 3) := by decide +kernel
theorem dX9_vector_31 : decode cX9_vector 31 = .ok (.iload_n 1, 1) := by decide +kernel
theorem dX9_vector_32 : decode cX9_vector 32 = .ok (.aaload, 1) := by decide +kernel
theorem dX9_vector_33 : decode cX9_vector 33 = .ok (.getfield 159, 3) := by decide +kernel
theorem dX9_vector_36 : decode cX9_vector 36 = .ok (.iload_n 2, 1) := by decide +kernel
theorem dX9_vector_37 : decode cX9_vector 37 = .ok (.iaload, 1) := by decide +kernel
theorem dX9_vector_38 : decode cX9_vector 38 = .ok (.ireturn, 1) := by decide +kernel
theorem dX9_knows_0 : decode cX9_knows 0 = .ok (.aload_n 0, 1) := by decide +kernel
theorem dX9_knows_1 : decode cX9_knows 1 = .ok (.getfield 12, 3) := by decide +kernel
theorem dX9_knows_4 : decode cX9_knows 4 = .ok (.iload_n 1, 1) := by decide +kernel
theorem dX9_knows_5 : decode cX9_knows 5 = .ok (.invokevirtual 63, 3) := by decide +kernel
theorem dX9_knows_8 : decode cX9_knows 8 = .ok (.ifCond .eq 25, 3) := by decide +kernel
theorem dX9_knows_11 : decode cX9_knows 11 = .ok (.aload_n 0, 1) := by decide +kernel
theorem dX9_knows_12 : decode cX9_knows 12 = .ok (.getfield 12, 3) := by decide +kernel
theorem dX9_knows_15 : decode cX9_knows 15 = .ok (.iload_n 2, 1) := by decide +kernel
theorem dX9_knows_16 : decode cX9_knows 16 = .ok (.invokevirtual 63, 3) := by decide +kernel
theorem dX9_knows_19 : decode cX9_knows 19 = .ok (.ifCond .eq 14, 3) := by decide +kernel
theorem dX9_knows_22 : decode cX9_knows 22 = .ok (.aload_n 0, 1) := by decide +kernel
theorem dX9_knows_23 : decode cX9_knows 23 = .ok (.getfield 12, 3) := by decide +kernel
theorem dX9_knows_26 : decode cX9_knows 26 = .ok (.iload_n 3, 1) := by decide +kernel
theorem dX9_knows_27 : decode cX9_knows 27 = .ok (.invokevirtual 63, 3) := by decide +kernel
theorem dX9_knows_30 : decode cX9_knows 30 = .ok (.ifCond .ne 5, 3) := by decide +kernel
theorem dX9_knows_33 : decode cX9_knows 33 = .ok (.iconst (-1), 1) := by decide +kernel
theorem dX9_knows_34 : decode cX9_knows 34 = .ok (.ireturn, 1) := by decide +kernel
theorem dX9_knows_35 : decode cX9_knows 35 = .ok (.aload_n 0, 1) := by decide +kernel
theorem dX9_knows_36 : decode cX9_knows 36 = .ok (.getfield 12, 3) := by decide +kernel
theorem dX9_knows_39 : decode cX9_knows 39 = .ok (.getfield 101, 3) := by decide +kernel
theorem dX9_knows_42 : decode cX9_knows 42 = .ok (.iload_n 1, 1) := by decide +kernel
theorem dX9_knows_43 : decode cX9_knows 43 = .ok (.aaload, 1) := by decide +kernel
theorem dX9_knows_44 : decode cX9_knows 44 = .ok (.astore 4, 2) := by decide +kernel
theorem dX9_knows_46 : decode cX9_knows 46 = .ok (.iload_n 2, 1) := by decide +kernel
theorem dX9_knows_47 : decode cX9_knows 47 = .ok (.iload_n 1, 1) := by decide +kernel
theorem dX9_knows_48 : decode cX9_knows 48 = .ok (.if_icmp .ne 13, 3) := by decide +kernel
theorem dX9_knows_51 : decode cX9_knows 51 = .ok (.aload 4, 2) := by decide +kernel
theorem dX9_knows_53 : decode cX9_knows 53 = .ok (.getfield 159, 3) := by decide +kernel
theorem dX9_knows_56 : decode cX9_knows 56 = .ok (.iload_n 3, 1) := by decide +kernel
theorem dX9_knows_57 : decode cX9_knows 57 = .ok (.iaload, 1) := by decide +kernel
theorem dX9_knows_58 : decode cX9_knows 58 = .ok (.goto 14, 3) := by decide +kernel
theorem dX9_knows_61 : decode cX9_knows 61 = .ok (.aload 4, 2) := by decide +kernel
theorem dX9_knows_63 : decode cX9_knows 63 = .ok (.getfield 202, 3) := by decide +kernel
theorem dX9_knows_66 : decode cX9_knows 66 = .ok (.iload_n 2, 1) := by decide +kernel
theorem dX9_knows_67 : decode cX9_knows 67 = .ok (.iconst 5, 1) := by decide +kernel
theorem dX9_knows_68 : decode cX9_knows 68 = .ok (.imul, 1) := by decide +kernel
theorem dX9_knows_69 : decode cX9_knows 69 = .ok (.iload_n 3, 1) := by decide +kernel
theorem dX9_knows_70 : decode cX9_knows 70 = .ok (.iadd, 1) := by decide +kernel
theorem dX9_knows_71 : decode cX9_knows 71 = .ok (.iaload, 1) := by decide +kernel
theorem dX9_knows_72 : decode cX9_knows 72 = .ok (.ireturn, 1) := by decide +kernel
theorem dX9_floor_0 : decode cX9_floor 0 = .ok (.aload_n 0, 1) := by decide +kernel
theorem dX9_floor_1 : decode cX9_floor 1 = .ok (.getfield 12, 3) := by decide +kernel
theorem dX9_floor_4 : decode cX9_floor 4 = .ok (.iload_n 1, 1) := by decide +kernel
theorem dX9_floor_5 : decode cX9_floor 5 = .ok (.invokevirtual 63, 3) := by decide +kernel
theorem dX9_floor_8 : decode cX9_floor 8 = .ok (.ifCond .eq 14, 3) := by decide +kernel
theorem dX9_floor_11 : decode cX9_floor 11 = .ok (.aload_n 0, 1) := by decide +kernel
theorem dX9_floor_12 : decode cX9_floor 12 = .ok (.getfield 12, 3) := by decide +kernel
theorem dX9_floor_15 : decode cX9_floor 15 = .ok (.iload_n 2, 1) := by decide +kernel
theorem dX9_floor_16 : decode cX9_floor 16 = .ok (.invokevirtual 63, 3) := by decide +kernel
theorem dX9_floor_19 : decode cX9_floor 19 = .ok (.ifCond .ne 5, 3) := by decide +kernel
theorem dX9_floor_22 : decode cX9_floor 22 = .ok (.iconst (-1), 1) := by decide +kernel
theorem dX9_floor_23 : decode cX9_floor 23 = .ok (.ireturn, 1) := by decide +kernel
theorem dX9_floor_24 : decode cX9_floor 24 = .ok (.aload_n 0, 1) := by decide +kernel
theorem dX9_floor_25 : decode cX9_floor 25 = .ok (.getfield 12, 3) := by decide +kernel
theorem dX9_floor_28 : decode cX9_floor 28 = .ok (.iload_n 1, 1) := by decide +kernel
theorem dX9_floor_29 : decode cX9_floor 29 = .ok (.iload_n 2, 1) := by decide +kernel
theorem dX9_floor_30 : decode cX9_floor 30 = .ok (.invokevirtual 205, 3) := by decide +kernel
theorem dX9_floor_33 : decode cX9_floor 33 = .ok (.ireturn, 1) := by decide +kernel
theorem dX9_post_0 : decode cX9_post 0 = .ok (.aload_n 0, 1) := by decide +kernel
theorem dX9_post_1 : decode cX9_post 1 = .ok (.getfield 12, 3) := by decide +kernel
theorem dX9_post_4 : decode cX9_post 4 = .ok (.iload_n 1, 1) := by decide +kernel
theorem dX9_post_5 : decode cX9_post 5 = .ok (.invokevirtual 63, 3) := by decide +kernel
theorem dX9_post_8 : decode cX9_post 8 = .ok (.ifCond .eq 12, 3) := by decide +kernel
theorem dX9_post_11 : decode cX9_post 11 = .ok (.iload_n 2, 1) := by decide +kernel
theorem dX9_post_12 : decode cX9_post 12 = .ok (.ifCond .lt 8, 3) := by decide +kernel
theorem dX9_post_15 : decode cX9_post 15 = .ok (.iload_n 2, 1) := by decide +kernel
theorem dX9_post_16 : decode cX9_post 16 = .ok (.iconst 1, 1) := by decide +kernel
theorem dX9_post_17 : decode cX9_post 17 = .ok (.if_icmp .le 5, 3) := by decide +kernel
theorem dX9_post_20 : decode cX9_post 20 = .ok (.iconst (-1), 1) := by decide +kernel
theorem dX9_post_21 : decode cX9_post 21 = .ok (.ireturn, 1) := by decide +kernel
theorem dX9_post_22 : decode cX9_post 22 = .ok (.iload_n 2, 1) := by decide +kernel
theorem dX9_post_23 : decode cX9_post 23 = .ok (.ifCond .ne 18, 3) := by decide +kernel
theorem dX9_post_26 : decode cX9_post 26 = .ok (.aload_n 0, 1) := by decide +kernel
theorem dX9_post_27 : decode cX9_post 27 = .ok (.getfield 12, 3) := by decide +kernel
theorem dX9_post_30 : decode cX9_post 30 = .ok (.getfield 101, 3) := by decide +kernel
theorem dX9_post_33 : decode cX9_post 33 = .ok (.iload_n 1, 1) := by decide +kernel
theorem dX9_post_34 : decode cX9_post 34 = .ok (.aaload, 1) := by decide +kernel
theorem dX9_post_35 : decode cX9_post 35 = .ok (.getfield 134, 3) := by decide +kernel
theorem dX9_post_38 : decode cX9_post 38 = .ok (.goto 15, 3) := by decide +kernel
theorem dX9_post_41 : decode cX9_post 41 = .ok (.aload_n 0, 1) := by decide +kernel
theorem dX9_post_42 : decode cX9_post 42 = .ok (.getfield 12, 3) := by decide +kernel
theorem dX9_post_45 : decode cX9_post 45 = .ok (.getfield 101, 3) := by decide +kernel
theorem dX9_post_48 : decode cX9_post 48 = .ok (.iload_n 1, 1) := by decide +kernel
theorem dX9_post_49 : decode cX9_post 49 = .ok (.aaload, 1) := by decide +kernel
theorem dX9_post_50 : decode cX9_post 50 = .ok (.getfield 208, 3) := by decide +kernel
theorem dX9_post_53 : decode cX9_post 53 = .ok (.astore 4, 2) := by decide +kernel
theorem dX9_post_55 : decode cX9_post 55 = .ok (.aload 4, 2) := by decide +kernel
theorem dX9_post_57 : decode cX9_post 57 = .ok (.getfield 211, 3) := by decide +kernel
theorem dX9_post_60 : decode cX9_post 60 = .ok (.aload 4, 2) := by decide +kernel
theorem dX9_post_62 : decode cX9_post 62 = .ok (.getfield 214, 3) := by decide +kernel
theorem dX9_post_65 : decode cX9_post 65 = .ok (.iload_n 3, 1) := by decide +kernel
theorem dX9_post_66 : decode cX9_post 66 = .ok (.invokestatic 217, 3) := by decide +kernel
theorem dX9_post_69 : decode cX9_post 69 = .ok (.ireturn, 1) := by decide +kernel
theorem dX9_op_0 : decode cX9_op 0 = .ok (.aload_n 0, 1) := by decide +kernel
theorem dX9_op_1 : decode cX9_op 1 = .ok (.getfield 12, 3) := by decide +kernel
theorem dX9_op_4 : decode cX9_op 4 = .ok (.getfield 85, 3) := by decide +kernel
theorem dX9_op_7 : decode cX9_op 7 = .ok (.astore_n 3, 1) := by decide +kernel
theorem dX9_op_8 : decode cX9_op 8 = .ok (.aload_n 3, 1) := by decide +kernel
theorem dX9_op_9 : decode cX9_op 9 = .ok (.iload_n 1, 1) := by decide +kernel
theorem dX9_op_10 : decode cX9_op 10 = .ok (.invokevirtual 195, 3) := by decide +kernel
theorem dX9_op_13 : decode cX9_op 13 = .ok (.istore 4, 2) := by decide +kernel
theorem dX9_op_15 : decode cX9_op 15 = .ok (.iload 4, 2) := by decide +kernel
theorem dX9_op_17 : decode cX9_op 17 = .ok (.ifCond .ne 6, 3) := by decide +kernel
theorem dX9_op_20 : decode cX9_op 20 = .ok (.bipush (-2), 2) := by decide +kernel
theorem dX9_op_22 : decode cX9_op 22 = .ok (.ireturn, 1) := by decide +kernel
theorem dX9_op_23 : decode cX9_op 23 = .ok (.iload_n 2, 1) := by decide +kernel
theorem dX9_op_24 : decode cX9_op 24 = .ok (.tableswitch 96 0 4 #[36, 44, 51, 62, 88], 36) := by decide +kernel
theorem dX9_op_60 : decode cX9_op 60 = .ok (.aload_n 3, 1) := by decide +kernel
theorem dX9_op_61 : decode cX9_op 61 = .ok (.getfield 95, 3) := by decide +kernel
theorem dX9_op_64 : decode cX9_op 64 = .ok (.iload 4, 2) := by decide +kernel
theorem dX9_op_66 : decode cX9_op 66 = .ok (.iaload, 1) := by decide +kernel
theorem dX9_op_67 : decode cX9_op 67 = .ok (.ireturn, 1) := by decide +kernel
theorem dX9_op_68 : decode cX9_op 68 = .ok (.aload_n 3, 1) := by decide +kernel
theorem dX9_op_69 : decode cX9_op 69 = .ok (.iload 4, 2) := by decide +kernel
theorem dX9_op_71 : decode cX9_op 71 = .ok (.invokevirtual 221, 3) := by decide +kernel
theorem dX9_op_74 : decode cX9_op 74 = .ok (.ireturn, 1) := by decide +kernel
theorem dX9_op_75 : decode cX9_op 75 = .ok (.aload_n 3, 1) := by decide +kernel
theorem dX9_op_76 : decode cX9_op 76 = .ok (.getfield 98, 3) := by decide +kernel
theorem dX9_op_79 : decode cX9_op 79 = .ok (.iload 4, 2) := by decide +kernel
theorem dX9_op_81 : decode cX9_op 81 = .ok (.iaload, 1) := by decide +kernel
theorem dX9_op_82 : decode cX9_op 82 = .ok (.invokestatic 149, 3) := by decide +kernel
theorem dX9_op_85 : decode cX9_op 85 = .ok (.ireturn, 1) := by decide +kernel
theorem dX9_op_86 : decode cX9_op 86 = .ok (.aload_n 3, 1) := by decide +kernel
theorem dX9_op_87 : decode cX9_op 87 = .ok (.getfield 224, 3) := by decide +kernel
theorem dX9_op_90 : decode cX9_op 90 = .ok (.iload 4, 2) := by decide +kernel
theorem dX9_op_92 : decode cX9_op 92 = .ok (.iaload, 1) := by decide +kernel
theorem dX9_op_93 : decode cX9_op 93 = .ok (.iconst (-1), 1) := by decide +kernel
theorem dX9_op_94 : decode cX9_op 94 = .ok (.if_icmp .ne 7, 3) := by decide +kernel
theorem dX9_op_97 : decode cX9_op 97 = .ok (.iconst (-1), 1) := by decide +kernel
theorem dX9_op_98 : decode cX9_op 98 = .ok (.goto 13, 3) := by decide +kernel
theorem dX9_op_101 : decode cX9_op 101 = .ok (.aload_n 3, 1) := by decide +kernel
theorem dX9_op_102 : decode cX9_op 102 = .ok (.getfield 224, 3) := by decide +kernel
theorem dX9_op_105 : decode cX9_op 105 = .ok (.iload 4, 2) := by decide +kernel
theorem dX9_op_107 : decode cX9_op 107 = .ok (.iaload, 1) := by decide +kernel
theorem dX9_op_108 : decode cX9_op 108 = .ok (.invokestatic 149, 3) := by decide +kernel
theorem dX9_op_111 : decode cX9_op 111 = .ok (.ireturn, 1) := by decide +kernel
theorem dX9_op_112 : decode cX9_op 112 = .ok (.aload_n 3, 1) := by decide +kernel
theorem dX9_op_113 : decode cX9_op 113 = .ok (.getfield 227, 3) := by decide +kernel
theorem dX9_op_116 : decode cX9_op 116 = .ok (.iload 4, 2) := by decide +kernel
theorem dX9_op_118 : decode cX9_op 118 = .ok (.iaload, 1) := by decide +kernel
theorem dX9_op_119 : decode cX9_op 119 = .ok (.ireturn, 1) := by decide +kernel
theorem dX9_op_120 : decode cX9_op 120 = .ok (.bipush (-2), 2) := by decide +kernel
theorem dX9_op_122 : decode cX9_op 122 = .ok (.ireturn, 1) := by decide +kernel
theorem dX9_needs_0 : decode cX9_needs 0 = .ok (.aload_n 0, 1) := by decide +kernel
theorem dX9_needs_1 : decode cX9_needs 1 = .ok (.getfield 12, 3) := by decide +kernel
theorem dX9_needs_4 : decode cX9_needs 4 = .ok (.getfield 85, 3) := by decide +kernel
theorem dX9_needs_7 : decode cX9_needs 7 = .ok (.iload_n 1, 1) := by decide +kernel
theorem dX9_needs_8 : decode cX9_needs 8 = .ok (.invokevirtual 195, 3) := by decide +kernel
theorem dX9_needs_11 : decode cX9_needs 11 = .ok (.istore_n 3, 1) := by decide +kernel
theorem dX9_needs_12 : decode cX9_needs 12 = .ok (.iload_n 3, 1) := by decide +kernel
theorem dX9_needs_13 : decode cX9_needs 13 = .ok (.ifCond .eq 14, 3) := by decide +kernel
theorem dX9_needs_16 : decode cX9_needs 16 = .ok (.aload_n 0, 1) := by decide +kernel
theorem dX9_needs_17 : decode cX9_needs 17 = .ok (.getfield 12, 3) := by decide +kernel
theorem dX9_needs_20 : decode cX9_needs 20 = .ok (.iload_n 2, 1) := by decide +kernel
theorem dX9_needs_21 : decode cX9_needs 21 = .ok (.invokevirtual 63, 3) := by decide +kernel
theorem dX9_needs_24 : decode cX9_needs 24 = .ok (.ifCond .ne 5, 3) := by decide +kernel
theorem dX9_needs_27 : decode cX9_needs 27 = .ok (.iconst (-1), 1) := by decide +kernel
theorem dX9_needs_28 : decode cX9_needs 28 = .ok (.ireturn, 1) := by decide +kernel
theorem dX9_needs_29 : decode cX9_needs 29 = .ok (.aload_n 0, 1) := by decide +kernel
theorem dX9_needs_30 : decode cX9_needs 30 = .ok (.getfield 12, 3) := by decide +kernel
theorem dX9_needs_33 : decode cX9_needs 33 = .ok (.getfield 85, 3) := by decide +kernel
theorem dX9_needs_36 : decode cX9_needs 36 = .ok (.getfield 230, 3) := by decide +kernel
theorem dX9_needs_39 : decode cX9_needs 39 = .ok (.iload_n 3, 1) := by decide +kernel
theorem dX9_needs_40 : decode cX9_needs 40 = .ok (.iconst 5, 1) := by decide +kernel
theorem dX9_needs_41 : decode cX9_needs 41 = .ok (.imul, 1) := by decide +kernel
theorem dX9_needs_42 : decode cX9_needs 42 = .ok (.iload_n 2, 1) := by decide +kernel
theorem dX9_needs_43 : decode cX9_needs 43 = .ok (.iadd, 1) := by decide +kernel
theorem dX9_needs_44 : decode cX9_needs 44 = .ok (.iaload, 1) := by decide +kernel
theorem dX9_needs_45 : decode cX9_needs 45 = .ok (.ireturn, 1) := by decide +kernel
theorem dX9_ahead_0 : decode cX9_ahead 0 = .ok (.aload_n 0, 1) := by decide +kernel
theorem dX9_ahead_1 : decode cX9_ahead 1 = .ok (.getfield 12, 3) := by decide +kernel
theorem dX9_ahead_4 : decode cX9_ahead 4 = .ok (.getfield 85, 3) := by decide +kernel
theorem dX9_ahead_7 : decode cX9_ahead 7 = .ok (.iload_n 1, 1) := by decide +kernel
theorem dX9_ahead_8 : decode cX9_ahead 8 = .ok (.invokevirtual 195, 3) := by decide +kernel
theorem dX9_ahead_11 : decode cX9_ahead 11 = .ok (.istore_n 3, 1) := by decide +kernel
theorem dX9_ahead_12 : decode cX9_ahead 12 = .ok (.aload_n 0, 1) := by decide +kernel
theorem dX9_ahead_13 : decode cX9_ahead 13 = .ok (.getfield 12, 3) := by decide +kernel
theorem dX9_ahead_16 : decode cX9_ahead 16 = .ok (.getfield 85, 3) := by decide +kernel
theorem dX9_ahead_19 : decode cX9_ahead 19 = .ok (.iload_n 2, 1) := by decide +kernel
theorem dX9_ahead_20 : decode cX9_ahead 20 = .ok (.invokevirtual 195, 3) := by decide +kernel
theorem dX9_ahead_23 : decode cX9_ahead 23 = .ok (.istore 4, 2) := by decide +kernel
theorem dX9_ahead_25 : decode cX9_ahead 25 = .ok (.iload_n 3, 1) := by decide +kernel
theorem dX9_ahead_26 : decode cX9_ahead 26 = .ok (.ifCond .eq 8, 3) := by decide +kernel
theorem dX9_ahead_29 : decode cX9_ahead 29 = .ok (.iload 4, 2) := by decide +kernel
theorem dX9_ahead_31 : decode cX9_ahead 31 = .ok (.ifCond .ne 5, 3) := by decide +kernel
theorem dX9_ahead_34 : decode cX9_ahead 34 = .ok (.iconst (-1), 1) := by decide +kernel
theorem dX9_ahead_35 : decode cX9_ahead 35 = .ok (.ireturn, 1) := by decide +kernel
theorem dX9_ahead_36 : decode cX9_ahead 36 = .ok (.iload_n 3, 1) := by decide +kernel
theorem dX9_ahead_37 : decode cX9_ahead 37 = .ok (.iload 4, 2) := by decide +kernel
theorem dX9_ahead_39 : decode cX9_ahead 39 = .ok (.if_icmp .ne 5, 3) := by decide +kernel
theorem dX9_ahead_42 : decode cX9_ahead 42 = .ok (.iconst 3, 1) := by decide +kernel
theorem dX9_ahead_43 : decode cX9_ahead 43 = .ok (.ireturn, 1) := by decide +kernel
theorem dX9_ahead_44 : decode cX9_ahead 44 = .ok (.aload_n 0, 1) := by decide +kernel
theorem dX9_ahead_45 : decode cX9_ahead 45 = .ok (.getfield 12, 3) := by decide +kernel
theorem dX9_ahead_48 : decode cX9_ahead 48 = .ok (.getfield 85, 3) := by decide +kernel
theorem dX9_ahead_51 : decode cX9_ahead 51 = .ok (.iload_n 3, 1) := by decide +kernel
theorem dX9_ahead_52 : decode cX9_ahead 52 = .ok (.iload 4, 2) := by decide +kernel
theorem dX9_ahead_54 : decode cX9_ahead 54 = .ok (.invokevirtual 233, 3) := by decide +kernel
theorem dX9_ahead_57 : decode cX9_ahead 57 = .ok (.ifCond .eq 5, 3) := by decide +kernel
theorem dX9_ahead_60 : decode cX9_ahead 60 = .ok (.iconst 0, 1) := by decide +kernel
theorem dX9_ahead_61 : decode cX9_ahead 61 = .ok (.ireturn, 1) := by decide +kernel
theorem dX9_ahead_62 : decode cX9_ahead 62 = .ok (.aload_n 0, 1) := by decide +kernel
theorem dX9_ahead_63 : decode cX9_ahead 63 = .ok (.getfield 12, 3) := by decide +kernel
theorem dX9_ahead_66 : decode cX9_ahead 66 = .ok (.getfield 85, 3) := by decide +kernel
theorem dX9_ahead_69 : decode cX9_ahead 69 = .ok (.iload 4, 2) := by decide +kernel
theorem dX9_ahead_71 : decode cX9_ahead 71 = .ok (.iload_n 3, 1) := by decide +kernel
theorem dX9_ahead_72 : decode cX9_ahead 72 = .ok (.invokevirtual 233, 3) := by decide +kernel
theorem dX9_ahead_75 : decode cX9_ahead 75 = .ok (.ifCond .eq 7, 3) := by decide +kernel
theorem dX9_ahead_78 : decode cX9_ahead 78 = .ok (.iconst 1, 1) := by decide +kernel
theorem dX9_ahead_79 : decode cX9_ahead 79 = .ok (.goto 4, 3) := by decide +kernel
theorem dX9_ahead_82 : decode cX9_ahead 82 = .ok (.iconst 2, 1) := by decide +kernel
theorem dX9_ahead_83 : decode cX9_ahead 83 = .ok (.ireturn, 1) := by decide +kernel
