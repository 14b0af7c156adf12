theorem dX10_lose_0 : decode cX10_lose 0 = .ok (.aload_n 0, 1) := by decide +kernel
theorem dX10_lose_1 : decode cX10_lose 1 = .ok (.iconst 0, 1) := by decide +kernel
theorem dX10_lose_2 : decode cX10_lose 2 = .ok (.putfield 1, 3) := by decide +kernel
theorem dX10_lose_5 : decode cX10_lose 5 = .ok (.aload_n 0, 1) := by decide +kernel
theorem dX10_lose_6 : decode cX10_lose 6 = .ok (.iload_n 1, 1) := by decide +kernel
theorem dX10_lose_7 : decode cX10_lose 7 = .ok (.iload_n 2, 1) := by decide +kernel
theorem dX10_lose_8 : decode cX10_lose 8 = .ok (.invokevirtual 167, 3) := by decide +kernel
theorem dX10_lose_11 : decode cX10_lose 11 = .ok (.ifCond .ne 5, 3) := by decide +kernel
theorem dX10_lose_14 : decode cX10_lose 14 = .ok (.iconst (-1), 1) := by decide +kernel
theorem dX10_lose_15 : decode cX10_lose 15 = .ok (.ireturn, 1) := by decide +kernel
theorem dX10_lose_16 : decode cX10_lose 16 = .ok (.aload_n 0, 1) := by decide +kernel
theorem dX10_lose_17 : decode cX10_lose 17 = .ok (.iload_n 1, 1) := by decide +kernel
theorem dX10_lose_18 : decode cX10_lose 18 = .ok (.bipush 8, 2) := by decide +kernel
theorem dX10_lose_20 : decode cX10_lose 20 = .ok (.iload_n 2, 1) := by decide +kernel
theorem dX10_lose_21 : decode cX10_lose 21 = .ok (.iadd, 1) := by decide +kernel
theorem dX10_lose_22 : decode cX10_lose 22 = .ok (.invokevirtual 81, 3) := by decide +kernel
theorem dX10_lose_25 : decode cX10_lose 25 = .ok (.istore_n 3, 1) := by decide +kernel
theorem dX10_lose_26 : decode cX10_lose 26 = .ok (.aload_n 0, 1) := by decide +kernel
theorem dX10_lose_27 : decode cX10_lose 27 = .ok (.iload_n 1, 1) := by decide +kernel
theorem dX10_lose_28 : decode cX10_lose 28 = .ok (.bipush 8, 2) := by decide +kernel
theorem dX10_lose_30 : decode cX10_lose 30 = .ok (.bipush 7, 2) := by decide +kernel
theorem dX10_lose_32 : decode cX10_lose 32 = .ok (.iload_n 2, 1) := by decide +kernel
theorem dX10_lose_33 : decode cX10_lose 33 = .ok (.invokevirtual 151, 3) := by decide +kernel
theorem dX10_lose_36 : decode cX10_lose 36 = .ok (.aload_n 0, 1) := by decide +kernel
theorem dX10_lose_37 : decode cX10_lose 37 = .ok (.getfield 13, 3) := by decide +kernel
theorem dX10_lose_40 : decode cX10_lose 40 = .ok (.iconst 1, 1) := by decide +kernel
theorem dX10_lose_41 : decode cX10_lose 41 = .ok (.dup2, 1) := by decide +kernel
theorem dX10_lose_42 : decode cX10_lose 42 = .ok (.iaload, 1) := by decide +kernel
theorem dX10_lose_43 : decode cX10_lose 43 = .ok (.iconst 1, 1) := by decide +kernel
theorem dX10_lose_44 : decode cX10_lose 44 = .ok (.iadd, 1) := by decide +kernel
theorem dX10_lose_45 : decode cX10_lose 45 = .ok (.iastore, 1) := by decide +kernel
theorem dX10_lose_46 : decode cX10_lose 46 = .ok (.iload_n 3, 1) := by decide +kernel
theorem dX10_lose_47 : decode cX10_lose 47 = .ok (.invokestatic 128, 3) := by decide +kernel
theorem dX10_lose_50 : decode cX10_lose 50 = .ok (.ireturn, 1) := by decide +kernel
theorem dX10_twice_0 : decode cX10_twice 0 = .ok (.aload_n 0, 1) := by decide +kernel
theorem dX10_twice_1 : decode cX10_twice 1 = .ok (.iconst 0, 1) := by decide +kernel
theorem dX10_twice_2 : decode cX10_twice 2 = .ok (.putfield 1, 3) := by decide +kernel
theorem dX10_twice_5 : decode cX10_twice 5 = .ok (.aload_n 0, 1) := by decide +kernel
theorem dX10_twice_6 : decode cX10_twice 6 = .ok (.iload_n 1, 1) := by decide +kernel
theorem dX10_twice_7 : decode cX10_twice 7 = .ok (.iload_n 2, 1) := by decide +kernel
theorem dX10_twice_8 : decode cX10_twice 8 = .ok (.invokevirtual 167, 3) := by decide +kernel
theorem dX10_twice_11 : decode cX10_twice 11 = .ok (.ifCond .eq 15, 3) := by decide +kernel
theorem dX10_twice_14 : decode cX10_twice 14 = .ok (.aload_n 0, 1) := by decide +kernel
theorem dX10_twice_15 : decode cX10_twice 15 = .ok (.iload_n 1, 1) := by decide +kernel
theorem dX10_twice_16 : decode cX10_twice 16 = .ok (.bipush 7, 2) := by decide +kernel
theorem dX10_twice_18 : decode cX10_twice 18 = .ok (.invokevirtual 81, 3) := by decide +kernel
theorem dX10_twice_21 : decode cX10_twice 21 = .ok (.bipush 60, 2) := by decide +kernel
theorem dX10_twice_23 : decode cX10_twice 23 = .ok (.if_icmp .ne 5, 3) := by decide +kernel
theorem dX10_twice_26 : decode cX10_twice 26 = .ok (.iconst (-1), 1) := by decide +kernel
theorem dX10_twice_27 : decode cX10_twice 27 = .ok (.ireturn, 1) := by decide +kernel
theorem dX10_twice_28 : decode cX10_twice 28 = .ok (.aload_n 0, 1) := by decide +kernel
theorem dX10_twice_29 : decode cX10_twice 29 = .ok (.iload_n 1, 1) := by decide +kernel
theorem dX10_twice_30 : decode cX10_twice 30 = .ok (.bipush 8, 2) := by decide +kernel
theorem dX10_twice_32 : decode cX10_twice 32 = .ok (.iload_n 2, 1) := by decide +kernel
theorem dX10_twice_33 : decode cX10_twice 33 = .ok (.iadd, 1) := by decide +kernel
theorem dX10_twice_34 : decode cX10_twice 34 = .ok (.invokevirtual 81, 3) := by decide +kernel
theorem dX10_twice_37 : decode cX10_twice 37 = .ok (.istore_n 3, 1) := by decide +kernel
theorem dX10_twice_38 : decode cX10_twice 38 = .ok (.aload_n 0, 1) := by decide +kernel
theorem dX10_twice_39 : decode cX10_twice 39 = .ok (.iload_n 1, 1) := by decide +kernel
theorem dX10_twice_40 : decode cX10_twice 40 = .ok (.iload_n 3, 1) := by decide +kernel
theorem dX10_twice_41 : decode cX10_twice 41 = .ok (.invokevirtual 131, 3) := by decide +kernel
theorem dX10_twice_44 : decode cX10_twice 44 = .ok (.iload_n 3, 1) := by decide +kernel
theorem dX10_twice_45 : decode cX10_twice 45 = .ok (.invokestatic 128, 3) := by decide +kernel
theorem dX10_twice_48 : decode cX10_twice 48 = .ok (.ireturn, 1) := by decide +kernel
theorem dX10_syncs_0 : decode cX10_syncs 0 = .ok (.iconst 0, 1) := by decide +kernel
theorem dX10_syncs_1 : decode cX10_syncs 1 = .ok (.istore_n 3, 1) := by decide +kernel
theorem dX10_syncs_2 : decode cX10_syncs 2 = .ok (.iconst 0, 1) := by decide +kernel
theorem dX10_syncs_3 : decode cX10_syncs 3 = .ok (.istore 4, 2) := by decide +kernel
theorem dX10_syncs_5 : decode cX10_syncs 5 = .ok (.iload 4, 2) := by decide +kernel
theorem dX10_syncs_7 : decode cX10_syncs 7 = .ok (.ifCond .lt 98, 3) := by decide +kernel
theorem dX10_syncs_10 : decode cX10_syncs 10 = .ok (.iconst (-1), 1) := by decide +kernel
theorem dX10_syncs_11 : decode cX10_syncs 11 = .ok (.istore 4, 2) := by decide +kernel
theorem dX10_syncs_13 : decode cX10_syncs 13 = .ok (.iconst 0, 1) := by decide +kernel
theorem dX10_syncs_14 : decode cX10_syncs 14 = .ok (.istore 5, 2) := by decide +kernel
theorem dX10_syncs_16 : decode cX10_syncs 16 = .ok (.iload 5, 2) := by decide +kernel
theorem dX10_syncs_18 : decode cX10_syncs 18 = .ok (.sipush 200, 3) := by decide +kernel
theorem dX10_syncs_21 : decode cX10_syncs 21 = .ok (.if_icmp .ge 66, 3) := by decide +kernel
theorem dX10_syncs_24 : decode cX10_syncs 24 = .ok (.aload_n 0, 1) := by decide +kernel
theorem dX10_syncs_25 : decode cX10_syncs 25 = .ok (.iload_n 1, 1) := by decide +kernel
theorem dX10_syncs_26 : decode cX10_syncs 26 = .ok (.iload 5, 2) := by decide +kernel
theorem dX10_syncs_28 : decode cX10_syncs 28 = .ok (.invokevirtual 87, 3) := by decide +kernel
theorem dX10_syncs_31 : decode cX10_syncs 31 = .ok (.ifCond .eq 17, 3) := by decide +kernel
theorem dX10_syncs_34 : decode cX10_syncs 34 = .ok (.aload_n 0, 1) := by decide +kernel
theorem dX10_syncs_35 : decode cX10_syncs 35 = .ok (.iload_n 2, 1) := by decide +kernel
theorem dX10_syncs_36 : decode cX10_syncs 36 = .ok (.iload 5, 2) := by decide +kernel
theorem dX10_syncs_38 : decode cX10_syncs 38 = .ok (.invokevirtual 87, 3) := by decide +kernel
theorem dX10_syncs_41 : decode cX10_syncs 41 = .ok (.ifCond .ne 7, 3) := by decide +kernel
theorem dX10_syncs_44 : decode cX10_syncs 44 = .ok (.iconst 1, 1) := by decide +kernel
theorem dX10_syncs_45 : decode cX10_syncs 45 = .ok (.goto 4, 3) := by decide +kernel
theorem dX10_syncs_48 : decode cX10_syncs 48 = .ok (.iconst 0, 1) := by decide +kernel
theorem dX10_syncs_49 : decode cX10_syncs 49 = .ok (.istore 6, 2) := by decide +kernel
theorem dX10_syncs_51 : decode cX10_syncs 51 = .ok (.iload 6, 2) := by decide +kernel
theorem dX10_syncs_53 : decode cX10_syncs 53 = .ok (.ifCond .eq 24, 3) := by decide +kernel
theorem dX10_syncs_56 : decode cX10_syncs 56 = .ok (.iload 4, 2) := by decide +kernel
theorem dX10_syncs_58 : decode cX10_syncs 58 = .ok (.ifCond .lt 14, 3) := by decide +kernel
theorem dX10_syncs_61 : decode cX10_syncs 61 = .ok (.aload_n 0, 1) := by decide +kernel
theorem dX10_syncs_62 : decode cX10_syncs 62 = .ok (.iload 4, 2) := by decide +kernel
theorem dX10_syncs_64 : decode cX10_syncs 64 = .ok (.iload 5, 2) := by decide +kernel
theorem dX10_syncs_66 : decode cX10_syncs 66 = .ok (.invokevirtual 90, 3) := by decide +kernel
theorem dX10_syncs_69 : decode cX10_syncs 69 = .ok (.ifCond .eq 8, 3) := by decide +kernel
theorem dX10_syncs_72 : decode cX10_syncs 72 = .ok (.iload 5, 2) := by decide +kernel
theorem dX10_syncs_74 : decode cX10_syncs 74 = .ok (.goto 5, 3) := by decide +kernel
theorem dX10_syncs_77 : decode cX10_syncs 77 = .ok (.iload 4, 2) := by decide +kernel
theorem dX10_syncs_79 : decode cX10_syncs 79 = .ok (.istore 4, 2) := by decide +kernel
theorem dX10_syncs_81 : decode cX10_syncs 81 = .ok (.iinc 5 1, 3) := by decide +kernel
theorem dX10_syncs_84 : decode cX10_syncs 84 = .ok (.goto (-68), 3) := by decide +kernel
theorem dX10_syncs_87 : decode cX10_syncs 87 = .ok (.iload 4, 2) := by decide +kernel
theorem dX10_syncs_89 : decode cX10_syncs 89 = .ok (.ifCond .lt (-84), 3) := by decide +kernel
theorem dX10_syncs_92 : decode cX10_syncs 92 = .ok (.aload_n 0, 1) := by decide +kernel
theorem dX10_syncs_93 : decode cX10_syncs 93 = .ok (.iload_n 2, 1) := by decide +kernel
theorem dX10_syncs_94 : decode cX10_syncs 94 = .ok (.iload 4, 2) := by decide +kernel
theorem dX10_syncs_96 : decode cX10_syncs 96 = .ok (.invokevirtual 158, 3) := by decide +kernel
theorem dX10_syncs_99 : decode cX10_syncs 99 = .ok (.iinc 3 1, 3) := by decide +kernel
theorem dX10_syncs_102 : decode cX10_syncs 102 = .ok (.goto (-97), 3) := by decide +kernel
theorem dX10_syncs_105 : decode cX10_syncs 105 = .ok (.iload_n 3, 1) := by decide +kernel
theorem dX10_syncs_106 : decode cX10_syncs 106 = .ok (.aload_n 0, 1) := by decide +kernel
theorem dX10_syncs_107 : decode cX10_syncs 107 = .ok (.iload_n 2, 1) := by decide +kernel
theorem dX10_syncs_108 : decode cX10_syncs 108 = .ok (.invokevirtual 164, 3) := by decide +kernel
theorem dX10_syncs_111 : decode cX10_syncs 111 = .ok (.iadd, 1) := by decide +kernel
theorem dX10_syncs_112 : decode cX10_syncs 112 = .ok (.ireturn, 1) := by decide +kernel
theorem dX10_sync_0 : decode cX10_sync 0 = .ok (.aload_n 0, 1) := by decide +kernel
theorem dX10_sync_1 : decode cX10_sync 1 = .ok (.iconst 0, 1) := by decide +kernel
theorem dX10_sync_2 : decode cX10_sync 2 = .ok (.putfield 1, 3) := by decide +kernel
theorem dX10_sync_5 : decode cX10_sync 5 = .ok (.aload_n 0, 1) := by decide +kernel
theorem dX10_sync_6 : decode cX10_sync 6 = .ok (.iload_n 1, 1) := by decide +kernel
theorem dX10_sync_7 : decode cX10_sync 7 = .ok (.invokevirtual 63, 3) := by decide +kernel
theorem dX10_sync_10 : decode cX10_sync 10 = .ok (.ifCond .eq 25, 3) := by decide +kernel
theorem dX10_sync_13 : decode cX10_sync 13 = .ok (.aload_n 0, 1) := by decide +kernel
theorem dX10_sync_14 : decode cX10_sync 14 = .ok (.iload_n 2, 1) := by decide +kernel
theorem dX10_sync_15 : decode cX10_sync 15 = .ok (.invokevirtual 63, 3) := by decide +kernel
theorem dX10_sync_18 : decode cX10_sync 18 = .ok (.ifCond .eq 17, 3) := by decide +kernel
theorem dX10_sync_21 : decode cX10_sync 21 = .ok (.iload_n 1, 1) := by decide +kernel
theorem dX10_sync_22 : decode cX10_sync 22 = .ok (.iload_n 2, 1) := by decide +kernel
theorem dX10_sync_23 : decode cX10_sync 23 = .ok (.if_icmp .eq 12, 3) := by decide +kernel
theorem dX10_sync_26 : decode cX10_sync 26 = .ok (.aload_n 0, 1) := by decide +kernel
theorem dX10_sync_27 : decode cX10_sync 27 = .ok (.iload_n 1, 1) := by decide +kernel
theorem dX10_sync_28 : decode cX10_sync 28 = .ok (.iload_n 2, 1) := by decide +kernel
theorem dX10_sync_29 : decode cX10_sync 29 = .ok (.invokevirtual 173, 3) := by decide +kernel
theorem dX10_sync_32 : decode cX10_sync 32 = .ok (.goto 4, 3) := by decide +kernel
theorem dX10_sync_35 : decode cX10_sync 35 = .ok (.iconst (-1), 1) := by decide +kernel
theorem dX10_sync_36 : decode cX10_sync 36 = .ok (.ireturn, 1) := by decide +kernel
theorem dX10_tell_0 : decode cX10_tell 0 = .ok (.aload_n 0, 1) := by decide +kernel
theorem dX10_tell_1 : decode cX10_tell 1 = .ok (.iconst 0, 1) := by decide +kernel
theorem dX10_tell_2 : decode cX10_tell 2 = .ok (.putfield 1, 3) := by decide +kernel
theorem dX10_tell_5 : decode cX10_tell 5 = .ok (.aload_n 0, 1) := by decide +kernel
theorem dX10_tell_6 : decode cX10_tell 6 = .ok (.iload_n 1, 1) := by decide +kernel
theorem dX10_tell_7 : decode cX10_tell 7 = .ok (.invokevirtual 63, 3) := by decide +kernel
theorem dX10_tell_10 : decode cX10_tell 10 = .ok (.ifCond .eq 35, 3) := by decide +kernel
theorem dX10_tell_13 : decode cX10_tell 13 = .ok (.aload_n 0, 1) := by decide +kernel
theorem dX10_tell_14 : decode cX10_tell 14 = .ok (.iload_n 2, 1) := by decide +kernel
theorem dX10_tell_15 : decode cX10_tell 15 = .ok (.invokevirtual 63, 3) := by decide +kernel
theorem dX10_tell_18 : decode cX10_tell 18 = .ok (.ifCond .eq 27, 3) := by decide +kernel
theorem dX10_tell_21 : decode cX10_tell 21 = .ok (.iload_n 1, 1) := by decide +kernel
theorem dX10_tell_22 : decode cX10_tell 22 = .ok (.iload_n 2, 1) := by decide +kernel
theorem dX10_tell_23 : decode cX10_tell 23 = .ok (.if_icmp .eq 22, 3) := by decide +kernel
theorem dX10_tell_26 : decode cX10_tell 26 = .ok (.aload_n 0, 1) := by decide +kernel
theorem dX10_tell_27 : decode cX10_tell 27 = .ok (.iload_n 2, 1) := by decide +kernel
theorem dX10_tell_28 : decode cX10_tell 28 = .ok (.iconst 0, 1) := by decide +kernel
theorem dX10_tell_29 : decode cX10_tell 29 = .ok (.iload_n 1, 1) := by decide +kernel
theorem dX10_tell_30 : decode cX10_tell 30 = .ok (.iadd, 1) := by decide +kernel
theorem dX10_tell_31 : decode cX10_tell 31 = .ok (.invokevirtual 81, 3) := by decide +kernel
theorem dX10_tell_34 : decode cX10_tell 34 = .ok (.aload_n 0, 1) := by decide +kernel
theorem dX10_tell_35 : decode cX10_tell 35 = .ok (.iload_n 1, 1) := by decide +kernel
theorem dX10_tell_36 : decode cX10_tell 36 = .ok (.iconst 0, 1) := by decide +kernel
theorem dX10_tell_37 : decode cX10_tell 37 = .ok (.iload_n 1, 1) := by decide +kernel
theorem dX10_tell_38 : decode cX10_tell 38 = .ok (.iadd, 1) := by decide +kernel
theorem dX10_tell_39 : decode cX10_tell 39 = .ok (.invokevirtual 81, 3) := by decide +kernel
theorem dX10_tell_42 : decode cX10_tell 42 = .ok (.if_icmp .ge 5, 3) := by decide +kernel
theorem dX10_tell_45 : decode cX10_tell 45 = .ok (.iconst 0, 1) := by decide +kernel
theorem dX10_tell_46 : decode cX10_tell 46 = .ok (.ireturn, 1) := by decide +kernel
theorem dX10_tell_47 : decode cX10_tell 47 = .ok (.iconst 0, 1) := by decide +kernel
theorem dX10_tell_48 : decode cX10_tell 48 = .ok (.istore_n 3, 1) := by decide +kernel
theorem dX10_tell_49 : decode cX10_tell 49 = .ok (.iload_n 3, 1) := by decide +kernel
theorem dX10_tell_50 : decode cX10_tell 50 = .ok (.iconst 5, 1) := by decide +kernel
theorem dX10_tell_51 : decode cX10_tell 51 = .ok (.if_icmp .ge 36, 3) := by decide +kernel
theorem dX10_tell_54 : decode cX10_tell 54 = .ok (.aload_n 0, 1) := by decide +kernel
theorem dX10_tell_55 : decode cX10_tell 55 = .ok (.getfield 13, 3) := by decide +kernel
theorem dX10_tell_58 : decode cX10_tell 58 = .ok (.aload_n 0, 1) := by decide +kernel
theorem dX10_tell_59 : decode cX10_tell 59 = .ok (.iload_n 2, 1) := by decide +kernel
theorem dX10_tell_60 : decode cX10_tell 60 = .ok (.sipush 269, 3) := by decide +kernel
theorem dX10_tell_63 : decode cX10_tell 63 = .ok (.iconst 5, 1) := by decide +kernel
theorem dX10_tell_64 : decode cX10_tell 64 = .ok (.iload_n 1, 1) := by decide +kernel
theorem dX10_tell_65 : decode cX10_tell 65 = .ok (.imul, 1) := by decide +kernel
theorem dX10_tell_66 : decode cX10_tell 66 = .ok (.iadd, 1) := by decide +kernel
theorem dX10_tell_67 : decode cX10_tell 67 = .ok (.iload_n 3, 1) := by decide +kernel
theorem dX10_tell_68 : decode cX10_tell 68 = .ok (.iadd, 1) := by decide +kernel
theorem dX10_tell_69 : decode cX10_tell 69 = .ok (.invokevirtual 59, 3) := by decide +kernel
theorem dX10_tell_72 : decode cX10_tell 72 = .ok (.aload_n 0, 1) := by decide +kernel
theorem dX10_tell_73 : decode cX10_tell 73 = .ok (.iload_n 1, 1) := by decide +kernel
theorem dX10_tell_74 : decode cX10_tell 74 = .ok (.iconst 0, 1) := by decide +kernel
theorem dX10_tell_75 : decode cX10_tell 75 = .ok (.iload_n 3, 1) := by decide +kernel
theorem dX10_tell_76 : decode cX10_tell 76 = .ok (.iadd, 1) := by decide +kernel
theorem dX10_tell_77 : decode cX10_tell 77 = .ok (.invokevirtual 81, 3) := by decide +kernel
theorem dX10_tell_80 : decode cX10_tell 80 = .ok (.iastore, 1) := by decide +kernel
theorem dX10_tell_81 : decode cX10_tell 81 = .ok (.iinc 3 1, 3) := by decide +kernel
theorem dX10_tell_84 : decode cX10_tell 84 = .ok (.goto (-35), 3) := by decide +kernel
theorem dX10_tell_87 : decode cX10_tell 87 = .ok (.iconst 1, 1) := by decide +kernel
theorem dX10_tell_88 : decode cX10_tell 88 = .ok (.ireturn, 1) := by decide +kernel
theorem dX10_known_0 : decode cX10_known 0 = .ok (.iload_n 2, 1) := by decide +kernel
theorem dX10_known_1 : decode cX10_known 1 = .ok (.iload_n 1, 1) := by decide +kernel
theorem dX10_known_2 : decode cX10_known 2 = .ok (.if_icmp .ne 14, 3) := by decide +kernel
theorem dX10_known_5 : decode cX10_known 5 = .ok (.aload_n 0, 1) := by decide +kernel
theorem dX10_known_6 : decode cX10_known 6 = .ok (.iload_n 1, 1) := by decide +kernel
theorem dX10_known_7 : decode cX10_known 7 = .ok (.iconst 0, 1) := by decide +kernel
theorem dX10_known_8 : decode cX10_known 8 = .ok (.iload_n 3, 1) := by decide +kernel
theorem dX10_known_9 : decode cX10_known 9 = .ok (.iadd, 1) := by decide +kernel
theorem dX10_known_10 : decode cX10_known 10 = .ok (.invokevirtual 81, 3) := by decide +kernel
theorem dX10_known_13 : decode cX10_known 13 = .ok (.goto 17, 3) := by decide +kernel
theorem dX10_known_16 : decode cX10_known 16 = .ok (.aload_n 0, 1) := by decide +kernel
theorem dX10_known_17 : decode cX10_known 17 = .ok (.iload_n 1, 1) := by decide +kernel
theorem dX10_known_18 : decode cX10_known 18 = .ok (.sipush 269, 3) := by decide +kernel
theorem dX10_known_21 : decode cX10_known 21 = .ok (.iconst 5, 1) := by decide +kernel
theorem dX10_known_22 : decode cX10_known 22 = .ok (.iload_n 2, 1) := by decide +kernel
theorem dX10_known_23 : decode cX10_known 23 = .ok (.imul, 1) := by decide +kernel
theorem dX10_known_24 : decode cX10_known 24 = .ok (.iadd, 1) := by decide +kernel
theorem dX10_known_25 : decode cX10_known 25 = .ok (.iload_n 3, 1) := by decide +kernel
theorem dX10_known_26 : decode cX10_known 26 = .ok (.iadd, 1) := by decide +kernel
theorem dX10_known_27 : decode cX10_known 27 = .ok (.invokevirtual 81, 3) := by decide +kernel
theorem dX10_known_30 : decode cX10_known 30 = .ok (.ireturn, 1) := by decide +kernel
theorem dX10_floorOf_0 : decode cX10_floorOf 0 = .ok (.aload_n 0, 1) := by decide +kernel
theorem dX10_floorOf_1 : decode cX10_floorOf 1 = .ok (.iload_n 1, 1) := by decide +kernel
theorem dX10_floorOf_2 : decode cX10_floorOf 2 = .ok (.iconst 0, 1) := by decide +kernel
theorem dX10_floorOf_3 : decode cX10_floorOf 3 = .ok (.iload_n 2, 1) := by decide +kernel
theorem dX10_floorOf_4 : decode cX10_floorOf 4 = .ok (.iadd, 1) := by decide +kernel
theorem dX10_floorOf_5 : decode cX10_floorOf 5 = .ok (.invokevirtual 81, 3) := by decide +kernel
theorem dX10_floorOf_8 : decode cX10_floorOf 8 = .ok (.istore_n 3, 1) := by decide +kernel
theorem dX10_floorOf_9 : decode cX10_floorOf 9 = .ok (.iconst 0, 1) := by decide +kernel
theorem dX10_floorOf_10 : decode cX10_floorOf 10 = .ok (.istore 4, 2) := by decide +kernel
theorem dX10_floorOf_12 : decode cX10_floorOf 12 = .ok (.iload 4, 2) := by decide +kernel
theorem dX10_floorOf_14 : decode cX10_floorOf 14 = .ok (.aload_n 0, 1) := by decide +kernel
theorem dX10_floorOf_15 : decode cX10_floorOf 15 = .ok (.getfield 13, 3) := by decide +kernel
theorem dX10_floorOf_18 : decode cX10_floorOf 18 = .ok (.iconst 0, 1) := by decide +kernel
theorem dX10_floorOf_19 : decode cX10_floorOf 19 = .ok (.iaload, 1) := by decide +kernel
theorem dX10_floorOf_20 : decode cX10_floorOf 20 = .ok (.if_icmp .ge 34, 3) := by decide +kernel
theorem dX10_floorOf_23 : decode cX10_floorOf 23 = .ok (.aload_n 0, 1) := by decide +kernel
theorem dX10_floorOf_24 : decode cX10_floorOf 24 = .ok (.iload_n 1, 1) := by decide +kernel
theorem dX10_floorOf_25 : decode cX10_floorOf 25 = .ok (.iload 4, 2) := by decide +kernel
theorem dX10_floorOf_27 : decode cX10_floorOf 27 = .ok (.iload_n 2, 1) := by decide +kernel
theorem dX10_floorOf_28 : decode cX10_floorOf 28 = .ok (.invokevirtual 176, 3) := by decide +kernel
theorem dX10_floorOf_31 : decode cX10_floorOf 31 = .ok (.iload_n 3, 1) := by decide +kernel
theorem dX10_floorOf_32 : decode cX10_floorOf 32 = .ok (.if_icmp .ge 14, 3) := by decide +kernel
theorem dX10_floorOf_35 : decode cX10_floorOf 35 = .ok (.aload_n 0, 1) := by decide +kernel
theorem dX10_floorOf_36 : decode cX10_floorOf 36 = .ok (.iload_n 1, 1) := by decide +kernel
theorem dX10_floorOf_37 : decode cX10_floorOf 37 = .ok (.iload 4, 2) := by decide +kernel
theorem dX10_floorOf_39 : decode cX10_floorOf 39 = .ok (.iload_n 2, 1) := by decide +kernel
theorem dX10_floorOf_40 : decode cX10_floorOf 40 = .ok (.invokevirtual 176, 3) := by decide +kernel
theorem dX10_floorOf_43 : decode cX10_floorOf 43 = .ok (.goto 4, 3) := by decide +kernel
theorem dX10_floorOf_46 : decode cX10_floorOf 46 = .ok (.iload_n 3, 1) := by decide +kernel
theorem dX10_floorOf_47 : decode cX10_floorOf 47 = .ok (.istore_n 3, 1) := by decide +kernel
theorem dX10_floorOf_48 : decode cX10_floorOf 48 = .ok (.iinc 4 1, 3) := by decide +kernel
theorem dX10_floorOf_51 : decode cX10_floorOf 51 = .ok (.goto (-39), 3) := by decide +kernel
theorem dX10_floorOf_54 : decode cX10_floorOf 54 = .ok (.iload_n 3, 1) := by decide +kernel
theorem dX10_floorOf_55 : decode cX10_floorOf 55 = .ok (.ireturn, 1) := by decide +kernel
theorem dX10_isSeen_0 : decode cX10_isSeen 0 = .ok (.iload_n 2, 1) := by decide +kernel
theorem dX10_isSeen_1 : decode cX10_isSeen 1 = .ok (.bipush 40, 2) := by decide +kernel
theorem dX10_isSeen_3 : decode cX10_isSeen 3 = .ok (.irem, 1) := by decide +kernel
theorem dX10_isSeen_4 : decode cX10_isSeen 4 = .ok (.aload_n 0, 1) := by decide +kernel
theorem dX10_isSeen_5 : decode cX10_isSeen 5 = .ok (.iload_n 1, 1) := by decide +kernel
theorem dX10_isSeen_6 : decode cX10_isSeen 6 = .ok (.iload_n 2, 1) := by decide +kernel
theorem dX10_isSeen_7 : decode cX10_isSeen 7 = .ok (.invokestatic 67, 3) := by decide +kernel
theorem dX10_isSeen_10 : decode cX10_isSeen 10 = .ok (.invokevirtual 180, 3) := by decide +kernel
theorem dX10_isSeen_13 : decode cX10_isSeen 13 = .ok (.if_icmp .ge 7, 3) := by decide +kernel
theorem dX10_isSeen_16 : decode cX10_isSeen 16 = .ok (.iconst 1, 1) := by decide +kernel
theorem dX10_isSeen_17 : decode cX10_isSeen 17 = .ok (.goto 4, 3) := by decide +kernel
theorem dX10_isSeen_20 : decode cX10_isSeen 20 = .ok (.iconst 0, 1) := by decide +kernel
theorem dX10_isSeen_21 : decode cX10_isSeen 21 = .ok (.ireturn, 1) := by decide +kernel
theorem dX10_isDropSeen_0 : decode cX10_isDropSeen 0 = .ok (.iconst 0, 1) := by decide +kernel
theorem dX10_isDropSeen_1 : decode cX10_isDropSeen 1 = .ok (.istore_n 3, 1) := by decide +kernel
theorem dX10_isDropSeen_2 : decode cX10_isDropSeen 2 = .ok (.iconst 0, 1) := by decide +kernel
theorem dX10_isDropSeen_3 : decode cX10_isDropSeen 3 = .ok (.istore 4, 2) := by decide +kernel
theorem dX10_isDropSeen_5 : decode cX10_isDropSeen 5 = .ok (.iload 4, 2) := by decide +kernel
theorem dX10_isDropSeen_7 : decode cX10_isDropSeen 7 = .ok (.sipush 200, 3) := by decide +kernel
theorem dX10_isDropSeen_10 : decode cX10_isDropSeen 10 = .ok (.if_icmp .ge 61, 3) := by decide +kernel
theorem dX10_isDropSeen_13 : decode cX10_isDropSeen 13 = .ok (.iload_n 3, 1) := by decide +kernel
theorem dX10_isDropSeen_14 : decode cX10_isDropSeen 14 = .ok (.ifCond .ne 45, 3) := by decide +kernel
theorem dX10_isDropSeen_17 : decode cX10_isDropSeen 17 = .ok (.aload_n 0, 1) := by decide +kernel
theorem dX10_isDropSeen_18 : decode cX10_isDropSeen 18 = .ok (.iload_n 1, 1) := by decide +kernel
theorem dX10_isDropSeen_19 : decode cX10_isDropSeen 19 = .ok (.iload 4, 2) := by decide +kernel
theorem dX10_isDropSeen_21 : decode cX10_isDropSeen 21 = .ok (.invokevirtual 87, 3) := by decide +kernel
theorem dX10_isDropSeen_24 : decode cX10_isDropSeen 24 = .ok (.ifCond .eq 39, 3) := by decide +kernel
theorem dX10_isDropSeen_27 : decode cX10_isDropSeen 27 = .ok (.aload_n 0, 1) := by decide +kernel
theorem dX10_isDropSeen_28 : decode cX10_isDropSeen 28 = .ok (.iload 4, 2) := by decide +kernel
theorem dX10_isDropSeen_30 : decode cX10_isDropSeen 30 = .ok (.iconst 0, 1) := by decide +kernel
theorem dX10_isDropSeen_31 : decode cX10_isDropSeen 31 = .ok (.invokevirtual 84, 3) := by decide +kernel
theorem dX10_isDropSeen_34 : decode cX10_isDropSeen 34 = .ok (.iconst 2, 1) := by decide +kernel
theorem dX10_isDropSeen_35 : decode cX10_isDropSeen 35 = .ok (.if_icmp .ne 28, 3) := by decide +kernel
theorem dX10_isDropSeen_38 : decode cX10_isDropSeen 38 = .ok (.aload_n 0, 1) := by decide +kernel
theorem dX10_isDropSeen_39 : decode cX10_isDropSeen 39 = .ok (.iload 4, 2) := by decide +kernel
theorem dX10_isDropSeen_41 : decode cX10_isDropSeen 41 = .ok (.iconst 2, 1) := by decide +kernel
theorem dX10_isDropSeen_42 : decode cX10_isDropSeen 42 = .ok (.invokevirtual 84, 3) := by decide +kernel
theorem dX10_isDropSeen_45 : decode cX10_isDropSeen 45 = .ok (.iload_n 2, 1) := by decide +kernel
theorem dX10_isDropSeen_46 : decode cX10_isDropSeen 46 = .ok (.if_icmp .ne 17, 3) := by decide +kernel
theorem dX10_isDropSeen_49 : decode cX10_isDropSeen 49 = .ok (.aload_n 0, 1) := by decide +kernel
theorem dX10_isDropSeen_50 : decode cX10_isDropSeen 50 = .ok (.iload_n 1, 1) := by decide +kernel
theorem dX10_isDropSeen_51 : decode cX10_isDropSeen 51 = .ok (.iload 4, 2) := by decide +kernel
theorem dX10_isDropSeen_53 : decode cX10_isDropSeen 53 = .ok (.invokevirtual 183, 3) := by decide +kernel
theorem dX10_isDropSeen_56 : decode cX10_isDropSeen 56 = .ok (.ifCond .eq 7, 3) := by decide +kernel
theorem dX10_isDropSeen_59 : decode cX10_isDropSeen 59 = .ok (.iconst 1, 1) := by decide +kernel
theorem dX10_isDropSeen_60 : decode cX10_isDropSeen 60 = .ok (.goto 4, 3) := by decide +kernel
theorem dX10_isDropSeen_63 : decode cX10_isDropSeen 63 = .ok (.iconst 0, 1) := by decide +kernel
theorem dX10_isDropSeen_64 : decode cX10_isDropSeen 64 = .ok (.istore_n 3, 1) := by decide +kernel
theorem dX10_isDropSeen_65 : decode cX10_isDropSeen 65 = .ok (.iinc 4 1, 3) := by decide +kernel
theorem dX10_isDropSeen_68 : decode cX10_isDropSeen 68 = .ok (.goto (-63), 3) := by decide +kernel
theorem dX10_isDropSeen_71 : decode cX10_isDropSeen 71 = .ok (.iload_n 3, 1) := by decide +kernel
theorem dX10_isDropSeen_72 : decode cX10_isDropSeen 72 = .ok (.ireturn, 1) := by decide +kernel
theorem dX10_hasBehind_0 : decode cX10_hasBehind 0 = .ok (.iconst 0, 1) := by decide +kernel
theorem dX10_hasBehind_1 : decode cX10_hasBehind 1 = .ok (.istore_n 3, 1) := by decide +kernel
theorem dX10_hasBehind_2 : decode cX10_hasBehind 2 = .ok (.iconst 0, 1) := by decide +kernel
theorem dX10_hasBehind_3 : decode cX10_hasBehind 3 = .ok (.istore 4, 2) := by decide +kernel
theorem dX10_hasBehind_5 : decode cX10_hasBehind 5 = .ok (.iload 4, 2) := by decide +kernel
theorem dX10_hasBehind_7 : decode cX10_hasBehind 7 = .ok (.sipush 200, 3) := by decide +kernel
theorem dX10_hasBehind_10 : decode cX10_hasBehind 10 = .ok (.if_icmp .ge 43, 3) := by decide +kernel
theorem dX10_hasBehind_13 : decode cX10_hasBehind 13 = .ok (.iload_n 3, 1) := by decide +kernel
theorem dX10_hasBehind_14 : decode cX10_hasBehind 14 = .ok (.ifCond .ne 27, 3) := by decide +kernel
theorem dX10_hasBehind_17 : decode cX10_hasBehind 17 = .ok (.aload_n 0, 1) := by decide +kernel
theorem dX10_hasBehind_18 : decode cX10_hasBehind 18 = .ok (.iload_n 1, 1) := by decide +kernel
theorem dX10_hasBehind_19 : decode cX10_hasBehind 19 = .ok (.iload 4, 2) := by decide +kernel
theorem dX10_hasBehind_21 : decode cX10_hasBehind 21 = .ok (.invokevirtual 103, 3) := by decide +kernel
theorem dX10_hasBehind_24 : decode cX10_hasBehind 24 = .ok (.ifCond .eq 21, 3) := by decide +kernel
theorem dX10_hasBehind_27 : decode cX10_hasBehind 27 = .ok (.aload_n 0, 1) := by decide +kernel
theorem dX10_hasBehind_28 : decode cX10_hasBehind 28 = .ok (.iload 4, 2) := by decide +kernel
theorem dX10_hasBehind_30 : decode cX10_hasBehind 30 = .ok (.iconst 3, 1) := by decide +kernel
theorem dX10_hasBehind_31 : decode cX10_hasBehind 31 = .ok (.invokevirtual 84, 3) := by decide +kernel
theorem dX10_hasBehind_34 : decode cX10_hasBehind 34 = .ok (.iload_n 2, 1) := by decide +kernel
theorem dX10_hasBehind_35 : decode cX10_hasBehind 35 = .ok (.invokestatic 128, 3) := by decide +kernel
theorem dX10_hasBehind_38 : decode cX10_hasBehind 38 = .ok (.if_icmp .ne 7, 3) := by decide +kernel
theorem dX10_hasBehind_41 : decode cX10_hasBehind 41 = .ok (.iconst 1, 1) := by decide +kernel
theorem dX10_hasBehind_42 : decode cX10_hasBehind 42 = .ok (.goto 4, 3) := by decide +kernel
theorem dX10_hasBehind_45 : decode cX10_hasBehind 45 = .ok (.iconst 0, 1) := by decide +kernel
theorem dX10_hasBehind_46 : decode cX10_hasBehind 46 = .ok (.istore_n 3, 1) := by decide +kernel
theorem dX10_hasBehind_47 : decode cX10_hasBehind 47 = .ok (.iinc 4 1, 3) := by decide +kernel
theorem dX10_hasBehind_50 : decode cX10_hasBehind 50 = .ok (.goto (-45), 3) := by decide +kernel
theorem dX10_hasBehind_53 : decode cX10_hasBehind 53 = .ok (.iload_n 3, 1) := by decide +kernel
theorem dX10_hasBehind_54 : decode cX10_hasBehind 54 = .ok (.ireturn, 1) := by decide +kernel
theorem dX10_canGo_0 : decode cX10_canGo 0 = .ok (.aload_n 0, 1) := by decide +kernel
theorem dX10_canGo_1 : decode cX10_canGo 1 = .ok (.iload_n 1, 1) := by decide +kernel
theorem dX10_canGo_2 : decode cX10_canGo 2 = .ok (.iload_n 2, 1) := by decide +kernel
theorem dX10_canGo_3 : decode cX10_canGo 3 = .ok (.invokevirtual 103, 3) := by decide +kernel
theorem dX10_canGo_6 : decode cX10_canGo 6 = .ok (.ifCond .eq 21, 3) := by decide +kernel
theorem dX10_canGo_9 : decode cX10_canGo 9 = .ok (.aload_n 0, 1) := by decide +kernel
theorem dX10_canGo_10 : decode cX10_canGo 10 = .ok (.iload_n 1, 1) := by decide +kernel
theorem dX10_canGo_11 : decode cX10_canGo 11 = .ok (.iload_n 2, 1) := by decide +kernel
theorem dX10_canGo_12 : decode cX10_canGo 12 = .ok (.invokevirtual 183, 3) := by decide +kernel
theorem dX10_canGo_15 : decode cX10_canGo 15 = .ok (.ifCond .eq 12, 3) := by decide +kernel
theorem dX10_canGo_18 : decode cX10_canGo 18 = .ok (.aload_n 0, 1) := by decide +kernel
theorem dX10_canGo_19 : decode cX10_canGo 19 = .ok (.iload_n 1, 1) := by decide +kernel
theorem dX10_canGo_20 : decode cX10_canGo 20 = .ok (.iload_n 2, 1) := by decide +kernel
theorem dX10_canGo_21 : decode cX10_canGo 21 = .ok (.invokevirtual 186, 3) := by decide +kernel
theorem dX10_canGo_24 : decode cX10_canGo 24 = .ok (.ifCond .eq 5, 3) := by decide +kernel
theorem dX10_canGo_27 : decode cX10_canGo 27 = .ok (.iconst 0, 1) := by decide +kernel
theorem dX10_canGo_28 : decode cX10_canGo 28 = .ok (.ireturn, 1) := by decide +kernel
theorem dX10_canGo_29 : decode cX10_canGo 29 = .ok (.aload_n 0, 1) := by decide +kernel
theorem dX10_canGo_30 : decode cX10_canGo 30 = .ok (.iload_n 2, 1) := by decide +kernel
theorem dX10_canGo_31 : decode cX10_canGo 31 = .ok (.iconst 2, 1) := by decide +kernel
theorem dX10_canGo_32 : decode cX10_canGo 32 = .ok (.invokevirtual 84, 3) := by decide +kernel
theorem dX10_canGo_35 : decode cX10_canGo 35 = .ok (.istore_n 3, 1) := by decide +kernel
theorem dX10_canGo_36 : decode cX10_canGo 36 = .ok (.aload_n 0, 1) := by decide +kernel
theorem dX10_canGo_37 : decode cX10_canGo 37 = .ok (.iload_n 1, 1) := by decide +kernel
theorem dX10_canGo_38 : decode cX10_canGo 38 = .ok (.iload_n 3, 1) := by decide +kernel
theorem dX10_canGo_39 : decode cX10_canGo 39 = .ok (.invokevirtual 122, 3) := by decide +kernel
theorem dX10_canGo_42 : decode cX10_canGo 42 = .ok (.istore 4, 2) := by decide +kernel
theorem dX10_canGo_44 : decode cX10_canGo 44 = .ok (.aload_n 0, 1) := by decide +kernel
theorem dX10_canGo_45 : decode cX10_canGo 45 = .ok (.iload_n 1, 1) := by decide +kernel
theorem dX10_canGo_46 : decode cX10_canGo 46 = .ok (.iload_n 3, 1) := by decide +kernel
theorem dX10_canGo_47 : decode cX10_canGo 47 = .ok (.invokevirtual 189, 3) := by decide +kernel
theorem dX10_canGo_50 : decode cX10_canGo 50 = .ok (.ifCond .ne 19, 3) := by decide +kernel
theorem dX10_canGo_53 : decode cX10_canGo 53 = .ok (.iload 4, 2) := by decide +kernel
theorem dX10_canGo_55 : decode cX10_canGo 55 = .ok (.iload_n 2, 1) := by decide +kernel
theorem dX10_canGo_56 : decode cX10_canGo 56 = .ok (.if_icmp .eq 17, 3) := by decide +kernel
theorem dX10_canGo_59 : decode cX10_canGo 59 = .ok (.aload_n 0, 1) := by decide +kernel
theorem dX10_canGo_60 : decode cX10_canGo 60 = .ok (.iload_n 1, 1) := by decide +kernel
theorem dX10_canGo_61 : decode cX10_canGo 61 = .ok (.iload 4, 2) := by decide +kernel
theorem dX10_canGo_63 : decode cX10_canGo 63 = .ok (.invokevirtual 183, 3) := by decide +kernel
theorem dX10_canGo_66 : decode cX10_canGo 66 = .ok (.ifCond .eq 7, 3) := by decide +kernel
theorem dX10_canGo_69 : decode cX10_canGo 69 = .ok (.iconst 1, 1) := by decide +kernel
theorem dX10_canGo_70 : decode cX10_canGo 70 = .ok (.goto 4, 3) := by decide +kernel
theorem dX10_canGo_73 : decode cX10_canGo 73 = .ok (.iconst 0, 1) := by decide +kernel
theorem dX10_canGo_74 : decode cX10_canGo 74 = .ok (.ireturn, 1) := by decide +kernel
theorem dX10_sweeps_0 : decode cX10_sweeps 0 = .ok (.iconst 0, 1) := by decide +kernel
theorem dX10_sweeps_1 : decode cX10_sweeps 1 = .ok (.istore_n 2, 1) := by decide +kernel
theorem dX10_sweeps_2 : decode cX10_sweeps 2 = .ok (.iconst (-1), 1) := by decide +kernel
theorem dX10_sweeps_3 : decode cX10_sweeps 3 = .ok (.istore_n 3, 1) := by decide +kernel
theorem dX10_sweeps_4 : decode cX10_sweeps 4 = .ok (.iload_n 3, 1) := by decide +kernel
theorem dX10_sweeps_5 : decode cX10_sweeps 5 = .ok (.iload_n 2, 1) := by decide +kernel
theorem dX10_sweeps_6 : decode cX10_sweeps 6 = .ok (.if_icmp .eq 55, 3) := by decide +kernel
theorem dX10_sweeps_9 : decode cX10_sweeps 9 = .ok (.iload_n 2, 1) := by decide +kernel
theorem dX10_sweeps_10 : decode cX10_sweeps 10 = .ok (.istore_n 3, 1) := by decide +kernel
theorem dX10_sweeps_11 : decode cX10_sweeps 11 = .ok (.iconst 0, 1) := by decide +kernel
theorem dX10_sweeps_12 : decode cX10_sweeps 12 = .ok (.istore 4, 2) := by decide +kernel
theorem dX10_sweeps_14 : decode cX10_sweeps 14 = .ok (.iload 4, 2) := by decide +kernel
theorem dX10_sweeps_16 : decode cX10_sweeps 16 = .ok (.sipush 200, 3) := by decide +kernel
theorem dX10_sweeps_19 : decode cX10_sweeps 19 = .ok (.if_icmp .ge 39, 3) := by decide +kernel
theorem dX10_sweeps_22 : decode cX10_sweeps 22 = .ok (.aload_n 0, 1) := by decide +kernel
theorem dX10_sweeps_23 : decode cX10_sweeps 23 = .ok (.iload_n 1, 1) := by decide +kernel
theorem dX10_sweeps_24 : decode cX10_sweeps 24 = .ok (.iload 4, 2) := by decide +kernel
theorem dX10_sweeps_26 : decode cX10_sweeps 26 = .ok (.invokevirtual 192, 3) := by decide +kernel
theorem dX10_sweeps_29 : decode cX10_sweeps 29 = .ok (.ifCond .eq 23, 3) := by decide +kernel
theorem dX10_sweeps_32 : decode cX10_sweeps 32 = .ok (.aload_n 0, 1) := by decide +kernel
theorem dX10_sweeps_33 : decode cX10_sweeps 33 = .ok (.getfield 13, 3) := by decide +kernel
theorem dX10_sweeps_36 : decode cX10_sweeps 36 = .ok (.aload_n 0, 1) := by decide +kernel
theorem dX10_sweeps_37 : decode cX10_sweeps 37 = .ok (.iload_n 1, 1) := by decide +kernel
theorem dX10_sweeps_38 : decode cX10_sweeps 38 = .ok (.sipush 294, 3) := by decide +kernel
theorem dX10_sweeps_41 : decode cX10_sweeps 41 = .ok (.iload 4, 2) := by decide +kernel
theorem dX10_sweeps_43 : decode cX10_sweeps 43 = .ok (.iadd, 1) := by decide +kernel
theorem dX10_sweeps_44 : decode cX10_sweeps 44 = .ok (.invokevirtual 59, 3) := by decide +kernel
theorem dX10_sweeps_47 : decode cX10_sweeps 47 = .ok (.iconst 1, 1) := by decide +kernel
theorem dX10_sweeps_48 : decode cX10_sweeps 48 = .ok (.iastore, 1) := by decide +kernel
theorem dX10_sweeps_49 : decode cX10_sweeps 49 = .ok (.iinc 2 1, 3) := by decide +kernel
theorem dX10_sweeps_52 : decode cX10_sweeps 52 = .ok (.iinc 4 1, 3) := by decide +kernel
theorem dX10_sweeps_55 : decode cX10_sweeps 55 = .ok (.goto (-41), 3) := by decide +kernel
theorem dX10_sweeps_58 : decode cX10_sweeps 58 = .ok (.goto (-54), 3) := by decide +kernel
theorem dX10_sweeps_61 : decode cX10_sweeps 61 = .ok (.iload_n 2, 1) := by decide +kernel
theorem dX10_sweeps_62 : decode cX10_sweeps 62 = .ok (.ireturn, 1) := by decide +kernel
theorem dX10_sweep_0 : decode cX10_sweep 0 = .ok (.aload_n 0, 1) := by decide +kernel
theorem dX10_sweep_1 : decode cX10_sweep 1 = .ok (.iconst 0, 1) := by decide +kernel
theorem dX10_sweep_2 : decode cX10_sweep 2 = .ok (.putfield 1, 3) := by decide +kernel
theorem dX10_sweep_5 : decode cX10_sweep 5 = .ok (.aload_n 0, 1) := by decide +kernel
theorem dX10_sweep_6 : decode cX10_sweep 6 = .ok (.iload_n 1, 1) := by decide +kernel
theorem dX10_sweep_7 : decode cX10_sweep 7 = .ok (.invokevirtual 63, 3) := by decide +kernel
theorem dX10_sweep_10 : decode cX10_sweep 10 = .ok (.ifCond .eq 11, 3) := by decide +kernel
theorem dX10_sweep_13 : decode cX10_sweep 13 = .ok (.aload_n 0, 1) := by decide +kernel
theorem dX10_sweep_14 : decode cX10_sweep 14 = .ok (.iload_n 1, 1) := by decide +kernel
theorem dX10_sweep_15 : decode cX10_sweep 15 = .ok (.invokevirtual 195, 3) := by decide +kernel
theorem dX10_sweep_18 : decode cX10_sweep 18 = .ok (.goto 4, 3) := by decide +kernel
theorem dX10_sweep_21 : decode cX10_sweep 21 = .ok (.iconst (-1), 1) := by decide +kernel
theorem dX10_sweep_22 : decode cX10_sweep 22 = .ok (.ireturn, 1) := by decide +kernel
theorem dX10_wouldSweep_0 : decode cX10_wouldSweep 0 = .ok (.iconst 0, 1) := by decide +kernel
theorem dX10_wouldSweep_1 : decode cX10_wouldSweep 1 = .ok (.istore_n 2, 1) := by decide +kernel
theorem dX10_wouldSweep_2 : decode cX10_wouldSweep 2 = .ok (.iload_n 2, 1) := by decide +kernel
theorem dX10_wouldSweep_3 : decode cX10_wouldSweep 3 = .ok (.sipush 200, 3) := by decide +kernel
theorem dX10_wouldSweep_6 : decode cX10_wouldSweep 6 = .ok (.if_icmp .ge 25, 3) := by decide +kernel
theorem dX10_wouldSweep_9 : decode cX10_wouldSweep 9 = .ok (.aload_n 0, 1) := by decide +kernel
theorem dX10_wouldSweep_10 : decode cX10_wouldSweep 10 = .ok (.getfield 29, 3) := by decide +kernel
theorem dX10_wouldSweep_13 : decode cX10_wouldSweep 13 = .ok (.iload_n 2, 1) := by decide +kernel
theorem dX10_wouldSweep_14 : decode cX10_wouldSweep 14 = .ok (.aload_n 0, 1) := by decide +kernel
theorem dX10_wouldSweep_15 : decode cX10_wouldSweep 15 = .ok (.iload_n 1, 1) := by decide +kernel
theorem dX10_wouldSweep_16 : decode cX10_wouldSweep 16 = .ok (.sipush 294, 3) := by decide +kernel
theorem dX10_wouldSweep_19 : decode cX10_wouldSweep 19 = .ok (.iload_n 2, 1) := by decide +kernel
theorem dX10_wouldSweep_20 : decode cX10_wouldSweep 20 = .ok (.iadd, 1) := by decide +kernel
theorem dX10_wouldSweep_21 : decode cX10_wouldSweep 21 = .ok (.invokevirtual 81, 3) := by decide +kernel
theorem dX10_wouldSweep_24 : decode cX10_wouldSweep 24 = .ok (.iastore, 1) := by decide +kernel
theorem dX10_wouldSweep_25 : decode cX10_wouldSweep 25 = .ok (.iinc 2 1, 3) := by decide +kernel
theorem dX10_wouldSweep_28 : decode cX10_wouldSweep 28 = .ok (.goto (-26), 3) := by decide +kernel
theorem dX10_wouldSweep_31 : decode cX10_wouldSweep 31 = .ok (.aload_n 0, 1) := by decide +kernel
theorem dX10_wouldSweep_32 : decode cX10_wouldSweep 32 = .ok (.iload_n 1, 1) := by decide +kernel
theorem dX10_wouldSweep_33 : decode cX10_wouldSweep 33 = .ok (.invokevirtual 195, 3) := by decide +kernel
theorem dX10_wouldSweep_36 : decode cX10_wouldSweep 36 = .ok (.istore_n 2, 1) := by decide +kernel
theorem dX10_wouldSweep_37 : decode cX10_wouldSweep 37 = .ok (.iconst 0, 1) := by decide +kernel
theorem dX10_wouldSweep_38 : decode cX10_wouldSweep 38 = .ok (.istore_n 3, 1) := by decide +kernel
theorem dX10_wouldSweep_39 : decode cX10_wouldSweep 39 = .ok (.iload_n 3, 1) := by decide +kernel
theorem dX10_wouldSweep_40 : decode cX10_wouldSweep 40 = .ok (.sipush 200, 3) := by decide +kernel
theorem dX10_wouldSweep_43 : decode cX10_wouldSweep 43 = .ok (.if_icmp .ge 30, 3) := by decide +kernel
theorem dX10_wouldSweep_46 : decode cX10_wouldSweep 46 = .ok (.aload_n 0, 1) := by decide +kernel
theorem dX10_wouldSweep_47 : decode cX10_wouldSweep 47 = .ok (.getfield 13, 3) := by decide +kernel
theorem dX10_wouldSweep_50 : decode cX10_wouldSweep 50 = .ok (.aload_n 0, 1) := by decide +kernel
theorem dX10_wouldSweep_51 : decode cX10_wouldSweep 51 = .ok (.iload_n 1, 1) := by decide +kernel
theorem dX10_wouldSweep_52 : decode cX10_wouldSweep 52 = .ok (.sipush 294, 3) := by decide +kernel
theorem dX10_wouldSweep_55 : decode cX10_wouldSweep 55 = .ok (.iload_n 3, 1) := by decide +kernel
theorem dX10_wouldSweep_56 : decode cX10_wouldSweep 56 = .ok (.iadd, 1) := by decide +kernel
theorem dX10_wouldSweep_57 : decode cX10_wouldSweep 57 = .ok (.invokevirtual 59, 3) := by decide +kernel
theorem dX10_wouldSweep_60 : decode cX10_wouldSweep 60 = .ok (.aload_n 0, 1) := by decide +kernel
theorem dX10_wouldSweep_61 : decode cX10_wouldSweep 61 = .ok (.getfield 29, 3) := by decide +kernel
theorem dX10_wouldSweep_64 : decode cX10_wouldSweep 64 = .ok (.iload_n 3, 1) := by decide +kernel
theorem dX10_wouldSweep_65 : decode cX10_wouldSweep 65 = .ok (.iaload, 1) := by decide +kernel
theorem dX10_wouldSweep_66 : decode cX10_wouldSweep 66 = .ok (.iastore, 1) := by decide +kernel
theorem dX10_wouldSweep_67 : decode cX10_wouldSweep 67 = .ok (.iinc 3 1, 3) := by decide +kernel
theorem dX10_wouldSweep_70 : decode cX10_wouldSweep 70 = .ok (.goto (-31), 3) := by decide +kernel
theorem dX10_wouldSweep_73 : decode cX10_wouldSweep 73 = .ok (.iload_n 2, 1) := by decide +kernel
theorem dX10_wouldSweep_74 : decode cX10_wouldSweep 74 = .ok (.ireturn, 1) := by decide +kernel
theorem dX10_isForgotten_0 : decode cX10_isForgotten 0 = .ok (.iconst 0, 1) := by decide +kernel
theorem dX10_isForgotten_1 : decode cX10_isForgotten 1 = .ok (.istore_n 3, 1) := by decide +kernel
theorem dX10_isForgotten_2 : decode cX10_isForgotten 2 = .ok (.iconst 0, 1) := by decide +kernel
theorem dX10_isForgotten_3 : decode cX10_isForgotten 3 = .ok (.istore 4, 2) := by decide +kernel
theorem dX10_isForgotten_5 : decode cX10_isForgotten 5 = .ok (.iload 4, 2) := by decide +kernel
theorem dX10_isForgotten_7 : decode cX10_isForgotten 7 = .ok (.sipush 200, 3) := by decide +kernel
theorem dX10_isForgotten_10 : decode cX10_isForgotten 10 = .ok (.if_icmp .ge 40, 3) := by decide +kernel
theorem dX10_isForgotten_13 : decode cX10_isForgotten 13 = .ok (.iload_n 3, 1) := by decide +kernel
theorem dX10_isForgotten_14 : decode cX10_isForgotten 14 = .ok (.ifCond .ne 24, 3) := by decide +kernel
theorem dX10_isForgotten_17 : decode cX10_isForgotten 17 = .ok (.aload_n 0, 1) := by decide +kernel
theorem dX10_isForgotten_18 : decode cX10_isForgotten 18 = .ok (.iload_n 1, 1) := by decide +kernel
theorem dX10_isForgotten_19 : decode cX10_isForgotten 19 = .ok (.iload 4, 2) := by decide +kernel
theorem dX10_isForgotten_21 : decode cX10_isForgotten 21 = .ok (.invokevirtual 103, 3) := by decide +kernel
theorem dX10_isForgotten_24 : decode cX10_isForgotten 24 = .ok (.ifCond .eq 18, 3) := by decide +kernel
theorem dX10_isForgotten_27 : decode cX10_isForgotten 27 = .ok (.aload_n 0, 1) := by decide +kernel
theorem dX10_isForgotten_28 : decode cX10_isForgotten 28 = .ok (.iload 4, 2) := by decide +kernel
theorem dX10_isForgotten_30 : decode cX10_isForgotten 30 = .ok (.iconst 2, 1) := by decide +kernel
theorem dX10_isForgotten_31 : decode cX10_isForgotten 31 = .ok (.invokevirtual 84, 3) := by decide +kernel
theorem dX10_isForgotten_34 : decode cX10_isForgotten 34 = .ok (.iload_n 2, 1) := by decide +kernel
theorem dX10_isForgotten_35 : decode cX10_isForgotten 35 = .ok (.if_icmp .ne 7, 3) := by decide +kernel
theorem dX10_isForgotten_38 : decode cX10_isForgotten 38 = .ok (.iconst 1, 1) := by decide +kernel
theorem dX10_isForgotten_39 : decode cX10_isForgotten 39 = .ok (.goto 4, 3) := by decide +kernel
theorem dX10_isForgotten_42 : decode cX10_isForgotten 42 = .ok (.iconst 0, 1) := by decide +kernel
theorem dX10_isForgotten_43 : decode cX10_isForgotten 43 = .ok (.istore_n 3, 1) := by decide +kernel
theorem dX10_isForgotten_44 : decode cX10_isForgotten 44 = .ok (.iinc 4 1, 3) := by decide +kernel
theorem dX10_isForgotten_47 : decode cX10_isForgotten 47 = .ok (.goto (-42), 3) := by decide +kernel
theorem dX10_isForgotten_50 : decode cX10_isForgotten 50 = .ok (.iload_n 3, 1) := by decide +kernel
theorem dX10_isForgotten_51 : decode cX10_isForgotten 51 = .ok (.ifCond .ne 16, 3) := by decide +kernel
theorem dX10_isForgotten_54 : decode cX10_isForgotten 54 = .ok (.aload_n 0, 1) := by decide +kernel
theorem dX10_isForgotten_55 : decode cX10_isForgotten 55 = .ok (.iload_n 1, 1) := by decide +kernel
theorem dX10_isForgotten_56 : decode cX10_isForgotten 56 = .ok (.iload_n 2, 1) := by decide +kernel
theorem dX10_isForgotten_57 : decode cX10_isForgotten 57 = .ok (.invokevirtual 125, 3) := by decide +kernel
theorem dX10_isForgotten_60 : decode cX10_isForgotten 60 = .ok (.ifCond .eq 7, 3) := by decide +kernel
theorem dX10_isForgotten_63 : decode cX10_isForgotten 63 = .ok (.iconst 1, 1) := by decide +kernel
theorem dX10_isForgotten_64 : decode cX10_isForgotten 64 = .ok (.goto 4, 3) := by decide +kernel
theorem dX10_isForgotten_67 : decode cX10_isForgotten 67 = .ok (.iconst 0, 1) := by decide +kernel
theorem dX10_isForgotten_68 : decode cX10_isForgotten 68 = .ok (.ireturn, 1) := by decide +kernel
theorem dX10_length_0 : decode cX10_length 0 = .ok (.aload_n 0, 1) := by decide +kernel
theorem dX10_length_1 : decode cX10_length 1 = .ok (.iconst 0, 1) := by decide +kernel
theorem dX10_length_2 : decode cX10_length 2 = .ok (.putfield 1, 3) := by decide +kernel
theorem dX10_length_5 : decode cX10_length 5 = .ok (.aload_n 0, 1) := by decide +kernel
theorem dX10_length_6 : decode cX10_length 6 = .ok (.iload_n 1, 1) := by decide +kernel
theorem dX10_length_7 : decode cX10_length 7 = .ok (.invokevirtual 63, 3) := by decide +kernel
theorem dX10_length_10 : decode cX10_length 10 = .ok (.ifCond .ne 5, 3) := by decide +kernel
theorem dX10_length_13 : decode cX10_length 13 = .ok (.iconst (-1), 1) := by decide +kernel
theorem dX10_length_14 : decode cX10_length 14 = .ok (.ireturn, 1) := by decide +kernel
theorem dX10_length_15 : decode cX10_length 15 = .ok (.aload_n 0, 1) := by decide +kernel
theorem dX10_length_16 : decode cX10_length 16 = .ok (.iload_n 1, 1) := by decide +kernel
theorem dX10_length_17 : decode cX10_length 17 = .ok (.invokevirtual 138, 3) := by decide +kernel
theorem dX10_length_20 : decode cX10_length 20 = .ok (.aload_n 0, 1) := by decide +kernel
theorem dX10_length_21 : decode cX10_length 21 = .ok (.getfield 119, 3) := by decide +kernel
theorem dX10_length_24 : decode cX10_length 24 = .ok (.ireturn, 1) := by decide +kernel
theorem dX10_movesOf_0 : decode cX10_movesOf 0 = .ok (.iconst 0, 1) := by decide +kernel
theorem dX10_movesOf_1 : decode cX10_movesOf 1 = .ok (.istore_n 3, 1) := by decide +kernel
theorem dX10_movesOf_2 : decode cX10_movesOf 2 = .ok (.iconst 0, 1) := by decide +kernel
theorem dX10_movesOf_3 : decode cX10_movesOf 3 = .ok (.istore 4, 2) := by decide +kernel
theorem dX10_movesOf_5 : decode cX10_movesOf 5 = .ok (.iload 4, 2) := by decide +kernel
theorem dX10_movesOf_7 : decode cX10_movesOf 7 = .ok (.sipush 200, 3) := by decide +kernel
theorem dX10_movesOf_10 : decode cX10_movesOf 10 = .ok (.if_icmp .ge 49, 3) := by decide +kernel
theorem dX10_movesOf_13 : decode cX10_movesOf 13 = .ok (.iload_n 3, 1) := by decide +kernel
theorem dX10_movesOf_14 : decode cX10_movesOf 14 = .ok (.aload_n 0, 1) := by decide +kernel
theorem dX10_movesOf_15 : decode cX10_movesOf 15 = .ok (.iload_n 1, 1) := by decide +kernel
theorem dX10_movesOf_16 : decode cX10_movesOf 16 = .ok (.iload 4, 2) := by decide +kernel
theorem dX10_movesOf_18 : decode cX10_movesOf 18 = .ok (.invokevirtual 87, 3) := by decide +kernel
theorem dX10_movesOf_21 : decode cX10_movesOf 21 = .ok (.ifCond .eq 29, 3) := by decide +kernel
theorem dX10_movesOf_24 : decode cX10_movesOf 24 = .ok (.aload_n 0, 1) := by decide +kernel
theorem dX10_movesOf_25 : decode cX10_movesOf 25 = .ok (.iload 4, 2) := by decide +kernel
theorem dX10_movesOf_27 : decode cX10_movesOf 27 = .ok (.iconst 0, 1) := by decide +kernel
theorem dX10_movesOf_28 : decode cX10_movesOf 28 = .ok (.invokevirtual 84, 3) := by decide +kernel
theorem dX10_movesOf_31 : decode cX10_movesOf 31 = .ok (.iconst 1, 1) := by decide +kernel
theorem dX10_movesOf_32 : decode cX10_movesOf 32 = .ok (.if_icmp .ne 18, 3) := by decide +kernel
theorem dX10_movesOf_35 : decode cX10_movesOf 35 = .ok (.aload_n 0, 1) := by decide +kernel
theorem dX10_movesOf_36 : decode cX10_movesOf 36 = .ok (.iload 4, 2) := by decide +kernel
theorem dX10_movesOf_38 : decode cX10_movesOf 38 = .ok (.iconst 2, 1) := by decide +kernel
theorem dX10_movesOf_39 : decode cX10_movesOf 39 = .ok (.invokevirtual 84, 3) := by decide +kernel
theorem dX10_movesOf_42 : decode cX10_movesOf 42 = .ok (.iload_n 2, 1) := by decide +kernel
theorem dX10_movesOf_43 : decode cX10_movesOf 43 = .ok (.if_icmp .ne 7, 3) := by decide +kernel
theorem dX10_movesOf_46 : decode cX10_movesOf 46 = .ok (.iconst 1, 1) := by decide +kernel
theorem dX10_movesOf_47 : decode cX10_movesOf 47 = .ok (.goto 4, 3) := by decide +kernel
theorem dX10_movesOf_50 : decode cX10_movesOf 50 = .ok (.iconst 0, 1) := by decide +kernel
theorem dX10_movesOf_51 : decode cX10_movesOf 51 = .ok (.iadd, 1) := by decide +kernel
theorem dX10_movesOf_52 : decode cX10_movesOf 52 = .ok (.istore_n 3, 1) := by decide +kernel
theorem dX10_movesOf_53 : decode cX10_movesOf 53 = .ok (.iinc 4 1, 3) := by decide +kernel
theorem dX10_movesOf_56 : decode cX10_movesOf 56 = .ok (.goto (-51), 3) := by decide +kernel
theorem dX10_movesOf_59 : decode cX10_movesOf 59 = .ok (.iload_n 3, 1) := by decide +kernel
theorem dX10_movesOf_60 : decode cX10_movesOf 60 = .ok (.ireturn, 1) := by decide +kernel
theorem dX10_at__0 : decode cX10_at_ 0 = .ok (.aload_n 0, 1) := by decide +kernel
theorem dX10_at__1 : decode cX10_at_ 1 = .ok (.aload_n 0, 1) := by decide +kernel
theorem dX10_at__2 : decode cX10_at_ 2 = .ok (.iload_n 1, 1) := by decide +kernel
theorem dX10_at__3 : decode cX10_at_ 3 = .ok (.invokevirtual 63, 3) := by decide +kernel
theorem dX10_at__6 : decode cX10_at_ 6 = .ok (.ifCond .eq 16, 3) := by decide +kernel
theorem dX10_at__9 : decode cX10_at_ 9 = .ok (.iload_n 3, 1) := by decide +kernel
theorem dX10_at__10 : decode cX10_at_ 10 = .ok (.iconst 0, 1) := by decide +kernel
theorem dX10_at__11 : decode cX10_at_ 11 = .ok (.iconst 3, 1) := by decide +kernel
theorem dX10_at__12 : decode cX10_at_ 12 = .ok (.invokestatic 55, 3) := by decide +kernel
theorem dX10_at__15 : decode cX10_at_ 15 = .ok (.ifCond .eq 7, 3) := by decide +kernel
theorem dX10_at__18 : decode cX10_at_ 18 = .ok (.iconst 0, 1) := by decide +kernel
theorem dX10_at__19 : decode cX10_at_ 19 = .ok (.goto 4, 3) := by decide +kernel
theorem dX10_at__22 : decode cX10_at_ 22 = .ok (.iconst 1, 1) := by decide +kernel
theorem dX10_at__23 : decode cX10_at_ 23 = .ok (.putfield 1, 3) := by decide +kernel
theorem dX10_at__26 : decode cX10_at_ 26 = .ok (.aload_n 0, 1) := by decide +kernel
theorem dX10_at__27 : decode cX10_at_ 27 = .ok (.getfield 1, 3) := by decide +kernel
theorem dX10_at__30 : decode cX10_at_ 30 = .ok (.ifCond .ne 31, 3) := by decide +kernel
theorem dX10_at__33 : decode cX10_at_ 33 = .ok (.aload_n 0, 1) := by decide +kernel
theorem dX10_at__34 : decode cX10_at_ 34 = .ok (.iload_n 1, 1) := by decide +kernel
theorem dX10_at__35 : decode cX10_at_ 35 = .ok (.invokevirtual 138, 3) := by decide +kernel
theorem dX10_at__38 : decode cX10_at_ 38 = .ok (.aload_n 0, 1) := by decide +kernel
theorem dX10_at__39 : decode cX10_at_ 39 = .ok (.iload_n 2, 1) := by decide +kernel
theorem dX10_at__40 : decode cX10_at_ 40 = .ok (.iconst 0, 1) := by decide +kernel
theorem dX10_at__41 : decode cX10_at_ 41 = .ok (.aload_n 0, 1) := by decide +kernel
theorem dX10_at__42 : decode cX10_at_ 42 = .ok (.getfield 119, 3) := by decide +kernel
theorem dX10_at__45 : decode cX10_at_ 45 = .ok (.iconst 1, 1) := by decide +kernel
theorem dX10_at__46 : decode cX10_at_ 46 = .ok (.isub, 1) := by decide +kernel
theorem dX10_at__47 : decode cX10_at_ 47 = .ok (.invokestatic 55, 3) := by decide +kernel
theorem dX10_at__50 : decode cX10_at_ 50 = .ok (.ifCond .eq 7, 3) := by decide +kernel
theorem dX10_at__53 : decode cX10_at_ 53 = .ok (.iconst 0, 1) := by decide +kernel
theorem dX10_at__54 : decode cX10_at_ 54 = .ok (.goto 4, 3) := by decide +kernel
theorem dX10_at__57 : decode cX10_at_ 57 = .ok (.iconst 1, 1) := by decide +kernel
theorem dX10_at__58 : decode cX10_at_ 58 = .ok (.putfield 1, 3) := by decide +kernel
theorem dX10_at__61 : decode cX10_at_ 61 = .ok (.aload_n 0, 1) := by decide +kernel
theorem dX10_at__62 : decode cX10_at_ 62 = .ok (.getfield 1, 3) := by decide +kernel
theorem dX10_at__65 : decode cX10_at_ 65 = .ok (.ifCond .le 5, 3) := by decide +kernel
theorem dX10_at__68 : decode cX10_at_ 68 = .ok (.iconst 0, 1) := by decide +kernel
theorem dX10_at__69 : decode cX10_at_ 69 = .ok (.ireturn, 1) := by decide +kernel
theorem dX10_at__70 : decode cX10_at_ 70 = .ok (.aload_n 0, 1) := by decide +kernel
theorem dX10_at__71 : decode cX10_at_ 71 = .ok (.iload_n 2, 1) := by decide +kernel
theorem dX10_at__72 : decode cX10_at_ 72 = .ok (.invokevirtual 148, 3) := by decide +kernel
theorem dX10_at__75 : decode cX10_at_ 75 = .ok (.istore 4, 2) := by decide +kernel
theorem dX10_at__77 : decode cX10_at_ 77 = .ok (.iload_n 3, 1) := by decide +kernel
theorem dX10_at__78 : decode cX10_at_ 78 = .ok (.ifCond .ne 8, 3) := by decide +kernel
theorem dX10_at__81 : decode cX10_at_ 81 = .ok (.iload 4, 2) := by decide +kernel
theorem dX10_at__83 : decode cX10_at_ 83 = .ok (.goto 42, 3) := by decide +kernel
theorem dX10_at__86 : decode cX10_at_ 86 = .ok (.iload_n 3, 1) := by decide +kernel
theorem dX10_at__87 : decode cX10_at_ 87 = .ok (.iconst 1, 1) := by decide +kernel
theorem dX10_at__88 : decode cX10_at_ 88 = .ok (.if_icmp .ne 13, 3) := by decide +kernel
theorem dX10_at__91 : decode cX10_at_ 91 = .ok (.aload_n 0, 1) := by decide +kernel
theorem dX10_at__92 : decode cX10_at_ 92 = .ok (.iload_n 1, 1) := by decide +kernel
theorem dX10_at__93 : decode cX10_at_ 93 = .ok (.iload 4, 2) := by decide +kernel
theorem dX10_at__95 : decode cX10_at_ 95 = .ok (.invokevirtual 198, 3) := by decide +kernel
theorem dX10_at__98 : decode cX10_at_ 98 = .ok (.goto 27, 3) := by decide +kernel
theorem dX10_at__101 : decode cX10_at_ 101 = .ok (.iload_n 3, 1) := by decide +kernel
theorem dX10_at__102 : decode cX10_at_ 102 = .ok (.iconst 2, 1) := by decide +kernel
theorem dX10_at__103 : decode cX10_at_ 103 = .ok (.if_icmp .ne 15, 3) := by decide +kernel
theorem dX10_at__106 : decode cX10_at_ 106 = .ok (.aload_n 0, 1) := by decide +kernel
theorem dX10_at__107 : decode cX10_at_ 107 = .ok (.getfield 26, 3) := by decide +kernel
theorem dX10_at__110 : decode cX10_at_ 110 = .ok (.iload_n 2, 1) := by decide +kernel
theorem dX10_at__111 : decode cX10_at_ 111 = .ok (.iaload, 1) := by decide +kernel
theorem dX10_at__112 : decode cX10_at_ 112 = .ok (.invokestatic 128, 3) := by decide +kernel
theorem dX10_at__115 : decode cX10_at_ 115 = .ok (.goto 10, 3) := by decide +kernel
theorem dX10_at__118 : decode cX10_at_ 118 = .ok (.aload_n 0, 1) := by decide +kernel
theorem dX10_at__119 : decode cX10_at_ 119 = .ok (.iload_n 1, 1) := by decide +kernel
theorem dX10_at__120 : decode cX10_at_ 120 = .ok (.iload 4, 2) := by decide +kernel
theorem dX10_at__122 : decode cX10_at_ 122 = .ok (.invokevirtual 201, 3) := by decide +kernel
theorem dX10_at__125 : decode cX10_at_ 125 = .ok (.ireturn, 1) := by decide +kernel
theorem dX10_index_0 : decode cX10_index 0 = .ok (.aload_n 0, 1) := by decide +kernel
theorem dX10_index_1 : decode cX10_index 1 = .ok (.iconst 0, 1) := by decide +kernel
theorem dX10_index_2 : decode cX10_index 2 = .ok (.putfield 1, 3) := by decide +kernel
theorem dX10_index_5 : decode cX10_index 5 = .ok (.aload_n 0, 1) := by decide +kernel
theorem dX10_index_6 : decode cX10_index 6 = .ok (.iload_n 1, 1) := by decide +kernel
theorem dX10_index_7 : decode cX10_index 7 = .ok (.invokevirtual 63, 3) := by decide +kernel
theorem dX10_index_10 : decode cX10_index 10 = .ok (.ifCond .ne 5, 3) := by decide +kernel
theorem dX10_index_13 : decode cX10_index 13 = .ok (.iconst (-1), 1) := by decide +kernel
theorem dX10_index_14 : decode cX10_index 14 = .ok (.ireturn, 1) := by decide +kernel
theorem dX10_index_15 : decode cX10_index 15 = .ok (.aload_n 0, 1) := by decide +kernel
theorem dX10_index_16 : decode cX10_index 16 = .ok (.iload_n 1, 1) := by decide +kernel
theorem dX10_index_17 : decode cX10_index 17 = .ok (.invokevirtual 138, 3) := by decide +kernel
theorem dX10_index_20 : decode cX10_index 20 = .ok (.iconst 0, 1) := by decide +kernel
theorem dX10_index_21 : decode cX10_index 21 = .ok (.istore_n 3, 1) := by decide +kernel
theorem dX10_index_22 : decode cX10_index 22 = .ok (.iload_n 3, 1) := by decide +kernel
theorem dX10_index_23 : decode cX10_index 23 = .ok (.aload_n 0, 1) := by decide +kernel
theorem dX10_index_24 : decode cX10_index 24 = .ok (.getfield 119, 3) := by decide +kernel
theorem dX10_index_27 : decode cX10_index 27 = .ok (.if_icmp .ge 20, 3) := by decide +kernel
theorem dX10_index_30 : decode cX10_index 30 = .ok (.aload_n 0, 1) := by decide +kernel
theorem dX10_index_31 : decode cX10_index 31 = .ok (.iload_n 3, 1) := by decide +kernel
theorem dX10_index_32 : decode cX10_index 32 = .ok (.invokevirtual 148, 3) := by decide +kernel
theorem dX10_index_35 : decode cX10_index 35 = .ok (.iload_n 2, 1) := by decide +kernel
theorem dX10_index_36 : decode cX10_index 36 = .ok (.if_icmp .ne 5, 3) := by decide +kernel
theorem dX10_index_39 : decode cX10_index 39 = .ok (.iload_n 3, 1) := by decide +kernel
theorem dX10_index_40 : decode cX10_index 40 = .ok (.ireturn, 1) := by decide +kernel
theorem dX10_index_41 : decode cX10_index 41 = .ok (.iinc 3 1, 3) := by decide +kernel
theorem dX10_index_44 : decode cX10_index 44 = .ok (.goto (-22), 3) := by decide +kernel
theorem dX10_index_47 : decode cX10_index 47 = .ok (.iconst (-1), 1) := by decide +kernel
theorem dX10_index_48 : decode cX10_index 48 = .ok (.ireturn, 1) := by decide +kernel
theorem dX10_vector_0 : decode cX10_vector 0 = .ok (.aload_n 0, 1) := by decide +kernel
theorem dX10_vector_1 : decode cX10_vector 1 = .ok (.iconst 0, 1) := by decide +kernel
theorem dX10_vector_2 : decode cX10_vector 2 = .ok (.putfield 1, 3) := by decide +kernel
theorem dX10_vector_5 : decode cX10_vector 5 = .ok (.aload_n 0, 1) := by decide +kernel
theorem dX10_vector_6 : decode cX10_vector 6 = .ok (.iload_n 1, 1) := by decide +kernel
theorem dX10_vector_7 : decode cX10_vector 7 = .ok (.invokevirtual 63, 3) := by decide +kernel
theorem dX10_vector_10 : decode cX10_vector 10 = .ok (.ifCond .eq 22, 3) := by decide +kernel
theorem dX10_vector_13 : decode cX10_vector 13 = .ok (.aload_n 0, 1) := by decide +kernel
theorem dX10_vector_14 : decode cX10_vector 14 = .ok (.iload_n 2, 1) := by decide +kernel
theorem dX10_vector_15 : decode cX10_vector 15 = .ok (.invokevirtual 63, 3) := by decide +kernel
theorem dX10_vector_18 : decode cX10_vector 18 = .ok (.ifCond .eq 14, 3) := by decide +kernel
theorem dX10_vector_21 : decode cX10_vector 21 = .ok (.aload_n 0, 1) := by decide +kernel
theorem dX10_vector_22 : decode cX10_vector 22 = .ok (.iload_n 1, 1) := by decide +kernel
theorem dX10_vector_23 : decode cX10_vector 23 = .ok (.iconst 0, 1) := by decide +kernel
theorem dX10_vector_24 : decode cX10_vector 24 = .ok (.iload_n 2, 1) := by decide +kernel
theorem dX10_vector_25 : decode cX10_vector 25 = .ok (.iadd, 1) := by decide +kernel
theorem dX10_vector_26 : decode cX10_vector 26 = .ok (.invokevirtual 81, 3) := by decide +kernel
theorem dX10_vector_29 : decode cX10_vector 29 = .ok (.goto 4, 3) := by decide +kernel
theorem dX10_vector_32 : decode cX10_vector 32 = .ok (.iconst (-1), 1) := by decide +kernel
theorem dX10_vector_33 : decode cX10_vector 33 = .ok (.ireturn, 1) := by decide +kernel
theorem dX10_knows_0 : decode cX10_knows 0 = .ok (.aload_n 0, 1) := by decide +kernel
theorem dX10_knows_1 : decode cX10_knows 1 = .ok (.iconst 0, 1) := by decide +kernel
theorem dX10_knows_2 : decode cX10_knows 2 = .ok (.putfield 1, 3) := by decide +kernel
theorem dX10_knows_5 : decode cX10_knows 5 = .ok (.aload_n 0, 1) := by decide +kernel
theorem dX10_knows_6 : decode cX10_knows 6 = .ok (.iload_n 1, 1) := by decide +kernel
theorem dX10_knows_7 : decode cX10_knows 7 = .ok (.invokevirtual 63, 3) := by decide +kernel
theorem dX10_knows_10 : decode cX10_knows 10 = .ok (.ifCond .eq 29, 3) := by decide +kernel
theorem dX10_knows_13 : decode cX10_knows 13 = .ok (.aload_n 0, 1) := by decide +kernel
theorem dX10_knows_14 : decode cX10_knows 14 = .ok (.iload_n 2, 1) := by decide +kernel
theorem dX10_knows_15 : decode cX10_knows 15 = .ok (.invokevirtual 63, 3) := by decide +kernel
theorem dX10_knows_18 : decode cX10_knows 18 = .ok (.ifCond .eq 21, 3) := by decide +kernel
theorem dX10_knows_21 : decode cX10_knows 21 = .ok (.aload_n 0, 1) := by decide +kernel
theorem dX10_knows_22 : decode cX10_knows 22 = .ok (.iload_n 3, 1) := by decide +kernel
theorem dX10_knows_23 : decode cX10_knows 23 = .ok (.invokevirtual 63, 3) := by decide +kernel
theorem dX10_knows_26 : decode cX10_knows 26 = .ok (.ifCond .eq 13, 3) := by decide +kernel
theorem dX10_knows_29 : decode cX10_knows 29 = .ok (.aload_n 0, 1) := by decide +kernel
theorem dX10_knows_30 : decode cX10_knows 30 = .ok (.iload_n 1, 1) := by decide +kernel
theorem dX10_knows_31 : decode cX10_knows 31 = .ok (.iload_n 2, 1) := by decide +kernel
theorem dX10_knows_32 : decode cX10_knows 32 = .ok (.iload_n 3, 1) := by decide +kernel
theorem dX10_knows_33 : decode cX10_knows 33 = .ok (.invokevirtual 176, 3) := by decide +kernel
theorem dX10_knows_36 : decode cX10_knows 36 = .ok (.goto 4, 3) := by decide +kernel
theorem dX10_knows_39 : decode cX10_knows 39 = .ok (.iconst (-1), 1) := by decide +kernel
theorem dX10_knows_40 : decode cX10_knows 40 = .ok (.ireturn, 1) := by decide +kernel
theorem dX10_floor_0 : decode cX10_floor 0 = .ok (.aload_n 0, 1) := by decide +kernel
theorem dX10_floor_1 : decode cX10_floor 1 = .ok (.iconst 0, 1) := by decide +kernel
theorem dX10_floor_2 : decode cX10_floor 2 = .ok (.putfield 1, 3) := by decide +kernel
theorem dX10_floor_5 : decode cX10_floor 5 = .ok (.aload_n 0, 1) := by decide +kernel
theorem dX10_floor_6 : decode cX10_floor 6 = .ok (.iload_n 1, 1) := by decide +kernel
theorem dX10_floor_7 : decode cX10_floor 7 = .ok (.invokevirtual 63, 3) := by decide +kernel
theorem dX10_floor_10 : decode cX10_floor 10 = .ok (.ifCond .eq 20, 3) := by decide +kernel
theorem dX10_floor_13 : decode cX10_floor 13 = .ok (.aload_n 0, 1) := by decide +kernel
theorem dX10_floor_14 : decode cX10_floor 14 = .ok (.iload_n 2, 1) := by decide +kernel
theorem dX10_floor_15 : decode cX10_floor 15 = .ok (.invokevirtual 63, 3) := by decide +kernel
theorem dX10_floor_18 : decode cX10_floor 18 = .ok (.ifCond .eq 12, 3) := by decide +kernel
theorem dX10_floor_21 : decode cX10_floor 21 = .ok (.aload_n 0, 1) := by decide +kernel
theorem dX10_floor_22 : decode cX10_floor 22 = .ok (.iload_n 1, 1) := by decide +kernel
theorem dX10_floor_23 : decode cX10_floor 23 = .ok (.iload_n 2, 1) := by decide +kernel
theorem dX10_floor_24 : decode cX10_floor 24 = .ok (.invokevirtual 180, 3) := by decide +kernel
theorem dX10_floor_27 : decode cX10_floor 27 = .ok (.goto 4, 3) := by decide +kernel
theorem dX10_floor_30 : decode cX10_floor 30 = .ok (.iconst (-1), 1) := by decide +kernel
theorem dX10_floor_31 : decode cX10_floor 31 = .ok (.ireturn, 1) := by decide +kernel
theorem dX10_post_0 : decode cX10_post 0 = .ok (.aload_n 0, 1) := by decide +kernel
theorem dX10_post_1 : decode cX10_post 1 = .ok (.iconst 0, 1) := by decide +kernel
theorem dX10_post_2 : decode cX10_post 2 = .ok (.putfield 1, 3) := by decide +kernel
theorem dX10_post_5 : decode cX10_post 5 = .ok (.aload_n 0, 1) := by decide +kernel
theorem dX10_post_6 : decode cX10_post 6 = .ok (.iload_n 1, 1) := by decide +kernel
theorem dX10_post_7 : decode cX10_post 7 = .ok (.invokevirtual 63, 3) := by decide +kernel
theorem dX10_post_10 : decode cX10_post 10 = .ok (.ifCond .eq 17, 3) := by decide +kernel
theorem dX10_post_13 : decode cX10_post 13 = .ok (.iload_n 2, 1) := by decide +kernel
theorem dX10_post_14 : decode cX10_post 14 = .ok (.iconst 0, 1) := by decide +kernel
theorem dX10_post_15 : decode cX10_post 15 = .ok (.iconst 1, 1) := by decide +kernel
theorem dX10_post_16 : decode cX10_post 16 = .ok (.invokestatic 55, 3) := by decide +kernel
theorem dX10_post_19 : decode cX10_post 19 = .ok (.ifCond .eq 8, 3) := by decide +kernel
theorem dX10_post_22 : decode cX10_post 22 = .ok (.iload_n 3, 1) := by decide +kernel
theorem dX10_post_23 : decode cX10_post 23 = .ok (.iconst (-1), 1) := by decide +kernel
theorem dX10_post_24 : decode cX10_post 24 = .ok (.if_icmp .ge 5, 3) := by decide +kernel
theorem dX10_post_27 : decode cX10_post 27 = .ok (.iconst (-1), 1) := by decide +kernel
theorem dX10_post_28 : decode cX10_post 28 = .ok (.ireturn, 1) := by decide +kernel
theorem dX10_post_29 : decode cX10_post 29 = .ok (.aload_n 0, 1) := by decide +kernel
theorem dX10_post_30 : decode cX10_post 30 = .ok (.iload_n 1, 1) := by decide +kernel
theorem dX10_post_31 : decode cX10_post 31 = .ok (.iload_n 2, 1) := by decide +kernel
theorem dX10_post_32 : decode cX10_post 32 = .ok (.ifCond .ne 8, 3) := by decide +kernel
theorem dX10_post_35 : decode cX10_post 35 = .ok (.bipush 7, 2) := by decide +kernel
theorem dX10_post_37 : decode cX10_post 37 = .ok (.goto 5, 3) := by decide +kernel
theorem dX10_post_40 : decode cX10_post 40 = .ok (.bipush 68, 2) := by decide +kernel
theorem dX10_post_42 : decode cX10_post 42 = .ok (.invokevirtual 81, 3) := by decide +kernel
theorem dX10_post_45 : decode cX10_post 45 = .ok (.istore 4, 2) := by decide +kernel
theorem dX10_post_47 : decode cX10_post 47 = .ok (.iload_n 3, 1) := by decide +kernel
theorem dX10_post_48 : decode cX10_post 48 = .ok (.iconst (-1), 1) := by decide +kernel
theorem dX10_post_49 : decode cX10_post 49 = .ok (.if_icmp .ne 6, 3) := by decide +kernel
theorem dX10_post_52 : decode cX10_post 52 = .ok (.iload 4, 2) := by decide +kernel
theorem dX10_post_54 : decode cX10_post 54 = .ok (.ireturn, 1) := by decide +kernel
theorem dX10_post_55 : decode cX10_post 55 = .ok (.iload_n 3, 1) := by decide +kernel
theorem dX10_post_56 : decode cX10_post 56 = .ok (.iload 4, 2) := by decide +kernel
theorem dX10_post_58 : decode cX10_post 58 = .ok (.if_icmp .ge 27, 3) := by decide +kernel
theorem dX10_post_61 : decode cX10_post 61 = .ok (.aload_n 0, 1) := by decide +kernel
theorem dX10_post_62 : decode cX10_post 62 = .ok (.iload_n 1, 1) := by decide +kernel
theorem dX10_post_63 : decode cX10_post 63 = .ok (.iload_n 2, 1) := by decide +kernel
theorem dX10_post_64 : decode cX10_post 64 = .ok (.ifCond .ne 8, 3) := by decide +kernel
theorem dX10_post_67 : decode cX10_post 67 = .ok (.bipush 8, 2) := by decide +kernel
theorem dX10_post_69 : decode cX10_post 69 = .ok (.goto 5, 3) := by decide +kernel
theorem dX10_post_72 : decode cX10_post 72 = .ok (.bipush 69, 2) := by decide +kernel
theorem dX10_post_74 : decode cX10_post 74 = .ok (.iload_n 3, 1) := by decide +kernel
theorem dX10_post_75 : decode cX10_post 75 = .ok (.iadd, 1) := by decide +kernel
theorem dX10_post_76 : decode cX10_post 76 = .ok (.invokevirtual 81, 3) := by decide +kernel
theorem dX10_post_79 : decode cX10_post 79 = .ok (.invokestatic 128, 3) := by decide +kernel
theorem dX10_post_82 : decode cX10_post 82 = .ok (.goto 4, 3) := by decide +kernel
theorem dX10_post_85 : decode cX10_post 85 = .ok (.iconst (-1), 1) := by decide +kernel
theorem dX10_post_86 : decode cX10_post 86 = .ok (.ireturn, 1) := by decide +kernel
theorem dX10_op_0 : decode cX10_op 0 = .ok (.aload_n 0, 1) := by decide +kernel
theorem dX10_op_1 : decode cX10_op 1 = .ok (.iconst 0, 1) := by decide +kernel
theorem dX10_op_2 : decode cX10_op 2 = .ok (.putfield 1, 3) := by decide +kernel
theorem dX10_op_5 : decode cX10_op 5 = .ok (.aload_n 0, 1) := by decide +kernel
theorem dX10_op_6 : decode cX10_op 6 = .ok (.iload_n 1, 1) := by decide +kernel
theorem dX10_op_7 : decode cX10_op 7 = .ok (.invokevirtual 100, 3) := by decide +kernel
theorem dX10_op_10 : decode cX10_op 10 = .ok (.istore_n 3, 1) := by decide +kernel
theorem dX10_op_11 : decode cX10_op 11 = .ok (.iload_n 3, 1) := by decide +kernel
theorem dX10_op_12 : decode cX10_op 12 = .ok (.ifCond .lt 21, 3) := by decide +kernel
theorem dX10_op_15 : decode cX10_op 15 = .ok (.iload_n 2, 1) := by decide +kernel
theorem dX10_op_16 : decode cX10_op 16 = .ok (.iconst 0, 1) := by decide +kernel
theorem dX10_op_17 : decode cX10_op 17 = .ok (.iconst 4, 1) := by decide +kernel
theorem dX10_op_18 : decode cX10_op 18 = .ok (.invokestatic 55, 3) := by decide +kernel
theorem dX10_op_21 : decode cX10_op 21 = .ok (.ifCond .eq 12, 3) := by decide +kernel
theorem dX10_op_24 : decode cX10_op 24 = .ok (.aload_n 0, 1) := by decide +kernel
theorem dX10_op_25 : decode cX10_op 25 = .ok (.iload_n 3, 1) := by decide +kernel
theorem dX10_op_26 : decode cX10_op 26 = .ok (.iload_n 2, 1) := by decide +kernel
theorem dX10_op_27 : decode cX10_op 27 = .ok (.invokevirtual 84, 3) := by decide +kernel
theorem dX10_op_30 : decode cX10_op 30 = .ok (.goto 5, 3) := by decide +kernel
theorem dX10_op_33 : decode cX10_op 33 = .ok (.bipush (-2), 2) := by decide +kernel
theorem dX10_op_35 : decode cX10_op 35 = .ok (.ireturn, 1) := by decide +kernel
theorem dX10_needs_0 : decode cX10_needs 0 = .ok (.aload_n 0, 1) := by decide +kernel
theorem dX10_needs_1 : decode cX10_needs 1 = .ok (.iconst 0, 1) := by decide +kernel
theorem dX10_needs_2 : decode cX10_needs 2 = .ok (.putfield 1, 3) := by decide +kernel
theorem dX10_needs_5 : decode cX10_needs 5 = .ok (.aload_n 0, 1) := by decide +kernel
theorem dX10_needs_6 : decode cX10_needs 6 = .ok (.iload_n 1, 1) := by decide +kernel
theorem dX10_needs_7 : decode cX10_needs 7 = .ok (.invokevirtual 100, 3) := by decide +kernel
theorem dX10_needs_10 : decode cX10_needs 10 = .ok (.istore_n 3, 1) := by decide +kernel
theorem dX10_needs_11 : decode cX10_needs 11 = .ok (.iload_n 3, 1) := by decide +kernel
theorem dX10_needs_12 : decode cX10_needs 12 = .ok (.ifCond .lt 22, 3) := by decide +kernel
theorem dX10_needs_15 : decode cX10_needs 15 = .ok (.aload_n 0, 1) := by decide +kernel
theorem dX10_needs_16 : decode cX10_needs 16 = .ok (.iload_n 2, 1) := by decide +kernel
theorem dX10_needs_17 : decode cX10_needs 17 = .ok (.invokevirtual 63, 3) := by decide +kernel
theorem dX10_needs_20 : decode cX10_needs 20 = .ok (.ifCond .eq 14, 3) := by decide +kernel
theorem dX10_needs_23 : decode cX10_needs 23 = .ok (.aload_n 0, 1) := by decide +kernel
theorem dX10_needs_24 : decode cX10_needs 24 = .ok (.iload_n 3, 1) := by decide +kernel
theorem dX10_needs_25 : decode cX10_needs 25 = .ok (.iconst 5, 1) := by decide +kernel
theorem dX10_needs_26 : decode cX10_needs 26 = .ok (.iload_n 2, 1) := by decide +kernel
theorem dX10_needs_27 : decode cX10_needs 27 = .ok (.iadd, 1) := by decide +kernel
theorem dX10_needs_28 : decode cX10_needs 28 = .ok (.invokevirtual 84, 3) := by decide +kernel
theorem dX10_needs_31 : decode cX10_needs 31 = .ok (.goto 4, 3) := by decide +kernel
theorem dX10_needs_34 : decode cX10_needs 34 = .ok (.iconst (-1), 1) := by decide +kernel
theorem dX10_needs_35 : decode cX10_needs 35 = .ok (.ireturn, 1) := by decide +kernel
theorem dX10_isNeeded_0 : decode cX10_isNeeded 0 = .ok (.aload_n 0, 1) := by decide +kernel
theorem dX10_isNeeded_1 : decode cX10_isNeeded 1 = .ok (.iload_n 2, 1) := by decide +kernel
theorem dX10_isNeeded_2 : decode cX10_isNeeded 2 = .ok (.iconst 5, 1) := by decide +kernel
theorem dX10_isNeeded_3 : decode cX10_isNeeded 3 = .ok (.iload_n 1, 1) := by decide +kernel
theorem dX10_isNeeded_4 : decode cX10_isNeeded 4 = .ok (.invokestatic 67, 3) := by decide +kernel
theorem dX10_isNeeded_7 : decode cX10_isNeeded 7 = .ok (.iadd, 1) := by decide +kernel
theorem dX10_isNeeded_8 : decode cX10_isNeeded 8 = .ok (.invokevirtual 84, 3) := by decide +kernel
theorem dX10_isNeeded_11 : decode cX10_isNeeded 11 = .ok (.iload_n 1, 1) := by decide +kernel
theorem dX10_isNeeded_12 : decode cX10_isNeeded 12 = .ok (.bipush 40, 2) := by decide +kernel
theorem dX10_isNeeded_14 : decode cX10_isNeeded 14 = .ok (.irem, 1) := by decide +kernel
theorem dX10_isNeeded_15 : decode cX10_isNeeded 15 = .ok (.if_icmp .le 7, 3) := by decide +kernel
theorem dX10_isNeeded_18 : decode cX10_isNeeded 18 = .ok (.iconst 1, 1) := by decide +kernel
theorem dX10_isNeeded_19 : decode cX10_isNeeded 19 = .ok (.goto 4, 3) := by decide +kernel
theorem dX10_isNeeded_22 : decode cX10_isNeeded 22 = .ok (.iconst 0, 1) := by decide +kernel
theorem dX10_isNeeded_23 : decode cX10_isNeeded 23 = .ok (.ireturn, 1) := by decide +kernel
theorem dX10_ahead_0 : decode cX10_ahead 0 = .ok (.aload_n 0, 1) := by decide +kernel
theorem dX10_ahead_1 : decode cX10_ahead 1 = .ok (.iconst 0, 1) := by decide +kernel
theorem dX10_ahead_2 : decode cX10_ahead 2 = .ok (.putfield 1, 3) := by decide +kernel
theorem dX10_ahead_5 : decode cX10_ahead 5 = .ok (.aload_n 0, 1) := by decide +kernel
theorem dX10_ahead_6 : decode cX10_ahead 6 = .ok (.iload_n 1, 1) := by decide +kernel
theorem dX10_ahead_7 : decode cX10_ahead 7 = .ok (.invokevirtual 100, 3) := by decide +kernel
theorem dX10_ahead_10 : decode cX10_ahead 10 = .ok (.istore_n 3, 1) := by decide +kernel
theorem dX10_ahead_11 : decode cX10_ahead 11 = .ok (.aload_n 0, 1) := by decide +kernel
theorem dX10_ahead_12 : decode cX10_ahead 12 = .ok (.iload_n 2, 1) := by decide +kernel
theorem dX10_ahead_13 : decode cX10_ahead 13 = .ok (.invokevirtual 100, 3) := by decide +kernel
theorem dX10_ahead_16 : decode cX10_ahead 16 = .ok (.istore 4, 2) := by decide +kernel
theorem dX10_ahead_18 : decode cX10_ahead 18 = .ok (.iload_n 3, 1) := by decide +kernel
theorem dX10_ahead_19 : decode cX10_ahead 19 = .ok (.ifCond .lt 8, 3) := by decide +kernel
theorem dX10_ahead_22 : decode cX10_ahead 22 = .ok (.iload 4, 2) := by decide +kernel
theorem dX10_ahead_24 : decode cX10_ahead 24 = .ok (.ifCond .ge 5, 3) := by decide +kernel
theorem dX10_ahead_27 : decode cX10_ahead 27 = .ok (.iconst (-1), 1) := by decide +kernel
theorem dX10_ahead_28 : decode cX10_ahead 28 = .ok (.ireturn, 1) := by decide +kernel
theorem dX10_ahead_29 : decode cX10_ahead 29 = .ok (.iload_n 3, 1) := by decide +kernel
theorem dX10_ahead_30 : decode cX10_ahead 30 = .ok (.iload 4, 2) := by decide +kernel
theorem dX10_ahead_32 : decode cX10_ahead 32 = .ok (.if_icmp .ne 7, 3) := by decide +kernel
theorem dX10_ahead_35 : decode cX10_ahead 35 = .ok (.iconst 3, 1) := by decide +kernel
theorem dX10_ahead_36 : decode cX10_ahead 36 = .ok (.goto 32, 3) := by decide +kernel
theorem dX10_ahead_39 : decode cX10_ahead 39 = .ok (.aload_n 0, 1) := by decide +kernel
theorem dX10_ahead_40 : decode cX10_ahead 40 = .ok (.iload_n 3, 1) := by decide +kernel
theorem dX10_ahead_41 : decode cX10_ahead 41 = .ok (.iload 4, 2) := by decide +kernel
theorem dX10_ahead_43 : decode cX10_ahead 43 = .ok (.invokevirtual 74, 3) := by decide +kernel
theorem dX10_ahead_46 : decode cX10_ahead 46 = .ok (.ifCond .eq 7, 3) := by decide +kernel
theorem dX10_ahead_49 : decode cX10_ahead 49 = .ok (.iconst 0, 1) := by decide +kernel
theorem dX10_ahead_50 : decode cX10_ahead 50 = .ok (.goto 18, 3) := by decide +kernel
theorem dX10_ahead_53 : decode cX10_ahead 53 = .ok (.aload_n 0, 1) := by decide +kernel
theorem dX10_ahead_54 : decode cX10_ahead 54 = .ok (.iload 4, 2) := by decide +kernel
theorem dX10_ahead_56 : decode cX10_ahead 56 = .ok (.iload_n 3, 1) := by decide +kernel
theorem dX10_ahead_57 : decode cX10_ahead 57 = .ok (.invokevirtual 74, 3) := by decide +kernel
theorem dX10_ahead_60 : decode cX10_ahead 60 = .ok (.ifCond .eq 7, 3) := by decide +kernel
theorem dX10_ahead_63 : decode cX10_ahead 63 = .ok (.iconst 1, 1) := by decide +kernel
theorem dX10_ahead_64 : decode cX10_ahead 64 = .ok (.goto 4, 3) := by decide +kernel
theorem dX10_ahead_67 : decode cX10_ahead 67 = .ok (.iconst 2, 1) := by decide +kernel
theorem dX10_ahead_68 : decode cX10_ahead 68 = .ok (.ireturn, 1) := by decide +kernel
theorem dX10_has_0 : decode cX10_has 0 = .ok (.aload_n 0, 1) := by decide +kernel
theorem dX10_has_1 : decode cX10_has 1 = .ok (.iconst 0, 1) := by decide +kernel
theorem dX10_has_2 : decode cX10_has 2 = .ok (.putfield 1, 3) := by decide +kernel
theorem dX10_has_5 : decode cX10_has 5 = .ok (.aload_n 0, 1) := by decide +kernel
theorem dX10_has_6 : decode cX10_has 6 = .ok (.iload_n 2, 1) := by decide +kernel
theorem dX10_has_7 : decode cX10_has 7 = .ok (.invokevirtual 100, 3) := by decide +kernel
theorem dX10_has_10 : decode cX10_has 10 = .ok (.istore_n 3, 1) := by decide +kernel
theorem dX10_has_11 : decode cX10_has 11 = .ok (.aload_n 0, 1) := by decide +kernel
theorem dX10_has_12 : decode cX10_has 12 = .ok (.iload_n 1, 1) := by decide +kernel
theorem dX10_has_13 : decode cX10_has 13 = .ok (.invokevirtual 63, 3) := by decide +kernel
theorem dX10_has_16 : decode cX10_has 16 = .ok (.ifCond .eq 20, 3) := by decide +kernel
theorem dX10_has_19 : decode cX10_has 19 = .ok (.iload_n 3, 1) := by decide +kernel
theorem dX10_has_20 : decode cX10_has 20 = .ok (.ifCond .lt 16, 3) := by decide +kernel
theorem dX10_has_23 : decode cX10_has 23 = .ok (.aload_n 0, 1) := by decide +kernel
theorem dX10_has_24 : decode cX10_has 24 = .ok (.iload_n 1, 1) := by decide +kernel
theorem dX10_has_25 : decode cX10_has 25 = .ok (.iload_n 3, 1) := by decide +kernel
theorem dX10_has_26 : decode cX10_has 26 = .ok (.invokevirtual 87, 3) := by decide +kernel
theorem dX10_has_29 : decode cX10_has 29 = .ok (.ifCond .eq 7, 3) := by decide +kernel
theorem dX10_has_32 : decode cX10_has 32 = .ok (.iconst 1, 1) := by decide +kernel
theorem dX10_has_33 : decode cX10_has 33 = .ok (.goto 4, 3) := by decide +kernel
theorem dX10_has_36 : decode cX10_has 36 = .ok (.iconst 0, 1) := by decide +kernel
theorem dX10_has_37 : decode cX10_has 37 = .ok (.ireturn, 1) := by decide +kernel
