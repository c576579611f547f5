theorem dX0_init_0 : decode cX0_init 0 = .ok (.aload_n 0, 1) := by decide +kernel
theorem dX0_init_1 : decode cX0_init 1 = .ok (.invokespecial 3, 3) := by decide +kernel
theorem dX0_init_4 : decode cX0_init 4 = .ok (.aload_n 0, 1) := by decide +kernel
theorem dX0_init_5 : decode cX0_init 5 = .ok (.new 9, 3) := by decide +kernel
theorem dX0_init_8 : decode cX0_init 8 = .ok (.dup, 1) := by decide +kernel
theorem dX0_init_9 : decode cX0_init 9 = .ok (.invokespecial 11, 3) := by decide +kernel
theorem dX0_init_12 : decode cX0_init 12 = .ok (.putfield 12, 3) := by decide +kernel
theorem dX0_init_15 : decode cX0_init 15 = .ok (.return_, 1) := by decide +kernel
theorem dX0_opening_0 : decode cX0_opening 0 = .ok (.aload_n 0, 1) := by decide +kernel
theorem dX0_opening_1 : decode cX0_opening 1 = .ok (.getfield 12, 3) := by decide +kernel
theorem dX0_opening_4 : decode cX0_opening 4 = .ok (.invokevirtual 18, 3) := by decide +kernel
theorem dX0_opening_7 : decode cX0_opening 7 = .ok (.aload_n 0, 1) := by decide +kernel
theorem dX0_opening_8 : decode cX0_opening 8 = .ok (.getfield 12, 3) := by decide +kernel
theorem dX0_opening_11 : decode cX0_opening 11 = .ok (.iconst 0, 1) := by decide +kernel
theorem dX0_opening_12 : decode cX0_opening 12 = .ok (.aload_n 2, 1) := by decide +kernel
theorem dX0_opening_13 : decode cX0_opening 13 = .ok (.getfield 21, 3) := by decide +kernel
theorem dX0_opening_16 : decode cX0_opening 16 = .ok (.invokevirtual 27, 3) := by decide +kernel
theorem dX0_opening_19 : decode cX0_opening 19 = .ok (.iconst 0, 1) := by decide +kernel
theorem dX0_opening_20 : decode cX0_opening 20 = .ok (.istore 6, 2) := by decide +kernel
theorem dX0_opening_22 : decode cX0_opening 22 = .ok (.iload 6, 2) := by decide +kernel
theorem dX0_opening_24 : decode cX0_opening 24 = .ok (.iload_n 3, 1) := by decide +kernel
theorem dX0_opening_25 : decode cX0_opening 25 = .ok (.if_icmp .ge 31, 3) := by decide +kernel
theorem dX0_opening_28 : decode cX0_opening 28 = .ok (.aload_n 0, 1) := by decide +kernel
theorem dX0_opening_29 : decode cX0_opening 29 = .ok (.aload_n 1, 1) := by decide +kernel
theorem dX0_opening_30 : decode cX0_opening 30 = .ok (.iload 6, 2) := by decide +kernel
theorem dX0_opening_32 : decode cX0_opening 32 = .ok (.aload_n 2, 1) := by decide +kernel
theorem dX0_opening_33 : decode cX0_opening 33 = .ok (.getfield 31, 3) := by decide +kernel
theorem dX0_opening_36 : decode cX0_opening 36 = .ok (.iload 6, 2) := by decide +kernel
theorem dX0_opening_38 : decode cX0_opening 38 = .ok (.iadd, 1) := by decide +kernel
theorem dX0_opening_39 : decode cX0_opening 39 = .ok (.aload_n 1, 1) := by decide +kernel
theorem dX0_opening_40 : decode cX0_opening 40 = .ok (.iload 6, 2) := by decide +kernel
theorem dX0_opening_42 : decode cX0_opening 42 = .ok (.iload 5, 2) := by decide +kernel
theorem dX0_opening_44 : decode cX0_opening 44 = .ok (.invokestatic 34, 3) := by decide +kernel
theorem dX0_opening_47 : decode cX0_opening 47 = .ok (.invokevirtual 38, 3) := by decide +kernel
theorem dX0_opening_50 : decode cX0_opening 50 = .ok (.iinc 6 1, 3) := by decide +kernel
theorem dX0_opening_53 : decode cX0_opening 53 = .ok (.goto (-31), 3) := by decide +kernel
theorem dX0_opening_56 : decode cX0_opening 56 = .ok (.aload_n 0, 1) := by decide +kernel
theorem dX0_opening_57 : decode cX0_opening 57 = .ok (.aload_n 1, 1) := by decide +kernel
theorem dX0_opening_58 : decode cX0_opening 58 = .ok (.iload_n 3, 1) := by decide +kernel
theorem dX0_opening_59 : decode cX0_opening 59 = .ok (.iload 4, 2) := by decide +kernel
theorem dX0_opening_61 : decode cX0_opening 61 = .ok (.invokevirtual 42, 3) := by decide +kernel
theorem dX0_opening_64 : decode cX0_opening 64 = .ok (.iload_n 3, 1) := by decide +kernel
theorem dX0_opening_65 : decode cX0_opening 65 = .ok (.iconst 1, 1) := by decide +kernel
theorem dX0_opening_66 : decode cX0_opening 66 = .ok (.isub, 1) := by decide +kernel
theorem dX0_opening_67 : decode cX0_opening 67 = .ok (.istore 6, 2) := by decide +kernel
theorem dX0_opening_69 : decode cX0_opening 69 = .ok (.iload 6, 2) := by decide +kernel
theorem dX0_opening_71 : decode cX0_opening 71 = .ok (.ifCond .le 31, 3) := by decide +kernel
theorem dX0_opening_74 : decode cX0_opening 74 = .ok (.aload_n 0, 1) := by decide +kernel
theorem dX0_opening_75 : decode cX0_opening 75 = .ok (.aload_n 1, 1) := by decide +kernel
theorem dX0_opening_76 : decode cX0_opening 76 = .ok (.iload 6, 2) := by decide +kernel
theorem dX0_opening_78 : decode cX0_opening 78 = .ok (.aload_n 2, 1) := by decide +kernel
theorem dX0_opening_79 : decode cX0_opening 79 = .ok (.getfield 31, 3) := by decide +kernel
theorem dX0_opening_82 : decode cX0_opening 82 = .ok (.iload 6, 2) := by decide +kernel
theorem dX0_opening_84 : decode cX0_opening 84 = .ok (.iadd, 1) := by decide +kernel
theorem dX0_opening_85 : decode cX0_opening 85 = .ok (.aload_n 1, 1) := by decide +kernel
theorem dX0_opening_86 : decode cX0_opening 86 = .ok (.iload 6, 2) := by decide +kernel
theorem dX0_opening_88 : decode cX0_opening 88 = .ok (.iload 5, 2) := by decide +kernel
theorem dX0_opening_90 : decode cX0_opening 90 = .ok (.invokestatic 34, 3) := by decide +kernel
theorem dX0_opening_93 : decode cX0_opening 93 = .ok (.invokevirtual 46, 3) := by decide +kernel
theorem dX0_opening_96 : decode cX0_opening 96 = .ok (.iinc 6 (-1), 3) := by decide +kernel
theorem dX0_opening_99 : decode cX0_opening 99 = .ok (.goto (-30), 3) := by decide +kernel
theorem dX0_opening_102 : decode cX0_opening 102 = .ok (.aload_n 0, 1) := by decide +kernel
theorem dX0_opening_103 : decode cX0_opening 103 = .ok (.aload_n 1, 1) := by decide +kernel
theorem dX0_opening_104 : decode cX0_opening 104 = .ok (.aload_n 2, 1) := by decide +kernel
theorem dX0_opening_105 : decode cX0_opening 105 = .ok (.getfield 21, 3) := by decide +kernel
theorem dX0_opening_108 : decode cX0_opening 108 = .ok (.iconst 0, 1) := by decide +kernel
theorem dX0_opening_109 : decode cX0_opening 109 = .ok (.aload_n 2, 1) := by decide +kernel
theorem dX0_opening_110 : decode cX0_opening 110 = .ok (.getfield 31, 3) := by decide +kernel
theorem dX0_opening_113 : decode cX0_opening 113 = .ok (.iload 5, 2) := by decide +kernel
theorem dX0_opening_115 : decode cX0_opening 115 = .ok (.iconst 1, 1) := by decide +kernel
theorem dX0_opening_116 : decode cX0_opening 116 = .ok (.invokevirtual 49, 3) := by decide +kernel
theorem dX0_opening_119 : decode cX0_opening 119 = .ok (.ireturn, 1) := by decide +kernel
theorem dX0_moversIn_0 : decode cX0_moversIn 0 = .ok (.iload_n 1, 1) := by decide +kernel
theorem dX0_moversIn_1 : decode cX0_moversIn 1 = .ok (.iconst 2, 1) := by decide +kernel
theorem dX0_moversIn_2 : decode cX0_moversIn 2 = .ok (.irem, 1) := by decide +kernel
theorem dX0_moversIn_3 : decode cX0_moversIn 3 = .ok (.ifCond .ne 7, 3) := by decide +kernel
theorem dX0_moversIn_6 : decode cX0_moversIn 6 = .ok (.iload_n 2, 1) := by decide +kernel
theorem dX0_moversIn_7 : decode cX0_moversIn 7 = .ok (.goto 11, 3) := by decide +kernel
theorem dX0_moversIn_10 : decode cX0_moversIn 10 = .ok (.aload_n 0, 1) := by decide +kernel
theorem dX0_moversIn_11 : decode cX0_moversIn 11 = .ok (.invokevirtual 53, 3) := by decide +kernel
theorem dX0_moversIn_14 : decode cX0_moversIn 14 = .ok (.iload_n 2, 1) := by decide +kernel
theorem dX0_moversIn_15 : decode cX0_moversIn 15 = .ok (.iconst (-1), 1) := by decide +kernel
theorem dX0_moversIn_16 : decode cX0_moversIn 16 = .ok (.ixor, 1) := by decide +kernel
theorem dX0_moversIn_17 : decode cX0_moversIn 17 = .ok (.iand, 1) := by decide +kernel
theorem dX0_moversIn_18 : decode cX0_moversIn 18 = .ok (.ireturn, 1) := by decide +kernel
theorem dX0_goForth_0 : decode cX0_goForth 0 = .ok (.iconst 0, 1) := by decide +kernel
theorem dX0_goForth_1 : decode cX0_goForth 1 = .ok (.istore 5, 2) := by decide +kernel
theorem dX0_goForth_3 : decode cX0_goForth 3 = .ok (.iload 5, 2) := by decide +kernel
theorem dX0_goForth_5 : decode cX0_goForth 5 = .ok (.aload_n 1, 1) := by decide +kernel
theorem dX0_goForth_6 : decode cX0_goForth 6 = .ok (.invokevirtual 59, 3) := by decide +kernel
theorem dX0_goForth_9 : decode cX0_goForth 9 = .ok (.if_icmp .ge 33, 3) := by decide +kernel
theorem dX0_goForth_12 : decode cX0_goForth 12 = .ok (.aload_n 0, 1) := by decide +kernel
theorem dX0_goForth_13 : decode cX0_goForth 13 = .ok (.getfield 12, 3) := by decide +kernel
theorem dX0_goForth_16 : decode cX0_goForth 16 = .ok (.iload_n 2, 1) := by decide +kernel
theorem dX0_goForth_17 : decode cX0_goForth 17 = .ok (.iload 5, 2) := by decide +kernel
theorem dX0_goForth_19 : decode cX0_goForth 19 = .ok (.invokevirtual 62, 3) := by decide +kernel
theorem dX0_goForth_22 : decode cX0_goForth 22 = .ok (.ifCond .eq 14, 3) := by decide +kernel
theorem dX0_goForth_25 : decode cX0_goForth 25 = .ok (.aload_n 0, 1) := by decide +kernel
theorem dX0_goForth_26 : decode cX0_goForth 26 = .ok (.aload_n 1, 1) := by decide +kernel
theorem dX0_goForth_27 : decode cX0_goForth 27 = .ok (.iload 5, 2) := by decide +kernel
theorem dX0_goForth_29 : decode cX0_goForth 29 = .ok (.iload_n 2, 1) := by decide +kernel
theorem dX0_goForth_30 : decode cX0_goForth 30 = .ok (.iload_n 3, 1) := by decide +kernel
theorem dX0_goForth_31 : decode cX0_goForth 31 = .ok (.iload 4, 2) := by decide +kernel
theorem dX0_goForth_33 : decode cX0_goForth 33 = .ok (.invokevirtual 66, 3) := by decide +kernel
theorem dX0_goForth_36 : decode cX0_goForth 36 = .ok (.iinc 5 1, 3) := by decide +kernel
theorem dX0_goForth_39 : decode cX0_goForth 39 = .ok (.goto (-36), 3) := by decide +kernel
theorem dX0_goForth_42 : decode cX0_goForth 42 = .ok (.return_, 1) := by decide +kernel
theorem dX0_addNext_0 : decode cX0_addNext 0 = .ok (.aload_n 0, 1) := by decide +kernel
theorem dX0_addNext_1 : decode cX0_addNext 1 = .ok (.getfield 12, 3) := by decide +kernel
theorem dX0_addNext_4 : decode cX0_addNext 4 = .ok (.iload_n 3, 1) := by decide +kernel
theorem dX0_addNext_5 : decode cX0_addNext 5 = .ok (.iconst 1, 1) := by decide +kernel
theorem dX0_addNext_6 : decode cX0_addNext 6 = .ok (.iadd, 1) := by decide +kernel
theorem dX0_addNext_7 : decode cX0_addNext 7 = .ok (.aload_n 1, 1) := by decide +kernel
theorem dX0_addNext_8 : decode cX0_addNext 8 = .ok (.iload_n 2, 1) := by decide +kernel
theorem dX0_addNext_9 : decode cX0_addNext 9 = .ok (.iload 4, 2) := by decide +kernel
theorem dX0_addNext_11 : decode cX0_addNext 11 = .ok (.iconst 1, 1) := by decide +kernel
theorem dX0_addNext_12 : decode cX0_addNext 12 = .ok (.iadd, 1) := by decide +kernel
theorem dX0_addNext_13 : decode cX0_addNext 13 = .ok (.invokevirtual 70, 3) := by decide +kernel
theorem dX0_addNext_16 : decode cX0_addNext 16 = .ok (.invokevirtual 27, 3) := by decide +kernel
theorem dX0_addNext_19 : decode cX0_addNext 19 = .ok (.iconst 0, 1) := by decide +kernel
theorem dX0_addNext_20 : decode cX0_addNext 20 = .ok (.istore 6, 2) := by decide +kernel
theorem dX0_addNext_22 : decode cX0_addNext 22 = .ok (.iload 6, 2) := by decide +kernel
theorem dX0_addNext_24 : decode cX0_addNext 24 = .ok (.aload_n 1, 1) := by decide +kernel
theorem dX0_addNext_25 : decode cX0_addNext 25 = .ok (.invokevirtual 74, 3) := by decide +kernel
theorem dX0_addNext_28 : decode cX0_addNext 28 = .ok (.if_icmp .ge 55, 3) := by decide +kernel
theorem dX0_addNext_31 : decode cX0_addNext 31 = .ok (.iload 5, 2) := by decide +kernel
theorem dX0_addNext_33 : decode cX0_addNext 33 = .ok (.iload 6, 2) := by decide +kernel
theorem dX0_addNext_35 : decode cX0_addNext 35 = .ok (.ishr, 1) := by decide +kernel
theorem dX0_addNext_36 : decode cX0_addNext 36 = .ok (.iconst 1, 1) := by decide +kernel
theorem dX0_addNext_37 : decode cX0_addNext 37 = .ok (.iand, 1) := by decide +kernel
theorem dX0_addNext_38 : decode cX0_addNext 38 = .ok (.ifCond .eq 39, 3) := by decide +kernel
theorem dX0_addNext_41 : decode cX0_addNext 41 = .ok (.aload_n 1, 1) := by decide +kernel
theorem dX0_addNext_42 : decode cX0_addNext 42 = .ok (.iload 6, 2) := by decide +kernel
theorem dX0_addNext_44 : decode cX0_addNext 44 = .ok (.iload_n 2, 1) := by decide +kernel
theorem dX0_addNext_45 : decode cX0_addNext 45 = .ok (.iload 4, 2) := by decide +kernel
theorem dX0_addNext_47 : decode cX0_addNext 47 = .ok (.invokevirtual 77, 3) := by decide +kernel
theorem dX0_addNext_50 : decode cX0_addNext 50 = .ok (.ifCond .eq 27, 3) := by decide +kernel
theorem dX0_addNext_53 : decode cX0_addNext 53 = .ok (.aload_n 0, 1) := by decide +kernel
theorem dX0_addNext_54 : decode cX0_addNext 54 = .ok (.getfield 12, 3) := by decide +kernel
theorem dX0_addNext_57 : decode cX0_addNext 57 = .ok (.iload_n 3, 1) := by decide +kernel
theorem dX0_addNext_58 : decode cX0_addNext 58 = .ok (.iconst 1, 1) := by decide +kernel
theorem dX0_addNext_59 : decode cX0_addNext 59 = .ok (.iadd, 1) := by decide +kernel
theorem dX0_addNext_60 : decode cX0_addNext 60 = .ok (.aload_n 1, 1) := by decide +kernel
theorem dX0_addNext_61 : decode cX0_addNext 61 = .ok (.iload_n 2, 1) := by decide +kernel
theorem dX0_addNext_62 : decode cX0_addNext 62 = .ok (.iload 6, 2) := by decide +kernel
theorem dX0_addNext_64 : decode cX0_addNext 64 = .ok (.invokestatic 81, 3) := by decide +kernel
theorem dX0_addNext_67 : decode cX0_addNext 67 = .ok (.iload 4, 2) := by decide +kernel
theorem dX0_addNext_69 : decode cX0_addNext 69 = .ok (.iconst 1, 1) := by decide +kernel
theorem dX0_addNext_70 : decode cX0_addNext 70 = .ok (.iadd, 1) := by decide +kernel
theorem dX0_addNext_71 : decode cX0_addNext 71 = .ok (.invokevirtual 70, 3) := by decide +kernel
theorem dX0_addNext_74 : decode cX0_addNext 74 = .ok (.invokevirtual 27, 3) := by decide +kernel
theorem dX0_addNext_77 : decode cX0_addNext 77 = .ok (.iinc 6 1, 3) := by decide +kernel
theorem dX0_addNext_80 : decode cX0_addNext 80 = .ok (.goto (-58), 3) := by decide +kernel
theorem dX0_addNext_83 : decode cX0_addNext 83 = .ok (.return_, 1) := by decide +kernel
theorem dX0_leaveThoseAt_0 : decode cX0_leaveThoseAt 0 = .ok (.iconst 0, 1) := by decide +kernel
theorem dX0_leaveThoseAt_1 : decode cX0_leaveThoseAt 1 = .ok (.istore 4, 2) := by decide +kernel
theorem dX0_leaveThoseAt_3 : decode cX0_leaveThoseAt 3 = .ok (.iload 4, 2) := by decide +kernel
theorem dX0_leaveThoseAt_5 : decode cX0_leaveThoseAt 5 = .ok (.aload_n 1, 1) := by decide +kernel
theorem dX0_leaveThoseAt_6 : decode cX0_leaveThoseAt 6 = .ok (.invokevirtual 59, 3) := by decide +kernel
theorem dX0_leaveThoseAt_9 : decode cX0_leaveThoseAt 9 = .ok (.if_icmp .ge 28, 3) := by decide +kernel
theorem dX0_leaveThoseAt_12 : decode cX0_leaveThoseAt 12 = .ok (.iload 4, 2) := by decide +kernel
theorem dX0_leaveThoseAt_14 : decode cX0_leaveThoseAt 14 = .ok (.invokestatic 84, 3) := by decide +kernel
theorem dX0_leaveThoseAt_17 : decode cX0_leaveThoseAt 17 = .ok (.iload_n 3, 1) := by decide +kernel
theorem dX0_leaveThoseAt_18 : decode cX0_leaveThoseAt 18 = .ok (.if_icmp .eq 13, 3) := by decide +kernel
theorem dX0_leaveThoseAt_21 : decode cX0_leaveThoseAt 21 = .ok (.aload_n 0, 1) := by decide +kernel
theorem dX0_leaveThoseAt_22 : decode cX0_leaveThoseAt 22 = .ok (.getfield 12, 3) := by decide +kernel
theorem dX0_leaveThoseAt_25 : decode cX0_leaveThoseAt 25 = .ok (.iload_n 2, 1) := by decide +kernel
theorem dX0_leaveThoseAt_26 : decode cX0_leaveThoseAt 26 = .ok (.iload 4, 2) := by decide +kernel
theorem dX0_leaveThoseAt_28 : decode cX0_leaveThoseAt 28 = .ok (.invokevirtual 88, 3) := by decide +kernel
theorem dX0_leaveThoseAt_31 : decode cX0_leaveThoseAt 31 = .ok (.iinc 4 1, 3) := by decide +kernel
theorem dX0_leaveThoseAt_34 : decode cX0_leaveThoseAt 34 = .ok (.goto (-31), 3) := by decide +kernel
theorem dX0_leaveThoseAt_37 : decode cX0_leaveThoseAt 37 = .ok (.return_, 1) := by decide +kernel
theorem dX0_goBack_0 : decode cX0_goBack 0 = .ok (.iload_n 2, 1) := by decide +kernel
theorem dX0_goBack_1 : decode cX0_goBack 1 = .ok (.iconst 2, 1) := by decide +kernel
theorem dX0_goBack_2 : decode cX0_goBack 2 = .ok (.irem, 1) := by decide +kernel
theorem dX0_goBack_3 : decode cX0_goBack 3 = .ok (.ifCond .ne 7, 3) := by decide +kernel
theorem dX0_goBack_6 : decode cX0_goBack 6 = .ok (.iconst 1, 1) := by decide +kernel
theorem dX0_goBack_7 : decode cX0_goBack 7 = .ok (.goto 4, 3) := by decide +kernel
theorem dX0_goBack_10 : decode cX0_goBack 10 = .ok (.iconst 0, 1) := by decide +kernel
theorem dX0_goBack_11 : decode cX0_goBack 11 = .ok (.istore 5, 2) := by decide +kernel
theorem dX0_goBack_13 : decode cX0_goBack 13 = .ok (.iconst 0, 1) := by decide +kernel
theorem dX0_goBack_14 : decode cX0_goBack 14 = .ok (.istore 6, 2) := by decide +kernel
theorem dX0_goBack_16 : decode cX0_goBack 16 = .ok (.iload 6, 2) := by decide +kernel
theorem dX0_goBack_18 : decode cX0_goBack 18 = .ok (.aload_n 1, 1) := by decide +kernel
theorem dX0_goBack_19 : decode cX0_goBack 19 = .ok (.invokevirtual 59, 3) := by decide +kernel
theorem dX0_goBack_22 : decode cX0_goBack 22 = .ok (.if_icmp .ge 64, 3) := by decide +kernel
theorem dX0_goBack_25 : decode cX0_goBack 25 = .ok (.aload_n 0, 1) := by decide +kernel
theorem dX0_goBack_26 : decode cX0_goBack 26 = .ok (.getfield 12, 3) := by decide +kernel
theorem dX0_goBack_29 : decode cX0_goBack 29 = .ok (.iload_n 2, 1) := by decide +kernel
theorem dX0_goBack_30 : decode cX0_goBack 30 = .ok (.iload 6, 2) := by decide +kernel
theorem dX0_goBack_32 : decode cX0_goBack 32 = .ok (.invokevirtual 62, 3) := by decide +kernel
theorem dX0_goBack_35 : decode cX0_goBack 35 = .ok (.ifCond .eq 45, 3) := by decide +kernel
theorem dX0_goBack_38 : decode cX0_goBack 38 = .ok (.aload_n 0, 1) := by decide +kernel
theorem dX0_goBack_39 : decode cX0_goBack 39 = .ok (.aload_n 1, 1) := by decide +kernel
theorem dX0_goBack_40 : decode cX0_goBack 40 = .ok (.iload 6, 2) := by decide +kernel
theorem dX0_goBack_42 : decode cX0_goBack 42 = .ok (.iload_n 2, 1) := by decide +kernel
theorem dX0_goBack_43 : decode cX0_goBack 43 = .ok (.iload_n 3, 1) := by decide +kernel
theorem dX0_goBack_44 : decode cX0_goBack 44 = .ok (.iload 4, 2) := by decide +kernel
theorem dX0_goBack_46 : decode cX0_goBack 46 = .ok (.iload 5, 2) := by decide +kernel
theorem dX0_goBack_48 : decode cX0_goBack 48 = .ok (.invokevirtual 49, 3) := by decide +kernel
theorem dX0_goBack_51 : decode cX0_goBack 51 = .ok (.bipush (-2), 2) := by decide +kernel
theorem dX0_goBack_53 : decode cX0_goBack 53 = .ok (.if_icmp .eq 7, 3) := by decide +kernel
theorem dX0_goBack_56 : decode cX0_goBack 56 = .ok (.iconst 1, 1) := by decide +kernel
theorem dX0_goBack_57 : decode cX0_goBack 57 = .ok (.goto 4, 3) := by decide +kernel
theorem dX0_goBack_60 : decode cX0_goBack 60 = .ok (.iconst 0, 1) := by decide +kernel
theorem dX0_goBack_61 : decode cX0_goBack 61 = .ok (.istore 7, 2) := by decide +kernel
theorem dX0_goBack_63 : decode cX0_goBack 63 = .ok (.iload 7, 2) := by decide +kernel
theorem dX0_goBack_65 : decode cX0_goBack 65 = .ok (.iload 5, 2) := by decide +kernel
theorem dX0_goBack_67 : decode cX0_goBack 67 = .ok (.if_icmp .eq 13, 3) := by decide +kernel
theorem dX0_goBack_70 : decode cX0_goBack 70 = .ok (.aload_n 0, 1) := by decide +kernel
theorem dX0_goBack_71 : decode cX0_goBack 71 = .ok (.getfield 12, 3) := by decide +kernel
theorem dX0_goBack_74 : decode cX0_goBack 74 = .ok (.iload_n 2, 1) := by decide +kernel
theorem dX0_goBack_75 : decode cX0_goBack 75 = .ok (.iload 6, 2) := by decide +kernel
theorem dX0_goBack_77 : decode cX0_goBack 77 = .ok (.invokevirtual 88, 3) := by decide +kernel
theorem dX0_goBack_80 : decode cX0_goBack 80 = .ok (.iinc 6 1, 3) := by decide +kernel
theorem dX0_goBack_83 : decode cX0_goBack 83 = .ok (.goto (-67), 3) := by decide +kernel
theorem dX0_goBack_86 : decode cX0_goBack 86 = .ok (.return_, 1) := by decide +kernel
theorem dX0_choice_0 : decode cX0_choice 0 = .ok (.aload_n 0, 1) := by decide +kernel
theorem dX0_choice_1 : decode cX0_choice 1 = .ok (.getfield 12, 3) := by decide +kernel
theorem dX0_choice_4 : decode cX0_choice 4 = .ok (.iload_n 3, 1) := by decide +kernel
theorem dX0_choice_5 : decode cX0_choice 5 = .ok (.iconst 1, 1) := by decide +kernel
theorem dX0_choice_6 : decode cX0_choice 6 = .ok (.iadd, 1) := by decide +kernel
theorem dX0_choice_7 : decode cX0_choice 7 = .ok (.aload_n 1, 1) := by decide +kernel
theorem dX0_choice_8 : decode cX0_choice 8 = .ok (.iload_n 2, 1) := by decide +kernel
theorem dX0_choice_9 : decode cX0_choice 9 = .ok (.iload 4, 2) := by decide +kernel
theorem dX0_choice_11 : decode cX0_choice 11 = .ok (.iconst 1, 1) := by decide +kernel
theorem dX0_choice_12 : decode cX0_choice 12 = .ok (.iadd, 1) := by decide +kernel
theorem dX0_choice_13 : decode cX0_choice 13 = .ok (.invokevirtual 70, 3) := by decide +kernel
theorem dX0_choice_16 : decode cX0_choice 16 = .ok (.invokevirtual 62, 3) := by decide +kernel
theorem dX0_choice_19 : decode cX0_choice 19 = .ok (.iload 6, 2) := by decide +kernel
theorem dX0_choice_21 : decode cX0_choice 21 = .ok (.if_icmp .ne 5, 3) := by decide +kernel
theorem dX0_choice_24 : decode cX0_choice 24 = .ok (.iconst (-1), 1) := by decide +kernel
theorem dX0_choice_25 : decode cX0_choice 25 = .ok (.ireturn, 1) := by decide +kernel
theorem dX0_choice_26 : decode cX0_choice 26 = .ok (.iconst 0, 1) := by decide +kernel
theorem dX0_choice_27 : decode cX0_choice 27 = .ok (.istore 7, 2) := by decide +kernel
theorem dX0_choice_29 : decode cX0_choice 29 = .ok (.iload 7, 2) := by decide +kernel
theorem dX0_choice_31 : decode cX0_choice 31 = .ok (.aload_n 1, 1) := by decide +kernel
theorem dX0_choice_32 : decode cX0_choice 32 = .ok (.invokevirtual 74, 3) := by decide +kernel
theorem dX0_choice_35 : decode cX0_choice 35 = .ok (.if_icmp .ge 63, 3) := by decide +kernel
theorem dX0_choice_38 : decode cX0_choice 38 = .ok (.iload 5, 2) := by decide +kernel
theorem dX0_choice_40 : decode cX0_choice 40 = .ok (.iload 7, 2) := by decide +kernel
theorem dX0_choice_42 : decode cX0_choice 42 = .ok (.ishr, 1) := by decide +kernel
theorem dX0_choice_43 : decode cX0_choice 43 = .ok (.iconst 1, 1) := by decide +kernel
theorem dX0_choice_44 : decode cX0_choice 44 = .ok (.iand, 1) := by decide +kernel
theorem dX0_choice_45 : decode cX0_choice 45 = .ok (.ifCond .eq 47, 3) := by decide +kernel
theorem dX0_choice_48 : decode cX0_choice 48 = .ok (.aload_n 1, 1) := by decide +kernel
theorem dX0_choice_49 : decode cX0_choice 49 = .ok (.iload 7, 2) := by decide +kernel
theorem dX0_choice_51 : decode cX0_choice 51 = .ok (.iload_n 2, 1) := by decide +kernel
theorem dX0_choice_52 : decode cX0_choice 52 = .ok (.iload 4, 2) := by decide +kernel
theorem dX0_choice_54 : decode cX0_choice 54 = .ok (.invokevirtual 77, 3) := by decide +kernel
theorem dX0_choice_57 : decode cX0_choice 57 = .ok (.ifCond .eq 35, 3) := by decide +kernel
theorem dX0_choice_60 : decode cX0_choice 60 = .ok (.aload_n 0, 1) := by decide +kernel
theorem dX0_choice_61 : decode cX0_choice 61 = .ok (.getfield 12, 3) := by decide +kernel
theorem dX0_choice_64 : decode cX0_choice 64 = .ok (.iload_n 3, 1) := by decide +kernel
theorem dX0_choice_65 : decode cX0_choice 65 = .ok (.iconst 1, 1) := by decide +kernel
theorem dX0_choice_66 : decode cX0_choice 66 = .ok (.iadd, 1) := by decide +kernel
theorem dX0_choice_67 : decode cX0_choice 67 = .ok (.aload_n 1, 1) := by decide +kernel
theorem dX0_choice_68 : decode cX0_choice 68 = .ok (.iload_n 2, 1) := by decide +kernel
theorem dX0_choice_69 : decode cX0_choice 69 = .ok (.iload 7, 2) := by decide +kernel
theorem dX0_choice_71 : decode cX0_choice 71 = .ok (.invokestatic 81, 3) := by decide +kernel
theorem dX0_choice_74 : decode cX0_choice 74 = .ok (.iload 4, 2) := by decide +kernel
theorem dX0_choice_76 : decode cX0_choice 76 = .ok (.iconst 1, 1) := by decide +kernel
theorem dX0_choice_77 : decode cX0_choice 77 = .ok (.iadd, 1) := by decide +kernel
theorem dX0_choice_78 : decode cX0_choice 78 = .ok (.invokevirtual 70, 3) := by decide +kernel
theorem dX0_choice_81 : decode cX0_choice 81 = .ok (.invokevirtual 62, 3) := by decide +kernel
theorem dX0_choice_84 : decode cX0_choice 84 = .ok (.iload 6, 2) := by decide +kernel
theorem dX0_choice_86 : decode cX0_choice 86 = .ok (.if_icmp .ne 6, 3) := by decide +kernel
theorem dX0_choice_89 : decode cX0_choice 89 = .ok (.iload 7, 2) := by decide +kernel
theorem dX0_choice_91 : decode cX0_choice 91 = .ok (.ireturn, 1) := by decide +kernel
theorem dX0_choice_92 : decode cX0_choice 92 = .ok (.iinc 7 1, 3) := by decide +kernel
theorem dX0_choice_95 : decode cX0_choice 95 = .ok (.goto (-66), 3) := by decide +kernel
theorem dX0_choice_98 : decode cX0_choice 98 = .ok (.bipush (-2), 2) := by decide +kernel
theorem dX0_choice_100 : decode cX0_choice 100 = .ok (.ireturn, 1) := by decide +kernel
theorem dX1_init_0 : decode cX1_init 0 = .ok (.aload_n 0, 1) := by decide +kernel
theorem dX1_init_1 : decode cX1_init 1 = .ok (.invokespecial 3, 3) := by decide +kernel
theorem dX1_init_4 : decode cX1_init 4 = .ok (.aload_n 0, 1) := by decide +kernel
theorem dX1_init_5 : decode cX1_init 5 = .ok (.bipush 64, 2) := by decide +kernel
theorem dX1_init_7 : decode cX1_init 7 = .ok (.newarray .int, 2) := by decide +kernel
theorem dX1_init_9 : decode cX1_init 9 = .ok (.putfield 9, 3) := by decide +kernel
theorem dX1_init_12 : decode cX1_init 12 = .ok (.aload_n 0, 1) := by decide +kernel
theorem dX1_init_13 : decode cX1_init 13 = .ok (.bipush 64, 2) := by decide +kernel
theorem dX1_init_15 : decode cX1_init 15 = .ok (.newarray .int, 2) := by decide +kernel
theorem dX1_init_17 : decode cX1_init 17 = .ok (.putfield 15, 3) := by decide +kernel
theorem dX1_init_20 : decode cX1_init 20 = .ok (.aload_n 0, 1) := by decide +kernel
theorem dX1_init_21 : decode cX1_init 21 = .ok (.iconst 5, 1) := by decide +kernel
theorem dX1_init_22 : decode cX1_init 22 = .ok (.newarray .int, 2) := by decide +kernel
theorem dX1_init_24 : decode cX1_init 24 = .ok (.putfield 18, 3) := by decide +kernel
theorem dX1_init_27 : decode cX1_init 27 = .ok (.aload_n 0, 1) := by decide +kernel
theorem dX1_init_28 : decode cX1_init 28 = .ok (.bipush 60, 2) := by decide +kernel
theorem dX1_init_30 : decode cX1_init 30 = .ok (.newarray .int, 2) := by decide +kernel
theorem dX1_init_32 : decode cX1_init 32 = .ok (.putfield 21, 3) := by decide +kernel
theorem dX1_init_35 : decode cX1_init 35 = .ok (.aload_n 0, 1) := by decide +kernel
theorem dX1_init_36 : decode cX1_init 36 = .ok (.iconst 5, 1) := by decide +kernel
theorem dX1_init_37 : decode cX1_init 37 = .ok (.newarray .int, 2) := by decide +kernel
theorem dX1_init_39 : decode cX1_init 39 = .ok (.putfield 24, 3) := by decide +kernel
theorem dX1_init_42 : decode cX1_init 42 = .ok (.return_, 1) := by decide +kernel
theorem dX1_clear_0 : decode cX1_clear 0 = .ok (.aload_n 0, 1) := by decide +kernel
theorem dX1_clear_1 : decode cX1_clear 1 = .ok (.iconst 4, 1) := by decide +kernel
theorem dX1_clear_2 : decode cX1_clear 2 = .ok (.putfield 27, 3) := by decide +kernel
theorem dX1_clear_5 : decode cX1_clear 5 = .ok (.aload_n 0, 1) := by decide +kernel
theorem dX1_clear_6 : decode cX1_clear 6 = .ok (.iconst 0, 1) := by decide +kernel
theorem dX1_clear_7 : decode cX1_clear 7 = .ok (.putfield 31, 3) := by decide +kernel
theorem dX1_clear_10 : decode cX1_clear 10 = .ok (.aload_n 0, 1) := by decide +kernel
theorem dX1_clear_11 : decode cX1_clear 11 = .ok (.iconst 0, 1) := by decide +kernel
theorem dX1_clear_12 : decode cX1_clear 12 = .ok (.putfield 34, 3) := by decide +kernel
theorem dX1_clear_15 : decode cX1_clear 15 = .ok (.aload_n 0, 1) := by decide +kernel
theorem dX1_clear_16 : decode cX1_clear 16 = .ok (.iconst 0, 1) := by decide +kernel
theorem dX1_clear_17 : decode cX1_clear 17 = .ok (.putfield 37, 3) := by decide +kernel
theorem dX1_clear_20 : decode cX1_clear 20 = .ok (.aload_n 0, 1) := by decide +kernel
theorem dX1_clear_21 : decode cX1_clear 21 = .ok (.iconst 0, 1) := by decide +kernel
theorem dX1_clear_22 : decode cX1_clear 22 = .ok (.putfield 40, 3) := by decide +kernel
theorem dX1_clear_25 : decode cX1_clear 25 = .ok (.aload_n 0, 1) := by decide +kernel
theorem dX1_clear_26 : decode cX1_clear 26 = .ok (.getfield 9, 3) := by decide +kernel
theorem dX1_clear_29 : decode cX1_clear 29 = .ok (.bipush 99, 2) := by decide +kernel
theorem dX1_clear_31 : decode cX1_clear 31 = .ok (.invokestatic 44, 3) := by decide +kernel
theorem dX1_clear_34 : decode cX1_clear 34 = .ok (.iconst 0, 1) := by decide +kernel
theorem dX1_clear_35 : decode cX1_clear 35 = .ok (.istore_n 1, 1) := by decide +kernel
theorem dX1_clear_36 : decode cX1_clear 36 = .ok (.iload_n 1, 1) := by decide +kernel
theorem dX1_clear_37 : decode cX1_clear 37 = .ok (.bipush 8, 2) := by decide +kernel
theorem dX1_clear_39 : decode cX1_clear 39 = .ok (.if_icmp .ge 21, 3) := by decide +kernel
theorem dX1_clear_42 : decode cX1_clear 42 = .ok (.aload_n 0, 1) := by decide +kernel
theorem dX1_clear_43 : decode cX1_clear 43 = .ok (.getfield 9, 3) := by decide +kernel
theorem dX1_clear_46 : decode cX1_clear 46 = .ok (.iload_n 1, 1) := by decide +kernel
theorem dX1_clear_47 : decode cX1_clear 47 = .ok (.bipush 8, 2) := by decide +kernel
theorem dX1_clear_49 : decode cX1_clear 49 = .ok (.imul, 1) := by decide +kernel
theorem dX1_clear_50 : decode cX1_clear 50 = .ok (.iload_n 1, 1) := by decide +kernel
theorem dX1_clear_51 : decode cX1_clear 51 = .ok (.iadd, 1) := by decide +kernel
theorem dX1_clear_52 : decode cX1_clear 52 = .ok (.iconst 0, 1) := by decide +kernel
theorem dX1_clear_53 : decode cX1_clear 53 = .ok (.iastore, 1) := by decide +kernel
theorem dX1_clear_54 : decode cX1_clear 54 = .ok (.iinc 1 1, 3) := by decide +kernel
theorem dX1_clear_57 : decode cX1_clear 57 = .ok (.goto (-21), 3) := by decide +kernel
theorem dX1_clear_60 : decode cX1_clear 60 = .ok (.return_, 1) := by decide +kernel
theorem dX1_tellYards_0 : decode cX1_tellYards 0 = .ok (.iload_n 1, 1) := by decide +kernel
theorem dX1_tellYards_1 : decode cX1_tellYards 1 = .ok (.iconst 2, 1) := by decide +kernel
theorem dX1_tellYards_2 : decode cX1_tellYards 2 = .ok (.if_icmp .lt 16, 3) := by decide +kernel
theorem dX1_tellYards_5 : decode cX1_tellYards 5 = .ok (.iload_n 1, 1) := by decide +kernel
theorem dX1_tellYards_6 : decode cX1_tellYards 6 = .ok (.bipush 8, 2) := by decide +kernel
theorem dX1_tellYards_8 : decode cX1_tellYards 8 = .ok (.if_icmp .gt 10, 3) := by decide +kernel
theorem dX1_tellYards_11 : decode cX1_tellYards 11 = .ok (.aload_n 0, 1) := by decide +kernel
theorem dX1_tellYards_12 : decode cX1_tellYards 12 = .ok (.getfield 40, 3) := by decide +kernel
theorem dX1_tellYards_15 : decode cX1_tellYards 15 = .ok (.ifCond .eq 5, 3) := by decide +kernel
theorem dX1_tellYards_18 : decode cX1_tellYards 18 = .ok (.iconst 0, 1) := by decide +kernel
theorem dX1_tellYards_19 : decode cX1_tellYards 19 = .ok (.ireturn, 1) := by decide +kernel
theorem dX1_tellYards_20 : decode cX1_tellYards 20 = .ok (.aload_n 0, 1) := by decide +kernel
theorem dX1_tellYards_21 : decode cX1_tellYards 21 = .ok (.iload_n 1, 1) := by decide +kernel
theorem dX1_tellYards_22 : decode cX1_tellYards 22 = .ok (.putfield 27, 3) := by decide +kernel
theorem dX1_tellYards_25 : decode cX1_tellYards 25 = .ok (.iconst 1, 1) := by decide +kernel
theorem dX1_tellYards_26 : decode cX1_tellYards 26 = .ok (.ireturn, 1) := by decide +kernel
theorem dX1_tellLane_0 : decode cX1_tellLane 0 = .ok (.aload_n 0, 1) := by decide +kernel
theorem dX1_tellLane_1 : decode cX1_tellLane 1 = .ok (.iload_n 1, 1) := by decide +kernel
theorem dX1_tellLane_2 : decode cX1_tellLane 2 = .ok (.invokevirtual 50, 3) := by decide +kernel
theorem dX1_tellLane_5 : decode cX1_tellLane 5 = .ok (.ifCond .eq 16, 3) := by decide +kernel
theorem dX1_tellLane_8 : decode cX1_tellLane 8 = .ok (.aload_n 0, 1) := by decide +kernel
theorem dX1_tellLane_9 : decode cX1_tellLane 9 = .ok (.iload_n 2, 1) := by decide +kernel
theorem dX1_tellLane_10 : decode cX1_tellLane 10 = .ok (.invokevirtual 50, 3) := by decide +kernel
theorem dX1_tellLane_13 : decode cX1_tellLane 13 = .ok (.ifCond .eq 8, 3) := by decide +kernel
theorem dX1_tellLane_16 : decode cX1_tellLane 16 = .ok (.iload_n 1, 1) := by decide +kernel
theorem dX1_tellLane_17 : decode cX1_tellLane 17 = .ok (.iload_n 2, 1) := by decide +kernel
theorem dX1_tellLane_18 : decode cX1_tellLane 18 = .ok (.if_icmp .ne 5, 3) := by decide +kernel
theorem dX1_tellLane_21 : decode cX1_tellLane 21 = .ok (.iconst 0, 1) := by decide +kernel
theorem dX1_tellLane_22 : decode cX1_tellLane 22 = .ok (.ireturn, 1) := by decide +kernel
theorem dX1_tellLane_23 : decode cX1_tellLane 23 = .ok (.aload_n 0, 1) := by decide +kernel
theorem dX1_tellLane_24 : decode cX1_tellLane 24 = .ok (.getfield 9, 3) := by decide +kernel
theorem dX1_tellLane_27 : decode cX1_tellLane 27 = .ok (.iload_n 1, 1) := by decide +kernel
theorem dX1_tellLane_28 : decode cX1_tellLane 28 = .ok (.bipush 8, 2) := by decide +kernel
theorem dX1_tellLane_30 : decode cX1_tellLane 30 = .ok (.imul, 1) := by decide +kernel
theorem dX1_tellLane_31 : decode cX1_tellLane 31 = .ok (.iload_n 2, 1) := by decide +kernel
theorem dX1_tellLane_32 : decode cX1_tellLane 32 = .ok (.iadd, 1) := by decide +kernel
theorem dX1_tellLane_33 : decode cX1_tellLane 33 = .ok (.iconst 1, 1) := by decide +kernel
theorem dX1_tellLane_34 : decode cX1_tellLane 34 = .ok (.iastore, 1) := by decide +kernel
theorem dX1_tellLane_35 : decode cX1_tellLane 35 = .ok (.aload_n 0, 1) := by decide +kernel
theorem dX1_tellLane_36 : decode cX1_tellLane 36 = .ok (.getfield 9, 3) := by decide +kernel
theorem dX1_tellLane_39 : decode cX1_tellLane 39 = .ok (.iload_n 2, 1) := by decide +kernel
theorem dX1_tellLane_40 : decode cX1_tellLane 40 = .ok (.bipush 8, 2) := by decide +kernel
theorem dX1_tellLane_42 : decode cX1_tellLane 42 = .ok (.imul, 1) := by decide +kernel
theorem dX1_tellLane_43 : decode cX1_tellLane 43 = .ok (.iload_n 1, 1) := by decide +kernel
theorem dX1_tellLane_44 : decode cX1_tellLane 44 = .ok (.iadd, 1) := by decide +kernel
theorem dX1_tellLane_45 : decode cX1_tellLane 45 = .ok (.iconst 1, 1) := by decide +kernel
theorem dX1_tellLane_46 : decode cX1_tellLane 46 = .ok (.iastore, 1) := by decide +kernel
theorem dX1_tellLane_47 : decode cX1_tellLane 47 = .ok (.aload_n 0, 1) := by decide +kernel
theorem dX1_tellLane_48 : decode cX1_tellLane 48 = .ok (.iconst 1, 1) := by decide +kernel
theorem dX1_tellLane_49 : decode cX1_tellLane 49 = .ok (.putfield 40, 3) := by decide +kernel
theorem dX1_tellLane_52 : decode cX1_tellLane 52 = .ok (.iconst 1, 1) := by decide +kernel
theorem dX1_tellLane_53 : decode cX1_tellLane 53 = .ok (.ireturn, 1) := by decide +kernel
theorem dX1_tellPerson_0 : decode cX1_tellPerson 0 = .ok (.aload_n 0, 1) := by decide +kernel
theorem dX1_tellPerson_1 : decode cX1_tellPerson 1 = .ok (.getfield 31, 3) := by decide +kernel
theorem dX1_tellPerson_4 : decode cX1_tellPerson 4 = .ok (.iconst 5, 1) := by decide +kernel
theorem dX1_tellPerson_5 : decode cX1_tellPerson 5 = .ok (.if_icmp .ge 13, 3) := by decide +kernel
theorem dX1_tellPerson_8 : decode cX1_tellPerson 8 = .ok (.iload_n 1, 1) := by decide +kernel
theorem dX1_tellPerson_9 : decode cX1_tellPerson 9 = .ok (.ifCond .lt 9, 3) := by decide +kernel
theorem dX1_tellPerson_12 : decode cX1_tellPerson 12 = .ok (.iload_n 1, 1) := by decide +kernel
theorem dX1_tellPerson_13 : decode cX1_tellPerson 13 = .ok (.bipush 99, 2) := by decide +kernel
theorem dX1_tellPerson_15 : decode cX1_tellPerson 15 = .ok (.if_icmp .le 5, 3) := by decide +kernel
theorem dX1_tellPerson_18 : decode cX1_tellPerson 18 = .ok (.iconst 0, 1) := by decide +kernel
theorem dX1_tellPerson_19 : decode cX1_tellPerson 19 = .ok (.ireturn, 1) := by decide +kernel
theorem dX1_tellPerson_20 : decode cX1_tellPerson 20 = .ok (.aload_n 0, 1) := by decide +kernel
theorem dX1_tellPerson_21 : decode cX1_tellPerson 21 = .ok (.getfield 18, 3) := by decide +kernel
theorem dX1_tellPerson_24 : decode cX1_tellPerson 24 = .ok (.aload_n 0, 1) := by decide +kernel
theorem dX1_tellPerson_25 : decode cX1_tellPerson 25 = .ok (.getfield 31, 3) := by decide +kernel
theorem dX1_tellPerson_28 : decode cX1_tellPerson 28 = .ok (.iload_n 1, 1) := by decide +kernel
theorem dX1_tellPerson_29 : decode cX1_tellPerson 29 = .ok (.iastore, 1) := by decide +kernel
theorem dX1_tellPerson_30 : decode cX1_tellPerson 30 = .ok (.aload_n 0, 1) := by decide +kernel
theorem dX1_tellPerson_31 : decode cX1_tellPerson 31 = .ok (.getfield 24, 3) := by decide +kernel
theorem dX1_tellPerson_34 : decode cX1_tellPerson 34 = .ok (.aload_n 0, 1) := by decide +kernel
theorem dX1_tellPerson_35 : decode cX1_tellPerson 35 = .ok (.getfield 31, 3) := by decide +kernel
theorem dX1_tellPerson_38 : decode cX1_tellPerson 38 = .ok (.iconst 0, 1) := by decide +kernel
theorem dX1_tellPerson_39 : decode cX1_tellPerson 39 = .ok (.iastore, 1) := by decide +kernel
theorem dX1_tellPerson_40 : decode cX1_tellPerson 40 = .ok (.aload_n 0, 1) := by decide +kernel
theorem dX1_tellPerson_41 : decode cX1_tellPerson 41 = .ok (.dup, 1) := by decide +kernel
theorem dX1_tellPerson_42 : decode cX1_tellPerson 42 = .ok (.getfield 31, 3) := by decide +kernel
theorem dX1_tellPerson_45 : decode cX1_tellPerson 45 = .ok (.iconst 1, 1) := by decide +kernel
theorem dX1_tellPerson_46 : decode cX1_tellPerson 46 = .ok (.iadd, 1) := by decide +kernel
theorem dX1_tellPerson_47 : decode cX1_tellPerson 47 = .ok (.putfield 31, 3) := by decide +kernel
theorem dX1_tellPerson_50 : decode cX1_tellPerson 50 = .ok (.iconst 1, 1) := by decide +kernel
theorem dX1_tellPerson_51 : decode cX1_tellPerson 51 = .ok (.ireturn, 1) := by decide +kernel
theorem dX1_tellForgetting_0 : decode cX1_tellForgetting 0 = .ok (.iload_n 1, 1) := by decide +kernel
theorem dX1_tellForgetting_1 : decode cX1_tellForgetting 1 = .ok (.ifCond .lt 9, 3) := by decide +kernel
theorem dX1_tellForgetting_4 : decode cX1_tellForgetting 4 = .ok (.iload_n 1, 1) := by decide +kernel
theorem dX1_tellForgetting_5 : decode cX1_tellForgetting 5 = .ok (.bipush 20, 2) := by decide +kernel
theorem dX1_tellForgetting_7 : decode cX1_tellForgetting 7 = .ok (.if_icmp .le 5, 3) := by decide +kernel
theorem dX1_tellForgetting_10 : decode cX1_tellForgetting 10 = .ok (.iconst 0, 1) := by decide +kernel
theorem dX1_tellForgetting_11 : decode cX1_tellForgetting 11 = .ok (.ireturn, 1) := by decide +kernel
theorem dX1_tellForgetting_12 : decode cX1_tellForgetting 12 = .ok (.aload_n 0, 1) := by decide +kernel
theorem dX1_tellForgetting_13 : decode cX1_tellForgetting 13 = .ok (.iload_n 1, 1) := by decide +kernel
theorem dX1_tellForgetting_14 : decode cX1_tellForgetting 14 = .ok (.putfield 34, 3) := by decide +kernel
theorem dX1_tellForgetting_17 : decode cX1_tellForgetting 17 = .ok (.iconst 1, 1) := by decide +kernel
theorem dX1_tellForgetting_18 : decode cX1_tellForgetting 18 = .ok (.ireturn, 1) := by decide +kernel
theorem dX1_tellStart_0 : decode cX1_tellStart 0 = .ok (.iload_n 1, 1) := by decide +kernel
theorem dX1_tellStart_1 : decode cX1_tellStart 1 = .ok (.ifCond .lt 9, 3) := by decide +kernel
theorem dX1_tellStart_4 : decode cX1_tellStart 4 = .ok (.iload_n 1, 1) := by decide +kernel
theorem dX1_tellStart_5 : decode cX1_tellStart 5 = .ok (.bipush 8, 2) := by decide +kernel
theorem dX1_tellStart_7 : decode cX1_tellStart 7 = .ok (.if_icmp .lt 5, 3) := by decide +kernel
theorem dX1_tellStart_10 : decode cX1_tellStart 10 = .ok (.iconst 0, 1) := by decide +kernel
theorem dX1_tellStart_11 : decode cX1_tellStart 11 = .ok (.ireturn, 1) := by decide +kernel
theorem dX1_tellStart_12 : decode cX1_tellStart 12 = .ok (.aload_n 0, 1) := by decide +kernel
theorem dX1_tellStart_13 : decode cX1_tellStart 13 = .ok (.iload_n 1, 1) := by decide +kernel
theorem dX1_tellStart_14 : decode cX1_tellStart 14 = .ok (.putfield 37, 3) := by decide +kernel
theorem dX1_tellStart_17 : decode cX1_tellStart 17 = .ok (.iconst 1, 1) := by decide +kernel
theorem dX1_tellStart_18 : decode cX1_tellStart 18 = .ok (.ireturn, 1) := by decide +kernel
theorem dX1_beginWay_0 : decode cX1_beginWay 0 = .ok (.aload_n 0, 1) := by decide +kernel
theorem dX1_beginWay_1 : decode cX1_beginWay 1 = .ok (.getfield 31, 3) := by decide +kernel
theorem dX1_beginWay_4 : decode cX1_beginWay 4 = .ok (.iconst 1, 1) := by decide +kernel
theorem dX1_beginWay_5 : decode cX1_beginWay 5 = .ok (.if_icmp .ge 5, 3) := by decide +kernel
theorem dX1_beginWay_8 : decode cX1_beginWay 8 = .ok (.iconst 0, 1) := by decide +kernel
theorem dX1_beginWay_9 : decode cX1_beginWay 9 = .ok (.ireturn, 1) := by decide +kernel
theorem dX1_beginWay_10 : decode cX1_beginWay 10 = .ok (.aload_n 0, 1) := by decide +kernel
theorem dX1_beginWay_11 : decode cX1_beginWay 11 = .ok (.getfield 24, 3) := by decide +kernel
theorem dX1_beginWay_14 : decode cX1_beginWay 14 = .ok (.aload_n 0, 1) := by decide +kernel
theorem dX1_beginWay_15 : decode cX1_beginWay 15 = .ok (.getfield 31, 3) := by decide +kernel
theorem dX1_beginWay_18 : decode cX1_beginWay 18 = .ok (.iconst 1, 1) := by decide +kernel
theorem dX1_beginWay_19 : decode cX1_beginWay 19 = .ok (.isub, 1) := by decide +kernel
theorem dX1_beginWay_20 : decode cX1_beginWay 20 = .ok (.iconst 0, 1) := by decide +kernel
theorem dX1_beginWay_21 : decode cX1_beginWay 21 = .ok (.iastore, 1) := by decide +kernel
theorem dX1_beginWay_22 : decode cX1_beginWay 22 = .ok (.iconst 1, 1) := by decide +kernel
theorem dX1_beginWay_23 : decode cX1_beginWay 23 = .ok (.ireturn, 1) := by decide +kernel
theorem dX1_addToWay_0 : decode cX1_addToWay 0 = .ok (.aload_n 0, 1) := by decide +kernel
theorem dX1_addToWay_1 : decode cX1_addToWay 1 = .ok (.getfield 31, 3) := by decide +kernel
theorem dX1_addToWay_4 : decode cX1_addToWay 4 = .ok (.iconst 1, 1) := by decide +kernel
theorem dX1_addToWay_5 : decode cX1_addToWay 5 = .ok (.if_icmp .ge 4, 3) := by decide +kernel
theorem dX1_addToWay_8 : decode cX1_addToWay 8 = .ok (.return_, 1) := by decide +kernel
theorem dX1_addToWay_9 : decode cX1_addToWay 9 = .ok (.aload_n 0, 1) := by decide +kernel
theorem dX1_addToWay_10 : decode cX1_addToWay 10 = .ok (.getfield 24, 3) := by decide +kernel
theorem dX1_addToWay_13 : decode cX1_addToWay 13 = .ok (.aload_n 0, 1) := by decide +kernel
theorem dX1_addToWay_14 : decode cX1_addToWay 14 = .ok (.getfield 31, 3) := by decide +kernel
theorem dX1_addToWay_17 : decode cX1_addToWay 17 = .ok (.iconst 1, 1) := by decide +kernel
theorem dX1_addToWay_18 : decode cX1_addToWay 18 = .ok (.isub, 1) := by decide +kernel
theorem dX1_addToWay_19 : decode cX1_addToWay 19 = .ok (.iaload, 1) := by decide +kernel
theorem dX1_addToWay_20 : decode cX1_addToWay 20 = .ok (.istore_n 2, 1) := by decide +kernel
theorem dX1_addToWay_21 : decode cX1_addToWay 21 = .ok (.iload_n 2, 1) := by decide +kernel
theorem dX1_addToWay_22 : decode cX1_addToWay 22 = .ok (.bipush 12, 2) := by decide +kernel
theorem dX1_addToWay_24 : decode cX1_addToWay 24 = .ok (.if_icmp .ge 34, 3) := by decide +kernel
theorem dX1_addToWay_27 : decode cX1_addToWay 27 = .ok (.aload_n 0, 1) := by decide +kernel
theorem dX1_addToWay_28 : decode cX1_addToWay 28 = .ok (.getfield 21, 3) := by decide +kernel
theorem dX1_addToWay_31 : decode cX1_addToWay 31 = .ok (.aload_n 0, 1) := by decide +kernel
theorem dX1_addToWay_32 : decode cX1_addToWay 32 = .ok (.getfield 31, 3) := by decide +kernel
theorem dX1_addToWay_35 : decode cX1_addToWay 35 = .ok (.iconst 1, 1) := by decide +kernel
theorem dX1_addToWay_36 : decode cX1_addToWay 36 = .ok (.isub, 1) := by decide +kernel
theorem dX1_addToWay_37 : decode cX1_addToWay 37 = .ok (.bipush 12, 2) := by decide +kernel
theorem dX1_addToWay_39 : decode cX1_addToWay 39 = .ok (.imul, 1) := by decide +kernel
theorem dX1_addToWay_40 : decode cX1_addToWay 40 = .ok (.iload_n 2, 1) := by decide +kernel
theorem dX1_addToWay_41 : decode cX1_addToWay 41 = .ok (.iadd, 1) := by decide +kernel
theorem dX1_addToWay_42 : decode cX1_addToWay 42 = .ok (.iload_n 1, 1) := by decide +kernel
theorem dX1_addToWay_43 : decode cX1_addToWay 43 = .ok (.iastore, 1) := by decide +kernel
theorem dX1_addToWay_44 : decode cX1_addToWay 44 = .ok (.aload_n 0, 1) := by decide +kernel
theorem dX1_addToWay_45 : decode cX1_addToWay 45 = .ok (.getfield 24, 3) := by decide +kernel
theorem dX1_addToWay_48 : decode cX1_addToWay 48 = .ok (.aload_n 0, 1) := by decide +kernel
theorem dX1_addToWay_49 : decode cX1_addToWay 49 = .ok (.getfield 31, 3) := by decide +kernel
theorem dX1_addToWay_52 : decode cX1_addToWay 52 = .ok (.iconst 1, 1) := by decide +kernel
theorem dX1_addToWay_53 : decode cX1_addToWay 53 = .ok (.isub, 1) := by decide +kernel
theorem dX1_addToWay_54 : decode cX1_addToWay 54 = .ok (.iload_n 2, 1) := by decide +kernel
theorem dX1_addToWay_55 : decode cX1_addToWay 55 = .ok (.iconst 1, 1) := by decide +kernel
theorem dX1_addToWay_56 : decode cX1_addToWay 56 = .ok (.iadd, 1) := by decide +kernel
theorem dX1_addToWay_57 : decode cX1_addToWay 57 = .ok (.iastore, 1) := by decide +kernel
theorem dX1_addToWay_58 : decode cX1_addToWay 58 = .ok (.return_, 1) := by decide +kernel
theorem dX1_canBeLaid_0 : decode cX1_canBeLaid 0 = .ok (.aload_n 0, 1) := by decide +kernel
theorem dX1_canBeLaid_1 : decode cX1_canBeLaid 1 = .ok (.getfield 31, 3) := by decide +kernel
theorem dX1_canBeLaid_4 : decode cX1_canBeLaid 4 = .ok (.iconst 1, 1) := by decide +kernel
theorem dX1_canBeLaid_5 : decode cX1_canBeLaid 5 = .ok (.if_icmp .lt 14, 3) := by decide +kernel
theorem dX1_canBeLaid_8 : decode cX1_canBeLaid 8 = .ok (.aload_n 0, 1) := by decide +kernel
theorem dX1_canBeLaid_9 : decode cX1_canBeLaid 9 = .ok (.getfield 37, 3) := by decide +kernel
theorem dX1_canBeLaid_12 : decode cX1_canBeLaid 12 = .ok (.aload_n 0, 1) := by decide +kernel
theorem dX1_canBeLaid_13 : decode cX1_canBeLaid 13 = .ok (.getfield 27, 3) := by decide +kernel
theorem dX1_canBeLaid_16 : decode cX1_canBeLaid 16 = .ok (.if_icmp .lt 5, 3) := by decide +kernel
theorem dX1_canBeLaid_19 : decode cX1_canBeLaid 19 = .ok (.iconst 0, 1) := by decide +kernel
theorem dX1_canBeLaid_20 : decode cX1_canBeLaid 20 = .ok (.ireturn, 1) := by decide +kernel
theorem dX1_canBeLaid_21 : decode cX1_canBeLaid 21 = .ok (.iconst 0, 1) := by decide +kernel
theorem dX1_canBeLaid_22 : decode cX1_canBeLaid 22 = .ok (.istore_n 1, 1) := by decide +kernel
theorem dX1_canBeLaid_23 : decode cX1_canBeLaid 23 = .ok (.iload_n 1, 1) := by decide +kernel
theorem dX1_canBeLaid_24 : decode cX1_canBeLaid 24 = .ok (.aload_n 0, 1) := by decide +kernel
theorem dX1_canBeLaid_25 : decode cX1_canBeLaid 25 = .ok (.getfield 31, 3) := by decide +kernel
theorem dX1_canBeLaid_28 : decode cX1_canBeLaid 28 = .ok (.if_icmp .ge 47, 3) := by decide +kernel
theorem dX1_canBeLaid_31 : decode cX1_canBeLaid 31 = .ok (.iconst 0, 1) := by decide +kernel
theorem dX1_canBeLaid_32 : decode cX1_canBeLaid 32 = .ok (.istore_n 2, 1) := by decide +kernel
theorem dX1_canBeLaid_33 : decode cX1_canBeLaid 33 = .ok (.iload_n 2, 1) := by decide +kernel
theorem dX1_canBeLaid_34 : decode cX1_canBeLaid 34 = .ok (.aload_n 0, 1) := by decide +kernel
theorem dX1_canBeLaid_35 : decode cX1_canBeLaid 35 = .ok (.getfield 24, 3) := by decide +kernel
theorem dX1_canBeLaid_38 : decode cX1_canBeLaid 38 = .ok (.iload_n 1, 1) := by decide +kernel
theorem dX1_canBeLaid_39 : decode cX1_canBeLaid 39 = .ok (.iaload, 1) := by decide +kernel
theorem dX1_canBeLaid_40 : decode cX1_canBeLaid 40 = .ok (.if_icmp .ge 29, 3) := by decide +kernel
theorem dX1_canBeLaid_43 : decode cX1_canBeLaid 43 = .ok (.aload_n 0, 1) := by decide +kernel
theorem dX1_canBeLaid_44 : decode cX1_canBeLaid 44 = .ok (.getfield 21, 3) := by decide +kernel
theorem dX1_canBeLaid_47 : decode cX1_canBeLaid 47 = .ok (.iload_n 1, 1) := by decide +kernel
theorem dX1_canBeLaid_48 : decode cX1_canBeLaid 48 = .ok (.bipush 12, 2) := by decide +kernel
theorem dX1_canBeLaid_50 : decode cX1_canBeLaid 50 = .ok (.imul, 1) := by decide +kernel
theorem dX1_canBeLaid_51 : decode cX1_canBeLaid 51 = .ok (.iload_n 2, 1) := by decide +kernel
theorem dX1_canBeLaid_52 : decode cX1_canBeLaid 52 = .ok (.iadd, 1) := by decide +kernel
theorem dX1_canBeLaid_53 : decode cX1_canBeLaid 53 = .ok (.iaload, 1) := by decide +kernel
theorem dX1_canBeLaid_54 : decode cX1_canBeLaid 54 = .ok (.aload_n 0, 1) := by decide +kernel
theorem dX1_canBeLaid_55 : decode cX1_canBeLaid 55 = .ok (.getfield 27, 3) := by decide +kernel
theorem dX1_canBeLaid_58 : decode cX1_canBeLaid 58 = .ok (.if_icmp .lt 5, 3) := by decide +kernel
theorem dX1_canBeLaid_61 : decode cX1_canBeLaid 61 = .ok (.iconst 0, 1) := by decide +kernel
theorem dX1_canBeLaid_62 : decode cX1_canBeLaid 62 = .ok (.ireturn, 1) := by decide +kernel
theorem dX1_canBeLaid_63 : decode cX1_canBeLaid 63 = .ok (.iinc 2 1, 3) := by decide +kernel
theorem dX1_canBeLaid_66 : decode cX1_canBeLaid 66 = .ok (.goto (-33), 3) := by decide +kernel
theorem dX1_canBeLaid_69 : decode cX1_canBeLaid 69 = .ok (.iinc 1 1, 3) := by decide +kernel
theorem dX1_canBeLaid_72 : decode cX1_canBeLaid 72 = .ok (.goto (-49), 3) := by decide +kernel
theorem dX1_canBeLaid_75 : decode cX1_canBeLaid 75 = .ok (.iconst 1, 1) := by decide +kernel
theorem dX1_canBeLaid_76 : decode cX1_canBeLaid 76 = .ok (.ireturn, 1) := by decide +kernel
theorem dX1_measure_0 : decode cX1_measure 0 = .ok (.iconst 0, 1) := by decide +kernel
theorem dX1_measure_1 : decode cX1_measure 1 = .ok (.istore_n 1, 1) := by decide +kernel
theorem dX1_measure_2 : decode cX1_measure 2 = .ok (.iload_n 1, 1) := by decide +kernel
theorem dX1_measure_3 : decode cX1_measure 3 = .ok (.bipush 8, 2) := by decide +kernel
theorem dX1_measure_5 : decode cX1_measure 5 = .ok (.if_icmp .ge 81, 3) := by decide +kernel
theorem dX1_measure_8 : decode cX1_measure 8 = .ok (.iconst 0, 1) := by decide +kernel
theorem dX1_measure_9 : decode cX1_measure 9 = .ok (.istore_n 2, 1) := by decide +kernel
theorem dX1_measure_10 : decode cX1_measure 10 = .ok (.iload_n 2, 1) := by decide +kernel
theorem dX1_measure_11 : decode cX1_measure 11 = .ok (.bipush 8, 2) := by decide +kernel
theorem dX1_measure_13 : decode cX1_measure 13 = .ok (.if_icmp .ge 67, 3) := by decide +kernel
theorem dX1_measure_16 : decode cX1_measure 16 = .ok (.iconst 0, 1) := by decide +kernel
theorem dX1_measure_17 : decode cX1_measure 17 = .ok (.istore_n 3, 1) := by decide +kernel
theorem dX1_measure_18 : decode cX1_measure 18 = .ok (.iload_n 3, 1) := by decide +kernel
theorem dX1_measure_19 : decode cX1_measure 19 = .ok (.bipush 8, 2) := by decide +kernel
theorem dX1_measure_21 : decode cX1_measure 21 = .ok (.if_icmp .ge 53, 3) := by decide +kernel
theorem dX1_measure_24 : decode cX1_measure 24 = .ok (.aload_n 0, 1) := by decide +kernel
theorem dX1_measure_25 : decode cX1_measure 25 = .ok (.iload_n 2, 1) := by decide +kernel
theorem dX1_measure_26 : decode cX1_measure 26 = .ok (.iload_n 1, 1) := by decide +kernel
theorem dX1_measure_27 : decode cX1_measure 27 = .ok (.invokevirtual 54, 3) := by decide +kernel
theorem dX1_measure_30 : decode cX1_measure 30 = .ok (.aload_n 0, 1) := by decide +kernel
theorem dX1_measure_31 : decode cX1_measure 31 = .ok (.iload_n 1, 1) := by decide +kernel
theorem dX1_measure_32 : decode cX1_measure 32 = .ok (.iload_n 3, 1) := by decide +kernel
theorem dX1_measure_33 : decode cX1_measure 33 = .ok (.invokevirtual 54, 3) := by decide +kernel
theorem dX1_measure_36 : decode cX1_measure 36 = .ok (.iadd, 1) := by decide +kernel
theorem dX1_measure_37 : decode cX1_measure 37 = .ok (.istore 4, 2) := by decide +kernel
theorem dX1_measure_39 : decode cX1_measure 39 = .ok (.iload 4, 2) := by decide +kernel
theorem dX1_measure_41 : decode cX1_measure 41 = .ok (.aload_n 0, 1) := by decide +kernel
theorem dX1_measure_42 : decode cX1_measure 42 = .ok (.getfield 9, 3) := by decide +kernel
theorem dX1_measure_45 : decode cX1_measure 45 = .ok (.iload_n 2, 1) := by decide +kernel
theorem dX1_measure_46 : decode cX1_measure 46 = .ok (.bipush 8, 2) := by decide +kernel
theorem dX1_measure_48 : decode cX1_measure 48 = .ok (.imul, 1) := by decide +kernel
theorem dX1_measure_49 : decode cX1_measure 49 = .ok (.iload_n 3, 1) := by decide +kernel
theorem dX1_measure_50 : decode cX1_measure 50 = .ok (.iadd, 1) := by decide +kernel
theorem dX1_measure_51 : decode cX1_measure 51 = .ok (.iaload, 1) := by decide +kernel
theorem dX1_measure_52 : decode cX1_measure 52 = .ok (.if_icmp .ge 16, 3) := by decide +kernel
theorem dX1_measure_55 : decode cX1_measure 55 = .ok (.aload_n 0, 1) := by decide +kernel
theorem dX1_measure_56 : decode cX1_measure 56 = .ok (.getfield 9, 3) := by decide +kernel
theorem dX1_measure_59 : decode cX1_measure 59 = .ok (.iload_n 2, 1) := by decide +kernel
theorem dX1_measure_60 : decode cX1_measure 60 = .ok (.bipush 8, 2) := by decide +kernel
theorem dX1_measure_62 : decode cX1_measure 62 = .ok (.imul, 1) := by decide +kernel
theorem dX1_measure_63 : decode cX1_measure 63 = .ok (.iload_n 3, 1) := by decide +kernel
theorem dX1_measure_64 : decode cX1_measure 64 = .ok (.iadd, 1) := by decide +kernel
theorem dX1_measure_65 : decode cX1_measure 65 = .ok (.iload 4, 2) := by decide +kernel
theorem dX1_measure_67 : decode cX1_measure 67 = .ok (.iastore, 1) := by decide +kernel
theorem dX1_measure_68 : decode cX1_measure 68 = .ok (.iinc 3 1, 3) := by decide +kernel
theorem dX1_measure_71 : decode cX1_measure 71 = .ok (.goto (-53), 3) := by decide +kernel
theorem dX1_measure_74 : decode cX1_measure 74 = .ok (.iinc 2 1, 3) := by decide +kernel
theorem dX1_measure_77 : decode cX1_measure 77 = .ok (.goto (-67), 3) := by decide +kernel
theorem dX1_measure_80 : decode cX1_measure 80 = .ok (.iinc 1 1, 3) := by decide +kernel
theorem dX1_measure_83 : decode cX1_measure 83 = .ok (.goto (-81), 3) := by decide +kernel
theorem dX1_measure_86 : decode cX1_measure 86 = .ok (.iconst 0, 1) := by decide +kernel
theorem dX1_measure_87 : decode cX1_measure 87 = .ok (.istore_n 1, 1) := by decide +kernel
theorem dX1_measure_88 : decode cX1_measure 88 = .ok (.iload_n 1, 1) := by decide +kernel
theorem dX1_measure_89 : decode cX1_measure 89 = .ok (.bipush 8, 2) := by decide +kernel
theorem dX1_measure_91 : decode cX1_measure 91 = .ok (.if_icmp .ge 40, 3) := by decide +kernel
theorem dX1_measure_94 : decode cX1_measure 94 = .ok (.iconst 0, 1) := by decide +kernel
theorem dX1_measure_95 : decode cX1_measure 95 = .ok (.istore_n 2, 1) := by decide +kernel
theorem dX1_measure_96 : decode cX1_measure 96 = .ok (.iload_n 2, 1) := by decide +kernel
theorem dX1_measure_97 : decode cX1_measure 97 = .ok (.bipush 8, 2) := by decide +kernel
theorem dX1_measure_99 : decode cX1_measure 99 = .ok (.if_icmp .ge 26, 3) := by decide +kernel
theorem dX1_measure_102 : decode cX1_measure 102 = .ok (.aload_n 0, 1) := by decide +kernel
theorem dX1_measure_103 : decode cX1_measure 103 = .ok (.getfield 15, 3) := by decide +kernel
theorem dX1_measure_106 : decode cX1_measure 106 = .ok (.iload_n 1, 1) := by decide +kernel
theorem dX1_measure_107 : decode cX1_measure 107 = .ok (.bipush 8, 2) := by decide +kernel
theorem dX1_measure_109 : decode cX1_measure 109 = .ok (.imul, 1) := by decide +kernel
theorem dX1_measure_110 : decode cX1_measure 110 = .ok (.iload_n 2, 1) := by decide +kernel
theorem dX1_measure_111 : decode cX1_measure 111 = .ok (.iadd, 1) := by decide +kernel
theorem dX1_measure_112 : decode cX1_measure 112 = .ok (.aload_n 0, 1) := by decide +kernel
theorem dX1_measure_113 : decode cX1_measure 113 = .ok (.iload_n 1, 1) := by decide +kernel
theorem dX1_measure_114 : decode cX1_measure 114 = .ok (.iload_n 2, 1) := by decide +kernel
theorem dX1_measure_115 : decode cX1_measure 115 = .ok (.invokevirtual 58, 3) := by decide +kernel
theorem dX1_measure_118 : decode cX1_measure 118 = .ok (.iastore, 1) := by decide +kernel
theorem dX1_measure_119 : decode cX1_measure 119 = .ok (.iinc 2 1, 3) := by decide +kernel
theorem dX1_measure_122 : decode cX1_measure 122 = .ok (.goto (-26), 3) := by decide +kernel
theorem dX1_measure_125 : decode cX1_measure 125 = .ok (.iinc 1 1, 3) := by decide +kernel
theorem dX1_measure_128 : decode cX1_measure 128 = .ok (.goto (-40), 3) := by decide +kernel
theorem dX1_measure_131 : decode cX1_measure 131 = .ok (.return_, 1) := by decide +kernel
theorem dX1_lowestNearer_0 : decode cX1_lowestNearer 0 = .ok (.aload_n 0, 1) := by decide +kernel
theorem dX1_lowestNearer_1 : decode cX1_lowestNearer 1 = .ok (.iload_n 1, 1) := by decide +kernel
theorem dX1_lowestNearer_2 : decode cX1_lowestNearer 2 = .ok (.iload_n 2, 1) := by decide +kernel
theorem dX1_lowestNearer_3 : decode cX1_lowestNearer 3 = .ok (.invokevirtual 54, 3) := by decide +kernel
theorem dX1_lowestNearer_6 : decode cX1_lowestNearer 6 = .ok (.istore_n 3, 1) := by decide +kernel
theorem dX1_lowestNearer_7 : decode cX1_lowestNearer 7 = .ok (.iload_n 3, 1) := by decide +kernel
theorem dX1_lowestNearer_8 : decode cX1_lowestNearer 8 = .ok (.bipush 99, 2) := by decide +kernel
theorem dX1_lowestNearer_10 : decode cX1_lowestNearer 10 = .ok (.if_icmp .ne 5, 3) := by decide +kernel
theorem dX1_lowestNearer_13 : decode cX1_lowestNearer 13 = .ok (.iload_n 1, 1) := by decide +kernel
theorem dX1_lowestNearer_14 : decode cX1_lowestNearer 14 = .ok (.ireturn, 1) := by decide +kernel
theorem dX1_lowestNearer_15 : decode cX1_lowestNearer 15 = .ok (.iconst 0, 1) := by decide +kernel
theorem dX1_lowestNearer_16 : decode cX1_lowestNearer 16 = .ok (.istore 4, 2) := by decide +kernel
theorem dX1_lowestNearer_18 : decode cX1_lowestNearer 18 = .ok (.iload 4, 2) := by decide +kernel
theorem dX1_lowestNearer_20 : decode cX1_lowestNearer 20 = .ok (.bipush 8, 2) := by decide +kernel
theorem dX1_lowestNearer_22 : decode cX1_lowestNearer 22 = .ok (.if_icmp .ge 36, 3) := by decide +kernel
theorem dX1_lowestNearer_25 : decode cX1_lowestNearer 25 = .ok (.aload_n 0, 1) := by decide +kernel
theorem dX1_lowestNearer_26 : decode cX1_lowestNearer 26 = .ok (.iload_n 1, 1) := by decide +kernel
theorem dX1_lowestNearer_27 : decode cX1_lowestNearer 27 = .ok (.iload 4, 2) := by decide +kernel
theorem dX1_lowestNearer_29 : decode cX1_lowestNearer 29 = .ok (.invokevirtual 54, 3) := by decide +kernel
theorem dX1_lowestNearer_32 : decode cX1_lowestNearer 32 = .ok (.iconst 1, 1) := by decide +kernel
theorem dX1_lowestNearer_33 : decode cX1_lowestNearer 33 = .ok (.if_icmp .ne 19, 3) := by decide +kernel
theorem dX1_lowestNearer_36 : decode cX1_lowestNearer 36 = .ok (.aload_n 0, 1) := by decide +kernel
theorem dX1_lowestNearer_37 : decode cX1_lowestNearer 37 = .ok (.iload 4, 2) := by decide +kernel
theorem dX1_lowestNearer_39 : decode cX1_lowestNearer 39 = .ok (.iload_n 2, 1) := by decide +kernel
theorem dX1_lowestNearer_40 : decode cX1_lowestNearer 40 = .ok (.invokevirtual 54, 3) := by decide +kernel
theorem dX1_lowestNearer_43 : decode cX1_lowestNearer 43 = .ok (.iload_n 3, 1) := by decide +kernel
theorem dX1_lowestNearer_44 : decode cX1_lowestNearer 44 = .ok (.iconst 1, 1) := by decide +kernel
theorem dX1_lowestNearer_45 : decode cX1_lowestNearer 45 = .ok (.isub, 1) := by decide +kernel
theorem dX1_lowestNearer_46 : decode cX1_lowestNearer 46 = .ok (.if_icmp .ne 6, 3) := by decide +kernel
theorem dX1_lowestNearer_49 : decode cX1_lowestNearer 49 = .ok (.iload 4, 2) := by decide +kernel
theorem dX1_lowestNearer_51 : decode cX1_lowestNearer 51 = .ok (.ireturn, 1) := by decide +kernel
theorem dX1_lowestNearer_52 : decode cX1_lowestNearer 52 = .ok (.iinc 4 1, 3) := by decide +kernel
theorem dX1_lowestNearer_55 : decode cX1_lowestNearer 55 = .ok (.goto (-37), 3) := by decide +kernel
theorem dX1_lowestNearer_58 : decode cX1_lowestNearer 58 = .ok (.iload_n 1, 1) := by decide +kernel
theorem dX1_lowestNearer_59 : decode cX1_lowestNearer 59 = .ok (.ireturn, 1) := by decide +kernel
theorem dX1_yards_0 : decode cX1_yards 0 = .ok (.aload_n 0, 1) := by decide +kernel
theorem dX1_yards_1 : decode cX1_yards 1 = .ok (.getfield 27, 3) := by decide +kernel
theorem dX1_yards_4 : decode cX1_yards 4 = .ok (.ireturn, 1) := by decide +kernel
theorem dX1_persons_0 : decode cX1_persons 0 = .ok (.aload_n 0, 1) := by decide +kernel
theorem dX1_persons_1 : decode cX1_persons 1 = .ok (.getfield 31, 3) := by decide +kernel
theorem dX1_persons_4 : decode cX1_persons 4 = .ok (.ireturn, 1) := by decide +kernel
theorem dX1_everybody_0 : decode cX1_everybody 0 = .ok (.iconst 1, 1) := by decide +kernel
theorem dX1_everybody_1 : decode cX1_everybody 1 = .ok (.aload_n 0, 1) := by decide +kernel
theorem dX1_everybody_2 : decode cX1_everybody 2 = .ok (.getfield 31, 3) := by decide +kernel
theorem dX1_everybody_5 : decode cX1_everybody 5 = .ok (.ishl, 1) := by decide +kernel
theorem dX1_everybody_6 : decode cX1_everybody 6 = .ok (.iconst 1, 1) := by decide +kernel
theorem dX1_everybody_7 : decode cX1_everybody 7 = .ok (.isub, 1) := by decide +kernel
theorem dX1_everybody_8 : decode cX1_everybody 8 = .ok (.ireturn, 1) := by decide +kernel
theorem dX1_hasYard_0 : decode cX1_hasYard 0 = .ok (.iload_n 1, 1) := by decide +kernel
theorem dX1_hasYard_1 : decode cX1_hasYard 1 = .ok (.ifCond .lt 15, 3) := by decide +kernel
theorem dX1_hasYard_4 : decode cX1_hasYard 4 = .ok (.iload_n 1, 1) := by decide +kernel
theorem dX1_hasYard_5 : decode cX1_hasYard 5 = .ok (.aload_n 0, 1) := by decide +kernel
theorem dX1_hasYard_6 : decode cX1_hasYard 6 = .ok (.getfield 27, 3) := by decide +kernel
theorem dX1_hasYard_9 : decode cX1_hasYard 9 = .ok (.if_icmp .ge 7, 3) := by decide +kernel
theorem dX1_hasYard_12 : decode cX1_hasYard 12 = .ok (.iconst 1, 1) := by decide +kernel
theorem dX1_hasYard_13 : decode cX1_hasYard 13 = .ok (.goto 4, 3) := by decide +kernel
theorem dX1_hasYard_16 : decode cX1_hasYard 16 = .ok (.iconst 0, 1) := by decide +kernel
theorem dX1_hasYard_17 : decode cX1_hasYard 17 = .ok (.ireturn, 1) := by decide +kernel
theorem dX1_hasPerson_0 : decode cX1_hasPerson 0 = .ok (.iload_n 1, 1) := by decide +kernel
theorem dX1_hasPerson_1 : decode cX1_hasPerson 1 = .ok (.ifCond .lt 15, 3) := by decide +kernel
theorem dX1_hasPerson_4 : decode cX1_hasPerson 4 = .ok (.iload_n 1, 1) := by decide +kernel
theorem dX1_hasPerson_5 : decode cX1_hasPerson 5 = .ok (.aload_n 0, 1) := by decide +kernel
theorem dX1_hasPerson_6 : decode cX1_hasPerson 6 = .ok (.getfield 31, 3) := by decide +kernel
theorem dX1_hasPerson_9 : decode cX1_hasPerson 9 = .ok (.if_icmp .ge 7, 3) := by decide +kernel
theorem dX1_hasPerson_12 : decode cX1_hasPerson 12 = .ok (.iconst 1, 1) := by decide +kernel
theorem dX1_hasPerson_13 : decode cX1_hasPerson 13 = .ok (.goto 4, 3) := by decide +kernel
theorem dX1_hasPerson_16 : decode cX1_hasPerson 16 = .ok (.iconst 0, 1) := by decide +kernel
theorem dX1_hasPerson_17 : decode cX1_hasPerson 17 = .ok (.ireturn, 1) := by decide +kernel
theorem dX1_cost_0 : decode cX1_cost 0 = .ok (.iload_n 1, 1) := by decide +kernel
theorem dX1_cost_1 : decode cX1_cost 1 = .ok (.ifCond .lt 20, 3) := by decide +kernel
theorem dX1_cost_4 : decode cX1_cost 4 = .ok (.iload_n 1, 1) := by decide +kernel
theorem dX1_cost_5 : decode cX1_cost 5 = .ok (.aload_n 0, 1) := by decide +kernel
theorem dX1_cost_6 : decode cX1_cost 6 = .ok (.getfield 31, 3) := by decide +kernel
theorem dX1_cost_9 : decode cX1_cost 9 = .ok (.if_icmp .ge 12, 3) := by decide +kernel
theorem dX1_cost_12 : decode cX1_cost 12 = .ok (.aload_n 0, 1) := by decide +kernel
theorem dX1_cost_13 : decode cX1_cost 13 = .ok (.getfield 18, 3) := by decide +kernel
theorem dX1_cost_16 : decode cX1_cost 16 = .ok (.iload_n 1, 1) := by decide +kernel
theorem dX1_cost_17 : decode cX1_cost 17 = .ok (.iaload, 1) := by decide +kernel
theorem dX1_cost_18 : decode cX1_cost 18 = .ok (.goto 4, 3) := by decide +kernel
theorem dX1_cost_21 : decode cX1_cost 21 = .ok (.iconst 0, 1) := by decide +kernel
theorem dX1_cost_22 : decode cX1_cost 22 = .ok (.ireturn, 1) := by decide +kernel
theorem dX1_distance_0 : decode cX1_distance 0 = .ok (.iload_n 1, 1) := by decide +kernel
theorem dX1_distance_1 : decode cX1_distance 1 = .ok (.ifCond .lt 19, 3) := by decide +kernel
theorem dX1_distance_4 : decode cX1_distance 4 = .ok (.iload_n 1, 1) := by decide +kernel
theorem dX1_distance_5 : decode cX1_distance 5 = .ok (.bipush 8, 2) := by decide +kernel
theorem dX1_distance_7 : decode cX1_distance 7 = .ok (.if_icmp .ge 13, 3) := by decide +kernel
theorem dX1_distance_10 : decode cX1_distance 10 = .ok (.iload_n 2, 1) := by decide +kernel
theorem dX1_distance_11 : decode cX1_distance 11 = .ok (.ifCond .lt 9, 3) := by decide +kernel
theorem dX1_distance_14 : decode cX1_distance 14 = .ok (.iload_n 2, 1) := by decide +kernel
theorem dX1_distance_15 : decode cX1_distance 15 = .ok (.bipush 8, 2) := by decide +kernel
theorem dX1_distance_17 : decode cX1_distance 17 = .ok (.if_icmp .lt 6, 3) := by decide +kernel
theorem dX1_distance_20 : decode cX1_distance 20 = .ok (.bipush 99, 2) := by decide +kernel
theorem dX1_distance_22 : decode cX1_distance 22 = .ok (.ireturn, 1) := by decide +kernel
theorem dX1_distance_23 : decode cX1_distance 23 = .ok (.aload_n 0, 1) := by decide +kernel
theorem dX1_distance_24 : decode cX1_distance 24 = .ok (.getfield 9, 3) := by decide +kernel
theorem dX1_distance_27 : decode cX1_distance 27 = .ok (.iload_n 1, 1) := by decide +kernel
theorem dX1_distance_28 : decode cX1_distance 28 = .ok (.bipush 8, 2) := by decide +kernel
theorem dX1_distance_30 : decode cX1_distance 30 = .ok (.imul, 1) := by decide +kernel
theorem dX1_distance_31 : decode cX1_distance 31 = .ok (.iload_n 2, 1) := by decide +kernel
theorem dX1_distance_32 : decode cX1_distance 32 = .ok (.iadd, 1) := by decide +kernel
theorem dX1_distance_33 : decode cX1_distance 33 = .ok (.iaload, 1) := by decide +kernel
theorem dX1_distance_34 : decode cX1_distance 34 = .ok (.ireturn, 1) := by decide +kernel
theorem dX1_yardAt_0 : decode cX1_yardAt 0 = .ok (.iload_n 1, 1) := by decide +kernel
theorem dX1_yardAt_1 : decode cX1_yardAt 1 = .ok (.ifCond .lt 15, 3) := by decide +kernel
theorem dX1_yardAt_4 : decode cX1_yardAt 4 = .ok (.iload_n 1, 1) := by decide +kernel
theorem dX1_yardAt_5 : decode cX1_yardAt 5 = .ok (.aload_n 0, 1) := by decide +kernel
theorem dX1_yardAt_6 : decode cX1_yardAt 6 = .ok (.getfield 31, 3) := by decide +kernel
theorem dX1_yardAt_9 : decode cX1_yardAt 9 = .ok (.if_icmp .ge 7, 3) := by decide +kernel
theorem dX1_yardAt_12 : decode cX1_yardAt 12 = .ok (.iload_n 2, 1) := by decide +kernel
theorem dX1_yardAt_13 : decode cX1_yardAt 13 = .ok (.ifCond .ge 5, 3) := by decide +kernel
theorem dX1_yardAt_16 : decode cX1_yardAt 16 = .ok (.iconst 0, 1) := by decide +kernel
theorem dX1_yardAt_17 : decode cX1_yardAt 17 = .ok (.ireturn, 1) := by decide +kernel
theorem dX1_yardAt_18 : decode cX1_yardAt 18 = .ok (.aload_n 0, 1) := by decide +kernel
theorem dX1_yardAt_19 : decode cX1_yardAt 19 = .ok (.getfield 24, 3) := by decide +kernel
theorem dX1_yardAt_22 : decode cX1_yardAt 22 = .ok (.iload_n 1, 1) := by decide +kernel
theorem dX1_yardAt_23 : decode cX1_yardAt 23 = .ok (.iaload, 1) := by decide +kernel
theorem dX1_yardAt_24 : decode cX1_yardAt 24 = .ok (.istore_n 3, 1) := by decide +kernel
theorem dX1_yardAt_25 : decode cX1_yardAt 25 = .ok (.iload_n 3, 1) := by decide +kernel
theorem dX1_yardAt_26 : decode cX1_yardAt 26 = .ok (.iconst 1, 1) := by decide +kernel
theorem dX1_yardAt_27 : decode cX1_yardAt 27 = .ok (.if_icmp .ge 5, 3) := by decide +kernel
theorem dX1_yardAt_30 : decode cX1_yardAt 30 = .ok (.iconst 0, 1) := by decide +kernel
theorem dX1_yardAt_31 : decode cX1_yardAt 31 = .ok (.ireturn, 1) := by decide +kernel
theorem dX1_yardAt_32 : decode cX1_yardAt 32 = .ok (.aload_n 0, 1) := by decide +kernel
theorem dX1_yardAt_33 : decode cX1_yardAt 33 = .ok (.getfield 21, 3) := by decide +kernel
theorem dX1_yardAt_36 : decode cX1_yardAt 36 = .ok (.iload_n 1, 1) := by decide +kernel
theorem dX1_yardAt_37 : decode cX1_yardAt 37 = .ok (.bipush 12, 2) := by decide +kernel
theorem dX1_yardAt_39 : decode cX1_yardAt 39 = .ok (.imul, 1) := by decide +kernel
theorem dX1_yardAt_40 : decode cX1_yardAt 40 = .ok (.iload_n 2, 1) := by decide +kernel
theorem dX1_yardAt_41 : decode cX1_yardAt 41 = .ok (.iload_n 3, 1) := by decide +kernel
theorem dX1_yardAt_42 : decode cX1_yardAt 42 = .ok (.irem, 1) := by decide +kernel
theorem dX1_yardAt_43 : decode cX1_yardAt 43 = .ok (.iadd, 1) := by decide +kernel
theorem dX1_yardAt_44 : decode cX1_yardAt 44 = .ok (.iaload, 1) := by decide +kernel
theorem dX1_yardAt_45 : decode cX1_yardAt 45 = .ok (.ireturn, 1) := by decide +kernel
theorem dX1_canFeed_0 : decode cX1_canFeed 0 = .ok (.iload_n 1, 1) := by decide +kernel
theorem dX1_canFeed_1 : decode cX1_canFeed 1 = .ok (.ifCond .lt 28, 3) := by decide +kernel
theorem dX1_canFeed_4 : decode cX1_canFeed 4 = .ok (.iload_n 1, 1) := by decide +kernel
theorem dX1_canFeed_5 : decode cX1_canFeed 5 = .ok (.aload_n 0, 1) := by decide +kernel
theorem dX1_canFeed_6 : decode cX1_canFeed 6 = .ok (.getfield 31, 3) := by decide +kernel
theorem dX1_canFeed_9 : decode cX1_canFeed 9 = .ok (.if_icmp .ge 20, 3) := by decide +kernel
theorem dX1_canFeed_12 : decode cX1_canFeed 12 = .ok (.aload_n 0, 1) := by decide +kernel
theorem dX1_canFeed_13 : decode cX1_canFeed 13 = .ok (.iload_n 1, 1) := by decide +kernel
theorem dX1_canFeed_14 : decode cX1_canFeed 14 = .ok (.iload_n 3, 1) := by decide +kernel
theorem dX1_canFeed_15 : decode cX1_canFeed 15 = .ok (.invokevirtual 61, 3) := by decide +kernel
theorem dX1_canFeed_18 : decode cX1_canFeed 18 = .ok (.iload_n 2, 1) := by decide +kernel
theorem dX1_canFeed_19 : decode cX1_canFeed 19 = .ok (.invokestatic 64, 3) := by decide +kernel
theorem dX1_canFeed_22 : decode cX1_canFeed 22 = .ok (.if_icmp .ne 7, 3) := by decide +kernel
theorem dX1_canFeed_25 : decode cX1_canFeed 25 = .ok (.iconst 1, 1) := by decide +kernel
theorem dX1_canFeed_26 : decode cX1_canFeed 26 = .ok (.goto 4, 3) := by decide +kernel
theorem dX1_canFeed_29 : decode cX1_canFeed 29 = .ok (.iconst 0, 1) := by decide +kernel
theorem dX1_canFeed_30 : decode cX1_canFeed 30 = .ok (.ireturn, 1) := by decide +kernel
theorem dX1_feedersAt_0 : decode cX1_feedersAt 0 = .ok (.iconst 0, 1) := by decide +kernel
theorem dX1_feedersAt_1 : decode cX1_feedersAt 1 = .ok (.istore_n 3, 1) := by decide +kernel
theorem dX1_feedersAt_2 : decode cX1_feedersAt 2 = .ok (.iconst 0, 1) := by decide +kernel
theorem dX1_feedersAt_3 : decode cX1_feedersAt 3 = .ok (.istore 4, 2) := by decide +kernel
theorem dX1_feedersAt_5 : decode cX1_feedersAt 5 = .ok (.iload 4, 2) := by decide +kernel
theorem dX1_feedersAt_7 : decode cX1_feedersAt 7 = .ok (.aload_n 0, 1) := by decide +kernel
theorem dX1_feedersAt_8 : decode cX1_feedersAt 8 = .ok (.getfield 31, 3) := by decide +kernel
theorem dX1_feedersAt_11 : decode cX1_feedersAt 11 = .ok (.if_icmp .ge 23, 3) := by decide +kernel
theorem dX1_feedersAt_14 : decode cX1_feedersAt 14 = .ok (.aload_n 0, 1) := by decide +kernel
theorem dX1_feedersAt_15 : decode cX1_feedersAt 15 = .ok (.iload 4, 2) := by decide +kernel
theorem dX1_feedersAt_17 : decode cX1_feedersAt 17 = .ok (.iload_n 2, 1) := by decide +kernel
theorem dX1_feedersAt_18 : decode cX1_feedersAt 18 = .ok (.invokevirtual 61, 3) := by decide +kernel
theorem dX1_feedersAt_21 : decode cX1_feedersAt 21 = .ok (.iload_n 1, 1) := by decide +kernel
theorem dX1_feedersAt_22 : decode cX1_feedersAt 22 = .ok (.if_icmp .ne 6, 3) := by decide +kernel
theorem dX1_feedersAt_25 : decode cX1_feedersAt 25 = .ok (.iinc 3 1, 3) := by decide +kernel
theorem dX1_feedersAt_28 : decode cX1_feedersAt 28 = .ok (.iinc 4 1, 3) := by decide +kernel
theorem dX1_feedersAt_31 : decode cX1_feedersAt 31 = .ok (.goto (-26), 3) := by decide +kernel
theorem dX1_feedersAt_34 : decode cX1_feedersAt 34 = .ok (.iload_n 3, 1) := by decide +kernel
theorem dX1_feedersAt_35 : decode cX1_feedersAt 35 = .ok (.ireturn, 1) := by decide +kernel
theorem dX1_states_0 : decode cX1_states 0 = .ok (.aload_n 0, 1) := by decide +kernel
theorem dX1_states_1 : decode cX1_states 1 = .ok (.getfield 34, 3) := by decide +kernel
theorem dX1_states_4 : decode cX1_states 4 = .ok (.iconst 1, 1) := by decide +kernel
theorem dX1_states_5 : decode cX1_states 5 = .ok (.invokestatic 68, 3) := by decide +kernel
theorem dX1_states_8 : decode cX1_states 8 = .ok (.bipush 6, 2) := by decide +kernel
theorem dX1_states_10 : decode cX1_states 10 = .ok (.imul, 1) := by decide +kernel
theorem dX1_states_11 : decode cX1_states 11 = .ok (.bipush 8, 2) := by decide +kernel
theorem dX1_states_13 : decode cX1_states 13 = .ok (.imul, 1) := by decide +kernel
theorem dX1_states_14 : decode cX1_states 14 = .ok (.ireturn, 1) := by decide +kernel
theorem dX1_firstState_0 : decode cX1_firstState 0 = .ok (.aload_n 0, 1) := by decide +kernel
theorem dX1_firstState_1 : decode cX1_firstState 1 = .ok (.getfield 37, 3) := by decide +kernel
theorem dX1_firstState_4 : decode cX1_firstState 4 = .ok (.iconst (-1), 1) := by decide +kernel
theorem dX1_firstState_5 : decode cX1_firstState 5 = .ok (.iconst 0, 1) := by decide +kernel
theorem dX1_firstState_6 : decode cX1_firstState 6 = .ok (.invokestatic 73, 3) := by decide +kernel
theorem dX1_firstState_9 : decode cX1_firstState 9 = .ok (.ireturn, 1) := by decide +kernel
theorem dX1_onward_0 : decode cX1_onward 0 = .ok (.iload_n 1, 1) := by decide +kernel
theorem dX1_onward_1 : decode cX1_onward 1 = .ok (.invokestatic 64, 3) := by decide +kernel
theorem dX1_onward_4 : decode cX1_onward 4 = .ok (.istore_n 3, 1) := by decide +kernel
theorem dX1_onward_5 : decode cX1_onward 5 = .ok (.iload_n 1, 1) := by decide +kernel
theorem dX1_onward_6 : decode cX1_onward 6 = .ok (.invokestatic 77, 3) := by decide +kernel
theorem dX1_onward_9 : decode cX1_onward 9 = .ok (.istore 4, 2) := by decide +kernel
theorem dX1_onward_11 : decode cX1_onward 11 = .ok (.iload 4, 2) := by decide +kernel
theorem dX1_onward_13 : decode cX1_onward 13 = .ok (.iconst (-1), 1) := by decide +kernel
theorem dX1_onward_14 : decode cX1_onward 14 = .ok (.if_icmp .ne 5, 3) := by decide +kernel
theorem dX1_onward_17 : decode cX1_onward 17 = .ok (.iload_n 1, 1) := by decide +kernel
theorem dX1_onward_18 : decode cX1_onward 18 = .ok (.ireturn, 1) := by decide +kernel
theorem dX1_onward_19 : decode cX1_onward 19 = .ok (.aload_n 0, 1) := by decide +kernel
theorem dX1_onward_20 : decode cX1_onward 20 = .ok (.getfield 34, 3) := by decide +kernel
theorem dX1_onward_23 : decode cX1_onward 23 = .ok (.ifCond .le 12, 3) := by decide +kernel
theorem dX1_onward_26 : decode cX1_onward 26 = .ok (.iload_n 1, 1) := by decide +kernel
theorem dX1_onward_27 : decode cX1_onward 27 = .ok (.invokestatic 80, 3) := by decide +kernel
theorem dX1_onward_30 : decode cX1_onward 30 = .ok (.iconst 1, 1) := by decide +kernel
theorem dX1_onward_31 : decode cX1_onward 31 = .ok (.iadd, 1) := by decide +kernel
theorem dX1_onward_32 : decode cX1_onward 32 = .ok (.goto 4, 3) := by decide +kernel
theorem dX1_onward_35 : decode cX1_onward 35 = .ok (.iconst 0, 1) := by decide +kernel
theorem dX1_onward_36 : decode cX1_onward 36 = .ok (.istore 5, 2) := by decide +kernel
theorem dX1_onward_38 : decode cX1_onward 38 = .ok (.aload_n 0, 1) := by decide +kernel
theorem dX1_onward_39 : decode cX1_onward 39 = .ok (.getfield 34, 3) := by decide +kernel
theorem dX1_onward_42 : decode cX1_onward 42 = .ok (.ifCond .le 19, 3) := by decide +kernel
theorem dX1_onward_45 : decode cX1_onward 45 = .ok (.iload 5, 2) := by decide +kernel
theorem dX1_onward_47 : decode cX1_onward 47 = .ok (.aload_n 0, 1) := by decide +kernel
theorem dX1_onward_48 : decode cX1_onward 48 = .ok (.getfield 34, 3) := by decide +kernel
theorem dX1_onward_51 : decode cX1_onward 51 = .ok (.if_icmp .lt 10, 3) := by decide +kernel
theorem dX1_onward_54 : decode cX1_onward 54 = .ok (.iload_n 3, 1) := by decide +kernel
theorem dX1_onward_55 : decode cX1_onward 55 = .ok (.iconst (-1), 1) := by decide +kernel
theorem dX1_onward_56 : decode cX1_onward 56 = .ok (.iconst 0, 1) := by decide +kernel
theorem dX1_onward_57 : decode cX1_onward 57 = .ok (.invokestatic 73, 3) := by decide +kernel
theorem dX1_onward_60 : decode cX1_onward 60 = .ok (.ireturn, 1) := by decide +kernel
theorem dX1_onward_61 : decode cX1_onward 61 = .ok (.aload_n 0, 1) := by decide +kernel
theorem dX1_onward_62 : decode cX1_onward 62 = .ok (.iload_n 3, 1) := by decide +kernel
theorem dX1_onward_63 : decode cX1_onward 63 = .ok (.aload_n 0, 1) := by decide +kernel
theorem dX1_onward_64 : decode cX1_onward 64 = .ok (.iload 4, 2) := by decide +kernel
theorem dX1_onward_66 : decode cX1_onward 66 = .ok (.iload_n 2, 1) := by decide +kernel
theorem dX1_onward_67 : decode cX1_onward 67 = .ok (.invokevirtual 61, 3) := by decide +kernel
theorem dX1_onward_70 : decode cX1_onward 70 = .ok (.invokevirtual 83, 3) := by decide +kernel
theorem dX1_onward_73 : decode cX1_onward 73 = .ok (.iload 4, 2) := by decide +kernel
theorem dX1_onward_75 : decode cX1_onward 75 = .ok (.iload 5, 2) := by decide +kernel
theorem dX1_onward_77 : decode cX1_onward 77 = .ok (.invokestatic 73, 3) := by decide +kernel
theorem dX1_onward_80 : decode cX1_onward 80 = .ok (.ireturn, 1) := by decide +kernel
theorem dX1_towards_0 : decode cX1_towards 0 = .ok (.iload_n 1, 1) := by decide +kernel
theorem dX1_towards_1 : decode cX1_towards 1 = .ok (.ifCond .lt 19, 3) := by decide +kernel
theorem dX1_towards_4 : decode cX1_towards 4 = .ok (.iload_n 1, 1) := by decide +kernel
theorem dX1_towards_5 : decode cX1_towards 5 = .ok (.bipush 8, 2) := by decide +kernel
theorem dX1_towards_7 : decode cX1_towards 7 = .ok (.if_icmp .ge 13, 3) := by decide +kernel
theorem dX1_towards_10 : decode cX1_towards 10 = .ok (.iload_n 2, 1) := by decide +kernel
theorem dX1_towards_11 : decode cX1_towards 11 = .ok (.ifCond .lt 9, 3) := by decide +kernel
theorem dX1_towards_14 : decode cX1_towards 14 = .ok (.iload_n 2, 1) := by decide +kernel
theorem dX1_towards_15 : decode cX1_towards 15 = .ok (.bipush 8, 2) := by decide +kernel
theorem dX1_towards_17 : decode cX1_towards 17 = .ok (.if_icmp .lt 5, 3) := by decide +kernel
theorem dX1_towards_20 : decode cX1_towards 20 = .ok (.iload_n 1, 1) := by decide +kernel
theorem dX1_towards_21 : decode cX1_towards 21 = .ok (.ireturn, 1) := by decide +kernel
theorem dX1_towards_22 : decode cX1_towards 22 = .ok (.aload_n 0, 1) := by decide +kernel
theorem dX1_towards_23 : decode cX1_towards 23 = .ok (.getfield 15, 3) := by decide +kernel
theorem dX1_towards_26 : decode cX1_towards 26 = .ok (.iload_n 1, 1) := by decide +kernel
theorem dX1_towards_27 : decode cX1_towards 27 = .ok (.bipush 8, 2) := by decide +kernel
theorem dX1_towards_29 : decode cX1_towards 29 = .ok (.imul, 1) := by decide +kernel
theorem dX1_towards_30 : decode cX1_towards 30 = .ok (.iload_n 2, 1) := by decide +kernel
theorem dX1_towards_31 : decode cX1_towards 31 = .ok (.iadd, 1) := by decide +kernel
theorem dX1_towards_32 : decode cX1_towards 32 = .ok (.iaload, 1) := by decide +kernel
theorem dX1_towards_33 : decode cX1_towards 33 = .ok (.ireturn, 1) := by decide +kernel
theorem dX1_unfed_0 : decode cX1_unfed 0 = .ok (.iload_n 1, 1) := by decide +kernel
theorem dX1_unfed_1 : decode cX1_unfed 1 = .ok (.istore 4, 2) := by decide +kernel
theorem dX1_unfed_3 : decode cX1_unfed 3 = .ok (.iconst 1, 1) := by decide +kernel
theorem dX1_unfed_4 : decode cX1_unfed 4 = .ok (.istore 5, 2) := by decide +kernel
theorem dX1_unfed_6 : decode cX1_unfed 6 = .ok (.iload 5, 2) := by decide +kernel
theorem dX1_unfed_8 : decode cX1_unfed 8 = .ok (.iload_n 3, 1) := by decide +kernel
theorem dX1_unfed_9 : decode cX1_unfed 9 = .ok (.if_icmp .gt 21, 3) := by decide +kernel
theorem dX1_unfed_12 : decode cX1_unfed 12 = .ok (.aload_n 0, 1) := by decide +kernel
theorem dX1_unfed_13 : decode cX1_unfed 13 = .ok (.iload 4, 2) := by decide +kernel
theorem dX1_unfed_15 : decode cX1_unfed 15 = .ok (.iload_n 2, 1) := by decide +kernel
theorem dX1_unfed_16 : decode cX1_unfed 16 = .ok (.iload 5, 2) := by decide +kernel
theorem dX1_unfed_18 : decode cX1_unfed 18 = .ok (.iadd, 1) := by decide +kernel
theorem dX1_unfed_19 : decode cX1_unfed 19 = .ok (.invokevirtual 85, 3) := by decide +kernel
theorem dX1_unfed_22 : decode cX1_unfed 22 = .ok (.istore 4, 2) := by decide +kernel
theorem dX1_unfed_24 : decode cX1_unfed 24 = .ok (.iinc 5 1, 3) := by decide +kernel
theorem dX1_unfed_27 : decode cX1_unfed 27 = .ok (.goto (-21), 3) := by decide +kernel
theorem dX1_unfed_30 : decode cX1_unfed 30 = .ok (.iload 4, 2) := by decide +kernel
theorem dX1_unfed_32 : decode cX1_unfed 32 = .ok (.ireturn, 1) := by decide +kernel
theorem dX2_init_0 : decode cX2_init 0 = .ok (.aload_n 0, 1) := by decide +kernel
theorem dX2_init_1 : decode cX2_init 1 = .ok (.invokespecial 3, 3) := by decide +kernel
theorem dX2_init_4 : decode cX2_init 4 = .ok (.aload_n 0, 1) := by decide +kernel
theorem dX2_init_5 : decode cX2_init 5 = .ok (.sipush 960, 3) := by decide +kernel
theorem dX2_init_8 : decode cX2_init 8 = .ok (.newarray .int, 2) := by decide +kernel
theorem dX2_init_10 : decode cX2_init 10 = .ok (.putfield 9, 3) := by decide +kernel
theorem dX2_init_13 : decode cX2_init 13 = .ok (.aload_n 0, 1) := by decide +kernel
theorem dX2_init_14 : decode cX2_init 14 = .ok (.sipush 960, 3) := by decide +kernel
theorem dX2_init_17 : decode cX2_init 17 = .ok (.newarray .long, 2) := by decide +kernel
theorem dX2_init_19 : decode cX2_init 19 = .ok (.putfield 15, 3) := by decide +kernel
theorem dX2_init_22 : decode cX2_init 22 = .ok (.aload_n 0, 1) := by decide +kernel
theorem dX2_init_23 : decode cX2_init 23 = .ok (.getfield 15, 3) := by decide +kernel
theorem dX2_init_26 : decode cX2_init 26 = .ok (.ldc2_w 19, 3) := by decide +kernel
theorem dX2_init_29 : decode cX2_init 29 = .ok (.invokestatic 21, 3) := by decide +kernel
theorem dX2_init_32 : decode cX2_init 32 = .ok (.return_, 1) := by decide +kernel
theorem dX2_size_0 : decode cX2_size 0 = .ok (.aload_n 0, 1) := by decide +kernel
theorem dX2_size_1 : decode cX2_size 1 = .ok (.getfield 27, 3) := by decide +kernel
theorem dX2_size_4 : decode cX2_size 4 = .ok (.ireturn, 1) := by decide +kernel
theorem dX2_state_0 : decode cX2_state 0 = .ok (.iload_n 1, 1) := by decide +kernel
theorem dX2_state_1 : decode cX2_state 1 = .ok (.ifCond .lt 20, 3) := by decide +kernel
theorem dX2_state_4 : decode cX2_state 4 = .ok (.iload_n 1, 1) := by decide +kernel
theorem dX2_state_5 : decode cX2_state 5 = .ok (.aload_n 0, 1) := by decide +kernel
theorem dX2_state_6 : decode cX2_state 6 = .ok (.getfield 27, 3) := by decide +kernel
theorem dX2_state_9 : decode cX2_state 9 = .ok (.if_icmp .ge 12, 3) := by decide +kernel
theorem dX2_state_12 : decode cX2_state 12 = .ok (.aload_n 0, 1) := by decide +kernel
theorem dX2_state_13 : decode cX2_state 13 = .ok (.getfield 9, 3) := by decide +kernel
theorem dX2_state_16 : decode cX2_state 16 = .ok (.iload_n 1, 1) := by decide +kernel
theorem dX2_state_17 : decode cX2_state 17 = .ok (.iaload, 1) := by decide +kernel
theorem dX2_state_18 : decode cX2_state 18 = .ok (.goto 4, 3) := by decide +kernel
theorem dX2_state_21 : decode cX2_state 21 = .ok (.iconst 0, 1) := by decide +kernel
theorem dX2_state_22 : decode cX2_state 22 = .ok (.ireturn, 1) := by decide +kernel
theorem dX2_number_0 : decode cX2_number 0 = .ok (.iload_n 1, 1) := by decide +kernel
theorem dX2_number_1 : decode cX2_number 1 = .ok (.ifCond .lt 25, 3) := by decide +kernel
theorem dX2_number_4 : decode cX2_number 4 = .ok (.iload_n 1, 1) := by decide +kernel
theorem dX2_number_5 : decode cX2_number 5 = .ok (.aload_n 0, 1) := by decide +kernel
theorem dX2_number_6 : decode cX2_number 6 = .ok (.getfield 27, 3) := by decide +kernel
theorem dX2_number_9 : decode cX2_number 9 = .ok (.if_icmp .ge 17, 3) := by decide +kernel
theorem dX2_number_12 : decode cX2_number 12 = .ok (.aload_n 0, 1) := by decide +kernel
theorem dX2_number_13 : decode cX2_number 13 = .ok (.getfield 15, 3) := by decide +kernel
theorem dX2_number_16 : decode cX2_number 16 = .ok (.aload_n 0, 1) := by decide +kernel
theorem dX2_number_17 : decode cX2_number 17 = .ok (.getfield 9, 3) := by decide +kernel
theorem dX2_number_20 : decode cX2_number 20 = .ok (.iload_n 1, 1) := by decide +kernel
theorem dX2_number_21 : decode cX2_number 21 = .ok (.iaload, 1) := by decide +kernel
theorem dX2_number_22 : decode cX2_number 22 = .ok (.laload, 1) := by decide +kernel
theorem dX2_number_23 : decode cX2_number 23 = .ok (.goto 4, 3) := by decide +kernel
theorem dX2_number_26 : decode cX2_number 26 = .ok (.lconst 0, 1) := by decide +kernel
theorem dX2_number_27 : decode cX2_number 27 = .ok (.lreturn, 1) := by decide +kernel
theorem dX2_clear_0 : decode cX2_clear 0 = .ok (.iconst 0, 1) := by decide +kernel
theorem dX2_clear_1 : decode cX2_clear 1 = .ok (.istore_n 1, 1) := by decide +kernel
theorem dX2_clear_2 : decode cX2_clear 2 = .ok (.iload_n 1, 1) := by decide +kernel
theorem dX2_clear_3 : decode cX2_clear 3 = .ok (.aload_n 0, 1) := by decide +kernel
theorem dX2_clear_4 : decode cX2_clear 4 = .ok (.getfield 27, 3) := by decide +kernel
theorem dX2_clear_7 : decode cX2_clear 7 = .ok (.if_icmp .ge 23, 3) := by decide +kernel
theorem dX2_clear_10 : decode cX2_clear 10 = .ok (.aload_n 0, 1) := by decide +kernel
theorem dX2_clear_11 : decode cX2_clear 11 = .ok (.getfield 15, 3) := by decide +kernel
theorem dX2_clear_14 : decode cX2_clear 14 = .ok (.aload_n 0, 1) := by decide +kernel
theorem dX2_clear_15 : decode cX2_clear 15 = .ok (.getfield 9, 3) := by decide +kernel
theorem dX2_clear_18 : decode cX2_clear 18 = .ok (.iload_n 1, 1) := by decide +kernel
theorem dX2_clear_19 : decode cX2_clear 19 = .ok (.iaload, 1) := by decide +kernel
theorem dX2_clear_20 : decode cX2_clear 20 = .ok (.ldc2_w 19, 3) := by decide +kernel
theorem dX2_clear_23 : decode cX2_clear 23 = .ok (.lastore, 1) := by decide +kernel
theorem dX2_clear_24 : decode cX2_clear 24 = .ok (.iinc 1 1, 3) := by decide +kernel
theorem dX2_clear_27 : decode cX2_clear 27 = .ok (.goto (-25), 3) := by decide +kernel
theorem dX2_clear_30 : decode cX2_clear 30 = .ok (.aload_n 0, 1) := by decide +kernel
theorem dX2_clear_31 : decode cX2_clear 31 = .ok (.iconst 0, 1) := by decide +kernel
theorem dX2_clear_32 : decode cX2_clear 32 = .ok (.putfield 27, 3) := by decide +kernel
theorem dX2_clear_35 : decode cX2_clear 35 = .ok (.return_, 1) := by decide +kernel
theorem dX2_put_0 : decode cX2_put 0 = .ok (.iload_n 1, 1) := by decide +kernel
theorem dX2_put_1 : decode cX2_put 1 = .ok (.ifCond .lt 10, 3) := by decide +kernel
theorem dX2_put_4 : decode cX2_put 4 = .ok (.iload_n 1, 1) := by decide +kernel
theorem dX2_put_5 : decode cX2_put 5 = .ok (.sipush 960, 3) := by decide +kernel
theorem dX2_put_8 : decode cX2_put 8 = .ok (.if_icmp .lt 4, 3) := by decide +kernel
theorem dX2_put_11 : decode cX2_put 11 = .ok (.return_, 1) := by decide +kernel
theorem dX2_put_12 : decode cX2_put 12 = .ok (.aload_n 0, 1) := by decide +kernel
theorem dX2_put_13 : decode cX2_put 13 = .ok (.getfield 15, 3) := by decide +kernel
theorem dX2_put_16 : decode cX2_put 16 = .ok (.iload_n 1, 1) := by decide +kernel
theorem dX2_put_17 : decode cX2_put 17 = .ok (.laload, 1) := by decide +kernel
theorem dX2_put_18 : decode cX2_put 18 = .ok (.ldc2_w 19, 3) := by decide +kernel
theorem dX2_put_21 : decode cX2_put 21 = .ok (.lcmp, 1) := by decide +kernel
theorem dX2_put_22 : decode cX2_put 22 = .ok (.ifCond .eq 38, 3) := by decide +kernel
theorem dX2_put_25 : decode cX2_put 25 = .ok (.aload_n 0, 1) := by decide +kernel
theorem dX2_put_26 : decode cX2_put 26 = .ok (.getfield 15, 3) := by decide +kernel
theorem dX2_put_29 : decode cX2_put 29 = .ok (.iload_n 1, 1) := by decide +kernel
theorem dX2_put_30 : decode cX2_put 30 = .ok (.iload 4, 2) := by decide +kernel
theorem dX2_put_32 : decode cX2_put 32 = .ok (.ifCond .eq 16, 3) := by decide +kernel
theorem dX2_put_35 : decode cX2_put 35 = .ok (.aload_n 0, 1) := by decide +kernel
theorem dX2_put_36 : decode cX2_put 36 = .ok (.getfield 15, 3) := by decide +kernel
theorem dX2_put_39 : decode cX2_put 39 = .ok (.iload_n 1, 1) := by decide +kernel
theorem dX2_put_40 : decode cX2_put 40 = .ok (.laload, 1) := by decide +kernel
theorem dX2_put_41 : decode cX2_put 41 = .ok (.lload_n 2, 1) := by decide +kernel
theorem dX2_put_42 : decode cX2_put 42 = .ok (.invokestatic 31, 3) := by decide +kernel
theorem dX2_put_45 : decode cX2_put 45 = .ok (.goto 11, 3) := by decide +kernel
theorem dX2_put_48 : decode cX2_put 48 = .ok (.aload_n 0, 1) := by decide +kernel
theorem dX2_put_49 : decode cX2_put 49 = .ok (.getfield 15, 3) := by decide +kernel
theorem dX2_put_52 : decode cX2_put 52 = .ok (.iload_n 1, 1) := by decide +kernel
theorem dX2_put_53 : decode cX2_put 53 = .ok (.laload, 1) := by decide +kernel
theorem dX2_put_54 : decode cX2_put 54 = .ok (.lload_n 2, 1) := by decide +kernel
theorem dX2_put_55 : decode cX2_put 55 = .ok (.ladd, 1) := by decide +kernel
theorem dX2_put_56 : decode cX2_put 56 = .ok (.lastore, 1) := by decide +kernel
theorem dX2_put_57 : decode cX2_put 57 = .ok (.goto 40, 3) := by decide +kernel
theorem dX2_put_60 : decode cX2_put 60 = .ok (.aload_n 0, 1) := by decide +kernel
theorem dX2_put_61 : decode cX2_put 61 = .ok (.getfield 27, 3) := by decide +kernel
theorem dX2_put_64 : decode cX2_put 64 = .ok (.sipush 960, 3) := by decide +kernel
theorem dX2_put_67 : decode cX2_put 67 = .ok (.if_icmp .ge 30, 3) := by decide +kernel
theorem dX2_put_70 : decode cX2_put 70 = .ok (.aload_n 0, 1) := by decide +kernel
theorem dX2_put_71 : decode cX2_put 71 = .ok (.getfield 9, 3) := by decide +kernel
theorem dX2_put_74 : decode cX2_put 74 = .ok (.aload_n 0, 1) := by decide +kernel
theorem dX2_put_75 : decode cX2_put 75 = .ok (.getfield 27, 3) := by decide +kernel
theorem dX2_put_78 : decode cX2_put 78 = .ok (.iload_n 1, 1) := by decide +kernel
theorem dX2_put_79 : decode cX2_put 79 = .ok (.iastore, 1) := by decide +kernel
theorem dX2_put_80 : decode cX2_put 80 = .ok (.aload_n 0, 1) := by decide +kernel
theorem dX2_put_81 : decode cX2_put 81 = .ok (.getfield 15, 3) := by decide +kernel
theorem dX2_put_84 : decode cX2_put 84 = .ok (.iload_n 1, 1) := by decide +kernel
theorem dX2_put_85 : decode cX2_put 85 = .ok (.lload_n 2, 1) := by decide +kernel
theorem dX2_put_86 : decode cX2_put 86 = .ok (.lastore, 1) := by decide +kernel
theorem dX2_put_87 : decode cX2_put 87 = .ok (.aload_n 0, 1) := by decide +kernel
theorem dX2_put_88 : decode cX2_put 88 = .ok (.dup, 1) := by decide +kernel
theorem dX2_put_89 : decode cX2_put 89 = .ok (.getfield 27, 3) := by decide +kernel
theorem dX2_put_92 : decode cX2_put 92 = .ok (.iconst 1, 1) := by decide +kernel
theorem dX2_put_93 : decode cX2_put 93 = .ok (.iadd, 1) := by decide +kernel
theorem dX2_put_94 : decode cX2_put 94 = .ok (.putfield 27, 3) := by decide +kernel
theorem dX2_put_97 : decode cX2_put 97 = .ok (.return_, 1) := by decide +kernel
theorem dX2_keepThoseAt_0 : decode cX2_keepThoseAt 0 = .ok (.iconst 0, 1) := by decide +kernel
theorem dX2_keepThoseAt_1 : decode cX2_keepThoseAt 1 = .ok (.istore_n 2, 1) := by decide +kernel
theorem dX2_keepThoseAt_2 : decode cX2_keepThoseAt 2 = .ok (.iconst 0, 1) := by decide +kernel
theorem dX2_keepThoseAt_3 : decode cX2_keepThoseAt 3 = .ok (.istore_n 3, 1) := by decide +kernel
theorem dX2_keepThoseAt_4 : decode cX2_keepThoseAt 4 = .ok (.iload_n 3, 1) := by decide +kernel
theorem dX2_keepThoseAt_5 : decode cX2_keepThoseAt 5 = .ok (.aload_n 0, 1) := by decide +kernel
theorem dX2_keepThoseAt_6 : decode cX2_keepThoseAt 6 = .ok (.getfield 27, 3) := by decide +kernel
theorem dX2_keepThoseAt_9 : decode cX2_keepThoseAt 9 = .ok (.if_icmp .ge 50, 3) := by decide +kernel
theorem dX2_keepThoseAt_12 : decode cX2_keepThoseAt 12 = .ok (.aload_n 0, 1) := by decide +kernel
theorem dX2_keepThoseAt_13 : decode cX2_keepThoseAt 13 = .ok (.getfield 9, 3) := by decide +kernel
theorem dX2_keepThoseAt_16 : decode cX2_keepThoseAt 16 = .ok (.iload_n 3, 1) := by decide +kernel
theorem dX2_keepThoseAt_17 : decode cX2_keepThoseAt 17 = .ok (.iaload, 1) := by decide +kernel
theorem dX2_keepThoseAt_18 : decode cX2_keepThoseAt 18 = .ok (.istore 4, 2) := by decide +kernel
theorem dX2_keepThoseAt_20 : decode cX2_keepThoseAt 20 = .ok (.iload 4, 2) := by decide +kernel
theorem dX2_keepThoseAt_22 : decode cX2_keepThoseAt 22 = .ok (.invokestatic 37, 3) := by decide +kernel
theorem dX2_keepThoseAt_25 : decode cX2_keepThoseAt 25 = .ok (.iload_n 1, 1) := by decide +kernel
theorem dX2_keepThoseAt_26 : decode cX2_keepThoseAt 26 = .ok (.if_icmp .ne 17, 3) := by decide +kernel
theorem dX2_keepThoseAt_29 : decode cX2_keepThoseAt 29 = .ok (.aload_n 0, 1) := by decide +kernel
theorem dX2_keepThoseAt_30 : decode cX2_keepThoseAt 30 = .ok (.getfield 9, 3) := by decide +kernel
theorem dX2_keepThoseAt_33 : decode cX2_keepThoseAt 33 = .ok (.iload_n 2, 1) := by decide +kernel
theorem dX2_keepThoseAt_34 : decode cX2_keepThoseAt 34 = .ok (.iload 4, 2) := by decide +kernel
theorem dX2_keepThoseAt_36 : decode cX2_keepThoseAt 36 = .ok (.iastore, 1) := by decide +kernel
theorem dX2_keepThoseAt_37 : decode cX2_keepThoseAt 37 = .ok (.iinc 2 1, 3) := by decide +kernel
theorem dX2_keepThoseAt_40 : decode cX2_keepThoseAt 40 = .ok (.goto 13, 3) := by decide +kernel
theorem dX2_keepThoseAt_43 : decode cX2_keepThoseAt 43 = .ok (.aload_n 0, 1) := by decide +kernel
theorem dX2_keepThoseAt_44 : decode cX2_keepThoseAt 44 = .ok (.getfield 15, 3) := by decide +kernel
theorem dX2_keepThoseAt_47 : decode cX2_keepThoseAt 47 = .ok (.iload 4, 2) := by decide +kernel
theorem dX2_keepThoseAt_49 : decode cX2_keepThoseAt 49 = .ok (.ldc2_w 19, 3) := by decide +kernel
theorem dX2_keepThoseAt_52 : decode cX2_keepThoseAt 52 = .ok (.lastore, 1) := by decide +kernel
theorem dX2_keepThoseAt_53 : decode cX2_keepThoseAt 53 = .ok (.iinc 3 1, 3) := by decide +kernel
theorem dX2_keepThoseAt_56 : decode cX2_keepThoseAt 56 = .ok (.goto (-52), 3) := by decide +kernel
theorem dX2_keepThoseAt_59 : decode cX2_keepThoseAt 59 = .ok (.aload_n 0, 1) := by decide +kernel
theorem dX2_keepThoseAt_60 : decode cX2_keepThoseAt 60 = .ok (.iload_n 2, 1) := by decide +kernel
theorem dX2_keepThoseAt_61 : decode cX2_keepThoseAt 61 = .ok (.putfield 27, 3) := by decide +kernel
theorem dX2_keepThoseAt_64 : decode cX2_keepThoseAt 64 = .ok (.return_, 1) := by decide +kernel
theorem dX2_least_0 : decode cX2_least 0 = .ok (.ldc2_w 19, 3) := by decide +kernel
theorem dX2_least_3 : decode cX2_least 3 = .ok (.lstore_n 1, 1) := by decide +kernel
theorem dX2_least_4 : decode cX2_least 4 = .ok (.iconst 0, 1) := by decide +kernel
theorem dX2_least_5 : decode cX2_least 5 = .ok (.istore_n 3, 1) := by decide +kernel
theorem dX2_least_6 : decode cX2_least 6 = .ok (.iload_n 3, 1) := by decide +kernel
theorem dX2_least_7 : decode cX2_least 7 = .ok (.aload_n 0, 1) := by decide +kernel
theorem dX2_least_8 : decode cX2_least 8 = .ok (.getfield 27, 3) := by decide +kernel
theorem dX2_least_11 : decode cX2_least 11 = .ok (.if_icmp .ge 45, 3) := by decide +kernel
theorem dX2_least_14 : decode cX2_least 14 = .ok (.lload_n 1, 1) := by decide +kernel
theorem dX2_least_15 : decode cX2_least 15 = .ok (.ldc2_w 19, 3) := by decide +kernel
theorem dX2_least_18 : decode cX2_least 18 = .ok (.lcmp, 1) := by decide +kernel
theorem dX2_least_19 : decode cX2_least 19 = .ok (.ifCond .eq 19, 3) := by decide +kernel
theorem dX2_least_22 : decode cX2_least 22 = .ok (.aload_n 0, 1) := by decide +kernel
theorem dX2_least_23 : decode cX2_least 23 = .ok (.getfield 15, 3) := by decide +kernel
theorem dX2_least_26 : decode cX2_least 26 = .ok (.aload_n 0, 1) := by decide +kernel
theorem dX2_least_27 : decode cX2_least 27 = .ok (.getfield 9, 3) := by decide +kernel
theorem dX2_least_30 : decode cX2_least 30 = .ok (.iload_n 3, 1) := by decide +kernel
theorem dX2_least_31 : decode cX2_least 31 = .ok (.iaload, 1) := by decide +kernel
theorem dX2_least_32 : decode cX2_least 32 = .ok (.laload, 1) := by decide +kernel
theorem dX2_least_33 : decode cX2_least 33 = .ok (.lload_n 1, 1) := by decide +kernel
theorem dX2_least_34 : decode cX2_least 34 = .ok (.lcmp, 1) := by decide +kernel
theorem dX2_least_35 : decode cX2_least 35 = .ok (.ifCond .ge 15, 3) := by decide +kernel
theorem dX2_least_38 : decode cX2_least 38 = .ok (.aload_n 0, 1) := by decide +kernel
theorem dX2_least_39 : decode cX2_least 39 = .ok (.getfield 15, 3) := by decide +kernel
theorem dX2_least_42 : decode cX2_least 42 = .ok (.aload_n 0, 1) := by decide +kernel
theorem dX2_least_43 : decode cX2_least 43 = .ok (.getfield 9, 3) := by decide +kernel
theorem dX2_least_46 : decode cX2_least 46 = .ok (.iload_n 3, 1) := by decide +kernel
theorem dX2_least_47 : decode cX2_least 47 = .ok (.iaload, 1) := by decide +kernel
theorem dX2_least_48 : decode cX2_least 48 = .ok (.laload, 1) := by decide +kernel
theorem dX2_least_49 : decode cX2_least 49 = .ok (.lstore_n 1, 1) := by decide +kernel
theorem dX2_least_50 : decode cX2_least 50 = .ok (.iinc 3 1, 3) := by decide +kernel
theorem dX2_least_53 : decode cX2_least 53 = .ok (.goto (-47), 3) := by decide +kernel
theorem dX2_least_56 : decode cX2_least 56 = .ok (.lload_n 1, 1) := by decide +kernel
theorem dX2_least_57 : decode cX2_least 57 = .ok (.lreturn, 1) := by decide +kernel
theorem dX2_sum_0 : decode cX2_sum 0 = .ok (.lconst 0, 1) := by decide +kernel
theorem dX2_sum_1 : decode cX2_sum 1 = .ok (.lstore_n 1, 1) := by decide +kernel
theorem dX2_sum_2 : decode cX2_sum 2 = .ok (.iconst 0, 1) := by decide +kernel
theorem dX2_sum_3 : decode cX2_sum 3 = .ok (.istore_n 3, 1) := by decide +kernel
theorem dX2_sum_4 : decode cX2_sum 4 = .ok (.iload_n 3, 1) := by decide +kernel
theorem dX2_sum_5 : decode cX2_sum 5 = .ok (.aload_n 0, 1) := by decide +kernel
theorem dX2_sum_6 : decode cX2_sum 6 = .ok (.getfield 27, 3) := by decide +kernel
theorem dX2_sum_9 : decode cX2_sum 9 = .ok (.if_icmp .ge 23, 3) := by decide +kernel
theorem dX2_sum_12 : decode cX2_sum 12 = .ok (.lload_n 1, 1) := by decide +kernel
theorem dX2_sum_13 : decode cX2_sum 13 = .ok (.aload_n 0, 1) := by decide +kernel
theorem dX2_sum_14 : decode cX2_sum 14 = .ok (.getfield 15, 3) := by decide +kernel
theorem dX2_sum_17 : decode cX2_sum 17 = .ok (.aload_n 0, 1) := by decide +kernel
theorem dX2_sum_18 : decode cX2_sum 18 = .ok (.getfield 9, 3) := by decide +kernel
theorem dX2_sum_21 : decode cX2_sum 21 = .ok (.iload_n 3, 1) := by decide +kernel
theorem dX2_sum_22 : decode cX2_sum 22 = .ok (.iaload, 1) := by decide +kernel
theorem dX2_sum_23 : decode cX2_sum 23 = .ok (.laload, 1) := by decide +kernel
theorem dX2_sum_24 : decode cX2_sum 24 = .ok (.ladd, 1) := by decide +kernel
theorem dX2_sum_25 : decode cX2_sum 25 = .ok (.lstore_n 1, 1) := by decide +kernel
theorem dX2_sum_26 : decode cX2_sum 26 = .ok (.iinc 3 1, 3) := by decide +kernel
theorem dX2_sum_29 : decode cX2_sum 29 = .ok (.goto (-25), 3) := by decide +kernel
theorem dX2_sum_32 : decode cX2_sum 32 = .ok (.lload_n 1, 1) := by decide +kernel
theorem dX2_sum_33 : decode cX2_sum 33 = .ok (.lreturn, 1) := by decide +kernel
theorem dX3_init_0 : decode cX3_init 0 = .ok (.aload_n 0, 1) := by decide +kernel
theorem dX3_init_1 : decode cX3_init 1 = .ok (.invokespecial 1, 3) := by decide +kernel
theorem dX3_init_4 : decode cX3_init 4 = .ok (.return_, 1) := by decide +kernel
theorem dX3_begin_0 : decode cX3_begin 0 = .ok (.aload_n 0, 1) := by decide +kernel
theorem dX3_begin_1 : decode cX3_begin 1 = .ok (.iconst 0, 1) := by decide +kernel
theorem dX3_begin_2 : decode cX3_begin 2 = .ok (.putfield 7, 3) := by decide +kernel
theorem dX3_begin_5 : decode cX3_begin 5 = .ok (.aload_n 0, 1) := by decide +kernel
theorem dX3_begin_6 : decode cX3_begin 6 = .ok (.aload_n 1, 1) := by decide +kernel
theorem dX3_begin_7 : decode cX3_begin 7 = .ok (.invokevirtual 13, 3) := by decide +kernel
theorem dX3_begin_10 : decode cX3_begin 10 = .ok (.putfield 19, 3) := by decide +kernel
theorem dX3_begin_13 : decode cX3_begin 13 = .ok (.aload_n 0, 1) := by decide +kernel
theorem dX3_begin_14 : decode cX3_begin 14 = .ok (.iconst 0, 1) := by decide +kernel
theorem dX3_begin_15 : decode cX3_begin 15 = .ok (.putfield 22, 3) := by decide +kernel
theorem dX3_begin_18 : decode cX3_begin 18 = .ok (.return_, 1) := by decide +kernel
theorem dX4_init_0 : decode cX4_init 0 = .ok (.aload_n 0, 1) := by decide +kernel
theorem dX4_init_1 : decode cX4_init 1 = .ok (.invokespecial 3, 3) := by decide +kernel
theorem dX4_init_4 : decode cX4_init 4 = .ok (.aload_n 0, 1) := by decide +kernel
theorem dX4_init_5 : decode cX4_init 5 = .ok (.bipush 8, 2) := by decide +kernel
theorem dX4_init_7 : decode cX4_init 7 = .ok (.newarray .int, 2) := by decide +kernel
theorem dX4_init_9 : decode cX4_init 9 = .ok (.putfield 9, 3) := by decide +kernel
theorem dX4_init_12 : decode cX4_init 12 = .ok (.aload_n 0, 1) := by decide +kernel
theorem dX4_init_13 : decode cX4_init 13 = .ok (.bipush 8, 2) := by decide +kernel
theorem dX4_init_15 : decode cX4_init 15 = .ok (.newarray .int, 2) := by decide +kernel
theorem dX4_init_17 : decode cX4_init 17 = .ok (.putfield 15, 3) := by decide +kernel
theorem dX4_init_20 : decode cX4_init 20 = .ok (.aload_n 0, 1) := by decide +kernel
theorem dX4_init_21 : decode cX4_init 21 = .ok (.bipush 8, 2) := by decide +kernel
theorem dX4_init_23 : decode cX4_init 23 = .ok (.newarray .int, 2) := by decide +kernel
theorem dX4_init_25 : decode cX4_init 25 = .ok (.putfield 18, 3) := by decide +kernel
theorem dX4_init_28 : decode cX4_init 28 = .ok (.return_, 1) := by decide +kernel
theorem dX4_size_0 : decode cX4_size 0 = .ok (.aload_n 0, 1) := by decide +kernel
theorem dX4_size_1 : decode cX4_size 1 = .ok (.getfield 21, 3) := by decide +kernel
theorem dX4_size_4 : decode cX4_size 4 = .ok (.ireturn, 1) := by decide +kernel
theorem dX4_clear_0 : decode cX4_clear 0 = .ok (.aload_n 0, 1) := by decide +kernel
theorem dX4_clear_1 : decode cX4_clear 1 = .ok (.iconst 0, 1) := by decide +kernel
theorem dX4_clear_2 : decode cX4_clear 2 = .ok (.putfield 21, 3) := by decide +kernel
theorem dX4_clear_5 : decode cX4_clear 5 = .ok (.return_, 1) := by decide +kernel
theorem dX4_push_0 : decode cX4_push 0 = .ok (.aload_n 0, 1) := by decide +kernel
theorem dX4_push_1 : decode cX4_push 1 = .ok (.getfield 21, 3) := by decide +kernel
theorem dX4_push_4 : decode cX4_push 4 = .ok (.bipush 8, 2) := by decide +kernel
theorem dX4_push_6 : decode cX4_push 6 = .ok (.if_icmp .lt 7, 3) := by decide +kernel
theorem dX4_push_9 : decode cX4_push 9 = .ok (.aload_n 0, 1) := by decide +kernel
theorem dX4_push_10 : decode cX4_push 10 = .ok (.invokevirtual 25, 3) := by decide +kernel
theorem dX4_push_13 : decode cX4_push 13 = .ok (.aload_n 0, 1) := by decide +kernel
theorem dX4_push_14 : decode cX4_push 14 = .ok (.getfield 9, 3) := by decide +kernel
theorem dX4_push_17 : decode cX4_push 17 = .ok (.aload_n 0, 1) := by decide +kernel
theorem dX4_push_18 : decode cX4_push 18 = .ok (.getfield 21, 3) := by decide +kernel
theorem dX4_push_21 : decode cX4_push 21 = .ok (.aload_n 1, 1) := by decide +kernel
theorem dX4_push_22 : decode cX4_push 22 = .ok (.getfield 28, 3) := by decide +kernel
theorem dX4_push_25 : decode cX4_push 25 = .ok (.iastore, 1) := by decide +kernel
theorem dX4_push_26 : decode cX4_push 26 = .ok (.aload_n 0, 1) := by decide +kernel
theorem dX4_push_27 : decode cX4_push 27 = .ok (.getfield 15, 3) := by decide +kernel
theorem dX4_push_30 : decode cX4_push 30 = .ok (.aload_n 0, 1) := by decide +kernel
theorem dX4_push_31 : decode cX4_push 31 = .ok (.getfield 21, 3) := by decide +kernel
theorem dX4_push_34 : decode cX4_push 34 = .ok (.aload_n 1, 1) := by decide +kernel
theorem dX4_push_35 : decode cX4_push 35 = .ok (.getfield 33, 3) := by decide +kernel
theorem dX4_push_38 : decode cX4_push 38 = .ok (.iastore, 1) := by decide +kernel
theorem dX4_push_39 : decode cX4_push 39 = .ok (.aload_n 0, 1) := by decide +kernel
theorem dX4_push_40 : decode cX4_push 40 = .ok (.getfield 18, 3) := by decide +kernel
theorem dX4_push_43 : decode cX4_push 43 = .ok (.aload_n 0, 1) := by decide +kernel
theorem dX4_push_44 : decode cX4_push 44 = .ok (.getfield 21, 3) := by decide +kernel
theorem dX4_push_47 : decode cX4_push 47 = .ok (.aload_n 1, 1) := by decide +kernel
theorem dX4_push_48 : decode cX4_push 48 = .ok (.getfield 36, 3) := by decide +kernel
theorem dX4_push_51 : decode cX4_push 51 = .ok (.iastore, 1) := by decide +kernel
theorem dX4_push_52 : decode cX4_push 52 = .ok (.aload_n 0, 1) := by decide +kernel
theorem dX4_push_53 : decode cX4_push 53 = .ok (.dup, 1) := by decide +kernel
theorem dX4_push_54 : decode cX4_push 54 = .ok (.getfield 21, 3) := by decide +kernel
theorem dX4_push_57 : decode cX4_push 57 = .ok (.iconst 1, 1) := by decide +kernel
theorem dX4_push_58 : decode cX4_push 58 = .ok (.iadd, 1) := by decide +kernel
theorem dX4_push_59 : decode cX4_push 59 = .ok (.putfield 21, 3) := by decide +kernel
theorem dX4_push_62 : decode cX4_push 62 = .ok (.return_, 1) := by decide +kernel
theorem dX4_dropLowest_0 : decode cX4_dropLowest 0 = .ok (.iconst 1, 1) := by decide +kernel
theorem dX4_dropLowest_1 : decode cX4_dropLowest 1 = .ok (.istore_n 1, 1) := by decide +kernel
theorem dX4_dropLowest_2 : decode cX4_dropLowest 2 = .ok (.iload_n 1, 1) := by decide +kernel
theorem dX4_dropLowest_3 : decode cX4_dropLowest 3 = .ok (.bipush 8, 2) := by decide +kernel
theorem dX4_dropLowest_5 : decode cX4_dropLowest 5 = .ok (.if_icmp .ge 51, 3) := by decide +kernel
theorem dX4_dropLowest_8 : decode cX4_dropLowest 8 = .ok (.aload_n 0, 1) := by decide +kernel
theorem dX4_dropLowest_9 : decode cX4_dropLowest 9 = .ok (.getfield 9, 3) := by decide +kernel
theorem dX4_dropLowest_12 : decode cX4_dropLowest 12 = .ok (.iload_n 1, 1) := by decide +kernel
theorem dX4_dropLowest_13 : decode cX4_dropLowest 13 = .ok (.iconst 1, 1) := by decide +kernel
theorem dX4_dropLowest_14 : decode cX4_dropLowest 14 = .ok (.isub, 1) := by decide +kernel
theorem dX4_dropLowest_15 : decode cX4_dropLowest 15 = .ok (.aload_n 0, 1) := by decide +kernel
theorem dX4_dropLowest_16 : decode cX4_dropLowest 16 = .ok (.getfield 9, 3) := by decide +kernel
theorem dX4_dropLowest_19 : decode cX4_dropLowest 19 = .ok (.iload_n 1, 1) := by decide +kernel
theorem dX4_dropLowest_20 : decode cX4_dropLowest 20 = .ok (.iaload, 1) := by decide +kernel
theorem dX4_dropLowest_21 : decode cX4_dropLowest 21 = .ok (.iastore, 1) := by decide +kernel
theorem dX4_dropLowest_22 : decode cX4_dropLowest 22 = .ok (.aload_n 0, 1) := by decide +kernel
theorem dX4_dropLowest_23 : decode cX4_dropLowest 23 = .ok (.getfield 15, 3) := by decide +kernel
theorem dX4_dropLowest_26 : decode cX4_dropLowest 26 = .ok (.iload_n 1, 1) := by decide +kernel
theorem dX4_dropLowest_27 : decode cX4_dropLowest 27 = .ok (.iconst 1, 1) := by decide +kernel
theorem dX4_dropLowest_28 : decode cX4_dropLowest 28 = .ok (.isub, 1) := by decide +kernel
theorem dX4_dropLowest_29 : decode cX4_dropLowest 29 = .ok (.aload_n 0, 1) := by decide +kernel
theorem dX4_dropLowest_30 : decode cX4_dropLowest 30 = .ok (.getfield 15, 3) := by decide +kernel
theorem dX4_dropLowest_33 : decode cX4_dropLowest 33 = .ok (.iload_n 1, 1) := by decide +kernel
theorem dX4_dropLowest_34 : decode cX4_dropLowest 34 = .ok (.iaload, 1) := by decide +kernel
theorem dX4_dropLowest_35 : decode cX4_dropLowest 35 = .ok (.iastore, 1) := by decide +kernel
theorem dX4_dropLowest_36 : decode cX4_dropLowest 36 = .ok (.aload_n 0, 1) := by decide +kernel
theorem dX4_dropLowest_37 : decode cX4_dropLowest 37 = .ok (.getfield 18, 3) := by decide +kernel
theorem dX4_dropLowest_40 : decode cX4_dropLowest 40 = .ok (.iload_n 1, 1) := by decide +kernel
theorem dX4_dropLowest_41 : decode cX4_dropLowest 41 = .ok (.iconst 1, 1) := by decide +kernel
theorem dX4_dropLowest_42 : decode cX4_dropLowest 42 = .ok (.isub, 1) := by decide +kernel
theorem dX4_dropLowest_43 : decode cX4_dropLowest 43 = .ok (.aload_n 0, 1) := by decide +kernel
theorem dX4_dropLowest_44 : decode cX4_dropLowest 44 = .ok (.getfield 18, 3) := by decide +kernel
theorem dX4_dropLowest_47 : decode cX4_dropLowest 47 = .ok (.iload_n 1, 1) := by decide +kernel
theorem dX4_dropLowest_48 : decode cX4_dropLowest 48 = .ok (.iaload, 1) := by decide +kernel
theorem dX4_dropLowest_49 : decode cX4_dropLowest 49 = .ok (.iastore, 1) := by decide +kernel
theorem dX4_dropLowest_50 : decode cX4_dropLowest 50 = .ok (.iinc 1 1, 3) := by decide +kernel
theorem dX4_dropLowest_53 : decode cX4_dropLowest 53 = .ok (.goto (-51), 3) := by decide +kernel
theorem dX4_dropLowest_56 : decode cX4_dropLowest 56 = .ok (.aload_n 0, 1) := by decide +kernel
theorem dX4_dropLowest_57 : decode cX4_dropLowest 57 = .ok (.bipush 7, 2) := by decide +kernel
theorem dX4_dropLowest_59 : decode cX4_dropLowest 59 = .ok (.putfield 21, 3) := by decide +kernel
theorem dX4_dropLowest_62 : decode cX4_dropLowest 62 = .ok (.return_, 1) := by decide +kernel
theorem dX4_pop_0 : decode cX4_pop 0 = .ok (.aload_n 0, 1) := by decide +kernel
theorem dX4_pop_1 : decode cX4_pop 1 = .ok (.getfield 21, 3) := by decide +kernel
theorem dX4_pop_4 : decode cX4_pop 4 = .ok (.ifCond .le 52, 3) := by decide +kernel
theorem dX4_pop_7 : decode cX4_pop 7 = .ok (.aload_n 0, 1) := by decide +kernel
theorem dX4_pop_8 : decode cX4_pop 8 = .ok (.dup, 1) := by decide +kernel
theorem dX4_pop_9 : decode cX4_pop 9 = .ok (.getfield 21, 3) := by decide +kernel
theorem dX4_pop_12 : decode cX4_pop 12 = .ok (.iconst 1, 1) := by decide +kernel
theorem dX4_pop_13 : decode cX4_pop 13 = .ok (.isub, 1) := by decide +kernel
theorem dX4_pop_14 : decode cX4_pop 14 = .ok (.putfield 21, 3) := by decide +kernel
theorem dX4_pop_17 : decode cX4_pop 17 = .ok (.aload_n 1, 1) := by decide +kernel
theorem dX4_pop_18 : decode cX4_pop 18 = .ok (.aload_n 0, 1) := by decide +kernel
theorem dX4_pop_19 : decode cX4_pop 19 = .ok (.getfield 9, 3) := by decide +kernel
theorem dX4_pop_22 : decode cX4_pop 22 = .ok (.aload_n 0, 1) := by decide +kernel
theorem dX4_pop_23 : decode cX4_pop 23 = .ok (.getfield 21, 3) := by decide +kernel
theorem dX4_pop_26 : decode cX4_pop 26 = .ok (.iaload, 1) := by decide +kernel
theorem dX4_pop_27 : decode cX4_pop 27 = .ok (.putfield 28, 3) := by decide +kernel
theorem dX4_pop_30 : decode cX4_pop 30 = .ok (.aload_n 1, 1) := by decide +kernel
theorem dX4_pop_31 : decode cX4_pop 31 = .ok (.aload_n 0, 1) := by decide +kernel
theorem dX4_pop_32 : decode cX4_pop 32 = .ok (.getfield 15, 3) := by decide +kernel
theorem dX4_pop_35 : decode cX4_pop 35 = .ok (.aload_n 0, 1) := by decide +kernel
theorem dX4_pop_36 : decode cX4_pop 36 = .ok (.getfield 21, 3) := by decide +kernel
theorem dX4_pop_39 : decode cX4_pop 39 = .ok (.iaload, 1) := by decide +kernel
theorem dX4_pop_40 : decode cX4_pop 40 = .ok (.putfield 33, 3) := by decide +kernel
theorem dX4_pop_43 : decode cX4_pop 43 = .ok (.aload_n 1, 1) := by decide +kernel
theorem dX4_pop_44 : decode cX4_pop 44 = .ok (.aload_n 0, 1) := by decide +kernel
theorem dX4_pop_45 : decode cX4_pop 45 = .ok (.getfield 18, 3) := by decide +kernel
theorem dX4_pop_48 : decode cX4_pop 48 = .ok (.aload_n 0, 1) := by decide +kernel
theorem dX4_pop_49 : decode cX4_pop 49 = .ok (.getfield 21, 3) := by decide +kernel
theorem dX4_pop_52 : decode cX4_pop 52 = .ok (.iaload, 1) := by decide +kernel
theorem dX4_pop_53 : decode cX4_pop 53 = .ok (.putfield 36, 3) := by decide +kernel
theorem dX4_pop_56 : decode cX4_pop 56 = .ok (.return_, 1) := by decide +kernel
theorem dX5_init_0 : decode cX5_init 0 = .ok (.aload_n 0, 1) := by decide +kernel
theorem dX5_init_1 : decode cX5_init 1 = .ok (.invokespecial 3, 3) := by decide +kernel
theorem dX5_init_4 : decode cX5_init 4 = .ok (.aload_n 0, 1) := by decide +kernel
theorem dX5_init_5 : decode cX5_init 5 = .ok (.aload_n 1, 1) := by decide +kernel
theorem dX5_init_6 : decode cX5_init 6 = .ok (.putfield 9, 3) := by decide +kernel
theorem dX5_init_9 : decode cX5_init 9 = .ok (.return_, 1) := by decide +kernel
theorem dX5_readInto_0 : decode cX5_readInto 0 = .ok (.aload_n 1, 1) := by decide +kernel
theorem dX5_readInto_1 : decode cX5_readInto 1 = .ok (.invokevirtual 15, 3) := by decide +kernel
theorem dX5_readInto_4 : decode cX5_readInto 4 = .ok (.aload_n 0, 1) := by decide +kernel
theorem dX5_readInto_5 : decode cX5_readInto 5 = .ok (.iconst 0, 1) := by decide +kernel
theorem dX5_readInto_6 : decode cX5_readInto 6 = .ok (.putfield 20, 3) := by decide +kernel
theorem dX5_readInto_9 : decode cX5_readInto 9 = .ok (.iconst 0, 1) := by decide +kernel
theorem dX5_readInto_10 : decode cX5_readInto 10 = .ok (.istore_n 2, 1) := by decide +kernel
theorem dX5_readInto_11 : decode cX5_readInto 11 = .ok (.iload_n 2, 1) := by decide +kernel
theorem dX5_readInto_12 : decode cX5_readInto 12 = .ok (.sipush 300, 3) := by decide +kernel
theorem dX5_readInto_15 : decode cX5_readInto 15 = .ok (.if_icmp .ge 38, 3) := by decide +kernel
theorem dX5_readInto_18 : decode cX5_readInto 18 = .ok (.aload_n 0, 1) := by decide +kernel
theorem dX5_readInto_19 : decode cX5_readInto 19 = .ok (.getfield 20, 3) := by decide +kernel
theorem dX5_readInto_22 : decode cX5_readInto 22 = .ok (.aload_n 0, 1) := by decide +kernel
theorem dX5_readInto_23 : decode cX5_readInto 23 = .ok (.getfield 9, 3) := by decide +kernel
theorem dX5_readInto_26 : decode cX5_readInto 26 = .ok (.invokevirtual 24, 3) := by decide +kernel
theorem dX5_readInto_29 : decode cX5_readInto 29 = .ok (.if_icmp .ge 24, 3) := by decide +kernel
theorem dX5_readInto_32 : decode cX5_readInto 32 = .ok (.aload_n 0, 1) := by decide +kernel
theorem dX5_readInto_33 : decode cX5_readInto 33 = .ok (.getfield 20, 3) := by decide +kernel
theorem dX5_readInto_36 : decode cX5_readInto 36 = .ok (.istore_n 3, 1) := by decide +kernel
theorem dX5_readInto_37 : decode cX5_readInto 37 = .ok (.aload_n 0, 1) := by decide +kernel
theorem dX5_readInto_38 : decode cX5_readInto 38 = .ok (.aload_n 1, 1) := by decide +kernel
theorem dX5_readInto_39 : decode cX5_readInto 39 = .ok (.invokevirtual 30, 3) := by decide +kernel
theorem dX5_readInto_42 : decode cX5_readInto 42 = .ok (.ifCond .ne 5, 3) := by decide +kernel
theorem dX5_readInto_45 : decode cX5_readInto 45 = .ok (.iload_n 3, 1) := by decide +kernel
theorem dX5_readInto_46 : decode cX5_readInto 46 = .ok (.ireturn, 1) := by decide +kernel
theorem dX5_readInto_47 : decode cX5_readInto 47 = .ok (.iinc 2 1, 3) := by decide +kernel
theorem dX5_readInto_50 : decode cX5_readInto 50 = .ok (.goto (-39), 3) := by decide +kernel
theorem dX5_readInto_53 : decode cX5_readInto 53 = .ok (.bipush (-4), 2) := by decide +kernel
theorem dX5_readInto_55 : decode cX5_readInto 55 = .ok (.ireturn, 1) := by decide +kernel
theorem dX5_readItem_0 : decode cX5_readItem 0 = .ok (.aload_n 0, 1) := by decide +kernel
theorem dX5_readItem_1 : decode cX5_readItem 1 = .ok (.getfield 9, 3) := by decide +kernel
theorem dX5_readItem_4 : decode cX5_readItem 4 = .ok (.aload_n 0, 1) := by decide +kernel
theorem dX5_readItem_5 : decode cX5_readItem 5 = .ok (.getfield 20, 3) := by decide +kernel
theorem dX5_readItem_8 : decode cX5_readItem 8 = .ok (.invokevirtual 34, 3) := by decide +kernel
theorem dX5_readItem_11 : decode cX5_readItem 11 = .ok (.istore_n 2, 1) := by decide +kernel
theorem dX5_readItem_12 : decode cX5_readItem 12 = .ok (.aload_n 0, 1) := by decide +kernel
theorem dX5_readItem_13 : decode cX5_readItem 13 = .ok (.dup, 1) := by decide +kernel
theorem dX5_readItem_14 : decode cX5_readItem 14 = .ok (.getfield 20, 3) := by decide +kernel
theorem dX5_readItem_17 : decode cX5_readItem 17 = .ok (.iconst 1, 1) := by decide +kernel
theorem dX5_readItem_18 : decode cX5_readItem 18 = .ok (.iadd, 1) := by decide +kernel
theorem dX5_readItem_19 : decode cX5_readItem 19 = .ok (.putfield 20, 3) := by decide +kernel
theorem dX5_readItem_22 : decode cX5_readItem 22 = .ok (.iload_n 2, 1) := by decide +kernel
theorem dX5_readItem_23 : decode cX5_readItem 23 = .ok (.bipush 108, 2) := by decide +kernel
theorem dX5_readItem_25 : decode cX5_readItem 25 = .ok (.if_icmp .ne 9, 3) := by decide +kernel
theorem dX5_readItem_28 : decode cX5_readItem 28 = .ok (.aload_n 0, 1) := by decide +kernel
theorem dX5_readItem_29 : decode cX5_readItem 29 = .ok (.aload_n 1, 1) := by decide +kernel
theorem dX5_readItem_30 : decode cX5_readItem 30 = .ok (.invokevirtual 38, 3) := by decide +kernel
theorem dX5_readItem_33 : decode cX5_readItem 33 = .ok (.ireturn, 1) := by decide +kernel
theorem dX5_readItem_34 : decode cX5_readItem 34 = .ok (.iload_n 2, 1) := by decide +kernel
theorem dX5_readItem_35 : decode cX5_readItem 35 = .ok (.bipush 119, 2) := by decide +kernel
theorem dX5_readItem_37 : decode cX5_readItem 37 = .ok (.if_icmp .ne 9, 3) := by decide +kernel
theorem dX5_readItem_40 : decode cX5_readItem 40 = .ok (.aload_n 0, 1) := by decide +kernel
theorem dX5_readItem_41 : decode cX5_readItem 41 = .ok (.aload_n 1, 1) := by decide +kernel
theorem dX5_readItem_42 : decode cX5_readItem 42 = .ok (.invokevirtual 41, 3) := by decide +kernel
theorem dX5_readItem_45 : decode cX5_readItem 45 = .ok (.ireturn, 1) := by decide +kernel
theorem dX5_readItem_46 : decode cX5_readItem 46 = .ok (.aload_n 0, 1) := by decide +kernel
theorem dX5_readItem_47 : decode cX5_readItem 47 = .ok (.invokevirtual 44, 3) := by decide +kernel
theorem dX5_readItem_50 : decode cX5_readItem 50 = .ok (.istore_n 3, 1) := by decide +kernel
theorem dX5_readItem_51 : decode cX5_readItem 51 = .ok (.iload_n 3, 1) := by decide +kernel
theorem dX5_readItem_52 : decode cX5_readItem 52 = .ok (.ifCond .lt 12, 3) := by decide +kernel
theorem dX5_readItem_55 : decode cX5_readItem 55 = .ok (.aload_n 0, 1) := by decide +kernel
theorem dX5_readItem_56 : decode cX5_readItem 56 = .ok (.bipush 59, 2) := by decide +kernel
theorem dX5_readItem_58 : decode cX5_readItem 58 = .ok (.invokevirtual 47, 3) := by decide +kernel
theorem dX5_readItem_61 : decode cX5_readItem 61 = .ok (.ifCond .ne 5, 3) := by decide +kernel
theorem dX5_readItem_64 : decode cX5_readItem 64 = .ok (.iconst 0, 1) := by decide +kernel
theorem dX5_readItem_65 : decode cX5_readItem 65 = .ok (.ireturn, 1) := by decide +kernel
theorem dX5_readItem_66 : decode cX5_readItem 66 = .ok (.iload_n 2, 1) := by decide +kernel
theorem dX5_readItem_67 : decode cX5_readItem 67 = .ok (.lookupswitch 65 #[(99, 59), (102, 53), (112, 47), (121, 41)], 41) := by decide +kernel
theorem dX5_readItem_108 : decode cX5_readItem 108 = .ok (.aload_n 1, 1) := by decide +kernel
theorem dX5_readItem_109 : decode cX5_readItem 109 = .ok (.iload_n 3, 1) := by decide +kernel
theorem dX5_readItem_110 : decode cX5_readItem 110 = .ok (.invokevirtual 51, 3) := by decide +kernel
theorem dX5_readItem_113 : decode cX5_readItem 113 = .ok (.ireturn, 1) := by decide +kernel
theorem dX5_readItem_114 : decode cX5_readItem 114 = .ok (.aload_n 1, 1) := by decide +kernel
theorem dX5_readItem_115 : decode cX5_readItem 115 = .ok (.iload_n 3, 1) := by decide +kernel
theorem dX5_readItem_116 : decode cX5_readItem 116 = .ok (.invokevirtual 54, 3) := by decide +kernel
theorem dX5_readItem_119 : decode cX5_readItem 119 = .ok (.ireturn, 1) := by decide +kernel
theorem dX5_readItem_120 : decode cX5_readItem 120 = .ok (.aload_n 1, 1) := by decide +kernel
theorem dX5_readItem_121 : decode cX5_readItem 121 = .ok (.iload_n 3, 1) := by decide +kernel
theorem dX5_readItem_122 : decode cX5_readItem 122 = .ok (.invokevirtual 57, 3) := by decide +kernel
theorem dX5_readItem_125 : decode cX5_readItem 125 = .ok (.ireturn, 1) := by decide +kernel
theorem dX5_readItem_126 : decode cX5_readItem 126 = .ok (.aload_n 1, 1) := by decide +kernel
theorem dX5_readItem_127 : decode cX5_readItem 127 = .ok (.iload_n 3, 1) := by decide +kernel
theorem dX5_readItem_128 : decode cX5_readItem 128 = .ok (.invokevirtual 60, 3) := by decide +kernel
theorem dX5_readItem_131 : decode cX5_readItem 131 = .ok (.ireturn, 1) := by decide +kernel
theorem dX5_readItem_132 : decode cX5_readItem 132 = .ok (.iconst 0, 1) := by decide +kernel
theorem dX5_readItem_133 : decode cX5_readItem 133 = .ok (.ireturn, 1) := by decide +kernel
theorem dX5_readLane_0 : decode cX5_readLane 0 = .ok (.aload_n 0, 1) := by decide +kernel
theorem dX5_readLane_1 : decode cX5_readLane 1 = .ok (.invokevirtual 44, 3) := by decide +kernel
theorem dX5_readLane_4 : decode cX5_readLane 4 = .ok (.istore_n 2, 1) := by decide +kernel
theorem dX5_readLane_5 : decode cX5_readLane 5 = .ok (.iload_n 2, 1) := by decide +kernel
theorem dX5_readLane_6 : decode cX5_readLane 6 = .ok (.ifCond .lt 12, 3) := by decide +kernel
theorem dX5_readLane_9 : decode cX5_readLane 9 = .ok (.aload_n 0, 1) := by decide +kernel
theorem dX5_readLane_10 : decode cX5_readLane 10 = .ok (.bipush 44, 2) := by decide +kernel
theorem dX5_readLane_12 : decode cX5_readLane 12 = .ok (.invokevirtual 47, 3) := by decide +kernel
theorem dX5_readLane_15 : decode cX5_readLane 15 = .ok (.ifCond .ne 5, 3) := by decide +kernel
theorem dX5_readLane_18 : decode cX5_readLane 18 = .ok (.iconst 0, 1) := by decide +kernel
theorem dX5_readLane_19 : decode cX5_readLane 19 = .ok (.ireturn, 1) := by decide +kernel
theorem dX5_readLane_20 : decode cX5_readLane 20 = .ok (.aload_n 0, 1) := by decide +kernel
theorem dX5_readLane_21 : decode cX5_readLane 21 = .ok (.invokevirtual 44, 3) := by decide +kernel
theorem dX5_readLane_24 : decode cX5_readLane 24 = .ok (.istore_n 3, 1) := by decide +kernel
theorem dX5_readLane_25 : decode cX5_readLane 25 = .ok (.iload_n 3, 1) := by decide +kernel
theorem dX5_readLane_26 : decode cX5_readLane 26 = .ok (.ifCond .lt 25, 3) := by decide +kernel
theorem dX5_readLane_29 : decode cX5_readLane 29 = .ok (.aload_n 0, 1) := by decide +kernel
theorem dX5_readLane_30 : decode cX5_readLane 30 = .ok (.bipush 59, 2) := by decide +kernel
theorem dX5_readLane_32 : decode cX5_readLane 32 = .ok (.invokevirtual 47, 3) := by decide +kernel
theorem dX5_readLane_35 : decode cX5_readLane 35 = .ok (.ifCond .eq 16, 3) := by decide +kernel
theorem dX5_readLane_38 : decode cX5_readLane 38 = .ok (.aload_n 1, 1) := by decide +kernel
theorem dX5_readLane_39 : decode cX5_readLane 39 = .ok (.iload_n 2, 1) := by decide +kernel
theorem dX5_readLane_40 : decode cX5_readLane 40 = .ok (.iload_n 3, 1) := by decide +kernel
theorem dX5_readLane_41 : decode cX5_readLane 41 = .ok (.invokevirtual 63, 3) := by decide +kernel
theorem dX5_readLane_44 : decode cX5_readLane 44 = .ok (.ifCond .eq 7, 3) := by decide +kernel
theorem dX5_readLane_47 : decode cX5_readLane 47 = .ok (.iconst 1, 1) := by decide +kernel
theorem dX5_readLane_48 : decode cX5_readLane 48 = .ok (.goto 4, 3) := by decide +kernel
theorem dX5_readLane_51 : decode cX5_readLane 51 = .ok (.iconst 0, 1) := by decide +kernel
theorem dX5_readLane_52 : decode cX5_readLane 52 = .ok (.ireturn, 1) := by decide +kernel
theorem dX5_readWay_0 : decode cX5_readWay 0 = .ok (.aload_n 1, 1) := by decide +kernel
theorem dX5_readWay_1 : decode cX5_readWay 1 = .ok (.invokevirtual 67, 3) := by decide +kernel
theorem dX5_readWay_4 : decode cX5_readWay 4 = .ok (.ifCond .ne 5, 3) := by decide +kernel
theorem dX5_readWay_7 : decode cX5_readWay 7 = .ok (.iconst 0, 1) := by decide +kernel
theorem dX5_readWay_8 : decode cX5_readWay 8 = .ok (.ireturn, 1) := by decide +kernel
theorem dX5_readWay_9 : decode cX5_readWay 9 = .ok (.iconst 0, 1) := by decide +kernel
theorem dX5_readWay_10 : decode cX5_readWay 10 = .ok (.istore_n 2, 1) := by decide +kernel
theorem dX5_readWay_11 : decode cX5_readWay 11 = .ok (.iconst 0, 1) := by decide +kernel
theorem dX5_readWay_12 : decode cX5_readWay 12 = .ok (.istore_n 3, 1) := by decide +kernel
theorem dX5_readWay_13 : decode cX5_readWay 13 = .ok (.iload_n 3, 1) := by decide +kernel
theorem dX5_readWay_14 : decode cX5_readWay 14 = .ok (.bipush 12, 2) := by decide +kernel
theorem dX5_readWay_16 : decode cX5_readWay 16 = .ok (.if_icmp .ge 59, 3) := by decide +kernel
theorem dX5_readWay_19 : decode cX5_readWay 19 = .ok (.aload_n 0, 1) := by decide +kernel
theorem dX5_readWay_20 : decode cX5_readWay 20 = .ok (.getfield 9, 3) := by decide +kernel
theorem dX5_readWay_23 : decode cX5_readWay 23 = .ok (.aload_n 0, 1) := by decide +kernel
theorem dX5_readWay_24 : decode cX5_readWay 24 = .ok (.getfield 20, 3) := by decide +kernel
theorem dX5_readWay_27 : decode cX5_readWay 27 = .ok (.invokevirtual 34, 3) := by decide +kernel
theorem dX5_readWay_30 : decode cX5_readWay 30 = .ok (.bipush 48, 2) := by decide +kernel
theorem dX5_readWay_32 : decode cX5_readWay 32 = .ok (.isub, 1) := by decide +kernel
theorem dX5_readWay_33 : decode cX5_readWay 33 = .ok (.istore 4, 2) := by decide +kernel
theorem dX5_readWay_35 : decode cX5_readWay 35 = .ok (.iload 4, 2) := by decide +kernel
theorem dX5_readWay_37 : decode cX5_readWay 37 = .ok (.ifCond .lt 38, 3) := by decide +kernel
theorem dX5_readWay_40 : decode cX5_readWay 40 = .ok (.iload 4, 2) := by decide +kernel
theorem dX5_readWay_42 : decode cX5_readWay 42 = .ok (.bipush 8, 2) := by decide +kernel
theorem dX5_readWay_44 : decode cX5_readWay 44 = .ok (.if_icmp .lt 6, 3) := by decide +kernel
theorem dX5_readWay_47 : decode cX5_readWay 47 = .ok (.goto 28, 3) := by decide +kernel
theorem dX5_readWay_50 : decode cX5_readWay 50 = .ok (.aload_n 1, 1) := by decide +kernel
theorem dX5_readWay_51 : decode cX5_readWay 51 = .ok (.iload 4, 2) := by decide +kernel
theorem dX5_readWay_53 : decode cX5_readWay 53 = .ok (.invokevirtual 71, 3) := by decide +kernel
theorem dX5_readWay_56 : decode cX5_readWay 56 = .ok (.iinc 2 1, 3) := by decide +kernel
theorem dX5_readWay_59 : decode cX5_readWay 59 = .ok (.aload_n 0, 1) := by decide +kernel
theorem dX5_readWay_60 : decode cX5_readWay 60 = .ok (.dup, 1) := by decide +kernel
theorem dX5_readWay_61 : decode cX5_readWay 61 = .ok (.getfield 20, 3) := by decide +kernel
theorem dX5_readWay_64 : decode cX5_readWay 64 = .ok (.iconst 1, 1) := by decide +kernel
theorem dX5_readWay_65 : decode cX5_readWay 65 = .ok (.iadd, 1) := by decide +kernel
theorem dX5_readWay_66 : decode cX5_readWay 66 = .ok (.putfield 20, 3) := by decide +kernel
theorem dX5_readWay_69 : decode cX5_readWay 69 = .ok (.iinc 3 1, 3) := by decide +kernel
theorem dX5_readWay_72 : decode cX5_readWay 72 = .ok (.goto (-59), 3) := by decide +kernel
theorem dX5_readWay_75 : decode cX5_readWay 75 = .ok (.iload_n 2, 1) := by decide +kernel
theorem dX5_readWay_76 : decode cX5_readWay 76 = .ok (.ifCond .le 16, 3) := by decide +kernel
theorem dX5_readWay_79 : decode cX5_readWay 79 = .ok (.aload_n 0, 1) := by decide +kernel
theorem dX5_readWay_80 : decode cX5_readWay 80 = .ok (.bipush 59, 2) := by decide +kernel
theorem dX5_readWay_82 : decode cX5_readWay 82 = .ok (.invokevirtual 47, 3) := by decide +kernel
theorem dX5_readWay_85 : decode cX5_readWay 85 = .ok (.ifCond .eq 7, 3) := by decide +kernel
theorem dX5_readWay_88 : decode cX5_readWay 88 = .ok (.iconst 1, 1) := by decide +kernel
theorem dX5_readWay_89 : decode cX5_readWay 89 = .ok (.goto 4, 3) := by decide +kernel
theorem dX5_readWay_92 : decode cX5_readWay 92 = .ok (.iconst 0, 1) := by decide +kernel
theorem dX5_readWay_93 : decode cX5_readWay 93 = .ok (.ireturn, 1) := by decide +kernel
theorem dX5_readNumber_0 : decode cX5_readNumber 0 = .ok (.aload_n 0, 1) := by decide +kernel
theorem dX5_readNumber_1 : decode cX5_readNumber 1 = .ok (.invokevirtual 75, 3) := by decide +kernel
theorem dX5_readNumber_4 : decode cX5_readNumber 4 = .ok (.istore_n 1, 1) := by decide +kernel
theorem dX5_readNumber_5 : decode cX5_readNumber 5 = .ok (.iload_n 1, 1) := by decide +kernel
theorem dX5_readNumber_6 : decode cX5_readNumber 6 = .ok (.ifCond .ge 5, 3) := by decide +kernel
theorem dX5_readNumber_9 : decode cX5_readNumber 9 = .ok (.iconst (-1), 1) := by decide +kernel
theorem dX5_readNumber_10 : decode cX5_readNumber 10 = .ok (.ireturn, 1) := by decide +kernel
theorem dX5_readNumber_11 : decode cX5_readNumber 11 = .ok (.aload_n 0, 1) := by decide +kernel
theorem dX5_readNumber_12 : decode cX5_readNumber 12 = .ok (.dup, 1) := by decide +kernel
theorem dX5_readNumber_13 : decode cX5_readNumber 13 = .ok (.getfield 20, 3) := by decide +kernel
theorem dX5_readNumber_16 : decode cX5_readNumber 16 = .ok (.iconst 1, 1) := by decide +kernel
theorem dX5_readNumber_17 : decode cX5_readNumber 17 = .ok (.iadd, 1) := by decide +kernel
theorem dX5_readNumber_18 : decode cX5_readNumber 18 = .ok (.putfield 20, 3) := by decide +kernel
theorem dX5_readNumber_21 : decode cX5_readNumber 21 = .ok (.aload_n 0, 1) := by decide +kernel
theorem dX5_readNumber_22 : decode cX5_readNumber 22 = .ok (.invokevirtual 75, 3) := by decide +kernel
theorem dX5_readNumber_25 : decode cX5_readNumber 25 = .ok (.istore_n 2, 1) := by decide +kernel
theorem dX5_readNumber_26 : decode cX5_readNumber 26 = .ok (.iload_n 2, 1) := by decide +kernel
theorem dX5_readNumber_27 : decode cX5_readNumber 27 = .ok (.ifCond .ge 5, 3) := by decide +kernel
theorem dX5_readNumber_30 : decode cX5_readNumber 30 = .ok (.iload_n 1, 1) := by decide +kernel
theorem dX5_readNumber_31 : decode cX5_readNumber 31 = .ok (.ireturn, 1) := by decide +kernel
theorem dX5_readNumber_32 : decode cX5_readNumber 32 = .ok (.aload_n 0, 1) := by decide +kernel
theorem dX5_readNumber_33 : decode cX5_readNumber 33 = .ok (.dup, 1) := by decide +kernel
theorem dX5_readNumber_34 : decode cX5_readNumber 34 = .ok (.getfield 20, 3) := by decide +kernel
theorem dX5_readNumber_37 : decode cX5_readNumber 37 = .ok (.iconst 1, 1) := by decide +kernel
theorem dX5_readNumber_38 : decode cX5_readNumber 38 = .ok (.iadd, 1) := by decide +kernel
theorem dX5_readNumber_39 : decode cX5_readNumber 39 = .ok (.putfield 20, 3) := by decide +kernel
theorem dX5_readNumber_42 : decode cX5_readNumber 42 = .ok (.iload_n 1, 1) := by decide +kernel
theorem dX5_readNumber_43 : decode cX5_readNumber 43 = .ok (.bipush 10, 2) := by decide +kernel
theorem dX5_readNumber_45 : decode cX5_readNumber 45 = .ok (.imul, 1) := by decide +kernel
theorem dX5_readNumber_46 : decode cX5_readNumber 46 = .ok (.iload_n 2, 1) := by decide +kernel
theorem dX5_readNumber_47 : decode cX5_readNumber 47 = .ok (.iadd, 1) := by decide +kernel
theorem dX5_readNumber_48 : decode cX5_readNumber 48 = .ok (.ireturn, 1) := by decide +kernel
theorem dX5_figureHere_0 : decode cX5_figureHere 0 = .ok (.aload_n 0, 1) := by decide +kernel
theorem dX5_figureHere_1 : decode cX5_figureHere 1 = .ok (.getfield 9, 3) := by decide +kernel
theorem dX5_figureHere_4 : decode cX5_figureHere 4 = .ok (.aload_n 0, 1) := by decide +kernel
theorem dX5_figureHere_5 : decode cX5_figureHere 5 = .ok (.getfield 20, 3) := by decide +kernel
theorem dX5_figureHere_8 : decode cX5_figureHere 8 = .ok (.invokevirtual 34, 3) := by decide +kernel
theorem dX5_figureHere_11 : decode cX5_figureHere 11 = .ok (.istore_n 1, 1) := by decide +kernel
theorem dX5_figureHere_12 : decode cX5_figureHere 12 = .ok (.iload_n 1, 1) := by decide +kernel
theorem dX5_figureHere_13 : decode cX5_figureHere 13 = .ok (.bipush 48, 2) := by decide +kernel
theorem dX5_figureHere_15 : decode cX5_figureHere 15 = .ok (.if_icmp .lt 16, 3) := by decide +kernel
theorem dX5_figureHere_18 : decode cX5_figureHere 18 = .ok (.iload_n 1, 1) := by decide +kernel
theorem dX5_figureHere_19 : decode cX5_figureHere 19 = .ok (.bipush 57, 2) := by decide +kernel
theorem dX5_figureHere_21 : decode cX5_figureHere 21 = .ok (.if_icmp .gt 10, 3) := by decide +kernel
theorem dX5_figureHere_24 : decode cX5_figureHere 24 = .ok (.iload_n 1, 1) := by decide +kernel
theorem dX5_figureHere_25 : decode cX5_figureHere 25 = .ok (.bipush 48, 2) := by decide +kernel
theorem dX5_figureHere_27 : decode cX5_figureHere 27 = .ok (.isub, 1) := by decide +kernel
theorem dX5_figureHere_28 : decode cX5_figureHere 28 = .ok (.goto 4, 3) := by decide +kernel
theorem dX5_figureHere_31 : decode cX5_figureHere 31 = .ok (.iconst (-1), 1) := by decide +kernel
theorem dX5_figureHere_32 : decode cX5_figureHere 32 = .ok (.ireturn, 1) := by decide +kernel
theorem dX5_takes_0 : decode cX5_takes 0 = .ok (.aload_n 0, 1) := by decide +kernel
theorem dX5_takes_1 : decode cX5_takes 1 = .ok (.getfield 9, 3) := by decide +kernel
theorem dX5_takes_4 : decode cX5_takes 4 = .ok (.aload_n 0, 1) := by decide +kernel
theorem dX5_takes_5 : decode cX5_takes 5 = .ok (.getfield 20, 3) := by decide +kernel
theorem dX5_takes_8 : decode cX5_takes 8 = .ok (.invokevirtual 34, 3) := by decide +kernel
theorem dX5_takes_11 : decode cX5_takes 11 = .ok (.iload_n 1, 1) := by decide +kernel
theorem dX5_takes_12 : decode cX5_takes 12 = .ok (.if_icmp .eq 5, 3) := by decide +kernel
theorem dX5_takes_15 : decode cX5_takes 15 = .ok (.iconst 0, 1) := by decide +kernel
theorem dX5_takes_16 : decode cX5_takes 16 = .ok (.ireturn, 1) := by decide +kernel
theorem dX5_takes_17 : decode cX5_takes 17 = .ok (.aload_n 0, 1) := by decide +kernel
theorem dX5_takes_18 : decode cX5_takes 18 = .ok (.dup, 1) := by decide +kernel
theorem dX5_takes_19 : decode cX5_takes 19 = .ok (.getfield 20, 3) := by decide +kernel
theorem dX5_takes_22 : decode cX5_takes 22 = .ok (.iconst 1, 1) := by decide +kernel
theorem dX5_takes_23 : decode cX5_takes 23 = .ok (.iadd, 1) := by decide +kernel
theorem dX5_takes_24 : decode cX5_takes 24 = .ok (.putfield 20, 3) := by decide +kernel
theorem dX5_takes_27 : decode cX5_takes 27 = .ok (.iconst 1, 1) := by decide +kernel
theorem dX5_takes_28 : decode cX5_takes 28 = .ok (.ireturn, 1) := by decide +kernel
theorem dX6_init_0 : decode cX6_init 0 = .ok (.aload_n 0, 1) := by decide +kernel
theorem dX6_init_1 : decode cX6_init 1 = .ok (.invokespecial 3, 3) := by decide +kernel
theorem dX6_init_4 : decode cX6_init 4 = .ok (.aload_n 0, 1) := by decide +kernel
theorem dX6_init_5 : decode cX6_init 5 = .ok (.sipush 390, 3) := by decide +kernel
theorem dX6_init_8 : decode cX6_init 8 = .ok (.newarray .int, 2) := by decide +kernel
theorem dX6_init_10 : decode cX6_init 10 = .ok (.putfield 11, 3) := by decide +kernel
theorem dX6_init_13 : decode cX6_init 13 = .ok (.return_, 1) := by decide +kernel
theorem dX6_clear_0 : decode cX6_clear 0 = .ok (.aload_n 0, 1) := by decide +kernel
theorem dX6_clear_1 : decode cX6_clear 1 = .ok (.getfield 11, 3) := by decide +kernel
theorem dX6_clear_4 : decode cX6_clear 4 = .ok (.iconst 0, 1) := by decide +kernel
theorem dX6_clear_5 : decode cX6_clear 5 = .ok (.invokestatic 15, 3) := by decide +kernel
theorem dX6_clear_8 : decode cX6_clear 8 = .ok (.return_, 1) := by decide +kernel
theorem dX6_has_0 : decode cX6_has 0 = .ok (.iload_n 1, 1) := by decide +kernel
theorem dX6_has_1 : decode cX6_has 1 = .ok (.iload_n 2, 1) := by decide +kernel
theorem dX6_has_2 : decode cX6_has 2 = .ok (.invokestatic 21, 3) := by decide +kernel
theorem dX6_has_5 : decode cX6_has 5 = .ok (.ifCond .eq 31, 3) := by decide +kernel
theorem dX6_has_8 : decode cX6_has 8 = .ok (.aload_n 0, 1) := by decide +kernel
theorem dX6_has_9 : decode cX6_has 9 = .ok (.getfield 11, 3) := by decide +kernel
theorem dX6_has_12 : decode cX6_has 12 = .ok (.iload_n 1, 1) := by decide +kernel
theorem dX6_has_13 : decode cX6_has 13 = .ok (.bipush 30, 2) := by decide +kernel
theorem dX6_has_15 : decode cX6_has 15 = .ok (.imul, 1) := by decide +kernel
theorem dX6_has_16 : decode cX6_has 16 = .ok (.iload_n 2, 1) := by decide +kernel
theorem dX6_has_17 : decode cX6_has 17 = .ok (.bipush 32, 2) := by decide +kernel
theorem dX6_has_19 : decode cX6_has 19 = .ok (.idiv, 1) := by decide +kernel
theorem dX6_has_20 : decode cX6_has 20 = .ok (.iadd, 1) := by decide +kernel
theorem dX6_has_21 : decode cX6_has 21 = .ok (.iaload, 1) := by decide +kernel
theorem dX6_has_22 : decode cX6_has 22 = .ok (.iload_n 2, 1) := by decide +kernel
