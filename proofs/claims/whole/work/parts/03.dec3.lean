theorem dX11_priceTo_111 : decode cX11_priceTo 111 = .ok (.sipush 1008, 3) := by decide +kernel
theorem dX11_priceTo_114 : decode cX11_priceTo 114 = .ok (.if_icmp .ge 23, 3) := by decide +kernel
theorem dX11_priceTo_117 : decode cX11_priceTo 117 = .ok (.aload_n 0, 1) := by decide +kernel
theorem dX11_priceTo_118 : decode cX11_priceTo 118 = .ok (.getfield 35, 3) := by decide +kernel
theorem dX11_priceTo_121 : decode cX11_priceTo 121 = .ok (.iload 4, 2) := by decide +kernel
theorem dX11_priceTo_123 : decode cX11_priceTo 123 = .ok (.aload_n 0, 1) := by decide +kernel
theorem dX11_priceTo_124 : decode cX11_priceTo 124 = .ok (.getfield 38, 3) := by decide +kernel
theorem dX11_priceTo_127 : decode cX11_priceTo 127 = .ok (.iload 4, 2) := by decide +kernel
theorem dX11_priceTo_129 : decode cX11_priceTo 129 = .ok (.iaload, 1) := by decide +kernel
theorem dX11_priceTo_130 : decode cX11_priceTo 130 = .ok (.iastore, 1) := by decide +kernel
theorem dX11_priceTo_131 : decode cX11_priceTo 131 = .ok (.iinc 4 1, 3) := by decide +kernel
theorem dX11_priceTo_134 : decode cX11_priceTo 134 = .ok (.goto (-25), 3) := by decide +kernel
theorem dX11_priceTo_137 : decode cX11_priceTo 137 = .ok (.iinc 3 (-1), 3) := by decide +kernel
theorem dX11_priceTo_140 : decode cX11_priceTo 140 = .ok (.goto (-103), 3) := by decide +kernel
theorem dX11_priceTo_143 : decode cX11_priceTo 143 = .ok (.aload_n 0, 1) := by decide +kernel
theorem dX11_priceTo_144 : decode cX11_priceTo 144 = .ok (.aload_n 0, 1) := by decide +kernel
theorem dX11_priceTo_145 : decode cX11_priceTo 145 = .ok (.getfield 20, 3) := by decide +kernel
theorem dX11_priceTo_148 : decode cX11_priceTo 148 = .ok (.iconst 1, 1) := by decide +kernel
theorem dX11_priceTo_149 : decode cX11_priceTo 149 = .ok (.iaload, 1) := by decide +kernel
theorem dX11_priceTo_150 : decode cX11_priceTo 150 = .ok (.iconst 0, 1) := by decide +kernel
theorem dX11_priceTo_151 : decode cX11_priceTo 151 = .ok (.iload_n 1, 1) := by decide +kernel
theorem dX11_priceTo_152 : decode cX11_priceTo 152 = .ok (.invokevirtual 165, 3) := by decide +kernel
theorem dX11_priceTo_155 : decode cX11_priceTo 155 = .ok (.ifCond .ne 8, 3) := by decide +kernel
theorem dX11_priceTo_158 : decode cX11_priceTo 158 = .ok (.ldc 109, 2) := by decide +kernel
theorem dX11_priceTo_160 : decode cX11_priceTo 160 = .ok (.goto 22, 3) := by decide +kernel
theorem dX11_priceTo_163 : decode cX11_priceTo 163 = .ok (.iload_n 2, 1) := by decide +kernel
theorem dX11_priceTo_164 : decode cX11_priceTo 164 = .ok (.ifCond .ne 7, 3) := by decide +kernel
theorem dX11_priceTo_167 : decode cX11_priceTo 167 = .ok (.iconst 0, 1) := by decide +kernel
theorem dX11_priceTo_168 : decode cX11_priceTo 168 = .ok (.goto 14, 3) := by decide +kernel
theorem dX11_priceTo_171 : decode cX11_priceTo 171 = .ok (.aload_n 0, 1) := by decide +kernel
theorem dX11_priceTo_172 : decode cX11_priceTo 172 = .ok (.aload_n 0, 1) := by decide +kernel
theorem dX11_priceTo_173 : decode cX11_priceTo 173 = .ok (.getfield 20, 3) := by decide +kernel
theorem dX11_priceTo_176 : decode cX11_priceTo 176 = .ok (.iconst 1, 1) := by decide +kernel
theorem dX11_priceTo_177 : decode cX11_priceTo 177 = .ok (.iaload, 1) := by decide +kernel
theorem dX11_priceTo_178 : decode cX11_priceTo 178 = .ok (.iconst 0, 1) := by decide +kernel
theorem dX11_priceTo_179 : decode cX11_priceTo 179 = .ok (.invokevirtual 168, 3) := by decide +kernel
theorem dX11_priceTo_182 : decode cX11_priceTo 182 = .ok (.ireturn, 1) := by decide +kernel
theorem dX11_lastGoal_0 : decode cX11_lastGoal 0 = .ok (.iconst (-1), 1) := by decide +kernel
theorem dX11_lastGoal_1 : decode cX11_lastGoal 1 = .ok (.istore_n 1, 1) := by decide +kernel
theorem dX11_lastGoal_2 : decode cX11_lastGoal 2 = .ok (.iconst 0, 1) := by decide +kernel
theorem dX11_lastGoal_3 : decode cX11_lastGoal 3 = .ok (.istore_n 2, 1) := by decide +kernel
theorem dX11_lastGoal_4 : decode cX11_lastGoal 4 = .ok (.iload_n 2, 1) := by decide +kernel
theorem dX11_lastGoal_5 : decode cX11_lastGoal 5 = .ok (.aload_n 0, 1) := by decide +kernel
theorem dX11_lastGoal_6 : decode cX11_lastGoal 6 = .ok (.getfield 116, 3) := by decide +kernel
theorem dX11_lastGoal_9 : decode cX11_lastGoal 9 = .ok (.if_icmp .ge 28, 3) := by decide +kernel
theorem dX11_lastGoal_12 : decode cX11_lastGoal 12 = .ok (.iload_n 1, 1) := by decide +kernel
theorem dX11_lastGoal_13 : decode cX11_lastGoal 13 = .ok (.ifCond .lt 12, 3) := by decide +kernel
theorem dX11_lastGoal_16 : decode cX11_lastGoal 16 = .ok (.aload_n 0, 1) := by decide +kernel
theorem dX11_lastGoal_17 : decode cX11_lastGoal 17 = .ok (.iload_n 1, 1) := by decide +kernel
theorem dX11_lastGoal_18 : decode cX11_lastGoal 18 = .ok (.iload_n 2, 1) := by decide +kernel
theorem dX11_lastGoal_19 : decode cX11_lastGoal 19 = .ok (.invokevirtual 155, 3) := by decide +kernel
theorem dX11_lastGoal_22 : decode cX11_lastGoal 22 = .ok (.ifCond .eq 7, 3) := by decide +kernel
theorem dX11_lastGoal_25 : decode cX11_lastGoal 25 = .ok (.iload_n 2, 1) := by decide +kernel
theorem dX11_lastGoal_26 : decode cX11_lastGoal 26 = .ok (.goto 4, 3) := by decide +kernel
theorem dX11_lastGoal_29 : decode cX11_lastGoal 29 = .ok (.iload_n 1, 1) := by decide +kernel
theorem dX11_lastGoal_30 : decode cX11_lastGoal 30 = .ok (.istore_n 1, 1) := by decide +kernel
theorem dX11_lastGoal_31 : decode cX11_lastGoal 31 = .ok (.iinc 2 1, 3) := by decide +kernel
theorem dX11_lastGoal_34 : decode cX11_lastGoal 34 = .ok (.goto (-30), 3) := by decide +kernel
theorem dX11_lastGoal_37 : decode cX11_lastGoal 37 = .ok (.iload_n 1, 1) := by decide +kernel
theorem dX11_lastGoal_38 : decode cX11_lastGoal 38 = .ok (.ireturn, 1) := by decide +kernel
theorem dX11_price_0 : decode cX11_price 0 = .ok (.aload_n 0, 1) := by decide +kernel
theorem dX11_price_1 : decode cX11_price 1 = .ok (.aload_n 0, 1) := by decide +kernel
theorem dX11_price_2 : decode cX11_price 2 = .ok (.invokevirtual 171, 3) := by decide +kernel
theorem dX11_price_5 : decode cX11_price 5 = .ok (.invokevirtual 174, 3) := by decide +kernel
theorem dX11_price_8 : decode cX11_price 8 = .ok (.istore_n 1, 1) := by decide +kernel
theorem dX11_price_9 : decode cX11_price 9 = .ok (.iload_n 1, 1) := by decide +kernel
theorem dX11_price_10 : decode cX11_price 10 = .ok (.ldc 109, 2) := by decide +kernel
theorem dX11_price_12 : decode cX11_price 12 = .ok (.if_icmp .lt 8, 3) := by decide +kernel
theorem dX11_price_15 : decode cX11_price 15 = .ok (.bipush (-4), 2) := by decide +kernel
theorem dX11_price_17 : decode cX11_price 17 = .ok (.goto 4, 3) := by decide +kernel
theorem dX11_price_20 : decode cX11_price 20 = .ok (.iload_n 1, 1) := by decide +kernel
theorem dX11_price_21 : decode cX11_price 21 = .ok (.ireturn, 1) := by decide +kernel
theorem dX11_first_0 : decode cX11_first 0 = .ok (.aload_n 0, 1) := by decide +kernel
theorem dX11_first_1 : decode cX11_first 1 = .ok (.invokevirtual 171, 3) := by decide +kernel
theorem dX11_first_4 : decode cX11_first 4 = .ok (.istore_n 1, 1) := by decide +kernel
theorem dX11_first_5 : decode cX11_first 5 = .ok (.aload_n 0, 1) := by decide +kernel
theorem dX11_first_6 : decode cX11_first 6 = .ok (.iload_n 1, 1) := by decide +kernel
theorem dX11_first_7 : decode cX11_first 7 = .ok (.invokevirtual 174, 3) := by decide +kernel
theorem dX11_first_10 : decode cX11_first 10 = .ok (.istore_n 2, 1) := by decide +kernel
theorem dX11_first_11 : decode cX11_first 11 = .ok (.iload_n 2, 1) := by decide +kernel
theorem dX11_first_12 : decode cX11_first 12 = .ok (.ldc 109, 2) := by decide +kernel
theorem dX11_first_14 : decode cX11_first 14 = .ok (.if_icmp .ge 32, 3) := by decide +kernel
theorem dX11_first_17 : decode cX11_first 17 = .ok (.iload_n 1, 1) := by decide +kernel
theorem dX11_first_18 : decode cX11_first 18 = .ok (.ifCond .lt 28, 3) := by decide +kernel
theorem dX11_first_21 : decode cX11_first 21 = .ok (.aload_n 0, 1) := by decide +kernel
theorem dX11_first_22 : decode cX11_first 22 = .ok (.getfield 32, 3) := by decide +kernel
theorem dX11_first_25 : decode cX11_first 25 = .ok (.iload_n 1, 1) := by decide +kernel
theorem dX11_first_26 : decode cX11_first 26 = .ok (.iaload, 1) := by decide +kernel
theorem dX11_first_27 : decode cX11_first 27 = .ok (.ifCond .eq 19, 3) := by decide +kernel
theorem dX11_first_30 : decode cX11_first 30 = .ok (.aload_n 0, 1) := by decide +kernel
theorem dX11_first_31 : decode cX11_first 31 = .ok (.aload_n 0, 1) := by decide +kernel
theorem dX11_first_32 : decode cX11_first 32 = .ok (.getfield 20, 3) := by decide +kernel
theorem dX11_first_35 : decode cX11_first 35 = .ok (.iconst 1, 1) := by decide +kernel
theorem dX11_first_36 : decode cX11_first 36 = .ok (.iaload, 1) := by decide +kernel
theorem dX11_first_37 : decode cX11_first 37 = .ok (.iconst 0, 1) := by decide +kernel
theorem dX11_first_38 : decode cX11_first 38 = .ok (.iconst (-1), 1) := by decide +kernel
theorem dX11_first_39 : decode cX11_first 39 = .ok (.invokevirtual 159, 3) := by decide +kernel
theorem dX11_first_42 : decode cX11_first 42 = .ok (.iload_n 2, 1) := by decide +kernel
theorem dX11_first_43 : decode cX11_first 43 = .ok (.if_icmp .ne 6, 3) := by decide +kernel
theorem dX11_first_46 : decode cX11_first 46 = .ok (.bipush (-4), 2) := by decide +kernel
theorem dX11_first_48 : decode cX11_first 48 = .ok (.ireturn, 1) := by decide +kernel
theorem dX11_first_49 : decode cX11_first 49 = .ok (.iconst 0, 1) := by decide +kernel
theorem dX11_first_50 : decode cX11_first 50 = .ok (.istore_n 3, 1) := by decide +kernel
theorem dX11_first_51 : decode cX11_first 51 = .ok (.aload_n 0, 1) := by decide +kernel
theorem dX11_first_52 : decode cX11_first 52 = .ok (.aload_n 0, 1) := by decide +kernel
theorem dX11_first_53 : decode cX11_first 53 = .ok (.getfield 20, 3) := by decide +kernel
theorem dX11_first_56 : decode cX11_first 56 = .ok (.iconst 1, 1) := by decide +kernel
theorem dX11_first_57 : decode cX11_first 57 = .ok (.iaload, 1) := by decide +kernel
theorem dX11_first_58 : decode cX11_first 58 = .ok (.iload_n 3, 1) := by decide +kernel
theorem dX11_first_59 : decode cX11_first 59 = .ok (.aload_n 0, 1) := by decide +kernel
theorem dX11_first_60 : decode cX11_first 60 = .ok (.getfield 20, 3) := by decide +kernel
theorem dX11_first_63 : decode cX11_first 63 = .ok (.iconst 0, 1) := by decide +kernel
theorem dX11_first_64 : decode cX11_first 64 = .ok (.iaload, 1) := by decide +kernel
theorem dX11_first_65 : decode cX11_first 65 = .ok (.invokevirtual 139, 3) := by decide +kernel
theorem dX11_first_68 : decode cX11_first 68 = .ok (.ifCond .eq 19, 3) := by decide +kernel
theorem dX11_first_71 : decode cX11_first 71 = .ok (.aload_n 0, 1) := by decide +kernel
theorem dX11_first_72 : decode cX11_first 72 = .ok (.aload_n 0, 1) := by decide +kernel
theorem dX11_first_73 : decode cX11_first 73 = .ok (.getfield 20, 3) := by decide +kernel
theorem dX11_first_76 : decode cX11_first 76 = .ok (.iconst 1, 1) := by decide +kernel
theorem dX11_first_77 : decode cX11_first 77 = .ok (.iaload, 1) := by decide +kernel
theorem dX11_first_78 : decode cX11_first 78 = .ok (.iconst 0, 1) := by decide +kernel
theorem dX11_first_79 : decode cX11_first 79 = .ok (.iload_n 3, 1) := by decide +kernel
theorem dX11_first_80 : decode cX11_first 80 = .ok (.invokevirtual 159, 3) := by decide +kernel
theorem dX11_first_83 : decode cX11_first 83 = .ok (.iload_n 2, 1) := by decide +kernel
theorem dX11_first_84 : decode cX11_first 84 = .ok (.if_icmp .eq 9, 3) := by decide +kernel
theorem dX11_first_87 : decode cX11_first 87 = .ok (.iinc 3 1, 3) := by decide +kernel
theorem dX11_first_90 : decode cX11_first 90 = .ok (.goto (-39), 3) := by decide +kernel
theorem dX11_first_93 : decode cX11_first 93 = .ok (.iload_n 3, 1) := by decide +kernel
theorem dX11_first_94 : decode cX11_first 94 = .ok (.ireturn, 1) := by decide +kernel
theorem dX11_bars_0 : decode cX11_bars 0 = .ok (.bipush (-4), 2) := by decide +kernel
theorem dX11_bars_2 : decode cX11_bars 2 = .ok (.istore_n 1, 1) := by decide +kernel
theorem dX11_bars_3 : decode cX11_bars 3 = .ok (.iconst 0, 1) := by decide +kernel
theorem dX11_bars_4 : decode cX11_bars 4 = .ok (.istore_n 2, 1) := by decide +kernel
theorem dX11_bars_5 : decode cX11_bars 5 = .ok (.iload_n 2, 1) := by decide +kernel
theorem dX11_bars_6 : decode cX11_bars 6 = .ok (.aload_n 0, 1) := by decide +kernel
theorem dX11_bars_7 : decode cX11_bars 7 = .ok (.getfield 116, 3) := by decide +kernel
theorem dX11_bars_10 : decode cX11_bars 10 = .ok (.if_icmp .ge 36, 3) := by decide +kernel
theorem dX11_bars_13 : decode cX11_bars 13 = .ok (.aload_n 0, 1) := by decide +kernel
theorem dX11_bars_14 : decode cX11_bars 14 = .ok (.iload_n 2, 1) := by decide +kernel
theorem dX11_bars_15 : decode cX11_bars 15 = .ok (.invokevirtual 174, 3) := by decide +kernel
theorem dX11_bars_18 : decode cX11_bars 18 = .ok (.ldc 109, 2) := by decide +kernel
theorem dX11_bars_20 : decode cX11_bars 20 = .ok (.if_icmp .lt 20, 3) := by decide +kernel
theorem dX11_bars_23 : decode cX11_bars 23 = .ok (.iload_n 1, 1) := by decide +kernel
theorem dX11_bars_24 : decode cX11_bars 24 = .ok (.bipush (-4), 2) := by decide +kernel
theorem dX11_bars_26 : decode cX11_bars 26 = .ok (.if_icmp .eq 12, 3) := by decide +kernel
theorem dX11_bars_29 : decode cX11_bars 29 = .ok (.aload_n 0, 1) := by decide +kernel
theorem dX11_bars_30 : decode cX11_bars 30 = .ok (.iload_n 2, 1) := by decide +kernel
theorem dX11_bars_31 : decode cX11_bars 31 = .ok (.iload_n 1, 1) := by decide +kernel
theorem dX11_bars_32 : decode cX11_bars 32 = .ok (.invokevirtual 155, 3) := by decide +kernel
theorem dX11_bars_35 : decode cX11_bars 35 = .ok (.ifCond .eq 5, 3) := by decide +kernel
theorem dX11_bars_38 : decode cX11_bars 38 = .ok (.iload_n 2, 1) := by decide +kernel
theorem dX11_bars_39 : decode cX11_bars 39 = .ok (.istore_n 1, 1) := by decide +kernel
theorem dX11_bars_40 : decode cX11_bars 40 = .ok (.iinc 2 1, 3) := by decide +kernel
theorem dX11_bars_43 : decode cX11_bars 43 = .ok (.goto (-38), 3) := by decide +kernel
theorem dX11_bars_46 : decode cX11_bars 46 = .ok (.iload_n 1, 1) := by decide +kernel
theorem dX11_bars_47 : decode cX11_bars 47 = .ok (.ireturn, 1) := by decide +kernel
theorem dX11_isWonBy_0 : decode cX11_isWonBy 0 = .ok (.aload_n 0, 1) := by decide +kernel
theorem dX11_isWonBy_1 : decode cX11_isWonBy 1 = .ok (.getfield 41, 3) := by decide +kernel
theorem dX11_isWonBy_4 : decode cX11_isWonBy 4 = .ok (.aload_n 0, 1) := by decide +kernel
theorem dX11_isWonBy_5 : decode cX11_isWonBy 5 = .ok (.iload_n 3, 1) := by decide +kernel
theorem dX11_isWonBy_6 : decode cX11_isWonBy 6 = .ok (.ifCond .ge 7, 3) := by decide +kernel
theorem dX11_isWonBy_9 : decode cX11_isWonBy 9 = .ok (.iload_n 1, 1) := by decide +kernel
theorem dX11_isWonBy_10 : decode cX11_isWonBy 10 = .ok (.goto 9, 3) := by decide +kernel
theorem dX11_isWonBy_13 : decode cX11_isWonBy 13 = .ok (.aload_n 0, 1) := by decide +kernel
theorem dX11_isWonBy_14 : decode cX11_isWonBy 14 = .ok (.iload_n 1, 1) := by decide +kernel
theorem dX11_isWonBy_15 : decode cX11_isWonBy 15 = .ok (.iload_n 3, 1) := by decide +kernel
theorem dX11_isWonBy_16 : decode cX11_isWonBy 16 = .ok (.invokevirtual 145, 3) := by decide +kernel
theorem dX11_isWonBy_19 : decode cX11_isWonBy 19 = .ok (.aload_n 0, 1) := by decide +kernel
theorem dX11_isWonBy_20 : decode cX11_isWonBy 20 = .ok (.getfield 20, 3) := by decide +kernel
theorem dX11_isWonBy_23 : decode cX11_isWonBy 23 = .ok (.iconst 0, 1) := by decide +kernel
theorem dX11_isWonBy_24 : decode cX11_isWonBy 24 = .ok (.iaload, 1) := by decide +kernel
theorem dX11_isWonBy_25 : decode cX11_isWonBy 25 = .ok (.iload_n 2, 1) := by decide +kernel
theorem dX11_isWonBy_26 : decode cX11_isWonBy 26 = .ok (.iadd, 1) := by decide +kernel
theorem dX11_isWonBy_27 : decode cX11_isWonBy 27 = .ok (.iconst 1, 1) := by decide +kernel
theorem dX11_isWonBy_28 : decode cX11_isWonBy 28 = .ok (.iadd, 1) := by decide +kernel
theorem dX11_isWonBy_29 : decode cX11_isWonBy 29 = .ok (.invokevirtual 148, 3) := by decide +kernel
theorem dX11_isWonBy_32 : decode cX11_isWonBy 32 = .ok (.baload, 1) := by decide +kernel
theorem dX11_isWonBy_33 : decode cX11_isWonBy 33 = .ok (.ireturn, 1) := by decide +kernel
theorem dX11_canWin_0 : decode cX11_canWin 0 = .ok (.iload_n 2, 1) := by decide +kernel
theorem dX11_canWin_1 : decode cX11_canWin 1 = .ok (.iconst 2, 1) := by decide +kernel
theorem dX11_canWin_2 : decode cX11_canWin 2 = .ok (.irem, 1) := by decide +kernel
theorem dX11_canWin_3 : decode cX11_canWin 3 = .ok (.ifCond .ne 7, 3) := by decide +kernel
theorem dX11_canWin_6 : decode cX11_canWin 6 = .ok (.iconst 1, 1) := by decide +kernel
theorem dX11_canWin_7 : decode cX11_canWin 7 = .ok (.goto 4, 3) := by decide +kernel
theorem dX11_canWin_10 : decode cX11_canWin 10 = .ok (.iconst 0, 1) := by decide +kernel
theorem dX11_canWin_11 : decode cX11_canWin 11 = .ok (.istore 4, 2) := by decide +kernel
theorem dX11_canWin_13 : decode cX11_canWin 13 = .ok (.aload_n 0, 1) := by decide +kernel
theorem dX11_canWin_14 : decode cX11_canWin 14 = .ok (.iload_n 1, 1) := by decide +kernel
theorem dX11_canWin_15 : decode cX11_canWin 15 = .ok (.iload_n 2, 1) := by decide +kernel
theorem dX11_canWin_16 : decode cX11_canWin 16 = .ok (.iconst (-1), 1) := by decide +kernel
theorem dX11_canWin_17 : decode cX11_canWin 17 = .ok (.invokevirtual 177, 3) := by decide +kernel
theorem dX11_canWin_20 : decode cX11_canWin 20 = .ok (.istore 5, 2) := by decide +kernel
theorem dX11_canWin_22 : decode cX11_canWin 22 = .ok (.iconst 0, 1) := by decide +kernel
theorem dX11_canWin_23 : decode cX11_canWin 23 = .ok (.istore 6, 2) := by decide +kernel
theorem dX11_canWin_25 : decode cX11_canWin 25 = .ok (.iload 6, 2) := by decide +kernel
theorem dX11_canWin_27 : decode cX11_canWin 27 = .ok (.aload_n 0, 1) := by decide +kernel
theorem dX11_canWin_28 : decode cX11_canWin 28 = .ok (.getfield 7, 3) := by decide +kernel
theorem dX11_canWin_31 : decode cX11_canWin 31 = .ok (.iconst 1, 1) := by decide +kernel
theorem dX11_canWin_32 : decode cX11_canWin 32 = .ok (.iaload, 1) := by decide +kernel
theorem dX11_canWin_33 : decode cX11_canWin 33 = .ok (.if_icmp .ge 98, 3) := by decide +kernel
theorem dX11_canWin_36 : decode cX11_canWin 36 = .ok (.iload_n 3, 1) := by decide +kernel
theorem dX11_canWin_37 : decode cX11_canWin 37 = .ok (.iload 6, 2) := by decide +kernel
theorem dX11_canWin_39 : decode cX11_canWin 39 = .ok (.ishr, 1) := by decide +kernel
theorem dX11_canWin_40 : decode cX11_canWin 40 = .ok (.iconst 1, 1) := by decide +kernel
theorem dX11_canWin_41 : decode cX11_canWin 41 = .ok (.iand, 1) := by decide +kernel
theorem dX11_canWin_42 : decode cX11_canWin 42 = .ok (.iload 4, 2) := by decide +kernel
theorem dX11_canWin_44 : decode cX11_canWin 44 = .ok (.ifCond .eq 7, 3) := by decide +kernel
theorem dX11_canWin_47 : decode cX11_canWin 47 = .ok (.iconst 1, 1) := by decide +kernel
theorem dX11_canWin_48 : decode cX11_canWin 48 = .ok (.goto 4, 3) := by decide +kernel
theorem dX11_canWin_51 : decode cX11_canWin 51 = .ok (.iconst 0, 1) := by decide +kernel
theorem dX11_canWin_52 : decode cX11_canWin 52 = .ok (.if_icmp .ne 73, 3) := by decide +kernel
theorem dX11_canWin_55 : decode cX11_canWin 55 = .ok (.aload_n 0, 1) := by decide +kernel
theorem dX11_canWin_56 : decode cX11_canWin 56 = .ok (.iload_n 1, 1) := by decide +kernel
theorem dX11_canWin_57 : decode cX11_canWin 57 = .ok (.iload 6, 2) := by decide +kernel
theorem dX11_canWin_59 : decode cX11_canWin 59 = .ok (.aload_n 0, 1) := by decide +kernel
theorem dX11_canWin_60 : decode cX11_canWin 60 = .ok (.getfield 20, 3) := by decide +kernel
theorem dX11_canWin_63 : decode cX11_canWin 63 = .ok (.iconst 0, 1) := by decide +kernel
theorem dX11_canWin_64 : decode cX11_canWin 64 = .ok (.iaload, 1) := by decide +kernel
theorem dX11_canWin_65 : decode cX11_canWin 65 = .ok (.iload_n 2, 1) := by decide +kernel
theorem dX11_canWin_66 : decode cX11_canWin 66 = .ok (.iadd, 1) := by decide +kernel
theorem dX11_canWin_67 : decode cX11_canWin 67 = .ok (.invokevirtual 139, 3) := by decide +kernel
theorem dX11_canWin_70 : decode cX11_canWin 70 = .ok (.ifCond .eq 55, 3) := by decide +kernel
theorem dX11_canWin_73 : decode cX11_canWin 73 = .ok (.iload 4, 2) := by decide +kernel
theorem dX11_canWin_75 : decode cX11_canWin 75 = .ok (.ifCond .eq 27, 3) := by decide +kernel
theorem dX11_canWin_78 : decode cX11_canWin 78 = .ok (.iload 5, 2) := by decide +kernel
theorem dX11_canWin_80 : decode cX11_canWin 80 = .ok (.ifCond .ne 14, 3) := by decide +kernel
theorem dX11_canWin_83 : decode cX11_canWin 83 = .ok (.aload_n 0, 1) := by decide +kernel
theorem dX11_canWin_84 : decode cX11_canWin 84 = .ok (.iload_n 1, 1) := by decide +kernel
theorem dX11_canWin_85 : decode cX11_canWin 85 = .ok (.iload_n 2, 1) := by decide +kernel
theorem dX11_canWin_86 : decode cX11_canWin 86 = .ok (.iload 6, 2) := by decide +kernel
theorem dX11_canWin_88 : decode cX11_canWin 88 = .ok (.invokevirtual 177, 3) := by decide +kernel
theorem dX11_canWin_91 : decode cX11_canWin 91 = .ok (.ifCond .eq 7, 3) := by decide +kernel
theorem dX11_canWin_94 : decode cX11_canWin 94 = .ok (.iconst 1, 1) := by decide +kernel
theorem dX11_canWin_95 : decode cX11_canWin 95 = .ok (.goto 28, 3) := by decide +kernel
theorem dX11_canWin_98 : decode cX11_canWin 98 = .ok (.iconst 0, 1) := by decide +kernel
theorem dX11_canWin_99 : decode cX11_canWin 99 = .ok (.goto 24, 3) := by decide +kernel
theorem dX11_canWin_102 : decode cX11_canWin 102 = .ok (.iload 5, 2) := by decide +kernel
theorem dX11_canWin_104 : decode cX11_canWin 104 = .ok (.ifCond .eq 18, 3) := by decide +kernel
theorem dX11_canWin_107 : decode cX11_canWin 107 = .ok (.aload_n 0, 1) := by decide +kernel
theorem dX11_canWin_108 : decode cX11_canWin 108 = .ok (.iload_n 1, 1) := by decide +kernel
theorem dX11_canWin_109 : decode cX11_canWin 109 = .ok (.iload_n 2, 1) := by decide +kernel
theorem dX11_canWin_110 : decode cX11_canWin 110 = .ok (.iload 6, 2) := by decide +kernel
theorem dX11_canWin_112 : decode cX11_canWin 112 = .ok (.invokevirtual 177, 3) := by decide +kernel
theorem dX11_canWin_115 : decode cX11_canWin 115 = .ok (.ifCond .eq 7, 3) := by decide +kernel
theorem dX11_canWin_118 : decode cX11_canWin 118 = .ok (.iconst 1, 1) := by decide +kernel
theorem dX11_canWin_119 : decode cX11_canWin 119 = .ok (.goto 4, 3) := by decide +kernel
theorem dX11_canWin_122 : decode cX11_canWin 122 = .ok (.iconst 0, 1) := by decide +kernel
theorem dX11_canWin_123 : decode cX11_canWin 123 = .ok (.istore 5, 2) := by decide +kernel
theorem dX11_canWin_125 : decode cX11_canWin 125 = .ok (.iinc 6 1, 3) := by decide +kernel
theorem dX11_canWin_128 : decode cX11_canWin 128 = .ok (.goto (-103), 3) := by decide +kernel
theorem dX11_canWin_131 : decode cX11_canWin 131 = .ok (.iload 5, 2) := by decide +kernel
theorem dX11_canWin_133 : decode cX11_canWin 133 = .ok (.ireturn, 1) := by decide +kernel
theorem dX11_game_0 : decode cX11_game 0 = .ok (.iload_n 1, 1) := by decide +kernel
theorem dX11_game_1 : decode cX11_game 1 = .ok (.iconst 1, 1) := by decide +kernel
theorem dX11_game_2 : decode cX11_game 2 = .ok (.bipush 12, 2) := by decide +kernel
theorem dX11_game_4 : decode cX11_game 4 = .ok (.invokestatic 68, 3) := by decide +kernel
theorem dX11_game_7 : decode cX11_game 7 = .ok (.ifCond .eq 39, 3) := by decide +kernel
theorem dX11_game_10 : decode cX11_game 10 = .ok (.aload_n 0, 1) := by decide +kernel
theorem dX11_game_11 : decode cX11_game 11 = .ok (.iload_n 2, 1) := by decide +kernel
theorem dX11_game_12 : decode cX11_game 12 = .ok (.invokevirtual 122, 3) := by decide +kernel
theorem dX11_game_15 : decode cX11_game 15 = .ok (.ifCond .eq 31, 3) := by decide +kernel
theorem dX11_game_18 : decode cX11_game 18 = .ok (.iload_n 3, 1) := by decide +kernel
theorem dX11_game_19 : decode cX11_game 19 = .ok (.iconst 0, 1) := by decide +kernel
theorem dX11_game_20 : decode cX11_game 20 = .ok (.iconst 1, 1) := by decide +kernel
theorem dX11_game_21 : decode cX11_game 21 = .ok (.aload_n 0, 1) := by decide +kernel
theorem dX11_game_22 : decode cX11_game 22 = .ok (.getfield 7, 3) := by decide +kernel
theorem dX11_game_25 : decode cX11_game 25 = .ok (.iconst 1, 1) := by decide +kernel
theorem dX11_game_26 : decode cX11_game 26 = .ok (.iaload, 1) := by decide +kernel
theorem dX11_game_27 : decode cX11_game 27 = .ok (.ishl, 1) := by decide +kernel
theorem dX11_game_28 : decode cX11_game 28 = .ok (.iconst 1, 1) := by decide +kernel
theorem dX11_game_29 : decode cX11_game 29 = .ok (.isub, 1) := by decide +kernel
theorem dX11_game_30 : decode cX11_game 30 = .ok (.invokestatic 68, 3) := by decide +kernel
theorem dX11_game_33 : decode cX11_game 33 = .ok (.ifCond .eq 13, 3) := by decide +kernel
theorem dX11_game_36 : decode cX11_game 36 = .ok (.iload 4, 2) := by decide +kernel
theorem dX11_game_38 : decode cX11_game 38 = .ok (.iconst 0, 1) := by decide +kernel
theorem dX11_game_39 : decode cX11_game 39 = .ok (.iconst 1, 1) := by decide +kernel
theorem dX11_game_40 : decode cX11_game 40 = .ok (.invokestatic 68, 3) := by decide +kernel
theorem dX11_game_43 : decode cX11_game 43 = .ok (.ifCond .ne 5, 3) := by decide +kernel
theorem dX11_game_46 : decode cX11_game 46 = .ok (.iconst (-1), 1) := by decide +kernel
theorem dX11_game_47 : decode cX11_game 47 = .ok (.ireturn, 1) := by decide +kernel
theorem dX11_game_48 : decode cX11_game 48 = .ok (.iconst 0, 1) := by decide +kernel
theorem dX11_game_49 : decode cX11_game 49 = .ok (.istore 5, 2) := by decide +kernel
theorem dX11_game_51 : decode cX11_game 51 = .ok (.iload 5, 2) := by decide +kernel
theorem dX11_game_53 : decode cX11_game 53 = .ok (.sipush 1008, 3) := by decide +kernel
theorem dX11_game_56 : decode cX11_game 56 = .ok (.if_icmp .ge 30, 3) := by decide +kernel
theorem dX11_game_59 : decode cX11_game 59 = .ok (.aload_n 0, 1) := by decide +kernel
theorem dX11_game_60 : decode cX11_game 60 = .ok (.getfield 41, 3) := by decide +kernel
theorem dX11_game_63 : decode cX11_game 63 = .ok (.iload 5, 2) := by decide +kernel
theorem dX11_game_65 : decode cX11_game 65 = .ok (.iload 5, 2) := by decide +kernel
theorem dX11_game_67 : decode cX11_game 67 = .ok (.invokestatic 132, 3) := by decide +kernel
theorem dX11_game_70 : decode cX11_game 70 = .ok (.iload_n 2, 1) := by decide +kernel
theorem dX11_game_71 : decode cX11_game 71 = .ok (.if_icmp .ne 7, 3) := by decide +kernel
theorem dX11_game_74 : decode cX11_game 74 = .ok (.iconst 1, 1) := by decide +kernel
theorem dX11_game_75 : decode cX11_game 75 = .ok (.goto 4, 3) := by decide +kernel
theorem dX11_game_78 : decode cX11_game 78 = .ok (.iconst 0, 1) := by decide +kernel
theorem dX11_game_79 : decode cX11_game 79 = .ok (.bastore, 1) := by decide +kernel
theorem dX11_game_80 : decode cX11_game 80 = .ok (.iinc 5 1, 3) := by decide +kernel
theorem dX11_game_83 : decode cX11_game 83 = .ok (.goto (-32), 3) := by decide +kernel
theorem dX11_game_86 : decode cX11_game 86 = .ok (.iload_n 1, 1) := by decide +kernel
theorem dX11_game_87 : decode cX11_game 87 = .ok (.iconst 1, 1) := by decide +kernel
theorem dX11_game_88 : decode cX11_game 88 = .ok (.isub, 1) := by decide +kernel
theorem dX11_game_89 : decode cX11_game 89 = .ok (.istore 5, 2) := by decide +kernel
theorem dX11_game_91 : decode cX11_game 91 = .ok (.iload 5, 2) := by decide +kernel
theorem dX11_game_93 : decode cX11_game 93 = .ok (.ifCond .le 90, 3) := by decide +kernel
theorem dX11_game_96 : decode cX11_game 96 = .ok (.iconst 0, 1) := by decide +kernel
theorem dX11_game_97 : decode cX11_game 97 = .ok (.istore 6, 2) := by decide +kernel
theorem dX11_game_99 : decode cX11_game 99 = .ok (.iload 6, 2) := by decide +kernel
theorem dX11_game_101 : decode cX11_game 101 = .ok (.sipush 1008, 3) := by decide +kernel
theorem dX11_game_104 : decode cX11_game 104 = .ok (.if_icmp .ge 42, 3) := by decide +kernel
theorem dX11_game_107 : decode cX11_game 107 = .ok (.aload_n 0, 1) := by decide +kernel
theorem dX11_game_108 : decode cX11_game 108 = .ok (.getfield 45, 3) := by decide +kernel
theorem dX11_game_111 : decode cX11_game 111 = .ok (.iload 6, 2) := by decide +kernel
theorem dX11_game_113 : decode cX11_game 113 = .ok (.aload_n 0, 1) := by decide +kernel
theorem dX11_game_114 : decode cX11_game 114 = .ok (.iload 6, 2) := by decide +kernel
theorem dX11_game_116 : decode cX11_game 116 = .ok (.invokevirtual 162, 3) := by decide +kernel
theorem dX11_game_119 : decode cX11_game 119 = .ok (.ifCond .eq 19, 3) := by decide +kernel
theorem dX11_game_122 : decode cX11_game 122 = .ok (.aload_n 0, 1) := by decide +kernel
theorem dX11_game_123 : decode cX11_game 123 = .ok (.iload 6, 2) := by decide +kernel
theorem dX11_game_125 : decode cX11_game 125 = .ok (.iload 5, 2) := by decide +kernel
theorem dX11_game_127 : decode cX11_game 127 = .ok (.iload_n 3, 1) := by decide +kernel
theorem dX11_game_128 : decode cX11_game 128 = .ok (.invokevirtual 180, 3) := by decide +kernel
theorem dX11_game_131 : decode cX11_game 131 = .ok (.ifCond .eq 7, 3) := by decide +kernel
theorem dX11_game_134 : decode cX11_game 134 = .ok (.iconst 1, 1) := by decide +kernel
theorem dX11_game_135 : decode cX11_game 135 = .ok (.goto 4, 3) := by decide +kernel
theorem dX11_game_138 : decode cX11_game 138 = .ok (.iconst 0, 1) := by decide +kernel
theorem dX11_game_139 : decode cX11_game 139 = .ok (.bastore, 1) := by decide +kernel
theorem dX11_game_140 : decode cX11_game 140 = .ok (.iinc 6 1, 3) := by decide +kernel
theorem dX11_game_143 : decode cX11_game 143 = .ok (.goto (-44), 3) := by decide +kernel
theorem dX11_game_146 : decode cX11_game 146 = .ok (.iconst 0, 1) := by decide +kernel
theorem dX11_game_147 : decode cX11_game 147 = .ok (.istore 6, 2) := by decide +kernel
theorem dX11_game_149 : decode cX11_game 149 = .ok (.iload 6, 2) := by decide +kernel
theorem dX11_game_151 : decode cX11_game 151 = .ok (.sipush 1008, 3) := by decide +kernel
theorem dX11_game_154 : decode cX11_game 154 = .ok (.if_icmp .ge 23, 3) := by decide +kernel
theorem dX11_game_157 : decode cX11_game 157 = .ok (.aload_n 0, 1) := by decide +kernel
theorem dX11_game_158 : decode cX11_game 158 = .ok (.getfield 41, 3) := by decide +kernel
theorem dX11_game_161 : decode cX11_game 161 = .ok (.iload 6, 2) := by decide +kernel
theorem dX11_game_163 : decode cX11_game 163 = .ok (.aload_n 0, 1) := by decide +kernel
theorem dX11_game_164 : decode cX11_game 164 = .ok (.getfield 45, 3) := by decide +kernel
theorem dX11_game_167 : decode cX11_game 167 = .ok (.iload 6, 2) := by decide +kernel
theorem dX11_game_169 : decode cX11_game 169 = .ok (.baload, 1) := by decide +kernel
theorem dX11_game_170 : decode cX11_game 170 = .ok (.bastore, 1) := by decide +kernel
theorem dX11_game_171 : decode cX11_game 171 = .ok (.iinc 6 1, 3) := by decide +kernel
theorem dX11_game_174 : decode cX11_game 174 = .ok (.goto (-25), 3) := by decide +kernel
theorem dX11_game_177 : decode cX11_game 177 = .ok (.iinc 5 (-1), 3) := by decide +kernel
theorem dX11_game_180 : decode cX11_game 180 = .ok (.goto (-89), 3) := by decide +kernel
theorem dX11_game_183 : decode cX11_game 183 = .ok (.aload_n 0, 1) := by decide +kernel
theorem dX11_game_184 : decode cX11_game 184 = .ok (.aload_n 0, 1) := by decide +kernel
theorem dX11_game_185 : decode cX11_game 185 = .ok (.getfield 20, 3) := by decide +kernel
theorem dX11_game_188 : decode cX11_game 188 = .ok (.iconst 1, 1) := by decide +kernel
theorem dX11_game_189 : decode cX11_game 189 = .ok (.iaload, 1) := by decide +kernel
theorem dX11_game_190 : decode cX11_game 190 = .ok (.iconst 0, 1) := by decide +kernel
theorem dX11_game_191 : decode cX11_game 191 = .ok (.iload_n 3, 1) := by decide +kernel
theorem dX11_game_192 : decode cX11_game 192 = .ok (.invokevirtual 180, 3) := by decide +kernel
theorem dX11_game_195 : decode cX11_game 195 = .ok (.istore 5, 2) := by decide +kernel
theorem dX11_game_197 : decode cX11_game 197 = .ok (.iload 4, 2) := by decide +kernel
theorem dX11_game_199 : decode cX11_game 199 = .ok (.ifCond .ne 14, 3) := by decide +kernel
theorem dX11_game_202 : decode cX11_game 202 = .ok (.iload 5, 2) := by decide +kernel
theorem dX11_game_204 : decode cX11_game 204 = .ok (.ifCond .eq 7, 3) := by decide +kernel
theorem dX11_game_207 : decode cX11_game 207 = .ok (.iconst 1, 1) := by decide +kernel
theorem dX11_game_208 : decode cX11_game 208 = .ok (.goto 4, 3) := by decide +kernel
theorem dX11_game_211 : decode cX11_game 211 = .ok (.iconst 0, 1) := by decide +kernel
theorem dX11_game_212 : decode cX11_game 212 = .ok (.ireturn, 1) := by decide +kernel
theorem dX11_game_213 : decode cX11_game 213 = .ok (.iload 5, 2) := by decide +kernel
theorem dX11_game_215 : decode cX11_game 215 = .ok (.ifCond .eq 18, 3) := by decide +kernel
theorem dX11_game_218 : decode cX11_game 218 = .ok (.aload_n 0, 1) := by decide +kernel
theorem dX11_game_219 : decode cX11_game 219 = .ok (.aload_n 0, 1) := by decide +kernel
theorem dX11_game_220 : decode cX11_game 220 = .ok (.getfield 20, 3) := by decide +kernel
theorem dX11_game_223 : decode cX11_game 223 = .ok (.iconst 1, 1) := by decide +kernel
theorem dX11_game_224 : decode cX11_game 224 = .ok (.iaload, 1) := by decide +kernel
theorem dX11_game_225 : decode cX11_game 225 = .ok (.iconst 0, 1) := by decide +kernel
theorem dX11_game_226 : decode cX11_game 226 = .ok (.iconst (-1), 1) := by decide +kernel
theorem dX11_game_227 : decode cX11_game 227 = .ok (.invokevirtual 177, 3) := by decide +kernel
theorem dX11_game_230 : decode cX11_game 230 = .ok (.ifCond .eq 6, 3) := by decide +kernel
theorem dX11_game_233 : decode cX11_game 233 = .ok (.bipush (-4), 2) := by decide +kernel
theorem dX11_game_235 : decode cX11_game 235 = .ok (.ireturn, 1) := by decide +kernel
theorem dX11_game_236 : decode cX11_game 236 = .ok (.iconst 0, 1) := by decide +kernel
theorem dX11_game_237 : decode cX11_game 237 = .ok (.istore 6, 2) := by decide +kernel
theorem dX11_game_239 : decode cX11_game 239 = .ok (.iload_n 3, 1) := by decide +kernel
theorem dX11_game_240 : decode cX11_game 240 = .ok (.iload 6, 2) := by decide +kernel
theorem dX11_game_242 : decode cX11_game 242 = .ok (.ishr, 1) := by decide +kernel
theorem dX11_game_243 : decode cX11_game 243 = .ok (.iconst 1, 1) := by decide +kernel
theorem dX11_game_244 : decode cX11_game 244 = .ok (.iand, 1) := by decide +kernel
theorem dX11_game_245 : decode cX11_game 245 = .ok (.ifCond .eq 40, 3) := by decide +kernel
theorem dX11_game_248 : decode cX11_game 248 = .ok (.aload_n 0, 1) := by decide +kernel
theorem dX11_game_249 : decode cX11_game 249 = .ok (.aload_n 0, 1) := by decide +kernel
theorem dX11_game_250 : decode cX11_game 250 = .ok (.getfield 20, 3) := by decide +kernel
theorem dX11_game_253 : decode cX11_game 253 = .ok (.iconst 1, 1) := by decide +kernel
theorem dX11_game_254 : decode cX11_game 254 = .ok (.iaload, 1) := by decide +kernel
theorem dX11_game_255 : decode cX11_game 255 = .ok (.iload 6, 2) := by decide +kernel
theorem dX11_game_257 : decode cX11_game 257 = .ok (.aload_n 0, 1) := by decide +kernel
theorem dX11_game_258 : decode cX11_game 258 = .ok (.getfield 20, 3) := by decide +kernel
theorem dX11_game_261 : decode cX11_game 261 = .ok (.iconst 0, 1) := by decide +kernel
theorem dX11_game_262 : decode cX11_game 262 = .ok (.iaload, 1) := by decide +kernel
theorem dX11_game_263 : decode cX11_game 263 = .ok (.invokevirtual 139, 3) := by decide +kernel
theorem dX11_game_266 : decode cX11_game 266 = .ok (.ifCond .eq 19, 3) := by decide +kernel
theorem dX11_game_269 : decode cX11_game 269 = .ok (.aload_n 0, 1) := by decide +kernel
theorem dX11_game_270 : decode cX11_game 270 = .ok (.aload_n 0, 1) := by decide +kernel
theorem dX11_game_271 : decode cX11_game 271 = .ok (.getfield 20, 3) := by decide +kernel
theorem dX11_game_274 : decode cX11_game 274 = .ok (.iconst 1, 1) := by decide +kernel
theorem dX11_game_275 : decode cX11_game 275 = .ok (.iaload, 1) := by decide +kernel
theorem dX11_game_276 : decode cX11_game 276 = .ok (.iconst 0, 1) := by decide +kernel
theorem dX11_game_277 : decode cX11_game 277 = .ok (.iload 6, 2) := by decide +kernel
theorem dX11_game_279 : decode cX11_game 279 = .ok (.invokevirtual 177, 3) := by decide +kernel
theorem dX11_game_282 : decode cX11_game 282 = .ok (.ifCond .ne 9, 3) := by decide +kernel
theorem dX11_game_285 : decode cX11_game 285 = .ok (.iinc 6 1, 3) := by decide +kernel
theorem dX11_game_288 : decode cX11_game 288 = .ok (.goto (-49), 3) := by decide +kernel
theorem dX11_game_291 : decode cX11_game 291 = .ok (.iload 6, 2) := by decide +kernel
theorem dX11_game_293 : decode cX11_game 293 = .ok (.ireturn, 1) := by decide +kernel
theorem dX11_seen_0 : decode cX11_seen 0 = .ok (.aload_n 0, 1) := by decide +kernel
theorem dX11_seen_1 : decode cX11_seen 1 = .ok (.iload_n 1, 1) := by decide +kernel
theorem dX11_seen_2 : decode cX11_seen 2 = .ok (.invokevirtual 122, 3) := by decide +kernel
theorem dX11_seen_5 : decode cX11_seen 5 = .ok (.ifCond .eq 13, 3) := by decide +kernel
theorem dX11_seen_8 : decode cX11_seen 8 = .ok (.iload_n 2, 1) := by decide +kernel
theorem dX11_seen_9 : decode cX11_seen 9 = .ok (.iconst 0, 1) := by decide +kernel
theorem dX11_seen_10 : decode cX11_seen 10 = .ok (.bipush 20, 2) := by decide +kernel
theorem dX11_seen_12 : decode cX11_seen 12 = .ok (.invokestatic 68, 3) := by decide +kernel
theorem dX11_seen_15 : decode cX11_seen 15 = .ok (.ifCond .ne 5, 3) := by decide +kernel
theorem dX11_seen_18 : decode cX11_seen 18 = .ok (.iconst (-1), 1) := by decide +kernel
theorem dX11_seen_19 : decode cX11_seen 19 = .ok (.ireturn, 1) := by decide +kernel
theorem dX11_seen_20 : decode cX11_seen 20 = .ok (.aload_n 0, 1) := by decide +kernel
theorem dX11_seen_21 : decode cX11_seen 21 = .ok (.getfield 119, 3) := by decide +kernel
theorem dX11_seen_24 : decode cX11_seen 24 = .ok (.bipush 6, 2) := by decide +kernel
theorem dX11_seen_26 : decode cX11_seen 26 = .ok (.if_icmp .ne 6, 3) := by decide +kernel
theorem dX11_seen_29 : decode cX11_seen 29 = .ok (.bipush (-3), 2) := by decide +kernel
theorem dX11_seen_31 : decode cX11_seen 31 = .ok (.ireturn, 1) := by decide +kernel
theorem dX11_seen_32 : decode cX11_seen 32 = .ok (.aload_n 0, 1) := by decide +kernel
theorem dX11_seen_33 : decode cX11_seen 33 = .ok (.getfield 48, 3) := by decide +kernel
theorem dX11_seen_36 : decode cX11_seen 36 = .ok (.aload_n 0, 1) := by decide +kernel
theorem dX11_seen_37 : decode cX11_seen 37 = .ok (.getfield 119, 3) := by decide +kernel
theorem dX11_seen_40 : decode cX11_seen 40 = .ok (.iload_n 1, 1) := by decide +kernel
theorem dX11_seen_41 : decode cX11_seen 41 = .ok (.iastore, 1) := by decide +kernel
theorem dX11_seen_42 : decode cX11_seen 42 = .ok (.aload_n 0, 1) := by decide +kernel
theorem dX11_seen_43 : decode cX11_seen 43 = .ok (.getfield 51, 3) := by decide +kernel
theorem dX11_seen_46 : decode cX11_seen 46 = .ok (.aload_n 0, 1) := by decide +kernel
theorem dX11_seen_47 : decode cX11_seen 47 = .ok (.getfield 119, 3) := by decide +kernel
theorem dX11_seen_50 : decode cX11_seen 50 = .ok (.iload_n 2, 1) := by decide +kernel
theorem dX11_seen_51 : decode cX11_seen 51 = .ok (.iastore, 1) := by decide +kernel
theorem dX11_seen_52 : decode cX11_seen 52 = .ok (.aload_n 0, 1) := by decide +kernel
theorem dX11_seen_53 : decode cX11_seen 53 = .ok (.dup, 1) := by decide +kernel
theorem dX11_seen_54 : decode cX11_seen 54 = .ok (.getfield 119, 3) := by decide +kernel
theorem dX11_seen_57 : decode cX11_seen 57 = .ok (.iconst 1, 1) := by decide +kernel
theorem dX11_seen_58 : decode cX11_seen 58 = .ok (.iadd, 1) := by decide +kernel
theorem dX11_seen_59 : decode cX11_seen 59 = .ok (.putfield 119, 3) := by decide +kernel
theorem dX11_seen_62 : decode cX11_seen 62 = .ok (.aload_n 0, 1) := by decide +kernel
theorem dX11_seen_63 : decode cX11_seen 63 = .ok (.getfield 119, 3) := by decide +kernel
theorem dX11_seen_66 : decode cX11_seen 66 = .ok (.ireturn, 1) := by decide +kernel
theorem dX11_forget_0 : decode cX11_forget 0 = .ok (.aload_n 0, 1) := by decide +kernel
theorem dX11_forget_1 : decode cX11_forget 1 = .ok (.getfield 119, 3) := by decide +kernel
theorem dX11_forget_4 : decode cX11_forget 4 = .ok (.istore_n 1, 1) := by decide +kernel
theorem dX11_forget_5 : decode cX11_forget 5 = .ok (.aload_n 0, 1) := by decide +kernel
theorem dX11_forget_6 : decode cX11_forget 6 = .ok (.iconst 0, 1) := by decide +kernel
theorem dX11_forget_7 : decode cX11_forget 7 = .ok (.putfield 119, 3) := by decide +kernel
theorem dX11_forget_10 : decode cX11_forget 10 = .ok (.iload_n 1, 1) := by decide +kernel
theorem dX11_forget_11 : decode cX11_forget 11 = .ok (.ireturn, 1) := by decide +kernel
theorem dX11_bar_0 : decode cX11_bar 0 = .ok (.iconst 0, 1) := by decide +kernel
theorem dX11_bar_1 : decode cX11_bar 1 = .ok (.istore_n 2, 1) := by decide +kernel
theorem dX11_bar_2 : decode cX11_bar 2 = .ok (.iload_n 2, 1) := by decide +kernel
theorem dX11_bar_3 : decode cX11_bar 3 = .ok (.aload_n 0, 1) := by decide +kernel
theorem dX11_bar_4 : decode cX11_bar 4 = .ok (.getfield 119, 3) := by decide +kernel
theorem dX11_bar_7 : decode cX11_bar 7 = .ok (.if_icmp .ge 63, 3) := by decide +kernel
theorem dX11_bar_10 : decode cX11_bar 10 = .ok (.iconst 0, 1) := by decide +kernel
theorem dX11_bar_11 : decode cX11_bar 11 = .ok (.istore_n 3, 1) := by decide +kernel
theorem dX11_bar_12 : decode cX11_bar 12 = .ok (.iload_n 3, 1) := by decide +kernel
theorem dX11_bar_13 : decode cX11_bar 13 = .ok (.sipush 1008, 3) := by decide +kernel
theorem dX11_bar_16 : decode cX11_bar 16 = .ok (.if_icmp .ge 48, 3) := by decide +kernel
theorem dX11_bar_19 : decode cX11_bar 19 = .ok (.aload_n 0, 1) := by decide +kernel
theorem dX11_bar_20 : decode cX11_bar 20 = .ok (.getfield 54, 3) := by decide +kernel
theorem dX11_bar_23 : decode cX11_bar 23 = .ok (.iload_n 3, 1) := by decide +kernel
theorem dX11_bar_24 : decode cX11_bar 24 = .ok (.aload_n 0, 1) := by decide +kernel
theorem dX11_bar_25 : decode cX11_bar 25 = .ok (.getfield 51, 3) := by decide +kernel
theorem dX11_bar_28 : decode cX11_bar 28 = .ok (.iload_n 2, 1) := by decide +kernel
theorem dX11_bar_29 : decode cX11_bar 29 = .ok (.iaload, 1) := by decide +kernel
theorem dX11_bar_30 : decode cX11_bar 30 = .ok (.iload_n 1, 1) := by decide +kernel
theorem dX11_bar_31 : decode cX11_bar 31 = .ok (.if_icmp .ne 20, 3) := by decide +kernel
theorem dX11_bar_34 : decode cX11_bar 34 = .ok (.iload_n 3, 1) := by decide +kernel
theorem dX11_bar_35 : decode cX11_bar 35 = .ok (.invokestatic 132, 3) := by decide +kernel
theorem dX11_bar_38 : decode cX11_bar 38 = .ok (.aload_n 0, 1) := by decide +kernel
theorem dX11_bar_39 : decode cX11_bar 39 = .ok (.getfield 48, 3) := by decide +kernel
theorem dX11_bar_42 : decode cX11_bar 42 = .ok (.iload_n 2, 1) := by decide +kernel
theorem dX11_bar_43 : decode cX11_bar 43 = .ok (.iaload, 1) := by decide +kernel
theorem dX11_bar_44 : decode cX11_bar 44 = .ok (.if_icmp .eq 7, 3) := by decide +kernel
theorem dX11_bar_47 : decode cX11_bar 47 = .ok (.lconst 0, 1) := by decide +kernel
theorem dX11_bar_48 : decode cX11_bar 48 = .ok (.goto 9, 3) := by decide +kernel
theorem dX11_bar_51 : decode cX11_bar 51 = .ok (.aload_n 0, 1) := by decide +kernel
theorem dX11_bar_52 : decode cX11_bar 52 = .ok (.getfield 54, 3) := by decide +kernel
theorem dX11_bar_55 : decode cX11_bar 55 = .ok (.iload_n 3, 1) := by decide +kernel
theorem dX11_bar_56 : decode cX11_bar 56 = .ok (.laload, 1) := by decide +kernel
theorem dX11_bar_57 : decode cX11_bar 57 = .ok (.lastore, 1) := by decide +kernel
theorem dX11_bar_58 : decode cX11_bar 58 = .ok (.iinc 3 1, 3) := by decide +kernel
theorem dX11_bar_61 : decode cX11_bar 61 = .ok (.goto (-49), 3) := by decide +kernel
theorem dX11_bar_64 : decode cX11_bar 64 = .ok (.iinc 2 1, 3) := by decide +kernel
theorem dX11_bar_67 : decode cX11_bar 67 = .ok (.goto (-65), 3) := by decide +kernel
theorem dX11_bar_70 : decode cX11_bar 70 = .ok (.return_, 1) := by decide +kernel
theorem dX11_goOn_0 : decode cX11_goOn 0 = .ok (.iconst 0, 1) := by decide +kernel
theorem dX11_goOn_1 : decode cX11_goOn 1 = .ok (.istore 4, 2) := by decide +kernel
theorem dX11_goOn_3 : decode cX11_goOn 3 = .ok (.iload 4, 2) := by decide +kernel
theorem dX11_goOn_5 : decode cX11_goOn 5 = .ok (.sipush 1008, 3) := by decide +kernel
theorem dX11_goOn_8 : decode cX11_goOn 8 = .ok (.if_icmp .ge 17, 3) := by decide +kernel
theorem dX11_goOn_11 : decode cX11_goOn 11 = .ok (.aload_n 0, 1) := by decide +kernel
theorem dX11_goOn_12 : decode cX11_goOn 12 = .ok (.getfield 58, 3) := by decide +kernel
theorem dX11_goOn_15 : decode cX11_goOn 15 = .ok (.iload 4, 2) := by decide +kernel
theorem dX11_goOn_17 : decode cX11_goOn 17 = .ok (.lconst 0, 1) := by decide +kernel
theorem dX11_goOn_18 : decode cX11_goOn 18 = .ok (.lastore, 1) := by decide +kernel
theorem dX11_goOn_19 : decode cX11_goOn 19 = .ok (.iinc 4 1, 3) := by decide +kernel
theorem dX11_goOn_22 : decode cX11_goOn 22 = .ok (.goto (-19), 3) := by decide +kernel
theorem dX11_goOn_25 : decode cX11_goOn 25 = .ok (.iconst 0, 1) := by decide +kernel
theorem dX11_goOn_26 : decode cX11_goOn 26 = .ok (.istore 4, 2) := by decide +kernel
theorem dX11_goOn_28 : decode cX11_goOn 28 = .ok (.iload 4, 2) := by decide +kernel
theorem dX11_goOn_30 : decode cX11_goOn 30 = .ok (.sipush 1008, 3) := by decide +kernel
theorem dX11_goOn_33 : decode cX11_goOn 33 = .ok (.if_icmp .ge 195, 3) := by decide +kernel
theorem dX11_goOn_36 : decode cX11_goOn 36 = .ok (.aload_n 0, 1) := by decide +kernel
theorem dX11_goOn_37 : decode cX11_goOn 37 = .ok (.getfield 54, 3) := by decide +kernel
theorem dX11_goOn_40 : decode cX11_goOn 40 = .ok (.iload 4, 2) := by decide +kernel
theorem dX11_goOn_42 : decode cX11_goOn 42 = .ok (.laload, 1) := by decide +kernel
theorem dX11_goOn_43 : decode cX11_goOn 43 = .ok (.lconst 0, 1) := by decide +kernel
theorem dX11_goOn_44 : decode cX11_goOn 44 = .ok (.lcmp, 1) := by decide +kernel
theorem dX11_goOn_45 : decode cX11_goOn 45 = .ok (.ifCond .le 177, 3) := by decide +kernel
theorem dX11_goOn_48 : decode cX11_goOn 48 = .ok (.iconst 0, 1) := by decide +kernel
theorem dX11_goOn_49 : decode cX11_goOn 49 = .ok (.istore 5, 2) := by decide +kernel
theorem dX11_goOn_51 : decode cX11_goOn 51 = .ok (.iconst 0, 1) := by decide +kernel
theorem dX11_goOn_52 : decode cX11_goOn 52 = .ok (.istore 6, 2) := by decide +kernel
theorem dX11_goOn_54 : decode cX11_goOn 54 = .ok (.iload 6, 2) := by decide +kernel
theorem dX11_goOn_56 : decode cX11_goOn 56 = .ok (.aload_n 0, 1) := by decide +kernel
theorem dX11_goOn_57 : decode cX11_goOn 57 = .ok (.getfield 7, 3) := by decide +kernel
theorem dX11_goOn_60 : decode cX11_goOn 60 = .ok (.iconst 1, 1) := by decide +kernel
theorem dX11_goOn_61 : decode cX11_goOn 61 = .ok (.iaload, 1) := by decide +kernel
theorem dX11_goOn_62 : decode cX11_goOn 62 = .ok (.if_icmp .ge 31, 3) := by decide +kernel
theorem dX11_goOn_65 : decode cX11_goOn 65 = .ok (.iload 5, 2) := by decide +kernel
theorem dX11_goOn_67 : decode cX11_goOn 67 = .ok (.aload_n 0, 1) := by decide +kernel
theorem dX11_goOn_68 : decode cX11_goOn 68 = .ok (.iload 4, 2) := by decide +kernel
theorem dX11_goOn_70 : decode cX11_goOn 70 = .ok (.iload 6, 2) := by decide +kernel
theorem dX11_goOn_72 : decode cX11_goOn 72 = .ok (.iload_n 1, 1) := by decide +kernel
theorem dX11_goOn_73 : decode cX11_goOn 73 = .ok (.invokevirtual 139, 3) := by decide +kernel
theorem dX11_goOn_76 : decode cX11_goOn 76 = .ok (.ifCond .eq 7, 3) := by decide +kernel
theorem dX11_goOn_79 : decode cX11_goOn 79 = .ok (.iconst 1, 1) := by decide +kernel
theorem dX11_goOn_80 : decode cX11_goOn 80 = .ok (.goto 4, 3) := by decide +kernel
theorem dX11_goOn_83 : decode cX11_goOn 83 = .ok (.iconst 0, 1) := by decide +kernel
theorem dX11_goOn_84 : decode cX11_goOn 84 = .ok (.iadd, 1) := by decide +kernel
theorem dX11_goOn_85 : decode cX11_goOn 85 = .ok (.istore 5, 2) := by decide +kernel
theorem dX11_goOn_87 : decode cX11_goOn 87 = .ok (.iinc 6 1, 3) := by decide +kernel
theorem dX11_goOn_90 : decode cX11_goOn 90 = .ok (.goto (-36), 3) := by decide +kernel
theorem dX11_goOn_93 : decode cX11_goOn 93 = .ok (.aload_n 0, 1) := by decide +kernel
theorem dX11_goOn_94 : decode cX11_goOn 94 = .ok (.getfield 58, 3) := by decide +kernel
theorem dX11_goOn_97 : decode cX11_goOn 97 = .ok (.aload_n 0, 1) := by decide +kernel
theorem dX11_goOn_98 : decode cX11_goOn 98 = .ok (.iload 4, 2) := by decide +kernel
theorem dX11_goOn_100 : decode cX11_goOn 100 = .ok (.iload_n 1, 1) := by decide +kernel
theorem dX11_goOn_101 : decode cX11_goOn 101 = .ok (.iconst 1, 1) := by decide +kernel
theorem dX11_goOn_102 : decode cX11_goOn 102 = .ok (.iadd, 1) := by decide +kernel
theorem dX11_goOn_103 : decode cX11_goOn 103 = .ok (.invokevirtual 148, 3) := by decide +kernel
theorem dX11_goOn_106 : decode cX11_goOn 106 = .ok (.dup2, 1) := by decide +kernel
theorem dX11_goOn_107 : decode cX11_goOn 107 = .ok (.laload, 1) := by decide +kernel
theorem dX11_goOn_108 : decode cX11_goOn 108 = .ok (.aload_n 0, 1) := by decide +kernel
theorem dX11_goOn_109 : decode cX11_goOn 109 = .ok (.getfield 54, 3) := by decide +kernel
theorem dX11_goOn_112 : decode cX11_goOn 112 = .ok (.iload 4, 2) := by decide +kernel
theorem dX11_goOn_114 : decode cX11_goOn 114 = .ok (.laload, 1) := by decide +kernel
theorem dX11_goOn_115 : decode cX11_goOn 115 = .ok (.iload_n 3, 1) := by decide +kernel
theorem dX11_goOn_116 : decode cX11_goOn 116 = .ok (.ifCond .ne 7, 3) := by decide +kernel
theorem dX11_goOn_119 : decode cX11_goOn 119 = .ok (.iconst 1, 1) := by decide +kernel
theorem dX11_goOn_120 : decode cX11_goOn 120 = .ok (.goto 15, 3) := by decide +kernel
theorem dX11_goOn_123 : decode cX11_goOn 123 = .ok (.iload 5, 2) := by decide +kernel
theorem dX11_goOn_125 : decode cX11_goOn 125 = .ok (.ifCond .ne 8, 3) := by decide +kernel
theorem dX11_goOn_128 : decode cX11_goOn 128 = .ok (.bipush 120, 2) := by decide +kernel
theorem dX11_goOn_130 : decode cX11_goOn 130 = .ok (.goto 5, 3) := by decide +kernel
theorem dX11_goOn_133 : decode cX11_goOn 133 = .ok (.bipush 60, 2) := by decide +kernel
theorem dX11_goOn_135 : decode cX11_goOn 135 = .ok (.i2l, 1) := by decide +kernel
theorem dX11_goOn_136 : decode cX11_goOn 136 = .ok (.lmul, 1) := by decide +kernel
theorem dX11_goOn_137 : decode cX11_goOn 137 = .ok (.ladd, 1) := by decide +kernel
theorem dX11_goOn_138 : decode cX11_goOn 138 = .ok (.lastore, 1) := by decide +kernel
theorem dX11_goOn_139 : decode cX11_goOn 139 = .ok (.iconst 0, 1) := by decide +kernel
theorem dX11_goOn_140 : decode cX11_goOn 140 = .ok (.istore 6, 2) := by decide +kernel
theorem dX11_goOn_142 : decode cX11_goOn 142 = .ok (.iload 6, 2) := by decide +kernel
theorem dX11_goOn_144 : decode cX11_goOn 144 = .ok (.aload_n 0, 1) := by decide +kernel
theorem dX11_goOn_145 : decode cX11_goOn 145 = .ok (.getfield 7, 3) := by decide +kernel
theorem dX11_goOn_148 : decode cX11_goOn 148 = .ok (.iconst 1, 1) := by decide +kernel
theorem dX11_goOn_149 : decode cX11_goOn 149 = .ok (.iaload, 1) := by decide +kernel
theorem dX11_goOn_150 : decode cX11_goOn 150 = .ok (.if_icmp .ge 72, 3) := by decide +kernel
theorem dX11_goOn_153 : decode cX11_goOn 153 = .ok (.iload 6, 2) := by decide +kernel
theorem dX11_goOn_155 : decode cX11_goOn 155 = .ok (.iload_n 2, 1) := by decide +kernel
theorem dX11_goOn_156 : decode cX11_goOn 156 = .ok (.if_icmp .eq 60, 3) := by decide +kernel
theorem dX11_goOn_159 : decode cX11_goOn 159 = .ok (.aload_n 0, 1) := by decide +kernel
theorem dX11_goOn_160 : decode cX11_goOn 160 = .ok (.iload 4, 2) := by decide +kernel
theorem dX11_goOn_162 : decode cX11_goOn 162 = .ok (.iload 6, 2) := by decide +kernel
theorem dX11_goOn_164 : decode cX11_goOn 164 = .ok (.iload_n 1, 1) := by decide +kernel
theorem dX11_goOn_165 : decode cX11_goOn 165 = .ok (.invokevirtual 139, 3) := by decide +kernel
theorem dX11_goOn_168 : decode cX11_goOn 168 = .ok (.ifCond .eq 48, 3) := by decide +kernel
theorem dX11_goOn_171 : decode cX11_goOn 171 = .ok (.aload_n 0, 1) := by decide +kernel
theorem dX11_goOn_172 : decode cX11_goOn 172 = .ok (.getfield 58, 3) := by decide +kernel
theorem dX11_goOn_175 : decode cX11_goOn 175 = .ok (.aload_n 0, 1) := by decide +kernel
theorem dX11_goOn_176 : decode cX11_goOn 176 = .ok (.aload_n 0, 1) := by decide +kernel
theorem dX11_goOn_177 : decode cX11_goOn 177 = .ok (.iload 4, 2) := by decide +kernel
theorem dX11_goOn_179 : decode cX11_goOn 179 = .ok (.iload 6, 2) := by decide +kernel
theorem dX11_goOn_181 : decode cX11_goOn 181 = .ok (.invokevirtual 145, 3) := by decide +kernel
theorem dX11_goOn_184 : decode cX11_goOn 184 = .ok (.iload_n 1, 1) := by decide +kernel
theorem dX11_goOn_185 : decode cX11_goOn 185 = .ok (.iconst 1, 1) := by decide +kernel
theorem dX11_goOn_186 : decode cX11_goOn 186 = .ok (.iadd, 1) := by decide +kernel
theorem dX11_goOn_187 : decode cX11_goOn 187 = .ok (.invokevirtual 148, 3) := by decide +kernel
theorem dX11_goOn_190 : decode cX11_goOn 190 = .ok (.dup2, 1) := by decide +kernel
theorem dX11_goOn_191 : decode cX11_goOn 191 = .ok (.laload, 1) := by decide +kernel
theorem dX11_goOn_192 : decode cX11_goOn 192 = .ok (.aload_n 0, 1) := by decide +kernel
theorem dX11_goOn_193 : decode cX11_goOn 193 = .ok (.getfield 54, 3) := by decide +kernel
theorem dX11_goOn_196 : decode cX11_goOn 196 = .ok (.iload 4, 2) := by decide +kernel
theorem dX11_goOn_198 : decode cX11_goOn 198 = .ok (.laload, 1) := by decide +kernel
theorem dX11_goOn_199 : decode cX11_goOn 199 = .ok (.iload_n 3, 1) := by decide +kernel
theorem dX11_goOn_200 : decode cX11_goOn 200 = .ok (.ifCond .eq 11, 3) := by decide +kernel
theorem dX11_goOn_203 : decode cX11_goOn 203 = .ok (.bipush 60, 2) := by decide +kernel
theorem dX11_goOn_205 : decode cX11_goOn 205 = .ok (.iload 5, 2) := by decide +kernel
theorem dX11_goOn_207 : decode cX11_goOn 207 = .ok (.idiv, 1) := by decide +kernel
theorem dX11_goOn_208 : decode cX11_goOn 208 = .ok (.goto 4, 3) := by decide +kernel
theorem dX11_goOn_211 : decode cX11_goOn 211 = .ok (.iconst 1, 1) := by decide +kernel
theorem dX11_goOn_212 : decode cX11_goOn 212 = .ok (.i2l, 1) := by decide +kernel
theorem dX11_goOn_213 : decode cX11_goOn 213 = .ok (.lmul, 1) := by decide +kernel
theorem dX11_goOn_214 : decode cX11_goOn 214 = .ok (.ladd, 1) := by decide +kernel
theorem dX11_goOn_215 : decode cX11_goOn 215 = .ok (.lastore, 1) := by decide +kernel
theorem dX11_goOn_216 : decode cX11_goOn 216 = .ok (.iinc 6 1, 3) := by decide +kernel
theorem dX11_goOn_219 : decode cX11_goOn 219 = .ok (.goto (-77), 3) := by decide +kernel
theorem dX11_goOn_222 : decode cX11_goOn 222 = .ok (.iinc 4 1, 3) := by decide +kernel
theorem dX11_goOn_225 : decode cX11_goOn 225 = .ok (.goto (-197), 3) := by decide +kernel
theorem dX11_goOn_228 : decode cX11_goOn 228 = .ok (.iconst 0, 1) := by decide +kernel
theorem dX11_goOn_229 : decode cX11_goOn 229 = .ok (.istore 4, 2) := by decide +kernel
theorem dX11_goOn_231 : decode cX11_goOn 231 = .ok (.iload 4, 2) := by decide +kernel
theorem dX11_goOn_233 : decode cX11_goOn 233 = .ok (.sipush 1008, 3) := by decide +kernel
theorem dX11_goOn_236 : decode cX11_goOn 236 = .ok (.if_icmp .ge 23, 3) := by decide +kernel
theorem dX11_goOn_239 : decode cX11_goOn 239 = .ok (.aload_n 0, 1) := by decide +kernel
theorem dX11_goOn_240 : decode cX11_goOn 240 = .ok (.getfield 54, 3) := by decide +kernel
theorem dX11_goOn_243 : decode cX11_goOn 243 = .ok (.iload 4, 2) := by decide +kernel
theorem dX11_goOn_245 : decode cX11_goOn 245 = .ok (.aload_n 0, 1) := by decide +kernel
theorem dX11_goOn_246 : decode cX11_goOn 246 = .ok (.getfield 58, 3) := by decide +kernel
theorem dX11_goOn_249 : decode cX11_goOn 249 = .ok (.iload 4, 2) := by decide +kernel
theorem dX11_goOn_251 : decode cX11_goOn 251 = .ok (.laload, 1) := by decide +kernel
theorem dX11_goOn_252 : decode cX11_goOn 252 = .ok (.lastore, 1) := by decide +kernel
theorem dX11_goOn_253 : decode cX11_goOn 253 = .ok (.iinc 4 1, 3) := by decide +kernel
theorem dX11_goOn_256 : decode cX11_goOn 256 = .ok (.goto (-25), 3) := by decide +kernel
theorem dX11_goOn_259 : decode cX11_goOn 259 = .ok (.return_, 1) := by decide +kernel
theorem dX11_startWays_0 : decode cX11_startWays 0 = .ok (.iconst 0, 1) := by decide +kernel
theorem dX11_startWays_1 : decode cX11_startWays 1 = .ok (.istore_n 2, 1) := by decide +kernel
theorem dX11_startWays_2 : decode cX11_startWays 2 = .ok (.iload_n 2, 1) := by decide +kernel
theorem dX11_startWays_3 : decode cX11_startWays 3 = .ok (.sipush 1008, 3) := by decide +kernel
theorem dX11_startWays_6 : decode cX11_startWays 6 = .ok (.if_icmp .ge 25, 3) := by decide +kernel
theorem dX11_startWays_9 : decode cX11_startWays 9 = .ok (.aload_n 0, 1) := by decide +kernel
theorem dX11_startWays_10 : decode cX11_startWays 10 = .ok (.getfield 54, 3) := by decide +kernel
theorem dX11_startWays_13 : decode cX11_startWays 13 = .ok (.iload_n 2, 1) := by decide +kernel
theorem dX11_startWays_14 : decode cX11_startWays 14 = .ok (.iload_n 2, 1) := by decide +kernel
theorem dX11_startWays_15 : decode cX11_startWays 15 = .ok (.iload_n 1, 1) := by decide +kernel
theorem dX11_startWays_16 : decode cX11_startWays 16 = .ok (.if_icmp .ne 7, 3) := by decide +kernel
theorem dX11_startWays_19 : decode cX11_startWays 19 = .ok (.lconst 1, 1) := by decide +kernel
theorem dX11_startWays_20 : decode cX11_startWays 20 = .ok (.goto 4, 3) := by decide +kernel
theorem dX11_startWays_23 : decode cX11_startWays 23 = .ok (.lconst 0, 1) := by decide +kernel
theorem dX11_startWays_24 : decode cX11_startWays 24 = .ok (.lastore, 1) := by decide +kernel
theorem dX11_startWays_25 : decode cX11_startWays 25 = .ok (.iinc 2 1, 3) := by decide +kernel
theorem dX11_startWays_28 : decode cX11_startWays 28 = .ok (.goto (-26), 3) := by decide +kernel
theorem dX11_startWays_31 : decode cX11_startWays 31 = .ok (.return_, 1) := by decide +kernel
theorem dX11_howBut_0 : decode cX11_howBut 0 = .ok (.iconst 0, 1) := by decide +kernel
theorem dX11_howBut_1 : decode cX11_howBut 1 = .ok (.istore_n 2, 1) := by decide +kernel
theorem dX11_howBut_2 : decode cX11_howBut 2 = .ok (.iconst 0, 1) := by decide +kernel
theorem dX11_howBut_3 : decode cX11_howBut 3 = .ok (.istore_n 3, 1) := by decide +kernel
theorem dX11_howBut_4 : decode cX11_howBut 4 = .ok (.iload_n 3, 1) := by decide +kernel
theorem dX11_howBut_5 : decode cX11_howBut 5 = .ok (.aload_n 0, 1) := by decide +kernel
theorem dX11_howBut_6 : decode cX11_howBut 6 = .ok (.getfield 119, 3) := by decide +kernel
theorem dX11_howBut_9 : decode cX11_howBut 9 = .ok (.if_icmp .ge 30, 3) := by decide +kernel
theorem dX11_howBut_12 : decode cX11_howBut 12 = .ok (.aload_n 0, 1) := by decide +kernel
theorem dX11_howBut_13 : decode cX11_howBut 13 = .ok (.getfield 51, 3) := by decide +kernel
theorem dX11_howBut_16 : decode cX11_howBut 16 = .ok (.iload_n 3, 1) := by decide +kernel
theorem dX11_howBut_17 : decode cX11_howBut 17 = .ok (.iaload, 1) := by decide +kernel
theorem dX11_howBut_18 : decode cX11_howBut 18 = .ok (.iload_n 2, 1) := by decide +kernel
theorem dX11_howBut_19 : decode cX11_howBut 19 = .ok (.if_icmp .le 12, 3) := by decide +kernel
theorem dX11_howBut_22 : decode cX11_howBut 22 = .ok (.aload_n 0, 1) := by decide +kernel
theorem dX11_howBut_23 : decode cX11_howBut 23 = .ok (.getfield 51, 3) := by decide +kernel
theorem dX11_howBut_26 : decode cX11_howBut 26 = .ok (.iload_n 3, 1) := by decide +kernel
theorem dX11_howBut_27 : decode cX11_howBut 27 = .ok (.iaload, 1) := by decide +kernel
theorem dX11_howBut_28 : decode cX11_howBut 28 = .ok (.goto 4, 3) := by decide +kernel
theorem dX11_howBut_31 : decode cX11_howBut 31 = .ok (.iload_n 2, 1) := by decide +kernel
theorem dX11_howBut_32 : decode cX11_howBut 32 = .ok (.istore_n 2, 1) := by decide +kernel
theorem dX11_howBut_33 : decode cX11_howBut 33 = .ok (.iinc 3 1, 3) := by decide +kernel
theorem dX11_howBut_36 : decode cX11_howBut 36 = .ok (.goto (-32), 3) := by decide +kernel
theorem dX11_howBut_39 : decode cX11_howBut 39 = .ok (.aload_n 0, 1) := by decide +kernel
theorem dX11_howBut_40 : decode cX11_howBut 40 = .ok (.aload_n 0, 1) := by decide +kernel
theorem dX11_howBut_41 : decode cX11_howBut 41 = .ok (.getfield 7, 3) := by decide +kernel
theorem dX11_howBut_44 : decode cX11_howBut 44 = .ok (.iconst 3, 1) := by decide +kernel
theorem dX11_howBut_45 : decode cX11_howBut 45 = .ok (.iaload, 1) := by decide +kernel
theorem dX11_howBut_46 : decode cX11_howBut 46 = .ok (.invokevirtual 183, 3) := by decide +kernel
theorem dX11_howBut_49 : decode cX11_howBut 49 = .ok (.iconst 0, 1) := by decide +kernel
theorem dX11_howBut_50 : decode cX11_howBut 50 = .ok (.istore_n 3, 1) := by decide +kernel
theorem dX11_howBut_51 : decode cX11_howBut 51 = .ok (.iload_n 3, 1) := by decide +kernel
theorem dX11_howBut_52 : decode cX11_howBut 52 = .ok (.iload_n 2, 1) := by decide +kernel
theorem dX11_howBut_53 : decode cX11_howBut 53 = .ok (.if_icmp .ge 21, 3) := by decide +kernel
theorem dX11_howBut_56 : decode cX11_howBut 56 = .ok (.aload_n 0, 1) := by decide +kernel
theorem dX11_howBut_57 : decode cX11_howBut 57 = .ok (.iload_n 3, 1) := by decide +kernel
theorem dX11_howBut_58 : decode cX11_howBut 58 = .ok (.invokevirtual 186, 3) := by decide +kernel
theorem dX11_howBut_61 : decode cX11_howBut 61 = .ok (.aload_n 0, 1) := by decide +kernel
theorem dX11_howBut_62 : decode cX11_howBut 62 = .ok (.iload_n 3, 1) := by decide +kernel
theorem dX11_howBut_63 : decode cX11_howBut 63 = .ok (.iload_n 1, 1) := by decide +kernel
theorem dX11_howBut_64 : decode cX11_howBut 64 = .ok (.iconst 0, 1) := by decide +kernel
theorem dX11_howBut_65 : decode cX11_howBut 65 = .ok (.invokevirtual 189, 3) := by decide +kernel
theorem dX11_howBut_68 : decode cX11_howBut 68 = .ok (.iinc 3 1, 3) := by decide +kernel
theorem dX11_howBut_71 : decode cX11_howBut 71 = .ok (.goto (-20), 3) := by decide +kernel
theorem dX11_howBut_74 : decode cX11_howBut 74 = .ok (.aload_n 0, 1) := by decide +kernel
theorem dX11_howBut_75 : decode cX11_howBut 75 = .ok (.iload_n 2, 1) := by decide +kernel
theorem dX11_howBut_76 : decode cX11_howBut 76 = .ok (.invokevirtual 186, 3) := by decide +kernel
theorem dX11_howBut_79 : decode cX11_howBut 79 = .ok (.lconst 0, 1) := by decide +kernel
theorem dX11_howBut_80 : decode cX11_howBut 80 = .ok (.lstore_n 3, 1) := by decide +kernel
theorem dX11_howBut_81 : decode cX11_howBut 81 = .ok (.iconst 0, 1) := by decide +kernel
theorem dX11_howBut_82 : decode cX11_howBut 82 = .ok (.istore 5, 2) := by decide +kernel
theorem dX11_howBut_84 : decode cX11_howBut 84 = .ok (.iload 5, 2) := by decide +kernel
theorem dX11_howBut_86 : decode cX11_howBut 86 = .ok (.sipush 1008, 3) := by decide +kernel
theorem dX11_howBut_89 : decode cX11_howBut 89 = .ok (.if_icmp .ge 19, 3) := by decide +kernel
theorem dX11_howBut_92 : decode cX11_howBut 92 = .ok (.lload_n 3, 1) := by decide +kernel
theorem dX11_howBut_93 : decode cX11_howBut 93 = .ok (.aload_n 0, 1) := by decide +kernel
theorem dX11_howBut_94 : decode cX11_howBut 94 = .ok (.getfield 54, 3) := by decide +kernel
theorem dX11_howBut_97 : decode cX11_howBut 97 = .ok (.iload 5, 2) := by decide +kernel
theorem dX11_howBut_99 : decode cX11_howBut 99 = .ok (.laload, 1) := by decide +kernel
theorem dX11_howBut_100 : decode cX11_howBut 100 = .ok (.ladd, 1) := by decide +kernel
theorem dX11_howBut_101 : decode cX11_howBut 101 = .ok (.lstore_n 3, 1) := by decide +kernel
theorem dX11_howBut_102 : decode cX11_howBut 102 = .ok (.iinc 5 1, 3) := by decide +kernel
theorem dX11_howBut_105 : decode cX11_howBut 105 = .ok (.goto (-21), 3) := by decide +kernel
theorem dX11_howBut_108 : decode cX11_howBut 108 = .ok (.lload_n 3, 1) := by decide +kernel
theorem dX11_howBut_109 : decode cX11_howBut 109 = .ok (.lreturn, 1) := by decide +kernel
theorem dX11_how_0 : decode cX11_how 0 = .ok (.aload_n 0, 1) := by decide +kernel
theorem dX11_how_1 : decode cX11_how 1 = .ok (.iconst (-1), 1) := by decide +kernel
theorem dX11_how_2 : decode cX11_how 2 = .ok (.invokevirtual 193, 3) := by decide +kernel
theorem dX11_how_5 : decode cX11_how 5 = .ok (.lreturn, 1) := by decide +kernel
theorem dX11_sure_0 : decode cX11_sure 0 = .ok (.aload_n 0, 1) := by decide +kernel
theorem dX11_sure_1 : decode cX11_sure 1 = .ok (.iload_n 1, 1) := by decide +kernel
theorem dX11_sure_2 : decode cX11_sure 2 = .ok (.invokevirtual 126, 3) := by decide +kernel
theorem dX11_sure_5 : decode cX11_sure 5 = .ok (.ifCond .ne 5, 3) := by decide +kernel
theorem dX11_sure_8 : decode cX11_sure 8 = .ok (.iconst (-1), 1) := by decide +kernel
theorem dX11_sure_9 : decode cX11_sure 9 = .ok (.ireturn, 1) := by decide +kernel
theorem dX11_sure_10 : decode cX11_sure 10 = .ok (.aload_n 0, 1) := by decide +kernel
theorem dX11_sure_11 : decode cX11_sure 11 = .ok (.iconst (-1), 1) := by decide +kernel
theorem dX11_sure_12 : decode cX11_sure 12 = .ok (.invokevirtual 193, 3) := by decide +kernel
theorem dX11_sure_15 : decode cX11_sure 15 = .ok (.lconst 0, 1) := by decide +kernel
theorem dX11_sure_16 : decode cX11_sure 16 = .ok (.lcmp, 1) := by decide +kernel
theorem dX11_sure_17 : decode cX11_sure 17 = .ok (.ifCond .le 17, 3) := by decide +kernel
theorem dX11_sure_20 : decode cX11_sure 20 = .ok (.aload_n 0, 1) := by decide +kernel
theorem dX11_sure_21 : decode cX11_sure 21 = .ok (.iload_n 1, 1) := by decide +kernel
theorem dX11_sure_22 : decode cX11_sure 22 = .ok (.invokevirtual 193, 3) := by decide +kernel
theorem dX11_sure_25 : decode cX11_sure 25 = .ok (.lconst 0, 1) := by decide +kernel
theorem dX11_sure_26 : decode cX11_sure 26 = .ok (.lcmp, 1) := by decide +kernel
theorem dX11_sure_27 : decode cX11_sure 27 = .ok (.ifCond .ne 7, 3) := by decide +kernel
theorem dX11_sure_30 : decode cX11_sure 30 = .ok (.iconst 1, 1) := by decide +kernel
theorem dX11_sure_31 : decode cX11_sure 31 = .ok (.goto 4, 3) := by decide +kernel
theorem dX11_sure_34 : decode cX11_sure 34 = .ok (.iconst 0, 1) := by decide +kernel
theorem dX11_sure_35 : decode cX11_sure 35 = .ok (.ireturn, 1) := by decide +kernel
theorem dX11_chance_0 : decode cX11_chance 0 = .ok (.aload_n 0, 1) := by decide +kernel
theorem dX11_chance_1 : decode cX11_chance 1 = .ok (.iload_n 1, 1) := by decide +kernel
theorem dX11_chance_2 : decode cX11_chance 2 = .ok (.invokevirtual 122, 3) := by decide +kernel
theorem dX11_chance_5 : decode cX11_chance 5 = .ok (.ifCond .eq 22, 3) := by decide +kernel
theorem dX11_chance_8 : decode cX11_chance 8 = .ok (.iload_n 2, 1) := by decide +kernel
theorem dX11_chance_9 : decode cX11_chance 9 = .ok (.iconst 0, 1) := by decide +kernel
theorem dX11_chance_10 : decode cX11_chance 10 = .ok (.bipush 6, 2) := by decide +kernel
theorem dX11_chance_12 : decode cX11_chance 12 = .ok (.invokestatic 68, 3) := by decide +kernel
theorem dX11_chance_15 : decode cX11_chance 15 = .ok (.ifCond .eq 12, 3) := by decide +kernel
theorem dX11_chance_18 : decode cX11_chance 18 = .ok (.iload_n 3, 1) := by decide +kernel
theorem dX11_chance_19 : decode cX11_chance 19 = .ok (.iconst 0, 1) := by decide +kernel
theorem dX11_chance_20 : decode cX11_chance 20 = .ok (.iconst 1, 1) := by decide +kernel
theorem dX11_chance_21 : decode cX11_chance 21 = .ok (.invokestatic 68, 3) := by decide +kernel
theorem dX11_chance_24 : decode cX11_chance 24 = .ok (.ifCond .ne 7, 3) := by decide +kernel
theorem dX11_chance_27 : decode cX11_chance 27 = .ok (.ldc2_w 197, 3) := by decide +kernel
theorem dX11_chance_30 : decode cX11_chance 30 = .ok (.lreturn, 1) := by decide +kernel
theorem dX11_chance_31 : decode cX11_chance 31 = .ok (.aload_n 0, 1) := by decide +kernel
theorem dX11_chance_32 : decode cX11_chance 32 = .ok (.aload_n 0, 1) := by decide +kernel
theorem dX11_chance_33 : decode cX11_chance 33 = .ok (.getfield 20, 3) := by decide +kernel
theorem dX11_chance_36 : decode cX11_chance 36 = .ok (.iconst 1, 1) := by decide +kernel
theorem dX11_chance_37 : decode cX11_chance 37 = .ok (.iaload, 1) := by decide +kernel
theorem dX11_chance_38 : decode cX11_chance 38 = .ok (.invokevirtual 183, 3) := by decide +kernel
theorem dX11_chance_41 : decode cX11_chance 41 = .ok (.lconst 1, 1) := by decide +kernel
theorem dX11_chance_42 : decode cX11_chance 42 = .ok (.lstore 4, 2) := by decide +kernel
theorem dX11_chance_44 : decode cX11_chance 44 = .ok (.iconst 0, 1) := by decide +kernel
theorem dX11_chance_45 : decode cX11_chance 45 = .ok (.istore 6, 2) := by decide +kernel
theorem dX11_chance_47 : decode cX11_chance 47 = .ok (.iload 6, 2) := by decide +kernel
theorem dX11_chance_49 : decode cX11_chance 49 = .ok (.iload_n 2, 1) := by decide +kernel
theorem dX11_chance_50 : decode cX11_chance 50 = .ok (.if_icmp .ge 32, 3) := by decide +kernel
theorem dX11_chance_53 : decode cX11_chance 53 = .ok (.aload_n 0, 1) := by decide +kernel
theorem dX11_chance_54 : decode cX11_chance 54 = .ok (.aload_n 0, 1) := by decide +kernel
theorem dX11_chance_55 : decode cX11_chance 55 = .ok (.getfield 20, 3) := by decide +kernel
theorem dX11_chance_58 : decode cX11_chance 58 = .ok (.iconst 0, 1) := by decide +kernel
theorem dX11_chance_59 : decode cX11_chance 59 = .ok (.iaload, 1) := by decide +kernel
theorem dX11_chance_60 : decode cX11_chance 60 = .ok (.iload 6, 2) := by decide +kernel
theorem dX11_chance_62 : decode cX11_chance 62 = .ok (.iadd, 1) := by decide +kernel
theorem dX11_chance_63 : decode cX11_chance 63 = .ok (.iconst (-1), 1) := by decide +kernel
theorem dX11_chance_64 : decode cX11_chance 64 = .ok (.iconst 1, 1) := by decide +kernel
theorem dX11_chance_65 : decode cX11_chance 65 = .ok (.invokevirtual 189, 3) := by decide +kernel
theorem dX11_chance_68 : decode cX11_chance 68 = .ok (.lload 4, 2) := by decide +kernel
theorem dX11_chance_70 : decode cX11_chance 70 = .ok (.ldc2_w 199, 3) := by decide +kernel
theorem dX11_chance_73 : decode cX11_chance 73 = .ok (.lmul, 1) := by decide +kernel
theorem dX11_chance_74 : decode cX11_chance 74 = .ok (.lstore 4, 2) := by decide +kernel
theorem dX11_chance_76 : decode cX11_chance 76 = .ok (.iinc 6 1, 3) := by decide +kernel
theorem dX11_chance_79 : decode cX11_chance 79 = .ok (.goto (-32), 3) := by decide +kernel
theorem dX11_chance_82 : decode cX11_chance 82 = .ok (.lconst 0, 1) := by decide +kernel
theorem dX11_chance_83 : decode cX11_chance 83 = .ok (.lstore 6, 2) := by decide +kernel
theorem dX11_chance_85 : decode cX11_chance 85 = .ok (.iconst 0, 1) := by decide +kernel
theorem dX11_chance_86 : decode cX11_chance 86 = .ok (.istore 8, 2) := by decide +kernel
theorem dX11_chance_88 : decode cX11_chance 88 = .ok (.iload 8, 2) := by decide +kernel
theorem dX11_chance_90 : decode cX11_chance 90 = .ok (.sipush 1008, 3) := by decide +kernel
theorem dX11_chance_93 : decode cX11_chance 93 = .ok (.if_icmp .ge 34, 3) := by decide +kernel
theorem dX11_chance_96 : decode cX11_chance 96 = .ok (.lload 6, 2) := by decide +kernel
theorem dX11_chance_98 : decode cX11_chance 98 = .ok (.iload 8, 2) := by decide +kernel
theorem dX11_chance_100 : decode cX11_chance 100 = .ok (.invokestatic 132, 3) := by decide +kernel
theorem dX11_chance_103 : decode cX11_chance 103 = .ok (.iload_n 1, 1) := by decide +kernel
theorem dX11_chance_104 : decode cX11_chance 104 = .ok (.if_icmp .ne 13, 3) := by decide +kernel
theorem dX11_chance_107 : decode cX11_chance 107 = .ok (.aload_n 0, 1) := by decide +kernel
theorem dX11_chance_108 : decode cX11_chance 108 = .ok (.getfield 54, 3) := by decide +kernel
theorem dX11_chance_111 : decode cX11_chance 111 = .ok (.iload 8, 2) := by decide +kernel
theorem dX11_chance_113 : decode cX11_chance 113 = .ok (.laload, 1) := by decide +kernel
theorem dX11_chance_114 : decode cX11_chance 114 = .ok (.goto 4, 3) := by decide +kernel
theorem dX11_chance_117 : decode cX11_chance 117 = .ok (.lconst 0, 1) := by decide +kernel
theorem dX11_chance_118 : decode cX11_chance 118 = .ok (.ladd, 1) := by decide +kernel
theorem dX11_chance_119 : decode cX11_chance 119 = .ok (.lstore 6, 2) := by decide +kernel
theorem dX11_chance_121 : decode cX11_chance 121 = .ok (.iinc 8 1, 3) := by decide +kernel
theorem dX11_chance_124 : decode cX11_chance 124 = .ok (.goto (-36), 3) := by decide +kernel
theorem dX11_chance_127 : decode cX11_chance 127 = .ok (.lload 6, 2) := by decide +kernel
theorem dX11_chance_129 : decode cX11_chance 129 = .ok (.lstore 8, 2) := by decide +kernel
theorem dX11_chance_131 : decode cX11_chance 131 = .ok (.lload 4, 2) := by decide +kernel
theorem dX11_chance_133 : decode cX11_chance 133 = .ok (.lstore 10, 2) := by decide +kernel
theorem dX11_chance_135 : decode cX11_chance 135 = .ok (.lload 10, 2) := by decide +kernel
theorem dX11_chance_137 : decode cX11_chance 137 = .ok (.lconst 0, 1) := by decide +kernel
theorem dX11_chance_138 : decode cX11_chance 138 = .ok (.lcmp, 1) := by decide +kernel
theorem dX11_chance_139 : decode cX11_chance 139 = .ok (.ifCond .eq 21, 3) := by decide +kernel
theorem dX11_chance_142 : decode cX11_chance 142 = .ok (.lload 8, 2) := by decide +kernel
theorem dX11_chance_144 : decode cX11_chance 144 = .ok (.lload 10, 2) := by decide +kernel
theorem dX11_chance_146 : decode cX11_chance 146 = .ok (.lrem, 1) := by decide +kernel
theorem dX11_chance_147 : decode cX11_chance 147 = .ok (.lstore 12, 2) := by decide +kernel
theorem dX11_chance_149 : decode cX11_chance 149 = .ok (.lload 10, 2) := by decide +kernel
theorem dX11_chance_151 : decode cX11_chance 151 = .ok (.lstore 8, 2) := by decide +kernel
theorem dX11_chance_153 : decode cX11_chance 153 = .ok (.lload 12, 2) := by decide +kernel
theorem dX11_chance_155 : decode cX11_chance 155 = .ok (.lstore 10, 2) := by decide +kernel
theorem dX11_chance_157 : decode cX11_chance 157 = .ok (.goto (-22), 3) := by decide +kernel
theorem dX11_chance_160 : decode cX11_chance 160 = .ok (.iload_n 3, 1) := by decide +kernel
theorem dX11_chance_161 : decode cX11_chance 161 = .ok (.ifCond .ne 11, 3) := by decide +kernel
theorem dX11_chance_164 : decode cX11_chance 164 = .ok (.lload 6, 2) := by decide +kernel
theorem dX11_chance_166 : decode cX11_chance 166 = .ok (.lload 8, 2) := by decide +kernel
theorem dX11_chance_168 : decode cX11_chance 168 = .ok (.ldiv, 1) := by decide +kernel
theorem dX11_chance_169 : decode cX11_chance 169 = .ok (.goto 8, 3) := by decide +kernel
theorem dX11_chance_172 : decode cX11_chance 172 = .ok (.lload 4, 2) := by decide +kernel
theorem dX11_chance_174 : decode cX11_chance 174 = .ok (.lload 8, 2) := by decide +kernel
theorem dX11_chance_176 : decode cX11_chance 176 = .ok (.ldiv, 1) := by decide +kernel
theorem dX11_chance_177 : decode cX11_chance 177 = .ok (.lreturn, 1) := by decide +kernel
theorem dX11_year_0 : decode cX11_year 0 = .ok (.iload_n 1, 1) := by decide +kernel
theorem dX11_year_1 : decode cX11_year 1 = .ok (.iconst 0, 1) := by decide +kernel
theorem dX11_year_2 : decode cX11_year 2 = .ok (.sipush 9999, 3) := by decide +kernel
theorem dX11_year_5 : decode cX11_year 5 = .ok (.invokestatic 68, 3) := by decide +kernel
theorem dX11_year_8 : decode cX11_year 8 = .ok (.ifCond .eq 23, 3) := by decide +kernel
theorem dX11_year_11 : decode cX11_year 11 = .ok (.iload_n 2, 1) := by decide +kernel
theorem dX11_year_12 : decode cX11_year 12 = .ok (.iconst 1, 1) := by decide +kernel
theorem dX11_year_13 : decode cX11_year 13 = .ok (.sipush 400, 3) := by decide +kernel
theorem dX11_year_16 : decode cX11_year 16 = .ok (.invokestatic 68, 3) := by decide +kernel
theorem dX11_year_19 : decode cX11_year 19 = .ok (.ifCond .eq 12, 3) := by decide +kernel
theorem dX11_year_22 : decode cX11_year 22 = .ok (.iload_n 3, 1) := by decide +kernel
theorem dX11_year_23 : decode cX11_year 23 = .ok (.iconst 0, 1) := by decide +kernel
theorem dX11_year_24 : decode cX11_year 24 = .ok (.iconst 1, 1) := by decide +kernel
theorem dX11_year_25 : decode cX11_year 25 = .ok (.invokestatic 68, 3) := by decide +kernel
theorem dX11_year_28 : decode cX11_year 28 = .ok (.ifCond .ne 5, 3) := by decide +kernel
theorem dX11_year_31 : decode cX11_year 31 = .ok (.iconst (-1), 1) := by decide +kernel
theorem dX11_year_32 : decode cX11_year 32 = .ok (.ireturn, 1) := by decide +kernel
theorem dX11_year_33 : decode cX11_year 33 = .ok (.aload_n 0, 1) := by decide +kernel
theorem dX11_year_34 : decode cX11_year 34 = .ok (.getfield 7, 3) := by decide +kernel
theorem dX11_year_37 : decode cX11_year 37 = .ok (.iconst 3, 1) := by decide +kernel
theorem dX11_year_38 : decode cX11_year 38 = .ok (.iaload, 1) := by decide +kernel
theorem dX11_year_39 : decode cX11_year 39 = .ok (.istore 4, 2) := by decide +kernel
theorem dX11_year_41 : decode cX11_year 41 = .ok (.iconst 0, 1) := by decide +kernel
theorem dX11_year_42 : decode cX11_year 42 = .ok (.istore 5, 2) := by decide +kernel
theorem dX11_year_44 : decode cX11_year 44 = .ok (.iconst 0, 1) := by decide +kernel
theorem dX11_year_45 : decode cX11_year 45 = .ok (.istore 6, 2) := by decide +kernel
theorem dX11_year_47 : decode cX11_year 47 = .ok (.iload 6, 2) := by decide +kernel
theorem dX11_year_49 : decode cX11_year 49 = .ok (.iload_n 2, 1) := by decide +kernel
theorem dX11_year_50 : decode cX11_year 50 = .ok (.if_icmp .ge 99, 3) := by decide +kernel
theorem dX11_year_53 : decode cX11_year 53 = .ok (.ldc2_w 201, 3) := by decide +kernel
theorem dX11_year_56 : decode cX11_year 56 = .ok (.iload_n 1, 1) := by decide +kernel
theorem dX11_year_57 : decode cX11_year 57 = .ok (.i2l, 1) := by decide +kernel
theorem dX11_year_58 : decode cX11_year 58 = .ok (.lmul, 1) := by decide +kernel
theorem dX11_year_59 : decode cX11_year 59 = .ok (.ldc2_w 203, 3) := by decide +kernel
theorem dX11_year_62 : decode cX11_year 62 = .ok (.iload 6, 2) := by decide +kernel
theorem dX11_year_64 : decode cX11_year 64 = .ok (.i2l, 1) := by decide +kernel
theorem dX11_year_65 : decode cX11_year 65 = .ok (.lmul, 1) := by decide +kernel
theorem dX11_year_66 : decode cX11_year 66 = .ok (.ladd, 1) := by decide +kernel
theorem dX11_year_67 : decode cX11_year 67 = .ok (.lconst 1, 1) := by decide +kernel
theorem dX11_year_68 : decode cX11_year 68 = .ok (.ladd, 1) := by decide +kernel
theorem dX11_year_69 : decode cX11_year 69 = .ok (.lstore 7, 2) := by decide +kernel
theorem dX11_year_71 : decode cX11_year 71 = .ok (.lload 7, 2) := by decide +kernel
theorem dX11_year_73 : decode cX11_year 73 = .ok (.lload 7, 2) := by decide +kernel
theorem dX11_year_75 : decode cX11_year 75 = .ok (.lmul, 1) := by decide +kernel
theorem dX11_year_76 : decode cX11_year 76 = .ok (.ldc2_w 205, 3) := by decide +kernel
theorem dX11_year_79 : decode cX11_year 79 = .ok (.lrem, 1) := by decide +kernel
theorem dX11_year_80 : decode cX11_year 80 = .ok (.l2i, 1) := by decide +kernel
theorem dX11_year_81 : decode cX11_year 81 = .ok (.istore 9, 2) := by decide +kernel
theorem dX11_year_83 : decode cX11_year 83 = .ok (.iload 9, 2) := by decide +kernel
theorem dX11_year_85 : decode cX11_year 85 = .ok (.aload_n 0, 1) := by decide +kernel
theorem dX11_year_86 : decode cX11_year 86 = .ok (.getfield 7, 3) := by decide +kernel
theorem dX11_year_89 : decode cX11_year 89 = .ok (.iconst 1, 1) := by decide +kernel
theorem dX11_year_90 : decode cX11_year 90 = .ok (.iaload, 1) := by decide +kernel
theorem dX11_year_91 : decode cX11_year 91 = .ok (.irem, 1) := by decide +kernel
theorem dX11_year_92 : decode cX11_year 92 = .ok (.istore 10, 2) := by decide +kernel
theorem dX11_year_94 : decode cX11_year 94 = .ok (.aload_n 0, 1) := by decide +kernel
theorem dX11_year_95 : decode cX11_year 95 = .ok (.iload 4, 2) := by decide +kernel
theorem dX11_year_97 : decode cX11_year 97 = .ok (.iload 10, 2) := by decide +kernel
theorem dX11_year_99 : decode cX11_year 99 = .ok (.iload 6, 2) := by decide +kernel
theorem dX11_year_101 : decode cX11_year 101 = .ok (.invokevirtual 139, 3) := by decide +kernel
theorem dX11_year_104 : decode cX11_year 104 = .ok (.ifCond .eq 27, 3) := by decide +kernel
theorem dX11_year_107 : decode cX11_year 107 = .ok (.iload 9, 2) := by decide +kernel
theorem dX11_year_109 : decode cX11_year 109 = .ok (.bipush 8, 2) := by decide +kernel
theorem dX11_year_111 : decode cX11_year 111 = .ok (.idiv, 1) := by decide +kernel
theorem dX11_year_112 : decode cX11_year 112 = .ok (.iconst 2, 1) := by decide +kernel
theorem dX11_year_113 : decode cX11_year 113 = .ok (.irem, 1) := by decide +kernel
theorem dX11_year_114 : decode cX11_year 114 = .ok (.iconst 1, 1) := by decide +kernel
theorem dX11_year_115 : decode cX11_year 115 = .ok (.if_icmp .ne 16, 3) := by decide +kernel
theorem dX11_year_118 : decode cX11_year 118 = .ok (.aload_n 0, 1) := by decide +kernel
theorem dX11_year_119 : decode cX11_year 119 = .ok (.iload 4, 2) := by decide +kernel
theorem dX11_year_121 : decode cX11_year 121 = .ok (.iload 10, 2) := by decide +kernel
theorem dX11_year_123 : decode cX11_year 123 = .ok (.invokevirtual 145, 3) := by decide +kernel
theorem dX11_year_126 : decode cX11_year 126 = .ok (.istore 4, 2) := by decide +kernel
theorem dX11_year_128 : decode cX11_year 128 = .ok (.iinc 5 1, 3) := by decide +kernel
theorem dX11_year_131 : decode cX11_year 131 = .ok (.aload_n 0, 1) := by decide +kernel
theorem dX11_year_132 : decode cX11_year 132 = .ok (.iload 4, 2) := by decide +kernel
theorem dX11_year_134 : decode cX11_year 134 = .ok (.iload 6, 2) := by decide +kernel
theorem dX11_year_136 : decode cX11_year 136 = .ok (.iconst 1, 1) := by decide +kernel
theorem dX11_year_137 : decode cX11_year 137 = .ok (.iadd, 1) := by decide +kernel
theorem dX11_year_138 : decode cX11_year 138 = .ok (.invokevirtual 148, 3) := by decide +kernel
theorem dX11_year_141 : decode cX11_year 141 = .ok (.istore 4, 2) := by decide +kernel
theorem dX11_year_143 : decode cX11_year 143 = .ok (.iinc 6 1, 3) := by decide +kernel
theorem dX11_year_146 : decode cX11_year 146 = .ok (.goto (-99), 3) := by decide +kernel
theorem dX11_year_149 : decode cX11_year 149 = .ok (.iload_n 3, 1) := by decide +kernel
theorem dX11_year_150 : decode cX11_year 150 = .ok (.ifCond .ne 8, 3) := by decide +kernel
theorem dX11_year_153 : decode cX11_year 153 = .ok (.iload 5, 2) := by decide +kernel
theorem dX11_year_155 : decode cX11_year 155 = .ok (.goto 8, 3) := by decide +kernel
theorem dX11_year_158 : decode cX11_year 158 = .ok (.iload 4, 2) := by decide +kernel
theorem dX11_year_160 : decode cX11_year 160 = .ok (.invokestatic 132, 3) := by decide +kernel
theorem dX11_year_163 : decode cX11_year 163 = .ok (.ireturn, 1) := by decide +kernel
theorem dX11_keep_0 : decode cX11_keep 0 = .ok (.aload_n 0, 1) := by decide +kernel
theorem dX11_keep_1 : decode cX11_keep 1 = .ok (.getfield 113, 3) := by decide +kernel
theorem dX11_keep_4 : decode cX11_keep 4 = .ok (.iconst 2, 1) := by decide +kernel
theorem dX11_keep_5 : decode cX11_keep 5 = .ok (.if_icmp .ne 6, 3) := by decide +kernel
theorem dX11_keep_8 : decode cX11_keep 8 = .ok (.bipush (-3), 2) := by decide +kernel
theorem dX11_keep_10 : decode cX11_keep 10 = .ok (.ireturn, 1) := by decide +kernel
theorem dX11_keep_11 : decode cX11_keep 11 = .ok (.iconst 0, 1) := by decide +kernel
theorem dX11_keep_12 : decode cX11_keep 12 = .ok (.istore_n 1, 1) := by decide +kernel
theorem dX11_keep_13 : decode cX11_keep 13 = .ok (.iload_n 1, 1) := by decide +kernel
theorem dX11_keep_14 : decode cX11_keep 14 = .ok (.iconst 3, 1) := by decide +kernel
theorem dX11_keep_15 : decode cX11_keep 15 = .ok (.if_icmp .ge 28, 3) := by decide +kernel
theorem dX11_keep_18 : decode cX11_keep 18 = .ok (.aload_n 0, 1) := by decide +kernel
theorem dX11_keep_19 : decode cX11_keep 19 = .ok (.getfield 26, 3) := by decide +kernel
theorem dX11_keep_22 : decode cX11_keep 22 = .ok (.iconst 3, 1) := by decide +kernel
theorem dX11_keep_23 : decode cX11_keep 23 = .ok (.aload_n 0, 1) := by decide +kernel
theorem dX11_keep_24 : decode cX11_keep 24 = .ok (.getfield 113, 3) := by decide +kernel
theorem dX11_keep_27 : decode cX11_keep 27 = .ok (.imul, 1) := by decide +kernel
theorem dX11_keep_28 : decode cX11_keep 28 = .ok (.iload_n 1, 1) := by decide +kernel
theorem dX11_keep_29 : decode cX11_keep 29 = .ok (.iadd, 1) := by decide +kernel
theorem dX11_keep_30 : decode cX11_keep 30 = .ok (.aload_n 0, 1) := by decide +kernel
theorem dX11_keep_31 : decode cX11_keep 31 = .ok (.getfield 20, 3) := by decide +kernel
theorem dX11_keep_34 : decode cX11_keep 34 = .ok (.iload_n 1, 1) := by decide +kernel
theorem dX11_keep_35 : decode cX11_keep 35 = .ok (.iaload, 1) := by decide +kernel
theorem dX11_keep_36 : decode cX11_keep 36 = .ok (.iastore, 1) := by decide +kernel
theorem dX11_keep_37 : decode cX11_keep 37 = .ok (.iinc 1 1, 3) := by decide +kernel
theorem dX11_keep_40 : decode cX11_keep 40 = .ok (.goto (-27), 3) := by decide +kernel
theorem dX11_keep_43 : decode cX11_keep 43 = .ok (.aload_n 0, 1) := by decide +kernel
theorem dX11_keep_44 : decode cX11_keep 44 = .ok (.dup, 1) := by decide +kernel
theorem dX11_keep_45 : decode cX11_keep 45 = .ok (.getfield 113, 3) := by decide +kernel
theorem dX11_keep_48 : decode cX11_keep 48 = .ok (.iconst 1, 1) := by decide +kernel
theorem dX11_keep_49 : decode cX11_keep 49 = .ok (.iadd, 1) := by decide +kernel
theorem dX11_keep_50 : decode cX11_keep 50 = .ok (.putfield 113, 3) := by decide +kernel
theorem dX11_keep_53 : decode cX11_keep 53 = .ok (.aload_n 0, 1) := by decide +kernel
theorem dX11_keep_54 : decode cX11_keep 54 = .ok (.getfield 113, 3) := by decide +kernel
theorem dX11_keep_57 : decode cX11_keep 57 = .ok (.ireturn, 1) := by decide +kernel
theorem dX11_back_0 : decode cX11_back 0 = .ok (.aload_n 0, 1) := by decide +kernel
theorem dX11_back_1 : decode cX11_back 1 = .ok (.getfield 113, 3) := by decide +kernel
theorem dX11_back_4 : decode cX11_back 4 = .ok (.ifCond .ne 6, 3) := by decide +kernel
theorem dX11_back_7 : decode cX11_back 7 = .ok (.bipush (-2), 2) := by decide +kernel
theorem dX11_back_9 : decode cX11_back 9 = .ok (.ireturn, 1) := by decide +kernel
theorem dX11_back_10 : decode cX11_back 10 = .ok (.aload_n 0, 1) := by decide +kernel
theorem dX11_back_11 : decode cX11_back 11 = .ok (.dup, 1) := by decide +kernel
theorem dX11_back_12 : decode cX11_back 12 = .ok (.getfield 113, 3) := by decide +kernel
theorem dX11_back_15 : decode cX11_back 15 = .ok (.iconst 1, 1) := by decide +kernel
theorem dX11_back_16 : decode cX11_back 16 = .ok (.isub, 1) := by decide +kernel
theorem dX11_back_17 : decode cX11_back 17 = .ok (.putfield 113, 3) := by decide +kernel
theorem dX11_back_20 : decode cX11_back 20 = .ok (.iconst 0, 1) := by decide +kernel
theorem dX11_back_21 : decode cX11_back 21 = .ok (.istore_n 1, 1) := by decide +kernel
theorem dX11_back_22 : decode cX11_back 22 = .ok (.iload_n 1, 1) := by decide +kernel
theorem dX11_back_23 : decode cX11_back 23 = .ok (.iconst 3, 1) := by decide +kernel
theorem dX11_back_24 : decode cX11_back 24 = .ok (.if_icmp .ge 28, 3) := by decide +kernel
theorem dX11_back_27 : decode cX11_back 27 = .ok (.aload_n 0, 1) := by decide +kernel
theorem dX11_back_28 : decode cX11_back 28 = .ok (.getfield 20, 3) := by decide +kernel
theorem dX11_back_31 : decode cX11_back 31 = .ok (.iload_n 1, 1) := by decide +kernel
theorem dX11_back_32 : decode cX11_back 32 = .ok (.aload_n 0, 1) := by decide +kernel
theorem dX11_back_33 : decode cX11_back 33 = .ok (.getfield 26, 3) := by decide +kernel
theorem dX11_back_36 : decode cX11_back 36 = .ok (.iconst 3, 1) := by decide +kernel
theorem dX11_back_37 : decode cX11_back 37 = .ok (.aload_n 0, 1) := by decide +kernel
theorem dX11_back_38 : decode cX11_back 38 = .ok (.getfield 113, 3) := by decide +kernel
theorem dX11_back_41 : decode cX11_back 41 = .ok (.imul, 1) := by decide +kernel
theorem dX11_back_42 : decode cX11_back 42 = .ok (.iload_n 1, 1) := by decide +kernel
theorem dX11_back_43 : decode cX11_back 43 = .ok (.iadd, 1) := by decide +kernel
theorem dX11_back_44 : decode cX11_back 44 = .ok (.iaload, 1) := by decide +kernel
theorem dX11_back_45 : decode cX11_back 45 = .ok (.iastore, 1) := by decide +kernel
theorem dX11_back_46 : decode cX11_back 46 = .ok (.iinc 1 1, 3) := by decide +kernel
theorem dX11_back_49 : decode cX11_back 49 = .ok (.goto (-27), 3) := by decide +kernel
theorem dX11_back_52 : decode cX11_back 52 = .ok (.aload_n 0, 1) := by decide +kernel
theorem dX11_back_53 : decode cX11_back 53 = .ok (.iconst 0, 1) := by decide +kernel
theorem dX11_back_54 : decode cX11_back 54 = .ok (.putfield 110, 3) := by decide +kernel
theorem dX11_back_57 : decode cX11_back 57 = .ok (.aload_n 0, 1) := by decide +kernel
theorem dX11_back_58 : decode cX11_back 58 = .ok (.getfield 113, 3) := by decide +kernel
theorem dX11_back_61 : decode cX11_back 61 = .ok (.ireturn, 1) := by decide +kernel
theorem dX11_count_0 : decode cX11_count 0 = .ok (.iload_n 1, 1) := by decide +kernel
theorem dX11_count_1 : decode cX11_count 1 = .ok (.tableswitch 93 0 7 #[47, 54, 61, 68, 73, 78, 83, 88], 47) := by decide +kernel
theorem dX11_count_48 : decode cX11_count 48 = .ok (.aload_n 0, 1) := by decide +kernel
theorem dX11_count_49 : decode cX11_count 49 = .ok (.getfield 7, 3) := by decide +kernel
theorem dX11_count_52 : decode cX11_count 52 = .ok (.iconst 0, 1) := by decide +kernel
theorem dX11_count_53 : decode cX11_count 53 = .ok (.iaload, 1) := by decide +kernel
theorem dX11_count_54 : decode cX11_count 54 = .ok (.ireturn, 1) := by decide +kernel
theorem dX11_count_55 : decode cX11_count 55 = .ok (.aload_n 0, 1) := by decide +kernel
theorem dX11_count_56 : decode cX11_count 56 = .ok (.getfield 7, 3) := by decide +kernel
theorem dX11_count_59 : decode cX11_count 59 = .ok (.iconst 1, 1) := by decide +kernel
theorem dX11_count_60 : decode cX11_count 60 = .ok (.iaload, 1) := by decide +kernel
theorem dX11_count_61 : decode cX11_count 61 = .ok (.ireturn, 1) := by decide +kernel
theorem dX11_count_62 : decode cX11_count 62 = .ok (.aload_n 0, 1) := by decide +kernel
theorem dX11_count_63 : decode cX11_count 63 = .ok (.getfield 20, 3) := by decide +kernel
theorem dX11_count_66 : decode cX11_count 66 = .ok (.iconst 0, 1) := by decide +kernel
theorem dX11_count_67 : decode cX11_count 67 = .ok (.iaload, 1) := by decide +kernel
theorem dX11_count_68 : decode cX11_count 68 = .ok (.ireturn, 1) := by decide +kernel
theorem dX11_count_69 : decode cX11_count 69 = .ok (.aload_n 0, 1) := by decide +kernel
theorem dX11_count_70 : decode cX11_count 70 = .ok (.getfield 116, 3) := by decide +kernel
theorem dX11_count_73 : decode cX11_count 73 = .ok (.ireturn, 1) := by decide +kernel
theorem dX11_count_74 : decode cX11_count 74 = .ok (.aload_n 0, 1) := by decide +kernel
theorem dX11_count_75 : decode cX11_count 75 = .ok (.getfield 119, 3) := by decide +kernel
theorem dX11_count_78 : decode cX11_count 78 = .ok (.ireturn, 1) := by decide +kernel
theorem dX11_count_79 : decode cX11_count 79 = .ok (.aload_n 0, 1) := by decide +kernel
theorem dX11_count_80 : decode cX11_count 80 = .ok (.getfield 110, 3) := by decide +kernel
theorem dX11_count_83 : decode cX11_count 83 = .ok (.ireturn, 1) := by decide +kernel
theorem dX11_count_84 : decode cX11_count 84 = .ok (.aload_n 0, 1) := by decide +kernel
theorem dX11_count_85 : decode cX11_count 85 = .ok (.getfield 113, 3) := by decide +kernel
theorem dX11_count_88 : decode cX11_count 88 = .ok (.ireturn, 1) := by decide +kernel
theorem dX11_count_89 : decode cX11_count 89 = .ok (.aload_n 0, 1) := by decide +kernel
theorem dX11_count_90 : decode cX11_count 90 = .ok (.getfield 72, 3) := by decide +kernel
theorem dX11_count_93 : decode cX11_count 93 = .ok (.ireturn, 1) := by decide +kernel
theorem dX11_count_94 : decode cX11_count 94 = .ok (.iconst (-1), 1) := by decide +kernel
theorem dX11_count_95 : decode cX11_count 95 = .ok (.ireturn, 1) := by decide +kernel
theorem dJ9_max_7cf53_0 : decode cJ9_max_7cf53 0 = .ok (.iload_n 0, 1) := by decide +kernel
theorem dJ9_max_7cf53_1 : decode cJ9_max_7cf53 1 = .ok (.iload_n 1, 1) := by decide +kernel
theorem dJ9_max_7cf53_2 : decode cJ9_max_7cf53 2 = .ok (.if_icmp .lt 7, 3) := by decide +kernel
theorem dJ9_max_7cf53_5 : decode cJ9_max_7cf53 5 = .ok (.iload_n 0, 1) := by decide +kernel
theorem dJ9_max_7cf53_6 : decode cJ9_max_7cf53 6 = .ok (.goto 4, 3) := by decide +kernel
theorem dJ9_max_7cf53_9 : decode cJ9_max_7cf53 9 = .ok (.iload_n 1, 1) := by decide +kernel
theorem dJ9_max_7cf53_10 : decode cJ9_max_7cf53 10 = .ok (.ireturn, 1) := by decide +kernel
theorem dJ9_min_f86c9_0 : decode cJ9_min_f86c9 0 = .ok (.lload_n 0, 1) := by decide +kernel
theorem dJ9_min_f86c9_1 : decode cJ9_min_f86c9 1 = .ok (.lload_n 2, 1) := by decide +kernel
theorem dJ9_min_f86c9_2 : decode cJ9_min_f86c9 2 = .ok (.lcmp, 1) := by decide +kernel
theorem dJ9_min_f86c9_3 : decode cJ9_min_f86c9 3 = .ok (.ifCond .gt 7, 3) := by decide +kernel
theorem dJ9_min_f86c9_6 : decode cJ9_min_f86c9 6 = .ok (.lload_n 0, 1) := by decide +kernel
theorem dJ9_min_f86c9_7 : decode cJ9_min_f86c9 7 = .ok (.goto 4, 3) := by decide +kernel
theorem dJ9_min_f86c9_10 : decode cJ9_min_f86c9 10 = .ok (.lload_n 2, 1) := by decide +kernel
theorem dJ9_min_f86c9_11 : decode cJ9_min_f86c9 11 = .ok (.lreturn, 1) := by decide +kernel
theorem dJ0_length_8abf5_0 : decode cJ0_length_8abf5 0 = .ok (.aload_n 0, 1) := by decide +kernel
theorem dJ0_length_8abf5_1 : decode cJ0_length_8abf5 1 = .ok (.getfield 9, 3) := by decide +kernel
theorem dJ0_length_8abf5_4 : decode cJ0_length_8abf5 4 = .ok (.arraylength, 1) := by decide +kernel
theorem dJ0_length_8abf5_5 : decode cJ0_length_8abf5 5 = .ok (.aload_n 0, 1) := by decide +kernel
theorem dJ0_length_8abf5_6 : decode cJ0_length_8abf5 6 = .ok (.invokevirtual 335, 3) := by decide +kernel
theorem dJ0_length_8abf5_9 : decode cJ0_length_8abf5 9 = .ok (.ishr, 1) := by decide +kernel
theorem dJ0_length_8abf5_10 : decode cJ0_length_8abf5 10 = .ok (.ireturn, 1) := by decide +kernel
theorem dJ0_charAt_5068e_0 : decode cJ0_charAt_5068e 0 = .ok (.aload_n 0, 1) := by decide +kernel
theorem dJ0_charAt_5068e_1 : decode cJ0_charAt_5068e 1 = .ok (.invokevirtual 492, 3) := by decide +kernel
theorem dJ0_charAt_5068e_4 : decode cJ0_charAt_5068e 4 = .ok (.ifCond .eq 12, 3) := by decide +kernel
theorem dJ0_charAt_5068e_7 : decode cJ0_charAt_5068e 7 = .ok (.aload_n 0, 1) := by decide +kernel
theorem dJ0_charAt_5068e_8 : decode cJ0_charAt_5068e 8 = .ok (.getfield 9, 3) := by decide +kernel
theorem dJ0_charAt_5068e_11 : decode cJ0_charAt_5068e 11 = .ok (.iload_n 1, 1) := by decide +kernel
theorem dJ0_charAt_5068e_12 : decode cJ0_charAt_5068e 12 = .ok (.invokestatic 495, 3) := by decide +kernel
theorem dJ0_charAt_5068e_15 : decode cJ0_charAt_5068e 15 = .ok (.ireturn, 1) := by decide +kernel
theorem dJ0_charAt_5068e_16 : decode cJ0_charAt_5068e 16 = .ok (.aload_n 0, 1) := by decide +kernel
theorem dJ0_charAt_5068e_17 : decode cJ0_charAt_5068e 17 = .ok (.getfield 9, 3) := by decide +kernel
theorem dJ0_charAt_5068e_20 : decode cJ0_charAt_5068e 20 = .ok (.iload_n 1, 1) := by decide +kernel
theorem dJ0_charAt_5068e_21 : decode cJ0_charAt_5068e 21 = .ok (.invokestatic 498, 3) := by decide +kernel
theorem dJ0_charAt_5068e_24 : decode cJ0_charAt_5068e 24 = .ok (.ireturn, 1) := by decide +kernel
theorem dJ0_coder_7d493_0 : decode cJ0_coder_7d493 0 = .ok (.getstatic 38, 3) := by decide +kernel
theorem dJ0_coder_7d493_3 : decode cJ0_coder_7d493 3 = .ok (.ifCond .eq 10, 3) := by decide +kernel
theorem dJ0_coder_7d493_6 : decode cJ0_coder_7d493 6 = .ok (.aload_n 0, 1) := by decide +kernel
theorem dJ0_coder_7d493_7 : decode cJ0_coder_7d493 7 = .ok (.getfield 15, 3) := by decide +kernel
theorem dJ0_coder_7d493_10 : decode cJ0_coder_7d493 10 = .ok (.goto 4, 3) := by decide +kernel
theorem dJ0_coder_7d493_13 : decode cJ0_coder_7d493 13 = .ok (.iconst 1, 1) := by decide +kernel
theorem dJ0_coder_7d493_14 : decode cJ0_coder_7d493 14 = .ok (.ireturn, 1) := by decide +kernel
theorem dJ0_isLatin1_aae02_0 : decode cJ0_isLatin1_aae02 0 = .ok (.getstatic 38, 3) := by decide +kernel
theorem dJ0_isLatin1_aae02_3 : decode cJ0_isLatin1_aae02 3 = .ok (.ifCond .eq 14, 3) := by decide +kernel
theorem dJ0_isLatin1_aae02_6 : decode cJ0_isLatin1_aae02 6 = .ok (.aload_n 0, 1) := by decide +kernel
theorem dJ0_isLatin1_aae02_7 : decode cJ0_isLatin1_aae02 7 = .ok (.getfield 15, 3) := by decide +kernel
theorem dJ0_isLatin1_aae02_10 : decode cJ0_isLatin1_aae02 10 = .ok (.ifCond .ne 7, 3) := by decide +kernel
theorem dJ0_isLatin1_aae02_13 : decode cJ0_isLatin1_aae02 13 = .ok (.iconst 1, 1) := by decide +kernel
theorem dJ0_isLatin1_aae02_14 : decode cJ0_isLatin1_aae02 14 = .ok (.goto 4, 3) := by decide +kernel
theorem dJ0_isLatin1_aae02_17 : decode cJ0_isLatin1_aae02 17 = .ok (.iconst 0, 1) := by decide +kernel
theorem dJ0_isLatin1_aae02_18 : decode cJ0_isLatin1_aae02 18 = .ok (.ireturn, 1) := by decide +kernel
theorem dJ0_checkIndex_df160_0 : decode cJ0_checkIndex_df160 0 = .ok (.iload_n 0, 1) := by decide +kernel
theorem dJ0_checkIndex_df160_1 : decode cJ0_checkIndex_df160 1 = .ok (.iload_n 1, 1) := by decide +kernel
theorem dJ0_checkIndex_df160_2 : decode cJ0_checkIndex_df160 2 = .ok (.getstatic 1053, 3) := by decide +kernel
theorem dJ0_checkIndex_df160_5 : decode cJ0_checkIndex_df160 5 = .ok (.invokestatic 1059, 3) := by decide +kernel
theorem dJ0_checkIndex_df160_8 : decode cJ0_checkIndex_df160 8 = .ok (.pop, 1) := by decide +kernel
theorem dJ0_checkIndex_df160_9 : decode cJ0_checkIndex_df160 9 = .ok (.return_, 1) := by decide +kernel
theorem dJ1_charAt_3b067_0 : decode cJ1_charAt_3b067 0 = .ok (.iload_n 1, 1) := by decide +kernel
theorem dJ1_charAt_3b067_1 : decode cJ1_charAt_3b067 1 = .ok (.aload_n 0, 1) := by decide +kernel
theorem dJ1_charAt_3b067_2 : decode cJ1_charAt_3b067 2 = .ok (.arraylength, 1) := by decide +kernel
theorem dJ1_charAt_3b067_3 : decode cJ1_charAt_3b067 3 = .ok (.invokestatic 9, 3) := by decide +kernel
theorem dJ1_charAt_3b067_6 : decode cJ1_charAt_3b067 6 = .ok (.aload_n 0, 1) := by decide +kernel
theorem dJ1_charAt_3b067_7 : decode cJ1_charAt_3b067 7 = .ok (.iload_n 1, 1) := by decide +kernel
theorem dJ1_charAt_3b067_8 : decode cJ1_charAt_3b067 8 = .ok (.baload, 1) := by decide +kernel
theorem dJ1_charAt_3b067_9 : decode cJ1_charAt_3b067 9 = .ok (.sipush 255, 3) := by decide +kernel
theorem dJ1_charAt_3b067_12 : decode cJ1_charAt_3b067 12 = .ok (.iand, 1) := by decide +kernel
theorem dJ1_charAt_3b067_13 : decode cJ1_charAt_3b067 13 = .ok (.i2c, 1) := by decide +kernel
theorem dJ1_charAt_3b067_14 : decode cJ1_charAt_3b067 14 = .ok (.ireturn, 1) := by decide +kernel
theorem dJ2_getChar_3b067_0 : decode cJ2_getChar_3b067 0 = .ok (.getstatic 44, 3) := by decide +kernel
theorem dJ2_getChar_3b067_3 : decode cJ2_getChar_3b067 3 = .ok (.ifCond .ne 25, 3) := by decide +kernel
theorem dJ2_getChar_3b067_6 : decode cJ2_getChar_3b067 6 = .ok (.iload_n 1, 1) := by decide +kernel
theorem dJ2_getChar_3b067_7 : decode cJ2_getChar_3b067 7 = .ok (.ifCond .lt 11, 3) := by decide +kernel
theorem dJ2_getChar_3b067_10 : decode cJ2_getChar_3b067 10 = .ok (.iload_n 1, 1) := by decide +kernel
theorem dJ2_getChar_3b067_11 : decode cJ2_getChar_3b067 11 = .ok (.aload_n 0, 1) := by decide +kernel
theorem dJ2_getChar_3b067_12 : decode cJ2_getChar_3b067 12 = .ok (.invokestatic 48, 3) := by decide +kernel
theorem dJ2_getChar_3b067_15 : decode cJ2_getChar_3b067 15 = .ok (.if_icmp .lt 13, 3) := by decide +kernel
theorem dJ2_getChar_3b067_18 : decode cJ2_getChar_3b067 18 = .ok (.new 52, 3) := by decide +kernel
theorem dJ2_getChar_3b067_21 : decode cJ2_getChar_3b067 21 = .ok (.dup, 1) := by decide +kernel
theorem dJ2_getChar_3b067_22 : decode cJ2_getChar_3b067 22 = .ok (.ldc 54, 2) := by decide +kernel
theorem dJ2_getChar_3b067_24 : decode cJ2_getChar_3b067 24 = .ok (.invokespecial 56, 3) := by decide +kernel
theorem dJ2_getChar_3b067_27 : decode cJ2_getChar_3b067 27 = .ok (.athrow, 1) := by decide +kernel
theorem dJ2_getChar_3b067_28 : decode cJ2_getChar_3b067 28 = .ok (.iload_n 1, 1) := by decide +kernel
theorem dJ2_getChar_3b067_29 : decode cJ2_getChar_3b067 29 = .ok (.iconst 1, 1) := by decide +kernel
theorem dJ2_getChar_3b067_30 : decode cJ2_getChar_3b067 30 = .ok (.ishl, 1) := by decide +kernel
theorem dJ2_getChar_3b067_31 : decode cJ2_getChar_3b067 31 = .ok (.istore_n 1, 1) := by decide +kernel
theorem dJ2_getChar_3b067_32 : decode cJ2_getChar_3b067 32 = .ok (.aload_n 0, 1) := by decide +kernel
theorem dJ2_getChar_3b067_33 : decode cJ2_getChar_3b067 33 = .ok (.iload_n 1, 1) := by decide +kernel
theorem dJ2_getChar_3b067_34 : decode cJ2_getChar_3b067 34 = .ok (.iinc 1 1, 3) := by decide +kernel
theorem dJ2_getChar_3b067_37 : decode cJ2_getChar_3b067 37 = .ok (.baload, 1) := by decide +kernel
theorem dJ2_getChar_3b067_38 : decode cJ2_getChar_3b067 38 = .ok (.sipush 255, 3) := by decide +kernel
theorem dJ2_getChar_3b067_41 : decode cJ2_getChar_3b067 41 = .ok (.iand, 1) := by decide +kernel
theorem dJ2_getChar_3b067_42 : decode cJ2_getChar_3b067 42 = .ok (.getstatic 59, 3) := by decide +kernel
theorem dJ2_getChar_3b067_45 : decode cJ2_getChar_3b067 45 = .ok (.ishl, 1) := by decide +kernel
theorem dJ2_getChar_3b067_46 : decode cJ2_getChar_3b067 46 = .ok (.aload_n 0, 1) := by decide +kernel
theorem dJ2_getChar_3b067_47 : decode cJ2_getChar_3b067 47 = .ok (.iload_n 1, 1) := by decide +kernel
theorem dJ2_getChar_3b067_48 : decode cJ2_getChar_3b067 48 = .ok (.baload, 1) := by decide +kernel
theorem dJ2_getChar_3b067_49 : decode cJ2_getChar_3b067 49 = .ok (.sipush 255, 3) := by decide +kernel
theorem dJ2_getChar_3b067_52 : decode cJ2_getChar_3b067 52 = .ok (.iand, 1) := by decide +kernel
theorem dJ2_getChar_3b067_53 : decode cJ2_getChar_3b067 53 = .ok (.getstatic 63, 3) := by decide +kernel
theorem dJ2_getChar_3b067_56 : decode cJ2_getChar_3b067 56 = .ok (.ishl, 1) := by decide +kernel
theorem dJ2_getChar_3b067_57 : decode cJ2_getChar_3b067 57 = .ok (.ior, 1) := by decide +kernel
theorem dJ2_getChar_3b067_58 : decode cJ2_getChar_3b067 58 = .ok (.i2c, 1) := by decide +kernel
theorem dJ2_getChar_3b067_59 : decode cJ2_getChar_3b067 59 = .ok (.ireturn, 1) := by decide +kernel
theorem dJ2_length_9d52b_0 : decode cJ2_length_9d52b 0 = .ok (.aload_n 0, 1) := by decide +kernel
theorem dJ2_length_9d52b_1 : decode cJ2_length_9d52b 1 = .ok (.arraylength, 1) := by decide +kernel
theorem dJ2_length_9d52b_2 : decode cJ2_length_9d52b 2 = .ok (.iconst 1, 1) := by decide +kernel
theorem dJ2_length_9d52b_3 : decode cJ2_length_9d52b 3 = .ok (.ishr, 1) := by decide +kernel
theorem dJ2_length_9d52b_4 : decode cJ2_length_9d52b 4 = .ok (.ireturn, 1) := by decide +kernel
theorem dJ2_charAt_3b067_0 : decode cJ2_charAt_3b067 0 = .ok (.iload_n 1, 1) := by decide +kernel
theorem dJ2_charAt_3b067_1 : decode cJ2_charAt_3b067 1 = .ok (.aload_n 0, 1) := by decide +kernel
theorem dJ2_charAt_3b067_2 : decode cJ2_charAt_3b067 2 = .ok (.invokestatic 67, 3) := by decide +kernel
theorem dJ2_charAt_3b067_5 : decode cJ2_charAt_3b067 5 = .ok (.aload_n 0, 1) := by decide +kernel
theorem dJ2_charAt_3b067_6 : decode cJ2_charAt_3b067 6 = .ok (.iload_n 1, 1) := by decide +kernel
theorem dJ2_charAt_3b067_7 : decode cJ2_charAt_3b067 7 = .ok (.invokestatic 71, 3) := by decide +kernel
theorem dJ2_charAt_3b067_10 : decode cJ2_charAt_3b067 10 = .ok (.ireturn, 1) := by decide +kernel
theorem dJ2_checkIndex_2214a_0 : decode cJ2_checkIndex_2214a 0 = .ok (.iload_n 0, 1) := by decide +kernel
theorem dJ2_checkIndex_2214a_1 : decode cJ2_checkIndex_2214a 1 = .ok (.aload_n 1, 1) := by decide +kernel
theorem dJ2_checkIndex_2214a_2 : decode cJ2_checkIndex_2214a 2 = .ok (.invokestatic 48, 3) := by decide +kernel
theorem dJ2_checkIndex_2214a_5 : decode cJ2_checkIndex_2214a 5 = .ok (.invokestatic 414, 3) := by decide +kernel
theorem dJ2_checkIndex_2214a_8 : decode cJ2_checkIndex_2214a 8 = .ok (.return_, 1) := by decide +kernel
theorem dJ7_fill_d0a16_0 : decode cJ7_fill_d0a16 0 = .ok (.iconst 0, 1) := by decide +kernel
theorem dJ7_fill_d0a16_1 : decode cJ7_fill_d0a16 1 = .ok (.istore_n 3, 1) := by decide +kernel
theorem dJ7_fill_d0a16_2 : decode cJ7_fill_d0a16 2 = .ok (.aload_n 0, 1) := by decide +kernel
theorem dJ7_fill_d0a16_3 : decode cJ7_fill_d0a16 3 = .ok (.arraylength, 1) := by decide +kernel
theorem dJ7_fill_d0a16_4 : decode cJ7_fill_d0a16 4 = .ok (.istore 4, 2) := by decide +kernel
theorem dJ7_fill_d0a16_6 : decode cJ7_fill_d0a16 6 = .ok (.iload_n 3, 1) := by decide +kernel
theorem dJ7_fill_d0a16_7 : decode cJ7_fill_d0a16 7 = .ok (.iload 4, 2) := by decide +kernel
theorem dJ7_fill_d0a16_9 : decode cJ7_fill_d0a16 9 = .ok (.if_icmp .ge 13, 3) := by decide +kernel
theorem dJ7_fill_d0a16_12 : decode cJ7_fill_d0a16 12 = .ok (.aload_n 0, 1) := by decide +kernel
theorem dJ7_fill_d0a16_13 : decode cJ7_fill_d0a16 13 = .ok (.iload_n 3, 1) := by decide +kernel
theorem dJ7_fill_d0a16_14 : decode cJ7_fill_d0a16 14 = .ok (.lload_n 1, 1) := by decide +kernel
theorem dJ7_fill_d0a16_15 : decode cJ7_fill_d0a16 15 = .ok (.lastore, 1) := by decide +kernel
theorem dJ7_fill_d0a16_16 : decode cJ7_fill_d0a16 16 = .ok (.iinc 3 1, 3) := by decide +kernel
theorem dJ7_fill_d0a16_19 : decode cJ7_fill_d0a16 19 = .ok (.goto (-13), 3) := by decide +kernel
theorem dJ7_fill_d0a16_22 : decode cJ7_fill_d0a16 22 = .ok (.return_, 1) := by decide +kernel
theorem dJ7_fill_53178_0 : decode cJ7_fill_53178 0 = .ok (.iconst 0, 1) := by decide +kernel
theorem dJ7_fill_53178_1 : decode cJ7_fill_53178 1 = .ok (.istore_n 2, 1) := by decide +kernel
theorem dJ7_fill_53178_2 : decode cJ7_fill_53178 2 = .ok (.aload_n 0, 1) := by decide +kernel
theorem dJ7_fill_53178_3 : decode cJ7_fill_53178 3 = .ok (.arraylength, 1) := by decide +kernel
theorem dJ7_fill_53178_4 : decode cJ7_fill_53178 4 = .ok (.istore_n 3, 1) := by decide +kernel
theorem dJ7_fill_53178_5 : decode cJ7_fill_53178 5 = .ok (.iload_n 2, 1) := by decide +kernel
theorem dJ7_fill_53178_6 : decode cJ7_fill_53178 6 = .ok (.iload_n 3, 1) := by decide +kernel
theorem dJ7_fill_53178_7 : decode cJ7_fill_53178 7 = .ok (.if_icmp .ge 13, 3) := by decide +kernel
theorem dJ7_fill_53178_10 : decode cJ7_fill_53178 10 = .ok (.aload_n 0, 1) := by decide +kernel
theorem dJ7_fill_53178_11 : decode cJ7_fill_53178 11 = .ok (.iload_n 2, 1) := by decide +kernel
theorem dJ7_fill_53178_12 : decode cJ7_fill_53178 12 = .ok (.iload_n 1, 1) := by decide +kernel
theorem dJ7_fill_53178_13 : decode cJ7_fill_53178 13 = .ok (.iastore, 1) := by decide +kernel
theorem dJ7_fill_53178_14 : decode cJ7_fill_53178 14 = .ok (.iinc 2 1, 3) := by decide +kernel
theorem dJ7_fill_53178_17 : decode cJ7_fill_53178 17 = .ok (.goto (-12), 3) := by decide +kernel
theorem dJ7_fill_53178_20 : decode cJ7_fill_53178 20 = .ok (.return_, 1) := by decide +kernel
theorem dJ3_checkIndex_8e157_0 : decode cJ3_checkIndex_8e157 0 = .ok (.iload_n 0, 1) := by decide +kernel
theorem dJ3_checkIndex_8e157_1 : decode cJ3_checkIndex_8e157 1 = .ok (.ifCond .lt 8, 3) := by decide +kernel
theorem dJ3_checkIndex_8e157_4 : decode cJ3_checkIndex_8e157 4 = .ok (.iload_n 0, 1) := by decide +kernel
theorem dJ3_checkIndex_8e157_5 : decode cJ3_checkIndex_8e157 5 = .ok (.iload_n 1, 1) := by decide +kernel
theorem dJ3_checkIndex_8e157_6 : decode cJ3_checkIndex_8e157 6 = .ok (.if_icmp .lt 10, 3) := by decide +kernel
theorem dJ3_checkIndex_8e157_9 : decode cJ3_checkIndex_8e157 9 = .ok (.aload_n 2, 1) := by decide +kernel
theorem dJ3_checkIndex_8e157_10 : decode cJ3_checkIndex_8e157 10 = .ok (.iload_n 0, 1) := by decide +kernel
theorem dJ3_checkIndex_8e157_11 : decode cJ3_checkIndex_8e157 11 = .ok (.iload_n 1, 1) := by decide +kernel
theorem dJ3_checkIndex_8e157_12 : decode cJ3_checkIndex_8e157 12 = .ok (.invokestatic 95, 3) := by decide +kernel
theorem dJ3_checkIndex_8e157_15 : decode cJ3_checkIndex_8e157 15 = .ok (.athrow, 1) := by decide +kernel
theorem dJ3_checkIndex_8e157_16 : decode cJ3_checkIndex_8e157 16 = .ok (.iload_n 0, 1) := by decide +kernel
theorem dJ3_checkIndex_8e157_17 : decode cJ3_checkIndex_8e157 17 = .ok (.ireturn, 1) := by decide +kernel
theorem dL_law_0 : decode cL_law 0 = .ok (.new 7, 3) := by decide +kernel
theorem dL_law_3 : decode cL_law 3 = .ok (.dup, 1) := by decide +kernel
theorem dL_law_4 : decode cL_law 4 = .ok (.invokespecial 9, 3) := by decide +kernel
theorem dL_law_7 : decode cL_law 7 = .ok (.astore_n 1, 1) := by decide +kernel
theorem dL_law_8 : decode cL_law 8 = .ok (.new 10, 3) := by decide +kernel
theorem dL_law_11 : decode cL_law 11 = .ok (.dup, 1) := by decide +kernel
theorem dL_law_12 : decode cL_law 12 = .ok (.invokespecial 12, 3) := by decide +kernel
theorem dL_law_15 : decode cL_law 15 = .ok (.astore_n 2, 1) := by decide +kernel
theorem dL_law_16 : decode cL_law 16 = .ok (.iconst 0, 1) := by decide +kernel
theorem dL_law_17 : decode cL_law 17 = .ok (.istore_n 3, 1) := by decide +kernel
theorem dL_law_18 : decode cL_law 18 = .ok (.iload_n 3, 1) := by decide +kernel
theorem dL_law_19 : decode cL_law 19 = .ok (.aload_n 0, 1) := by decide +kernel
theorem dL_law_20 : decode cL_law 20 = .ok (.arraylength, 1) := by decide +kernel
theorem dL_law_21 : decode cL_law 21 = .ok (.iconst 5, 1) := by decide +kernel
theorem dL_law_22 : decode cL_law 22 = .ok (.isub, 1) := by decide +kernel
theorem dL_law_23 : decode cL_law 23 = .ok (.if_icmp .gt 748, 3) := by decide +kernel
theorem dL_law_26 : decode cL_law 26 = .ok (.aload_n 0, 1) := by decide +kernel
theorem dL_law_27 : decode cL_law 27 = .ok (.iload_n 3, 1) := by decide +kernel
theorem dL_law_28 : decode cL_law 28 = .ok (.iaload, 1) := by decide +kernel
theorem dL_law_29 : decode cL_law 29 = .ok (.bipush 31, 2) := by decide +kernel
theorem dL_law_31 : decode cL_law 31 = .ok (.iand, 1) := by decide +kernel
theorem dL_law_32 : decode cL_law 32 = .ok (.tableswitch 733 0 24 #[116, 179, 192, 205, 218, 251, 284, 307, 330, 343, 376, 409, 422, 435, 448, 461, 514, 547, 560, 574, 597, 641, 684, 697, 710], 116) := by decide +kernel
theorem dL_law_148 : decode cL_law 148 = .ok (.aload_n 1, 1) := by decide +kernel
theorem dL_law_149 : decode cL_law 149 = .ok (.aload_n 0, 1) := by decide +kernel
theorem dL_law_150 : decode cL_law 150 = .ok (.iload_n 3, 1) := by decide +kernel
theorem dL_law_151 : decode cL_law 151 = .ok (.iconst 1, 1) := by decide +kernel
theorem dL_law_152 : decode cL_law 152 = .ok (.iadd, 1) := by decide +kernel
theorem dL_law_153 : decode cL_law 153 = .ok (.iaload, 1) := by decide +kernel
theorem dL_law_154 : decode cL_law 154 = .ok (.aload_n 0, 1) := by decide +kernel
theorem dL_law_155 : decode cL_law 155 = .ok (.iload_n 3, 1) := by decide +kernel
theorem dL_law_156 : decode cL_law 156 = .ok (.iconst 2, 1) := by decide +kernel
theorem dL_law_157 : decode cL_law 157 = .ok (.iadd, 1) := by decide +kernel
theorem dL_law_158 : decode cL_law 158 = .ok (.iaload, 1) := by decide +kernel
theorem dL_law_159 : decode cL_law 159 = .ok (.i2l, 1) := by decide +kernel
theorem dL_law_160 : decode cL_law 160 = .ok (.bipush 32, 2) := by decide +kernel
theorem dL_law_162 : decode cL_law 162 = .ok (.lshl, 1) := by decide +kernel
theorem dL_law_163 : decode cL_law 163 = .ok (.aload_n 0, 1) := by decide +kernel
theorem dL_law_164 : decode cL_law 164 = .ok (.iload_n 3, 1) := by decide +kernel
theorem dL_law_165 : decode cL_law 165 = .ok (.iconst 3, 1) := by decide +kernel
theorem dL_law_166 : decode cL_law 166 = .ok (.iadd, 1) := by decide +kernel
theorem dL_law_167 : decode cL_law 167 = .ok (.iaload, 1) := by decide +kernel
theorem dL_law_168 : decode cL_law 168 = .ok (.i2l, 1) := by decide +kernel
theorem dL_law_169 : decode cL_law 169 = .ok (.ldc2_w 13, 3) := by decide +kernel
theorem dL_law_172 : decode cL_law 172 = .ok (.land, 1) := by decide +kernel
theorem dL_law_173 : decode cL_law 173 = .ok (.lor, 1) := by decide +kernel
theorem dL_law_174 : decode cL_law 174 = .ok (.invokevirtual 15, 3) := by decide +kernel
theorem dL_law_177 : decode cL_law 177 = .ok (.aload_n 2, 1) := by decide +kernel
theorem dL_law_178 : decode cL_law 178 = .ok (.aload_n 0, 1) := by decide +kernel
theorem dL_law_179 : decode cL_law 179 = .ok (.iload_n 3, 1) := by decide +kernel
theorem dL_law_180 : decode cL_law 180 = .ok (.iconst 1, 1) := by decide +kernel
theorem dL_law_181 : decode cL_law 181 = .ok (.iadd, 1) := by decide +kernel
theorem dL_law_182 : decode cL_law 182 = .ok (.iaload, 1) := by decide +kernel
theorem dL_law_183 : decode cL_law 183 = .ok (.aload_n 0, 1) := by decide +kernel
theorem dL_law_184 : decode cL_law 184 = .ok (.iload_n 3, 1) := by decide +kernel
theorem dL_law_185 : decode cL_law 185 = .ok (.iconst 2, 1) := by decide +kernel
theorem dL_law_186 : decode cL_law 186 = .ok (.iadd, 1) := by decide +kernel
theorem dL_law_187 : decode cL_law 187 = .ok (.iaload, 1) := by decide +kernel
theorem dL_law_188 : decode cL_law 188 = .ok (.i2l, 1) := by decide +kernel
theorem dL_law_189 : decode cL_law 189 = .ok (.bipush 32, 2) := by decide +kernel
theorem dL_law_191 : decode cL_law 191 = .ok (.lshl, 1) := by decide +kernel
theorem dL_law_192 : decode cL_law 192 = .ok (.aload_n 0, 1) := by decide +kernel
theorem dL_law_193 : decode cL_law 193 = .ok (.iload_n 3, 1) := by decide +kernel
theorem dL_law_194 : decode cL_law 194 = .ok (.iconst 3, 1) := by decide +kernel
theorem dL_law_195 : decode cL_law 195 = .ok (.iadd, 1) := by decide +kernel
theorem dL_law_196 : decode cL_law 196 = .ok (.iaload, 1) := by decide +kernel
theorem dL_law_197 : decode cL_law 197 = .ok (.i2l, 1) := by decide +kernel
theorem dL_law_198 : decode cL_law 198 = .ok (.ldc2_w 13, 3) := by decide +kernel
theorem dL_law_201 : decode cL_law 201 = .ok (.land, 1) := by decide +kernel
theorem dL_law_202 : decode cL_law 202 = .ok (.lor, 1) := by decide +kernel
theorem dL_law_203 : decode cL_law 203 = .ok (.invokevirtual 19, 3) := by decide +kernel
theorem dL_law_206 : decode cL_law 206 = .ok (.if_icmp .eq 559, 3) := by decide +kernel
theorem dL_law_209 : decode cL_law 209 = .ok (.iconst 0, 1) := by decide +kernel
theorem dL_law_210 : decode cL_law 210 = .ok (.ireturn, 1) := by decide +kernel
theorem dL_law_211 : decode cL_law 211 = .ok (.aload_n 1, 1) := by decide +kernel
theorem dL_law_212 : decode cL_law 212 = .ok (.invokevirtual 20, 3) := by decide +kernel
theorem dL_law_215 : decode cL_law 215 = .ok (.aload_n 2, 1) := by decide +kernel
theorem dL_law_216 : decode cL_law 216 = .ok (.invokevirtual 24, 3) := by decide +kernel
theorem dL_law_219 : decode cL_law 219 = .ok (.if_icmp .eq 546, 3) := by decide +kernel
theorem dL_law_222 : decode cL_law 222 = .ok (.iconst 0, 1) := by decide +kernel
theorem dL_law_223 : decode cL_law 223 = .ok (.ireturn, 1) := by decide +kernel
theorem dL_law_224 : decode cL_law 224 = .ok (.aload_n 1, 1) := by decide +kernel
theorem dL_law_225 : decode cL_law 225 = .ok (.invokevirtual 25, 3) := by decide +kernel
theorem dL_law_228 : decode cL_law 228 = .ok (.aload_n 2, 1) := by decide +kernel
theorem dL_law_229 : decode cL_law 229 = .ok (.invokevirtual 28, 3) := by decide +kernel
theorem dL_law_232 : decode cL_law 232 = .ok (.if_icmp .eq 533, 3) := by decide +kernel
theorem dL_law_235 : decode cL_law 235 = .ok (.iconst 0, 1) := by decide +kernel
theorem dL_law_236 : decode cL_law 236 = .ok (.ireturn, 1) := by decide +kernel
theorem dL_law_237 : decode cL_law 237 = .ok (.aload_n 1, 1) := by decide +kernel
theorem dL_law_238 : decode cL_law 238 = .ok (.invokevirtual 29, 3) := by decide +kernel
theorem dL_law_241 : decode cL_law 241 = .ok (.aload_n 2, 1) := by decide +kernel
theorem dL_law_242 : decode cL_law 242 = .ok (.invokevirtual 32, 3) := by decide +kernel
theorem dL_law_245 : decode cL_law 245 = .ok (.if_icmp .eq 520, 3) := by decide +kernel
theorem dL_law_248 : decode cL_law 248 = .ok (.iconst 0, 1) := by decide +kernel
theorem dL_law_249 : decode cL_law 249 = .ok (.ireturn, 1) := by decide +kernel
theorem dL_law_250 : decode cL_law 250 = .ok (.aload_n 1, 1) := by decide +kernel
theorem dL_law_251 : decode cL_law 251 = .ok (.aload_n 0, 1) := by decide +kernel
theorem dL_law_252 : decode cL_law 252 = .ok (.iload_n 3, 1) := by decide +kernel
theorem dL_law_253 : decode cL_law 253 = .ok (.iconst 1, 1) := by decide +kernel
theorem dL_law_254 : decode cL_law 254 = .ok (.iadd, 1) := by decide +kernel
theorem dL_law_255 : decode cL_law 255 = .ok (.iaload, 1) := by decide +kernel
theorem dL_law_256 : decode cL_law 256 = .ok (.aload_n 0, 1) := by decide +kernel
theorem dL_law_257 : decode cL_law 257 = .ok (.iload_n 3, 1) := by decide +kernel
theorem dL_law_258 : decode cL_law 258 = .ok (.iconst 2, 1) := by decide +kernel
theorem dL_law_259 : decode cL_law 259 = .ok (.iadd, 1) := by decide +kernel
theorem dL_law_260 : decode cL_law 260 = .ok (.iaload, 1) := by decide +kernel
theorem dL_law_261 : decode cL_law 261 = .ok (.invokevirtual 33, 3) := by decide +kernel
theorem dL_law_264 : decode cL_law 264 = .ok (.aload_n 2, 1) := by decide +kernel
theorem dL_law_265 : decode cL_law 265 = .ok (.aload_n 0, 1) := by decide +kernel
theorem dL_law_266 : decode cL_law 266 = .ok (.iload_n 3, 1) := by decide +kernel
theorem dL_law_267 : decode cL_law 267 = .ok (.iconst 1, 1) := by decide +kernel
theorem dL_law_268 : decode cL_law 268 = .ok (.iadd, 1) := by decide +kernel
theorem dL_law_269 : decode cL_law 269 = .ok (.iaload, 1) := by decide +kernel
theorem dL_law_270 : decode cL_law 270 = .ok (.aload_n 0, 1) := by decide +kernel
theorem dL_law_271 : decode cL_law 271 = .ok (.iload_n 3, 1) := by decide +kernel
theorem dL_law_272 : decode cL_law 272 = .ok (.iconst 2, 1) := by decide +kernel
theorem dL_law_273 : decode cL_law 273 = .ok (.iadd, 1) := by decide +kernel
theorem dL_law_274 : decode cL_law 274 = .ok (.iaload, 1) := by decide +kernel
theorem dL_law_275 : decode cL_law 275 = .ok (.invokevirtual 37, 3) := by decide +kernel
theorem dL_law_278 : decode cL_law 278 = .ok (.if_icmp .eq 487, 3) := by decide +kernel
theorem dL_law_281 : decode cL_law 281 = .ok (.iconst 0, 1) := by decide +kernel
theorem dL_law_282 : decode cL_law 282 = .ok (.ireturn, 1) := by decide +kernel
theorem dL_law_283 : decode cL_law 283 = .ok (.aload_n 1, 1) := by decide +kernel
theorem dL_law_284 : decode cL_law 284 = .ok (.aload_n 0, 1) := by decide +kernel
theorem dL_law_285 : decode cL_law 285 = .ok (.iload_n 3, 1) := by decide +kernel
theorem dL_law_286 : decode cL_law 286 = .ok (.iconst 1, 1) := by decide +kernel
theorem dL_law_287 : decode cL_law 287 = .ok (.iadd, 1) := by decide +kernel
theorem dL_law_288 : decode cL_law 288 = .ok (.iaload, 1) := by decide +kernel
theorem dL_law_289 : decode cL_law 289 = .ok (.aload_n 0, 1) := by decide +kernel
theorem dL_law_290 : decode cL_law 290 = .ok (.iload_n 3, 1) := by decide +kernel
theorem dL_law_291 : decode cL_law 291 = .ok (.iconst 2, 1) := by decide +kernel
theorem dL_law_292 : decode cL_law 292 = .ok (.iadd, 1) := by decide +kernel
theorem dL_law_293 : decode cL_law 293 = .ok (.iaload, 1) := by decide +kernel
theorem dL_law_294 : decode cL_law 294 = .ok (.invokevirtual 38, 3) := by decide +kernel
theorem dL_law_297 : decode cL_law 297 = .ok (.aload_n 2, 1) := by decide +kernel
theorem dL_law_298 : decode cL_law 298 = .ok (.aload_n 0, 1) := by decide +kernel
theorem dL_law_299 : decode cL_law 299 = .ok (.iload_n 3, 1) := by decide +kernel
theorem dL_law_300 : decode cL_law 300 = .ok (.iconst 1, 1) := by decide +kernel
theorem dL_law_301 : decode cL_law 301 = .ok (.iadd, 1) := by decide +kernel
theorem dL_law_302 : decode cL_law 302 = .ok (.iaload, 1) := by decide +kernel
theorem dL_law_303 : decode cL_law 303 = .ok (.aload_n 0, 1) := by decide +kernel
theorem dL_law_304 : decode cL_law 304 = .ok (.iload_n 3, 1) := by decide +kernel
theorem dL_law_305 : decode cL_law 305 = .ok (.iconst 2, 1) := by decide +kernel
theorem dL_law_306 : decode cL_law 306 = .ok (.iadd, 1) := by decide +kernel
theorem dL_law_307 : decode cL_law 307 = .ok (.iaload, 1) := by decide +kernel
theorem dL_law_308 : decode cL_law 308 = .ok (.invokevirtual 41, 3) := by decide +kernel
theorem dL_law_311 : decode cL_law 311 = .ok (.if_icmp .eq 454, 3) := by decide +kernel
theorem dL_law_314 : decode cL_law 314 = .ok (.iconst 0, 1) := by decide +kernel
theorem dL_law_315 : decode cL_law 315 = .ok (.ireturn, 1) := by decide +kernel
theorem dL_law_316 : decode cL_law 316 = .ok (.aload_n 1, 1) := by decide +kernel
theorem dL_law_317 : decode cL_law 317 = .ok (.aload_n 0, 1) := by decide +kernel
theorem dL_law_318 : decode cL_law 318 = .ok (.iload_n 3, 1) := by decide +kernel
theorem dL_law_319 : decode cL_law 319 = .ok (.iconst 1, 1) := by decide +kernel
theorem dL_law_320 : decode cL_law 320 = .ok (.iadd, 1) := by decide +kernel
theorem dL_law_321 : decode cL_law 321 = .ok (.iaload, 1) := by decide +kernel
theorem dL_law_322 : decode cL_law 322 = .ok (.invokevirtual 42, 3) := by decide +kernel
theorem dL_law_325 : decode cL_law 325 = .ok (.aload_n 2, 1) := by decide +kernel
theorem dL_law_326 : decode cL_law 326 = .ok (.aload_n 0, 1) := by decide +kernel
theorem dL_law_327 : decode cL_law 327 = .ok (.iload_n 3, 1) := by decide +kernel
theorem dL_law_328 : decode cL_law 328 = .ok (.iconst 1, 1) := by decide +kernel
theorem dL_law_329 : decode cL_law 329 = .ok (.iadd, 1) := by decide +kernel
theorem dL_law_330 : decode cL_law 330 = .ok (.iaload, 1) := by decide +kernel
theorem dL_law_331 : decode cL_law 331 = .ok (.invokevirtual 46, 3) := by decide +kernel
theorem dL_law_334 : decode cL_law 334 = .ok (.if_icmp .eq 431, 3) := by decide +kernel
theorem dL_law_337 : decode cL_law 337 = .ok (.iconst 0, 1) := by decide +kernel
theorem dL_law_338 : decode cL_law 338 = .ok (.ireturn, 1) := by decide +kernel
theorem dL_law_339 : decode cL_law 339 = .ok (.aload_n 1, 1) := by decide +kernel
theorem dL_law_340 : decode cL_law 340 = .ok (.aload_n 0, 1) := by decide +kernel
theorem dL_law_341 : decode cL_law 341 = .ok (.iload_n 3, 1) := by decide +kernel
theorem dL_law_342 : decode cL_law 342 = .ok (.iconst 1, 1) := by decide +kernel
theorem dL_law_343 : decode cL_law 343 = .ok (.iadd, 1) := by decide +kernel
theorem dL_law_344 : decode cL_law 344 = .ok (.iaload, 1) := by decide +kernel
theorem dL_law_345 : decode cL_law 345 = .ok (.invokevirtual 47, 3) := by decide +kernel
theorem dL_law_348 : decode cL_law 348 = .ok (.aload_n 2, 1) := by decide +kernel
theorem dL_law_349 : decode cL_law 349 = .ok (.aload_n 0, 1) := by decide +kernel
theorem dL_law_350 : decode cL_law 350 = .ok (.iload_n 3, 1) := by decide +kernel
theorem dL_law_351 : decode cL_law 351 = .ok (.iconst 1, 1) := by decide +kernel
theorem dL_law_352 : decode cL_law 352 = .ok (.iadd, 1) := by decide +kernel
theorem dL_law_353 : decode cL_law 353 = .ok (.iaload, 1) := by decide +kernel
theorem dL_law_354 : decode cL_law 354 = .ok (.invokevirtual 50, 3) := by decide +kernel
theorem dL_law_357 : decode cL_law 357 = .ok (.if_icmp .eq 408, 3) := by decide +kernel
theorem dL_law_360 : decode cL_law 360 = .ok (.iconst 0, 1) := by decide +kernel
theorem dL_law_361 : decode cL_law 361 = .ok (.ireturn, 1) := by decide +kernel
theorem dL_law_362 : decode cL_law 362 = .ok (.aload_n 1, 1) := by decide +kernel
theorem dL_law_363 : decode cL_law 363 = .ok (.invokevirtual 51, 3) := by decide +kernel
theorem dL_law_366 : decode cL_law 366 = .ok (.aload_n 2, 1) := by decide +kernel
theorem dL_law_367 : decode cL_law 367 = .ok (.invokevirtual 54, 3) := by decide +kernel
theorem dL_law_370 : decode cL_law 370 = .ok (.if_icmp .eq 395, 3) := by decide +kernel
theorem dL_law_373 : decode cL_law 373 = .ok (.iconst 0, 1) := by decide +kernel
theorem dL_law_374 : decode cL_law 374 = .ok (.ireturn, 1) := by decide +kernel
theorem dL_law_375 : decode cL_law 375 = .ok (.aload_n 1, 1) := by decide +kernel
theorem dL_law_376 : decode cL_law 376 = .ok (.aload_n 0, 1) := by decide +kernel
theorem dL_law_377 : decode cL_law 377 = .ok (.iload_n 3, 1) := by decide +kernel
theorem dL_law_378 : decode cL_law 378 = .ok (.iconst 1, 1) := by decide +kernel
theorem dL_law_379 : decode cL_law 379 = .ok (.iadd, 1) := by decide +kernel
theorem dL_law_380 : decode cL_law 380 = .ok (.iaload, 1) := by decide +kernel
theorem dL_law_381 : decode cL_law 381 = .ok (.aload_n 0, 1) := by decide +kernel
theorem dL_law_382 : decode cL_law 382 = .ok (.iload_n 3, 1) := by decide +kernel
theorem dL_law_383 : decode cL_law 383 = .ok (.iconst 2, 1) := by decide +kernel
theorem dL_law_384 : decode cL_law 384 = .ok (.iadd, 1) := by decide +kernel
theorem dL_law_385 : decode cL_law 385 = .ok (.iaload, 1) := by decide +kernel
theorem dL_law_386 : decode cL_law 386 = .ok (.invokevirtual 55, 3) := by decide +kernel
theorem dL_law_389 : decode cL_law 389 = .ok (.aload_n 2, 1) := by decide +kernel
theorem dL_law_390 : decode cL_law 390 = .ok (.aload_n 0, 1) := by decide +kernel
theorem dL_law_391 : decode cL_law 391 = .ok (.iload_n 3, 1) := by decide +kernel
theorem dL_law_392 : decode cL_law 392 = .ok (.iconst 1, 1) := by decide +kernel
theorem dL_law_393 : decode cL_law 393 = .ok (.iadd, 1) := by decide +kernel
theorem dL_law_394 : decode cL_law 394 = .ok (.iaload, 1) := by decide +kernel
theorem dL_law_395 : decode cL_law 395 = .ok (.aload_n 0, 1) := by decide +kernel
theorem dL_law_396 : decode cL_law 396 = .ok (.iload_n 3, 1) := by decide +kernel
theorem dL_law_397 : decode cL_law 397 = .ok (.iconst 2, 1) := by decide +kernel
theorem dL_law_398 : decode cL_law 398 = .ok (.iadd, 1) := by decide +kernel
theorem dL_law_399 : decode cL_law 399 = .ok (.iaload, 1) := by decide +kernel
theorem dL_law_400 : decode cL_law 400 = .ok (.invokevirtual 58, 3) := by decide +kernel
theorem dL_law_403 : decode cL_law 403 = .ok (.if_icmp .eq 362, 3) := by decide +kernel
theorem dL_law_406 : decode cL_law 406 = .ok (.iconst 0, 1) := by decide +kernel
theorem dL_law_407 : decode cL_law 407 = .ok (.ireturn, 1) := by decide +kernel
theorem dL_law_408 : decode cL_law 408 = .ok (.aload_n 1, 1) := by decide +kernel
theorem dL_law_409 : decode cL_law 409 = .ok (.aload_n 0, 1) := by decide +kernel
theorem dL_law_410 : decode cL_law 410 = .ok (.iload_n 3, 1) := by decide +kernel
theorem dL_law_411 : decode cL_law 411 = .ok (.iconst 1, 1) := by decide +kernel
theorem dL_law_412 : decode cL_law 412 = .ok (.iadd, 1) := by decide +kernel
theorem dL_law_413 : decode cL_law 413 = .ok (.iaload, 1) := by decide +kernel
theorem dL_law_414 : decode cL_law 414 = .ok (.aload_n 0, 1) := by decide +kernel
theorem dL_law_415 : decode cL_law 415 = .ok (.iload_n 3, 1) := by decide +kernel
theorem dL_law_416 : decode cL_law 416 = .ok (.iconst 2, 1) := by decide +kernel
theorem dL_law_417 : decode cL_law 417 = .ok (.iadd, 1) := by decide +kernel
theorem dL_law_418 : decode cL_law 418 = .ok (.iaload, 1) := by decide +kernel
theorem dL_law_419 : decode cL_law 419 = .ok (.invokevirtual 59, 3) := by decide +kernel
theorem dL_law_422 : decode cL_law 422 = .ok (.aload_n 2, 1) := by decide +kernel
theorem dL_law_423 : decode cL_law 423 = .ok (.aload_n 0, 1) := by decide +kernel
theorem dL_law_424 : decode cL_law 424 = .ok (.iload_n 3, 1) := by decide +kernel
theorem dL_law_425 : decode cL_law 425 = .ok (.iconst 1, 1) := by decide +kernel
theorem dL_law_426 : decode cL_law 426 = .ok (.iadd, 1) := by decide +kernel
theorem dL_law_427 : decode cL_law 427 = .ok (.iaload, 1) := by decide +kernel
theorem dL_law_428 : decode cL_law 428 = .ok (.aload_n 0, 1) := by decide +kernel
theorem dL_law_429 : decode cL_law 429 = .ok (.iload_n 3, 1) := by decide +kernel
theorem dL_law_430 : decode cL_law 430 = .ok (.iconst 2, 1) := by decide +kernel
theorem dL_law_431 : decode cL_law 431 = .ok (.iadd, 1) := by decide +kernel
theorem dL_law_432 : decode cL_law 432 = .ok (.iaload, 1) := by decide +kernel
theorem dL_law_433 : decode cL_law 433 = .ok (.invokevirtual 62, 3) := by decide +kernel
theorem dL_law_436 : decode cL_law 436 = .ok (.if_icmp .eq 329, 3) := by decide +kernel
theorem dL_law_439 : decode cL_law 439 = .ok (.iconst 0, 1) := by decide +kernel
theorem dL_law_440 : decode cL_law 440 = .ok (.ireturn, 1) := by decide +kernel
theorem dL_law_441 : decode cL_law 441 = .ok (.aload_n 1, 1) := by decide +kernel
theorem dL_law_442 : decode cL_law 442 = .ok (.invokevirtual 63, 3) := by decide +kernel
theorem dL_law_445 : decode cL_law 445 = .ok (.aload_n 2, 1) := by decide +kernel
theorem dL_law_446 : decode cL_law 446 = .ok (.invokevirtual 66, 3) := by decide +kernel
theorem dL_law_449 : decode cL_law 449 = .ok (.if_icmp .eq 316, 3) := by decide +kernel
theorem dL_law_452 : decode cL_law 452 = .ok (.iconst 0, 1) := by decide +kernel
theorem dL_law_453 : decode cL_law 453 = .ok (.ireturn, 1) := by decide +kernel
theorem dL_law_454 : decode cL_law 454 = .ok (.aload_n 1, 1) := by decide +kernel
theorem dL_law_455 : decode cL_law 455 = .ok (.invokevirtual 67, 3) := by decide +kernel
theorem dL_law_458 : decode cL_law 458 = .ok (.aload_n 2, 1) := by decide +kernel
theorem dL_law_459 : decode cL_law 459 = .ok (.invokevirtual 70, 3) := by decide +kernel
theorem dL_law_462 : decode cL_law 462 = .ok (.if_icmp .eq 303, 3) := by decide +kernel
theorem dL_law_465 : decode cL_law 465 = .ok (.iconst 0, 1) := by decide +kernel
theorem dL_law_466 : decode cL_law 466 = .ok (.ireturn, 1) := by decide +kernel
theorem dL_law_467 : decode cL_law 467 = .ok (.aload_n 1, 1) := by decide +kernel
theorem dL_law_468 : decode cL_law 468 = .ok (.invokevirtual 71, 3) := by decide +kernel
theorem dL_law_471 : decode cL_law 471 = .ok (.aload_n 2, 1) := by decide +kernel
theorem dL_law_472 : decode cL_law 472 = .ok (.invokevirtual 74, 3) := by decide +kernel
theorem dL_law_475 : decode cL_law 475 = .ok (.if_icmp .eq 290, 3) := by decide +kernel
theorem dL_law_478 : decode cL_law 478 = .ok (.iconst 0, 1) := by decide +kernel
theorem dL_law_479 : decode cL_law 479 = .ok (.ireturn, 1) := by decide +kernel
theorem dL_law_480 : decode cL_law 480 = .ok (.aload_n 1, 1) := by decide +kernel
theorem dL_law_481 : decode cL_law 481 = .ok (.invokevirtual 75, 3) := by decide +kernel
theorem dL_law_484 : decode cL_law 484 = .ok (.aload_n 2, 1) := by decide +kernel
theorem dL_law_485 : decode cL_law 485 = .ok (.invokevirtual 78, 3) := by decide +kernel
theorem dL_law_488 : decode cL_law 488 = .ok (.if_icmp .eq 277, 3) := by decide +kernel
theorem dL_law_491 : decode cL_law 491 = .ok (.iconst 0, 1) := by decide +kernel
theorem dL_law_492 : decode cL_law 492 = .ok (.ireturn, 1) := by decide +kernel
theorem dL_law_493 : decode cL_law 493 = .ok (.aload_n 1, 1) := by decide +kernel
theorem dL_law_494 : decode cL_law 494 = .ok (.aload_n 0, 1) := by decide +kernel
theorem dL_law_495 : decode cL_law 495 = .ok (.iload_n 3, 1) := by decide +kernel
theorem dL_law_496 : decode cL_law 496 = .ok (.iconst 1, 1) := by decide +kernel
theorem dL_law_497 : decode cL_law 497 = .ok (.iadd, 1) := by decide +kernel
theorem dL_law_498 : decode cL_law 498 = .ok (.iaload, 1) := by decide +kernel
theorem dL_law_499 : decode cL_law 499 = .ok (.aload_n 0, 1) := by decide +kernel
theorem dL_law_500 : decode cL_law 500 = .ok (.iload_n 3, 1) := by decide +kernel
theorem dL_law_501 : decode cL_law 501 = .ok (.iconst 2, 1) := by decide +kernel
theorem dL_law_502 : decode cL_law 502 = .ok (.iadd, 1) := by decide +kernel
theorem dL_law_503 : decode cL_law 503 = .ok (.iaload, 1) := by decide +kernel
theorem dL_law_504 : decode cL_law 504 = .ok (.aload_n 0, 1) := by decide +kernel
theorem dL_law_505 : decode cL_law 505 = .ok (.iload_n 3, 1) := by decide +kernel
theorem dL_law_506 : decode cL_law 506 = .ok (.iconst 3, 1) := by decide +kernel
theorem dL_law_507 : decode cL_law 507 = .ok (.iadd, 1) := by decide +kernel
theorem dL_law_508 : decode cL_law 508 = .ok (.iaload, 1) := by decide +kernel
theorem dL_law_509 : decode cL_law 509 = .ok (.aload_n 0, 1) := by decide +kernel
theorem dL_law_510 : decode cL_law 510 = .ok (.iload_n 3, 1) := by decide +kernel
theorem dL_law_511 : decode cL_law 511 = .ok (.iconst 4, 1) := by decide +kernel
theorem dL_law_512 : decode cL_law 512 = .ok (.iadd, 1) := by decide +kernel
theorem dL_law_513 : decode cL_law 513 = .ok (.iaload, 1) := by decide +kernel
theorem dL_law_514 : decode cL_law 514 = .ok (.invokevirtual 79, 3) := by decide +kernel
theorem dL_law_517 : decode cL_law 517 = .ok (.aload_n 2, 1) := by decide +kernel
theorem dL_law_518 : decode cL_law 518 = .ok (.aload_n 0, 1) := by decide +kernel
theorem dL_law_519 : decode cL_law 519 = .ok (.iload_n 3, 1) := by decide +kernel
theorem dL_law_520 : decode cL_law 520 = .ok (.iconst 1, 1) := by decide +kernel
theorem dL_law_521 : decode cL_law 521 = .ok (.iadd, 1) := by decide +kernel
theorem dL_law_522 : decode cL_law 522 = .ok (.iaload, 1) := by decide +kernel
theorem dL_law_523 : decode cL_law 523 = .ok (.aload_n 0, 1) := by decide +kernel
theorem dL_law_524 : decode cL_law 524 = .ok (.iload_n 3, 1) := by decide +kernel
theorem dL_law_525 : decode cL_law 525 = .ok (.iconst 2, 1) := by decide +kernel
theorem dL_law_526 : decode cL_law 526 = .ok (.iadd, 1) := by decide +kernel
theorem dL_law_527 : decode cL_law 527 = .ok (.iaload, 1) := by decide +kernel
theorem dL_law_528 : decode cL_law 528 = .ok (.aload_n 0, 1) := by decide +kernel
theorem dL_law_529 : decode cL_law 529 = .ok (.iload_n 3, 1) := by decide +kernel
