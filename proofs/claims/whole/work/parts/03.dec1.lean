theorem dX6_has_23 : decode cX6_has 23 = .ok (.bipush 32, 2) := by decide +kernel
theorem dX6_has_25 : decode cX6_has 25 = .ok (.irem, 1) := by decide +kernel
theorem dX6_has_26 : decode cX6_has 26 = .ok (.iushr, 1) := by decide +kernel
theorem dX6_has_27 : decode cX6_has 27 = .ok (.iconst 1, 1) := by decide +kernel
theorem dX6_has_28 : decode cX6_has 28 = .ok (.iand, 1) := by decide +kernel
theorem dX6_has_29 : decode cX6_has 29 = .ok (.ifCond .eq 7, 3) := by decide +kernel
theorem dX6_has_32 : decode cX6_has 32 = .ok (.iconst 1, 1) := by decide +kernel
theorem dX6_has_33 : decode cX6_has 33 = .ok (.goto 4, 3) := by decide +kernel
theorem dX6_has_36 : decode cX6_has 36 = .ok (.iconst 0, 1) := by decide +kernel
theorem dX6_has_37 : decode cX6_has 37 = .ok (.ireturn, 1) := by decide +kernel
theorem dX6_add_0 : decode cX6_add 0 = .ok (.iload_n 1, 1) := by decide +kernel
theorem dX6_add_1 : decode cX6_add 1 = .ok (.iload_n 2, 1) := by decide +kernel
theorem dX6_add_2 : decode cX6_add 2 = .ok (.invokestatic 21, 3) := by decide +kernel
theorem dX6_add_5 : decode cX6_add 5 = .ok (.ifCond .eq 26, 3) := by decide +kernel
theorem dX6_add_8 : decode cX6_add 8 = .ok (.aload_n 0, 1) := by decide +kernel
theorem dX6_add_9 : decode cX6_add 9 = .ok (.getfield 11, 3) := by decide +kernel
theorem dX6_add_12 : decode cX6_add 12 = .ok (.iload_n 1, 1) := by decide +kernel
theorem dX6_add_13 : decode cX6_add 13 = .ok (.bipush 30, 2) := by decide +kernel
theorem dX6_add_15 : decode cX6_add 15 = .ok (.imul, 1) := by decide +kernel
theorem dX6_add_16 : decode cX6_add 16 = .ok (.iload_n 2, 1) := by decide +kernel
theorem dX6_add_17 : decode cX6_add 17 = .ok (.bipush 32, 2) := by decide +kernel
theorem dX6_add_19 : decode cX6_add 19 = .ok (.idiv, 1) := by decide +kernel
theorem dX6_add_20 : decode cX6_add 20 = .ok (.iadd, 1) := by decide +kernel
theorem dX6_add_21 : decode cX6_add 21 = .ok (.dup2, 1) := by decide +kernel
theorem dX6_add_22 : decode cX6_add 22 = .ok (.iaload, 1) := by decide +kernel
theorem dX6_add_23 : decode cX6_add 23 = .ok (.iconst 1, 1) := by decide +kernel
theorem dX6_add_24 : decode cX6_add 24 = .ok (.iload_n 2, 1) := by decide +kernel
theorem dX6_add_25 : decode cX6_add 25 = .ok (.bipush 32, 2) := by decide +kernel
theorem dX6_add_27 : decode cX6_add 27 = .ok (.irem, 1) := by decide +kernel
theorem dX6_add_28 : decode cX6_add 28 = .ok (.ishl, 1) := by decide +kernel
theorem dX6_add_29 : decode cX6_add 29 = .ok (.ior, 1) := by decide +kernel
theorem dX6_add_30 : decode cX6_add 30 = .ok (.iastore, 1) := by decide +kernel
theorem dX6_add_31 : decode cX6_add 31 = .ok (.return_, 1) := by decide +kernel
theorem dX6_remove_0 : decode cX6_remove 0 = .ok (.iload_n 1, 1) := by decide +kernel
theorem dX6_remove_1 : decode cX6_remove 1 = .ok (.iload_n 2, 1) := by decide +kernel
theorem dX6_remove_2 : decode cX6_remove 2 = .ok (.invokestatic 21, 3) := by decide +kernel
theorem dX6_remove_5 : decode cX6_remove 5 = .ok (.ifCond .eq 28, 3) := by decide +kernel
theorem dX6_remove_8 : decode cX6_remove 8 = .ok (.aload_n 0, 1) := by decide +kernel
theorem dX6_remove_9 : decode cX6_remove 9 = .ok (.getfield 11, 3) := by decide +kernel
theorem dX6_remove_12 : decode cX6_remove 12 = .ok (.iload_n 1, 1) := by decide +kernel
theorem dX6_remove_13 : decode cX6_remove 13 = .ok (.bipush 30, 2) := by decide +kernel
theorem dX6_remove_15 : decode cX6_remove 15 = .ok (.imul, 1) := by decide +kernel
theorem dX6_remove_16 : decode cX6_remove 16 = .ok (.iload_n 2, 1) := by decide +kernel
theorem dX6_remove_17 : decode cX6_remove 17 = .ok (.bipush 32, 2) := by decide +kernel
theorem dX6_remove_19 : decode cX6_remove 19 = .ok (.idiv, 1) := by decide +kernel
theorem dX6_remove_20 : decode cX6_remove 20 = .ok (.iadd, 1) := by decide +kernel
theorem dX6_remove_21 : decode cX6_remove 21 = .ok (.dup2, 1) := by decide +kernel
theorem dX6_remove_22 : decode cX6_remove 22 = .ok (.iaload, 1) := by decide +kernel
theorem dX6_remove_23 : decode cX6_remove 23 = .ok (.iconst 1, 1) := by decide +kernel
theorem dX6_remove_24 : decode cX6_remove 24 = .ok (.iload_n 2, 1) := by decide +kernel
theorem dX6_remove_25 : decode cX6_remove 25 = .ok (.bipush 32, 2) := by decide +kernel
theorem dX6_remove_27 : decode cX6_remove 27 = .ok (.irem, 1) := by decide +kernel
theorem dX6_remove_28 : decode cX6_remove 28 = .ok (.ishl, 1) := by decide +kernel
theorem dX6_remove_29 : decode cX6_remove 29 = .ok (.iconst (-1), 1) := by decide +kernel
theorem dX6_remove_30 : decode cX6_remove 30 = .ok (.ixor, 1) := by decide +kernel
theorem dX6_remove_31 : decode cX6_remove 31 = .ok (.iand, 1) := by decide +kernel
theorem dX6_remove_32 : decode cX6_remove 32 = .ok (.iastore, 1) := by decide +kernel
theorem dX6_remove_33 : decode cX6_remove 33 = .ok (.return_, 1) := by decide +kernel
theorem dX6_isOne_0 : decode cX6_isOne 0 = .ok (.iload_n 0, 1) := by decide +kernel
theorem dX6_isOne_1 : decode cX6_isOne 1 = .ok (.ifCond .lt 24, 3) := by decide +kernel
theorem dX6_isOne_4 : decode cX6_isOne 4 = .ok (.iload_n 0, 1) := by decide +kernel
theorem dX6_isOne_5 : decode cX6_isOne 5 = .ok (.bipush 12, 2) := by decide +kernel
theorem dX6_isOne_7 : decode cX6_isOne 7 = .ok (.if_icmp .gt 18, 3) := by decide +kernel
theorem dX6_isOne_10 : decode cX6_isOne 10 = .ok (.iload_n 1, 1) := by decide +kernel
theorem dX6_isOne_11 : decode cX6_isOne 11 = .ok (.ifCond .lt 14, 3) := by decide +kernel
theorem dX6_isOne_14 : decode cX6_isOne 14 = .ok (.iload_n 1, 1) := by decide +kernel
theorem dX6_isOne_15 : decode cX6_isOne 15 = .ok (.sipush 960, 3) := by decide +kernel
theorem dX6_isOne_18 : decode cX6_isOne 18 = .ok (.if_icmp .ge 7, 3) := by decide +kernel
theorem dX6_isOne_21 : decode cX6_isOne 21 = .ok (.iconst 1, 1) := by decide +kernel
theorem dX6_isOne_22 : decode cX6_isOne 22 = .ok (.goto 4, 3) := by decide +kernel
theorem dX6_isOne_25 : decode cX6_isOne 25 = .ok (.iconst 0, 1) := by decide +kernel
theorem dX6_isOne_26 : decode cX6_isOne 26 = .ok (.ireturn, 1) := by decide +kernel
theorem dX7_init_0 : decode cX7_init 0 = .ok (.aload_n 0, 1) := by decide +kernel
theorem dX7_init_1 : decode cX7_init 1 = .ok (.invokespecial 3, 3) := by decide +kernel
theorem dX7_init_4 : decode cX7_init 4 = .ok (.aload_n 0, 1) := by decide +kernel
theorem dX7_init_5 : decode cX7_init 5 = .ok (.new 9, 3) := by decide +kernel
theorem dX7_init_8 : decode cX7_init 8 = .ok (.dup, 1) := by decide +kernel
theorem dX7_init_9 : decode cX7_init 9 = .ok (.invokespecial 11, 3) := by decide +kernel
theorem dX7_init_12 : decode cX7_init 12 = .ok (.putfield 12, 3) := by decide +kernel
theorem dX7_init_15 : decode cX7_init 15 = .ok (.aload_n 0, 1) := by decide +kernel
theorem dX7_init_16 : decode cX7_init 16 = .ok (.new 9, 3) := by decide +kernel
theorem dX7_init_19 : decode cX7_init 19 = .ok (.dup, 1) := by decide +kernel
theorem dX7_init_20 : decode cX7_init 20 = .ok (.invokespecial 11, 3) := by decide +kernel
theorem dX7_init_23 : decode cX7_init 23 = .ok (.putfield 18, 3) := by decide +kernel
theorem dX7_init_26 : decode cX7_init 26 = .ok (.return_, 1) := by decide +kernel
theorem dX7_cheapest_0 : decode cX7_cheapest 0 = .ok (.aload_n 0, 1) := by decide +kernel
theorem dX7_cheapest_1 : decode cX7_cheapest 1 = .ok (.iconst 0, 1) := by decide +kernel
theorem dX7_cheapest_2 : decode cX7_cheapest 2 = .ok (.iconst (-1), 1) := by decide +kernel
theorem dX7_cheapest_3 : decode cX7_cheapest 3 = .ok (.invokevirtual 21, 3) := by decide +kernel
theorem dX7_cheapest_6 : decode cX7_cheapest 6 = .ok (.aload_n 0, 1) := by decide +kernel
theorem dX7_cheapest_7 : decode cX7_cheapest 7 = .ok (.getfield 12, 3) := by decide +kernel
theorem dX7_cheapest_10 : decode cX7_cheapest 10 = .ok (.aload_n 2, 1) := by decide +kernel
theorem dX7_cheapest_11 : decode cX7_cheapest 11 = .ok (.getfield 25, 3) := by decide +kernel
theorem dX7_cheapest_14 : decode cX7_cheapest 14 = .ok (.lconst 0, 1) := by decide +kernel
theorem dX7_cheapest_15 : decode cX7_cheapest 15 = .ok (.iconst 1, 1) := by decide +kernel
theorem dX7_cheapest_16 : decode cX7_cheapest 16 = .ok (.invokevirtual 31, 3) := by decide +kernel
theorem dX7_cheapest_19 : decode cX7_cheapest 19 = .ok (.aload_n 0, 1) := by decide +kernel
theorem dX7_cheapest_20 : decode cX7_cheapest 20 = .ok (.aload_n 1, 1) := by decide +kernel
theorem dX7_cheapest_21 : decode cX7_cheapest 21 = .ok (.aload_n 2, 1) := by decide +kernel
theorem dX7_cheapest_22 : decode cX7_cheapest 22 = .ok (.getfield 35, 3) := by decide +kernel
theorem dX7_cheapest_25 : decode cX7_cheapest 25 = .ok (.aload_n 3, 1) := by decide +kernel
theorem dX7_cheapest_26 : decode cX7_cheapest 26 = .ok (.invokevirtual 38, 3) := by decide +kernel
theorem dX7_cheapest_29 : decode cX7_cheapest 29 = .ok (.ireturn, 1) := by decide +kernel
theorem dX7_leastCost_0 : decode cX7_leastCost 0 = .ok (.aload_n 0, 1) := by decide +kernel
theorem dX7_leastCost_1 : decode cX7_leastCost 1 = .ok (.getfield 12, 3) := by decide +kernel
theorem dX7_leastCost_4 : decode cX7_leastCost 4 = .ok (.invokevirtual 42, 3) := by decide +kernel
theorem dX7_leastCost_7 : decode cX7_leastCost 7 = .ok (.ldc2_w 46, 3) := by decide +kernel
theorem dX7_leastCost_10 : decode cX7_leastCost 10 = .ok (.ldiv, 1) := by decide +kernel
theorem dX7_leastCost_11 : decode cX7_leastCost 11 = .ok (.l2i, 1) := by decide +kernel
theorem dX7_leastCost_12 : decode cX7_leastCost 12 = .ok (.ireturn, 1) := by decide +kernel
theorem dX7_firstFeeder_0 : decode cX7_firstFeeder 0 = .ok (.aload_n 0, 1) := by decide +kernel
theorem dX7_firstFeeder_1 : decode cX7_firstFeeder 1 = .ok (.getfield 12, 3) := by decide +kernel
theorem dX7_firstFeeder_4 : decode cX7_firstFeeder 4 = .ok (.invokevirtual 42, 3) := by decide +kernel
theorem dX7_firstFeeder_7 : decode cX7_firstFeeder 7 = .ok (.ldc2_w 46, 3) := by decide +kernel
theorem dX7_firstFeeder_10 : decode cX7_firstFeeder 10 = .ok (.lrem, 1) := by decide +kernel
theorem dX7_firstFeeder_11 : decode cX7_firstFeeder 11 = .ok (.l2i, 1) := by decide +kernel
theorem dX7_firstFeeder_12 : decode cX7_firstFeeder 12 = .ok (.iconst 1, 1) := by decide +kernel
theorem dX7_firstFeeder_13 : decode cX7_firstFeeder 13 = .ok (.isub, 1) := by decide +kernel
theorem dX7_firstFeeder_14 : decode cX7_firstFeeder 14 = .ok (.ireturn, 1) := by decide +kernel
theorem dX7_ways_0 : decode cX7_ways 0 = .ok (.aload_n 0, 1) := by decide +kernel
theorem dX7_ways_1 : decode cX7_ways 1 = .ok (.iconst 1, 1) := by decide +kernel
theorem dX7_ways_2 : decode cX7_ways 2 = .ok (.iload_n 3, 1) := by decide +kernel
theorem dX7_ways_3 : decode cX7_ways 3 = .ok (.invokevirtual 21, 3) := by decide +kernel
theorem dX7_ways_6 : decode cX7_ways 6 = .ok (.aload_n 0, 1) := by decide +kernel
theorem dX7_ways_7 : decode cX7_ways 7 = .ok (.getfield 12, 3) := by decide +kernel
theorem dX7_ways_10 : decode cX7_ways 10 = .ok (.aload_n 1, 1) := by decide +kernel
theorem dX7_ways_11 : decode cX7_ways 11 = .ok (.invokevirtual 48, 3) := by decide +kernel
theorem dX7_ways_14 : decode cX7_ways 14 = .ok (.lconst 1, 1) := by decide +kernel
theorem dX7_ways_15 : decode cX7_ways 15 = .ok (.iconst 0, 1) := by decide +kernel
theorem dX7_ways_16 : decode cX7_ways 16 = .ok (.invokevirtual 31, 3) := by decide +kernel
theorem dX7_ways_19 : decode cX7_ways 19 = .ok (.aload_n 0, 1) := by decide +kernel
theorem dX7_ways_20 : decode cX7_ways 20 = .ok (.aload_n 1, 1) := by decide +kernel
theorem dX7_ways_21 : decode cX7_ways 21 = .ok (.iconst 0, 1) := by decide +kernel
theorem dX7_ways_22 : decode cX7_ways 22 = .ok (.aload_n 2, 1) := by decide +kernel
theorem dX7_ways_23 : decode cX7_ways 23 = .ok (.invokevirtual 38, 3) := by decide +kernel
theorem dX7_ways_26 : decode cX7_ways 26 = .ok (.pop, 1) := by decide +kernel
theorem dX7_ways_27 : decode cX7_ways 27 = .ok (.aload_n 0, 1) := by decide +kernel
theorem dX7_ways_28 : decode cX7_ways 28 = .ok (.getfield 12, 3) := by decide +kernel
theorem dX7_ways_31 : decode cX7_ways 31 = .ok (.invokevirtual 54, 3) := by decide +kernel
theorem dX7_ways_34 : decode cX7_ways 34 = .ok (.lreturn, 1) := by decide +kernel
theorem dX7_weight_0 : decode cX7_weight 0 = .ok (.aload_n 0, 1) := by decide +kernel
theorem dX7_weight_1 : decode cX7_weight 1 = .ok (.iconst 2, 1) := by decide +kernel
theorem dX7_weight_2 : decode cX7_weight 2 = .ok (.iconst (-1), 1) := by decide +kernel
theorem dX7_weight_3 : decode cX7_weight 3 = .ok (.invokevirtual 21, 3) := by decide +kernel
theorem dX7_weight_6 : decode cX7_weight 6 = .ok (.aload_n 0, 1) := by decide +kernel
theorem dX7_weight_7 : decode cX7_weight 7 = .ok (.getfield 12, 3) := by decide +kernel
theorem dX7_weight_10 : decode cX7_weight 10 = .ok (.aload_n 2, 1) := by decide +kernel
theorem dX7_weight_11 : decode cX7_weight 11 = .ok (.getfield 25, 3) := by decide +kernel
theorem dX7_weight_14 : decode cX7_weight 14 = .ok (.lconst 1, 1) := by decide +kernel
theorem dX7_weight_15 : decode cX7_weight 15 = .ok (.iconst 0, 1) := by decide +kernel
theorem dX7_weight_16 : decode cX7_weight 16 = .ok (.invokevirtual 31, 3) := by decide +kernel
theorem dX7_weight_19 : decode cX7_weight 19 = .ok (.iconst 0, 1) := by decide +kernel
theorem dX7_weight_20 : decode cX7_weight 20 = .ok (.istore 5, 2) := by decide +kernel
theorem dX7_weight_22 : decode cX7_weight 22 = .ok (.iload 5, 2) := by decide +kernel
theorem dX7_weight_24 : decode cX7_weight 24 = .ok (.iload_n 3, 1) := by decide +kernel
theorem dX7_weight_25 : decode cX7_weight 25 = .ok (.if_icmp .ge 21, 3) := by decide +kernel
theorem dX7_weight_28 : decode cX7_weight 28 = .ok (.aload_n 0, 1) := by decide +kernel
theorem dX7_weight_29 : decode cX7_weight 29 = .ok (.aload_n 1, 1) := by decide +kernel
theorem dX7_weight_30 : decode cX7_weight 30 = .ok (.aload_n 2, 1) := by decide +kernel
theorem dX7_weight_31 : decode cX7_weight 31 = .ok (.getfield 35, 3) := by decide +kernel
theorem dX7_weight_34 : decode cX7_weight 34 = .ok (.iload 5, 2) := by decide +kernel
theorem dX7_weight_36 : decode cX7_weight 36 = .ok (.iadd, 1) := by decide +kernel
theorem dX7_weight_37 : decode cX7_weight 37 = .ok (.invokevirtual 57, 3) := by decide +kernel
theorem dX7_weight_40 : decode cX7_weight 40 = .ok (.iinc 5 1, 3) := by decide +kernel
theorem dX7_weight_43 : decode cX7_weight 43 = .ok (.goto (-21), 3) := by decide +kernel
theorem dX7_weight_46 : decode cX7_weight 46 = .ok (.aload_n 0, 1) := by decide +kernel
theorem dX7_weight_47 : decode cX7_weight 47 = .ok (.getfield 12, 3) := by decide +kernel
theorem dX7_weight_50 : decode cX7_weight 50 = .ok (.iload 4, 2) := by decide +kernel
theorem dX7_weight_52 : decode cX7_weight 52 = .ok (.invokevirtual 61, 3) := by decide +kernel
theorem dX7_weight_55 : decode cX7_weight 55 = .ok (.aload_n 0, 1) := by decide +kernel
theorem dX7_weight_56 : decode cX7_weight 56 = .ok (.getfield 12, 3) := by decide +kernel
theorem dX7_weight_59 : decode cX7_weight 59 = .ok (.invokevirtual 54, 3) := by decide +kernel
theorem dX7_weight_62 : decode cX7_weight 62 = .ok (.lreturn, 1) := by decide +kernel
theorem dX7_begin_0 : decode cX7_begin 0 = .ok (.aload_n 0, 1) := by decide +kernel
theorem dX7_begin_1 : decode cX7_begin 1 = .ok (.iload_n 1, 1) := by decide +kernel
theorem dX7_begin_2 : decode cX7_begin 2 = .ok (.putfield 65, 3) := by decide +kernel
theorem dX7_begin_5 : decode cX7_begin 5 = .ok (.aload_n 0, 1) := by decide +kernel
theorem dX7_begin_6 : decode cX7_begin 6 = .ok (.iload_n 2, 1) := by decide +kernel
theorem dX7_begin_7 : decode cX7_begin 7 = .ok (.putfield 68, 3) := by decide +kernel
theorem dX7_begin_10 : decode cX7_begin 10 = .ok (.aload_n 0, 1) := by decide +kernel
theorem dX7_begin_11 : decode cX7_begin 11 = .ok (.iconst 1, 1) := by decide +kernel
theorem dX7_begin_12 : decode cX7_begin 12 = .ok (.putfield 71, 3) := by decide +kernel
theorem dX7_begin_15 : decode cX7_begin 15 = .ok (.aload_n 0, 1) := by decide +kernel
theorem dX7_begin_16 : decode cX7_begin 16 = .ok (.getfield 12, 3) := by decide +kernel
theorem dX7_begin_19 : decode cX7_begin 19 = .ok (.invokevirtual 75, 3) := by decide +kernel
theorem dX7_begin_22 : decode cX7_begin 22 = .ok (.aload_n 0, 1) := by decide +kernel
theorem dX7_begin_23 : decode cX7_begin 23 = .ok (.getfield 18, 3) := by decide +kernel
theorem dX7_begin_26 : decode cX7_begin 26 = .ok (.invokevirtual 75, 3) := by decide +kernel
theorem dX7_begin_29 : decode cX7_begin 29 = .ok (.return_, 1) := by decide +kernel
theorem dX7_follow_0 : decode cX7_follow 0 = .ok (.aload_n 3, 1) := by decide +kernel
theorem dX7_follow_1 : decode cX7_follow 1 = .ok (.invokevirtual 78, 3) := by decide +kernel
theorem dX7_follow_4 : decode cX7_follow 4 = .ok (.istore 4, 2) := by decide +kernel
theorem dX7_follow_6 : decode cX7_follow 6 = .ok (.iconst 0, 1) := by decide +kernel
theorem dX7_follow_7 : decode cX7_follow 7 = .ok (.istore 5, 2) := by decide +kernel
theorem dX7_follow_9 : decode cX7_follow 9 = .ok (.iload 5, 2) := by decide +kernel
theorem dX7_follow_11 : decode cX7_follow 11 = .ok (.iload 4, 2) := by decide +kernel
theorem dX7_follow_13 : decode cX7_follow 13 = .ok (.if_icmp .gt 44, 3) := by decide +kernel
theorem dX7_follow_16 : decode cX7_follow 16 = .ok (.aload_n 0, 1) := by decide +kernel
theorem dX7_follow_17 : decode cX7_follow 17 = .ok (.aload_n 3, 1) := by decide +kernel
theorem dX7_follow_18 : decode cX7_follow 18 = .ok (.iload 5, 2) := by decide +kernel
theorem dX7_follow_20 : decode cX7_follow 20 = .ok (.invokevirtual 83, 3) := by decide +kernel
theorem dX7_follow_23 : decode cX7_follow 23 = .ok (.istore 6, 2) := by decide +kernel
theorem dX7_follow_25 : decode cX7_follow 25 = .ok (.iload 6, 2) := by decide +kernel
theorem dX7_follow_27 : decode cX7_follow 27 = .ok (.bipush (-4), 2) := by decide +kernel
theorem dX7_follow_29 : decode cX7_follow 29 = .ok (.if_icmp .eq 6, 3) := by decide +kernel
theorem dX7_follow_32 : decode cX7_follow 32 = .ok (.iload 6, 2) := by decide +kernel
theorem dX7_follow_34 : decode cX7_follow 34 = .ok (.ireturn, 1) := by decide +kernel
theorem dX7_follow_35 : decode cX7_follow 35 = .ok (.iload 5, 2) := by decide +kernel
theorem dX7_follow_37 : decode cX7_follow 37 = .ok (.iload 4, 2) := by decide +kernel
theorem dX7_follow_39 : decode cX7_follow 39 = .ok (.if_icmp .ge 12, 3) := by decide +kernel
theorem dX7_follow_42 : decode cX7_follow 42 = .ok (.aload_n 0, 1) := by decide +kernel
theorem dX7_follow_43 : decode cX7_follow 43 = .ok (.aload_n 1, 1) := by decide +kernel
theorem dX7_follow_44 : decode cX7_follow 44 = .ok (.iload_n 2, 1) := by decide +kernel
theorem dX7_follow_45 : decode cX7_follow 45 = .ok (.iload 5, 2) := by decide +kernel
theorem dX7_follow_47 : decode cX7_follow 47 = .ok (.iadd, 1) := by decide +kernel
theorem dX7_follow_48 : decode cX7_follow 48 = .ok (.invokevirtual 57, 3) := by decide +kernel
theorem dX7_follow_51 : decode cX7_follow 51 = .ok (.iinc 5 1, 3) := by decide +kernel
theorem dX7_follow_54 : decode cX7_follow 54 = .ok (.goto (-45), 3) := by decide +kernel
theorem dX7_follow_57 : decode cX7_follow 57 = .ok (.bipush (-4), 2) := by decide +kernel
theorem dX7_follow_59 : decode cX7_follow 59 = .ok (.ireturn, 1) := by decide +kernel
theorem dX7_sieve_0 : decode cX7_sieve 0 = .ok (.iconst 0, 1) := by decide +kernel
theorem dX7_sieve_1 : decode cX7_sieve 1 = .ok (.istore_n 3, 1) := by decide +kernel
theorem dX7_sieve_2 : decode cX7_sieve 2 = .ok (.iload_n 3, 1) := by decide +kernel
theorem dX7_sieve_3 : decode cX7_sieve 3 = .ok (.aload_n 1, 1) := by decide +kernel
theorem dX7_sieve_4 : decode cX7_sieve 4 = .ok (.invokevirtual 87, 3) := by decide +kernel
theorem dX7_sieve_7 : decode cX7_sieve 7 = .ok (.if_icmp .ge 42, 3) := by decide +kernel
theorem dX7_sieve_10 : decode cX7_sieve 10 = .ok (.aload_n 1, 1) := by decide +kernel
theorem dX7_sieve_11 : decode cX7_sieve 11 = .ok (.iload_n 3, 1) := by decide +kernel
theorem dX7_sieve_12 : decode cX7_sieve 12 = .ok (.iload_n 2, 1) := by decide +kernel
theorem dX7_sieve_13 : decode cX7_sieve 13 = .ok (.invokevirtual 90, 3) := by decide +kernel
theorem dX7_sieve_16 : decode cX7_sieve 16 = .ok (.ifCond .eq 27, 3) := by decide +kernel
theorem dX7_sieve_19 : decode cX7_sieve 19 = .ok (.aload_n 0, 1) := by decide +kernel
theorem dX7_sieve_20 : decode cX7_sieve 20 = .ok (.getfield 12, 3) := by decide +kernel
theorem dX7_sieve_23 : decode cX7_sieve 23 = .ok (.aload_n 1, 1) := by decide +kernel
theorem dX7_sieve_24 : decode cX7_sieve 24 = .ok (.iload_n 3, 1) := by decide +kernel
theorem dX7_sieve_25 : decode cX7_sieve 25 = .ok (.invokevirtual 94, 3) := by decide +kernel
theorem dX7_sieve_28 : decode cX7_sieve 28 = .ok (.invokevirtual 61, 3) := by decide +kernel
theorem dX7_sieve_31 : decode cX7_sieve 31 = .ok (.aload_n 0, 1) := by decide +kernel
theorem dX7_sieve_32 : decode cX7_sieve 32 = .ok (.getfield 12, 3) := by decide +kernel
theorem dX7_sieve_35 : decode cX7_sieve 35 = .ok (.invokevirtual 98, 3) := by decide +kernel
theorem dX7_sieve_38 : decode cX7_sieve 38 = .ok (.ifCond .ne 5, 3) := by decide +kernel
theorem dX7_sieve_41 : decode cX7_sieve 41 = .ok (.iload_n 3, 1) := by decide +kernel
theorem dX7_sieve_42 : decode cX7_sieve 42 = .ok (.ireturn, 1) := by decide +kernel
theorem dX7_sieve_43 : decode cX7_sieve 43 = .ok (.iinc 3 1, 3) := by decide +kernel
theorem dX7_sieve_46 : decode cX7_sieve 46 = .ok (.goto (-44), 3) := by decide +kernel
theorem dX7_sieve_49 : decode cX7_sieve 49 = .ok (.bipush (-4), 2) := by decide +kernel
theorem dX7_sieve_51 : decode cX7_sieve 51 = .ok (.ireturn, 1) := by decide +kernel
theorem dX7_spread_0 : decode cX7_spread 0 = .ok (.iconst 0, 1) := by decide +kernel
theorem dX7_spread_1 : decode cX7_spread 1 = .ok (.istore_n 3, 1) := by decide +kernel
theorem dX7_spread_2 : decode cX7_spread 2 = .ok (.iload_n 3, 1) := by decide +kernel
theorem dX7_spread_3 : decode cX7_spread 3 = .ok (.aload_n 0, 1) := by decide +kernel
theorem dX7_spread_4 : decode cX7_spread 4 = .ok (.getfield 12, 3) := by decide +kernel
theorem dX7_spread_7 : decode cX7_spread 7 = .ok (.invokevirtual 98, 3) := by decide +kernel
theorem dX7_spread_10 : decode cX7_spread 10 = .ok (.if_icmp .ge 31, 3) := by decide +kernel
theorem dX7_spread_13 : decode cX7_spread 13 = .ok (.aload_n 0, 1) := by decide +kernel
theorem dX7_spread_14 : decode cX7_spread 14 = .ok (.aload_n 1, 1) := by decide +kernel
theorem dX7_spread_15 : decode cX7_spread 15 = .ok (.aload_n 0, 1) := by decide +kernel
theorem dX7_spread_16 : decode cX7_spread 16 = .ok (.getfield 12, 3) := by decide +kernel
theorem dX7_spread_19 : decode cX7_spread 19 = .ok (.iload_n 3, 1) := by decide +kernel
theorem dX7_spread_20 : decode cX7_spread 20 = .ok (.invokevirtual 99, 3) := by decide +kernel
theorem dX7_spread_23 : decode cX7_spread 23 = .ok (.aload_n 0, 1) := by decide +kernel
theorem dX7_spread_24 : decode cX7_spread 24 = .ok (.getfield 12, 3) := by decide +kernel
theorem dX7_spread_27 : decode cX7_spread 27 = .ok (.iload_n 3, 1) := by decide +kernel
theorem dX7_spread_28 : decode cX7_spread 28 = .ok (.invokevirtual 101, 3) := by decide +kernel
theorem dX7_spread_31 : decode cX7_spread 31 = .ok (.iload_n 2, 1) := by decide +kernel
theorem dX7_spread_32 : decode cX7_spread 32 = .ok (.invokevirtual 105, 3) := by decide +kernel
theorem dX7_spread_35 : decode cX7_spread 35 = .ok (.iinc 3 1, 3) := by decide +kernel
theorem dX7_spread_38 : decode cX7_spread 38 = .ok (.goto (-36), 3) := by decide +kernel
theorem dX7_spread_41 : decode cX7_spread 41 = .ok (.aload_n 0, 1) := by decide +kernel
theorem dX7_spread_42 : decode cX7_spread 42 = .ok (.getfield 12, 3) := by decide +kernel
theorem dX7_spread_45 : decode cX7_spread 45 = .ok (.invokevirtual 75, 3) := by decide +kernel
theorem dX7_spread_48 : decode cX7_spread 48 = .ok (.aload_n 0, 1) := by decide +kernel
theorem dX7_spread_49 : decode cX7_spread 49 = .ok (.getfield 12, 3) := by decide +kernel
theorem dX7_spread_52 : decode cX7_spread 52 = .ok (.astore_n 3, 1) := by decide +kernel
theorem dX7_spread_53 : decode cX7_spread 53 = .ok (.aload_n 0, 1) := by decide +kernel
theorem dX7_spread_54 : decode cX7_spread 54 = .ok (.aload_n 0, 1) := by decide +kernel
theorem dX7_spread_55 : decode cX7_spread 55 = .ok (.getfield 18, 3) := by decide +kernel
theorem dX7_spread_58 : decode cX7_spread 58 = .ok (.putfield 12, 3) := by decide +kernel
theorem dX7_spread_61 : decode cX7_spread 61 = .ok (.aload_n 0, 1) := by decide +kernel
theorem dX7_spread_62 : decode cX7_spread 62 = .ok (.aload_n 3, 1) := by decide +kernel
theorem dX7_spread_63 : decode cX7_spread 63 = .ok (.putfield 18, 3) := by decide +kernel
theorem dX7_spread_66 : decode cX7_spread 66 = .ok (.aload_n 0, 1) := by decide +kernel
theorem dX7_spread_67 : decode cX7_spread 67 = .ok (.iconst 0, 1) := by decide +kernel
theorem dX7_spread_68 : decode cX7_spread 68 = .ok (.putfield 71, 3) := by decide +kernel
theorem dX7_spread_71 : decode cX7_spread 71 = .ok (.return_, 1) := by decide +kernel
theorem dX7_branch_0 : decode cX7_branch 0 = .ok (.aload_n 0, 1) := by decide +kernel
theorem dX7_branch_1 : decode cX7_branch 1 = .ok (.getfield 65, 3) := by decide +kernel
theorem dX7_branch_4 : decode cX7_branch 4 = .ok (.ifCond .ne 7, 3) := by decide +kernel
theorem dX7_branch_7 : decode cX7_branch 7 = .ok (.iconst 1, 1) := by decide +kernel
theorem dX7_branch_8 : decode cX7_branch 8 = .ok (.goto 4, 3) := by decide +kernel
theorem dX7_branch_11 : decode cX7_branch 11 = .ok (.iconst 0, 1) := by decide +kernel
theorem dX7_branch_12 : decode cX7_branch 12 = .ok (.istore 6, 2) := by decide +kernel
theorem dX7_branch_14 : decode cX7_branch 14 = .ok (.aload_n 0, 1) := by decide +kernel
theorem dX7_branch_15 : decode cX7_branch 15 = .ok (.getfield 65, 3) := by decide +kernel
theorem dX7_branch_18 : decode cX7_branch 18 = .ok (.iconst 2, 1) := by decide +kernel
theorem dX7_branch_19 : decode cX7_branch 19 = .ok (.if_icmp .ne 16, 3) := by decide +kernel
theorem dX7_branch_22 : decode cX7_branch 22 = .ok (.aload_n 1, 1) := by decide +kernel
theorem dX7_branch_23 : decode cX7_branch 23 = .ok (.iload_n 2, 1) := by decide +kernel
theorem dX7_branch_24 : decode cX7_branch 24 = .ok (.invokestatic 109, 3) := by decide +kernel
theorem dX7_branch_27 : decode cX7_branch 27 = .ok (.iload 5, 2) := by decide +kernel
theorem dX7_branch_29 : decode cX7_branch 29 = .ok (.invokevirtual 112, 3) := by decide +kernel
theorem dX7_branch_32 : decode cX7_branch 32 = .ok (.goto 4, 3) := by decide +kernel
theorem dX7_branch_35 : decode cX7_branch 35 = .ok (.iconst 0, 1) := by decide +kernel
theorem dX7_branch_36 : decode cX7_branch 36 = .ok (.istore 7, 2) := by decide +kernel
theorem dX7_branch_38 : decode cX7_branch 38 = .ok (.aload_n 0, 1) := by decide +kernel
theorem dX7_branch_39 : decode cX7_branch 39 = .ok (.getfield 18, 3) := by decide +kernel
theorem dX7_branch_42 : decode cX7_branch 42 = .ok (.aload_n 1, 1) := by decide +kernel
theorem dX7_branch_43 : decode cX7_branch 43 = .ok (.iload_n 2, 1) := by decide +kernel
theorem dX7_branch_44 : decode cX7_branch 44 = .ok (.iload 5, 2) := by decide +kernel
theorem dX7_branch_46 : decode cX7_branch 46 = .ok (.iconst 1, 1) := by decide +kernel
theorem dX7_branch_47 : decode cX7_branch 47 = .ok (.iadd, 1) := by decide +kernel
theorem dX7_branch_48 : decode cX7_branch 48 = .ok (.invokevirtual 116, 3) := by decide +kernel
theorem dX7_branch_51 : decode cX7_branch 51 = .ok (.aload_n 0, 1) := by decide +kernel
theorem dX7_branch_52 : decode cX7_branch 52 = .ok (.lload_n 3, 1) := by decide +kernel
theorem dX7_branch_53 : decode cX7_branch 53 = .ok (.iload 7, 2) := by decide +kernel
theorem dX7_branch_55 : decode cX7_branch 55 = .ok (.invokevirtual 119, 3) := by decide +kernel
theorem dX7_branch_58 : decode cX7_branch 58 = .ok (.iload 6, 2) := by decide +kernel
theorem dX7_branch_60 : decode cX7_branch 60 = .ok (.invokevirtual 31, 3) := by decide +kernel
theorem dX7_branch_63 : decode cX7_branch 63 = .ok (.iconst 0, 1) := by decide +kernel
theorem dX7_branch_64 : decode cX7_branch 64 = .ok (.istore 8, 2) := by decide +kernel
theorem dX7_branch_66 : decode cX7_branch 66 = .ok (.iload 8, 2) := by decide +kernel
theorem dX7_branch_68 : decode cX7_branch 68 = .ok (.aload_n 1, 1) := by decide +kernel
theorem dX7_branch_69 : decode cX7_branch 69 = .ok (.invokevirtual 123, 3) := by decide +kernel
theorem dX7_branch_72 : decode cX7_branch 72 = .ok (.if_icmp .ge 67, 3) := by decide +kernel
theorem dX7_branch_75 : decode cX7_branch 75 = .ok (.iload 8, 2) := by decide +kernel
theorem dX7_branch_77 : decode cX7_branch 77 = .ok (.aload_n 0, 1) := by decide +kernel
theorem dX7_branch_78 : decode cX7_branch 78 = .ok (.getfield 68, 3) := by decide +kernel
theorem dX7_branch_81 : decode cX7_branch 81 = .ok (.if_icmp .eq 52, 3) := by decide +kernel
theorem dX7_branch_84 : decode cX7_branch 84 = .ok (.aload_n 1, 1) := by decide +kernel
theorem dX7_branch_85 : decode cX7_branch 85 = .ok (.iload 8, 2) := by decide +kernel
theorem dX7_branch_87 : decode cX7_branch 87 = .ok (.iload_n 2, 1) := by decide +kernel
theorem dX7_branch_88 : decode cX7_branch 88 = .ok (.iload 5, 2) := by decide +kernel
theorem dX7_branch_90 : decode cX7_branch 90 = .ok (.invokevirtual 126, 3) := by decide +kernel
theorem dX7_branch_93 : decode cX7_branch 93 = .ok (.ifCond .eq 40, 3) := by decide +kernel
theorem dX7_branch_96 : decode cX7_branch 96 = .ok (.aload_n 1, 1) := by decide +kernel
theorem dX7_branch_97 : decode cX7_branch 97 = .ok (.iload_n 2, 1) := by decide +kernel
theorem dX7_branch_98 : decode cX7_branch 98 = .ok (.iload 8, 2) := by decide +kernel
theorem dX7_branch_100 : decode cX7_branch 100 = .ok (.invokestatic 130, 3) := by decide +kernel
theorem dX7_branch_103 : decode cX7_branch 103 = .ok (.iload 5, 2) := by decide +kernel
theorem dX7_branch_105 : decode cX7_branch 105 = .ok (.iconst 1, 1) := by decide +kernel
theorem dX7_branch_106 : decode cX7_branch 106 = .ok (.iadd, 1) := by decide +kernel
theorem dX7_branch_107 : decode cX7_branch 107 = .ok (.invokevirtual 116, 3) := by decide +kernel
theorem dX7_branch_110 : decode cX7_branch 110 = .ok (.istore 9, 2) := by decide +kernel
theorem dX7_branch_112 : decode cX7_branch 112 = .ok (.aload_n 0, 1) := by decide +kernel
theorem dX7_branch_113 : decode cX7_branch 113 = .ok (.getfield 18, 3) := by decide +kernel
theorem dX7_branch_116 : decode cX7_branch 116 = .ok (.iload 9, 2) := by decide +kernel
theorem dX7_branch_118 : decode cX7_branch 118 = .ok (.aload_n 0, 1) := by decide +kernel
theorem dX7_branch_119 : decode cX7_branch 119 = .ok (.aload_n 1, 1) := by decide +kernel
theorem dX7_branch_120 : decode cX7_branch 120 = .ok (.lload_n 3, 1) := by decide +kernel
theorem dX7_branch_121 : decode cX7_branch 121 = .ok (.iload 8, 2) := by decide +kernel
theorem dX7_branch_123 : decode cX7_branch 123 = .ok (.iload 7, 2) := by decide +kernel
theorem dX7_branch_125 : decode cX7_branch 125 = .ok (.invokevirtual 133, 3) := by decide +kernel
theorem dX7_branch_128 : decode cX7_branch 128 = .ok (.iload 6, 2) := by decide +kernel
theorem dX7_branch_130 : decode cX7_branch 130 = .ok (.invokevirtual 31, 3) := by decide +kernel
theorem dX7_branch_133 : decode cX7_branch 133 = .ok (.iinc 8 1, 3) := by decide +kernel
theorem dX7_branch_136 : decode cX7_branch 136 = .ok (.goto (-70), 3) := by decide +kernel
theorem dX7_branch_139 : decode cX7_branch 139 = .ok (.return_, 1) := by decide +kernel
theorem dX7_whenUnfed_0 : decode cX7_whenUnfed 0 = .ok (.aload_n 0, 1) := by decide +kernel
theorem dX7_whenUnfed_1 : decode cX7_whenUnfed 1 = .ok (.getfield 65, 3) := by decide +kernel
theorem dX7_whenUnfed_4 : decode cX7_whenUnfed 4 = .ok (.iconst 2, 1) := by decide +kernel
theorem dX7_whenUnfed_5 : decode cX7_whenUnfed 5 = .ok (.if_icmp .eq 5, 3) := by decide +kernel
theorem dX7_whenUnfed_8 : decode cX7_whenUnfed 8 = .ok (.lload_n 1, 1) := by decide +kernel
theorem dX7_whenUnfed_9 : decode cX7_whenUnfed 9 = .ok (.lreturn, 1) := by decide +kernel
theorem dX7_whenUnfed_10 : decode cX7_whenUnfed 10 = .ok (.iload_n 3, 1) := by decide +kernel
theorem dX7_whenUnfed_11 : decode cX7_whenUnfed 11 = .ok (.ifCond .ne 11, 3) := by decide +kernel
theorem dX7_whenUnfed_14 : decode cX7_whenUnfed 14 = .ok (.lload_n 1, 1) := by decide +kernel
theorem dX7_whenUnfed_15 : decode cX7_whenUnfed 15 = .ok (.ldc2_w 137, 3) := by decide +kernel
theorem dX7_whenUnfed_18 : decode cX7_whenUnfed 18 = .ok (.lmul, 1) := by decide +kernel
theorem dX7_whenUnfed_19 : decode cX7_whenUnfed 19 = .ok (.goto 8, 3) := by decide +kernel
theorem dX7_whenUnfed_22 : decode cX7_whenUnfed 22 = .ok (.lload_n 1, 1) := by decide +kernel
theorem dX7_whenUnfed_23 : decode cX7_whenUnfed 23 = .ok (.ldc2_w 139, 3) := by decide +kernel
theorem dX7_whenUnfed_26 : decode cX7_whenUnfed 26 = .ok (.lmul, 1) := by decide +kernel
theorem dX7_whenUnfed_27 : decode cX7_whenUnfed 27 = .ok (.lreturn, 1) := by decide +kernel
theorem dX7_whenFed_0 : decode cX7_whenFed 0 = .ok (.aload_n 0, 1) := by decide +kernel
theorem dX7_whenFed_1 : decode cX7_whenFed 1 = .ok (.getfield 65, 3) := by decide +kernel
theorem dX7_whenFed_4 : decode cX7_whenFed 4 = .ok (.ifCond .ne 33, 3) := by decide +kernel
theorem dX7_whenFed_7 : decode cX7_whenFed 7 = .ok (.lload_n 2, 1) := by decide +kernel
theorem dX7_whenFed_8 : decode cX7_whenFed 8 = .ok (.aload_n 1, 1) := by decide +kernel
theorem dX7_whenFed_9 : decode cX7_whenFed 9 = .ok (.iload 4, 2) := by decide +kernel
theorem dX7_whenFed_11 : decode cX7_whenFed 11 = .ok (.invokevirtual 141, 3) := by decide +kernel
theorem dX7_whenFed_14 : decode cX7_whenFed 14 = .ok (.bipush 8, 2) := by decide +kernel
theorem dX7_whenFed_16 : decode cX7_whenFed 16 = .ok (.imul, 1) := by decide +kernel
theorem dX7_whenFed_17 : decode cX7_whenFed 17 = .ok (.i2l, 1) := by decide +kernel
theorem dX7_whenFed_18 : decode cX7_whenFed 18 = .ok (.ladd, 1) := by decide +kernel
theorem dX7_whenFed_19 : decode cX7_whenFed 19 = .ok (.aload_n 0, 1) := by decide +kernel
theorem dX7_whenFed_20 : decode cX7_whenFed 20 = .ok (.getfield 71, 3) := by decide +kernel
theorem dX7_whenFed_23 : decode cX7_whenFed 23 = .ok (.ifCond .eq 10, 3) := by decide +kernel
theorem dX7_whenFed_26 : decode cX7_whenFed 26 = .ok (.iload 4, 2) := by decide +kernel
theorem dX7_whenFed_28 : decode cX7_whenFed 28 = .ok (.iconst 1, 1) := by decide +kernel
theorem dX7_whenFed_29 : decode cX7_whenFed 29 = .ok (.iadd, 1) := by decide +kernel
theorem dX7_whenFed_30 : decode cX7_whenFed 30 = .ok (.goto 4, 3) := by decide +kernel
theorem dX7_whenFed_33 : decode cX7_whenFed 33 = .ok (.iconst 0, 1) := by decide +kernel
theorem dX7_whenFed_34 : decode cX7_whenFed 34 = .ok (.i2l, 1) := by decide +kernel
theorem dX7_whenFed_35 : decode cX7_whenFed 35 = .ok (.ladd, 1) := by decide +kernel
theorem dX7_whenFed_36 : decode cX7_whenFed 36 = .ok (.lreturn, 1) := by decide +kernel
theorem dX7_whenFed_37 : decode cX7_whenFed 37 = .ok (.iload 5, 2) := by decide +kernel
theorem dX7_whenFed_39 : decode cX7_whenFed 39 = .ok (.ifCond .le 14, 3) := by decide +kernel
theorem dX7_whenFed_42 : decode cX7_whenFed 42 = .ok (.lload_n 2, 1) := by decide +kernel
theorem dX7_whenFed_43 : decode cX7_whenFed 43 = .ok (.bipush 60, 2) := by decide +kernel
theorem dX7_whenFed_45 : decode cX7_whenFed 45 = .ok (.iload 5, 2) := by decide +kernel
theorem dX7_whenFed_47 : decode cX7_whenFed 47 = .ok (.idiv, 1) := by decide +kernel
theorem dX7_whenFed_48 : decode cX7_whenFed 48 = .ok (.i2l, 1) := by decide +kernel
theorem dX7_whenFed_49 : decode cX7_whenFed 49 = .ok (.lmul, 1) := by decide +kernel
theorem dX7_whenFed_50 : decode cX7_whenFed 50 = .ok (.goto 4, 3) := by decide +kernel
theorem dX7_whenFed_53 : decode cX7_whenFed 53 = .ok (.lload_n 2, 1) := by decide +kernel
theorem dX7_whenFed_54 : decode cX7_whenFed 54 = .ok (.lreturn, 1) := by decide +kernel
theorem dX8_init_0 : decode cX8_init 0 = .ok (.aload_n 0, 1) := by decide +kernel
theorem dX8_init_1 : decode cX8_init 1 = .ok (.invokespecial 3, 3) := by decide +kernel
theorem dX8_init_4 : decode cX8_init 4 = .ok (.aload_n 0, 1) := by decide +kernel
theorem dX8_init_5 : decode cX8_init 5 = .ok (.sipush 300, 3) := by decide +kernel
theorem dX8_init_8 : decode cX8_init 8 = .ok (.newarray .byte, 2) := by decide +kernel
theorem dX8_init_10 : decode cX8_init 10 = .ok (.putfield 9, 3) := by decide +kernel
theorem dX8_init_13 : decode cX8_init 13 = .ok (.return_, 1) := by decide +kernel
theorem dX8_length_0 : decode cX8_length 0 = .ok (.aload_n 0, 1) := by decide +kernel
theorem dX8_length_1 : decode cX8_length 1 = .ok (.getfield 15, 3) := by decide +kernel
theorem dX8_length_4 : decode cX8_length 4 = .ok (.ireturn, 1) := by decide +kernel
theorem dX8_append_0 : decode cX8_append 0 = .ok (.aload_n 0, 1) := by decide +kernel
theorem dX8_append_1 : decode cX8_append 1 = .ok (.getfield 15, 3) := by decide +kernel
theorem dX8_append_4 : decode cX8_append 4 = .ok (.sipush 300, 3) := by decide +kernel
theorem dX8_append_7 : decode cX8_append 7 = .ok (.if_icmp .ge 24, 3) := by decide +kernel
theorem dX8_append_10 : decode cX8_append 10 = .ok (.aload_n 0, 1) := by decide +kernel
theorem dX8_append_11 : decode cX8_append 11 = .ok (.getfield 9, 3) := by decide +kernel
theorem dX8_append_14 : decode cX8_append 14 = .ok (.aload_n 0, 1) := by decide +kernel
theorem dX8_append_15 : decode cX8_append 15 = .ok (.getfield 15, 3) := by decide +kernel
theorem dX8_append_18 : decode cX8_append 18 = .ok (.iload_n 1, 1) := by decide +kernel
theorem dX8_append_19 : decode cX8_append 19 = .ok (.i2b, 1) := by decide +kernel
theorem dX8_append_20 : decode cX8_append 20 = .ok (.bastore, 1) := by decide +kernel
theorem dX8_append_21 : decode cX8_append 21 = .ok (.aload_n 0, 1) := by decide +kernel
theorem dX8_append_22 : decode cX8_append 22 = .ok (.dup, 1) := by decide +kernel
theorem dX8_append_23 : decode cX8_append 23 = .ok (.getfield 15, 3) := by decide +kernel
theorem dX8_append_26 : decode cX8_append 26 = .ok (.iconst 1, 1) := by decide +kernel
theorem dX8_append_27 : decode cX8_append 27 = .ok (.iadd, 1) := by decide +kernel
theorem dX8_append_28 : decode cX8_append 28 = .ok (.putfield 15, 3) := by decide +kernel
theorem dX8_append_31 : decode cX8_append 31 = .ok (.return_, 1) := by decide +kernel
theorem dX8_clear_0 : decode cX8_clear 0 = .ok (.aload_n 0, 1) := by decide +kernel
theorem dX8_clear_1 : decode cX8_clear 1 = .ok (.iconst 0, 1) := by decide +kernel
theorem dX8_clear_2 : decode cX8_clear 2 = .ok (.putfield 15, 3) := by decide +kernel
theorem dX8_clear_5 : decode cX8_clear 5 = .ok (.return_, 1) := by decide +kernel
theorem dX8_byteAt_0 : decode cX8_byteAt 0 = .ok (.iload_n 1, 1) := by decide +kernel
theorem dX8_byteAt_1 : decode cX8_byteAt 1 = .ok (.ifCond .lt 24, 3) := by decide +kernel
theorem dX8_byteAt_4 : decode cX8_byteAt 4 = .ok (.iload_n 1, 1) := by decide +kernel
theorem dX8_byteAt_5 : decode cX8_byteAt 5 = .ok (.aload_n 0, 1) := by decide +kernel
theorem dX8_byteAt_6 : decode cX8_byteAt 6 = .ok (.getfield 15, 3) := by decide +kernel
theorem dX8_byteAt_9 : decode cX8_byteAt 9 = .ok (.if_icmp .ge 16, 3) := by decide +kernel
theorem dX8_byteAt_12 : decode cX8_byteAt 12 = .ok (.aload_n 0, 1) := by decide +kernel
theorem dX8_byteAt_13 : decode cX8_byteAt 13 = .ok (.getfield 9, 3) := by decide +kernel
theorem dX8_byteAt_16 : decode cX8_byteAt 16 = .ok (.iload_n 1, 1) := by decide +kernel
theorem dX8_byteAt_17 : decode cX8_byteAt 17 = .ok (.baload, 1) := by decide +kernel
theorem dX8_byteAt_18 : decode cX8_byteAt 18 = .ok (.sipush 255, 3) := by decide +kernel
theorem dX8_byteAt_21 : decode cX8_byteAt 21 = .ok (.iand, 1) := by decide +kernel
theorem dX8_byteAt_22 : decode cX8_byteAt 22 = .ok (.goto 4, 3) := by decide +kernel
theorem dX8_byteAt_25 : decode cX8_byteAt 25 = .ok (.iconst (-1), 1) := by decide +kernel
theorem dX8_byteAt_26 : decode cX8_byteAt 26 = .ok (.ireturn, 1) := by decide +kernel
theorem dX9_init_0 : decode cX9_init 0 = .ok (.aload_n 0, 1) := by decide +kernel
theorem dX9_init_1 : decode cX9_init 1 = .ok (.invokespecial 3, 3) := by decide +kernel
theorem dX9_init_4 : decode cX9_init 4 = .ok (.aload_n 0, 1) := by decide +kernel
theorem dX9_init_5 : decode cX9_init 5 = .ok (.bipush 6, 2) := by decide +kernel
theorem dX9_init_7 : decode cX9_init 7 = .ok (.newarray .int, 2) := by decide +kernel
theorem dX9_init_9 : decode cX9_init 9 = .ok (.putfield 9, 3) := by decide +kernel
theorem dX9_init_12 : decode cX9_init 12 = .ok (.aload_n 0, 1) := by decide +kernel
theorem dX9_init_13 : decode cX9_init 13 = .ok (.bipush 6, 2) := by decide +kernel
theorem dX9_init_15 : decode cX9_init 15 = .ok (.newarray .int, 2) := by decide +kernel
theorem dX9_init_17 : decode cX9_init 17 = .ok (.putfield 15, 3) := by decide +kernel
theorem dX9_init_20 : decode cX9_init 20 = .ok (.return_, 1) := by decide +kernel
theorem dX9_size_0 : decode cX9_size 0 = .ok (.aload_n 0, 1) := by decide +kernel
theorem dX9_size_1 : decode cX9_size 1 = .ok (.getfield 18, 3) := by decide +kernel
theorem dX9_size_4 : decode cX9_size 4 = .ok (.ireturn, 1) := by decide +kernel
theorem dX9_clear_0 : decode cX9_clear 0 = .ok (.aload_n 0, 1) := by decide +kernel
theorem dX9_clear_1 : decode cX9_clear 1 = .ok (.getfield 18, 3) := by decide +kernel
theorem dX9_clear_4 : decode cX9_clear 4 = .ok (.istore_n 1, 1) := by decide +kernel
theorem dX9_clear_5 : decode cX9_clear 5 = .ok (.aload_n 0, 1) := by decide +kernel
theorem dX9_clear_6 : decode cX9_clear 6 = .ok (.iconst 0, 1) := by decide +kernel
theorem dX9_clear_7 : decode cX9_clear 7 = .ok (.putfield 18, 3) := by decide +kernel
theorem dX9_clear_10 : decode cX9_clear 10 = .ok (.iload_n 1, 1) := by decide +kernel
theorem dX9_clear_11 : decode cX9_clear 11 = .ok (.ireturn, 1) := by decide +kernel
theorem dX9_add_0 : decode cX9_add 0 = .ok (.aload_n 0, 1) := by decide +kernel
theorem dX9_add_1 : decode cX9_add 1 = .ok (.getfield 18, 3) := by decide +kernel
theorem dX9_add_4 : decode cX9_add 4 = .ok (.bipush 6, 2) := by decide +kernel
theorem dX9_add_6 : decode cX9_add 6 = .ok (.if_icmp .lt 6, 3) := by decide +kernel
theorem dX9_add_9 : decode cX9_add 9 = .ok (.bipush (-3), 2) := by decide +kernel
theorem dX9_add_11 : decode cX9_add 11 = .ok (.ireturn, 1) := by decide +kernel
theorem dX9_add_12 : decode cX9_add 12 = .ok (.aload_n 0, 1) := by decide +kernel
theorem dX9_add_13 : decode cX9_add 13 = .ok (.getfield 9, 3) := by decide +kernel
theorem dX9_add_16 : decode cX9_add 16 = .ok (.aload_n 0, 1) := by decide +kernel
theorem dX9_add_17 : decode cX9_add 17 = .ok (.getfield 18, 3) := by decide +kernel
theorem dX9_add_20 : decode cX9_add 20 = .ok (.iload_n 1, 1) := by decide +kernel
theorem dX9_add_21 : decode cX9_add 21 = .ok (.iastore, 1) := by decide +kernel
theorem dX9_add_22 : decode cX9_add 22 = .ok (.aload_n 0, 1) := by decide +kernel
theorem dX9_add_23 : decode cX9_add 23 = .ok (.getfield 15, 3) := by decide +kernel
theorem dX9_add_26 : decode cX9_add 26 = .ok (.aload_n 0, 1) := by decide +kernel
theorem dX9_add_27 : decode cX9_add 27 = .ok (.getfield 18, 3) := by decide +kernel
theorem dX9_add_30 : decode cX9_add 30 = .ok (.iload_n 2, 1) := by decide +kernel
theorem dX9_add_31 : decode cX9_add 31 = .ok (.iastore, 1) := by decide +kernel
theorem dX9_add_32 : decode cX9_add 32 = .ok (.aload_n 0, 1) := by decide +kernel
theorem dX9_add_33 : decode cX9_add 33 = .ok (.dup, 1) := by decide +kernel
theorem dX9_add_34 : decode cX9_add 34 = .ok (.getfield 18, 3) := by decide +kernel
theorem dX9_add_37 : decode cX9_add 37 = .ok (.iconst 1, 1) := by decide +kernel
theorem dX9_add_38 : decode cX9_add 38 = .ok (.iadd, 1) := by decide +kernel
theorem dX9_add_39 : decode cX9_add 39 = .ok (.putfield 18, 3) := by decide +kernel
theorem dX9_add_42 : decode cX9_add 42 = .ok (.aload_n 0, 1) := by decide +kernel
theorem dX9_add_43 : decode cX9_add 43 = .ok (.getfield 18, 3) := by decide +kernel
theorem dX9_add_46 : decode cX9_add 46 = .ok (.ireturn, 1) := by decide +kernel
theorem dX9_lastMinute_0 : decode cX9_lastMinute 0 = .ok (.iconst 0, 1) := by decide +kernel
theorem dX9_lastMinute_1 : decode cX9_lastMinute 1 = .ok (.istore_n 1, 1) := by decide +kernel
theorem dX9_lastMinute_2 : decode cX9_lastMinute 2 = .ok (.iconst 0, 1) := by decide +kernel
theorem dX9_lastMinute_3 : decode cX9_lastMinute 3 = .ok (.istore_n 2, 1) := by decide +kernel
theorem dX9_lastMinute_4 : decode cX9_lastMinute 4 = .ok (.iload_n 2, 1) := by decide +kernel
theorem dX9_lastMinute_5 : decode cX9_lastMinute 5 = .ok (.aload_n 0, 1) := by decide +kernel
theorem dX9_lastMinute_6 : decode cX9_lastMinute 6 = .ok (.getfield 18, 3) := by decide +kernel
theorem dX9_lastMinute_9 : decode cX9_lastMinute 9 = .ok (.if_icmp .ge 20, 3) := by decide +kernel
theorem dX9_lastMinute_12 : decode cX9_lastMinute 12 = .ok (.iload_n 1, 1) := by decide +kernel
theorem dX9_lastMinute_13 : decode cX9_lastMinute 13 = .ok (.aload_n 0, 1) := by decide +kernel
theorem dX9_lastMinute_14 : decode cX9_lastMinute 14 = .ok (.getfield 15, 3) := by decide +kernel
theorem dX9_lastMinute_17 : decode cX9_lastMinute 17 = .ok (.iload_n 2, 1) := by decide +kernel
theorem dX9_lastMinute_18 : decode cX9_lastMinute 18 = .ok (.iaload, 1) := by decide +kernel
theorem dX9_lastMinute_19 : decode cX9_lastMinute 19 = .ok (.invokestatic 22, 3) := by decide +kernel
theorem dX9_lastMinute_22 : decode cX9_lastMinute 22 = .ok (.istore_n 1, 1) := by decide +kernel
theorem dX9_lastMinute_23 : decode cX9_lastMinute 23 = .ok (.iinc 2 1, 3) := by decide +kernel
theorem dX9_lastMinute_26 : decode cX9_lastMinute 26 = .ok (.goto (-22), 3) := by decide +kernel
theorem dX9_lastMinute_29 : decode cX9_lastMinute 29 = .ok (.iload_n 1, 1) := by decide +kernel
theorem dX9_lastMinute_30 : decode cX9_lastMinute 30 = .ok (.ireturn, 1) := by decide +kernel
theorem dX9_isOf_0 : decode cX9_isOf 0 = .ok (.iload_n 1, 1) := by decide +kernel
theorem dX9_isOf_1 : decode cX9_isOf 1 = .ok (.ifCond .lt 25, 3) := by decide +kernel
theorem dX9_isOf_4 : decode cX9_isOf 4 = .ok (.iload_n 1, 1) := by decide +kernel
theorem dX9_isOf_5 : decode cX9_isOf 5 = .ok (.aload_n 0, 1) := by decide +kernel
theorem dX9_isOf_6 : decode cX9_isOf 6 = .ok (.getfield 18, 3) := by decide +kernel
theorem dX9_isOf_9 : decode cX9_isOf 9 = .ok (.if_icmp .ge 17, 3) := by decide +kernel
theorem dX9_isOf_12 : decode cX9_isOf 12 = .ok (.aload_n 0, 1) := by decide +kernel
theorem dX9_isOf_13 : decode cX9_isOf 13 = .ok (.getfield 15, 3) := by decide +kernel
theorem dX9_isOf_16 : decode cX9_isOf 16 = .ok (.iload_n 1, 1) := by decide +kernel
theorem dX9_isOf_17 : decode cX9_isOf 17 = .ok (.iaload, 1) := by decide +kernel
theorem dX9_isOf_18 : decode cX9_isOf 18 = .ok (.iload_n 2, 1) := by decide +kernel
theorem dX9_isOf_19 : decode cX9_isOf 19 = .ok (.if_icmp .ne 7, 3) := by decide +kernel
theorem dX9_isOf_22 : decode cX9_isOf 22 = .ok (.iconst 1, 1) := by decide +kernel
theorem dX9_isOf_23 : decode cX9_isOf 23 = .ok (.goto 4, 3) := by decide +kernel
theorem dX9_isOf_26 : decode cX9_isOf 26 = .ok (.iconst 0, 1) := by decide +kernel
theorem dX9_isOf_27 : decode cX9_isOf 27 = .ok (.ireturn, 1) := by decide +kernel
theorem dX9_yard_0 : decode cX9_yard 0 = .ok (.iload_n 1, 1) := by decide +kernel
theorem dX9_yard_1 : decode cX9_yard 1 = .ok (.ifCond .lt 20, 3) := by decide +kernel
theorem dX9_yard_4 : decode cX9_yard 4 = .ok (.iload_n 1, 1) := by decide +kernel
theorem dX9_yard_5 : decode cX9_yard 5 = .ok (.aload_n 0, 1) := by decide +kernel
theorem dX9_yard_6 : decode cX9_yard 6 = .ok (.getfield 18, 3) := by decide +kernel
theorem dX9_yard_9 : decode cX9_yard 9 = .ok (.if_icmp .ge 12, 3) := by decide +kernel
theorem dX9_yard_12 : decode cX9_yard 12 = .ok (.aload_n 0, 1) := by decide +kernel
theorem dX9_yard_13 : decode cX9_yard 13 = .ok (.getfield 9, 3) := by decide +kernel
theorem dX9_yard_16 : decode cX9_yard 16 = .ok (.iload_n 1, 1) := by decide +kernel
theorem dX9_yard_17 : decode cX9_yard 17 = .ok (.iaload, 1) := by decide +kernel
theorem dX9_yard_18 : decode cX9_yard 18 = .ok (.goto 4, 3) := by decide +kernel
theorem dX9_yard_21 : decode cX9_yard 21 = .ok (.iconst 0, 1) := by decide +kernel
theorem dX9_yard_22 : decode cX9_yard 22 = .ok (.ireturn, 1) := by decide +kernel
theorem dX10_init_0 : decode cX10_init 0 = .ok (.aload_n 0, 1) := by decide +kernel
theorem dX10_init_1 : decode cX10_init 1 = .ok (.invokespecial 3, 3) := by decide +kernel
theorem dX10_init_4 : decode cX10_init 4 = .ok (.aload_n 0, 1) := by decide +kernel
theorem dX10_init_5 : decode cX10_init 5 = .ok (.new 9, 3) := by decide +kernel
theorem dX10_init_8 : decode cX10_init 8 = .ok (.dup, 1) := by decide +kernel
theorem dX10_init_9 : decode cX10_init 9 = .ok (.invokespecial 11, 3) := by decide +kernel
theorem dX10_init_12 : decode cX10_init 12 = .ok (.putfield 12, 3) := by decide +kernel
theorem dX10_init_15 : decode cX10_init 15 = .ok (.aload_n 0, 1) := by decide +kernel
theorem dX10_init_16 : decode cX10_init 16 = .ok (.new 16, 3) := by decide +kernel
theorem dX10_init_19 : decode cX10_init 19 = .ok (.dup, 1) := by decide +kernel
theorem dX10_init_20 : decode cX10_init 20 = .ok (.aload_n 0, 1) := by decide +kernel
theorem dX10_init_21 : decode cX10_init 21 = .ok (.getfield 12, 3) := by decide +kernel
theorem dX10_init_24 : decode cX10_init 24 = .ok (.invokespecial 18, 3) := by decide +kernel
theorem dX10_init_27 : decode cX10_init 27 = .ok (.putfield 21, 3) := by decide +kernel
theorem dX10_init_30 : decode cX10_init 30 = .ok (.aload_n 0, 1) := by decide +kernel
theorem dX10_init_31 : decode cX10_init 31 = .ok (.new 25, 3) := by decide +kernel
theorem dX10_init_34 : decode cX10_init 34 = .ok (.dup, 1) := by decide +kernel
theorem dX10_init_35 : decode cX10_init 35 = .ok (.invokespecial 27, 3) := by decide +kernel
theorem dX10_init_38 : decode cX10_init 38 = .ok (.putfield 28, 3) := by decide +kernel
theorem dX10_init_41 : decode cX10_init 41 = .ok (.aload_n 0, 1) := by decide +kernel
theorem dX10_init_42 : decode cX10_init 42 = .ok (.new 25, 3) := by decide +kernel
theorem dX10_init_45 : decode cX10_init 45 = .ok (.dup, 1) := by decide +kernel
theorem dX10_init_46 : decode cX10_init 46 = .ok (.invokespecial 27, 3) := by decide +kernel
theorem dX10_init_49 : decode cX10_init 49 = .ok (.putfield 32, 3) := by decide +kernel
theorem dX10_init_52 : decode cX10_init 52 = .ok (.aload_n 0, 1) := by decide +kernel
theorem dX10_init_53 : decode cX10_init 53 = .ok (.new 35, 3) := by decide +kernel
theorem dX10_init_56 : decode cX10_init 56 = .ok (.dup, 1) := by decide +kernel
theorem dX10_init_57 : decode cX10_init 57 = .ok (.invokespecial 37, 3) := by decide +kernel
theorem dX10_init_60 : decode cX10_init 60 = .ok (.putfield 38, 3) := by decide +kernel
theorem dX10_init_63 : decode cX10_init 63 = .ok (.aload_n 0, 1) := by decide +kernel
theorem dX10_init_64 : decode cX10_init 64 = .ok (.new 42, 3) := by decide +kernel
theorem dX10_init_67 : decode cX10_init 67 = .ok (.dup, 1) := by decide +kernel
theorem dX10_init_68 : decode cX10_init 68 = .ok (.invokespecial 44, 3) := by decide +kernel
theorem dX10_init_71 : decode cX10_init 71 = .ok (.putfield 45, 3) := by decide +kernel
theorem dX10_init_74 : decode cX10_init 74 = .ok (.aload_n 0, 1) := by decide +kernel
theorem dX10_init_75 : decode cX10_init 75 = .ok (.new 42, 3) := by decide +kernel
theorem dX10_init_78 : decode cX10_init 78 = .ok (.dup, 1) := by decide +kernel
theorem dX10_init_79 : decode cX10_init 79 = .ok (.invokespecial 44, 3) := by decide +kernel
theorem dX10_init_82 : decode cX10_init 82 = .ok (.putfield 49, 3) := by decide +kernel
theorem dX10_init_85 : decode cX10_init 85 = .ok (.aload_n 0, 1) := by decide +kernel
theorem dX10_init_86 : decode cX10_init 86 = .ok (.new 52, 3) := by decide +kernel
theorem dX10_init_89 : decode cX10_init 89 = .ok (.dup, 1) := by decide +kernel
theorem dX10_init_90 : decode cX10_init 90 = .ok (.invokespecial 54, 3) := by decide +kernel
theorem dX10_init_93 : decode cX10_init 93 = .ok (.putfield 55, 3) := by decide +kernel
theorem dX10_init_96 : decode cX10_init 96 = .ok (.aload_n 0, 1) := by decide +kernel
theorem dX10_init_97 : decode cX10_init 97 = .ok (.new 52, 3) := by decide +kernel
theorem dX10_init_100 : decode cX10_init 100 = .ok (.dup, 1) := by decide +kernel
theorem dX10_init_101 : decode cX10_init 101 = .ok (.invokespecial 54, 3) := by decide +kernel
theorem dX10_init_104 : decode cX10_init 104 = .ok (.putfield 59, 3) := by decide +kernel
theorem dX10_init_107 : decode cX10_init 107 = .ok (.aload_n 0, 1) := by decide +kernel
theorem dX10_init_108 : decode cX10_init 108 = .ok (.new 62, 3) := by decide +kernel
theorem dX10_init_111 : decode cX10_init 111 = .ok (.dup, 1) := by decide +kernel
theorem dX10_init_112 : decode cX10_init 112 = .ok (.invokespecial 64, 3) := by decide +kernel
theorem dX10_init_115 : decode cX10_init 115 = .ok (.putfield 65, 3) := by decide +kernel
theorem dX10_init_118 : decode cX10_init 118 = .ok (.aload_n 0, 1) := by decide +kernel
theorem dX10_init_119 : decode cX10_init 119 = .ok (.new 69, 3) := by decide +kernel
theorem dX10_init_122 : decode cX10_init 122 = .ok (.dup, 1) := by decide +kernel
theorem dX10_init_123 : decode cX10_init 123 = .ok (.invokespecial 71, 3) := by decide +kernel
theorem dX10_init_126 : decode cX10_init 126 = .ok (.putfield 72, 3) := by decide +kernel
theorem dX10_init_129 : decode cX10_init 129 = .ok (.iconst 0, 1) := by decide +kernel
theorem dX10_init_130 : decode cX10_init 130 = .ok (.istore_n 1, 1) := by decide +kernel
theorem dX10_init_131 : decode cX10_init 131 = .ok (.iload_n 1, 1) := by decide +kernel
theorem dX10_init_132 : decode cX10_init 132 = .ok (.ldc 76, 2) := by decide +kernel
theorem dX10_init_134 : decode cX10_init 134 = .ok (.invokevirtual 78, 3) := by decide +kernel
theorem dX10_init_137 : decode cX10_init 137 = .ok (.if_icmp .ge 22, 3) := by decide +kernel
theorem dX10_init_140 : decode cX10_init 140 = .ok (.aload_n 0, 1) := by decide +kernel
theorem dX10_init_141 : decode cX10_init 141 = .ok (.getfield 12, 3) := by decide +kernel
theorem dX10_init_144 : decode cX10_init 144 = .ok (.ldc 76, 2) := by decide +kernel
theorem dX10_init_146 : decode cX10_init 146 = .ok (.iload_n 1, 1) := by decide +kernel
theorem dX10_init_147 : decode cX10_init 147 = .ok (.invokevirtual 84, 3) := by decide +kernel
theorem dX10_init_150 : decode cX10_init 150 = .ok (.invokevirtual 88, 3) := by decide +kernel
theorem dX10_init_153 : decode cX10_init 153 = .ok (.iinc 1 1, 3) := by decide +kernel
theorem dX10_init_156 : decode cX10_init 156 = .ok (.goto (-25), 3) := by decide +kernel
theorem dX10_init_159 : decode cX10_init 159 = .ok (.aload_n 0, 1) := by decide +kernel
theorem dX10_init_160 : decode cX10_init 160 = .ok (.getfield 21, 3) := by decide +kernel
theorem dX10_init_163 : decode cX10_init 163 = .ok (.aload_n 0, 1) := by decide +kernel
theorem dX10_init_164 : decode cX10_init 164 = .ok (.getfield 28, 3) := by decide +kernel
theorem dX10_init_167 : decode cX10_init 167 = .ok (.invokevirtual 92, 3) := by decide +kernel
theorem dX10_init_170 : decode cX10_init 170 = .ok (.pop, 1) := by decide +kernel
theorem dX10_init_171 : decode cX10_init 171 = .ok (.aload_n 0, 1) := by decide +kernel
theorem dX10_init_172 : decode cX10_init 172 = .ok (.getfield 28, 3) := by decide +kernel
theorem dX10_init_175 : decode cX10_init 175 = .ok (.invokevirtual 96, 3) := by decide +kernel
theorem dX10_init_178 : decode cX10_init 178 = .ok (.aload_n 0, 1) := by decide +kernel
theorem dX10_init_179 : decode cX10_init 179 = .ok (.getfield 12, 3) := by decide +kernel
theorem dX10_init_182 : decode cX10_init 182 = .ok (.invokevirtual 99, 3) := by decide +kernel
theorem dX10_init_185 : decode cX10_init 185 = .ok (.aload_n 0, 1) := by decide +kernel
theorem dX10_init_186 : decode cX10_init 186 = .ok (.getfield 38, 3) := by decide +kernel
theorem dX10_init_189 : decode cX10_init 189 = .ok (.aload_n 0, 1) := by decide +kernel
theorem dX10_init_190 : decode cX10_init 190 = .ok (.getfield 28, 3) := by decide +kernel
theorem dX10_init_193 : decode cX10_init 193 = .ok (.invokevirtual 102, 3) := by decide +kernel
theorem dX10_init_196 : decode cX10_init 196 = .ok (.return_, 1) := by decide +kernel
theorem dX10_write_0 : decode cX10_write 0 = .ok (.iload_n 1, 1) := by decide +kernel
theorem dX10_write_1 : decode cX10_write 1 = .ok (.iconst 1, 1) := by decide +kernel
theorem dX10_write_2 : decode cX10_write 2 = .ok (.if_icmp .lt 9, 3) := by decide +kernel
theorem dX10_write_5 : decode cX10_write 5 = .ok (.iload_n 1, 1) := by decide +kernel
theorem dX10_write_6 : decode cX10_write 6 = .ok (.bipush 8, 2) := by decide +kernel
theorem dX10_write_8 : decode cX10_write 8 = .ok (.if_icmp .le 5, 3) := by decide +kernel
theorem dX10_write_11 : decode cX10_write 11 = .ok (.iconst (-1), 1) := by decide +kernel
theorem dX10_write_12 : decode cX10_write 12 = .ok (.ireturn, 1) := by decide +kernel
theorem dX10_write_13 : decode cX10_write 13 = .ok (.aload_n 0, 1) := by decide +kernel
theorem dX10_write_14 : decode cX10_write 14 = .ok (.getfield 12, 3) := by decide +kernel
theorem dX10_write_17 : decode cX10_write 17 = .ok (.invokevirtual 106, 3) := by decide +kernel
theorem dX10_write_20 : decode cX10_write 20 = .ok (.iload_n 1, 1) := by decide +kernel
theorem dX10_write_21 : decode cX10_write 21 = .ok (.iadd, 1) := by decide +kernel
theorem dX10_write_22 : decode cX10_write 22 = .ok (.sipush 300, 3) := by decide +kernel
theorem dX10_write_25 : decode cX10_write 25 = .ok (.if_icmp .le 6, 3) := by decide +kernel
theorem dX10_write_28 : decode cX10_write 28 = .ok (.bipush (-3), 2) := by decide +kernel
theorem dX10_write_30 : decode cX10_write 30 = .ok (.ireturn, 1) := by decide +kernel
theorem dX10_write_31 : decode cX10_write 31 = .ok (.iload_n 1, 1) := by decide +kernel
theorem dX10_write_32 : decode cX10_write 32 = .ok (.iconst 1, 1) := by decide +kernel
theorem dX10_write_33 : decode cX10_write 33 = .ok (.isub, 1) := by decide +kernel
theorem dX10_write_34 : decode cX10_write 34 = .ok (.istore 4, 2) := by decide +kernel
theorem dX10_write_36 : decode cX10_write 36 = .ok (.iload 4, 2) := by decide +kernel
theorem dX10_write_38 : decode cX10_write 38 = .ok (.ifCond .lt 24, 3) := by decide +kernel
theorem dX10_write_41 : decode cX10_write 41 = .ok (.aload_n 0, 1) := by decide +kernel
theorem dX10_write_42 : decode cX10_write 42 = .ok (.getfield 12, 3) := by decide +kernel
theorem dX10_write_45 : decode cX10_write 45 = .ok (.lload_n 2, 1) := by decide +kernel
theorem dX10_write_46 : decode cX10_write 46 = .ok (.bipush 8, 2) := by decide +kernel
theorem dX10_write_48 : decode cX10_write 48 = .ok (.iload 4, 2) := by decide +kernel
theorem dX10_write_50 : decode cX10_write 50 = .ok (.imul, 1) := by decide +kernel
theorem dX10_write_51 : decode cX10_write 51 = .ok (.lushr, 1) := by decide +kernel
theorem dX10_write_52 : decode cX10_write 52 = .ok (.l2i, 1) := by decide +kernel
theorem dX10_write_53 : decode cX10_write 53 = .ok (.invokevirtual 88, 3) := by decide +kernel
theorem dX10_write_56 : decode cX10_write 56 = .ok (.iinc 4 (-1), 3) := by decide +kernel
theorem dX10_write_59 : decode cX10_write 59 = .ok (.goto (-23), 3) := by decide +kernel
theorem dX10_write_62 : decode cX10_write 62 = .ok (.aload_n 0, 1) := by decide +kernel
theorem dX10_write_63 : decode cX10_write 63 = .ok (.getfield 12, 3) := by decide +kernel
theorem dX10_write_66 : decode cX10_write 66 = .ok (.invokevirtual 106, 3) := by decide +kernel
theorem dX10_write_69 : decode cX10_write 69 = .ok (.ireturn, 1) := by decide +kernel
theorem dX10_wipe_0 : decode cX10_wipe 0 = .ok (.aload_n 0, 1) := by decide +kernel
theorem dX10_wipe_1 : decode cX10_wipe 1 = .ok (.getfield 12, 3) := by decide +kernel
theorem dX10_wipe_4 : decode cX10_wipe 4 = .ok (.invokevirtual 106, 3) := by decide +kernel
theorem dX10_wipe_7 : decode cX10_wipe 7 = .ok (.istore_n 1, 1) := by decide +kernel
theorem dX10_wipe_8 : decode cX10_wipe 8 = .ok (.aload_n 0, 1) := by decide +kernel
theorem dX10_wipe_9 : decode cX10_wipe 9 = .ok (.getfield 12, 3) := by decide +kernel
theorem dX10_wipe_12 : decode cX10_wipe 12 = .ok (.invokevirtual 99, 3) := by decide +kernel
theorem dX10_wipe_15 : decode cX10_wipe 15 = .ok (.iload_n 1, 1) := by decide +kernel
theorem dX10_wipe_16 : decode cX10_wipe 16 = .ok (.ireturn, 1) := by decide +kernel
theorem dX10_fault_0 : decode cX10_fault 0 = .ok (.aload_n 0, 1) := by decide +kernel
theorem dX10_fault_1 : decode cX10_fault 1 = .ok (.getfield 21, 3) := by decide +kernel
theorem dX10_fault_4 : decode cX10_fault 4 = .ok (.aload_n 0, 1) := by decide +kernel
theorem dX10_fault_5 : decode cX10_fault 5 = .ok (.getfield 32, 3) := by decide +kernel
theorem dX10_fault_8 : decode cX10_fault 8 = .ok (.invokevirtual 92, 3) := by decide +kernel
theorem dX10_fault_11 : decode cX10_fault 11 = .ok (.ireturn, 1) := by decide +kernel
theorem dX10_lay_0 : decode cX10_lay 0 = .ok (.aload_n 0, 1) := by decide +kernel
theorem dX10_lay_1 : decode cX10_lay 1 = .ok (.getfield 21, 3) := by decide +kernel
theorem dX10_lay_4 : decode cX10_lay 4 = .ok (.aload_n 0, 1) := by decide +kernel
theorem dX10_lay_5 : decode cX10_lay 5 = .ok (.getfield 32, 3) := by decide +kernel
theorem dX10_lay_8 : decode cX10_lay 8 = .ok (.invokevirtual 92, 3) := by decide +kernel
theorem dX10_lay_11 : decode cX10_lay 11 = .ok (.bipush (-4), 2) := by decide +kernel
theorem dX10_lay_13 : decode cX10_lay 13 = .ok (.if_icmp .ne 13, 3) := by decide +kernel
theorem dX10_lay_16 : decode cX10_lay 16 = .ok (.aload_n 0, 1) := by decide +kernel
theorem dX10_lay_17 : decode cX10_lay 17 = .ok (.getfield 32, 3) := by decide +kernel
theorem dX10_lay_20 : decode cX10_lay 20 = .ok (.invokevirtual 107, 3) := by decide +kernel
theorem dX10_lay_23 : decode cX10_lay 23 = .ok (.ifCond .ne 6, 3) := by decide +kernel
theorem dX10_lay_26 : decode cX10_lay 26 = .ok (.bipush (-2), 2) := by decide +kernel
theorem dX10_lay_28 : decode cX10_lay 28 = .ok (.ireturn, 1) := by decide +kernel
theorem dX10_lay_29 : decode cX10_lay 29 = .ok (.aload_n 0, 1) := by decide +kernel
theorem dX10_lay_30 : decode cX10_lay 30 = .ok (.getfield 28, 3) := by decide +kernel
theorem dX10_lay_33 : decode cX10_lay 33 = .ok (.astore_n 1, 1) := by decide +kernel
theorem dX10_lay_34 : decode cX10_lay 34 = .ok (.aload_n 0, 1) := by decide +kernel
theorem dX10_lay_35 : decode cX10_lay 35 = .ok (.aload_n 0, 1) := by decide +kernel
theorem dX10_lay_36 : decode cX10_lay 36 = .ok (.getfield 32, 3) := by decide +kernel
theorem dX10_lay_39 : decode cX10_lay 39 = .ok (.putfield 28, 3) := by decide +kernel
theorem dX10_lay_42 : decode cX10_lay 42 = .ok (.aload_n 0, 1) := by decide +kernel
theorem dX10_lay_43 : decode cX10_lay 43 = .ok (.aload_n 1, 1) := by decide +kernel
theorem dX10_lay_44 : decode cX10_lay 44 = .ok (.putfield 32, 3) := by decide +kernel
theorem dX10_lay_47 : decode cX10_lay 47 = .ok (.aload_n 0, 1) := by decide +kernel
theorem dX10_lay_48 : decode cX10_lay 48 = .ok (.getfield 28, 3) := by decide +kernel
theorem dX10_lay_51 : decode cX10_lay 51 = .ok (.invokevirtual 96, 3) := by decide +kernel
theorem dX10_lay_54 : decode cX10_lay 54 = .ok (.aload_n 0, 1) := by decide +kernel
theorem dX10_lay_55 : decode cX10_lay 55 = .ok (.getfield 38, 3) := by decide +kernel
theorem dX10_lay_58 : decode cX10_lay 58 = .ok (.aload_n 0, 1) := by decide +kernel
theorem dX10_lay_59 : decode cX10_lay 59 = .ok (.getfield 28, 3) := by decide +kernel
theorem dX10_lay_62 : decode cX10_lay 62 = .ok (.invokevirtual 102, 3) := by decide +kernel
theorem dX10_lay_65 : decode cX10_lay 65 = .ok (.aload_n 0, 1) := by decide +kernel
theorem dX10_lay_66 : decode cX10_lay 66 = .ok (.getfield 55, 3) := by decide +kernel
theorem dX10_lay_69 : decode cX10_lay 69 = .ok (.invokevirtual 111, 3) := by decide +kernel
theorem dX10_lay_72 : decode cX10_lay 72 = .ok (.pop, 1) := by decide +kernel
theorem dX10_lay_73 : decode cX10_lay 73 = .ok (.aload_n 0, 1) := by decide +kernel
theorem dX10_lay_74 : decode cX10_lay 74 = .ok (.getfield 59, 3) := by decide +kernel
theorem dX10_lay_77 : decode cX10_lay 77 = .ok (.invokevirtual 111, 3) := by decide +kernel
theorem dX10_lay_80 : decode cX10_lay 80 = .ok (.pop, 1) := by decide +kernel
theorem dX10_lay_81 : decode cX10_lay 81 = .ok (.aload_n 0, 1) := by decide +kernel
theorem dX10_lay_82 : decode cX10_lay 82 = .ok (.getfield 45, 3) := by decide +kernel
theorem dX10_lay_85 : decode cX10_lay 85 = .ok (.invokevirtual 113, 3) := by decide +kernel
theorem dX10_lay_88 : decode cX10_lay 88 = .ok (.aload_n 0, 1) := by decide +kernel
theorem dX10_lay_89 : decode cX10_lay 89 = .ok (.getfield 49, 3) := by decide +kernel
theorem dX10_lay_92 : decode cX10_lay 92 = .ok (.invokevirtual 113, 3) := by decide +kernel
theorem dX10_lay_95 : decode cX10_lay 95 = .ok (.aload_n 0, 1) := by decide +kernel
theorem dX10_lay_96 : decode cX10_lay 96 = .ok (.getfield 28, 3) := by decide +kernel
theorem dX10_lay_99 : decode cX10_lay 99 = .ok (.invokevirtual 114, 3) := by decide +kernel
theorem dX10_lay_102 : decode cX10_lay 102 = .ok (.ireturn, 1) := by decide +kernel
theorem dX10_far_0 : decode cX10_far 0 = .ok (.aload_n 0, 1) := by decide +kernel
theorem dX10_far_1 : decode cX10_far 1 = .ok (.getfield 28, 3) := by decide +kernel
theorem dX10_far_4 : decode cX10_far 4 = .ok (.iload_n 1, 1) := by decide +kernel
theorem dX10_far_5 : decode cX10_far 5 = .ok (.invokevirtual 117, 3) := by decide +kernel
theorem dX10_far_8 : decode cX10_far 8 = .ok (.ifCond .eq 14, 3) := by decide +kernel
theorem dX10_far_11 : decode cX10_far 11 = .ok (.aload_n 0, 1) := by decide +kernel
theorem dX10_far_12 : decode cX10_far 12 = .ok (.getfield 28, 3) := by decide +kernel
theorem dX10_far_15 : decode cX10_far 15 = .ok (.iload_n 2, 1) := by decide +kernel
theorem dX10_far_16 : decode cX10_far 16 = .ok (.invokevirtual 117, 3) := by decide +kernel
theorem dX10_far_19 : decode cX10_far 19 = .ok (.ifCond .ne 5, 3) := by decide +kernel
theorem dX10_far_22 : decode cX10_far 22 = .ok (.iconst (-1), 1) := by decide +kernel
theorem dX10_far_23 : decode cX10_far 23 = .ok (.ireturn, 1) := by decide +kernel
theorem dX10_far_24 : decode cX10_far 24 = .ok (.aload_n 0, 1) := by decide +kernel
theorem dX10_far_25 : decode cX10_far 25 = .ok (.getfield 28, 3) := by decide +kernel
theorem dX10_far_28 : decode cX10_far 28 = .ok (.iload_n 1, 1) := by decide +kernel
theorem dX10_far_29 : decode cX10_far 29 = .ok (.iload_n 2, 1) := by decide +kernel
theorem dX10_far_30 : decode cX10_far 30 = .ok (.invokevirtual 121, 3) := by decide +kernel
theorem dX10_far_33 : decode cX10_far 33 = .ok (.istore_n 3, 1) := by decide +kernel
theorem dX10_far_34 : decode cX10_far 34 = .ok (.iload_n 3, 1) := by decide +kernel
theorem dX10_far_35 : decode cX10_far 35 = .ok (.bipush 99, 2) := by decide +kernel
theorem dX10_far_37 : decode cX10_far 37 = .ok (.if_icmp .ne 8, 3) := by decide +kernel
theorem dX10_far_40 : decode cX10_far 40 = .ok (.bipush (-4), 2) := by decide +kernel
theorem dX10_far_42 : decode cX10_far 42 = .ok (.goto 4, 3) := by decide +kernel
theorem dX10_far_45 : decode cX10_far 45 = .ok (.iload_n 3, 1) := by decide +kernel
theorem dX10_far_46 : decode cX10_far 46 = .ok (.ireturn, 1) := by decide +kernel
theorem dX10_person_0 : decode cX10_person 0 = .ok (.aload_n 0, 1) := by decide +kernel
theorem dX10_person_1 : decode cX10_person 1 = .ok (.getfield 28, 3) := by decide +kernel
theorem dX10_person_4 : decode cX10_person 4 = .ok (.iload_n 1, 1) := by decide +kernel
theorem dX10_person_5 : decode cX10_person 5 = .ok (.invokevirtual 125, 3) := by decide +kernel
theorem dX10_person_8 : decode cX10_person 8 = .ok (.ifCond .eq 15, 3) := by decide +kernel
theorem dX10_person_11 : decode cX10_person 11 = .ok (.iload_n 2, 1) := by decide +kernel
theorem dX10_person_12 : decode cX10_person 12 = .ok (.iconst (-1), 1) := by decide +kernel
theorem dX10_person_13 : decode cX10_person 13 = .ok (.if_icmp .lt 10, 3) := by decide +kernel
theorem dX10_person_16 : decode cX10_person 16 = .ok (.iload_n 2, 1) := by decide +kernel
theorem dX10_person_17 : decode cX10_person 17 = .ok (.sipush 9999, 3) := by decide +kernel
theorem dX10_person_20 : decode cX10_person 20 = .ok (.if_icmp .le 5, 3) := by decide +kernel
theorem dX10_person_23 : decode cX10_person 23 = .ok (.iconst (-1), 1) := by decide +kernel
theorem dX10_person_24 : decode cX10_person 24 = .ok (.ireturn, 1) := by decide +kernel
theorem dX10_person_25 : decode cX10_person 25 = .ok (.iload_n 2, 1) := by decide +kernel
theorem dX10_person_26 : decode cX10_person 26 = .ok (.iconst (-1), 1) := by decide +kernel
theorem dX10_person_27 : decode cX10_person 27 = .ok (.if_icmp .ne 14, 3) := by decide +kernel
theorem dX10_person_30 : decode cX10_person 30 = .ok (.aload_n 0, 1) := by decide +kernel
theorem dX10_person_31 : decode cX10_person 31 = .ok (.getfield 28, 3) := by decide +kernel
theorem dX10_person_34 : decode cX10_person 34 = .ok (.iload_n 1, 1) := by decide +kernel
theorem dX10_person_35 : decode cX10_person 35 = .ok (.invokevirtual 128, 3) := by decide +kernel
theorem dX10_person_38 : decode cX10_person 38 = .ok (.goto 12, 3) := by decide +kernel
theorem dX10_person_41 : decode cX10_person 41 = .ok (.aload_n 0, 1) := by decide +kernel
theorem dX10_person_42 : decode cX10_person 42 = .ok (.getfield 28, 3) := by decide +kernel
theorem dX10_person_45 : decode cX10_person 45 = .ok (.iload_n 1, 1) := by decide +kernel
theorem dX10_person_46 : decode cX10_person 46 = .ok (.iload_n 2, 1) := by decide +kernel
theorem dX10_person_47 : decode cX10_person 47 = .ok (.invokevirtual 132, 3) := by decide +kernel
theorem dX10_person_50 : decode cX10_person 50 = .ok (.ireturn, 1) := by decide +kernel
theorem dX10_feed_0 : decode cX10_feed 0 = .ok (.aload_n 0, 1) := by decide +kernel
theorem dX10_feed_1 : decode cX10_feed 1 = .ok (.getfield 28, 3) := by decide +kernel
theorem dX10_feed_4 : decode cX10_feed 4 = .ok (.iload_n 1, 1) := by decide +kernel
theorem dX10_feed_5 : decode cX10_feed 5 = .ok (.invokevirtual 125, 3) := by decide +kernel
theorem dX10_feed_8 : decode cX10_feed 8 = .ok (.ifCond .ne 5, 3) := by decide +kernel
theorem dX10_feed_11 : decode cX10_feed 11 = .ok (.iconst (-1), 1) := by decide +kernel
theorem dX10_feed_12 : decode cX10_feed 12 = .ok (.ireturn, 1) := by decide +kernel
theorem dX10_feed_13 : decode cX10_feed 13 = .ok (.aload_n 0, 1) := by decide +kernel
theorem dX10_feed_14 : decode cX10_feed 14 = .ok (.getfield 28, 3) := by decide +kernel
theorem dX10_feed_17 : decode cX10_feed 17 = .ok (.iload_n 1, 1) := by decide +kernel
theorem dX10_feed_18 : decode cX10_feed 18 = .ok (.aload_n 0, 1) := by decide +kernel
theorem dX10_feed_19 : decode cX10_feed 19 = .ok (.getfield 38, 3) := by decide +kernel
theorem dX10_feed_22 : decode cX10_feed 22 = .ok (.getfield 135, 3) := by decide +kernel
theorem dX10_feed_25 : decode cX10_feed 25 = .ok (.aload_n 0, 1) := by decide +kernel
theorem dX10_feed_26 : decode cX10_feed 26 = .ok (.getfield 38, 3) := by decide +kernel
theorem dX10_feed_29 : decode cX10_feed 29 = .ok (.getfield 139, 3) := by decide +kernel
theorem dX10_feed_32 : decode cX10_feed 32 = .ok (.invokevirtual 142, 3) := by decide +kernel
theorem dX10_feed_35 : decode cX10_feed 35 = .ok (.ifCond .ne 6, 3) := by decide +kernel
theorem dX10_feed_38 : decode cX10_feed 38 = .ok (.bipush (-2), 2) := by decide +kernel
theorem dX10_feed_40 : decode cX10_feed 40 = .ok (.ireturn, 1) := by decide +kernel
theorem dX10_feed_41 : decode cX10_feed 41 = .ok (.aload_n 0, 1) := by decide +kernel
theorem dX10_feed_42 : decode cX10_feed 42 = .ok (.getfield 45, 3) := by decide +kernel
theorem dX10_feed_45 : decode cX10_feed 45 = .ok (.aload_n 0, 1) := by decide +kernel
theorem dX10_feed_46 : decode cX10_feed 46 = .ok (.getfield 38, 3) := by decide +kernel
theorem dX10_feed_49 : decode cX10_feed 49 = .ok (.invokevirtual 146, 3) := by decide +kernel
theorem dX10_feed_52 : decode cX10_feed 52 = .ok (.aload_n 0, 1) := by decide +kernel
theorem dX10_feed_53 : decode cX10_feed 53 = .ok (.getfield 38, 3) := by decide +kernel
theorem dX10_feed_56 : decode cX10_feed 56 = .ok (.aload_n 0, 1) := by decide +kernel
theorem dX10_feed_57 : decode cX10_feed 57 = .ok (.getfield 38, 3) := by decide +kernel
theorem dX10_feed_60 : decode cX10_feed 60 = .ok (.getfield 135, 3) := by decide +kernel
theorem dX10_feed_63 : decode cX10_feed 63 = .ok (.iload_n 1, 1) := by decide +kernel
theorem dX10_feed_64 : decode cX10_feed 64 = .ok (.invokestatic 150, 3) := by decide +kernel
theorem dX10_feed_67 : decode cX10_feed 67 = .ok (.putfield 135, 3) := by decide +kernel
theorem dX10_feed_70 : decode cX10_feed 70 = .ok (.aload_n 0, 1) := by decide +kernel
theorem dX10_feed_71 : decode cX10_feed 71 = .ok (.getfield 38, 3) := by decide +kernel
theorem dX10_feed_74 : decode cX10_feed 74 = .ok (.dup, 1) := by decide +kernel
theorem dX10_feed_75 : decode cX10_feed 75 = .ok (.getfield 153, 3) := by decide +kernel
theorem dX10_feed_78 : decode cX10_feed 78 = .ok (.iconst 1, 1) := by decide +kernel
theorem dX10_feed_79 : decode cX10_feed 79 = .ok (.iadd, 1) := by decide +kernel
theorem dX10_feed_80 : decode cX10_feed 80 = .ok (.putfield 153, 3) := by decide +kernel
theorem dX10_feed_83 : decode cX10_feed 83 = .ok (.aload_n 0, 1) := by decide +kernel
theorem dX10_feed_84 : decode cX10_feed 84 = .ok (.getfield 38, 3) := by decide +kernel
theorem dX10_feed_87 : decode cX10_feed 87 = .ok (.getfield 153, 3) := by decide +kernel
theorem dX10_feed_90 : decode cX10_feed 90 = .ok (.ireturn, 1) := by decide +kernel
theorem dX10_pass_0 : decode cX10_pass 0 = .ok (.iload_n 1, 1) := by decide +kernel
theorem dX10_pass_1 : decode cX10_pass 1 = .ok (.iconst 1, 1) := by decide +kernel
theorem dX10_pass_2 : decode cX10_pass 2 = .ok (.if_icmp .lt 9, 3) := by decide +kernel
theorem dX10_pass_5 : decode cX10_pass 5 = .ok (.iload_n 1, 1) := by decide +kernel
theorem dX10_pass_6 : decode cX10_pass 6 = .ok (.bipush 99, 2) := by decide +kernel
theorem dX10_pass_8 : decode cX10_pass 8 = .ok (.if_icmp .le 5, 3) := by decide +kernel
theorem dX10_pass_11 : decode cX10_pass 11 = .ok (.iconst (-1), 1) := by decide +kernel
theorem dX10_pass_12 : decode cX10_pass 12 = .ok (.ireturn, 1) := by decide +kernel
theorem dX10_pass_13 : decode cX10_pass 13 = .ok (.aload_n 0, 1) := by decide +kernel
theorem dX10_pass_14 : decode cX10_pass 14 = .ok (.getfield 38, 3) := by decide +kernel
theorem dX10_pass_17 : decode cX10_pass 17 = .ok (.getfield 139, 3) := by decide +kernel
theorem dX10_pass_20 : decode cX10_pass 20 = .ok (.iload_n 1, 1) := by decide +kernel
theorem dX10_pass_21 : decode cX10_pass 21 = .ok (.iadd, 1) := by decide +kernel
theorem dX10_pass_22 : decode cX10_pass 22 = .ok (.sipush 9999, 3) := by decide +kernel
theorem dX10_pass_25 : decode cX10_pass 25 = .ok (.if_icmp .le 6, 3) := by decide +kernel
theorem dX10_pass_28 : decode cX10_pass 28 = .ok (.bipush (-2), 2) := by decide +kernel
theorem dX10_pass_30 : decode cX10_pass 30 = .ok (.ireturn, 1) := by decide +kernel
theorem dX10_pass_31 : decode cX10_pass 31 = .ok (.aload_n 0, 1) := by decide +kernel
theorem dX10_pass_32 : decode cX10_pass 32 = .ok (.getfield 45, 3) := by decide +kernel
theorem dX10_pass_35 : decode cX10_pass 35 = .ok (.aload_n 0, 1) := by decide +kernel
theorem dX10_pass_36 : decode cX10_pass 36 = .ok (.getfield 38, 3) := by decide +kernel
theorem dX10_pass_39 : decode cX10_pass 39 = .ok (.invokevirtual 146, 3) := by decide +kernel
theorem dX10_pass_42 : decode cX10_pass 42 = .ok (.aload_n 0, 1) := by decide +kernel
theorem dX10_pass_43 : decode cX10_pass 43 = .ok (.getfield 38, 3) := by decide +kernel
theorem dX10_pass_46 : decode cX10_pass 46 = .ok (.aload_n 0, 1) := by decide +kernel
theorem dX10_pass_47 : decode cX10_pass 47 = .ok (.getfield 28, 3) := by decide +kernel
theorem dX10_pass_50 : decode cX10_pass 50 = .ok (.aload_n 0, 1) := by decide +kernel
theorem dX10_pass_51 : decode cX10_pass 51 = .ok (.getfield 38, 3) := by decide +kernel
theorem dX10_pass_54 : decode cX10_pass 54 = .ok (.getfield 135, 3) := by decide +kernel
theorem dX10_pass_57 : decode cX10_pass 57 = .ok (.aload_n 0, 1) := by decide +kernel
theorem dX10_pass_58 : decode cX10_pass 58 = .ok (.getfield 38, 3) := by decide +kernel
theorem dX10_pass_61 : decode cX10_pass 61 = .ok (.getfield 139, 3) := by decide +kernel
theorem dX10_pass_64 : decode cX10_pass 64 = .ok (.iload_n 1, 1) := by decide +kernel
theorem dX10_pass_65 : decode cX10_pass 65 = .ok (.invokevirtual 156, 3) := by decide +kernel
theorem dX10_pass_68 : decode cX10_pass 68 = .ok (.putfield 135, 3) := by decide +kernel
theorem dX10_pass_71 : decode cX10_pass 71 = .ok (.aload_n 0, 1) := by decide +kernel
theorem dX10_pass_72 : decode cX10_pass 72 = .ok (.getfield 38, 3) := by decide +kernel
theorem dX10_pass_75 : decode cX10_pass 75 = .ok (.dup, 1) := by decide +kernel
theorem dX10_pass_76 : decode cX10_pass 76 = .ok (.getfield 139, 3) := by decide +kernel
theorem dX10_pass_79 : decode cX10_pass 79 = .ok (.iload_n 1, 1) := by decide +kernel
theorem dX10_pass_80 : decode cX10_pass 80 = .ok (.iadd, 1) := by decide +kernel
theorem dX10_pass_81 : decode cX10_pass 81 = .ok (.putfield 139, 3) := by decide +kernel
theorem dX10_pass_84 : decode cX10_pass 84 = .ok (.aload_n 0, 1) := by decide +kernel
theorem dX10_pass_85 : decode cX10_pass 85 = .ok (.getfield 38, 3) := by decide +kernel
theorem dX10_pass_88 : decode cX10_pass 88 = .ok (.getfield 135, 3) := by decide +kernel
theorem dX10_pass_91 : decode cX10_pass 91 = .ok (.invokestatic 160, 3) := by decide +kernel
theorem dX10_pass_94 : decode cX10_pass 94 = .ok (.ireturn, 1) := by decide +kernel
theorem dX10_undo_0 : decode cX10_undo 0 = .ok (.aload_n 0, 1) := by decide +kernel
theorem dX10_undo_1 : decode cX10_undo 1 = .ok (.getfield 45, 3) := by decide +kernel
theorem dX10_undo_4 : decode cX10_undo 4 = .ok (.invokevirtual 163, 3) := by decide +kernel
theorem dX10_undo_7 : decode cX10_undo 7 = .ok (.ifCond .ne 6, 3) := by decide +kernel
theorem dX10_undo_10 : decode cX10_undo 10 = .ok (.bipush (-2), 2) := by decide +kernel
theorem dX10_undo_12 : decode cX10_undo 12 = .ok (.ireturn, 1) := by decide +kernel
theorem dX10_undo_13 : decode cX10_undo 13 = .ok (.aload_n 0, 1) := by decide +kernel
theorem dX10_undo_14 : decode cX10_undo 14 = .ok (.getfield 45, 3) := by decide +kernel
theorem dX10_undo_17 : decode cX10_undo 17 = .ok (.aload_n 0, 1) := by decide +kernel
theorem dX10_undo_18 : decode cX10_undo 18 = .ok (.getfield 38, 3) := by decide +kernel
theorem dX10_undo_21 : decode cX10_undo 21 = .ok (.invokevirtual 166, 3) := by decide +kernel
theorem dX10_undo_24 : decode cX10_undo 24 = .ok (.aload_n 0, 1) := by decide +kernel
theorem dX10_undo_25 : decode cX10_undo 25 = .ok (.getfield 45, 3) := by decide +kernel
theorem dX10_undo_28 : decode cX10_undo 28 = .ok (.invokevirtual 163, 3) := by decide +kernel
theorem dX10_undo_31 : decode cX10_undo 31 = .ok (.ireturn, 1) := by decide +kernel
theorem dX10_calf_0 : decode cX10_calf 0 = .ok (.iload_n 1, 1) := by decide +kernel
theorem dX10_calf_1 : decode cX10_calf 1 = .ok (.ifCond .lt 17, 3) := by decide +kernel
theorem dX10_calf_4 : decode cX10_calf 4 = .ok (.iload_n 1, 1) := by decide +kernel
theorem dX10_calf_5 : decode cX10_calf 5 = .ok (.sipush 400, 3) := by decide +kernel
theorem dX10_calf_8 : decode cX10_calf 8 = .ok (.if_icmp .gt 10, 3) := by decide +kernel
theorem dX10_calf_11 : decode cX10_calf 11 = .ok (.iload_n 2, 1) := by decide +kernel
theorem dX10_calf_12 : decode cX10_calf 12 = .ok (.invokestatic 169, 3) := by decide +kernel
theorem dX10_calf_15 : decode cX10_calf 15 = .ok (.ifCond .ne 5, 3) := by decide +kernel
theorem dX10_calf_18 : decode cX10_calf 18 = .ok (.iconst (-1), 1) := by decide +kernel
theorem dX10_calf_19 : decode cX10_calf 19 = .ok (.ireturn, 1) := by decide +kernel
theorem dX10_calf_20 : decode cX10_calf 20 = .ok (.aload_n 0, 1) := by decide +kernel
theorem dX10_calf_21 : decode cX10_calf 21 = .ok (.getfield 28, 3) := by decide +kernel
theorem dX10_calf_24 : decode cX10_calf 24 = .ok (.aload_n 0, 1) := by decide +kernel
theorem dX10_calf_25 : decode cX10_calf 25 = .ok (.getfield 38, 3) := by decide +kernel
theorem dX10_calf_28 : decode cX10_calf 28 = .ok (.getfield 135, 3) := by decide +kernel
theorem dX10_calf_31 : decode cX10_calf 31 = .ok (.aload_n 0, 1) := by decide +kernel
theorem dX10_calf_32 : decode cX10_calf 32 = .ok (.getfield 38, 3) := by decide +kernel
theorem dX10_calf_35 : decode cX10_calf 35 = .ok (.getfield 139, 3) := by decide +kernel
theorem dX10_calf_38 : decode cX10_calf 38 = .ok (.iload_n 1, 1) := by decide +kernel
theorem dX10_calf_39 : decode cX10_calf 39 = .ok (.invokevirtual 156, 3) := by decide +kernel
theorem dX10_calf_42 : decode cX10_calf 42 = .ok (.istore_n 3, 1) := by decide +kernel
theorem dX10_calf_43 : decode cX10_calf 43 = .ok (.iload_n 2, 1) := by decide +kernel
theorem dX10_calf_44 : decode cX10_calf 44 = .ok (.ifCond .ne 10, 3) := by decide +kernel
theorem dX10_calf_47 : decode cX10_calf 47 = .ok (.iload_n 3, 1) := by decide +kernel
theorem dX10_calf_48 : decode cX10_calf 48 = .ok (.invokestatic 160, 3) := by decide +kernel
theorem dX10_calf_51 : decode cX10_calf 51 = .ok (.goto 10, 3) := by decide +kernel
theorem dX10_calf_54 : decode cX10_calf 54 = .ok (.iload_n 3, 1) := by decide +kernel
theorem dX10_calf_55 : decode cX10_calf 55 = .ok (.invokestatic 172, 3) := by decide +kernel
theorem dX10_calf_58 : decode cX10_calf 58 = .ok (.invokestatic 175, 3) := by decide +kernel
theorem dX10_calf_61 : decode cX10_calf 61 = .ok (.ireturn, 1) := by decide +kernel
theorem dX10_goal_0 : decode cX10_goal 0 = .ok (.aload_n 0, 1) := by decide +kernel
theorem dX10_goal_1 : decode cX10_goal 1 = .ok (.getfield 28, 3) := by decide +kernel
theorem dX10_goal_4 : decode cX10_goal 4 = .ok (.iload_n 1, 1) := by decide +kernel
theorem dX10_goal_5 : decode cX10_goal 5 = .ok (.invokevirtual 117, 3) := by decide +kernel
theorem dX10_goal_8 : decode cX10_goal 8 = .ok (.ifCond .eq 13, 3) := by decide +kernel
theorem dX10_goal_11 : decode cX10_goal 11 = .ok (.iload_n 2, 1) := by decide +kernel
theorem dX10_goal_12 : decode cX10_goal 12 = .ok (.ifCond .lt 9, 3) := by decide +kernel
theorem dX10_goal_15 : decode cX10_goal 15 = .ok (.iload_n 2, 1) := by decide +kernel
theorem dX10_goal_16 : decode cX10_goal 16 = .ok (.bipush 40, 2) := by decide +kernel
theorem dX10_goal_18 : decode cX10_goal 18 = .ok (.if_icmp .le 5, 3) := by decide +kernel
theorem dX10_goal_21 : decode cX10_goal 21 = .ok (.iconst (-1), 1) := by decide +kernel
theorem dX10_goal_22 : decode cX10_goal 22 = .ok (.ireturn, 1) := by decide +kernel
theorem dX10_goal_23 : decode cX10_goal 23 = .ok (.aload_n 0, 1) := by decide +kernel
theorem dX10_goal_24 : decode cX10_goal 24 = .ok (.getfield 55, 3) := by decide +kernel
theorem dX10_goal_27 : decode cX10_goal 27 = .ok (.iload_n 1, 1) := by decide +kernel
theorem dX10_goal_28 : decode cX10_goal 28 = .ok (.iload_n 2, 1) := by decide +kernel
theorem dX10_goal_29 : decode cX10_goal 29 = .ok (.invokevirtual 178, 3) := by decide +kernel
theorem dX10_goal_32 : decode cX10_goal 32 = .ok (.ireturn, 1) := by decide +kernel
theorem dX10_noGoals_0 : decode cX10_noGoals 0 = .ok (.aload_n 0, 1) := by decide +kernel
theorem dX10_noGoals_1 : decode cX10_noGoals 1 = .ok (.getfield 55, 3) := by decide +kernel
theorem dX10_noGoals_4 : decode cX10_noGoals 4 = .ok (.invokevirtual 111, 3) := by decide +kernel
theorem dX10_noGoals_7 : decode cX10_noGoals 7 = .ok (.ireturn, 1) := by decide +kernel
theorem dX10_price_0 : decode cX10_price 0 = .ok (.aload_n 0, 1) := by decide +kernel
theorem dX10_price_1 : decode cX10_price 1 = .ok (.getfield 65, 3) := by decide +kernel
theorem dX10_price_4 : decode cX10_price 4 = .ok (.aload_n 0, 1) := by decide +kernel
theorem dX10_price_5 : decode cX10_price 5 = .ok (.getfield 28, 3) := by decide +kernel
theorem dX10_price_8 : decode cX10_price 8 = .ok (.aload_n 0, 1) := by decide +kernel
theorem dX10_price_9 : decode cX10_price 9 = .ok (.getfield 38, 3) := by decide +kernel
theorem dX10_price_12 : decode cX10_price 12 = .ok (.aload_n 0, 1) := by decide +kernel
theorem dX10_price_13 : decode cX10_price 13 = .ok (.getfield 55, 3) := by decide +kernel
theorem dX10_price_16 : decode cX10_price 16 = .ok (.invokevirtual 181, 3) := by decide +kernel
theorem dX10_price_19 : decode cX10_price 19 = .ok (.bipush (-4), 2) := by decide +kernel
theorem dX10_price_21 : decode cX10_price 21 = .ok (.if_icmp .ne 13, 3) := by decide +kernel
theorem dX10_price_24 : decode cX10_price 24 = .ok (.aload_n 0, 1) := by decide +kernel
theorem dX10_price_25 : decode cX10_price 25 = .ok (.getfield 65, 3) := by decide +kernel
theorem dX10_price_28 : decode cX10_price 28 = .ok (.invokevirtual 185, 3) := by decide +kernel
theorem dX10_price_31 : decode cX10_price 31 = .ok (.goto 5, 3) := by decide +kernel
theorem dX10_price_34 : decode cX10_price 34 = .ok (.bipush (-4), 2) := by decide +kernel
theorem dX10_price_36 : decode cX10_price 36 = .ok (.ireturn, 1) := by decide +kernel
theorem dX10_first_0 : decode cX10_first 0 = .ok (.aload_n 0, 1) := by decide +kernel
theorem dX10_first_1 : decode cX10_first 1 = .ok (.getfield 65, 3) := by decide +kernel
theorem dX10_first_4 : decode cX10_first 4 = .ok (.aload_n 0, 1) := by decide +kernel
theorem dX10_first_5 : decode cX10_first 5 = .ok (.getfield 28, 3) := by decide +kernel
theorem dX10_first_8 : decode cX10_first 8 = .ok (.aload_n 0, 1) := by decide +kernel
theorem dX10_first_9 : decode cX10_first 9 = .ok (.getfield 38, 3) := by decide +kernel
theorem dX10_first_12 : decode cX10_first 12 = .ok (.aload_n 0, 1) := by decide +kernel
theorem dX10_first_13 : decode cX10_first 13 = .ok (.getfield 55, 3) := by decide +kernel
theorem dX10_first_16 : decode cX10_first 16 = .ok (.invokevirtual 181, 3) := by decide +kernel
theorem dX10_first_19 : decode cX10_first 19 = .ok (.bipush (-4), 2) := by decide +kernel
theorem dX10_first_21 : decode cX10_first 21 = .ok (.if_icmp .ne 16, 3) := by decide +kernel
theorem dX10_first_24 : decode cX10_first 24 = .ok (.aload_n 0, 1) := by decide +kernel
theorem dX10_first_25 : decode cX10_first 25 = .ok (.getfield 65, 3) := by decide +kernel
theorem dX10_first_28 : decode cX10_first 28 = .ok (.invokevirtual 188, 3) := by decide +kernel
theorem dX10_first_31 : decode cX10_first 31 = .ok (.invokestatic 175, 3) := by decide +kernel
theorem dX10_first_34 : decode cX10_first 34 = .ok (.goto 5, 3) := by decide +kernel
theorem dX10_first_37 : decode cX10_first 37 = .ok (.bipush (-4), 2) := by decide +kernel
theorem dX10_first_39 : decode cX10_first 39 = .ok (.ireturn, 1) := by decide +kernel
theorem dX10_bars_0 : decode cX10_bars 0 = .ok (.aload_n 0, 1) := by decide +kernel
theorem dX10_bars_1 : decode cX10_bars 1 = .ok (.getfield 65, 3) := by decide +kernel
theorem dX10_bars_4 : decode cX10_bars 4 = .ok (.aload_n 0, 1) := by decide +kernel
theorem dX10_bars_5 : decode cX10_bars 5 = .ok (.getfield 28, 3) := by decide +kernel
theorem dX10_bars_8 : decode cX10_bars 8 = .ok (.aload_n 0, 1) := by decide +kernel
theorem dX10_bars_9 : decode cX10_bars 9 = .ok (.getfield 38, 3) := by decide +kernel
theorem dX10_bars_12 : decode cX10_bars 12 = .ok (.aload_n 0, 1) := by decide +kernel
theorem dX10_bars_13 : decode cX10_bars 13 = .ok (.getfield 55, 3) := by decide +kernel
theorem dX10_bars_16 : decode cX10_bars 16 = .ok (.invokevirtual 181, 3) := by decide +kernel
theorem dX10_bars_19 : decode cX10_bars 19 = .ok (.ireturn, 1) := by decide +kernel
theorem dX10_game_0 : decode cX10_game 0 = .ok (.iload_n 1, 1) := by decide +kernel
theorem dX10_game_1 : decode cX10_game 1 = .ok (.iconst 1, 1) := by decide +kernel
theorem dX10_game_2 : decode cX10_game 2 = .ok (.if_icmp .lt 28, 3) := by decide +kernel
theorem dX10_game_5 : decode cX10_game 5 = .ok (.iload_n 1, 1) := by decide +kernel
theorem dX10_game_6 : decode cX10_game 6 = .ok (.bipush 12, 2) := by decide +kernel
theorem dX10_game_8 : decode cX10_game 8 = .ok (.if_icmp .gt 22, 3) := by decide +kernel
theorem dX10_game_11 : decode cX10_game 11 = .ok (.aload_n 0, 1) := by decide +kernel
theorem dX10_game_12 : decode cX10_game 12 = .ok (.getfield 28, 3) := by decide +kernel
theorem dX10_game_15 : decode cX10_game 15 = .ok (.iload_n 2, 1) := by decide +kernel
theorem dX10_game_16 : decode cX10_game 16 = .ok (.invokevirtual 117, 3) := by decide +kernel
theorem dX10_game_19 : decode cX10_game 19 = .ok (.ifCond .eq 11, 3) := by decide +kernel
theorem dX10_game_22 : decode cX10_game 22 = .ok (.iload 4, 2) := by decide +kernel
theorem dX10_game_24 : decode cX10_game 24 = .ok (.invokestatic 169, 3) := by decide +kernel
theorem dX10_game_27 : decode cX10_game 27 = .ok (.ifCond .ne 5, 3) := by decide +kernel
theorem dX10_game_30 : decode cX10_game 30 = .ok (.iconst (-1), 1) := by decide +kernel
theorem dX10_game_31 : decode cX10_game 31 = .ok (.ireturn, 1) := by decide +kernel
theorem dX10_game_32 : decode cX10_game 32 = .ok (.iload_n 3, 1) := by decide +kernel
theorem dX10_game_33 : decode cX10_game 33 = .ok (.ifCond .lt 14, 3) := by decide +kernel
theorem dX10_game_36 : decode cX10_game 36 = .ok (.iload_n 3, 1) := by decide +kernel
theorem dX10_game_37 : decode cX10_game 37 = .ok (.aload_n 0, 1) := by decide +kernel
theorem dX10_game_38 : decode cX10_game 38 = .ok (.getfield 28, 3) := by decide +kernel
theorem dX10_game_41 : decode cX10_game 41 = .ok (.invokevirtual 191, 3) := by decide +kernel
theorem dX10_game_44 : decode cX10_game 44 = .ok (.if_icmp .le 5, 3) := by decide +kernel
theorem dX10_game_47 : decode cX10_game 47 = .ok (.iconst (-1), 1) := by decide +kernel
theorem dX10_game_48 : decode cX10_game 48 = .ok (.ireturn, 1) := by decide +kernel
theorem dX10_game_49 : decode cX10_game 49 = .ok (.aload_n 0, 1) := by decide +kernel
theorem dX10_game_50 : decode cX10_game 50 = .ok (.getfield 72, 3) := by decide +kernel
theorem dX10_game_53 : decode cX10_game 53 = .ok (.aload_n 0, 1) := by decide +kernel
theorem dX10_game_54 : decode cX10_game 54 = .ok (.getfield 28, 3) := by decide +kernel
theorem dX10_game_57 : decode cX10_game 57 = .ok (.aload_n 0, 1) := by decide +kernel
theorem dX10_game_58 : decode cX10_game 58 = .ok (.getfield 38, 3) := by decide +kernel
theorem dX10_game_61 : decode cX10_game 61 = .ok (.iload_n 1, 1) := by decide +kernel
theorem dX10_game_62 : decode cX10_game 62 = .ok (.iload_n 2, 1) := by decide +kernel
theorem dX10_game_63 : decode cX10_game 63 = .ok (.iload_n 3, 1) := by decide +kernel
theorem dX10_game_64 : decode cX10_game 64 = .ok (.invokevirtual 194, 3) := by decide +kernel
theorem dX10_game_67 : decode cX10_game 67 = .ok (.istore 5, 2) := by decide +kernel
theorem dX10_game_69 : decode cX10_game 69 = .ok (.iload 4, 2) := by decide +kernel
theorem dX10_game_71 : decode cX10_game 71 = .ok (.ifCond .ne 16, 3) := by decide +kernel
theorem dX10_game_74 : decode cX10_game 74 = .ok (.iload 5, 2) := by decide +kernel
theorem dX10_game_76 : decode cX10_game 76 = .ok (.bipush (-2), 2) := by decide +kernel
theorem dX10_game_78 : decode cX10_game 78 = .ok (.if_icmp .ne 7, 3) := by decide +kernel
theorem dX10_game_81 : decode cX10_game 81 = .ok (.iconst 0, 1) := by decide +kernel
theorem dX10_game_82 : decode cX10_game 82 = .ok (.goto 4, 3) := by decide +kernel
theorem dX10_game_85 : decode cX10_game 85 = .ok (.iconst 1, 1) := by decide +kernel
theorem dX10_game_86 : decode cX10_game 86 = .ok (.ireturn, 1) := by decide +kernel
theorem dX10_game_87 : decode cX10_game 87 = .ok (.iload 5, 2) := by decide +kernel
theorem dX10_game_89 : decode cX10_game 89 = .ok (.invokestatic 175, 3) := by decide +kernel
theorem dX10_game_92 : decode cX10_game 92 = .ok (.ireturn, 1) := by decide +kernel
theorem dX10_seen_0 : decode cX10_seen 0 = .ok (.aload_n 0, 1) := by decide +kernel
theorem dX10_seen_1 : decode cX10_seen 1 = .ok (.getfield 28, 3) := by decide +kernel
theorem dX10_seen_4 : decode cX10_seen 4 = .ok (.iload_n 1, 1) := by decide +kernel
theorem dX10_seen_5 : decode cX10_seen 5 = .ok (.invokevirtual 117, 3) := by decide +kernel
theorem dX10_seen_8 : decode cX10_seen 8 = .ok (.ifCond .eq 13, 3) := by decide +kernel
theorem dX10_seen_11 : decode cX10_seen 11 = .ok (.iload_n 2, 1) := by decide +kernel
theorem dX10_seen_12 : decode cX10_seen 12 = .ok (.ifCond .lt 9, 3) := by decide +kernel
theorem dX10_seen_15 : decode cX10_seen 15 = .ok (.iload_n 2, 1) := by decide +kernel
theorem dX10_seen_16 : decode cX10_seen 16 = .ok (.bipush 20, 2) := by decide +kernel
theorem dX10_seen_18 : decode cX10_seen 18 = .ok (.if_icmp .le 5, 3) := by decide +kernel
theorem dX10_seen_21 : decode cX10_seen 21 = .ok (.iconst (-1), 1) := by decide +kernel
theorem dX10_seen_22 : decode cX10_seen 22 = .ok (.ireturn, 1) := by decide +kernel
theorem dX10_seen_23 : decode cX10_seen 23 = .ok (.aload_n 0, 1) := by decide +kernel
theorem dX10_seen_24 : decode cX10_seen 24 = .ok (.getfield 59, 3) := by decide +kernel
theorem dX10_seen_27 : decode cX10_seen 27 = .ok (.iload_n 1, 1) := by decide +kernel
theorem dX10_seen_28 : decode cX10_seen 28 = .ok (.iload_n 2, 1) := by decide +kernel
theorem dX10_seen_29 : decode cX10_seen 29 = .ok (.invokevirtual 178, 3) := by decide +kernel
theorem dX10_seen_32 : decode cX10_seen 32 = .ok (.ireturn, 1) := by decide +kernel
theorem dX10_forget_0 : decode cX10_forget 0 = .ok (.aload_n 0, 1) := by decide +kernel
theorem dX10_forget_1 : decode cX10_forget 1 = .ok (.getfield 59, 3) := by decide +kernel
theorem dX10_forget_4 : decode cX10_forget 4 = .ok (.invokevirtual 111, 3) := by decide +kernel
theorem dX10_forget_7 : decode cX10_forget 7 = .ok (.ireturn, 1) := by decide +kernel
theorem dX10_how_0 : decode cX10_how 0 = .ok (.aload_n 0, 1) := by decide +kernel
theorem dX10_how_1 : decode cX10_how 1 = .ok (.getfield 65, 3) := by decide +kernel
theorem dX10_how_4 : decode cX10_how 4 = .ok (.aload_n 0, 1) := by decide +kernel
theorem dX10_how_5 : decode cX10_how 5 = .ok (.getfield 28, 3) := by decide +kernel
theorem dX10_how_8 : decode cX10_how 8 = .ok (.aload_n 0, 1) := by decide +kernel
theorem dX10_how_9 : decode cX10_how 9 = .ok (.getfield 59, 3) := by decide +kernel
theorem dX10_how_12 : decode cX10_how 12 = .ok (.iconst (-1), 1) := by decide +kernel
theorem dX10_how_13 : decode cX10_how 13 = .ok (.invokevirtual 198, 3) := by decide +kernel
theorem dX10_how_16 : decode cX10_how 16 = .ok (.lreturn, 1) := by decide +kernel
theorem dX10_sure_0 : decode cX10_sure 0 = .ok (.aload_n 0, 1) := by decide +kernel
theorem dX10_sure_1 : decode cX10_sure 1 = .ok (.getfield 28, 3) := by decide +kernel
theorem dX10_sure_4 : decode cX10_sure 4 = .ok (.iload_n 1, 1) := by decide +kernel
theorem dX10_sure_5 : decode cX10_sure 5 = .ok (.invokevirtual 125, 3) := by decide +kernel
theorem dX10_sure_8 : decode cX10_sure 8 = .ok (.ifCond .ne 5, 3) := by decide +kernel
theorem dX10_sure_11 : decode cX10_sure 11 = .ok (.iconst (-1), 1) := by decide +kernel
theorem dX10_sure_12 : decode cX10_sure 12 = .ok (.ireturn, 1) := by decide +kernel
theorem dX10_sure_13 : decode cX10_sure 13 = .ok (.aload_n 0, 1) := by decide +kernel
theorem dX10_sure_14 : decode cX10_sure 14 = .ok (.getfield 65, 3) := by decide +kernel
theorem dX10_sure_17 : decode cX10_sure 17 = .ok (.aload_n 0, 1) := by decide +kernel
theorem dX10_sure_18 : decode cX10_sure 18 = .ok (.getfield 28, 3) := by decide +kernel
theorem dX10_sure_21 : decode cX10_sure 21 = .ok (.aload_n 0, 1) := by decide +kernel
theorem dX10_sure_22 : decode cX10_sure 22 = .ok (.getfield 59, 3) := by decide +kernel
theorem dX10_sure_25 : decode cX10_sure 25 = .ok (.iconst (-1), 1) := by decide +kernel
theorem dX10_sure_26 : decode cX10_sure 26 = .ok (.invokevirtual 198, 3) := by decide +kernel
theorem dX10_sure_29 : decode cX10_sure 29 = .ok (.lconst 0, 1) := by decide +kernel
theorem dX10_sure_30 : decode cX10_sure 30 = .ok (.lcmp, 1) := by decide +kernel
theorem dX10_sure_31 : decode cX10_sure 31 = .ok (.ifCond .ne 7, 3) := by decide +kernel
theorem dX10_sure_34 : decode cX10_sure 34 = .ok (.iconst 1, 1) := by decide +kernel
theorem dX10_sure_35 : decode cX10_sure 35 = .ok (.goto 4, 3) := by decide +kernel
theorem dX10_sure_38 : decode cX10_sure 38 = .ok (.iconst 0, 1) := by decide +kernel
theorem dX10_sure_39 : decode cX10_sure 39 = .ok (.istore_n 2, 1) := by decide +kernel
theorem dX10_sure_40 : decode cX10_sure 40 = .ok (.iload_n 2, 1) := by decide +kernel
theorem dX10_sure_41 : decode cX10_sure 41 = .ok (.ifCond .ne 28, 3) := by decide +kernel
theorem dX10_sure_44 : decode cX10_sure 44 = .ok (.aload_n 0, 1) := by decide +kernel
theorem dX10_sure_45 : decode cX10_sure 45 = .ok (.getfield 65, 3) := by decide +kernel
theorem dX10_sure_48 : decode cX10_sure 48 = .ok (.aload_n 0, 1) := by decide +kernel
theorem dX10_sure_49 : decode cX10_sure 49 = .ok (.getfield 28, 3) := by decide +kernel
theorem dX10_sure_52 : decode cX10_sure 52 = .ok (.aload_n 0, 1) := by decide +kernel
theorem dX10_sure_53 : decode cX10_sure 53 = .ok (.getfield 59, 3) := by decide +kernel
theorem dX10_sure_56 : decode cX10_sure 56 = .ok (.iload_n 1, 1) := by decide +kernel
theorem dX10_sure_57 : decode cX10_sure 57 = .ok (.invokevirtual 198, 3) := by decide +kernel
theorem dX10_sure_60 : decode cX10_sure 60 = .ok (.lconst 0, 1) := by decide +kernel
theorem dX10_sure_61 : decode cX10_sure 61 = .ok (.lcmp, 1) := by decide +kernel
theorem dX10_sure_62 : decode cX10_sure 62 = .ok (.ifCond .ne 7, 3) := by decide +kernel
theorem dX10_sure_65 : decode cX10_sure 65 = .ok (.iconst 1, 1) := by decide +kernel
theorem dX10_sure_66 : decode cX10_sure 66 = .ok (.goto 4, 3) := by decide +kernel
theorem dX10_sure_69 : decode cX10_sure 69 = .ok (.iconst 0, 1) := by decide +kernel
theorem dX10_sure_70 : decode cX10_sure 70 = .ok (.ireturn, 1) := by decide +kernel
theorem dX10_chance_0 : decode cX10_chance 0 = .ok (.aload_n 0, 1) := by decide +kernel
theorem dX10_chance_1 : decode cX10_chance 1 = .ok (.getfield 28, 3) := by decide +kernel
theorem dX10_chance_4 : decode cX10_chance 4 = .ok (.iload_n 1, 1) := by decide +kernel
theorem dX10_chance_5 : decode cX10_chance 5 = .ok (.invokevirtual 117, 3) := by decide +kernel
theorem dX10_chance_8 : decode cX10_chance 8 = .ok (.ifCond .eq 20, 3) := by decide +kernel
theorem dX10_chance_11 : decode cX10_chance 11 = .ok (.iload_n 2, 1) := by decide +kernel
theorem dX10_chance_12 : decode cX10_chance 12 = .ok (.ifCond .lt 16, 3) := by decide +kernel
theorem dX10_chance_15 : decode cX10_chance 15 = .ok (.iload_n 2, 1) := by decide +kernel
theorem dX10_chance_16 : decode cX10_chance 16 = .ok (.bipush 6, 2) := by decide +kernel
theorem dX10_chance_18 : decode cX10_chance 18 = .ok (.if_icmp .gt 10, 3) := by decide +kernel
theorem dX10_chance_21 : decode cX10_chance 21 = .ok (.iload_n 3, 1) := by decide +kernel
theorem dX10_chance_22 : decode cX10_chance 22 = .ok (.invokestatic 169, 3) := by decide +kernel
theorem dX10_chance_25 : decode cX10_chance 25 = .ok (.ifCond .ne 7, 3) := by decide +kernel
theorem dX10_chance_28 : decode cX10_chance 28 = .ok (.ldc2_w 202, 3) := by decide +kernel
theorem dX10_chance_31 : decode cX10_chance 31 = .ok (.lreturn, 1) := by decide +kernel
theorem dX10_chance_32 : decode cX10_chance 32 = .ok (.aload_n 0, 1) := by decide +kernel
theorem dX10_chance_33 : decode cX10_chance 33 = .ok (.getfield 65, 3) := by decide +kernel
theorem dX10_chance_36 : decode cX10_chance 36 = .ok (.aload_n 0, 1) := by decide +kernel
theorem dX10_chance_37 : decode cX10_chance 37 = .ok (.getfield 28, 3) := by decide +kernel
theorem dX10_chance_40 : decode cX10_chance 40 = .ok (.aload_n 0, 1) := by decide +kernel
theorem dX10_chance_41 : decode cX10_chance 41 = .ok (.getfield 38, 3) := by decide +kernel
theorem dX10_chance_44 : decode cX10_chance 44 = .ok (.iload_n 2, 1) := by decide +kernel
theorem dX10_chance_45 : decode cX10_chance 45 = .ok (.iload_n 1, 1) := by decide +kernel
theorem dX10_chance_46 : decode cX10_chance 46 = .ok (.invokevirtual 204, 3) := by decide +kernel
theorem dX10_chance_49 : decode cX10_chance 49 = .ok (.lstore 4, 2) := by decide +kernel
theorem dX10_chance_51 : decode cX10_chance 51 = .ok (.lconst 1, 1) := by decide +kernel
theorem dX10_chance_52 : decode cX10_chance 52 = .ok (.lstore 6, 2) := by decide +kernel
theorem dX10_chance_54 : decode cX10_chance 54 = .ok (.iconst 0, 1) := by decide +kernel
theorem dX10_chance_55 : decode cX10_chance 55 = .ok (.istore 8, 2) := by decide +kernel
theorem dX10_chance_57 : decode cX10_chance 57 = .ok (.iload 8, 2) := by decide +kernel
theorem dX10_chance_59 : decode cX10_chance 59 = .ok (.iload_n 2, 1) := by decide +kernel
theorem dX10_chance_60 : decode cX10_chance 60 = .ok (.if_icmp .ge 17, 3) := by decide +kernel
theorem dX10_chance_63 : decode cX10_chance 63 = .ok (.lload 6, 2) := by decide +kernel
theorem dX10_chance_65 : decode cX10_chance 65 = .ok (.ldc2_w 208, 3) := by decide +kernel
theorem dX10_chance_68 : decode cX10_chance 68 = .ok (.lmul, 1) := by decide +kernel
theorem dX10_chance_69 : decode cX10_chance 69 = .ok (.lstore 6, 2) := by decide +kernel
theorem dX10_chance_71 : decode cX10_chance 71 = .ok (.iinc 8 1, 3) := by decide +kernel
theorem dX10_chance_74 : decode cX10_chance 74 = .ok (.goto (-17), 3) := by decide +kernel
theorem dX10_chance_77 : decode cX10_chance 77 = .ok (.lload 6, 2) := by decide +kernel
theorem dX10_chance_79 : decode cX10_chance 79 = .ok (.lload 4, 2) := by decide +kernel
theorem dX10_chance_81 : decode cX10_chance 81 = .ok (.invokestatic 210, 3) := by decide +kernel
theorem dX10_chance_84 : decode cX10_chance 84 = .ok (.lstore 8, 2) := by decide +kernel
theorem dX10_chance_86 : decode cX10_chance 86 = .ok (.lload 8, 2) := by decide +kernel
theorem dX10_chance_88 : decode cX10_chance 88 = .ok (.lconst 1, 1) := by decide +kernel
theorem dX10_chance_89 : decode cX10_chance 89 = .ok (.lcmp, 1) := by decide +kernel
theorem dX10_chance_90 : decode cX10_chance 90 = .ok (.ifCond .ge 15, 3) := by decide +kernel
theorem dX10_chance_93 : decode cX10_chance 93 = .ok (.iload_n 3, 1) := by decide +kernel
theorem dX10_chance_94 : decode cX10_chance 94 = .ok (.ifCond .ne 8, 3) := by decide +kernel
theorem dX10_chance_97 : decode cX10_chance 97 = .ok (.lload 4, 2) := by decide +kernel
theorem dX10_chance_99 : decode cX10_chance 99 = .ok (.goto 5, 3) := by decide +kernel
theorem dX10_chance_102 : decode cX10_chance 102 = .ok (.lload 6, 2) := by decide +kernel
theorem dX10_chance_104 : decode cX10_chance 104 = .ok (.lreturn, 1) := by decide +kernel
theorem dX10_chance_105 : decode cX10_chance 105 = .ok (.iload_n 3, 1) := by decide +kernel
theorem dX10_chance_106 : decode cX10_chance 106 = .ok (.ifCond .ne 11, 3) := by decide +kernel
theorem dX10_chance_109 : decode cX10_chance 109 = .ok (.lload 4, 2) := by decide +kernel
theorem dX10_chance_111 : decode cX10_chance 111 = .ok (.lload 8, 2) := by decide +kernel
theorem dX10_chance_113 : decode cX10_chance 113 = .ok (.ldiv, 1) := by decide +kernel
theorem dX10_chance_114 : decode cX10_chance 114 = .ok (.goto 8, 3) := by decide +kernel
theorem dX10_chance_117 : decode cX10_chance 117 = .ok (.lload 6, 2) := by decide +kernel
theorem dX10_chance_119 : decode cX10_chance 119 = .ok (.lload 8, 2) := by decide +kernel
theorem dX10_chance_121 : decode cX10_chance 121 = .ok (.ldiv, 1) := by decide +kernel
theorem dX10_chance_122 : decode cX10_chance 122 = .ok (.lreturn, 1) := by decide +kernel
theorem dX10_year_0 : decode cX10_year 0 = .ok (.iload_n 1, 1) := by decide +kernel
theorem dX10_year_1 : decode cX10_year 1 = .ok (.ifCond .lt 29, 3) := by decide +kernel
theorem dX10_year_4 : decode cX10_year 4 = .ok (.iload_n 1, 1) := by decide +kernel
theorem dX10_year_5 : decode cX10_year 5 = .ok (.sipush 9999, 3) := by decide +kernel
theorem dX10_year_8 : decode cX10_year 8 = .ok (.if_icmp .gt 22, 3) := by decide +kernel
theorem dX10_year_11 : decode cX10_year 11 = .ok (.iload_n 2, 1) := by decide +kernel
theorem dX10_year_12 : decode cX10_year 12 = .ok (.iconst 1, 1) := by decide +kernel
theorem dX10_year_13 : decode cX10_year 13 = .ok (.if_icmp .lt 17, 3) := by decide +kernel
theorem dX10_year_16 : decode cX10_year 16 = .ok (.iload_n 2, 1) := by decide +kernel
theorem dX10_year_17 : decode cX10_year 17 = .ok (.sipush 400, 3) := by decide +kernel
theorem dX10_year_20 : decode cX10_year 20 = .ok (.if_icmp .gt 10, 3) := by decide +kernel
theorem dX10_year_23 : decode cX10_year 23 = .ok (.iload_n 3, 1) := by decide +kernel
theorem dX10_year_24 : decode cX10_year 24 = .ok (.invokestatic 169, 3) := by decide +kernel
theorem dX10_year_27 : decode cX10_year 27 = .ok (.ifCond .ne 5, 3) := by decide +kernel
theorem dX10_year_30 : decode cX10_year 30 = .ok (.iconst (-1), 1) := by decide +kernel
theorem dX10_year_31 : decode cX10_year 31 = .ok (.ireturn, 1) := by decide +kernel
theorem dX10_year_32 : decode cX10_year 32 = .ok (.aload_n 0, 1) := by decide +kernel
theorem dX10_year_33 : decode cX10_year 33 = .ok (.getfield 28, 3) := by decide +kernel
theorem dX10_year_36 : decode cX10_year 36 = .ok (.invokevirtual 214, 3) := by decide +kernel
theorem dX10_year_39 : decode cX10_year 39 = .ok (.istore 4, 2) := by decide +kernel
theorem dX10_year_41 : decode cX10_year 41 = .ok (.iconst 0, 1) := by decide +kernel
theorem dX10_year_42 : decode cX10_year 42 = .ok (.istore 5, 2) := by decide +kernel
theorem dX10_year_44 : decode cX10_year 44 = .ok (.iconst 0, 1) := by decide +kernel
theorem dX10_year_45 : decode cX10_year 45 = .ok (.istore 6, 2) := by decide +kernel
theorem dX10_year_47 : decode cX10_year 47 = .ok (.iload 6, 2) := by decide +kernel
theorem dX10_year_49 : decode cX10_year 49 = .ok (.iload_n 2, 1) := by decide +kernel
theorem dX10_year_50 : decode cX10_year 50 = .ok (.if_icmp .ge 73, 3) := by decide +kernel
theorem dX10_year_53 : decode cX10_year 53 = .ok (.iload_n 1, 1) := by decide +kernel
theorem dX10_year_54 : decode cX10_year 54 = .ok (.iload 6, 2) := by decide +kernel
theorem dX10_year_56 : decode cX10_year 56 = .ok (.aload_n 0, 1) := by decide +kernel
theorem dX10_year_57 : decode cX10_year 57 = .ok (.getfield 28, 3) := by decide +kernel
theorem dX10_year_60 : decode cX10_year 60 = .ok (.invokevirtual 114, 3) := by decide +kernel
theorem dX10_year_63 : decode cX10_year 63 = .ok (.invokestatic 217, 3) := by decide +kernel
theorem dX10_year_66 : decode cX10_year 66 = .ok (.istore 7, 2) := by decide +kernel
theorem dX10_year_68 : decode cX10_year 68 = .ok (.iload 7, 2) := by decide +kernel
theorem dX10_year_70 : decode cX10_year 70 = .ok (.iconst (-1), 1) := by decide +kernel
theorem dX10_year_71 : decode cX10_year 71 = .ok (.if_icmp .eq 31, 3) := by decide +kernel
theorem dX10_year_74 : decode cX10_year 74 = .ok (.aload_n 0, 1) := by decide +kernel
theorem dX10_year_75 : decode cX10_year 75 = .ok (.getfield 28, 3) := by decide +kernel
theorem dX10_year_78 : decode cX10_year 78 = .ok (.iload 7, 2) := by decide +kernel
theorem dX10_year_80 : decode cX10_year 80 = .ok (.iload 4, 2) := by decide +kernel
theorem dX10_year_82 : decode cX10_year 82 = .ok (.iload 6, 2) := by decide +kernel
theorem dX10_year_84 : decode cX10_year 84 = .ok (.invokevirtual 142, 3) := by decide +kernel
theorem dX10_year_87 : decode cX10_year 87 = .ok (.ifCond .eq 15, 3) := by decide +kernel
theorem dX10_year_90 : decode cX10_year 90 = .ok (.iload 4, 2) := by decide +kernel
theorem dX10_year_92 : decode cX10_year 92 = .ok (.iload 7, 2) := by decide +kernel
theorem dX10_year_94 : decode cX10_year 94 = .ok (.invokestatic 150, 3) := by decide +kernel
theorem dX10_year_97 : decode cX10_year 97 = .ok (.istore 4, 2) := by decide +kernel
theorem dX10_year_99 : decode cX10_year 99 = .ok (.iinc 5 1, 3) := by decide +kernel
theorem dX10_year_102 : decode cX10_year 102 = .ok (.aload_n 0, 1) := by decide +kernel
theorem dX10_year_103 : decode cX10_year 103 = .ok (.getfield 28, 3) := by decide +kernel
theorem dX10_year_106 : decode cX10_year 106 = .ok (.iload 4, 2) := by decide +kernel
theorem dX10_year_108 : decode cX10_year 108 = .ok (.iload 6, 2) := by decide +kernel
theorem dX10_year_110 : decode cX10_year 110 = .ok (.iconst 1, 1) := by decide +kernel
theorem dX10_year_111 : decode cX10_year 111 = .ok (.iadd, 1) := by decide +kernel
theorem dX10_year_112 : decode cX10_year 112 = .ok (.invokevirtual 220, 3) := by decide +kernel
theorem dX10_year_115 : decode cX10_year 115 = .ok (.istore 4, 2) := by decide +kernel
theorem dX10_year_117 : decode cX10_year 117 = .ok (.iinc 6 1, 3) := by decide +kernel
theorem dX10_year_120 : decode cX10_year 120 = .ok (.goto (-73), 3) := by decide +kernel
theorem dX10_year_123 : decode cX10_year 123 = .ok (.iload_n 3, 1) := by decide +kernel
theorem dX10_year_124 : decode cX10_year 124 = .ok (.ifCond .ne 8, 3) := by decide +kernel
theorem dX10_year_127 : decode cX10_year 127 = .ok (.iload 5, 2) := by decide +kernel
theorem dX10_year_129 : decode cX10_year 129 = .ok (.goto 8, 3) := by decide +kernel
theorem dX10_year_132 : decode cX10_year 132 = .ok (.iload 4, 2) := by decide +kernel
theorem dX10_year_134 : decode cX10_year 134 = .ok (.invokestatic 160, 3) := by decide +kernel
theorem dX10_year_137 : decode cX10_year 137 = .ok (.ireturn, 1) := by decide +kernel
theorem dX10_keep_0 : decode cX10_keep 0 = .ok (.aload_n 0, 1) := by decide +kernel
theorem dX10_keep_1 : decode cX10_keep 1 = .ok (.getfield 49, 3) := by decide +kernel
theorem dX10_keep_4 : decode cX10_keep 4 = .ok (.invokevirtual 163, 3) := by decide +kernel
theorem dX10_keep_7 : decode cX10_keep 7 = .ok (.iconst 2, 1) := by decide +kernel
theorem dX10_keep_8 : decode cX10_keep 8 = .ok (.if_icmp .lt 6, 3) := by decide +kernel
theorem dX10_keep_11 : decode cX10_keep 11 = .ok (.bipush (-3), 2) := by decide +kernel
theorem dX10_keep_13 : decode cX10_keep 13 = .ok (.ireturn, 1) := by decide +kernel
theorem dX10_keep_14 : decode cX10_keep 14 = .ok (.aload_n 0, 1) := by decide +kernel
theorem dX10_keep_15 : decode cX10_keep 15 = .ok (.getfield 49, 3) := by decide +kernel
theorem dX10_keep_18 : decode cX10_keep 18 = .ok (.aload_n 0, 1) := by decide +kernel
theorem dX10_keep_19 : decode cX10_keep 19 = .ok (.getfield 38, 3) := by decide +kernel
theorem dX10_keep_22 : decode cX10_keep 22 = .ok (.invokevirtual 146, 3) := by decide +kernel
theorem dX10_keep_25 : decode cX10_keep 25 = .ok (.aload_n 0, 1) := by decide +kernel
theorem dX10_keep_26 : decode cX10_keep 26 = .ok (.getfield 49, 3) := by decide +kernel
theorem dX10_keep_29 : decode cX10_keep 29 = .ok (.invokevirtual 163, 3) := by decide +kernel
theorem dX10_keep_32 : decode cX10_keep 32 = .ok (.ireturn, 1) := by decide +kernel
theorem dX10_back_0 : decode cX10_back 0 = .ok (.aload_n 0, 1) := by decide +kernel
theorem dX10_back_1 : decode cX10_back 1 = .ok (.getfield 49, 3) := by decide +kernel
theorem dX10_back_4 : decode cX10_back 4 = .ok (.invokevirtual 163, 3) := by decide +kernel
theorem dX10_back_7 : decode cX10_back 7 = .ok (.ifCond .ne 6, 3) := by decide +kernel
theorem dX10_back_10 : decode cX10_back 10 = .ok (.bipush (-2), 2) := by decide +kernel
theorem dX10_back_12 : decode cX10_back 12 = .ok (.ireturn, 1) := by decide +kernel
theorem dX10_back_13 : decode cX10_back 13 = .ok (.aload_n 0, 1) := by decide +kernel
theorem dX10_back_14 : decode cX10_back 14 = .ok (.getfield 49, 3) := by decide +kernel
theorem dX10_back_17 : decode cX10_back 17 = .ok (.aload_n 0, 1) := by decide +kernel
theorem dX10_back_18 : decode cX10_back 18 = .ok (.getfield 38, 3) := by decide +kernel
theorem dX10_back_21 : decode cX10_back 21 = .ok (.invokevirtual 166, 3) := by decide +kernel
theorem dX10_back_24 : decode cX10_back 24 = .ok (.aload_n 0, 1) := by decide +kernel
theorem dX10_back_25 : decode cX10_back 25 = .ok (.getfield 45, 3) := by decide +kernel
theorem dX10_back_28 : decode cX10_back 28 = .ok (.invokevirtual 113, 3) := by decide +kernel
theorem dX10_back_31 : decode cX10_back 31 = .ok (.aload_n 0, 1) := by decide +kernel
theorem dX10_back_32 : decode cX10_back 32 = .ok (.getfield 49, 3) := by decide +kernel
theorem dX10_back_35 : decode cX10_back 35 = .ok (.invokevirtual 163, 3) := by decide +kernel
theorem dX10_back_38 : decode cX10_back 38 = .ok (.ireturn, 1) := by decide +kernel
theorem dX10_count_0 : decode cX10_count 0 = .ok (.iload_n 1, 1) := by decide +kernel
theorem dX10_count_1 : decode cX10_count 1 = .ok (.tableswitch 111 0 7 #[47, 55, 63, 71, 79, 87, 95, 103], 47) := by decide +kernel
theorem dX10_count_48 : decode cX10_count 48 = .ok (.aload_n 0, 1) := by decide +kernel
theorem dX10_count_49 : decode cX10_count 49 = .ok (.getfield 28, 3) := by decide +kernel
theorem dX10_count_52 : decode cX10_count 52 = .ok (.invokevirtual 223, 3) := by decide +kernel
theorem dX10_count_55 : decode cX10_count 55 = .ok (.ireturn, 1) := by decide +kernel
theorem dX10_count_56 : decode cX10_count 56 = .ok (.aload_n 0, 1) := by decide +kernel
theorem dX10_count_57 : decode cX10_count 57 = .ok (.getfield 28, 3) := by decide +kernel
theorem dX10_count_60 : decode cX10_count 60 = .ok (.invokevirtual 114, 3) := by decide +kernel
theorem dX10_count_63 : decode cX10_count 63 = .ok (.ireturn, 1) := by decide +kernel
theorem dX10_count_64 : decode cX10_count 64 = .ok (.aload_n 0, 1) := by decide +kernel
theorem dX10_count_65 : decode cX10_count 65 = .ok (.getfield 38, 3) := by decide +kernel
theorem dX10_count_68 : decode cX10_count 68 = .ok (.getfield 139, 3) := by decide +kernel
theorem dX10_count_71 : decode cX10_count 71 = .ok (.ireturn, 1) := by decide +kernel
theorem dX10_count_72 : decode cX10_count 72 = .ok (.aload_n 0, 1) := by decide +kernel
theorem dX10_count_73 : decode cX10_count 73 = .ok (.getfield 55, 3) := by decide +kernel
theorem dX10_count_76 : decode cX10_count 76 = .ok (.invokevirtual 226, 3) := by decide +kernel
theorem dX10_count_79 : decode cX10_count 79 = .ok (.ireturn, 1) := by decide +kernel
theorem dX10_count_80 : decode cX10_count 80 = .ok (.aload_n 0, 1) := by decide +kernel
theorem dX10_count_81 : decode cX10_count 81 = .ok (.getfield 59, 3) := by decide +kernel
theorem dX10_count_84 : decode cX10_count 84 = .ok (.invokevirtual 226, 3) := by decide +kernel
theorem dX10_count_87 : decode cX10_count 87 = .ok (.ireturn, 1) := by decide +kernel
theorem dX10_count_88 : decode cX10_count 88 = .ok (.aload_n 0, 1) := by decide +kernel
theorem dX10_count_89 : decode cX10_count 89 = .ok (.getfield 45, 3) := by decide +kernel
theorem dX10_count_92 : decode cX10_count 92 = .ok (.invokevirtual 163, 3) := by decide +kernel
theorem dX10_count_95 : decode cX10_count 95 = .ok (.ireturn, 1) := by decide +kernel
theorem dX10_count_96 : decode cX10_count 96 = .ok (.aload_n 0, 1) := by decide +kernel
theorem dX10_count_97 : decode cX10_count 97 = .ok (.getfield 49, 3) := by decide +kernel
theorem dX10_count_100 : decode cX10_count 100 = .ok (.invokevirtual 163, 3) := by decide +kernel
theorem dX10_count_103 : decode cX10_count 103 = .ok (.ireturn, 1) := by decide +kernel
theorem dX10_count_104 : decode cX10_count 104 = .ok (.aload_n 0, 1) := by decide +kernel
theorem dX10_count_105 : decode cX10_count 105 = .ok (.getfield 12, 3) := by decide +kernel
theorem dX10_count_108 : decode cX10_count 108 = .ok (.invokevirtual 106, 3) := by decide +kernel
theorem dX10_count_111 : decode cX10_count 111 = .ok (.ireturn, 1) := by decide +kernel
theorem dX10_count_112 : decode cX10_count 112 = .ok (.iconst (-1), 1) := by decide +kernel
theorem dX10_count_113 : decode cX10_count 113 = .ok (.ireturn, 1) := by decide +kernel
theorem dX10_isFlag_0 : decode cX10_isFlag 0 = .ok (.iload_n 0, 1) := by decide +kernel
theorem dX10_isFlag_1 : decode cX10_isFlag 1 = .ok (.ifCond .eq 8, 3) := by decide +kernel
theorem dX10_isFlag_4 : decode cX10_isFlag 4 = .ok (.iload_n 0, 1) := by decide +kernel
theorem dX10_isFlag_5 : decode cX10_isFlag 5 = .ok (.iconst 1, 1) := by decide +kernel
theorem dX10_isFlag_6 : decode cX10_isFlag 6 = .ok (.if_icmp .ne 7, 3) := by decide +kernel
theorem dX10_isFlag_9 : decode cX10_isFlag 9 = .ok (.iconst 1, 1) := by decide +kernel
theorem dX10_isFlag_10 : decode cX10_isFlag 10 = .ok (.goto 4, 3) := by decide +kernel
theorem dX10_isFlag_13 : decode cX10_isFlag 13 = .ok (.iconst 0, 1) := by decide +kernel
theorem dX10_isFlag_14 : decode cX10_isFlag 14 = .ok (.ireturn, 1) := by decide +kernel
theorem dX10_orNone_0 : decode cX10_orNone 0 = .ok (.iload_n 0, 1) := by decide +kernel
theorem dX10_orNone_1 : decode cX10_orNone 1 = .ok (.ifCond .lt 7, 3) := by decide +kernel
theorem dX10_orNone_4 : decode cX10_orNone 4 = .ok (.iload_n 0, 1) := by decide +kernel
theorem dX10_orNone_5 : decode cX10_orNone 5 = .ok (.goto 5, 3) := by decide +kernel
theorem dX10_orNone_8 : decode cX10_orNone 8 = .ok (.bipush (-4), 2) := by decide +kernel
theorem dX10_orNone_10 : decode cX10_orNone 10 = .ok (.ireturn, 1) := by decide +kernel
theorem dX10_packed_0 : decode cX10_packed 0 = .ok (.iload_n 2, 1) := by decide +kernel
theorem dX10_packed_1 : decode cX10_packed 1 = .ok (.bipush 6, 2) := by decide +kernel
theorem dX10_packed_3 : decode cX10_packed 3 = .ok (.imul, 1) := by decide +kernel
theorem dX10_packed_4 : decode cX10_packed 4 = .ok (.iload_n 1, 1) := by decide +kernel
theorem dX10_packed_5 : decode cX10_packed 5 = .ok (.iadd, 1) := by decide +kernel
theorem dX10_packed_6 : decode cX10_packed 6 = .ok (.iconst 1, 1) := by decide +kernel
theorem dX10_packed_7 : decode cX10_packed 7 = .ok (.iadd, 1) := by decide +kernel
theorem dX10_packed_8 : decode cX10_packed 8 = .ok (.bipush 8, 2) := by decide +kernel
theorem dX10_packed_10 : decode cX10_packed 10 = .ok (.imul, 1) := by decide +kernel
theorem dX10_packed_11 : decode cX10_packed 11 = .ok (.iload_n 0, 1) := by decide +kernel
theorem dX10_packed_12 : decode cX10_packed 12 = .ok (.iadd, 1) := by decide +kernel
theorem dX10_packed_13 : decode cX10_packed 13 = .ok (.ireturn, 1) := by decide +kernel
theorem dX10_yardOf_0 : decode cX10_yardOf 0 = .ok (.iload_n 0, 1) := by decide +kernel
theorem dX10_yardOf_1 : decode cX10_yardOf 1 = .ok (.bipush 8, 2) := by decide +kernel
theorem dX10_yardOf_3 : decode cX10_yardOf 3 = .ok (.irem, 1) := by decide +kernel
theorem dX10_yardOf_4 : decode cX10_yardOf 4 = .ok (.ireturn, 1) := by decide +kernel
theorem dX10_followedIn_0 : decode cX10_followedIn 0 = .ok (.iload_n 0, 1) := by decide +kernel
theorem dX10_followedIn_1 : decode cX10_followedIn 1 = .ok (.bipush 8, 2) := by decide +kernel
theorem dX10_followedIn_3 : decode cX10_followedIn 3 = .ok (.idiv, 1) := by decide +kernel
theorem dX10_followedIn_4 : decode cX10_followedIn 4 = .ok (.bipush 6, 2) := by decide +kernel
theorem dX10_followedIn_6 : decode cX10_followedIn 6 = .ok (.irem, 1) := by decide +kernel
theorem dX10_followedIn_7 : decode cX10_followedIn 7 = .ok (.iconst 1, 1) := by decide +kernel
theorem dX10_followedIn_8 : decode cX10_followedIn 8 = .ok (.isub, 1) := by decide +kernel
theorem dX10_followedIn_9 : decode cX10_followedIn 9 = .ok (.ireturn, 1) := by decide +kernel
theorem dX10_ageIn_0 : decode cX10_ageIn 0 = .ok (.iload_n 0, 1) := by decide +kernel
theorem dX10_ageIn_1 : decode cX10_ageIn 1 = .ok (.bipush 48, 2) := by decide +kernel
theorem dX10_ageIn_3 : decode cX10_ageIn 3 = .ok (.idiv, 1) := by decide +kernel
theorem dX10_ageIn_4 : decode cX10_ageIn 4 = .ok (.ireturn, 1) := by decide +kernel
theorem dX10_fedState_0 : decode cX10_fedState 0 = .ok (.iload_n 0, 1) := by decide +kernel
theorem dX10_fedState_1 : decode cX10_fedState 1 = .ok (.invokestatic 160, 3) := by decide +kernel
theorem dX10_fedState_4 : decode cX10_fedState 4 = .ok (.iload_n 1, 1) := by decide +kernel
theorem dX10_fedState_5 : decode cX10_fedState 5 = .ok (.iconst 0, 1) := by decide +kernel
theorem dX10_fedState_6 : decode cX10_fedState 6 = .ok (.invokestatic 227, 3) := by decide +kernel
theorem dX10_fedState_9 : decode cX10_fedState 9 = .ok (.ireturn, 1) := by decide +kernel
theorem dX10_drawnFeeder_0 : decode cX10_drawnFeeder 0 = .ok (.ldc2_w 230, 3) := by decide +kernel
theorem dX10_drawnFeeder_3 : decode cX10_drawnFeeder 3 = .ok (.iload_n 0, 1) := by decide +kernel
theorem dX10_drawnFeeder_4 : decode cX10_drawnFeeder 4 = .ok (.i2l, 1) := by decide +kernel
theorem dX10_drawnFeeder_5 : decode cX10_drawnFeeder 5 = .ok (.lmul, 1) := by decide +kernel
theorem dX10_drawnFeeder_6 : decode cX10_drawnFeeder 6 = .ok (.ldc2_w 232, 3) := by decide +kernel
theorem dX10_drawnFeeder_9 : decode cX10_drawnFeeder 9 = .ok (.iload_n 1, 1) := by decide +kernel
theorem dX10_drawnFeeder_10 : decode cX10_drawnFeeder 10 = .ok (.i2l, 1) := by decide +kernel
theorem dX10_drawnFeeder_11 : decode cX10_drawnFeeder 11 = .ok (.lmul, 1) := by decide +kernel
theorem dX10_drawnFeeder_12 : decode cX10_drawnFeeder 12 = .ok (.ladd, 1) := by decide +kernel
theorem dX10_drawnFeeder_13 : decode cX10_drawnFeeder 13 = .ok (.lconst 1, 1) := by decide +kernel
theorem dX10_drawnFeeder_14 : decode cX10_drawnFeeder 14 = .ok (.ladd, 1) := by decide +kernel
theorem dX10_drawnFeeder_15 : decode cX10_drawnFeeder 15 = .ok (.lstore_n 3, 1) := by decide +kernel
theorem dX10_drawnFeeder_16 : decode cX10_drawnFeeder 16 = .ok (.lload_n 3, 1) := by decide +kernel
theorem dX10_drawnFeeder_17 : decode cX10_drawnFeeder 17 = .ok (.lload_n 3, 1) := by decide +kernel
theorem dX10_drawnFeeder_18 : decode cX10_drawnFeeder 18 = .ok (.lmul, 1) := by decide +kernel
theorem dX10_drawnFeeder_19 : decode cX10_drawnFeeder 19 = .ok (.ldc2_w 234, 3) := by decide +kernel
theorem dX10_drawnFeeder_22 : decode cX10_drawnFeeder 22 = .ok (.lrem, 1) := by decide +kernel
theorem dX10_drawnFeeder_23 : decode cX10_drawnFeeder 23 = .ok (.lstore 5, 2) := by decide +kernel
theorem dX10_drawnFeeder_25 : decode cX10_drawnFeeder 25 = .ok (.iload_n 2, 1) := by decide +kernel
theorem dX10_drawnFeeder_26 : decode cX10_drawnFeeder 26 = .ok (.iconst 1, 1) := by decide +kernel
theorem dX10_drawnFeeder_27 : decode cX10_drawnFeeder 27 = .ok (.if_icmp .lt 18, 3) := by decide +kernel
theorem dX10_drawnFeeder_30 : decode cX10_drawnFeeder 30 = .ok (.lload 5, 2) := by decide +kernel
theorem dX10_drawnFeeder_32 : decode cX10_drawnFeeder 32 = .ok (.ldc2_w 236, 3) := by decide +kernel
theorem dX10_drawnFeeder_35 : decode cX10_drawnFeeder 35 = .ok (.ldiv, 1) := by decide +kernel
theorem dX10_drawnFeeder_36 : decode cX10_drawnFeeder 36 = .ok (.ldc2_w 238, 3) := by decide +kernel
theorem dX10_drawnFeeder_39 : decode cX10_drawnFeeder 39 = .ok (.lrem, 1) := by decide +kernel
theorem dX10_drawnFeeder_40 : decode cX10_drawnFeeder 40 = .ok (.lconst 0, 1) := by decide +kernel
theorem dX10_drawnFeeder_41 : decode cX10_drawnFeeder 41 = .ok (.lcmp, 1) := by decide +kernel
theorem dX10_drawnFeeder_42 : decode cX10_drawnFeeder 42 = .ok (.ifCond .ne 5, 3) := by decide +kernel
theorem dX10_drawnFeeder_45 : decode cX10_drawnFeeder 45 = .ok (.iconst (-1), 1) := by decide +kernel
theorem dX10_drawnFeeder_46 : decode cX10_drawnFeeder 46 = .ok (.ireturn, 1) := by decide +kernel
theorem dX10_drawnFeeder_47 : decode cX10_drawnFeeder 47 = .ok (.lload 5, 2) := by decide +kernel
theorem dX10_drawnFeeder_49 : decode cX10_drawnFeeder 49 = .ok (.iload_n 2, 1) := by decide +kernel
theorem dX10_drawnFeeder_50 : decode cX10_drawnFeeder 50 = .ok (.i2l, 1) := by decide +kernel
theorem dX10_drawnFeeder_51 : decode cX10_drawnFeeder 51 = .ok (.lrem, 1) := by decide +kernel
theorem dX10_drawnFeeder_52 : decode cX10_drawnFeeder 52 = .ok (.l2i, 1) := by decide +kernel
theorem dX10_drawnFeeder_53 : decode cX10_drawnFeeder 53 = .ok (.ireturn, 1) := by decide +kernel
theorem dX10_commonDivisor_0 : decode cX10_commonDivisor 0 = .ok (.lload_n 0, 1) := by decide +kernel
theorem dX10_commonDivisor_1 : decode cX10_commonDivisor 1 = .ok (.lstore 4, 2) := by decide +kernel
theorem dX10_commonDivisor_3 : decode cX10_commonDivisor 3 = .ok (.lload_n 2, 1) := by decide +kernel
theorem dX10_commonDivisor_4 : decode cX10_commonDivisor 4 = .ok (.lstore 6, 2) := by decide +kernel
theorem dX10_commonDivisor_6 : decode cX10_commonDivisor 6 = .ok (.iconst 0, 1) := by decide +kernel
theorem dX10_commonDivisor_7 : decode cX10_commonDivisor 7 = .ok (.istore 8, 2) := by decide +kernel
theorem dX10_commonDivisor_9 : decode cX10_commonDivisor 9 = .ok (.iload 8, 2) := by decide +kernel
theorem dX10_commonDivisor_11 : decode cX10_commonDivisor 11 = .ok (.sipush 200, 3) := by decide +kernel
theorem dX10_commonDivisor_14 : decode cX10_commonDivisor 14 = .ok (.if_icmp .ge 31, 3) := by decide +kernel
theorem dX10_commonDivisor_17 : decode cX10_commonDivisor 17 = .ok (.lload 6, 2) := by decide +kernel
theorem dX10_commonDivisor_19 : decode cX10_commonDivisor 19 = .ok (.lconst 0, 1) := by decide +kernel
theorem dX10_commonDivisor_20 : decode cX10_commonDivisor 20 = .ok (.lcmp, 1) := by decide +kernel
theorem dX10_commonDivisor_21 : decode cX10_commonDivisor 21 = .ok (.ifCond .eq 24, 3) := by decide +kernel
theorem dX10_commonDivisor_24 : decode cX10_commonDivisor 24 = .ok (.lload 4, 2) := by decide +kernel
theorem dX10_commonDivisor_26 : decode cX10_commonDivisor 26 = .ok (.lload 6, 2) := by decide +kernel
theorem dX10_commonDivisor_28 : decode cX10_commonDivisor 28 = .ok (.lrem, 1) := by decide +kernel
theorem dX10_commonDivisor_29 : decode cX10_commonDivisor 29 = .ok (.lstore 9, 2) := by decide +kernel
theorem dX10_commonDivisor_31 : decode cX10_commonDivisor 31 = .ok (.lload 6, 2) := by decide +kernel
theorem dX10_commonDivisor_33 : decode cX10_commonDivisor 33 = .ok (.lstore 4, 2) := by decide +kernel
theorem dX10_commonDivisor_35 : decode cX10_commonDivisor 35 = .ok (.lload 9, 2) := by decide +kernel
theorem dX10_commonDivisor_37 : decode cX10_commonDivisor 37 = .ok (.lstore 6, 2) := by decide +kernel
theorem dX10_commonDivisor_39 : decode cX10_commonDivisor 39 = .ok (.iinc 8 1, 3) := by decide +kernel
theorem dX10_commonDivisor_42 : decode cX10_commonDivisor 42 = .ok (.goto (-33), 3) := by decide +kernel
theorem dX10_commonDivisor_45 : decode cX10_commonDivisor 45 = .ok (.lload 4, 2) := by decide +kernel
theorem dX10_commonDivisor_47 : decode cX10_commonDivisor 47 = .ok (.lreturn, 1) := by decide +kernel
theorem dX11_init_0 : decode cX11_init 0 = .ok (.aload_n 0, 1) := by decide +kernel
theorem dX11_init_1 : decode cX11_init 1 = .ok (.invokespecial 1, 3) := by decide +kernel
theorem dX11_init_4 : decode cX11_init 4 = .ok (.aload_n 0, 1) := by decide +kernel
theorem dX11_init_5 : decode cX11_init 5 = .ok (.sipush 164, 3) := by decide +kernel
theorem dX11_init_8 : decode cX11_init 8 = .ok (.newarray .int, 2) := by decide +kernel
theorem dX11_init_10 : decode cX11_init 10 = .ok (.putfield 7, 3) := by decide +kernel
theorem dX11_init_13 : decode cX11_init 13 = .ok (.aload_n 0, 1) := by decide +kernel
theorem dX11_init_14 : decode cX11_init 14 = .ok (.bipush 64, 2) := by decide +kernel
theorem dX11_init_16 : decode cX11_init 16 = .ok (.newarray .int, 2) := by decide +kernel
theorem dX11_init_18 : decode cX11_init 18 = .ok (.putfield 13, 3) := by decide +kernel
theorem dX11_init_21 : decode cX11_init 21 = .ok (.aload_n 0, 1) := by decide +kernel
theorem dX11_init_22 : decode cX11_init 22 = .ok (.sipush 300, 3) := by decide +kernel
theorem dX11_init_25 : decode cX11_init 25 = .ok (.newarray .byte, 2) := by decide +kernel
theorem dX11_init_27 : decode cX11_init 27 = .ok (.putfield 16, 3) := by decide +kernel
theorem dX11_init_30 : decode cX11_init 30 = .ok (.aload_n 0, 1) := by decide +kernel
theorem dX11_init_31 : decode cX11_init 31 = .ok (.iconst 3, 1) := by decide +kernel
theorem dX11_init_32 : decode cX11_init 32 = .ok (.newarray .int, 2) := by decide +kernel
theorem dX11_init_34 : decode cX11_init 34 = .ok (.putfield 20, 3) := by decide +kernel
theorem dX11_init_37 : decode cX11_init 37 = .ok (.aload_n 0, 1) := by decide +kernel
theorem dX11_init_38 : decode cX11_init 38 = .ok (.bipush 24, 2) := by decide +kernel
theorem dX11_init_40 : decode cX11_init 40 = .ok (.newarray .int, 2) := by decide +kernel
theorem dX11_init_42 : decode cX11_init 42 = .ok (.putfield 23, 3) := by decide +kernel
theorem dX11_init_45 : decode cX11_init 45 = .ok (.aload_n 0, 1) := by decide +kernel
theorem dX11_init_46 : decode cX11_init 46 = .ok (.bipush 6, 2) := by decide +kernel
theorem dX11_init_48 : decode cX11_init 48 = .ok (.newarray .int, 2) := by decide +kernel
theorem dX11_init_50 : decode cX11_init 50 = .ok (.putfield 26, 3) := by decide +kernel
theorem dX11_init_53 : decode cX11_init 53 = .ok (.aload_n 0, 1) := by decide +kernel
theorem dX11_init_54 : decode cX11_init 54 = .ok (.bipush 6, 2) := by decide +kernel
theorem dX11_init_56 : decode cX11_init 56 = .ok (.newarray .int, 2) := by decide +kernel
theorem dX11_init_58 : decode cX11_init 58 = .ok (.putfield 29, 3) := by decide +kernel
theorem dX11_init_61 : decode cX11_init 61 = .ok (.aload_n 0, 1) := by decide +kernel
theorem dX11_init_62 : decode cX11_init 62 = .ok (.bipush 6, 2) := by decide +kernel
theorem dX11_init_64 : decode cX11_init 64 = .ok (.newarray .int, 2) := by decide +kernel
theorem dX11_init_66 : decode cX11_init 66 = .ok (.putfield 32, 3) := by decide +kernel
theorem dX11_init_69 : decode cX11_init 69 = .ok (.aload_n 0, 1) := by decide +kernel
theorem dX11_init_70 : decode cX11_init 70 = .ok (.sipush 1008, 3) := by decide +kernel
theorem dX11_init_73 : decode cX11_init 73 = .ok (.newarray .int, 2) := by decide +kernel
theorem dX11_init_75 : decode cX11_init 75 = .ok (.putfield 35, 3) := by decide +kernel
theorem dX11_init_78 : decode cX11_init 78 = .ok (.aload_n 0, 1) := by decide +kernel
theorem dX11_init_79 : decode cX11_init 79 = .ok (.sipush 1008, 3) := by decide +kernel
theorem dX11_init_82 : decode cX11_init 82 = .ok (.newarray .int, 2) := by decide +kernel
theorem dX11_init_84 : decode cX11_init 84 = .ok (.putfield 38, 3) := by decide +kernel
theorem dX11_init_87 : decode cX11_init 87 = .ok (.aload_n 0, 1) := by decide +kernel
theorem dX11_init_88 : decode cX11_init 88 = .ok (.sipush 1008, 3) := by decide +kernel
theorem dX11_init_91 : decode cX11_init 91 = .ok (.newarray .boolean, 2) := by decide +kernel
theorem dX11_init_93 : decode cX11_init 93 = .ok (.putfield 41, 3) := by decide +kernel
theorem dX11_init_96 : decode cX11_init 96 = .ok (.aload_n 0, 1) := by decide +kernel
theorem dX11_init_97 : decode cX11_init 97 = .ok (.sipush 1008, 3) := by decide +kernel
theorem dX11_init_100 : decode cX11_init 100 = .ok (.newarray .boolean, 2) := by decide +kernel
theorem dX11_init_102 : decode cX11_init 102 = .ok (.putfield 45, 3) := by decide +kernel
theorem dX11_init_105 : decode cX11_init 105 = .ok (.aload_n 0, 1) := by decide +kernel
theorem dX11_init_106 : decode cX11_init 106 = .ok (.bipush 6, 2) := by decide +kernel
theorem dX11_init_108 : decode cX11_init 108 = .ok (.newarray .int, 2) := by decide +kernel
theorem dX11_init_110 : decode cX11_init 110 = .ok (.putfield 48, 3) := by decide +kernel
theorem dX11_init_113 : decode cX11_init 113 = .ok (.aload_n 0, 1) := by decide +kernel
theorem dX11_init_114 : decode cX11_init 114 = .ok (.bipush 6, 2) := by decide +kernel
theorem dX11_init_116 : decode cX11_init 116 = .ok (.newarray .int, 2) := by decide +kernel
theorem dX11_init_118 : decode cX11_init 118 = .ok (.putfield 51, 3) := by decide +kernel
theorem dX11_init_121 : decode cX11_init 121 = .ok (.aload_n 0, 1) := by decide +kernel
theorem dX11_init_122 : decode cX11_init 122 = .ok (.sipush 1008, 3) := by decide +kernel
theorem dX11_init_125 : decode cX11_init 125 = .ok (.newarray .long, 2) := by decide +kernel
theorem dX11_init_127 : decode cX11_init 127 = .ok (.putfield 54, 3) := by decide +kernel
theorem dX11_init_130 : decode cX11_init 130 = .ok (.aload_n 0, 1) := by decide +kernel
theorem dX11_init_131 : decode cX11_init 131 = .ok (.sipush 1008, 3) := by decide +kernel
theorem dX11_init_134 : decode cX11_init 134 = .ok (.newarray .long, 2) := by decide +kernel
theorem dX11_init_136 : decode cX11_init 136 = .ok (.putfield 58, 3) := by decide +kernel
theorem dX11_init_139 : decode cX11_init 139 = .ok (.aload_n 0, 1) := by decide +kernel
theorem dX11_init_140 : decode cX11_init 140 = .ok (.getfield 7, 3) := by decide +kernel
theorem dX11_init_143 : decode cX11_init 143 = .ok (.iconst 0, 1) := by decide +kernel
theorem dX11_init_144 : decode cX11_init 144 = .ok (.iconst 4, 1) := by decide +kernel
theorem dX11_init_145 : decode cX11_init 145 = .ok (.iastore, 1) := by decide +kernel
theorem dX11_init_146 : decode cX11_init 146 = .ok (.aload_n 0, 1) := by decide +kernel
theorem dX11_init_147 : decode cX11_init 147 = .ok (.iconst 0, 1) := by decide +kernel
theorem dX11_init_148 : decode cX11_init 148 = .ok (.iconst 0, 1) := by decide +kernel
theorem dX11_init_149 : decode cX11_init 149 = .ok (.iconst 1, 1) := by decide +kernel
