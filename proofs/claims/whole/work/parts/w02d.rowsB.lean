theorem dX0_init_0 : decode cX0_init 0 = .ok (.aload_n 0, 1) := by decide +kernel
theorem dX0_init_1 : decode cX0_init 1 = .ok (.invokespecial 3, 3) := by decide +kernel
theorem dX0_init_4 : decode cX0_init 4 = .ok (.aload_n 0, 1) := by decide +kernel
theorem dX0_init_5 : decode cX0_init 5 = .ok (.bipush 12, 2) := by decide +kernel
theorem dX0_init_7 : decode cX0_init 7 = .ok (.newarray .int, 2) := by decide +kernel
theorem dX0_init_9 : decode cX0_init 9 = .ok (.putfield 11, 3) := by decide +kernel
theorem dX0_init_12 : decode cX0_init 12 = .ok (.aload_n 0, 1) := by decide +kernel
theorem dX0_init_13 : decode cX0_init 13 = .ok (.getfield 11, 3) := by decide +kernel
theorem dX0_init_16 : decode cX0_init 16 = .ok (.iconst 0, 1) := by decide +kernel
theorem dX0_init_17 : decode cX0_init 17 = .ok (.iconst 1, 1) := by decide +kernel
theorem dX0_init_18 : decode cX0_init 18 = .ok (.iastore, 1) := by decide +kernel
theorem dX0_init_19 : decode cX0_init 19 = .ok (.return_, 1) := by decide +kernel
theorem dX0_numberAt_0 : decode cX0_numberAt 0 = .ok (.iload_n 1, 1) := by decide +kernel
theorem dX0_numberAt_1 : decode cX0_numberAt 1 = .ok (.ifCond .lt 21, 3) := by decide +kernel
theorem dX0_numberAt_4 : decode cX0_numberAt 4 = .ok (.iload_n 1, 1) := by decide +kernel
theorem dX0_numberAt_5 : decode cX0_numberAt 5 = .ok (.aload_n 0, 1) := by decide +kernel
theorem dX0_numberAt_6 : decode cX0_numberAt 6 = .ok (.getfield 11, 3) := by decide +kernel
theorem dX0_numberAt_9 : decode cX0_numberAt 9 = .ok (.arraylength, 1) := by decide +kernel
theorem dX0_numberAt_10 : decode cX0_numberAt 10 = .ok (.if_icmp .ge 12, 3) := by decide +kernel
theorem dX0_numberAt_13 : decode cX0_numberAt 13 = .ok (.aload_n 0, 1) := by decide +kernel
theorem dX0_numberAt_14 : decode cX0_numberAt 14 = .ok (.getfield 11, 3) := by decide +kernel
theorem dX0_numberAt_17 : decode cX0_numberAt 17 = .ok (.iload_n 1, 1) := by decide +kernel
theorem dX0_numberAt_18 : decode cX0_numberAt 18 = .ok (.iaload, 1) := by decide +kernel
theorem dX0_numberAt_19 : decode cX0_numberAt 19 = .ok (.goto 5, 3) := by decide +kernel
theorem dX0_numberAt_22 : decode cX0_numberAt 22 = .ok (.bipush (-9), 2) := by decide +kernel
theorem dX0_numberAt_24 : decode cX0_numberAt 24 = .ok (.ireturn, 1) := by decide +kernel
set_option maxRecDepth 20000 in
theorem ggX0_shortest_X0_reaches : GoodIn wsX0_shortest wsX0_reaches := goodIn_r _ [5, 6, 7, 8, 9, 10, 11, 4, 12, 13, 14, 15, 16, 17, 18, 2, 3] (by decide +kernel) (by decide +kernel)
set_option maxRecDepth 20000 in
theorem gX0_shortest_X0_reaches : GoodIn wsX0_shortest (va_wsS RX0 15 yX0_reaches wsX0_reaches) := goodIn_app (goodIn_of _ (by decide +kernel)) ggX0_shortest_X0_reaches
theorem dX0_shortest_0 : decode cX0_shortest 0 = .ok (.iconst 1, 1) := by decide +kernel
theorem dX0_shortest_1 : decode cX0_shortest 1 = .ok (.istore_n 3, 1) := by decide +kernel
theorem dX0_shortest_2 : decode cX0_shortest 2 = .ok (.iload_n 3, 1) := by decide +kernel
theorem dX0_shortest_3 : decode cX0_shortest 3 = .ok (.bipush 12, 2) := by decide +kernel
theorem dX0_shortest_5 : decode cX0_shortest 5 = .ok (.if_icmp .gt 25, 3) := by decide +kernel
theorem dX0_shortest_8 : decode cX0_shortest 8 = .ok (.aload_n 0, 1) := by decide +kernel
theorem dX0_shortest_9 : decode cX0_shortest 9 = .ok (.getfield 11, 3) := by decide +kernel
theorem dX0_shortest_12 : decode cX0_shortest 12 = .ok (.iconst 1, 1) := by decide +kernel
theorem dX0_shortest_13 : decode cX0_shortest 13 = .ok (.iload_n 3, 1) := by decide +kernel
theorem dX0_shortest_14 : decode cX0_shortest 14 = .ok (.iload_n 1, 1) := by decide +kernel
theorem dX0_shortest_15 : decode cX0_shortest 15 = .ok (.iload_n 2, 1) := by decide +kernel
theorem dX0_shortest_16 : decode cX0_shortest 16 = .ok (.invokestatic 15, 3) := by decide +kernel
theorem dX0_shortest_19 : decode cX0_shortest 19 = .ok (.ifCond .eq 5, 3) := by decide +kernel
theorem dX0_shortest_22 : decode cX0_shortest 22 = .ok (.iload_n 3, 1) := by decide +kernel
theorem dX0_shortest_23 : decode cX0_shortest 23 = .ok (.ireturn, 1) := by decide +kernel
theorem dX0_shortest_24 : decode cX0_shortest 24 = .ok (.iinc 3 1, 3) := by decide +kernel
theorem dX0_shortest_27 : decode cX0_shortest 27 = .ok (.goto (-25), 3) := by decide +kernel
theorem dX0_shortest_30 : decode cX0_shortest 30 = .ok (.iconst 0, 1) := by decide +kernel
theorem dX0_shortest_31 : decode cX0_shortest 31 = .ok (.ireturn, 1) := by decide +kernel
set_option maxRecDepth 20000 in
theorem ggX0_reaches_X0_leastUseful : GoodIn wsX0_reaches wsX0_leastUseful := goodIn_r _ [8, 9, 10, 3, 11] (by decide +kernel) (by decide +kernel)
set_option maxRecDepth 20000 in
theorem gX0_reaches_X0_leastUseful : GoodIn wsX0_reaches (va_wsS RX0 25 yX0_leastUseful wsX0_leastUseful) := goodIn_app (goodIn_of _ (by decide +kernel)) ggX0_reaches_X0_leastUseful
set_option maxRecDepth 20000 in
theorem ggX0_reaches_X0_isSum : GoodIn wsX0_reaches wsX0_isSum := goodIn_r _ [14, 1, 2, 3, 4] (by decide +kernel) (by decide +kernel)
set_option maxRecDepth 20000 in
theorem gX0_reaches_X0_isSum : GoodIn wsX0_reaches (va_wsS RX0 29 yX0_isSum wsX0_isSum) := goodIn_app (goodIn_of _ (by decide +kernel)) ggX0_reaches_X0_isSum
set_option maxRecDepth 20000 in
theorem ggX0_reaches_X0_reaches : GoodIn wsX0_reaches wsX0_reaches := goodIn_r _ [0, 1, 2, 3, 4, 5, 6, 7, 8, 9, 10, 11, 12, 13, 14, 15, 16] (by decide +kernel) (by decide +kernel)
set_option maxRecDepth 20000 in
theorem gX0_reaches_X0_reaches : GoodIn wsX0_reaches (va_wsS RX0 15 yX0_reaches wsX0_reaches) := goodIn_app (goodIn_of _ (by decide +kernel)) ggX0_reaches_X0_reaches
theorem dX0_reaches_0 : decode cX0_reaches 0 = .ok (.iload_n 1, 1) := by decide +kernel
theorem dX0_reaches_1 : decode cX0_reaches 1 = .ok (.iconst 1, 1) := by decide +kernel
theorem dX0_reaches_2 : decode cX0_reaches 2 = .ok (.if_icmp .lt 9, 3) := by decide +kernel
theorem dX0_reaches_5 : decode cX0_reaches 5 = .ok (.iload_n 1, 1) := by decide +kernel
theorem dX0_reaches_6 : decode cX0_reaches 6 = .ok (.aload_n 0, 1) := by decide +kernel
theorem dX0_reaches_7 : decode cX0_reaches 7 = .ok (.arraylength, 1) := by decide +kernel
theorem dX0_reaches_8 : decode cX0_reaches 8 = .ok (.if_icmp .le 5, 3) := by decide +kernel
theorem dX0_reaches_11 : decode cX0_reaches 11 = .ok (.iconst 0, 1) := by decide +kernel
theorem dX0_reaches_12 : decode cX0_reaches 12 = .ok (.ireturn, 1) := by decide +kernel
theorem dX0_reaches_13 : decode cX0_reaches 13 = .ok (.aload_n 0, 1) := by decide +kernel
theorem dX0_reaches_14 : decode cX0_reaches 14 = .ok (.iload_n 1, 1) := by decide +kernel
theorem dX0_reaches_15 : decode cX0_reaches 15 = .ok (.iconst 1, 1) := by decide +kernel
theorem dX0_reaches_16 : decode cX0_reaches 16 = .ok (.isub, 1) := by decide +kernel
theorem dX0_reaches_17 : decode cX0_reaches 17 = .ok (.iaload, 1) := by decide +kernel
theorem dX0_reaches_18 : decode cX0_reaches 18 = .ok (.istore 5, 2) := by decide +kernel
theorem dX0_reaches_20 : decode cX0_reaches 20 = .ok (.iload 5, 2) := by decide +kernel
theorem dX0_reaches_22 : decode cX0_reaches 22 = .ok (.iload 4, 2) := by decide +kernel
theorem dX0_reaches_24 : decode cX0_reaches 24 = .ok (.if_icmp .ne 5, 3) := by decide +kernel
theorem dX0_reaches_27 : decode cX0_reaches 27 = .ok (.iconst 1, 1) := by decide +kernel
theorem dX0_reaches_28 : decode cX0_reaches 28 = .ok (.ireturn, 1) := by decide +kernel
theorem dX0_reaches_29 : decode cX0_reaches 29 = .ok (.iload_n 1, 1) := by decide +kernel
theorem dX0_reaches_30 : decode cX0_reaches 30 = .ok (.iload_n 2, 1) := by decide +kernel
theorem dX0_reaches_31 : decode cX0_reaches 31 = .ok (.if_icmp .ge 9, 3) := by decide +kernel
theorem dX0_reaches_34 : decode cX0_reaches 34 = .ok (.iload_n 1, 1) := by decide +kernel
theorem dX0_reaches_35 : decode cX0_reaches 35 = .ok (.aload_n 0, 1) := by decide +kernel
theorem dX0_reaches_36 : decode cX0_reaches 36 = .ok (.arraylength, 1) := by decide +kernel
theorem dX0_reaches_37 : decode cX0_reaches 37 = .ok (.if_icmp .lt 5, 3) := by decide +kernel
theorem dX0_reaches_40 : decode cX0_reaches 40 = .ok (.iconst 0, 1) := by decide +kernel
theorem dX0_reaches_41 : decode cX0_reaches 41 = .ok (.ireturn, 1) := by decide +kernel
theorem dX0_reaches_42 : decode cX0_reaches 42 = .ok (.iconst 2, 1) := by decide +kernel
theorem dX0_reaches_43 : decode cX0_reaches 43 = .ok (.iload 5, 2) := by decide +kernel
theorem dX0_reaches_45 : decode cX0_reaches 45 = .ok (.imul, 1) := by decide +kernel
theorem dX0_reaches_46 : decode cX0_reaches 46 = .ok (.iload 5, 2) := by decide +kernel
theorem dX0_reaches_48 : decode cX0_reaches 48 = .ok (.iload_n 3, 1) := by decide +kernel
theorem dX0_reaches_49 : decode cX0_reaches 49 = .ok (.if_icmp .ge 7, 3) := by decide +kernel
theorem dX0_reaches_52 : decode cX0_reaches 52 = .ok (.iload_n 3, 1) := by decide +kernel
theorem dX0_reaches_53 : decode cX0_reaches 53 = .ok (.goto 5, 3) := by decide +kernel
theorem dX0_reaches_56 : decode cX0_reaches 56 = .ok (.iload 4, 2) := by decide +kernel
theorem dX0_reaches_58 : decode cX0_reaches 58 = .ok (.invokestatic 19, 3) := by decide +kernel
theorem dX0_reaches_61 : decode cX0_reaches 61 = .ok (.istore 6, 2) := by decide +kernel
theorem dX0_reaches_63 : decode cX0_reaches 63 = .ok (.iload 5, 2) := by decide +kernel
theorem dX0_reaches_65 : decode cX0_reaches 65 = .ok (.iload_n 2, 1) := by decide +kernel
theorem dX0_reaches_66 : decode cX0_reaches 66 = .ok (.iload_n 1, 1) := by decide +kernel
theorem dX0_reaches_67 : decode cX0_reaches 67 = .ok (.isub, 1) := by decide +kernel
theorem dX0_reaches_68 : decode cX0_reaches 68 = .ok (.iconst 1, 1) := by decide +kernel
theorem dX0_reaches_69 : decode cX0_reaches 69 = .ok (.isub, 1) := by decide +kernel
theorem dX0_reaches_70 : decode cX0_reaches 70 = .ok (.iload 4, 2) := by decide +kernel
theorem dX0_reaches_72 : decode cX0_reaches 72 = .ok (.invokestatic 25, 3) := by decide +kernel
theorem dX0_reaches_75 : decode cX0_reaches 75 = .ok (.istore 7, 2) := by decide +kernel
theorem dX0_reaches_77 : decode cX0_reaches 77 = .ok (.iload 7, 2) := by decide +kernel
theorem dX0_reaches_79 : decode cX0_reaches 79 = .ok (.iload 6, 2) := by decide +kernel
theorem dX0_reaches_81 : decode cX0_reaches 81 = .ok (.if_icmp .gt 40, 3) := by decide +kernel
theorem dX0_reaches_84 : decode cX0_reaches 84 = .ok (.aload_n 0, 1) := by decide +kernel
theorem dX0_reaches_85 : decode cX0_reaches 85 = .ok (.iload_n 1, 1) := by decide +kernel
theorem dX0_reaches_86 : decode cX0_reaches 86 = .ok (.iload 7, 2) := by decide +kernel
theorem dX0_reaches_88 : decode cX0_reaches 88 = .ok (.invokestatic 29, 3) := by decide +kernel
theorem dX0_reaches_91 : decode cX0_reaches 91 = .ok (.ifCond .eq 24, 3) := by decide +kernel
theorem dX0_reaches_94 : decode cX0_reaches 94 = .ok (.aload_n 0, 1) := by decide +kernel
theorem dX0_reaches_95 : decode cX0_reaches 95 = .ok (.iload_n 1, 1) := by decide +kernel
theorem dX0_reaches_96 : decode cX0_reaches 96 = .ok (.iload 7, 2) := by decide +kernel
theorem dX0_reaches_98 : decode cX0_reaches 98 = .ok (.iastore, 1) := by decide +kernel
theorem dX0_reaches_99 : decode cX0_reaches 99 = .ok (.aload_n 0, 1) := by decide +kernel
theorem dX0_reaches_100 : decode cX0_reaches 100 = .ok (.iload_n 1, 1) := by decide +kernel
theorem dX0_reaches_101 : decode cX0_reaches 101 = .ok (.iconst 1, 1) := by decide +kernel
theorem dX0_reaches_102 : decode cX0_reaches 102 = .ok (.iadd, 1) := by decide +kernel
theorem dX0_reaches_103 : decode cX0_reaches 103 = .ok (.iload_n 2, 1) := by decide +kernel
theorem dX0_reaches_104 : decode cX0_reaches 104 = .ok (.iload_n 3, 1) := by decide +kernel
theorem dX0_reaches_105 : decode cX0_reaches 105 = .ok (.iload 4, 2) := by decide +kernel
theorem dX0_reaches_107 : decode cX0_reaches 107 = .ok (.invokestatic 15, 3) := by decide +kernel
theorem dX0_reaches_110 : decode cX0_reaches 110 = .ok (.ifCond .eq 5, 3) := by decide +kernel
theorem dX0_reaches_113 : decode cX0_reaches 113 = .ok (.iconst 1, 1) := by decide +kernel
theorem dX0_reaches_114 : decode cX0_reaches 114 = .ok (.ireturn, 1) := by decide +kernel
theorem dX0_reaches_115 : decode cX0_reaches 115 = .ok (.iinc 7 1, 3) := by decide +kernel
theorem dX0_reaches_118 : decode cX0_reaches 118 = .ok (.goto (-41), 3) := by decide +kernel
theorem dX0_reaches_121 : decode cX0_reaches 121 = .ok (.iconst 0, 1) := by decide +kernel
theorem dX0_reaches_122 : decode cX0_reaches 122 = .ok (.ireturn, 1) := by decide +kernel
theorem dX0_leastUseful_0 : decode cX0_leastUseful 0 = .ok (.iconst 1, 1) := by decide +kernel
theorem dX0_leastUseful_1 : decode cX0_leastUseful 1 = .ok (.iload_n 1, 1) := by decide +kernel
theorem dX0_leastUseful_2 : decode cX0_leastUseful 2 = .ok (.ishl, 1) := by decide +kernel
theorem dX0_leastUseful_3 : decode cX0_leastUseful 3 = .ok (.istore_n 3, 1) := by decide +kernel
theorem dX0_leastUseful_4 : decode cX0_leastUseful 4 = .ok (.iload_n 0, 1) := by decide +kernel
theorem dX0_leastUseful_5 : decode cX0_leastUseful 5 = .ok (.iconst 1, 1) := by decide +kernel
theorem dX0_leastUseful_6 : decode cX0_leastUseful 6 = .ok (.iadd, 1) := by decide +kernel
theorem dX0_leastUseful_7 : decode cX0_leastUseful 7 = .ok (.iload_n 2, 1) := by decide +kernel
theorem dX0_leastUseful_8 : decode cX0_leastUseful 8 = .ok (.iload_n 3, 1) := by decide +kernel
theorem dX0_leastUseful_9 : decode cX0_leastUseful 9 = .ok (.iadd, 1) := by decide +kernel
theorem dX0_leastUseful_10 : decode cX0_leastUseful 10 = .ok (.iconst 1, 1) := by decide +kernel
theorem dX0_leastUseful_11 : decode cX0_leastUseful 11 = .ok (.isub, 1) := by decide +kernel
theorem dX0_leastUseful_12 : decode cX0_leastUseful 12 = .ok (.iload_n 1, 1) := by decide +kernel
theorem dX0_leastUseful_13 : decode cX0_leastUseful 13 = .ok (.ishr, 1) := by decide +kernel
theorem dX0_leastUseful_14 : decode cX0_leastUseful 14 = .ok (.invokestatic 33, 3) := by decide +kernel
theorem dX0_leastUseful_17 : decode cX0_leastUseful 17 = .ok (.ireturn, 1) := by decide +kernel
theorem dX0_isSum_0 : decode cX0_isSum 0 = .ok (.iconst 0, 1) := by decide +kernel
theorem dX0_isSum_1 : decode cX0_isSum 1 = .ok (.istore_n 3, 1) := by decide +kernel
theorem dX0_isSum_2 : decode cX0_isSum 2 = .ok (.iload_n 1, 1) := by decide +kernel
theorem dX0_isSum_3 : decode cX0_isSum 3 = .ok (.aload_n 0, 1) := by decide +kernel
theorem dX0_isSum_4 : decode cX0_isSum 4 = .ok (.arraylength, 1) := by decide +kernel
theorem dX0_isSum_5 : decode cX0_isSum 5 = .ok (.invokestatic 19, 3) := by decide +kernel
theorem dX0_isSum_8 : decode cX0_isSum 8 = .ok (.iconst 1, 1) := by decide +kernel
theorem dX0_isSum_9 : decode cX0_isSum 9 = .ok (.isub, 1) := by decide +kernel
theorem dX0_isSum_10 : decode cX0_isSum 10 = .ok (.istore 4, 2) := by decide +kernel
theorem dX0_isSum_12 : decode cX0_isSum 12 = .ok (.iload_n 3, 1) := by decide +kernel
theorem dX0_isSum_13 : decode cX0_isSum 13 = .ok (.iload 4, 2) := by decide +kernel
theorem dX0_isSum_15 : decode cX0_isSum 15 = .ok (.if_icmp .gt 39, 3) := by decide +kernel
theorem dX0_isSum_18 : decode cX0_isSum 18 = .ok (.aload_n 0, 1) := by decide +kernel
theorem dX0_isSum_19 : decode cX0_isSum 19 = .ok (.iload_n 3, 1) := by decide +kernel
theorem dX0_isSum_20 : decode cX0_isSum 20 = .ok (.iaload, 1) := by decide +kernel
theorem dX0_isSum_21 : decode cX0_isSum 21 = .ok (.aload_n 0, 1) := by decide +kernel
theorem dX0_isSum_22 : decode cX0_isSum 22 = .ok (.iload 4, 2) := by decide +kernel
theorem dX0_isSum_24 : decode cX0_isSum 24 = .ok (.iaload, 1) := by decide +kernel
theorem dX0_isSum_25 : decode cX0_isSum 25 = .ok (.iadd, 1) := by decide +kernel
theorem dX0_isSum_26 : decode cX0_isSum 26 = .ok (.istore 5, 2) := by decide +kernel
theorem dX0_isSum_28 : decode cX0_isSum 28 = .ok (.iload 5, 2) := by decide +kernel
theorem dX0_isSum_30 : decode cX0_isSum 30 = .ok (.iload_n 2, 1) := by decide +kernel
theorem dX0_isSum_31 : decode cX0_isSum 31 = .ok (.if_icmp .ne 5, 3) := by decide +kernel
theorem dX0_isSum_34 : decode cX0_isSum 34 = .ok (.iconst 1, 1) := by decide +kernel
theorem dX0_isSum_35 : decode cX0_isSum 35 = .ok (.ireturn, 1) := by decide +kernel
theorem dX0_isSum_36 : decode cX0_isSum 36 = .ok (.iload 5, 2) := by decide +kernel
theorem dX0_isSum_38 : decode cX0_isSum 38 = .ok (.iload_n 2, 1) := by decide +kernel
theorem dX0_isSum_39 : decode cX0_isSum 39 = .ok (.if_icmp .ge 9, 3) := by decide +kernel
theorem dX0_isSum_42 : decode cX0_isSum 42 = .ok (.iinc 3 1, 3) := by decide +kernel
theorem dX0_isSum_45 : decode cX0_isSum 45 = .ok (.goto 6, 3) := by decide +kernel
theorem dX0_isSum_48 : decode cX0_isSum 48 = .ok (.iinc 4 (-1), 3) := by decide +kernel
theorem dX0_isSum_51 : decode cX0_isSum 51 = .ok (.goto (-39), 3) := by decide +kernel
theorem dX0_isSum_54 : decode cX0_isSum 54 = .ok (.iconst 0, 1) := by decide +kernel
theorem dX0_isSum_55 : decode cX0_isSum 55 = .ok (.ireturn, 1) := by decide +kernel
set_option maxRecDepth 20000 in
theorem ggX0_reachable_X0_reached : GoodIn wsX0_reachable wsX0_reached := goodIn_r _ [9, 10, 11, 8, 12, 2, 3, 4, 5, 6, 7] (by decide +kernel) (by decide +kernel)
set_option maxRecDepth 20000 in
theorem gX0_reachable_X0_reached : GoodIn wsX0_reachable (va_wsS RX0 36 yX0_reached wsX0_reached) := goodIn_app (goodIn_of _ (by decide +kernel)) ggX0_reachable_X0_reached
theorem dX0_reachable_0 : decode cX0_reachable 0 = .ok (.aload_n 0, 1) := by decide +kernel
theorem dX0_reachable_1 : decode cX0_reachable 1 = .ok (.getfield 11, 3) := by decide +kernel
theorem dX0_reachable_4 : decode cX0_reachable 4 = .ok (.iconst 1, 1) := by decide +kernel
theorem dX0_reachable_5 : decode cX0_reachable 5 = .ok (.iload_n 1, 1) := by decide +kernel
theorem dX0_reachable_6 : decode cX0_reachable 6 = .ok (.bipush 7, 2) := by decide +kernel
theorem dX0_reachable_8 : decode cX0_reachable 8 = .ok (.invokestatic 19, 3) := by decide +kernel
theorem dX0_reachable_11 : decode cX0_reachable 11 = .ok (.invokestatic 36, 3) := by decide +kernel
theorem dX0_reachable_14 : decode cX0_reachable 14 = .ok (.lreturn, 1) := by decide +kernel
set_option maxRecDepth 20000 in
theorem ggX0_reached_X0_isSum : GoodIn wsX0_reached wsX0_isSum := goodIn_r _ [4, 5, 6, 7, 8] (by decide +kernel) (by decide +kernel)
set_option maxRecDepth 20000 in
theorem gX0_reached_X0_isSum : GoodIn wsX0_reached (va_wsS RX0 29 yX0_isSum wsX0_isSum) := goodIn_app (goodIn_of _ (by decide +kernel)) ggX0_reached_X0_isSum
set_option maxRecDepth 20000 in
theorem ggX0_reached_X0_reached : GoodIn wsX0_reached wsX0_reached := goodIn_r _ [0, 1, 2, 3, 4, 5, 6, 7, 8, 9, 10] (by decide +kernel) (by decide +kernel)
set_option maxRecDepth 20000 in
theorem gX0_reached_X0_reached : GoodIn wsX0_reached (va_wsS RX0 36 yX0_reached wsX0_reached) := goodIn_app (goodIn_of _ (by decide +kernel)) ggX0_reached_X0_reached
theorem dX0_reached_0 : decode cX0_reached 0 = .ok (.iload_n 1, 1) := by decide +kernel
theorem dX0_reached_1 : decode cX0_reached 1 = .ok (.iconst 1, 1) := by decide +kernel
theorem dX0_reached_2 : decode cX0_reached 2 = .ok (.if_icmp .lt 9, 3) := by decide +kernel
theorem dX0_reached_5 : decode cX0_reached 5 = .ok (.iload_n 1, 1) := by decide +kernel
theorem dX0_reached_6 : decode cX0_reached 6 = .ok (.aload_n 0, 1) := by decide +kernel
theorem dX0_reached_7 : decode cX0_reached 7 = .ok (.arraylength, 1) := by decide +kernel
theorem dX0_reached_8 : decode cX0_reached 8 = .ok (.if_icmp .le 5, 3) := by decide +kernel
theorem dX0_reached_11 : decode cX0_reached 11 = .ok (.lconst 0, 1) := by decide +kernel
theorem dX0_reached_12 : decode cX0_reached 12 = .ok (.lreturn, 1) := by decide +kernel
theorem dX0_reached_13 : decode cX0_reached 13 = .ok (.aload_n 0, 1) := by decide +kernel
theorem dX0_reached_14 : decode cX0_reached 14 = .ok (.iload_n 1, 1) := by decide +kernel
theorem dX0_reached_15 : decode cX0_reached 15 = .ok (.iconst 1, 1) := by decide +kernel
theorem dX0_reached_16 : decode cX0_reached 16 = .ok (.isub, 1) := by decide +kernel
theorem dX0_reached_17 : decode cX0_reached 17 = .ok (.iaload, 1) := by decide +kernel
theorem dX0_reached_18 : decode cX0_reached 18 = .ok (.istore_n 3, 1) := by decide +kernel
theorem dX0_reached_19 : decode cX0_reached 19 = .ok (.lconst 1, 1) := by decide +kernel
theorem dX0_reached_20 : decode cX0_reached 20 = .ok (.iload_n 3, 1) := by decide +kernel
theorem dX0_reached_21 : decode cX0_reached 21 = .ok (.iconst 1, 1) := by decide +kernel
theorem dX0_reached_22 : decode cX0_reached 22 = .ok (.isub, 1) := by decide +kernel
theorem dX0_reached_23 : decode cX0_reached 23 = .ok (.lshl, 1) := by decide +kernel
theorem dX0_reached_24 : decode cX0_reached 24 = .ok (.lstore 4, 2) := by decide +kernel
theorem dX0_reached_26 : decode cX0_reached 26 = .ok (.iload_n 1, 1) := by decide +kernel
theorem dX0_reached_27 : decode cX0_reached 27 = .ok (.iload_n 2, 1) := by decide +kernel
theorem dX0_reached_28 : decode cX0_reached 28 = .ok (.if_icmp .ge 9, 3) := by decide +kernel
theorem dX0_reached_31 : decode cX0_reached 31 = .ok (.iload_n 1, 1) := by decide +kernel
theorem dX0_reached_32 : decode cX0_reached 32 = .ok (.aload_n 0, 1) := by decide +kernel
theorem dX0_reached_33 : decode cX0_reached 33 = .ok (.arraylength, 1) := by decide +kernel
theorem dX0_reached_34 : decode cX0_reached 34 = .ok (.if_icmp .lt 6, 3) := by decide +kernel
theorem dX0_reached_37 : decode cX0_reached 37 = .ok (.lload 4, 2) := by decide +kernel
theorem dX0_reached_39 : decode cX0_reached 39 = .ok (.lreturn, 1) := by decide +kernel
theorem dX0_reached_40 : decode cX0_reached 40 = .ok (.iload_n 3, 1) := by decide +kernel
theorem dX0_reached_41 : decode cX0_reached 41 = .ok (.iconst 1, 1) := by decide +kernel
theorem dX0_reached_42 : decode cX0_reached 42 = .ok (.iadd, 1) := by decide +kernel
theorem dX0_reached_43 : decode cX0_reached 43 = .ok (.istore 6, 2) := by decide +kernel
theorem dX0_reached_45 : decode cX0_reached 45 = .ok (.iload 6, 2) := by decide +kernel
theorem dX0_reached_47 : decode cX0_reached 47 = .ok (.iconst 2, 1) := by decide +kernel
theorem dX0_reached_48 : decode cX0_reached 48 = .ok (.iload_n 3, 1) := by decide +kernel
theorem dX0_reached_49 : decode cX0_reached 49 = .ok (.imul, 1) := by decide +kernel
theorem dX0_reached_50 : decode cX0_reached 50 = .ok (.if_icmp .gt 37, 3) := by decide +kernel
theorem dX0_reached_53 : decode cX0_reached 53 = .ok (.aload_n 0, 1) := by decide +kernel
theorem dX0_reached_54 : decode cX0_reached 54 = .ok (.iload_n 1, 1) := by decide +kernel
theorem dX0_reached_55 : decode cX0_reached 55 = .ok (.iload 6, 2) := by decide +kernel
theorem dX0_reached_57 : decode cX0_reached 57 = .ok (.invokestatic 29, 3) := by decide +kernel
theorem dX0_reached_60 : decode cX0_reached 60 = .ok (.ifCond .eq 21, 3) := by decide +kernel
theorem dX0_reached_63 : decode cX0_reached 63 = .ok (.aload_n 0, 1) := by decide +kernel
theorem dX0_reached_64 : decode cX0_reached 64 = .ok (.iload_n 1, 1) := by decide +kernel
theorem dX0_reached_65 : decode cX0_reached 65 = .ok (.iload 6, 2) := by decide +kernel
theorem dX0_reached_67 : decode cX0_reached 67 = .ok (.iastore, 1) := by decide +kernel
theorem dX0_reached_68 : decode cX0_reached 68 = .ok (.lload 4, 2) := by decide +kernel
theorem dX0_reached_70 : decode cX0_reached 70 = .ok (.aload_n 0, 1) := by decide +kernel
theorem dX0_reached_71 : decode cX0_reached 71 = .ok (.iload_n 1, 1) := by decide +kernel
theorem dX0_reached_72 : decode cX0_reached 72 = .ok (.iconst 1, 1) := by decide +kernel
theorem dX0_reached_73 : decode cX0_reached 73 = .ok (.iadd, 1) := by decide +kernel
theorem dX0_reached_74 : decode cX0_reached 74 = .ok (.iload_n 2, 1) := by decide +kernel
theorem dX0_reached_75 : decode cX0_reached 75 = .ok (.invokestatic 36, 3) := by decide +kernel
theorem dX0_reached_78 : decode cX0_reached 78 = .ok (.lor, 1) := by decide +kernel
theorem dX0_reached_79 : decode cX0_reached 79 = .ok (.lstore 4, 2) := by decide +kernel
theorem dX0_reached_81 : decode cX0_reached 81 = .ok (.iinc 6 1, 3) := by decide +kernel
theorem dX0_reached_84 : decode cX0_reached 84 = .ok (.goto (-39), 3) := by decide +kernel
theorem dX0_reached_87 : decode cX0_reached 87 = .ok (.lload 4, 2) := by decide +kernel
theorem dX0_reached_89 : decode cX0_reached 89 = .ok (.lreturn, 1) := by decide +kernel
set_option maxRecDepth 20000 in
theorem ggX0_byHalves_J6_numberOfLeadingZeros_0f7a4 : GoodIn wsX0_byHalves wsJ6_numberOfLeadingZeros_0f7a4 := goodIn_r _ [4, 5] (by decide +kernel) (by decide +kernel)
set_option maxRecDepth 20000 in
theorem gX0_byHalves_J6_numberOfLeadingZeros_0f7a4 : GoodIn wsX0_byHalves (va_wsS RX0 40 yJ6_numberOfLeadingZeros_0f7a4 wsJ6_numberOfLeadingZeros_0f7a4) := goodIn_app (goodIn_of _ (by decide +kernel)) ggX0_byHalves_J6_numberOfLeadingZeros_0f7a4
set_option maxRecDepth 20000 in
theorem ggX0_byHalves_J6_bitCount_0f7a4 : GoodIn wsX0_byHalves wsJ6_bitCount_0f7a4 := goodIn_r _ [8, 9, 10, 11] (by decide +kernel) (by decide +kernel)
set_option maxRecDepth 20000 in
theorem gX0_byHalves_J6_bitCount_0f7a4 : GoodIn wsX0_byHalves (va_wsS RX0 46 yJ6_bitCount_0f7a4 wsJ6_bitCount_0f7a4) := goodIn_app (goodIn_of _ (by decide +kernel)) ggX0_byHalves_J6_bitCount_0f7a4
theorem dX0_byHalves_0 : decode cX0_byHalves 0 = .ok (.iload_n 0, 1) := by decide +kernel
theorem dX0_byHalves_1 : decode cX0_byHalves 1 = .ok (.iconst 1, 1) := by decide +kernel
theorem dX0_byHalves_2 : decode cX0_byHalves 2 = .ok (.if_icmp .ge 7, 3) := by decide +kernel
theorem dX0_byHalves_5 : decode cX0_byHalves 5 = .ok (.iconst 0, 1) := by decide +kernel
theorem dX0_byHalves_6 : decode cX0_byHalves 6 = .ok (.goto 15, 3) := by decide +kernel
theorem dX0_byHalves_9 : decode cX0_byHalves 9 = .ok (.bipush 31, 2) := by decide +kernel
theorem dX0_byHalves_11 : decode cX0_byHalves 11 = .ok (.iload_n 0, 1) := by decide +kernel
theorem dX0_byHalves_12 : decode cX0_byHalves 12 = .ok (.invokestatic 40, 3) := by decide +kernel
theorem dX0_byHalves_15 : decode cX0_byHalves 15 = .ok (.isub, 1) := by decide +kernel
theorem dX0_byHalves_16 : decode cX0_byHalves 16 = .ok (.iload_n 0, 1) := by decide +kernel
theorem dX0_byHalves_17 : decode cX0_byHalves 17 = .ok (.invokestatic 46, 3) := by decide +kernel
theorem dX0_byHalves_20 : decode cX0_byHalves 20 = .ok (.iadd, 1) := by decide +kernel
theorem dX0_byHalves_21 : decode cX0_byHalves 21 = .ok (.ireturn, 1) := by decide +kernel
set_option maxRecDepth 20000 in
theorem ggX0_byFactors_X0_splitDown : GoodIn wsX0_byFactors wsX0_splitDown := goodIn_r _ [4, 5, 6, 3, 7, 1, 2] (by decide +kernel) (by decide +kernel)
set_option maxRecDepth 20000 in
theorem gX0_byFactors_X0_splitDown : GoodIn wsX0_byFactors (va_wsS RX0 49 yX0_splitDown wsX0_splitDown) := goodIn_app (goodIn_of _ (by decide +kernel)) ggX0_byFactors_X0_splitDown
theorem dX0_byFactors_0 : decode cX0_byFactors 0 = .ok (.iload_n 0, 1) := by decide +kernel
theorem dX0_byFactors_1 : decode cX0_byFactors 1 = .ok (.iconst 0, 1) := by decide +kernel
theorem dX0_byFactors_2 : decode cX0_byFactors 2 = .ok (.invokestatic 49, 3) := by decide +kernel
theorem dX0_byFactors_5 : decode cX0_byFactors 5 = .ok (.ireturn, 1) := by decide +kernel
set_option maxRecDepth 20000 in
theorem ggX0_splitDown_X0_leastFactor : GoodIn wsX0_splitDown wsX0_leastFactor := goodIn_r _ [4] (by decide +kernel) (by decide +kernel)
set_option maxRecDepth 20000 in
theorem gX0_splitDown_X0_leastFactor : GoodIn wsX0_splitDown (va_wsS RX0 52 yX0_leastFactor wsX0_leastFactor) := goodIn_app (goodIn_of _ (by decide +kernel)) ggX0_splitDown_X0_leastFactor
set_option maxRecDepth 20000 in
theorem ggX0_splitDown_X0_splitDown : GoodIn wsX0_splitDown wsX0_splitDown := goodIn_r _ [0, 1, 2, 3, 4, 5, 6] (by decide +kernel) (by decide +kernel)
set_option maxRecDepth 20000 in
theorem gX0_splitDown_X0_splitDown : GoodIn wsX0_splitDown (va_wsS RX0 49 yX0_splitDown wsX0_splitDown) := goodIn_app (goodIn_of _ (by decide +kernel)) ggX0_splitDown_X0_splitDown
theorem dX0_splitDown_0 : decode cX0_splitDown 0 = .ok (.iload_n 0, 1) := by decide +kernel
theorem dX0_splitDown_1 : decode cX0_splitDown 1 = .ok (.iconst 1, 1) := by decide +kernel
theorem dX0_splitDown_2 : decode cX0_splitDown 2 = .ok (.if_icmp .le 9, 3) := by decide +kernel
theorem dX0_splitDown_5 : decode cX0_splitDown 5 = .ok (.iload_n 1, 1) := by decide +kernel
theorem dX0_splitDown_6 : decode cX0_splitDown 6 = .ok (.bipush 40, 2) := by decide +kernel
theorem dX0_splitDown_8 : decode cX0_splitDown 8 = .ok (.if_icmp .le 5, 3) := by decide +kernel
theorem dX0_splitDown_11 : decode cX0_splitDown 11 = .ok (.iconst 1, 1) := by decide +kernel
theorem dX0_splitDown_12 : decode cX0_splitDown 12 = .ok (.ireturn, 1) := by decide +kernel
theorem dX0_splitDown_13 : decode cX0_splitDown 13 = .ok (.iload_n 0, 1) := by decide +kernel
theorem dX0_splitDown_14 : decode cX0_splitDown 14 = .ok (.invokestatic 52, 3) := by decide +kernel
theorem dX0_splitDown_17 : decode cX0_splitDown 17 = .ok (.istore_n 2, 1) := by decide +kernel
theorem dX0_splitDown_18 : decode cX0_splitDown 18 = .ok (.iload_n 2, 1) := by decide +kernel
theorem dX0_splitDown_19 : decode cX0_splitDown 19 = .ok (.iconst 2, 1) := by decide +kernel
theorem dX0_splitDown_20 : decode cX0_splitDown 20 = .ok (.if_icmp .lt 8, 3) := by decide +kernel
theorem dX0_splitDown_23 : decode cX0_splitDown 23 = .ok (.iload_n 2, 1) := by decide +kernel
theorem dX0_splitDown_24 : decode cX0_splitDown 24 = .ok (.iload_n 0, 1) := by decide +kernel
theorem dX0_splitDown_25 : decode cX0_splitDown 25 = .ok (.if_icmp .ne 15, 3) := by decide +kernel
theorem dX0_splitDown_28 : decode cX0_splitDown 28 = .ok (.iload_n 0, 1) := by decide +kernel
theorem dX0_splitDown_29 : decode cX0_splitDown 29 = .ok (.iconst 1, 1) := by decide +kernel
theorem dX0_splitDown_30 : decode cX0_splitDown 30 = .ok (.isub, 1) := by decide +kernel
theorem dX0_splitDown_31 : decode cX0_splitDown 31 = .ok (.iload_n 1, 1) := by decide +kernel
theorem dX0_splitDown_32 : decode cX0_splitDown 32 = .ok (.iconst 1, 1) := by decide +kernel
theorem dX0_splitDown_33 : decode cX0_splitDown 33 = .ok (.iadd, 1) := by decide +kernel
theorem dX0_splitDown_34 : decode cX0_splitDown 34 = .ok (.invokestatic 49, 3) := by decide +kernel
theorem dX0_splitDown_37 : decode cX0_splitDown 37 = .ok (.iconst 1, 1) := by decide +kernel
theorem dX0_splitDown_38 : decode cX0_splitDown 38 = .ok (.iadd, 1) := by decide +kernel
theorem dX0_splitDown_39 : decode cX0_splitDown 39 = .ok (.ireturn, 1) := by decide +kernel
theorem dX0_splitDown_40 : decode cX0_splitDown 40 = .ok (.iload_n 2, 1) := by decide +kernel
theorem dX0_splitDown_41 : decode cX0_splitDown 41 = .ok (.iload_n 1, 1) := by decide +kernel
theorem dX0_splitDown_42 : decode cX0_splitDown 42 = .ok (.iconst 1, 1) := by decide +kernel
theorem dX0_splitDown_43 : decode cX0_splitDown 43 = .ok (.iadd, 1) := by decide +kernel
theorem dX0_splitDown_44 : decode cX0_splitDown 44 = .ok (.invokestatic 49, 3) := by decide +kernel
theorem dX0_splitDown_47 : decode cX0_splitDown 47 = .ok (.iload_n 0, 1) := by decide +kernel
theorem dX0_splitDown_48 : decode cX0_splitDown 48 = .ok (.iload_n 2, 1) := by decide +kernel
theorem dX0_splitDown_49 : decode cX0_splitDown 49 = .ok (.idiv, 1) := by decide +kernel
theorem dX0_splitDown_50 : decode cX0_splitDown 50 = .ok (.iload_n 1, 1) := by decide +kernel
theorem dX0_splitDown_51 : decode cX0_splitDown 51 = .ok (.iconst 1, 1) := by decide +kernel
theorem dX0_splitDown_52 : decode cX0_splitDown 52 = .ok (.iadd, 1) := by decide +kernel
theorem dX0_splitDown_53 : decode cX0_splitDown 53 = .ok (.invokestatic 49, 3) := by decide +kernel
theorem dX0_splitDown_56 : decode cX0_splitDown 56 = .ok (.iadd, 1) := by decide +kernel
theorem dX0_splitDown_57 : decode cX0_splitDown 57 = .ok (.iconst 1, 1) := by decide +kernel
theorem dX0_splitDown_58 : decode cX0_splitDown 58 = .ok (.isub, 1) := by decide +kernel
theorem dX0_splitDown_59 : decode cX0_splitDown 59 = .ok (.ireturn, 1) := by decide +kernel
theorem dX0_leastFactor_0 : decode cX0_leastFactor 0 = .ok (.iconst 2, 1) := by decide +kernel
theorem dX0_leastFactor_1 : decode cX0_leastFactor 1 = .ok (.istore_n 1, 1) := by decide +kernel
theorem dX0_leastFactor_2 : decode cX0_leastFactor 2 = .ok (.iload_n 1, 1) := by decide +kernel
theorem dX0_leastFactor_3 : decode cX0_leastFactor 3 = .ok (.iload_n 1, 1) := by decide +kernel
theorem dX0_leastFactor_4 : decode cX0_leastFactor 4 = .ok (.imul, 1) := by decide +kernel
theorem dX0_leastFactor_5 : decode cX0_leastFactor 5 = .ok (.iload_n 0, 1) := by decide +kernel
theorem dX0_leastFactor_6 : decode cX0_leastFactor 6 = .ok (.if_icmp .gt 17, 3) := by decide +kernel
theorem dX0_leastFactor_9 : decode cX0_leastFactor 9 = .ok (.iload_n 0, 1) := by decide +kernel
theorem dX0_leastFactor_10 : decode cX0_leastFactor 10 = .ok (.iload_n 1, 1) := by decide +kernel
theorem dX0_leastFactor_11 : decode cX0_leastFactor 11 = .ok (.irem, 1) := by decide +kernel
theorem dX0_leastFactor_12 : decode cX0_leastFactor 12 = .ok (.ifCond .ne 5, 3) := by decide +kernel
theorem dX0_leastFactor_15 : decode cX0_leastFactor 15 = .ok (.iload_n 1, 1) := by decide +kernel
theorem dX0_leastFactor_16 : decode cX0_leastFactor 16 = .ok (.ireturn, 1) := by decide +kernel
theorem dX0_leastFactor_17 : decode cX0_leastFactor 17 = .ok (.iinc 1 1, 3) := by decide +kernel
theorem dX0_leastFactor_20 : decode cX0_leastFactor 20 = .ok (.goto (-18), 3) := by decide +kernel
theorem dX0_leastFactor_23 : decode cX0_leastFactor 23 = .ok (.iload_n 0, 1) := by decide +kernel
theorem dX0_leastFactor_24 : decode cX0_leastFactor 24 = .ok (.ireturn, 1) := by decide +kernel
theorem dX1_init_0 : decode cX1_init 0 = .ok (.aload_n 0, 1) := by decide +kernel
theorem dX1_init_1 : decode cX1_init 1 = .ok (.invokespecial 1, 3) := by decide +kernel
theorem dX1_init_4 : decode cX1_init 4 = .ok (.aload_n 0, 1) := by decide +kernel
theorem dX1_init_5 : decode cX1_init 5 = .ok (.sipush 1024, 3) := by decide +kernel
theorem dX1_init_8 : decode cX1_init 8 = .ok (.newarray .boolean, 2) := by decide +kernel
theorem dX1_init_10 : decode cX1_init 10 = .ok (.putfield 9, 3) := by decide +kernel
theorem dX1_init_13 : decode cX1_init 13 = .ok (.return_, 1) := by decide +kernel
set_option maxRecDepth 20000 in
theorem ggX1_isWonByFirst_X1_isWon : GoodIn wsX1_isWonByFirst wsX1_isWon := goodIn_r _ [6, 1, 7, 8, 5, 9, 10] (by decide +kernel) (by decide +kernel)
set_option maxRecDepth 20000 in
theorem gX1_isWonByFirst_X1_isWon : GoodIn wsX1_isWonByFirst (wsV RX1 13 RX1 yX1_isWon wsX1_isWon) := goodIn_app (goodIn_of _ (by decide +kernel)) ggX1_isWonByFirst_X1_isWon
theorem dX1_isWonByFirst_0 : decode cX1_isWonByFirst 0 = .ok (.iload_n 1, 1) := by decide +kernel
theorem dX1_isWonByFirst_1 : decode cX1_isWonByFirst 1 = .ok (.iconst 2, 1) := by decide +kernel
theorem dX1_isWonByFirst_2 : decode cX1_isWonByFirst 2 = .ok (.if_icmp .lt 9, 3) := by decide +kernel
theorem dX1_isWonByFirst_5 : decode cX1_isWonByFirst 5 = .ok (.iload_n 1, 1) := by decide +kernel
theorem dX1_isWonByFirst_6 : decode cX1_isWonByFirst 6 = .ok (.bipush 12, 2) := by decide +kernel
theorem dX1_isWonByFirst_8 : decode cX1_isWonByFirst 8 = .ok (.if_icmp .le 5, 3) := by decide +kernel
theorem dX1_isWonByFirst_11 : decode cX1_isWonByFirst 11 = .ok (.iconst 0, 1) := by decide +kernel
theorem dX1_isWonByFirst_12 : decode cX1_isWonByFirst 12 = .ok (.ireturn, 1) := by decide +kernel
theorem dX1_isWonByFirst_13 : decode cX1_isWonByFirst 13 = .ok (.iconst 1, 1) := by decide +kernel
theorem dX1_isWonByFirst_14 : decode cX1_isWonByFirst 14 = .ok (.iload_n 1, 1) := by decide +kernel
theorem dX1_isWonByFirst_15 : decode cX1_isWonByFirst 15 = .ok (.iconst 2, 1) := by decide +kernel
theorem dX1_isWonByFirst_16 : decode cX1_isWonByFirst 16 = .ok (.isub, 1) := by decide +kernel
theorem dX1_isWonByFirst_17 : decode cX1_isWonByFirst 17 = .ok (.ishl, 1) := by decide +kernel
theorem dX1_isWonByFirst_18 : decode cX1_isWonByFirst 18 = .ok (.iconst 1, 1) := by decide +kernel
theorem dX1_isWonByFirst_19 : decode cX1_isWonByFirst 19 = .ok (.isub, 1) := by decide +kernel
theorem dX1_isWonByFirst_20 : decode cX1_isWonByFirst 20 = .ok (.istore_n 2, 1) := by decide +kernel
theorem dX1_isWonByFirst_21 : decode cX1_isWonByFirst 21 = .ok (.iload_n 2, 1) := by decide +kernel
theorem dX1_isWonByFirst_22 : decode cX1_isWonByFirst 22 = .ok (.ifCond .lt 25, 3) := by decide +kernel
theorem dX1_isWonByFirst_25 : decode cX1_isWonByFirst 25 = .ok (.aload_n 0, 1) := by decide +kernel
theorem dX1_isWonByFirst_26 : decode cX1_isWonByFirst 26 = .ok (.getfield 9, 3) := by decide +kernel
theorem dX1_isWonByFirst_29 : decode cX1_isWonByFirst 29 = .ok (.iload_n 2, 1) := by decide +kernel
theorem dX1_isWonByFirst_30 : decode cX1_isWonByFirst 30 = .ok (.aload_n 0, 1) := by decide +kernel
theorem dX1_isWonByFirst_31 : decode cX1_isWonByFirst 31 = .ok (.iload_n 2, 1) := by decide +kernel
theorem dX1_isWonByFirst_32 : decode cX1_isWonByFirst 32 = .ok (.iconst 2, 1) := by decide +kernel
theorem dX1_isWonByFirst_33 : decode cX1_isWonByFirst 33 = .ok (.ishl, 1) := by decide +kernel
theorem dX1_isWonByFirst_34 : decode cX1_isWonByFirst 34 = .ok (.iconst 2, 1) := by decide +kernel
theorem dX1_isWonByFirst_35 : decode cX1_isWonByFirst 35 = .ok (.ior, 1) := by decide +kernel
theorem dX1_isWonByFirst_36 : decode cX1_isWonByFirst 36 = .ok (.iload_n 1, 1) := by decide +kernel
theorem dX1_isWonByFirst_37 : decode cX1_isWonByFirst 37 = .ok (.invokevirtual 13, 3) := by decide +kernel
theorem dX1_isWonByFirst_40 : decode cX1_isWonByFirst 40 = .ok (.bastore, 1) := by decide +kernel
theorem dX1_isWonByFirst_41 : decode cX1_isWonByFirst 41 = .ok (.iinc 2 (-1), 3) := by decide +kernel
theorem dX1_isWonByFirst_44 : decode cX1_isWonByFirst 44 = .ok (.goto (-23), 3) := by decide +kernel
theorem dX1_isWonByFirst_47 : decode cX1_isWonByFirst 47 = .ok (.aload_n 0, 1) := by decide +kernel
theorem dX1_isWonByFirst_48 : decode cX1_isWonByFirst 48 = .ok (.getfield 9, 3) := by decide +kernel
theorem dX1_isWonByFirst_51 : decode cX1_isWonByFirst 51 = .ok (.iconst 0, 1) := by decide +kernel
theorem dX1_isWonByFirst_52 : decode cX1_isWonByFirst 52 = .ok (.baload, 1) := by decide +kernel
theorem dX1_isWonByFirst_53 : decode cX1_isWonByFirst 53 = .ok (.ireturn, 1) := by decide +kernel
set_option maxRecDepth 20000 in
theorem ggX1_isWon_X1_sumsOf : GoodIn wsX1_isWon wsX1_sumsOf := goodIn_r _ [5] (by decide +kernel) (by decide +kernel)
set_option maxRecDepth 20000 in
theorem gX1_isWon_X1_sumsOf : GoodIn wsX1_isWon (va_wsS RX1 17 yX1_sumsOf wsX1_sumsOf) := goodIn_app (goodIn_of _ (by decide +kernel)) ggX1_isWon_X1_sumsOf
theorem dX1_isWon_0 : decode cX1_isWon 0 = .ok (.iload_n 1, 1) := by decide +kernel
theorem dX1_isWon_1 : decode cX1_isWon 1 = .ok (.iload_n 2, 1) := by decide +kernel
theorem dX1_isWon_2 : decode cX1_isWon 2 = .ok (.invokestatic 17, 3) := by decide +kernel
theorem dX1_isWon_5 : decode cX1_isWon 5 = .ok (.iload_n 1, 1) := by decide +kernel
theorem dX1_isWon_6 : decode cX1_isWon 6 = .ok (.iconst (-1), 1) := by decide +kernel
theorem dX1_isWon_7 : decode cX1_isWon 7 = .ok (.ixor, 1) := by decide +kernel
theorem dX1_isWon_8 : decode cX1_isWon 8 = .ok (.iand, 1) := by decide +kernel
theorem dX1_isWon_9 : decode cX1_isWon 9 = .ok (.istore_n 3, 1) := by decide +kernel
theorem dX1_isWon_10 : decode cX1_isWon 10 = .ok (.iload_n 3, 1) := by decide +kernel
theorem dX1_isWon_11 : decode cX1_isWon 11 = .ok (.iload_n 2, 1) := by decide +kernel
theorem dX1_isWon_12 : decode cX1_isWon 12 = .ok (.ishr, 1) := by decide +kernel
theorem dX1_isWon_13 : decode cX1_isWon 13 = .ok (.iconst 1, 1) := by decide +kernel
theorem dX1_isWon_14 : decode cX1_isWon 14 = .ok (.iand, 1) := by decide +kernel
theorem dX1_isWon_15 : decode cX1_isWon 15 = .ok (.iconst 1, 1) := by decide +kernel
theorem dX1_isWon_16 : decode cX1_isWon 16 = .ok (.if_icmp .ne 5, 3) := by decide +kernel
theorem dX1_isWon_19 : decode cX1_isWon 19 = .ok (.iconst 1, 1) := by decide +kernel
theorem dX1_isWon_20 : decode cX1_isWon 20 = .ok (.ireturn, 1) := by decide +kernel
theorem dX1_isWon_21 : decode cX1_isWon 21 = .ok (.iconst 2, 1) := by decide +kernel
theorem dX1_isWon_22 : decode cX1_isWon 22 = .ok (.istore 4, 2) := by decide +kernel
theorem dX1_isWon_24 : decode cX1_isWon 24 = .ok (.iload 4, 2) := by decide +kernel
theorem dX1_isWon_26 : decode cX1_isWon 26 = .ok (.iload_n 2, 1) := by decide +kernel
theorem dX1_isWon_27 : decode cX1_isWon 27 = .ok (.if_icmp .ge 51, 3) := by decide +kernel
theorem dX1_isWon_30 : decode cX1_isWon 30 = .ok (.iload_n 1, 1) := by decide +kernel
theorem dX1_isWon_31 : decode cX1_isWon 31 = .ok (.iconst 1, 1) := by decide +kernel
theorem dX1_isWon_32 : decode cX1_isWon 32 = .ok (.iload 4, 2) := by decide +kernel
theorem dX1_isWon_34 : decode cX1_isWon 34 = .ok (.ishl, 1) := by decide +kernel
theorem dX1_isWon_35 : decode cX1_isWon 35 = .ok (.ior, 1) := by decide +kernel
theorem dX1_isWon_36 : decode cX1_isWon 36 = .ok (.iconst 2, 1) := by decide +kernel
theorem dX1_isWon_37 : decode cX1_isWon 37 = .ok (.ishr, 1) := by decide +kernel
theorem dX1_isWon_38 : decode cX1_isWon 38 = .ok (.istore 5, 2) := by decide +kernel
theorem dX1_isWon_40 : decode cX1_isWon 40 = .ok (.iload_n 3, 1) := by decide +kernel
theorem dX1_isWon_41 : decode cX1_isWon 41 = .ok (.iload 4, 2) := by decide +kernel
theorem dX1_isWon_43 : decode cX1_isWon 43 = .ok (.ishr, 1) := by decide +kernel
theorem dX1_isWon_44 : decode cX1_isWon 44 = .ok (.iconst 1, 1) := by decide +kernel
theorem dX1_isWon_45 : decode cX1_isWon 45 = .ok (.iand, 1) := by decide +kernel
theorem dX1_isWon_46 : decode cX1_isWon 46 = .ok (.iconst 1, 1) := by decide +kernel
theorem dX1_isWon_47 : decode cX1_isWon 47 = .ok (.if_icmp .ne 25, 3) := by decide +kernel
theorem dX1_isWon_50 : decode cX1_isWon 50 = .ok (.iload 5, 2) := by decide +kernel
theorem dX1_isWon_52 : decode cX1_isWon 52 = .ok (.aload_n 0, 1) := by decide +kernel
theorem dX1_isWon_53 : decode cX1_isWon 53 = .ok (.getfield 9, 3) := by decide +kernel
theorem dX1_isWon_56 : decode cX1_isWon 56 = .ok (.arraylength, 1) := by decide +kernel
theorem dX1_isWon_57 : decode cX1_isWon 57 = .ok (.if_icmp .ge 15, 3) := by decide +kernel
theorem dX1_isWon_60 : decode cX1_isWon 60 = .ok (.aload_n 0, 1) := by decide +kernel
theorem dX1_isWon_61 : decode cX1_isWon 61 = .ok (.getfield 9, 3) := by decide +kernel
theorem dX1_isWon_64 : decode cX1_isWon 64 = .ok (.iload 5, 2) := by decide +kernel
theorem dX1_isWon_66 : decode cX1_isWon 66 = .ok (.baload, 1) := by decide +kernel
theorem dX1_isWon_67 : decode cX1_isWon 67 = .ok (.ifCond .ne 5, 3) := by decide +kernel
theorem dX1_isWon_70 : decode cX1_isWon 70 = .ok (.iconst 1, 1) := by decide +kernel
theorem dX1_isWon_71 : decode cX1_isWon 71 = .ok (.ireturn, 1) := by decide +kernel
theorem dX1_isWon_72 : decode cX1_isWon 72 = .ok (.iinc 4 1, 3) := by decide +kernel
theorem dX1_isWon_75 : decode cX1_isWon 75 = .ok (.goto (-51), 3) := by decide +kernel
theorem dX1_isWon_78 : decode cX1_isWon 78 = .ok (.iconst 0, 1) := by decide +kernel
theorem dX1_isWon_79 : decode cX1_isWon 79 = .ok (.ireturn, 1) := by decide +kernel
theorem dX1_sumsOf_0 : decode cX1_sumsOf 0 = .ok (.iconst 0, 1) := by decide +kernel
theorem dX1_sumsOf_1 : decode cX1_sumsOf 1 = .ok (.istore_n 2, 1) := by decide +kernel
theorem dX1_sumsOf_2 : decode cX1_sumsOf 2 = .ok (.iconst 1, 1) := by decide +kernel
theorem dX1_sumsOf_3 : decode cX1_sumsOf 3 = .ok (.istore_n 3, 1) := by decide +kernel
theorem dX1_sumsOf_4 : decode cX1_sumsOf 4 = .ok (.iload_n 3, 1) := by decide +kernel
theorem dX1_sumsOf_5 : decode cX1_sumsOf 5 = .ok (.iload_n 1, 1) := by decide +kernel
theorem dX1_sumsOf_6 : decode cX1_sumsOf 6 = .ok (.if_icmp .ge 24, 3) := by decide +kernel
theorem dX1_sumsOf_9 : decode cX1_sumsOf 9 = .ok (.iload_n 0, 1) := by decide +kernel
theorem dX1_sumsOf_10 : decode cX1_sumsOf 10 = .ok (.iload_n 3, 1) := by decide +kernel
theorem dX1_sumsOf_11 : decode cX1_sumsOf 11 = .ok (.ishr, 1) := by decide +kernel
theorem dX1_sumsOf_12 : decode cX1_sumsOf 12 = .ok (.iconst 1, 1) := by decide +kernel
theorem dX1_sumsOf_13 : decode cX1_sumsOf 13 = .ok (.iand, 1) := by decide +kernel
theorem dX1_sumsOf_14 : decode cX1_sumsOf 14 = .ok (.iconst 1, 1) := by decide +kernel
theorem dX1_sumsOf_15 : decode cX1_sumsOf 15 = .ok (.if_icmp .ne 9, 3) := by decide +kernel
theorem dX1_sumsOf_18 : decode cX1_sumsOf 18 = .ok (.iload_n 2, 1) := by decide +kernel
theorem dX1_sumsOf_19 : decode cX1_sumsOf 19 = .ok (.iload_n 0, 1) := by decide +kernel
theorem dX1_sumsOf_20 : decode cX1_sumsOf 20 = .ok (.iload_n 3, 1) := by decide +kernel
theorem dX1_sumsOf_21 : decode cX1_sumsOf 21 = .ok (.ishl, 1) := by decide +kernel
theorem dX1_sumsOf_22 : decode cX1_sumsOf 22 = .ok (.ior, 1) := by decide +kernel
theorem dX1_sumsOf_23 : decode cX1_sumsOf 23 = .ok (.istore_n 2, 1) := by decide +kernel
theorem dX1_sumsOf_24 : decode cX1_sumsOf 24 = .ok (.iinc 3 1, 3) := by decide +kernel
theorem dX1_sumsOf_27 : decode cX1_sumsOf 27 = .ok (.goto (-23), 3) := by decide +kernel
theorem dX1_sumsOf_30 : decode cX1_sumsOf 30 = .ok (.iload_n 2, 1) := by decide +kernel
theorem dX1_sumsOf_31 : decode cX1_sumsOf 31 = .ok (.ireturn, 1) := by decide +kernel
set_option maxRecDepth 20000 in
theorem ggX2_init_X6_init : GoodIn wsX2_init wsX6_init := goodIn_r _ [6, 7, 8, 9, 10, 11, 12, 13, 1, 14, 15, 16, 17, 18, 19, 20, 21, 22, 23] (by decide +kernel) (by decide +kernel)
set_option maxRecDepth 20000 in
theorem gX2_init_X6_init : GoodIn wsX2_init (wsX6_init) := ggX2_init_X6_init
theorem dX2_init_0 : decode cX2_init 0 = .ok (.aload_n 0, 1) := by decide +kernel
theorem dX2_init_1 : decode cX2_init 1 = .ok (.bipush 64, 2) := by decide +kernel
theorem dX2_init_3 : decode cX2_init 3 = .ok (.invokespecial 3, 3) := by decide +kernel
theorem dX2_init_6 : decode cX2_init 6 = .ok (.aload_n 0, 1) := by decide +kernel
theorem dX2_init_7 : decode cX2_init 7 = .ok (.iconst 4, 1) := by decide +kernel
theorem dX2_init_8 : decode cX2_init 8 = .ok (.newarray .int, 2) := by decide +kernel
theorem dX2_init_10 : decode cX2_init 10 = .ok (.putfield 9, 3) := by decide +kernel
theorem dX2_init_13 : decode cX2_init 13 = .ok (.return_, 1) := by decide +kernel
theorem dX2_statementCount_0 : decode cX2_statementCount 0 = .ok (.aload_n 0, 1) := by decide +kernel
theorem dX2_statementCount_1 : decode cX2_statementCount 1 = .ok (.getfield 15, 3) := by decide +kernel
theorem dX2_statementCount_4 : decode cX2_statementCount 4 = .ok (.ireturn, 1) := by decide +kernel
set_option maxRecDepth 20000 in
theorem ggX2_faultOfForm_X6_howMany : GoodIn wsX2_faultOfForm wsX6_howMany := goodIn_r _ [8, 9, 91, 92, 93, 94, 95, 96, 97, 98, 99] (by decide +kernel) (by decide +kernel)
set_option maxRecDepth 20000 in
theorem gX2_faultOfForm_X6_howMany_u22X2 : GoodIn wsX2_faultOfForm (va_wsU RX2 22 RX2 "SumOfTwoThatStand$Told" ⟨"SumOfTwoThatStand$Letters", "howMany", "()I"⟩ yX6_howMany wsX6_howMany) := goodIn_app (goodIn_of _ (by decide +kernel)) ggX2_faultOfForm_X6_howMany
set_option maxRecDepth 20000 in
theorem ggX2_faultOfForm_X2_readStatement : GoodIn wsX2_faultOfForm wsX2_readStatement := goodIn_r _ [14, 1, 15, 16, 17, 18, 19, 20, 7, 21, 9, 22, 23, 24, 13, 25, 26, 27, 28, 29, 30, 31, 32, 33, 34, 35, 36, 37, 38, 39, 40, 41, 42, 43, 44, 45, 46, 47, 48, 49, 50, 51, 52, 53, 54, 55, 56, 57, 58, 59, 60, 61, 62, 63, 64, 65, 66, 67, 68, 69, 70, 71, 72, 73, 74, 75, 76, 77, 78, 79, 80, 81, 82, 83, 84, 85, 86, 87, 88, 89, 90, 91, 92, 93, 94, 95, 96, 97, 98, 99] (by decide +kernel) (by decide +kernel)
set_option maxRecDepth 20000 in
theorem gX2_faultOfForm_X2_readStatement : GoodIn wsX2_faultOfForm (wsV RX2 26 RX2 yX2_readStatement wsX2_readStatement) := goodIn_app (goodIn_of _ (by decide +kernel)) ggX2_faultOfForm_X2_readStatement
theorem dX2_faultOfForm_0 : decode cX2_faultOfForm 0 = .ok (.aload_n 0, 1) := by decide +kernel
theorem dX2_faultOfForm_1 : decode cX2_faultOfForm 1 = .ok (.iconst 0, 1) := by decide +kernel
theorem dX2_faultOfForm_2 : decode cX2_faultOfForm 2 = .ok (.putfield 19, 3) := by decide +kernel
theorem dX2_faultOfForm_5 : decode cX2_faultOfForm 5 = .ok (.aload_n 0, 1) := by decide +kernel
theorem dX2_faultOfForm_6 : decode cX2_faultOfForm 6 = .ok (.iconst 0, 1) := by decide +kernel
theorem dX2_faultOfForm_7 : decode cX2_faultOfForm 7 = .ok (.putfield 15, 3) := by decide +kernel
theorem dX2_faultOfForm_10 : decode cX2_faultOfForm 10 = .ok (.iconst 0, 1) := by decide +kernel
theorem dX2_faultOfForm_11 : decode cX2_faultOfForm 11 = .ok (.istore_n 1, 1) := by decide +kernel
theorem dX2_faultOfForm_12 : decode cX2_faultOfForm 12 = .ok (.iload_n 1, 1) := by decide +kernel
theorem dX2_faultOfForm_13 : decode cX2_faultOfForm 13 = .ok (.bipush 64, 2) := by decide +kernel
theorem dX2_faultOfForm_15 : decode cX2_faultOfForm 15 = .ok (.if_icmp .ge 50, 3) := by decide +kernel
theorem dX2_faultOfForm_18 : decode cX2_faultOfForm 18 = .ok (.iload_n 1, 1) := by decide +kernel
theorem dX2_faultOfForm_19 : decode cX2_faultOfForm 19 = .ok (.ifCond .eq 14, 3) := by decide +kernel
theorem dX2_faultOfForm_22 : decode cX2_faultOfForm 22 = .ok (.aload_n 0, 1) := by decide +kernel
theorem dX2_faultOfForm_23 : decode cX2_faultOfForm 23 = .ok (.getfield 19, 3) := by decide +kernel
theorem dX2_faultOfForm_26 : decode cX2_faultOfForm 26 = .ok (.aload_n 0, 1) := by decide +kernel
theorem dX2_faultOfForm_27 : decode cX2_faultOfForm 27 = .ok (.invokevirtual 22, 3) := by decide +kernel
theorem dX2_faultOfForm_30 : decode cX2_faultOfForm 30 = .ok (.if_icmp .ge 35, 3) := by decide +kernel
theorem dX2_faultOfForm_33 : decode cX2_faultOfForm 33 = .ok (.aload_n 0, 1) := by decide +kernel
theorem dX2_faultOfForm_34 : decode cX2_faultOfForm 34 = .ok (.invokevirtual 26, 3) := by decide +kernel
theorem dX2_faultOfForm_37 : decode cX2_faultOfForm 37 = .ok (.ifCond .ne 12, 3) := by decide +kernel
theorem dX2_faultOfForm_40 : decode cX2_faultOfForm 40 = .ok (.sipush (-1000), 3) := by decide +kernel
theorem dX2_faultOfForm_43 : decode cX2_faultOfForm 43 = .ok (.aload_n 0, 1) := by decide +kernel
theorem dX2_faultOfForm_44 : decode cX2_faultOfForm 44 = .ok (.getfield 19, 3) := by decide +kernel
theorem dX2_faultOfForm_47 : decode cX2_faultOfForm 47 = .ok (.isub, 1) := by decide +kernel
theorem dX2_faultOfForm_48 : decode cX2_faultOfForm 48 = .ok (.ireturn, 1) := by decide +kernel
theorem dX2_faultOfForm_49 : decode cX2_faultOfForm 49 = .ok (.aload_n 0, 1) := by decide +kernel
theorem dX2_faultOfForm_50 : decode cX2_faultOfForm 50 = .ok (.dup, 1) := by decide +kernel
theorem dX2_faultOfForm_51 : decode cX2_faultOfForm 51 = .ok (.getfield 15, 3) := by decide +kernel
theorem dX2_faultOfForm_54 : decode cX2_faultOfForm 54 = .ok (.iconst 1, 1) := by decide +kernel
theorem dX2_faultOfForm_55 : decode cX2_faultOfForm 55 = .ok (.iadd, 1) := by decide +kernel
theorem dX2_faultOfForm_56 : decode cX2_faultOfForm 56 = .ok (.putfield 15, 3) := by decide +kernel
theorem dX2_faultOfForm_59 : decode cX2_faultOfForm 59 = .ok (.iinc 1 1, 3) := by decide +kernel
theorem dX2_faultOfForm_62 : decode cX2_faultOfForm 62 = .ok (.goto (-50), 3) := by decide +kernel
theorem dX2_faultOfForm_65 : decode cX2_faultOfForm 65 = .ok (.iconst 0, 1) := by decide +kernel
theorem dX2_faultOfForm_66 : decode cX2_faultOfForm 66 = .ok (.ireturn, 1) := by decide +kernel
set_option maxRecDepth 20000 in
theorem ggX2_faultOfSense_X2_readStatement : GoodIn wsX2_faultOfSense wsX2_readStatement := goodIn_r _ [7, 1, 8, 9, 10, 11, 12, 13, 14, 15, 16, 17, 18, 19, 6, 20, 21, 22, 23, 24, 25, 26, 27, 28, 29, 30, 31, 32, 33, 34, 35, 36, 37, 38, 39, 40, 41, 42, 43, 44, 45, 46, 47, 48, 49, 50, 51, 52, 53, 54, 55, 56, 57, 58, 59, 60, 61, 62, 63, 64, 65, 66, 67, 68, 69, 70, 71, 72, 73, 74, 75, 76, 77, 78, 79, 80, 81, 82, 83, 84, 85, 183, 184, 185, 186, 187, 188, 189, 190, 191] (by decide +kernel) (by decide +kernel)
set_option maxRecDepth 20000 in
theorem gX2_faultOfSense_X2_readStatement : GoodIn wsX2_faultOfSense (wsV RX2 26 RX2 yX2_readStatement wsX2_readStatement) := goodIn_app (goodIn_of _ (by decide +kernel)) ggX2_faultOfSense_X2_readStatement
set_option maxRecDepth 20000 in
theorem ggX2_faultOfSense_X2_comesTo : GoodIn wsX2_faultOfSense wsX2_comesTo := goodIn_r _ [89, 8, 82, 90, 91, 92, 93, 94, 95, 96, 97, 98, 99, 100, 101, 102, 103, 104, 105, 106, 107, 108, 109, 110, 111, 112, 113, 114, 115, 116, 117, 118, 119, 120, 121, 122, 123, 124, 125, 126, 127, 128, 129, 130, 131, 132, 133, 134, 135, 136, 137, 138, 139, 140, 141, 142, 143, 144, 145, 146, 147, 148, 149, 150, 151, 152, 153, 154, 155, 156, 157, 158, 159, 160, 161, 162, 163, 164, 165, 166, 167, 168, 169, 170, 171, 172, 173, 174, 175, 176, 177, 178, 179, 180, 181, 182, 183, 184, 185, 186, 187, 188, 189, 192, 193, 194, 195, 196, 197, 198, 199, 200, 201, 202] (by decide +kernel) (by decide +kernel)
set_option maxRecDepth 20000 in
theorem gX2_faultOfSense_X2_comesTo : GoodIn wsX2_faultOfSense (wsV RX2 30 RX2 yX2_comesTo wsX2_comesTo) := goodIn_app (goodIn_of _ (by decide +kernel)) ggX2_faultOfSense_X2_comesTo
theorem dX2_faultOfSense_0 : decode cX2_faultOfSense 0 = .ok (.aload_n 0, 1) := by decide +kernel
theorem dX2_faultOfSense_1 : decode cX2_faultOfSense 1 = .ok (.iconst 0, 1) := by decide +kernel
theorem dX2_faultOfSense_2 : decode cX2_faultOfSense 2 = .ok (.putfield 19, 3) := by decide +kernel
theorem dX2_faultOfSense_5 : decode cX2_faultOfSense 5 = .ok (.iconst 0, 1) := by decide +kernel
theorem dX2_faultOfSense_6 : decode cX2_faultOfSense 6 = .ok (.istore_n 2, 1) := by decide +kernel
theorem dX2_faultOfSense_7 : decode cX2_faultOfSense 7 = .ok (.iload_n 2, 1) := by decide +kernel
theorem dX2_faultOfSense_8 : decode cX2_faultOfSense 8 = .ok (.aload_n 0, 1) := by decide +kernel
theorem dX2_faultOfSense_9 : decode cX2_faultOfSense 9 = .ok (.getfield 15, 3) := by decide +kernel
theorem dX2_faultOfSense_12 : decode cX2_faultOfSense 12 = .ok (.if_icmp .ge 35, 3) := by decide +kernel
theorem dX2_faultOfSense_15 : decode cX2_faultOfSense 15 = .ok (.aload_n 0, 1) := by decide +kernel
theorem dX2_faultOfSense_16 : decode cX2_faultOfSense 16 = .ok (.getfield 19, 3) := by decide +kernel
theorem dX2_faultOfSense_19 : decode cX2_faultOfSense 19 = .ok (.istore_n 3, 1) := by decide +kernel
theorem dX2_faultOfSense_20 : decode cX2_faultOfSense 20 = .ok (.aload_n 0, 1) := by decide +kernel
theorem dX2_faultOfSense_21 : decode cX2_faultOfSense 21 = .ok (.invokevirtual 26, 3) := by decide +kernel
theorem dX2_faultOfSense_24 : decode cX2_faultOfSense 24 = .ok (.ifCond .eq 11, 3) := by decide +kernel
theorem dX2_faultOfSense_27 : decode cX2_faultOfSense 27 = .ok (.aload_n 0, 1) := by decide +kernel
theorem dX2_faultOfSense_28 : decode cX2_faultOfSense 28 = .ok (.aload_n 1, 1) := by decide +kernel
theorem dX2_faultOfSense_29 : decode cX2_faultOfSense 29 = .ok (.invokevirtual 30, 3) := by decide +kernel
theorem dX2_faultOfSense_32 : decode cX2_faultOfSense 32 = .ok (.ifCond .ne 9, 3) := by decide +kernel
theorem dX2_faultOfSense_35 : decode cX2_faultOfSense 35 = .ok (.sipush (-2000), 3) := by decide +kernel
theorem dX2_faultOfSense_38 : decode cX2_faultOfSense 38 = .ok (.iload_n 3, 1) := by decide +kernel
theorem dX2_faultOfSense_39 : decode cX2_faultOfSense 39 = .ok (.isub, 1) := by decide +kernel
theorem dX2_faultOfSense_40 : decode cX2_faultOfSense 40 = .ok (.ireturn, 1) := by decide +kernel
theorem dX2_faultOfSense_41 : decode cX2_faultOfSense 41 = .ok (.iinc 2 1, 3) := by decide +kernel
theorem dX2_faultOfSense_44 : decode cX2_faultOfSense 44 = .ok (.goto (-37), 3) := by decide +kernel
theorem dX2_faultOfSense_47 : decode cX2_faultOfSense 47 = .ok (.iconst 0, 1) := by decide +kernel
theorem dX2_faultOfSense_48 : decode cX2_faultOfSense 48 = .ok (.ireturn, 1) := by decide +kernel
set_option maxRecDepth 20000 in
theorem ggX2_comesTo_X5_build : GoodIn wsX2_comesTo wsX5_build := goodIn_r _ [7, 8, 9, 10, 11, 6, 12, 13, 14, 15, 16, 17, 18, 19, 20, 21, 22, 23, 24, 25, 26, 27, 28, 29, 30, 31, 32, 33, 34, 35, 36, 37, 38, 39, 40, 41, 42, 43, 44, 45, 46, 47, 48, 49, 50, 51, 52, 53, 54, 55, 56, 57, 58, 59, 60, 61, 62, 63, 64, 65, 66, 67, 68, 69, 70, 71, 72, 103, 104, 105, 106, 107, 108, 109, 110, 111, 112, 113] (by decide +kernel) (by decide +kernel)
set_option maxRecDepth 20000 in
theorem gX2_comesTo_X5_build : GoodIn wsX2_comesTo (wsV RX2 37 RX5 yX5_build wsX5_build) := goodIn_app (goodIn_of _ (by decide +kernel)) ggX2_comesTo_X5_build
set_option maxRecDepth 20000 in
theorem ggX2_comesTo_X5_fire : GoodIn wsX2_comesTo wsX5_fire := goodIn_r _ [76, 25, 77, 78, 79, 6, 80, 13, 81, 47, 57, 58, 21, 22, 23, 24, 26, 27, 28, 29, 30, 31, 32, 82, 83, 40, 84, 85, 86, 87, 103, 104, 105, 106, 107, 108, 109, 110, 111, 112, 113] (by decide +kernel) (by decide +kernel)
set_option maxRecDepth 20000 in
theorem gX2_comesTo_X5_fire : GoodIn wsX2_comesTo (wsV RX2 43 RX5 yX5_fire wsX5_fire) := goodIn_app (goodIn_of _ (by decide +kernel)) ggX2_comesTo_X5_fire
set_option maxRecDepth 20000 in
theorem ggX2_comesTo_X5_changeLaws : GoodIn wsX2_comesTo wsX5_changeLaws := goodIn_r _ [91, 37, 81, 103, 104, 105, 106, 107, 108, 109, 110, 111, 112, 113] (by decide +kernel) (by decide +kernel)
set_option maxRecDepth 20000 in
theorem gX2_comesTo_X5_changeLaws : GoodIn wsX2_comesTo (wsV RX2 47 RX5 yX5_changeLaws wsX5_changeLaws) := goodIn_app (goodIn_of _ (by decide +kernel)) ggX2_comesTo_X5_changeLaws
set_option maxRecDepth 20000 in
theorem ggX2_comesTo_X5_beginAnew : GoodIn wsX2_comesTo wsX5_beginAnew := goodIn_r _ [95, 13, 25, 53, 54, 55, 6, 56, 8, 57, 58, 47, 59, 48, 60, 9, 10, 11, 12, 103, 104, 105, 106, 107, 108, 109, 110, 111, 112, 113] (by decide +kernel) (by decide +kernel)
set_option maxRecDepth 20000 in
theorem gX2_comesTo_X5_beginAnew : GoodIn wsX2_comesTo (wsV RX2 51 RX5 yX5_beginAnew wsX5_beginAnew) := goodIn_app (goodIn_of _ (by decide +kernel)) ggX2_comesTo_X5_beginAnew
theorem dX2_comesTo_0 : decode cX2_comesTo 0 = .ok (.aload_n 0, 1) := by decide +kernel
theorem dX2_comesTo_1 : decode cX2_comesTo 1 = .ok (.getfield 34, 3) := by decide +kernel
theorem dX2_comesTo_4 : decode cX2_comesTo 4 = .ok (.lookupswitch 101 #[(97, 36), (98, 65), (108, 84)], 36) := by decide +kernel
theorem dX2_comesTo_40 : decode cX2_comesTo 40 = .ok (.aload_n 1, 1) := by decide +kernel
theorem dX2_comesTo_41 : decode cX2_comesTo 41 = .ok (.aload_n 0, 1) := by decide +kernel
theorem dX2_comesTo_42 : decode cX2_comesTo 42 = .ok (.getfield 9, 3) := by decide +kernel
theorem dX2_comesTo_45 : decode cX2_comesTo 45 = .ok (.iconst 0, 1) := by decide +kernel
theorem dX2_comesTo_46 : decode cX2_comesTo 46 = .ok (.iaload, 1) := by decide +kernel
theorem dX2_comesTo_47 : decode cX2_comesTo 47 = .ok (.aload_n 0, 1) := by decide +kernel
theorem dX2_comesTo_48 : decode cX2_comesTo 48 = .ok (.getfield 9, 3) := by decide +kernel
theorem dX2_comesTo_51 : decode cX2_comesTo 51 = .ok (.iconst 1, 1) := by decide +kernel
theorem dX2_comesTo_52 : decode cX2_comesTo 52 = .ok (.iaload, 1) := by decide +kernel
theorem dX2_comesTo_53 : decode cX2_comesTo 53 = .ok (.aload_n 0, 1) := by decide +kernel
theorem dX2_comesTo_54 : decode cX2_comesTo 54 = .ok (.getfield 9, 3) := by decide +kernel
theorem dX2_comesTo_57 : decode cX2_comesTo 57 = .ok (.iconst 2, 1) := by decide +kernel
theorem dX2_comesTo_58 : decode cX2_comesTo 58 = .ok (.iaload, 1) := by decide +kernel
theorem dX2_comesTo_59 : decode cX2_comesTo 59 = .ok (.aload_n 0, 1) := by decide +kernel
theorem dX2_comesTo_60 : decode cX2_comesTo 60 = .ok (.getfield 9, 3) := by decide +kernel
theorem dX2_comesTo_63 : decode cX2_comesTo 63 = .ok (.iconst 3, 1) := by decide +kernel
theorem dX2_comesTo_64 : decode cX2_comesTo 64 = .ok (.iaload, 1) := by decide +kernel
theorem dX2_comesTo_65 : decode cX2_comesTo 65 = .ok (.invokevirtual 37, 3) := by decide +kernel
theorem dX2_comesTo_68 : decode cX2_comesTo 68 = .ok (.ireturn, 1) := by decide +kernel
theorem dX2_comesTo_69 : decode cX2_comesTo 69 = .ok (.aload_n 1, 1) := by decide +kernel
theorem dX2_comesTo_70 : decode cX2_comesTo 70 = .ok (.aload_n 0, 1) := by decide +kernel
theorem dX2_comesTo_71 : decode cX2_comesTo 71 = .ok (.getfield 9, 3) := by decide +kernel
theorem dX2_comesTo_74 : decode cX2_comesTo 74 = .ok (.iconst 0, 1) := by decide +kernel
theorem dX2_comesTo_75 : decode cX2_comesTo 75 = .ok (.iaload, 1) := by decide +kernel
theorem dX2_comesTo_76 : decode cX2_comesTo 76 = .ok (.invokevirtual 43, 3) := by decide +kernel
theorem dX2_comesTo_79 : decode cX2_comesTo 79 = .ok (.ifCond .le 7, 3) := by decide +kernel
theorem dX2_comesTo_82 : decode cX2_comesTo 82 = .ok (.iconst 1, 1) := by decide +kernel
theorem dX2_comesTo_83 : decode cX2_comesTo 83 = .ok (.goto 4, 3) := by decide +kernel
theorem dX2_comesTo_86 : decode cX2_comesTo 86 = .ok (.iconst 0, 1) := by decide +kernel
theorem dX2_comesTo_87 : decode cX2_comesTo 87 = .ok (.ireturn, 1) := by decide +kernel
theorem dX2_comesTo_88 : decode cX2_comesTo 88 = .ok (.aload_n 1, 1) := by decide +kernel
theorem dX2_comesTo_89 : decode cX2_comesTo 89 = .ok (.aload_n 0, 1) := by decide +kernel
theorem dX2_comesTo_90 : decode cX2_comesTo 90 = .ok (.getfield 9, 3) := by decide +kernel
theorem dX2_comesTo_93 : decode cX2_comesTo 93 = .ok (.iconst 0, 1) := by decide +kernel
theorem dX2_comesTo_94 : decode cX2_comesTo 94 = .ok (.iaload, 1) := by decide +kernel
theorem dX2_comesTo_95 : decode cX2_comesTo 95 = .ok (.aload_n 0, 1) := by decide +kernel
theorem dX2_comesTo_96 : decode cX2_comesTo 96 = .ok (.getfield 9, 3) := by decide +kernel
theorem dX2_comesTo_99 : decode cX2_comesTo 99 = .ok (.iconst 1, 1) := by decide +kernel
theorem dX2_comesTo_100 : decode cX2_comesTo 100 = .ok (.iaload, 1) := by decide +kernel
theorem dX2_comesTo_101 : decode cX2_comesTo 101 = .ok (.invokevirtual 47, 3) := by decide +kernel
theorem dX2_comesTo_104 : decode cX2_comesTo 104 = .ok (.ireturn, 1) := by decide +kernel
theorem dX2_comesTo_105 : decode cX2_comesTo 105 = .ok (.aload_n 1, 1) := by decide +kernel
theorem dX2_comesTo_106 : decode cX2_comesTo 106 = .ok (.invokevirtual 51, 3) := by decide +kernel
theorem dX2_comesTo_109 : decode cX2_comesTo 109 = .ok (.iconst 1, 1) := by decide +kernel
theorem dX2_comesTo_110 : decode cX2_comesTo 110 = .ok (.ireturn, 1) := by decide +kernel
set_option maxRecDepth 20000 in
theorem ggX2_readStatement_X6_toldAt : GoodIn wsX2_readStatement wsX6_toldAt := goodIn_r _ [9, 10, 11, 81, 82, 83, 84, 85, 86, 87, 88, 89] (by decide +kernel) (by decide +kernel)
set_option maxRecDepth 20000 in
theorem gX2_readStatement_X6_toldAt_u55X2 : GoodIn wsX2_readStatement (va_wsU RX2 55 RX2 "SumOfTwoThatStand$Told" ⟨"SumOfTwoThatStand$Letters", "toldAt", "(I)I"⟩ yX6_toldAt wsX6_toldAt) := goodIn_app (goodIn_of _ (by decide +kernel)) ggX2_readStatement_X6_toldAt
set_option maxRecDepth 20000 in
theorem ggX2_readStatement_X2_formOf : GoodIn wsX2_readStatement wsX2_formOf := goodIn_r _ [15] (by decide +kernel) (by decide +kernel)
set_option maxRecDepth 20000 in
theorem gX2_readStatement_X2_formOf : GoodIn wsX2_readStatement (va_wsS RX2 61 yX2_formOf wsX2_formOf) := goodIn_app (goodIn_of _ (by decide +kernel)) ggX2_readStatement_X2_formOf
set_option maxRecDepth 20000 in
theorem ggX2_readStatement_J0_isEmpty_aae02 : GoodIn wsX2_readStatement wsJ0_isEmpty_aae02 := goodIn_r _ [20, 21] (by decide +kernel) (by decide +kernel)
set_option maxRecDepth 20000 in
theorem gX2_readStatement_J0_isEmpty_aae02 : GoodIn wsX2_readStatement (wsV RX2 65 RJ0 yJ0_isEmpty_aae02 wsJ0_isEmpty_aae02) := goodIn_app (goodIn_of _ (by decide +kernel)) ggX2_readStatement_J0_isEmpty_aae02
set_option maxRecDepth 20000 in
theorem ggX2_readStatement_J0_length_8abf5 : GoodIn wsX2_readStatement wsJ0_length_8abf5 := goodIn_r _ [25, 21, 26, 27, 28, 19, 29, 30, 31] (by decide +kernel) (by decide +kernel)
set_option maxRecDepth 20000 in
theorem gX2_readStatement_J0_length_8abf5 : GoodIn wsX2_readStatement (wsV RX2 70 RJ0 yJ0_length_8abf5 wsJ0_length_8abf5) := goodIn_app (goodIn_of _ (by decide +kernel)) ggX2_readStatement_J0_length_8abf5
set_option maxRecDepth 20000 in
theorem ggX2_readStatement_J0_charAt_5068e : GoodIn wsX2_readStatement wsJ0_charAt_5068e := goodIn_r _ [35, 21, 36, 37, 38, 19, 39, 30, 31, 40, 41, 42, 43, 44, 45, 46, 47, 48, 49, 50, 51, 52, 53, 54, 55, 56, 57, 58, 59, 60, 61, 62, 63, 64, 65, 66, 67, 68] (by decide +kernel) (by decide +kernel)
set_option maxRecDepth 20000 in
theorem gX2_readStatement_J0_charAt_5068e : GoodIn wsX2_readStatement (wsV RX2 73 RJ0 yJ0_charAt_5068e wsJ0_charAt_5068e) := goodIn_app (goodIn_of _ (by decide +kernel)) ggX2_readStatement_J0_charAt_5068e
set_option maxRecDepth 20000 in
theorem ggX2_readStatement_X2_readPart : GoodIn wsX2_readStatement wsX2_readPart := goodIn_r _ [72, 1, 73, 74, 75, 14, 76, 3, 77, 4, 5, 6, 7, 8, 9, 10, 11, 78, 79, 80, 81, 82, 83, 84, 85, 86, 87, 88, 89] (by decide +kernel) (by decide +kernel)
set_option maxRecDepth 20000 in
theorem gX2_readStatement_X2_readPart : GoodIn wsX2_readStatement (wsV RX2 77 RX2 yX2_readPart wsX2_readPart) := goodIn_app (goodIn_of _ (by decide +kernel)) ggX2_readStatement_X2_readPart
theorem dX2_readStatement_0 : decode cX2_readStatement 0 = .ok (.aload_n 0, 1) := by decide +kernel
theorem dX2_readStatement_1 : decode cX2_readStatement 1 = .ok (.aload_n 0, 1) := by decide +kernel
theorem dX2_readStatement_2 : decode cX2_readStatement 2 = .ok (.aload_n 0, 1) := by decide +kernel
theorem dX2_readStatement_3 : decode cX2_readStatement 3 = .ok (.getfield 19, 3) := by decide +kernel
theorem dX2_readStatement_6 : decode cX2_readStatement 6 = .ok (.invokevirtual 55, 3) := by decide +kernel
theorem dX2_readStatement_9 : decode cX2_readStatement 9 = .ok (.putfield 34, 3) := by decide +kernel
theorem dX2_readStatement_12 : decode cX2_readStatement 12 = .ok (.aload_n 0, 1) := by decide +kernel
theorem dX2_readStatement_13 : decode cX2_readStatement 13 = .ok (.iconst 0, 1) := by decide +kernel
theorem dX2_readStatement_14 : decode cX2_readStatement 14 = .ok (.putfield 58, 3) := by decide +kernel
theorem dX2_readStatement_17 : decode cX2_readStatement 17 = .ok (.aload_n 0, 1) := by decide +kernel
theorem dX2_readStatement_18 : decode cX2_readStatement 18 = .ok (.getfield 34, 3) := by decide +kernel
theorem dX2_readStatement_21 : decode cX2_readStatement 21 = .ok (.invokestatic 61, 3) := by decide +kernel
theorem dX2_readStatement_24 : decode cX2_readStatement 24 = .ok (.astore_n 1, 1) := by decide +kernel
theorem dX2_readStatement_25 : decode cX2_readStatement 25 = .ok (.aload_n 1, 1) := by decide +kernel
theorem dX2_readStatement_26 : decode cX2_readStatement 26 = .ok (.invokevirtual 65, 3) := by decide +kernel
theorem dX2_readStatement_29 : decode cX2_readStatement 29 = .ok (.ifCond .eq 5, 3) := by decide +kernel
theorem dX2_readStatement_32 : decode cX2_readStatement 32 = .ok (.iconst 0, 1) := by decide +kernel
theorem dX2_readStatement_33 : decode cX2_readStatement 33 = .ok (.ireturn, 1) := by decide +kernel
theorem dX2_readStatement_34 : decode cX2_readStatement 34 = .ok (.aload_n 0, 1) := by decide +kernel
theorem dX2_readStatement_35 : decode cX2_readStatement 35 = .ok (.dup, 1) := by decide +kernel
theorem dX2_readStatement_36 : decode cX2_readStatement 36 = .ok (.getfield 19, 3) := by decide +kernel
theorem dX2_readStatement_39 : decode cX2_readStatement 39 = .ok (.iconst 1, 1) := by decide +kernel
theorem dX2_readStatement_40 : decode cX2_readStatement 40 = .ok (.iadd, 1) := by decide +kernel
theorem dX2_readStatement_41 : decode cX2_readStatement 41 = .ok (.putfield 19, 3) := by decide +kernel
theorem dX2_readStatement_44 : decode cX2_readStatement 44 = .ok (.iconst 0, 1) := by decide +kernel
theorem dX2_readStatement_45 : decode cX2_readStatement 45 = .ok (.istore_n 2, 1) := by decide +kernel
theorem dX2_readStatement_46 : decode cX2_readStatement 46 = .ok (.iload_n 2, 1) := by decide +kernel
theorem dX2_readStatement_47 : decode cX2_readStatement 47 = .ok (.aload_n 1, 1) := by decide +kernel
theorem dX2_readStatement_48 : decode cX2_readStatement 48 = .ok (.invokevirtual 70, 3) := by decide +kernel
theorem dX2_readStatement_51 : decode cX2_readStatement 51 = .ok (.if_icmp .ge 23, 3) := by decide +kernel
theorem dX2_readStatement_54 : decode cX2_readStatement 54 = .ok (.aload_n 0, 1) := by decide +kernel
theorem dX2_readStatement_55 : decode cX2_readStatement 55 = .ok (.aload_n 1, 1) := by decide +kernel
theorem dX2_readStatement_56 : decode cX2_readStatement 56 = .ok (.iload_n 2, 1) := by decide +kernel
theorem dX2_readStatement_57 : decode cX2_readStatement 57 = .ok (.invokevirtual 73, 3) := by decide +kernel
theorem dX2_readStatement_60 : decode cX2_readStatement 60 = .ok (.invokevirtual 77, 3) := by decide +kernel
theorem dX2_readStatement_63 : decode cX2_readStatement 63 = .ok (.ifCond .ne 5, 3) := by decide +kernel
theorem dX2_readStatement_66 : decode cX2_readStatement 66 = .ok (.iconst 0, 1) := by decide +kernel
theorem dX2_readStatement_67 : decode cX2_readStatement 67 = .ok (.ireturn, 1) := by decide +kernel
theorem dX2_readStatement_68 : decode cX2_readStatement 68 = .ok (.iinc 2 1, 3) := by decide +kernel
theorem dX2_readStatement_71 : decode cX2_readStatement 71 = .ok (.goto (-25), 3) := by decide +kernel
theorem dX2_readStatement_74 : decode cX2_readStatement 74 = .ok (.iconst 1, 1) := by decide +kernel
theorem dX2_readStatement_75 : decode cX2_readStatement 75 = .ok (.ireturn, 1) := by decide +kernel
theorem dX2_formOf_0 : decode cX2_formOf 0 = .ok (.iload_n 0, 1) := by decide +kernel
theorem dX2_formOf_1 : decode cX2_formOf 1 = .ok (.lookupswitch 55 #[(97, 43), (98, 46), (108, 49), (110, 52)], 43) := by decide +kernel
theorem dX2_formOf_44 : decode cX2_formOf 44 = .ok (.ldc 81, 2) := by decide +kernel
theorem dX2_formOf_46 : decode cX2_formOf 46 = .ok (.areturn, 1) := by decide +kernel
theorem dX2_formOf_47 : decode cX2_formOf 47 = .ok (.ldc 83, 2) := by decide +kernel
theorem dX2_formOf_49 : decode cX2_formOf 49 = .ok (.areturn, 1) := by decide +kernel
theorem dX2_formOf_50 : decode cX2_formOf 50 = .ok (.ldc 85, 2) := by decide +kernel
theorem dX2_formOf_52 : decode cX2_formOf 52 = .ok (.areturn, 1) := by decide +kernel
theorem dX2_formOf_53 : decode cX2_formOf 53 = .ok (.ldc 87, 2) := by decide +kernel
theorem dX2_formOf_55 : decode cX2_formOf 55 = .ok (.areturn, 1) := by decide +kernel
theorem dX2_formOf_56 : decode cX2_formOf 56 = .ok (.ldc 89, 2) := by decide +kernel
theorem dX2_formOf_58 : decode cX2_formOf 58 = .ok (.areturn, 1) := by decide +kernel
set_option maxRecDepth 20000 in
theorem ggX2_readPart_X2_readFigure : GoodIn wsX2_readPart wsX2_readFigure := goodIn_r _ [6, 1, 7, 8, 9, 10, 11, 12, 13, 14, 15, 16, 17, 18, 5, 19, 20, 21, 22, 23, 24, 25, 26, 27, 28] (by decide +kernel) (by decide +kernel)
set_option maxRecDepth 20000 in
theorem gX2_readPart_X2_readFigure : GoodIn wsX2_readPart (wsV RX2 91 RX2 yX2_readFigure wsX2_readFigure) := goodIn_app (goodIn_of _ (by decide +kernel)) ggX2_readPart_X2_readFigure
set_option maxRecDepth 20000 in
theorem ggX2_readPart_X6_toldAt : GoodIn wsX2_readPart wsX6_toldAt := goodIn_r _ [14, 15, 16, 20, 21, 22, 23, 24, 25, 26, 27, 28] (by decide +kernel) (by decide +kernel)
set_option maxRecDepth 20000 in
theorem gX2_readPart_X6_toldAt_u55X2 : GoodIn wsX2_readPart (va_wsU RX2 55 RX2 "SumOfTwoThatStand$Told" ⟨"SumOfTwoThatStand$Letters", "toldAt", "(I)I"⟩ yX6_toldAt wsX6_toldAt) := goodIn_app (goodIn_of _ (by decide +kernel)) ggX2_readPart_X6_toldAt
theorem dX2_readPart_0 : decode cX2_readPart 0 = .ok (.iload_n 1, 1) := by decide +kernel
theorem dX2_readPart_1 : decode cX2_readPart 1 = .ok (.bipush 104, 2) := by decide +kernel
theorem dX2_readPart_3 : decode cX2_readPart 3 = .ok (.if_icmp .ne 9, 3) := by decide +kernel
theorem dX2_readPart_6 : decode cX2_readPart 6 = .ok (.aload_n 0, 1) := by decide +kernel
theorem dX2_readPart_7 : decode cX2_readPart 7 = .ok (.iconst 2, 1) := by decide +kernel
theorem dX2_readPart_8 : decode cX2_readPart 8 = .ok (.invokevirtual 91, 3) := by decide +kernel
theorem dX2_readPart_11 : decode cX2_readPart 11 = .ok (.ireturn, 1) := by decide +kernel
theorem dX2_readPart_12 : decode cX2_readPart 12 = .ok (.iload_n 1, 1) := by decide +kernel
theorem dX2_readPart_13 : decode cX2_readPart 13 = .ok (.bipush 100, 2) := by decide +kernel
theorem dX2_readPart_15 : decode cX2_readPart 15 = .ok (.if_icmp .ne 9, 3) := by decide +kernel
theorem dX2_readPart_18 : decode cX2_readPart 18 = .ok (.aload_n 0, 1) := by decide +kernel
theorem dX2_readPart_19 : decode cX2_readPart 19 = .ok (.iconst 1, 1) := by decide +kernel
theorem dX2_readPart_20 : decode cX2_readPart 20 = .ok (.invokevirtual 91, 3) := by decide +kernel
theorem dX2_readPart_23 : decode cX2_readPart 23 = .ok (.ireturn, 1) := by decide +kernel
theorem dX2_readPart_24 : decode cX2_readPart 24 = .ok (.aload_n 0, 1) := by decide +kernel
theorem dX2_readPart_25 : decode cX2_readPart 25 = .ok (.aload_n 0, 1) := by decide +kernel
theorem dX2_readPart_26 : decode cX2_readPart 26 = .ok (.getfield 19, 3) := by decide +kernel
theorem dX2_readPart_29 : decode cX2_readPart 29 = .ok (.invokevirtual 55, 3) := by decide +kernel
theorem dX2_readPart_32 : decode cX2_readPart 32 = .ok (.iload_n 1, 1) := by decide +kernel
theorem dX2_readPart_33 : decode cX2_readPart 33 = .ok (.if_icmp .eq 5, 3) := by decide +kernel
theorem dX2_readPart_36 : decode cX2_readPart 36 = .ok (.iconst 0, 1) := by decide +kernel
theorem dX2_readPart_37 : decode cX2_readPart 37 = .ok (.ireturn, 1) := by decide +kernel
theorem dX2_readPart_38 : decode cX2_readPart 38 = .ok (.aload_n 0, 1) := by decide +kernel
theorem dX2_readPart_39 : decode cX2_readPart 39 = .ok (.dup, 1) := by decide +kernel
theorem dX2_readPart_40 : decode cX2_readPart 40 = .ok (.getfield 19, 3) := by decide +kernel
theorem dX2_readPart_43 : decode cX2_readPart 43 = .ok (.iconst 1, 1) := by decide +kernel
theorem dX2_readPart_44 : decode cX2_readPart 44 = .ok (.iadd, 1) := by decide +kernel
theorem dX2_readPart_45 : decode cX2_readPart 45 = .ok (.putfield 19, 3) := by decide +kernel
theorem dX2_readPart_48 : decode cX2_readPart 48 = .ok (.iconst 1, 1) := by decide +kernel
theorem dX2_readPart_49 : decode cX2_readPart 49 = .ok (.ireturn, 1) := by decide +kernel
set_option maxRecDepth 20000 in
theorem ggX2_readFigure_X6_toldAt : GoodIn wsX2_readFigure wsX6_toldAt := goodIn_r _ [9, 10, 11, 16, 17, 18, 19, 20, 21, 22, 23, 24] (by decide +kernel) (by decide +kernel)
set_option maxRecDepth 20000 in
theorem gX2_readFigure_X6_toldAt_u55X2 : GoodIn wsX2_readFigure (va_wsU RX2 55 RX2 "SumOfTwoThatStand$Told" ⟨"SumOfTwoThatStand$Letters", "toldAt", "(I)I"⟩ yX6_toldAt wsX6_toldAt) := goodIn_app (goodIn_of _ (by decide +kernel)) ggX2_readFigure_X6_toldAt
set_option maxRecDepth 20000 in
theorem ggX2_readFigure_X2_isDigit : GoodIn wsX2_readFigure wsX2_isDigit := goodIn_r _ [15] (by decide +kernel) (by decide +kernel)
set_option maxRecDepth 20000 in
theorem gX2_readFigure_X2_isDigit : GoodIn wsX2_readFigure (va_wsS RX2 95 yX2_isDigit wsX2_isDigit) := goodIn_app (goodIn_of _ (by decide +kernel)) ggX2_readFigure_X2_isDigit
theorem dX2_readFigure_0 : decode cX2_readFigure 0 = .ok (.iconst 0, 1) := by decide +kernel
theorem dX2_readFigure_1 : decode cX2_readFigure 1 = .ok (.istore_n 2, 1) := by decide +kernel
theorem dX2_readFigure_2 : decode cX2_readFigure 2 = .ok (.iconst 0, 1) := by decide +kernel
theorem dX2_readFigure_3 : decode cX2_readFigure 3 = .ok (.istore_n 3, 1) := by decide +kernel
theorem dX2_readFigure_4 : decode cX2_readFigure 4 = .ok (.iload_n 3, 1) := by decide +kernel
theorem dX2_readFigure_5 : decode cX2_readFigure 5 = .ok (.iload_n 1, 1) := by decide +kernel
theorem dX2_readFigure_6 : decode cX2_readFigure 6 = .ok (.if_icmp .ge 50, 3) := by decide +kernel
theorem dX2_readFigure_9 : decode cX2_readFigure 9 = .ok (.aload_n 0, 1) := by decide +kernel
theorem dX2_readFigure_10 : decode cX2_readFigure 10 = .ok (.aload_n 0, 1) := by decide +kernel
theorem dX2_readFigure_11 : decode cX2_readFigure 11 = .ok (.getfield 19, 3) := by decide +kernel
theorem dX2_readFigure_14 : decode cX2_readFigure 14 = .ok (.invokevirtual 55, 3) := by decide +kernel
theorem dX2_readFigure_17 : decode cX2_readFigure 17 = .ok (.invokestatic 95, 3) := by decide +kernel
theorem dX2_readFigure_20 : decode cX2_readFigure 20 = .ok (.ifCond .eq 36, 3) := by decide +kernel
theorem dX2_readFigure_23 : decode cX2_readFigure 23 = .ok (.iload_n 2, 1) := by decide +kernel
theorem dX2_readFigure_24 : decode cX2_readFigure 24 = .ok (.bipush 10, 2) := by decide +kernel
theorem dX2_readFigure_26 : decode cX2_readFigure 26 = .ok (.imul, 1) := by decide +kernel
theorem dX2_readFigure_27 : decode cX2_readFigure 27 = .ok (.aload_n 0, 1) := by decide +kernel
theorem dX2_readFigure_28 : decode cX2_readFigure 28 = .ok (.aload_n 0, 1) := by decide +kernel
theorem dX2_readFigure_29 : decode cX2_readFigure 29 = .ok (.getfield 19, 3) := by decide +kernel
theorem dX2_readFigure_32 : decode cX2_readFigure 32 = .ok (.invokevirtual 55, 3) := by decide +kernel
theorem dX2_readFigure_35 : decode cX2_readFigure 35 = .ok (.iadd, 1) := by decide +kernel
theorem dX2_readFigure_36 : decode cX2_readFigure 36 = .ok (.bipush 48, 2) := by decide +kernel
theorem dX2_readFigure_38 : decode cX2_readFigure 38 = .ok (.isub, 1) := by decide +kernel
theorem dX2_readFigure_39 : decode cX2_readFigure 39 = .ok (.istore_n 2, 1) := by decide +kernel
theorem dX2_readFigure_40 : decode cX2_readFigure 40 = .ok (.aload_n 0, 1) := by decide +kernel
theorem dX2_readFigure_41 : decode cX2_readFigure 41 = .ok (.dup, 1) := by decide +kernel
theorem dX2_readFigure_42 : decode cX2_readFigure 42 = .ok (.getfield 19, 3) := by decide +kernel
theorem dX2_readFigure_45 : decode cX2_readFigure 45 = .ok (.iconst 1, 1) := by decide +kernel
theorem dX2_readFigure_46 : decode cX2_readFigure 46 = .ok (.iadd, 1) := by decide +kernel
theorem dX2_readFigure_47 : decode cX2_readFigure 47 = .ok (.putfield 19, 3) := by decide +kernel
theorem dX2_readFigure_50 : decode cX2_readFigure 50 = .ok (.iinc 3 1, 3) := by decide +kernel
theorem dX2_readFigure_53 : decode cX2_readFigure 53 = .ok (.goto (-49), 3) := by decide +kernel
theorem dX2_readFigure_56 : decode cX2_readFigure 56 = .ok (.aload_n 0, 1) := by decide +kernel
theorem dX2_readFigure_57 : decode cX2_readFigure 57 = .ok (.getfield 58, 3) := by decide +kernel
theorem dX2_readFigure_60 : decode cX2_readFigure 60 = .ok (.aload_n 0, 1) := by decide +kernel
theorem dX2_readFigure_61 : decode cX2_readFigure 61 = .ok (.getfield 9, 3) := by decide +kernel
theorem dX2_readFigure_64 : decode cX2_readFigure 64 = .ok (.arraylength, 1) := by decide +kernel
theorem dX2_readFigure_65 : decode cX2_readFigure 65 = .ok (.if_icmp .ge 23, 3) := by decide +kernel
theorem dX2_readFigure_68 : decode cX2_readFigure 68 = .ok (.aload_n 0, 1) := by decide +kernel
theorem dX2_readFigure_69 : decode cX2_readFigure 69 = .ok (.getfield 9, 3) := by decide +kernel
theorem dX2_readFigure_72 : decode cX2_readFigure 72 = .ok (.aload_n 0, 1) := by decide +kernel
theorem dX2_readFigure_73 : decode cX2_readFigure 73 = .ok (.getfield 58, 3) := by decide +kernel
theorem dX2_readFigure_76 : decode cX2_readFigure 76 = .ok (.iload_n 2, 1) := by decide +kernel
theorem dX2_readFigure_77 : decode cX2_readFigure 77 = .ok (.iastore, 1) := by decide +kernel
theorem dX2_readFigure_78 : decode cX2_readFigure 78 = .ok (.aload_n 0, 1) := by decide +kernel
theorem dX2_readFigure_79 : decode cX2_readFigure 79 = .ok (.dup, 1) := by decide +kernel
theorem dX2_readFigure_80 : decode cX2_readFigure 80 = .ok (.getfield 58, 3) := by decide +kernel
theorem dX2_readFigure_83 : decode cX2_readFigure 83 = .ok (.iconst 1, 1) := by decide +kernel
theorem dX2_readFigure_84 : decode cX2_readFigure 84 = .ok (.iadd, 1) := by decide +kernel
theorem dX2_readFigure_85 : decode cX2_readFigure 85 = .ok (.putfield 58, 3) := by decide +kernel
theorem dX2_readFigure_88 : decode cX2_readFigure 88 = .ok (.iload_n 3, 1) := by decide +kernel
theorem dX2_readFigure_89 : decode cX2_readFigure 89 = .ok (.ifCond .le 7, 3) := by decide +kernel
theorem dX2_readFigure_92 : decode cX2_readFigure 92 = .ok (.iconst 1, 1) := by decide +kernel
theorem dX2_readFigure_93 : decode cX2_readFigure 93 = .ok (.goto 4, 3) := by decide +kernel
theorem dX2_readFigure_96 : decode cX2_readFigure 96 = .ok (.iconst 0, 1) := by decide +kernel
theorem dX2_readFigure_97 : decode cX2_readFigure 97 = .ok (.ireturn, 1) := by decide +kernel
theorem dX2_isDigit_0 : decode cX2_isDigit 0 = .ok (.iload_n 0, 1) := by decide +kernel
theorem dX2_isDigit_1 : decode cX2_isDigit 1 = .ok (.bipush 48, 2) := by decide +kernel
theorem dX2_isDigit_3 : decode cX2_isDigit 3 = .ok (.if_icmp .lt 13, 3) := by decide +kernel
theorem dX2_isDigit_6 : decode cX2_isDigit 6 = .ok (.iload_n 0, 1) := by decide +kernel
theorem dX2_isDigit_7 : decode cX2_isDigit 7 = .ok (.bipush 57, 2) := by decide +kernel
theorem dX2_isDigit_9 : decode cX2_isDigit 9 = .ok (.if_icmp .gt 7, 3) := by decide +kernel
theorem dX2_isDigit_12 : decode cX2_isDigit 12 = .ok (.iconst 1, 1) := by decide +kernel
theorem dX2_isDigit_13 : decode cX2_isDigit 13 = .ok (.goto 4, 3) := by decide +kernel
theorem dX2_isDigit_16 : decode cX2_isDigit 16 = .ok (.iconst 0, 1) := by decide +kernel
theorem dX2_isDigit_17 : decode cX2_isDigit 17 = .ok (.ireturn, 1) := by decide +kernel
theorem dX3_init_0 : decode cX3_init 0 = .ok (.aload_n 0, 1) := by decide +kernel
theorem dX3_init_1 : decode cX3_init 1 = .ok (.invokespecial 3, 3) := by decide +kernel
theorem dX3_init_4 : decode cX3_init 4 = .ok (.aload_n 0, 1) := by decide +kernel
theorem dX3_init_5 : decode cX3_init 5 = .ok (.sipush 4096, 3) := by decide +kernel
theorem dX3_init_8 : decode cX3_init 8 = .ok (.newarray .int, 2) := by decide +kernel
theorem dX3_init_10 : decode cX3_init 10 = .ok (.putfield 9, 3) := by decide +kernel
theorem dX3_init_13 : decode cX3_init 13 = .ok (.return_, 1) := by decide +kernel
set_option maxRecDepth 20000 in
theorem ggX3_of_X5_standingBits : GoodIn wsX3_of wsX5_standingBits := goodIn_r _ [6, 7, 36, 37, 38, 39, 40, 41, 42, 43, 44, 45, 46] (by decide +kernel) (by decide +kernel)
set_option maxRecDepth 20000 in
theorem gX3_of_X5_standingBits : GoodIn wsX3_of (wsV RX3 15 RX5 yX5_standingBits wsX5_standingBits) := goodIn_app (goodIn_of _ (by decide +kernel)) ggX3_of_X5_standingBits
set_option maxRecDepth 20000 in
theorem ggX3_of_X3_letNextCome : GoodIn wsX3_of wsX3_letNextCome := goodIn_r _ [12, 1, 13, 14, 15, 5, 16, 17, 18, 19, 20, 21, 22, 23, 24, 25, 26, 27, 28, 29, 30, 31, 7, 32, 33, 34, 35, 36, 37, 38, 39, 40, 41, 42, 43, 44, 45, 46] (by decide +kernel) (by decide +kernel)
set_option maxRecDepth 20000 in
theorem gX3_of_X3_letNextCome : GoodIn wsX3_of (wsV RX3 21 RX3 yX3_letNextCome wsX3_letNextCome) := goodIn_app (goodIn_of _ (by decide +kernel)) ggX3_of_X3_letNextCome
theorem dX3_of_0 : decode cX3_of 0 = .ok (.aload_n 1, 1) := by decide +kernel
theorem dX3_of_1 : decode cX3_of 1 = .ok (.invokevirtual 15, 3) := by decide +kernel
theorem dX3_of_4 : decode cX3_of 4 = .ok (.aload_n 0, 1) := by decide +kernel
theorem dX3_of_5 : decode cX3_of 5 = .ok (.getfield 9, 3) := by decide +kernel
theorem dX3_of_8 : decode cX3_of 8 = .ok (.arraylength, 1) := by decide +kernel
theorem dX3_of_9 : decode cX3_of 9 = .ok (.iconst 1, 1) := by decide +kernel
theorem dX3_of_10 : decode cX3_of 10 = .ok (.isub, 1) := by decide +kernel
theorem dX3_of_11 : decode cX3_of 11 = .ok (.iand, 1) := by decide +kernel
theorem dX3_of_12 : decode cX3_of 12 = .ok (.istore_n 2, 1) := by decide +kernel
theorem dX3_of_13 : decode cX3_of 13 = .ok (.iconst 0, 1) := by decide +kernel
theorem dX3_of_14 : decode cX3_of 14 = .ok (.istore_n 3, 1) := by decide +kernel
theorem dX3_of_15 : decode cX3_of 15 = .ok (.iload_n 3, 1) := by decide +kernel
theorem dX3_of_16 : decode cX3_of 16 = .ok (.iload_n 2, 1) := by decide +kernel
theorem dX3_of_17 : decode cX3_of 17 = .ok (.if_icmp .gt 16, 3) := by decide +kernel
theorem dX3_of_20 : decode cX3_of 20 = .ok (.aload_n 0, 1) := by decide +kernel
theorem dX3_of_21 : decode cX3_of 21 = .ok (.getfield 9, 3) := by decide +kernel
theorem dX3_of_24 : decode cX3_of 24 = .ok (.iload_n 3, 1) := by decide +kernel
theorem dX3_of_25 : decode cX3_of 25 = .ok (.iconst 0, 1) := by decide +kernel
theorem dX3_of_26 : decode cX3_of 26 = .ok (.iastore, 1) := by decide +kernel
theorem dX3_of_27 : decode cX3_of 27 = .ok (.iinc 3 1, 3) := by decide +kernel
theorem dX3_of_30 : decode cX3_of 30 = .ok (.goto (-15), 3) := by decide +kernel
theorem dX3_of_33 : decode cX3_of 33 = .ok (.aload_n 0, 1) := by decide +kernel
theorem dX3_of_34 : decode cX3_of 34 = .ok (.getfield 9, 3) := by decide +kernel
theorem dX3_of_37 : decode cX3_of 37 = .ok (.iconst 0, 1) := by decide +kernel
theorem dX3_of_38 : decode cX3_of 38 = .ok (.iconst 1, 1) := by decide +kernel
theorem dX3_of_39 : decode cX3_of 39 = .ok (.iastore, 1) := by decide +kernel
theorem dX3_of_40 : decode cX3_of 40 = .ok (.iconst 0, 1) := by decide +kernel
theorem dX3_of_41 : decode cX3_of 41 = .ok (.istore_n 3, 1) := by decide +kernel
theorem dX3_of_42 : decode cX3_of 42 = .ok (.iload_n 3, 1) := by decide +kernel
theorem dX3_of_43 : decode cX3_of 43 = .ok (.iload_n 2, 1) := by decide +kernel
theorem dX3_of_44 : decode cX3_of 44 = .ok (.if_icmp .ge 25, 3) := by decide +kernel
theorem dX3_of_47 : decode cX3_of 47 = .ok (.aload_n 0, 1) := by decide +kernel
theorem dX3_of_48 : decode cX3_of 48 = .ok (.getfield 9, 3) := by decide +kernel
theorem dX3_of_51 : decode cX3_of 51 = .ok (.iload_n 3, 1) := by decide +kernel
theorem dX3_of_52 : decode cX3_of 52 = .ok (.iaload, 1) := by decide +kernel
theorem dX3_of_53 : decode cX3_of 53 = .ok (.ifCond .le 10, 3) := by decide +kernel
theorem dX3_of_56 : decode cX3_of 56 = .ok (.aload_n 0, 1) := by decide +kernel
theorem dX3_of_57 : decode cX3_of 57 = .ok (.aload_n 1, 1) := by decide +kernel
theorem dX3_of_58 : decode cX3_of 58 = .ok (.iload_n 3, 1) := by decide +kernel
theorem dX3_of_59 : decode cX3_of 59 = .ok (.iload_n 2, 1) := by decide +kernel
theorem dX3_of_60 : decode cX3_of 60 = .ok (.invokevirtual 21, 3) := by decide +kernel
theorem dX3_of_63 : decode cX3_of 63 = .ok (.iinc 3 1, 3) := by decide +kernel
theorem dX3_of_66 : decode cX3_of 66 = .ok (.goto (-24), 3) := by decide +kernel
theorem dX3_of_69 : decode cX3_of 69 = .ok (.aload_n 0, 1) := by decide +kernel
theorem dX3_of_70 : decode cX3_of 70 = .ok (.getfield 9, 3) := by decide +kernel
theorem dX3_of_73 : decode cX3_of 73 = .ok (.iload_n 2, 1) := by decide +kernel
theorem dX3_of_74 : decode cX3_of 74 = .ok (.iaload, 1) := by decide +kernel
theorem dX3_of_75 : decode cX3_of 75 = .ok (.ireturn, 1) := by decide +kernel
set_option maxRecDepth 20000 in
theorem ggX3_letNextCome_X5_aheadOf : GoodIn wsX3_letNextCome wsX5_aheadOf := goodIn_r _ [6, 7, 8, 9, 10, 11, 5, 12, 13, 14, 15, 16, 17, 18, 19, 20, 21, 22, 23, 24, 25, 27, 28, 29, 30, 31, 32, 33, 34, 35, 36, 37] (by decide +kernel) (by decide +kernel)
set_option maxRecDepth 20000 in
theorem gX3_letNextCome_X5_aheadOf : GoodIn wsX3_letNextCome (wsV RX3 25 RX5 yX5_aheadOf wsX5_aheadOf) := goodIn_app (goodIn_of _ (by decide +kernel)) ggX3_letNextCome_X5_aheadOf
theorem dX3_letNextCome_0 : decode cX3_letNextCome 0 = .ok (.iload_n 3, 1) := by decide +kernel
theorem dX3_letNextCome_1 : decode cX3_letNextCome 1 = .ok (.iload_n 2, 1) := by decide +kernel
theorem dX3_letNextCome_2 : decode cX3_letNextCome 2 = .ok (.iconst (-1), 1) := by decide +kernel
theorem dX3_letNextCome_3 : decode cX3_letNextCome 3 = .ok (.ixor, 1) := by decide +kernel
theorem dX3_letNextCome_4 : decode cX3_letNextCome 4 = .ok (.iand, 1) := by decide +kernel
theorem dX3_letNextCome_5 : decode cX3_letNextCome 5 = .ok (.istore 4, 2) := by decide +kernel
theorem dX3_letNextCome_7 : decode cX3_letNextCome 7 = .ok (.iconst 0, 1) := by decide +kernel
theorem dX3_letNextCome_8 : decode cX3_letNextCome 8 = .ok (.istore 5, 2) := by decide +kernel
theorem dX3_letNextCome_10 : decode cX3_letNextCome 10 = .ok (.iload 5, 2) := by decide +kernel
theorem dX3_letNextCome_12 : decode cX3_letNextCome 12 = .ok (.bipush 12, 2) := by decide +kernel
theorem dX3_letNextCome_14 : decode cX3_letNextCome 14 = .ok (.if_icmp .ge 79, 3) := by decide +kernel
theorem dX3_letNextCome_17 : decode cX3_letNextCome 17 = .ok (.iload 4, 2) := by decide +kernel
theorem dX3_letNextCome_19 : decode cX3_letNextCome 19 = .ok (.iload 5, 2) := by decide +kernel
theorem dX3_letNextCome_21 : decode cX3_letNextCome 21 = .ok (.ishr, 1) := by decide +kernel
theorem dX3_letNextCome_22 : decode cX3_letNextCome 22 = .ok (.iconst 1, 1) := by decide +kernel
theorem dX3_letNextCome_23 : decode cX3_letNextCome 23 = .ok (.iand, 1) := by decide +kernel
theorem dX3_letNextCome_24 : decode cX3_letNextCome 24 = .ok (.iconst 1, 1) := by decide +kernel
theorem dX3_letNextCome_25 : decode cX3_letNextCome 25 = .ok (.if_icmp .ne 20, 3) := by decide +kernel
theorem dX3_letNextCome_28 : decode cX3_letNextCome 28 = .ok (.aload_n 1, 1) := by decide +kernel
theorem dX3_letNextCome_29 : decode cX3_letNextCome 29 = .ok (.iload 5, 2) := by decide +kernel
theorem dX3_letNextCome_31 : decode cX3_letNextCome 31 = .ok (.invokevirtual 25, 3) := by decide +kernel
theorem dX3_letNextCome_34 : decode cX3_letNextCome 34 = .ok (.iload_n 2, 1) := by decide +kernel
theorem dX3_letNextCome_35 : decode cX3_letNextCome 35 = .ok (.iconst (-1), 1) := by decide +kernel
theorem dX3_letNextCome_36 : decode cX3_letNextCome 36 = .ok (.ixor, 1) := by decide +kernel
theorem dX3_letNextCome_37 : decode cX3_letNextCome 37 = .ok (.iand, 1) := by decide +kernel
theorem dX3_letNextCome_38 : decode cX3_letNextCome 38 = .ok (.ifCond .ne 7, 3) := by decide +kernel
theorem dX3_letNextCome_41 : decode cX3_letNextCome 41 = .ok (.iconst 1, 1) := by decide +kernel
theorem dX3_letNextCome_42 : decode cX3_letNextCome 42 = .ok (.goto 4, 3) := by decide +kernel
theorem dX3_letNextCome_45 : decode cX3_letNextCome 45 = .ok (.iconst 0, 1) := by decide +kernel
theorem dX3_letNextCome_46 : decode cX3_letNextCome 46 = .ok (.istore 6, 2) := by decide +kernel
theorem dX3_letNextCome_48 : decode cX3_letNextCome 48 = .ok (.iload_n 2, 1) := by decide +kernel
theorem dX3_letNextCome_49 : decode cX3_letNextCome 49 = .ok (.iconst 1, 1) := by decide +kernel
theorem dX3_letNextCome_50 : decode cX3_letNextCome 50 = .ok (.iload 5, 2) := by decide +kernel
theorem dX3_letNextCome_52 : decode cX3_letNextCome 52 = .ok (.ishl, 1) := by decide +kernel
theorem dX3_letNextCome_53 : decode cX3_letNextCome 53 = .ok (.ior, 1) := by decide +kernel
theorem dX3_letNextCome_54 : decode cX3_letNextCome 54 = .ok (.istore 7, 2) := by decide +kernel
theorem dX3_letNextCome_56 : decode cX3_letNextCome 56 = .ok (.iload 6, 2) := by decide +kernel
theorem dX3_letNextCome_58 : decode cX3_letNextCome 58 = .ok (.ifCond .eq 29, 3) := by decide +kernel
theorem dX3_letNextCome_61 : decode cX3_letNextCome 61 = .ok (.iload 7, 2) := by decide +kernel
theorem dX3_letNextCome_63 : decode cX3_letNextCome 63 = .ok (.aload_n 0, 1) := by decide +kernel
theorem dX3_letNextCome_64 : decode cX3_letNextCome 64 = .ok (.getfield 9, 3) := by decide +kernel
theorem dX3_letNextCome_67 : decode cX3_letNextCome 67 = .ok (.arraylength, 1) := by decide +kernel
theorem dX3_letNextCome_68 : decode cX3_letNextCome 68 = .ok (.if_icmp .ge 19, 3) := by decide +kernel
theorem dX3_letNextCome_71 : decode cX3_letNextCome 71 = .ok (.aload_n 0, 1) := by decide +kernel
theorem dX3_letNextCome_72 : decode cX3_letNextCome 72 = .ok (.getfield 9, 3) := by decide +kernel
theorem dX3_letNextCome_75 : decode cX3_letNextCome 75 = .ok (.iload 7, 2) := by decide +kernel
theorem dX3_letNextCome_77 : decode cX3_letNextCome 77 = .ok (.dup2, 1) := by decide +kernel
theorem dX3_letNextCome_78 : decode cX3_letNextCome 78 = .ok (.iaload, 1) := by decide +kernel
theorem dX3_letNextCome_79 : decode cX3_letNextCome 79 = .ok (.aload_n 0, 1) := by decide +kernel
theorem dX3_letNextCome_80 : decode cX3_letNextCome 80 = .ok (.getfield 9, 3) := by decide +kernel
theorem dX3_letNextCome_83 : decode cX3_letNextCome 83 = .ok (.iload_n 2, 1) := by decide +kernel
theorem dX3_letNextCome_84 : decode cX3_letNextCome 84 = .ok (.iaload, 1) := by decide +kernel
theorem dX3_letNextCome_85 : decode cX3_letNextCome 85 = .ok (.iadd, 1) := by decide +kernel
theorem dX3_letNextCome_86 : decode cX3_letNextCome 86 = .ok (.iastore, 1) := by decide +kernel
theorem dX3_letNextCome_87 : decode cX3_letNextCome 87 = .ok (.iinc 5 1, 3) := by decide +kernel
theorem dX3_letNextCome_90 : decode cX3_letNextCome 90 = .ok (.goto (-80), 3) := by decide +kernel
theorem dX3_letNextCome_93 : decode cX3_letNextCome 93 = .ok (.return_, 1) := by decide +kernel
set_option maxRecDepth 20000 in
theorem ggX4_init_X6_init : GoodIn wsX4_init wsX6_init := goodIn_r _ [4, 5, 6, 7, 8, 9, 10, 11, 12, 13, 14, 15, 16, 17, 18, 19, 20, 21, 22] (by decide +kernel) (by decide +kernel)
set_option maxRecDepth 20000 in
theorem gX4_init_X6_init : GoodIn wsX4_init (wsX6_init) := ggX4_init_X6_init
theorem dX4_init_0 : decode cX4_init 0 = .ok (.aload_n 0, 1) := by decide +kernel
theorem dX4_init_1 : decode cX4_init 1 = .ok (.bipush 12, 2) := by decide +kernel
theorem dX4_init_3 : decode cX4_init 3 = .ok (.invokespecial 3, 3) := by decide +kernel
theorem dX4_init_6 : decode cX4_init 6 = .ok (.return_, 1) := by decide +kernel
set_option maxRecDepth 20000 in
theorem ggX4_firstWrong_X6_howMany : GoodIn wsX4_firstWrong wsX6_howMany := goodIn_r _ [6, 7, 23, 24, 25, 26, 27, 28, 29, 30, 31] (by decide +kernel) (by decide +kernel)
set_option maxRecDepth 20000 in
theorem gX4_firstWrong_X6_howMany_u9X4 : GoodIn wsX4_firstWrong (va_wsU RX4 9 RX4 "SumOfTwoThatStand$Told" ⟨"SumOfTwoThatStand$Row", "howMany", "()I"⟩ yX6_howMany wsX6_howMany) := goodIn_app (goodIn_of _ (by decide +kernel)) ggX4_firstWrong_X6_howMany
set_option maxRecDepth 20000 in
theorem ggX4_firstWrong_X6_toldAt : GoodIn wsX4_firstWrong wsX6_toldAt := goodIn_r _ [12, 7, 13, 23, 24, 25, 26, 27, 28, 29, 30, 31] (by decide +kernel) (by decide +kernel)
set_option maxRecDepth 20000 in
theorem gX4_firstWrong_X6_toldAt_u15X4 : GoodIn wsX4_firstWrong (va_wsU RX4 15 RX4 "SumOfTwoThatStand$Told" ⟨"SumOfTwoThatStand$Row", "toldAt", "(I)I"⟩ yX6_toldAt wsX6_toldAt) := goodIn_app (goodIn_of _ (by decide +kernel)) ggX4_firstWrong_X6_toldAt
set_option maxRecDepth 20000 in
theorem ggX4_firstWrong_X4_isNew : GoodIn wsX4_firstWrong wsX4_isNew := goodIn_r _ [18, 8, 9, 10, 11, 5, 12, 7, 13, 23, 24, 25, 26, 27, 28, 29, 30, 31] (by decide +kernel) (by decide +kernel)
set_option maxRecDepth 20000 in
theorem gX4_firstWrong_X4_isNew : GoodIn wsX4_firstWrong (wsV RX4 19 RX4 yX4_isNew wsX4_isNew) := goodIn_app (goodIn_of _ (by decide +kernel)) ggX4_firstWrong_X4_isNew
set_option maxRecDepth 20000 in
theorem ggX4_firstWrong_X4_isSum : GoodIn wsX4_firstWrong wsX4_isSum := goodIn_r _ [22, 8, 9, 10, 11, 5, 12, 7, 13, 23, 24, 25, 26, 27, 28, 29, 30, 31] (by decide +kernel) (by decide +kernel)
set_option maxRecDepth 20000 in
theorem gX4_firstWrong_X4_isSum : GoodIn wsX4_firstWrong (wsV RX4 23 RX4 yX4_isSum wsX4_isSum) := goodIn_app (goodIn_of _ (by decide +kernel)) ggX4_firstWrong_X4_isSum
theorem dX4_firstWrong_0 : decode cX4_firstWrong 0 = .ok (.iconst 0, 1) := by decide +kernel
theorem dX4_firstWrong_1 : decode cX4_firstWrong 1 = .ok (.istore_n 1, 1) := by decide +kernel
theorem dX4_firstWrong_2 : decode cX4_firstWrong 2 = .ok (.iload_n 1, 1) := by decide +kernel
theorem dX4_firstWrong_3 : decode cX4_firstWrong 3 = .ok (.aload_n 0, 1) := by decide +kernel
theorem dX4_firstWrong_4 : decode cX4_firstWrong 4 = .ok (.invokevirtual 9, 3) := by decide +kernel
theorem dX4_firstWrong_7 : decode cX4_firstWrong 7 = .ok (.if_icmp .ge 58, 3) := by decide +kernel
theorem dX4_firstWrong_10 : decode cX4_firstWrong 10 = .ok (.iload_n 1, 1) := by decide +kernel
theorem dX4_firstWrong_11 : decode cX4_firstWrong 11 = .ok (.ifCond .ne 20, 3) := by decide +kernel
theorem dX4_firstWrong_14 : decode cX4_firstWrong 14 = .ok (.aload_n 0, 1) := by decide +kernel
theorem dX4_firstWrong_15 : decode cX4_firstWrong 15 = .ok (.iconst 0, 1) := by decide +kernel
theorem dX4_firstWrong_16 : decode cX4_firstWrong 16 = .ok (.invokevirtual 15, 3) := by decide +kernel
theorem dX4_firstWrong_19 : decode cX4_firstWrong 19 = .ok (.iconst 1, 1) := by decide +kernel
theorem dX4_firstWrong_20 : decode cX4_firstWrong 20 = .ok (.if_icmp .ne 7, 3) := by decide +kernel
theorem dX4_firstWrong_23 : decode cX4_firstWrong 23 = .ok (.iconst 1, 1) := by decide +kernel
theorem dX4_firstWrong_24 : decode cX4_firstWrong 24 = .ok (.goto 28, 3) := by decide +kernel
theorem dX4_firstWrong_27 : decode cX4_firstWrong 27 = .ok (.iconst 0, 1) := by decide +kernel
theorem dX4_firstWrong_28 : decode cX4_firstWrong 28 = .ok (.goto 24, 3) := by decide +kernel
theorem dX4_firstWrong_31 : decode cX4_firstWrong 31 = .ok (.aload_n 0, 1) := by decide +kernel
theorem dX4_firstWrong_32 : decode cX4_firstWrong 32 = .ok (.iload_n 1, 1) := by decide +kernel
theorem dX4_firstWrong_33 : decode cX4_firstWrong 33 = .ok (.invokevirtual 19, 3) := by decide +kernel
theorem dX4_firstWrong_36 : decode cX4_firstWrong 36 = .ok (.ifCond .eq 15, 3) := by decide +kernel
theorem dX4_firstWrong_39 : decode cX4_firstWrong 39 = .ok (.aload_n 0, 1) := by decide +kernel
theorem dX4_firstWrong_40 : decode cX4_firstWrong 40 = .ok (.iload_n 1, 1) := by decide +kernel
theorem dX4_firstWrong_41 : decode cX4_firstWrong 41 = .ok (.invokevirtual 23, 3) := by decide +kernel
theorem dX4_firstWrong_44 : decode cX4_firstWrong 44 = .ok (.ifCond .eq 7, 3) := by decide +kernel
theorem dX4_firstWrong_47 : decode cX4_firstWrong 47 = .ok (.iconst 1, 1) := by decide +kernel
theorem dX4_firstWrong_48 : decode cX4_firstWrong 48 = .ok (.goto 4, 3) := by decide +kernel
theorem dX4_firstWrong_51 : decode cX4_firstWrong 51 = .ok (.iconst 0, 1) := by decide +kernel
theorem dX4_firstWrong_52 : decode cX4_firstWrong 52 = .ok (.istore_n 2, 1) := by decide +kernel
theorem dX4_firstWrong_53 : decode cX4_firstWrong 53 = .ok (.iload_n 2, 1) := by decide +kernel
theorem dX4_firstWrong_54 : decode cX4_firstWrong 54 = .ok (.ifCond .ne 5, 3) := by decide +kernel
theorem dX4_firstWrong_57 : decode cX4_firstWrong 57 = .ok (.iload_n 1, 1) := by decide +kernel
theorem dX4_firstWrong_58 : decode cX4_firstWrong 58 = .ok (.ireturn, 1) := by decide +kernel
theorem dX4_firstWrong_59 : decode cX4_firstWrong 59 = .ok (.iinc 1 1, 3) := by decide +kernel
theorem dX4_firstWrong_62 : decode cX4_firstWrong 62 = .ok (.goto (-60), 3) := by decide +kernel
theorem dX4_firstWrong_65 : decode cX4_firstWrong 65 = .ok (.bipush (-9), 2) := by decide +kernel
theorem dX4_firstWrong_67 : decode cX4_firstWrong 67 = .ok (.ireturn, 1) := by decide +kernel
set_option maxRecDepth 20000 in
theorem ggX4_isNew_X6_toldAt : GoodIn wsX4_isNew wsX6_toldAt := goodIn_r _ [6, 7, 8, 9, 10, 11, 12, 13, 14, 15, 16, 17] (by decide +kernel) (by decide +kernel)
set_option maxRecDepth 20000 in
theorem gX4_isNew_X6_toldAt_u15X4 : GoodIn wsX4_isNew (va_wsU RX4 15 RX4 "SumOfTwoThatStand$Told" ⟨"SumOfTwoThatStand$Row", "toldAt", "(I)I"⟩ yX6_toldAt wsX6_toldAt) := goodIn_app (goodIn_of _ (by decide +kernel)) ggX4_isNew_X6_toldAt
theorem dX4_isNew_0 : decode cX4_isNew 0 = .ok (.iconst 0, 1) := by decide +kernel
theorem dX4_isNew_1 : decode cX4_isNew 1 = .ok (.istore_n 2, 1) := by decide +kernel
theorem dX4_isNew_2 : decode cX4_isNew 2 = .ok (.iload_n 2, 1) := by decide +kernel
theorem dX4_isNew_3 : decode cX4_isNew 3 = .ok (.iload_n 1, 1) := by decide +kernel
theorem dX4_isNew_4 : decode cX4_isNew 4 = .ok (.if_icmp .ge 24, 3) := by decide +kernel
theorem dX4_isNew_7 : decode cX4_isNew 7 = .ok (.aload_n 0, 1) := by decide +kernel
theorem dX4_isNew_8 : decode cX4_isNew 8 = .ok (.iload_n 2, 1) := by decide +kernel
theorem dX4_isNew_9 : decode cX4_isNew 9 = .ok (.invokevirtual 15, 3) := by decide +kernel
theorem dX4_isNew_12 : decode cX4_isNew 12 = .ok (.aload_n 0, 1) := by decide +kernel
theorem dX4_isNew_13 : decode cX4_isNew 13 = .ok (.iload_n 1, 1) := by decide +kernel
theorem dX4_isNew_14 : decode cX4_isNew 14 = .ok (.invokevirtual 15, 3) := by decide +kernel
theorem dX4_isNew_17 : decode cX4_isNew 17 = .ok (.if_icmp .ne 5, 3) := by decide +kernel
theorem dX4_isNew_20 : decode cX4_isNew 20 = .ok (.iconst 0, 1) := by decide +kernel
theorem dX4_isNew_21 : decode cX4_isNew 21 = .ok (.ireturn, 1) := by decide +kernel
theorem dX4_isNew_22 : decode cX4_isNew 22 = .ok (.iinc 2 1, 3) := by decide +kernel
theorem dX4_isNew_25 : decode cX4_isNew 25 = .ok (.goto (-23), 3) := by decide +kernel
theorem dX4_isNew_28 : decode cX4_isNew 28 = .ok (.iconst 1, 1) := by decide +kernel
theorem dX4_isNew_29 : decode cX4_isNew 29 = .ok (.ireturn, 1) := by decide +kernel
set_option maxRecDepth 20000 in
theorem ggX4_isSum_X6_toldAt : GoodIn wsX4_isSum wsX6_toldAt := goodIn_r _ [6, 7, 8, 9, 10, 11, 12, 13, 14, 15, 16, 17] (by decide +kernel) (by decide +kernel)
set_option maxRecDepth 20000 in
theorem gX4_isSum_X6_toldAt_u15X4 : GoodIn wsX4_isSum (va_wsU RX4 15 RX4 "SumOfTwoThatStand$Told" ⟨"SumOfTwoThatStand$Row", "toldAt", "(I)I"⟩ yX6_toldAt wsX6_toldAt) := goodIn_app (goodIn_of _ (by decide +kernel)) ggX4_isSum_X6_toldAt
theorem dX4_isSum_0 : decode cX4_isSum 0 = .ok (.iconst 0, 1) := by decide +kernel
theorem dX4_isSum_1 : decode cX4_isSum 1 = .ok (.istore_n 2, 1) := by decide +kernel
theorem dX4_isSum_2 : decode cX4_isSum 2 = .ok (.iload_n 2, 1) := by decide +kernel
theorem dX4_isSum_3 : decode cX4_isSum 3 = .ok (.iload_n 1, 1) := by decide +kernel
theorem dX4_isSum_4 : decode cX4_isSum 4 = .ok (.if_icmp .ge 43, 3) := by decide +kernel
theorem dX4_isSum_7 : decode cX4_isSum 7 = .ok (.iload_n 2, 1) := by decide +kernel
theorem dX4_isSum_8 : decode cX4_isSum 8 = .ok (.istore_n 3, 1) := by decide +kernel
theorem dX4_isSum_9 : decode cX4_isSum 9 = .ok (.iload_n 3, 1) := by decide +kernel
theorem dX4_isSum_10 : decode cX4_isSum 10 = .ok (.iload_n 1, 1) := by decide +kernel
theorem dX4_isSum_11 : decode cX4_isSum 11 = .ok (.if_icmp .ge 30, 3) := by decide +kernel
theorem dX4_isSum_14 : decode cX4_isSum 14 = .ok (.aload_n 0, 1) := by decide +kernel
theorem dX4_isSum_15 : decode cX4_isSum 15 = .ok (.iload_n 2, 1) := by decide +kernel
theorem dX4_isSum_16 : decode cX4_isSum 16 = .ok (.invokevirtual 15, 3) := by decide +kernel
theorem dX4_isSum_19 : decode cX4_isSum 19 = .ok (.aload_n 0, 1) := by decide +kernel
theorem dX4_isSum_20 : decode cX4_isSum 20 = .ok (.iload_n 3, 1) := by decide +kernel
theorem dX4_isSum_21 : decode cX4_isSum 21 = .ok (.invokevirtual 15, 3) := by decide +kernel
theorem dX4_isSum_24 : decode cX4_isSum 24 = .ok (.iadd, 1) := by decide +kernel
theorem dX4_isSum_25 : decode cX4_isSum 25 = .ok (.aload_n 0, 1) := by decide +kernel
theorem dX4_isSum_26 : decode cX4_isSum 26 = .ok (.iload_n 1, 1) := by decide +kernel
theorem dX4_isSum_27 : decode cX4_isSum 27 = .ok (.invokevirtual 15, 3) := by decide +kernel
theorem dX4_isSum_30 : decode cX4_isSum 30 = .ok (.if_icmp .ne 5, 3) := by decide +kernel
theorem dX4_isSum_33 : decode cX4_isSum 33 = .ok (.iconst 1, 1) := by decide +kernel
theorem dX4_isSum_34 : decode cX4_isSum 34 = .ok (.ireturn, 1) := by decide +kernel
theorem dX4_isSum_35 : decode cX4_isSum 35 = .ok (.iinc 3 1, 3) := by decide +kernel
theorem dX4_isSum_38 : decode cX4_isSum 38 = .ok (.goto (-29), 3) := by decide +kernel
theorem dX4_isSum_41 : decode cX4_isSum 41 = .ok (.iinc 2 1, 3) := by decide +kernel
theorem dX4_isSum_44 : decode cX4_isSum 44 = .ok (.goto (-42), 3) := by decide +kernel
theorem dX4_isSum_47 : decode cX4_isSum 47 = .ok (.iconst 0, 1) := by decide +kernel
theorem dX4_isSum_48 : decode cX4_isSum 48 = .ok (.ireturn, 1) := by decide +kernel
theorem dX6_init_0 : decode cX6_init 0 = .ok (.aload_n 0, 1) := by decide +kernel
theorem dX6_init_1 : decode cX6_init 1 = .ok (.invokespecial 1, 3) := by decide +kernel
theorem dX6_init_4 : decode cX6_init 4 = .ok (.aload_n 0, 1) := by decide +kernel
theorem dX6_init_5 : decode cX6_init 5 = .ok (.iload_n 1, 1) := by decide +kernel
theorem dX6_init_6 : decode cX6_init 6 = .ok (.iconst 0, 1) := by decide +kernel
theorem dX6_init_7 : decode cX6_init 7 = .ok (.invokestatic 7, 3) := by decide +kernel
theorem dX6_init_10 : decode cX6_init 10 = .ok (.newarray .int, 2) := by decide +kernel
theorem dX6_init_12 : decode cX6_init 12 = .ok (.putfield 13, 3) := by decide +kernel
theorem dX6_init_15 : decode cX6_init 15 = .ok (.return_, 1) := by decide +kernel
theorem dX6_hasRoom_0 : decode cX6_hasRoom 0 = .ok (.aload_n 0, 1) := by decide +kernel
theorem dX6_hasRoom_1 : decode cX6_hasRoom 1 = .ok (.getfield 19, 3) := by decide +kernel
theorem dX6_hasRoom_4 : decode cX6_hasRoom 4 = .ok (.aload_n 0, 1) := by decide +kernel
theorem dX6_hasRoom_5 : decode cX6_hasRoom 5 = .ok (.getfield 13, 3) := by decide +kernel
theorem dX6_hasRoom_8 : decode cX6_hasRoom 8 = .ok (.arraylength, 1) := by decide +kernel
theorem dX6_hasRoom_9 : decode cX6_hasRoom 9 = .ok (.if_icmp .ge 7, 3) := by decide +kernel
theorem dX6_hasRoom_12 : decode cX6_hasRoom 12 = .ok (.iconst 1, 1) := by decide +kernel
theorem dX6_hasRoom_13 : decode cX6_hasRoom 13 = .ok (.goto 4, 3) := by decide +kernel
theorem dX6_hasRoom_16 : decode cX6_hasRoom 16 = .ok (.iconst 0, 1) := by decide +kernel
theorem dX6_hasRoom_17 : decode cX6_hasRoom 17 = .ok (.ireturn, 1) := by decide +kernel
set_option maxRecDepth 20000 in
theorem ggX6_take_X6_hasRoom : GoodIn wsX6_take wsX6_hasRoom := goodIn_r _ [8, 2, 1, 10, 11, 12, 13, 14, 15, 16, 17, 18] (by decide +kernel) (by decide +kernel)
set_option maxRecDepth 20000 in
theorem gX6_take_X6_hasRoom_u23X2 : GoodIn wsX6_take (va_wsU RX6 23 RX2 "SumOfTwoThatStand$Told" ⟨"SumOfTwoThatStand$Told", "hasRoom", "()Z"⟩ yX6_hasRoom wsX6_hasRoom) := goodIn_app (goodIn_of _ (by decide +kernel)) ggX6_take_X6_hasRoom
set_option maxRecDepth 20000 in
theorem gX6_take_X6_hasRoom_u23X4 : GoodIn wsX6_take (va_wsU RX6 23 RX4 "SumOfTwoThatStand$Told" ⟨"SumOfTwoThatStand$Told", "hasRoom", "()Z"⟩ yX6_hasRoom wsX6_hasRoom) := goodIn_app (goodIn_of _ (by decide +kernel)) ggX6_take_X6_hasRoom
theorem dX6_take_0 : decode cX6_take 0 = .ok (.aload_n 0, 1) := by decide +kernel
theorem dX6_take_1 : decode cX6_take 1 = .ok (.invokevirtual 23, 3) := by decide +kernel
theorem dX6_take_4 : decode cX6_take 4 = .ok (.ifCond .eq 23, 3) := by decide +kernel
theorem dX6_take_7 : decode cX6_take 7 = .ok (.aload_n 0, 1) := by decide +kernel
theorem dX6_take_8 : decode cX6_take 8 = .ok (.getfield 13, 3) := by decide +kernel
theorem dX6_take_11 : decode cX6_take 11 = .ok (.aload_n 0, 1) := by decide +kernel
theorem dX6_take_12 : decode cX6_take 12 = .ok (.getfield 19, 3) := by decide +kernel
theorem dX6_take_15 : decode cX6_take 15 = .ok (.iload_n 1, 1) := by decide +kernel
theorem dX6_take_16 : decode cX6_take 16 = .ok (.iastore, 1) := by decide +kernel
theorem dX6_take_17 : decode cX6_take 17 = .ok (.aload_n 0, 1) := by decide +kernel
theorem dX6_take_18 : decode cX6_take 18 = .ok (.dup, 1) := by decide +kernel
theorem dX6_take_19 : decode cX6_take 19 = .ok (.getfield 19, 3) := by decide +kernel
theorem dX6_take_22 : decode cX6_take 22 = .ok (.iconst 1, 1) := by decide +kernel
theorem dX6_take_23 : decode cX6_take 23 = .ok (.iadd, 1) := by decide +kernel
theorem dX6_take_24 : decode cX6_take 24 = .ok (.putfield 19, 3) := by decide +kernel
theorem dX6_take_27 : decode cX6_take 27 = .ok (.aload_n 0, 1) := by decide +kernel
theorem dX6_take_28 : decode cX6_take 28 = .ok (.getfield 19, 3) := by decide +kernel
theorem dX6_take_31 : decode cX6_take 31 = .ok (.ireturn, 1) := by decide +kernel
theorem dX6_forget_0 : decode cX6_forget 0 = .ok (.aload_n 0, 1) := by decide +kernel
theorem dX6_forget_1 : decode cX6_forget 1 = .ok (.iconst 0, 1) := by decide +kernel
theorem dX6_forget_2 : decode cX6_forget 2 = .ok (.putfield 19, 3) := by decide +kernel
theorem dX6_forget_5 : decode cX6_forget 5 = .ok (.return_, 1) := by decide +kernel
theorem dX6_howMany_0 : decode cX6_howMany 0 = .ok (.aload_n 0, 1) := by decide +kernel
theorem dX6_howMany_1 : decode cX6_howMany 1 = .ok (.getfield 19, 3) := by decide +kernel
theorem dX6_howMany_4 : decode cX6_howMany 4 = .ok (.ireturn, 1) := by decide +kernel
theorem dX6_toldAt_0 : decode cX6_toldAt 0 = .ok (.iload_n 1, 1) := by decide +kernel
theorem dX6_toldAt_1 : decode cX6_toldAt 1 = .ok (.ifCond .lt 20, 3) := by decide +kernel
theorem dX6_toldAt_4 : decode cX6_toldAt 4 = .ok (.iload_n 1, 1) := by decide +kernel
theorem dX6_toldAt_5 : decode cX6_toldAt 5 = .ok (.aload_n 0, 1) := by decide +kernel
theorem dX6_toldAt_6 : decode cX6_toldAt 6 = .ok (.getfield 19, 3) := by decide +kernel
theorem dX6_toldAt_9 : decode cX6_toldAt 9 = .ok (.if_icmp .ge 12, 3) := by decide +kernel
theorem dX6_toldAt_12 : decode cX6_toldAt 12 = .ok (.aload_n 0, 1) := by decide +kernel
theorem dX6_toldAt_13 : decode cX6_toldAt 13 = .ok (.getfield 13, 3) := by decide +kernel
theorem dX6_toldAt_16 : decode cX6_toldAt 16 = .ok (.iload_n 1, 1) := by decide +kernel
theorem dX6_toldAt_17 : decode cX6_toldAt 17 = .ok (.iaload, 1) := by decide +kernel
theorem dX6_toldAt_18 : decode cX6_toldAt 18 = .ok (.goto 4, 3) := by decide +kernel
theorem dX6_toldAt_21 : decode cX6_toldAt 21 = .ok (.iconst (-1), 1) := by decide +kernel
theorem dX6_toldAt_22 : decode cX6_toldAt 22 = .ok (.ireturn, 1) := by decide +kernel
theorem dJ9_max_7cf53_0 : decode cJ9_max_7cf53 0 = .ok (.iload_n 0, 1) := by decide +kernel
theorem dJ9_max_7cf53_1 : decode cJ9_max_7cf53 1 = .ok (.iload_n 1, 1) := by decide +kernel
theorem dJ9_max_7cf53_2 : decode cJ9_max_7cf53 2 = .ok (.if_icmp .lt 7, 3) := by decide +kernel
theorem dJ9_max_7cf53_5 : decode cJ9_max_7cf53 5 = .ok (.iload_n 0, 1) := by decide +kernel
theorem dJ9_max_7cf53_6 : decode cJ9_max_7cf53 6 = .ok (.goto 4, 3) := by decide +kernel
theorem dJ9_max_7cf53_9 : decode cJ9_max_7cf53 9 = .ok (.iload_n 1, 1) := by decide +kernel
theorem dJ9_max_7cf53_10 : decode cJ9_max_7cf53 10 = .ok (.ireturn, 1) := by decide +kernel
theorem dJ9_min_7cf53_0 : decode cJ9_min_7cf53 0 = .ok (.iload_n 0, 1) := by decide +kernel
theorem dJ9_min_7cf53_1 : decode cJ9_min_7cf53 1 = .ok (.iload_n 1, 1) := by decide +kernel
theorem dJ9_min_7cf53_2 : decode cJ9_min_7cf53 2 = .ok (.if_icmp .gt 7, 3) := by decide +kernel
theorem dJ9_min_7cf53_5 : decode cJ9_min_7cf53 5 = .ok (.iload_n 0, 1) := by decide +kernel
theorem dJ9_min_7cf53_6 : decode cJ9_min_7cf53 6 = .ok (.goto 4, 3) := by decide +kernel
theorem dJ9_min_7cf53_9 : decode cJ9_min_7cf53 9 = .ok (.iload_n 1, 1) := by decide +kernel
theorem dJ9_min_7cf53_10 : decode cJ9_min_7cf53 10 = .ok (.ireturn, 1) := by decide +kernel
set_option maxRecDepth 20000 in
theorem ggJ0_length_8abf5_J0_coder_7d493 : GoodIn wsJ0_length_8abf5 wsJ0_coder_7d493 := goodIn_r _ [6, 7, 8] (by decide +kernel) (by decide +kernel)
set_option maxRecDepth 20000 in
theorem gJ0_length_8abf5_J0_coder_7d493 : GoodIn wsJ0_length_8abf5 (wsV RJ0 335 RJ0 yJ0_coder_7d493 wsJ0_coder_7d493) := goodIn_app (goodIn_of _ (by decide +kernel)) ggJ0_length_8abf5_J0_coder_7d493
theorem dJ0_length_8abf5_0 : decode cJ0_length_8abf5 0 = .ok (.aload_n 0, 1) := by decide +kernel
theorem dJ0_length_8abf5_1 : decode cJ0_length_8abf5 1 = .ok (.getfield 9, 3) := by decide +kernel
theorem dJ0_length_8abf5_4 : decode cJ0_length_8abf5 4 = .ok (.arraylength, 1) := by decide +kernel
theorem dJ0_length_8abf5_5 : decode cJ0_length_8abf5 5 = .ok (.aload_n 0, 1) := by decide +kernel
theorem dJ0_length_8abf5_6 : decode cJ0_length_8abf5 6 = .ok (.invokevirtual 335, 3) := by decide +kernel
theorem dJ0_length_8abf5_9 : decode cJ0_length_8abf5 9 = .ok (.ishr, 1) := by decide +kernel
theorem dJ0_length_8abf5_10 : decode cJ0_length_8abf5 10 = .ok (.ireturn, 1) := by decide +kernel
theorem dJ0_isEmpty_aae02_0 : decode cJ0_isEmpty_aae02 0 = .ok (.aload_n 0, 1) := by decide +kernel
theorem dJ0_isEmpty_aae02_1 : decode cJ0_isEmpty_aae02 1 = .ok (.getfield 9, 3) := by decide +kernel
theorem dJ0_isEmpty_aae02_4 : decode cJ0_isEmpty_aae02 4 = .ok (.arraylength, 1) := by decide +kernel
theorem dJ0_isEmpty_aae02_5 : decode cJ0_isEmpty_aae02 5 = .ok (.ifCond .ne 7, 3) := by decide +kernel
theorem dJ0_isEmpty_aae02_8 : decode cJ0_isEmpty_aae02 8 = .ok (.iconst 1, 1) := by decide +kernel
theorem dJ0_isEmpty_aae02_9 : decode cJ0_isEmpty_aae02 9 = .ok (.goto 4, 3) := by decide +kernel
theorem dJ0_isEmpty_aae02_12 : decode cJ0_isEmpty_aae02 12 = .ok (.iconst 0, 1) := by decide +kernel
theorem dJ0_isEmpty_aae02_13 : decode cJ0_isEmpty_aae02 13 = .ok (.ireturn, 1) := by decide +kernel
set_option maxRecDepth 20000 in
theorem ggJ0_charAt_5068e_J0_isLatin1_aae02 : GoodIn wsJ0_charAt_5068e wsJ0_isLatin1_aae02 := goodIn_r _ [6, 7, 8] (by decide +kernel) (by decide +kernel)
set_option maxRecDepth 20000 in
theorem gJ0_charAt_5068e_J0_isLatin1_aae02 : GoodIn wsJ0_charAt_5068e (wsV RJ0 492 RJ0 yJ0_isLatin1_aae02 wsJ0_isLatin1_aae02) := goodIn_app (goodIn_of _ (by decide +kernel)) ggJ0_charAt_5068e_J0_isLatin1_aae02
set_option maxRecDepth 20000 in
theorem ggJ0_charAt_5068e_J1_charAt_3b067 : GoodIn wsJ0_charAt_5068e wsJ1_charAt_3b067 := goodIn_r _ [12, 13, 14, 5, 15, 16, 17, 18, 19, 20] (by decide +kernel) (by decide +kernel)
set_option maxRecDepth 20000 in
theorem gJ0_charAt_5068e_J1_charAt_3b067 : GoodIn wsJ0_charAt_5068e (va_wsS RJ0 495 yJ1_charAt_3b067 wsJ1_charAt_3b067) := goodIn_app (goodIn_of _ (by decide +kernel)) ggJ0_charAt_5068e_J1_charAt_3b067
set_option maxRecDepth 20000 in
theorem ggJ0_charAt_5068e_J2_charAt_3b067 : GoodIn wsJ0_charAt_5068e wsJ2_charAt_3b067 := goodIn_r _ [24, 25, 26, 23, 27, 28, 29, 30, 31, 14, 5, 15, 16, 17, 18, 19, 20, 32, 33, 34, 35, 36, 37] (by decide +kernel) (by decide +kernel)
set_option maxRecDepth 20000 in
theorem gJ0_charAt_5068e_J2_charAt_3b067 : GoodIn wsJ0_charAt_5068e (va_wsS RJ0 498 yJ2_charAt_3b067 wsJ2_charAt_3b067) := goodIn_app (goodIn_of _ (by decide +kernel)) ggJ0_charAt_5068e_J2_charAt_3b067
theorem dJ0_charAt_5068e_0 : decode cJ0_charAt_5068e 0 = .ok (.aload_n 0, 1) := by decide +kernel
theorem dJ0_charAt_5068e_1 : decode cJ0_charAt_5068e 1 = .ok (.invokevirtual 492, 3) := by decide +kernel
theorem dJ0_charAt_5068e_4 : decode cJ0_charAt_5068e 4 = .ok (.ifCond .eq 12, 3) := by decide +kernel
theorem dJ0_charAt_5068e_7 : decode cJ0_charAt_5068e 7 = .ok (.aload_n 0, 1) := by decide +kernel
theorem dJ0_charAt_5068e_8 : decode cJ0_charAt_5068e 8 = .ok (.getfield 9, 3) := by decide +kernel
theorem dJ0_charAt_5068e_11 : decode cJ0_charAt_5068e 11 = .ok (.iload_n 1, 1) := by decide +kernel
theorem dJ0_charAt_5068e_12 : decode cJ0_charAt_5068e 12 = .ok (.invokestatic 495, 3) := by decide +kernel
theorem dJ0_charAt_5068e_15 : decode cJ0_charAt_5068e 15 = .ok (.ireturn, 1) := by decide +kernel
theorem dJ0_charAt_5068e_16 : decode cJ0_charAt_5068e 16 = .ok (.aload_n 0, 1) := by decide +kernel
theorem dJ0_charAt_5068e_17 : decode cJ0_charAt_5068e 17 = .ok (.getfield 9, 3) := by decide +kernel
theorem dJ0_charAt_5068e_20 : decode cJ0_charAt_5068e 20 = .ok (.iload_n 1, 1) := by decide +kernel
theorem dJ0_charAt_5068e_21 : decode cJ0_charAt_5068e 21 = .ok (.invokestatic 498, 3) := by decide +kernel
theorem dJ0_charAt_5068e_24 : decode cJ0_charAt_5068e 24 = .ok (.ireturn, 1) := by decide +kernel
theorem dJ0_coder_7d493_0 : decode cJ0_coder_7d493 0 = .ok (.getstatic 38, 3) := by decide +kernel
theorem dJ0_coder_7d493_3 : decode cJ0_coder_7d493 3 = .ok (.ifCond .eq 10, 3) := by decide +kernel
theorem dJ0_coder_7d493_6 : decode cJ0_coder_7d493 6 = .ok (.aload_n 0, 1) := by decide +kernel
theorem dJ0_coder_7d493_7 : decode cJ0_coder_7d493 7 = .ok (.getfield 15, 3) := by decide +kernel
theorem dJ0_coder_7d493_10 : decode cJ0_coder_7d493 10 = .ok (.goto 4, 3) := by decide +kernel
theorem dJ0_coder_7d493_13 : decode cJ0_coder_7d493 13 = .ok (.iconst 1, 1) := by decide +kernel
theorem dJ0_coder_7d493_14 : decode cJ0_coder_7d493 14 = .ok (.ireturn, 1) := by decide +kernel
theorem dJ0_isLatin1_aae02_0 : decode cJ0_isLatin1_aae02 0 = .ok (.getstatic 38, 3) := by decide +kernel
theorem dJ0_isLatin1_aae02_3 : decode cJ0_isLatin1_aae02 3 = .ok (.ifCond .eq 14, 3) := by decide +kernel
theorem dJ0_isLatin1_aae02_6 : decode cJ0_isLatin1_aae02 6 = .ok (.aload_n 0, 1) := by decide +kernel
theorem dJ0_isLatin1_aae02_7 : decode cJ0_isLatin1_aae02 7 = .ok (.getfield 15, 3) := by decide +kernel
theorem dJ0_isLatin1_aae02_10 : decode cJ0_isLatin1_aae02 10 = .ok (.ifCond .ne 7, 3) := by decide +kernel
theorem dJ0_isLatin1_aae02_13 : decode cJ0_isLatin1_aae02 13 = .ok (.iconst 1, 1) := by decide +kernel
theorem dJ0_isLatin1_aae02_14 : decode cJ0_isLatin1_aae02 14 = .ok (.goto 4, 3) := by decide +kernel
theorem dJ0_isLatin1_aae02_17 : decode cJ0_isLatin1_aae02 17 = .ok (.iconst 0, 1) := by decide +kernel
theorem dJ0_isLatin1_aae02_18 : decode cJ0_isLatin1_aae02 18 = .ok (.ireturn, 1) := by decide +kernel
set_option maxRecDepth 20000 in
theorem ggJ0_checkIndex_df160_J3_checkIndex_8e157 : GoodIn wsJ0_checkIndex_df160 wsJ3_checkIndex_8e157 := goodIn_r _ [5] (by decide +kernel) (by decide +kernel)
set_option maxRecDepth 20000 in
theorem gJ0_checkIndex_df160_J3_checkIndex_8e157 : GoodIn wsJ0_checkIndex_df160 (va_wsS RJ0 1059 yJ3_checkIndex_8e157 wsJ3_checkIndex_8e157) := goodIn_app (goodIn_of _ (by decide +kernel)) ggJ0_checkIndex_df160_J3_checkIndex_8e157
theorem dJ0_checkIndex_df160_0 : decode cJ0_checkIndex_df160 0 = .ok (.iload_n 0, 1) := by decide +kernel
theorem dJ0_checkIndex_df160_1 : decode cJ0_checkIndex_df160 1 = .ok (.iload_n 1, 1) := by decide +kernel
theorem dJ0_checkIndex_df160_2 : decode cJ0_checkIndex_df160 2 = .ok (.getstatic 1053, 3) := by decide +kernel
theorem dJ0_checkIndex_df160_5 : decode cJ0_checkIndex_df160 5 = .ok (.invokestatic 1059, 3) := by decide +kernel
theorem dJ0_checkIndex_df160_8 : decode cJ0_checkIndex_df160 8 = .ok (.pop, 1) := by decide +kernel
theorem dJ0_checkIndex_df160_9 : decode cJ0_checkIndex_df160 9 = .ok (.return_, 1) := by decide +kernel
set_option maxRecDepth 20000 in
theorem ggJ1_charAt_3b067_J0_checkIndex_df160 : GoodIn wsJ1_charAt_3b067 wsJ0_checkIndex_df160 := goodIn_r _ [4, 5, 6, 7, 8, 9] (by decide +kernel) (by decide +kernel)
set_option maxRecDepth 20000 in
theorem gJ1_charAt_3b067_J0_checkIndex_df160 : GoodIn wsJ1_charAt_3b067 (va_wsS RJ1 9 yJ0_checkIndex_df160 wsJ0_checkIndex_df160) := goodIn_app (goodIn_of _ (by decide +kernel)) ggJ1_charAt_3b067_J0_checkIndex_df160
theorem dJ1_charAt_3b067_0 : decode cJ1_charAt_3b067 0 = .ok (.iload_n 1, 1) := by decide +kernel
theorem dJ1_charAt_3b067_1 : decode cJ1_charAt_3b067 1 = .ok (.aload_n 0, 1) := by decide +kernel
theorem dJ1_charAt_3b067_2 : decode cJ1_charAt_3b067 2 = .ok (.arraylength, 1) := by decide +kernel
theorem dJ1_charAt_3b067_3 : decode cJ1_charAt_3b067 3 = .ok (.invokestatic 9, 3) := by decide +kernel
theorem dJ1_charAt_3b067_6 : decode cJ1_charAt_3b067 6 = .ok (.aload_n 0, 1) := by decide +kernel
theorem dJ1_charAt_3b067_7 : decode cJ1_charAt_3b067 7 = .ok (.iload_n 1, 1) := by decide +kernel
theorem dJ1_charAt_3b067_8 : decode cJ1_charAt_3b067 8 = .ok (.baload, 1) := by decide +kernel
theorem dJ1_charAt_3b067_9 : decode cJ1_charAt_3b067 9 = .ok (.sipush 255, 3) := by decide +kernel
theorem dJ1_charAt_3b067_12 : decode cJ1_charAt_3b067 12 = .ok (.iand, 1) := by decide +kernel
theorem dJ1_charAt_3b067_13 : decode cJ1_charAt_3b067 13 = .ok (.i2c, 1) := by decide +kernel
theorem dJ1_charAt_3b067_14 : decode cJ1_charAt_3b067 14 = .ok (.ireturn, 1) := by decide +kernel
set_option maxRecDepth 20000 in
theorem ggJ2_getChar_3b067_J2_length_9d52b : GoodIn wsJ2_getChar_3b067 wsJ2_length_9d52b := goodIn_r _ [7] (by decide +kernel) (by decide +kernel)
set_option maxRecDepth 20000 in
theorem gJ2_getChar_3b067_J2_length_9d52b : GoodIn wsJ2_getChar_3b067 (va_wsS RJ2 48 yJ2_length_9d52b wsJ2_length_9d52b) := goodIn_app (goodIn_of _ (by decide +kernel)) ggJ2_getChar_3b067_J2_length_9d52b
theorem dJ2_getChar_3b067_0 : decode cJ2_getChar_3b067 0 = .ok (.getstatic 44, 3) := by decide +kernel
theorem dJ2_getChar_3b067_3 : decode cJ2_getChar_3b067 3 = .ok (.ifCond .ne 25, 3) := by decide +kernel
theorem dJ2_getChar_3b067_6 : decode cJ2_getChar_3b067 6 = .ok (.iload_n 1, 1) := by decide +kernel
theorem dJ2_getChar_3b067_7 : decode cJ2_getChar_3b067 7 = .ok (.ifCond .lt 11, 3) := by decide +kernel
theorem dJ2_getChar_3b067_10 : decode cJ2_getChar_3b067 10 = .ok (.iload_n 1, 1) := by decide +kernel
theorem dJ2_getChar_3b067_11 : decode cJ2_getChar_3b067 11 = .ok (.aload_n 0, 1) := by decide +kernel
theorem dJ2_getChar_3b067_12 : decode cJ2_getChar_3b067 12 = .ok (.invokestatic 48, 3) := by decide +kernel
theorem dJ2_getChar_3b067_15 : decode cJ2_getChar_3b067 15 = .ok (.if_icmp .lt 13, 3) := by decide +kernel
theorem dJ2_getChar_3b067_18 : decode cJ2_getChar_3b067 18 = .ok (.new 52, 3) := by decide +kernel
theorem dJ2_getChar_3b067_21 : decode cJ2_getChar_3b067 21 = .ok (.dup, 1) := by decide +kernel
theorem dJ2_getChar_3b067_22 : decode cJ2_getChar_3b067 22 = .ok (.ldc 54, 2) := by decide +kernel
theorem dJ2_getChar_3b067_24 : decode cJ2_getChar_3b067 24 = .ok (.invokespecial 56, 3) := by decide +kernel
theorem dJ2_getChar_3b067_27 : decode cJ2_getChar_3b067 27 = .ok (.athrow, 1) := by decide +kernel
theorem dJ2_getChar_3b067_28 : decode cJ2_getChar_3b067 28 = .ok (.iload_n 1, 1) := by decide +kernel
theorem dJ2_getChar_3b067_29 : decode cJ2_getChar_3b067 29 = .ok (.iconst 1, 1) := by decide +kernel
theorem dJ2_getChar_3b067_30 : decode cJ2_getChar_3b067 30 = .ok (.ishl, 1) := by decide +kernel
theorem dJ2_getChar_3b067_31 : decode cJ2_getChar_3b067 31 = .ok (.istore_n 1, 1) := by decide +kernel
theorem dJ2_getChar_3b067_32 : decode cJ2_getChar_3b067 32 = .ok (.aload_n 0, 1) := by decide +kernel
theorem dJ2_getChar_3b067_33 : decode cJ2_getChar_3b067 33 = .ok (.iload_n 1, 1) := by decide +kernel
theorem dJ2_getChar_3b067_34 : decode cJ2_getChar_3b067 34 = .ok (.iinc 1 1, 3) := by decide +kernel
theorem dJ2_getChar_3b067_37 : decode cJ2_getChar_3b067 37 = .ok (.baload, 1) := by decide +kernel
theorem dJ2_getChar_3b067_38 : decode cJ2_getChar_3b067 38 = .ok (.sipush 255, 3) := by decide +kernel
theorem dJ2_getChar_3b067_41 : decode cJ2_getChar_3b067 41 = .ok (.iand, 1) := by decide +kernel
theorem dJ2_getChar_3b067_42 : decode cJ2_getChar_3b067 42 = .ok (.getstatic 59, 3) := by decide +kernel
theorem dJ2_getChar_3b067_45 : decode cJ2_getChar_3b067 45 = .ok (.ishl, 1) := by decide +kernel
theorem dJ2_getChar_3b067_46 : decode cJ2_getChar_3b067 46 = .ok (.aload_n 0, 1) := by decide +kernel
theorem dJ2_getChar_3b067_47 : decode cJ2_getChar_3b067 47 = .ok (.iload_n 1, 1) := by decide +kernel
theorem dJ2_getChar_3b067_48 : decode cJ2_getChar_3b067 48 = .ok (.baload, 1) := by decide +kernel
theorem dJ2_getChar_3b067_49 : decode cJ2_getChar_3b067 49 = .ok (.sipush 255, 3) := by decide +kernel
theorem dJ2_getChar_3b067_52 : decode cJ2_getChar_3b067 52 = .ok (.iand, 1) := by decide +kernel
theorem dJ2_getChar_3b067_53 : decode cJ2_getChar_3b067 53 = .ok (.getstatic 63, 3) := by decide +kernel
theorem dJ2_getChar_3b067_56 : decode cJ2_getChar_3b067 56 = .ok (.ishl, 1) := by decide +kernel
theorem dJ2_getChar_3b067_57 : decode cJ2_getChar_3b067 57 = .ok (.ior, 1) := by decide +kernel
theorem dJ2_getChar_3b067_58 : decode cJ2_getChar_3b067 58 = .ok (.i2c, 1) := by decide +kernel
theorem dJ2_getChar_3b067_59 : decode cJ2_getChar_3b067 59 = .ok (.ireturn, 1) := by decide +kernel
theorem dJ2_length_9d52b_0 : decode cJ2_length_9d52b 0 = .ok (.aload_n 0, 1) := by decide +kernel
theorem dJ2_length_9d52b_1 : decode cJ2_length_9d52b 1 = .ok (.arraylength, 1) := by decide +kernel
theorem dJ2_length_9d52b_2 : decode cJ2_length_9d52b 2 = .ok (.iconst 1, 1) := by decide +kernel
theorem dJ2_length_9d52b_3 : decode cJ2_length_9d52b 3 = .ok (.ishr, 1) := by decide +kernel
theorem dJ2_length_9d52b_4 : decode cJ2_length_9d52b 4 = .ok (.ireturn, 1) := by decide +kernel
set_option maxRecDepth 20000 in
theorem ggJ2_charAt_3b067_J2_checkIndex_2214a : GoodIn wsJ2_charAt_3b067 wsJ2_checkIndex_2214a := goodIn_r _ [4, 5, 6, 3, 7, 8, 9, 10, 11, 12, 13, 14, 15, 16] (by decide +kernel) (by decide +kernel)
set_option maxRecDepth 20000 in
theorem gJ2_charAt_3b067_J2_checkIndex_2214a : GoodIn wsJ2_charAt_3b067 (va_wsS RJ2 67 yJ2_checkIndex_2214a wsJ2_checkIndex_2214a) := goodIn_app (goodIn_of _ (by decide +kernel)) ggJ2_charAt_3b067_J2_checkIndex_2214a
set_option maxRecDepth 20000 in
theorem ggJ2_charAt_3b067_J2_getChar_3b067 : GoodIn wsJ2_charAt_3b067 wsJ2_getChar_3b067 := goodIn_r _ [19, 20, 21, 22, 5, 6, 3, 7] (by decide +kernel) (by decide +kernel)
set_option maxRecDepth 20000 in
theorem gJ2_charAt_3b067_J2_getChar_3b067 : GoodIn wsJ2_charAt_3b067 (va_wsS RJ2 71 yJ2_getChar_3b067 wsJ2_getChar_3b067) := goodIn_app (goodIn_of _ (by decide +kernel)) ggJ2_charAt_3b067_J2_getChar_3b067
theorem dJ2_charAt_3b067_0 : decode cJ2_charAt_3b067 0 = .ok (.iload_n 1, 1) := by decide +kernel
theorem dJ2_charAt_3b067_1 : decode cJ2_charAt_3b067 1 = .ok (.aload_n 0, 1) := by decide +kernel
theorem dJ2_charAt_3b067_2 : decode cJ2_charAt_3b067 2 = .ok (.invokestatic 67, 3) := by decide +kernel
theorem dJ2_charAt_3b067_5 : decode cJ2_charAt_3b067 5 = .ok (.aload_n 0, 1) := by decide +kernel
theorem dJ2_charAt_3b067_6 : decode cJ2_charAt_3b067 6 = .ok (.iload_n 1, 1) := by decide +kernel
theorem dJ2_charAt_3b067_7 : decode cJ2_charAt_3b067 7 = .ok (.invokestatic 71, 3) := by decide +kernel
theorem dJ2_charAt_3b067_10 : decode cJ2_charAt_3b067 10 = .ok (.ireturn, 1) := by decide +kernel
set_option maxRecDepth 20000 in
theorem ggJ2_checkIndex_2214a_J2_length_9d52b : GoodIn wsJ2_checkIndex_2214a wsJ2_length_9d52b := goodIn_r _ [4] (by decide +kernel) (by decide +kernel)
set_option maxRecDepth 20000 in
theorem gJ2_checkIndex_2214a_J2_length_9d52b : GoodIn wsJ2_checkIndex_2214a (va_wsS RJ2 48 yJ2_length_9d52b wsJ2_length_9d52b) := goodIn_app (goodIn_of _ (by decide +kernel)) ggJ2_checkIndex_2214a_J2_length_9d52b
set_option maxRecDepth 20000 in
theorem ggJ2_checkIndex_2214a_J0_checkIndex_df160 : GoodIn wsJ2_checkIndex_2214a wsJ0_checkIndex_df160 := goodIn_r _ [8, 9, 10, 11, 12, 13] (by decide +kernel) (by decide +kernel)
set_option maxRecDepth 20000 in
theorem gJ2_checkIndex_2214a_J0_checkIndex_df160 : GoodIn wsJ2_checkIndex_2214a (va_wsS RJ2 414 yJ0_checkIndex_df160 wsJ0_checkIndex_df160) := goodIn_app (goodIn_of _ (by decide +kernel)) ggJ2_checkIndex_2214a_J0_checkIndex_df160
theorem dJ2_checkIndex_2214a_0 : decode cJ2_checkIndex_2214a 0 = .ok (.iload_n 0, 1) := by decide +kernel
theorem dJ2_checkIndex_2214a_1 : decode cJ2_checkIndex_2214a 1 = .ok (.aload_n 1, 1) := by decide +kernel
theorem dJ2_checkIndex_2214a_2 : decode cJ2_checkIndex_2214a 2 = .ok (.invokestatic 48, 3) := by decide +kernel
theorem dJ2_checkIndex_2214a_5 : decode cJ2_checkIndex_2214a 5 = .ok (.invokestatic 414, 3) := by decide +kernel
theorem dJ2_checkIndex_2214a_8 : decode cJ2_checkIndex_2214a 8 = .ok (.return_, 1) := by decide +kernel
theorem dJ3_checkIndex_8e157_0 : decode cJ3_checkIndex_8e157 0 = .ok (.iload_n 0, 1) := by decide +kernel
theorem dJ3_checkIndex_8e157_1 : decode cJ3_checkIndex_8e157 1 = .ok (.ifCond .lt 8, 3) := by decide +kernel
theorem dJ3_checkIndex_8e157_4 : decode cJ3_checkIndex_8e157 4 = .ok (.iload_n 0, 1) := by decide +kernel
theorem dJ3_checkIndex_8e157_5 : decode cJ3_checkIndex_8e157 5 = .ok (.iload_n 1, 1) := by decide +kernel
theorem dJ3_checkIndex_8e157_6 : decode cJ3_checkIndex_8e157 6 = .ok (.if_icmp .lt 10, 3) := by decide +kernel
theorem dJ3_checkIndex_8e157_9 : decode cJ3_checkIndex_8e157 9 = .ok (.aload_n 2, 1) := by decide +kernel
theorem dJ3_checkIndex_8e157_10 : decode cJ3_checkIndex_8e157 10 = .ok (.iload_n 0, 1) := by decide +kernel
theorem dJ3_checkIndex_8e157_11 : decode cJ3_checkIndex_8e157 11 = .ok (.iload_n 1, 1) := by decide +kernel
theorem dJ3_checkIndex_8e157_12 : decode cJ3_checkIndex_8e157 12 = .ok (.invokestatic 95, 3) := by decide +kernel
theorem dJ3_checkIndex_8e157_15 : decode cJ3_checkIndex_8e157 15 = .ok (.athrow, 1) := by decide +kernel
theorem dJ3_checkIndex_8e157_16 : decode cJ3_checkIndex_8e157 16 = .ok (.iload_n 0, 1) := by decide +kernel
theorem dJ3_checkIndex_8e157_17 : decode cJ3_checkIndex_8e157 17 = .ok (.ireturn, 1) := by decide +kernel
